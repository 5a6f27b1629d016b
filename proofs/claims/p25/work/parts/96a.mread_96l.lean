/-! 96a.mread 96b.mahead 96c.mtake 96d.mtype 96e.mtype2 96f.mform 96g.mopen 96h.mopd 96i.mgo 96j.mgo2 96k.mgo3 96l.mreads -/
section
/-! the model's reader: one step ahead -/
def sRm (a j : Nat) : Prop := a = 277 ∧ 3 ≤ j ∧ j ≤ 9
def TpM (M : am_M) (T : Nat → Nat) (n : Nat) : Prop := mI M 277 2 = nI n ∧ n ≤ 1800 ∧ ∀ j, j < 1800 → T j < 256 ∧ mI M 278 j = nI (T j)
def FtM (M : am_M) (T : Nat → Nat) (n k p : Nat) : Prop := TpM M T n ∧ mI M 277 8 = nI k ∧ (1 ≤ k ∧ k ≤ 5) ∧ mI M 277 9 = nI p
/-- a word as a long, eight bits a letter -/
def wdN : List Nat → Nat → Nat
  | [], a => a
  | c :: r, a => wdN r (a * 256 + c)
def wdL (l : List Nat) : Int64 := Int64.ofNat (wdN l 0)
def RdM (M : am_M) (T : Nat → Nat) (n : Nat) (t : Tok) : Prop := TpM M T n ∧ mI M 277 8 = 0 ∧ mI M 277 9 = -1 ∧ mI M 277 3 = nI t.1 ∧ mI M 277 4 = nI (tS t) ∧ mI M 277 5 = nI (tE t) ∧ (t.1 = 2 ∨ t.1 = 3 → mI M 277 6 = nI t.2.1) ∧ (t.1 = 1 → mL M 277 7 = wdL t.2.2.1) ∧ tkG T n t
def StM (M : am_M) (T : Nat → Nat) (n : Nat) : Rt → Prop
  | .inl e => FtM M T n e.1 e.2
  | .inr t => RdM M T n t
theorem TpM_g {M M' : am_M} {T : Nat → Nat} {n : Nat} {S T' : Nat → Nat → Prop} (h : TpM M T n) (hg : gF S T' M M') (hS : ∀ a j, (a = 277 ∧ j = 2) ∨ a = 278 → ¬ S a j) : TpM M' T n := by
  obtain ⟨h1, h2, h3⟩ := h
  exact ⟨by rw [hg.1 _ _ (hS _ _ (Or.inl ⟨rfl, rfl⟩))]; exact h1, h2, fun j hj => ⟨(h3 j hj).1, by rw [hg.1 _ _ (hS _ _ (Or.inr rfl))]; exact (h3 j hj).2⟩⟩
theorem RdM_g {M M' : am_M} {T : Nat → Nat} {n : Nat} {t : Tok} {S T' : Nat → Nat → Prop} (h : RdM M T n t) (hg : gF S T' M M') (hS : ∀ a j, (a = 277 ∧ 2 ≤ j ∧ j ≤ 9) ∨ a = 278 → ¬ S a j) : RdM M' T n t := by
  obtain ⟨a1, a2, a3, a4, a5, a6, a7, a8, a9⟩ := h
  have k : ∀ j, 2 ≤ j → j ≤ 9 → mI M' 277 j = mI M 277 j := fun j q1 q2 => hg.1 _ _ (hS _ _ (Or.inl ⟨rfl, q1, q2⟩))
  exact ⟨TpM_g a1 hg (fun a j q => hS a j (by omega)), by rw [k _ (by omega) (by omega)]; exact a2, by rw [k _ (by omega) (by omega)]; exact a3, by rw [k _ (by omega) (by omega)]; exact a4, by rw [k _ (by omega) (by omega)]; exact a5, by rw [k _ (by omega) (by omega)]; exact a6, fun q => by rw [k _ (by omega) (by omega)]; exact a7 q, fun q => by rw [hg.2.1 _ _ (hS _ _ (Or.inl ⟨rfl, by omega, by omega⟩))]; exact a8 q, a9⟩
theorem FtM_g {M M' : am_M} {T : Nat → Nat} {n k p : Nat} {S T' : Nat → Nat → Prop} (h : FtM M T n k p) (hg : gF S T' M M') (hS : ∀ a j, (a = 277 ∧ 2 ≤ j ∧ j ≤ 9) ∨ a = 278 → ¬ S a j) : FtM M' T n k p := by
  obtain ⟨a1, a2, a3, a4⟩ := h
  have k : ∀ j, 2 ≤ j → j ≤ 9 → mI M' 277 j = mI M 277 j := fun j q1 q2 => hg.1 _ _ (hS _ _ (Or.inl ⟨rfl, q1, q2⟩))
  exact ⟨TpM_g a1 hg (fun a j q => hS a j (by omega)), by rw [k _ (by omega) (by omega)]; exact a2, a3, by rw [k _ (by omega) (by omega)]; exact a4⟩
theorem StM_g {M M' : am_M} {T : Nat → Nat} {n : Nat} {r : Rt} {S T' : Nat → Nat → Prop} (h : StM M T n r) (hg : gF S T' M M') (hS : ∀ a j, (a = 277 ∧ 2 ≤ j ∧ j ≤ 9) ∨ a = 278 → ¬ S a j) : StM M' T n r := by
  cases r with
  | inl e => exact FtM_g h hg hS
  | inr t => exact RdM_g h hg hS
theorem m_let (d c : Nat) (M : am_M) (Q : Option Value → am_M → Prop) (hc : c < 256) : (am_E am_P0 d 172 [.int (nI c)] M Q ↔ Q (some (.int (b01 (isL c)))) M) ∧ (am_E am_P0 d 173 [.int (nI c)] M Q ↔ Q (some (.int (b01 (isD c)))) M) := by
  have ht := ni_ti (n := c) (by omega)
  constructor
  · rw [c_m_isLetter, ht]
    by_cases h : isL c = true
    · rw [h, bI_t (by rw [isL_i] at h; omega)]; exact Iff.rfl
    · have h' : isL c = false := by simpa using h
      rw [h', bI_f (by rw [isL_i] at h; omega)]; exact Iff.rfl
  · rw [c_m_isDigit, ht]
    by_cases h : isD c = true
    · rw [h, bI_t (by rw [isD_i] at h; omega)]; exact Iff.rfl
    · have h' : isD c = false := by simpa using h
      rw [h', bI_f (by rw [isD_i] at h; omega)]; exact Iff.rfl
def wdV (T : Nat → Nat) (s : Nat) : Nat → Nat
  | 0 => 0
  | i + 1 => wdV T s i * 256 + T (s + i)
theorem wdN_app (l : List Nat) (c : Nat) : ∀ a, wdN (l ++ [c]) a = wdN l a * 256 + c := by
  induction l with
  | nil => intro a; rfl
  | cons b r ih => intro a; exact ih _
theorem wdV_L (T : Nat → Nat) (s : Nat) : ∀ i, wdV T s i = wdN (letV T s i) 0 := by
  intro i
  induction i with
  | zero => rfl
  | succ i ih =>
    have e : letV T s (i + 1) = letV T s i ++ [T (s + i)] := by unfold letV; rw [List.range_succ, List.map_append]; rfl
    rw [e, wdN_app, ← ih]
    rfl
theorem wdV_lt {T : Nat → Nat} {s : Nat} : ∀ i, (∀ j, j < i → T (s + j) < 256) → wdV T s i < 256 ^ i := by
  intro i
  induction i with
  | zero => intro _; exact Nat.one_pos
  | succ i ih =>
    intro h
    have h1 := ih (fun j hj => h j (by omega))
    have h2 := h i (by omega)
    show wdV T s i * 256 + T (s + i) < 256 ^ (i + 1)
    rw [Nat.pow_succ]
    omega
theorem wd_or {w c : Nat} (hw : w < 256 ^ 5) (hc : c < 256) : (Int64.ofNat w <<< ((8 : Int32).toInt64 &&& 63)) ||| (nI c).toInt64 = Int64.ofNat (w * 256 + c) := by
  have hs : ((8 : Int32).toInt64 &&& 63).toBitVec.smod 64 = BitVec.ofNat 64 8 := by decide
  have h5 : (256 : Nat) ^ 5 = 1099511627776 := by decide
  have e1 : (nI c).toInt64 = Int64.ofNat c := by
    rw [← Int64.toInt_inj, Int32.toInt_toInt64, ni_ti (by omega), Int64.toInt_ofNat']
    have e : (Int64.size : Nat) = 18446744073709551616 := rfl
    rw [e]
    simp only [Int.bmod]
    omega
  rw [e1, ← Int64.toBitVec_inj, Int64.toBitVec_or, Int64.toBitVec_shiftLeft, hs]
  have b : ∀ n : Nat, (Int64.ofNat n).toBitVec = BitVec.ofNat 64 n := fun n => rfl
  apply BitVec.eq_of_toNat_eq
  rw [BitVec.toNat_or, b, b, b, BitVec.shiftLeft_eq', BitVec.toNat_shiftLeft, BitVec.toNat_ofNat, BitVec.toNat_ofNat, BitVec.toNat_ofNat, BitVec.toNat_ofNat, Nat.mod_eq_of_lt (a := 8) (by omega), Nat.mod_eq_of_lt (a := w) (by omega), Nat.mod_eq_of_lt (a := c) (by omega), Nat.mod_eq_of_lt (a := w * 256 + c) (by omega), Nat.shiftLeft_eq]
  have e8 : (2 : Nat) ^ 8 = 256 := by decide
  rw [e8, Nat.mod_eq_of_lt (a := w * 256) (by omega)]
  have := Nat.shiftLeft_add_eq_or_of_lt (a := w) (b := c) (i := 8) (by rw [e8]; exact hc)
  rw [Nat.shiftLeft_eq, e8] at this
  exact this.symm
theorem l_m_blank (d n : Nat) (T : Nat → Nat) (M : am_M) (Q : Option Value → am_M → Prop) (hL : Lay M) (hT : TpM M T n) : ∀ (m a : Nat), a + m = n → am_P am_P0 d (am_look tX11_ahead) 41 [.ref 277, .int (nI (run1 (fun i => isBl (T i)) m a)), am_x, am_x, am_x, am_x] [] M Q → am_P am_P0 d (am_look tX11_ahead) 5 [.ref 277, .int (nI a), am_x, am_x, am_x, am_x] [] M Q := by
  obtain ⟨t2, t3, t4⟩ := hT
  intro m
  induction m with
  | zero =>
    intro a ha hQ
    have e : a = n := by omega
    subst e
    have hle : nI a ≤ nI a := (ni_le (by omega) (by omega)).mpr (Nat.le_refl _)
    have er : run1 (fun i => isBl (T i)) 0 a = a := rfl
    rw [er] at hQ
    rw [hX11_ahead_5]
    simp +decide only [qX11_ahead_0, qX11_ahead_1, qX11_ahead_2, qX11_ahead_3, qX11_ahead_4, lm hL, t2, am_w1_i, am_w1_r, am_w1_x, am_w1_l, am_w1_w, va_rf_s, am_push_n, am_push_s, am_cs_0, am_cs_i, am_cs_l, am_cs_r, m_uI_K, m_uI_N, m_uI_R, m_uI_L, m_uI_I, m_uL_K, m_uL_N, m_uL_R, m_uL_I, m_uL_L, m_uR_K, m_uR_N, m_uR_I, m_uR_L, m_uR_R, true_and, and_true, true_implies, false_implies, not_true_eq_false, not_false_eq_true, if_true, if_false, false_and, and_false] at hQ ⊢
    rw [br_p hle]
    exact hQ
  | succ m ih =>
    intro a ha hQ
    obtain ⟨t5, t6⟩ := t4 a (by omega)
    have hlt : ¬ nI n ≤ nI a := by rw [ni_le (by omega) (by omega)]; omega
    have e10 : nI (T a) = 10 ↔ T a = 10 := by rw [show (10 : Int32) = nI 10 from rfl, ni_eq (by omega) (by omega)]
    have e32 : nI (T a) = 32 ↔ T a = 32 := by rw [show (32 : Int32) = nI 32 from rfl, ni_eq (by omega) (by omega)]
    have er : run1 (fun i => isBl (T i)) (m + 1) a = if isBl (T a) = true then run1 (fun i => isBl (T i)) m (a + 1) else a := rfl
    rw [er] at hQ
    by_cases c : isBl (T a) = true
    · rw [if_pos c] at hQ
      have h0 := ih (a + 1) (by omega) hQ
      rw [hX11_ahead_5]
      simp +decide (disch := omega) only [qX11_ahead_0, qX11_ahead_1, qX11_ahead_2, qX11_ahead_3, qX11_ahead_4, lm hL, t2, t6, e10, e32, ni_in_t, ni_tn, ni_add1, am_w1_i, am_w1_r, am_w1_x, am_w1_l, am_w1_w, va_rf_s, am_push_n, am_push_s, am_cs_0, am_cs_i, am_cs_l, am_cs_r, m_uI_K, m_uI_N, m_uI_R, m_uI_L, m_uI_I, m_uL_K, m_uL_N, m_uL_R, m_uL_I, m_uL_L, m_uR_K, m_uR_N, m_uR_I, m_uR_L, m_uR_R, true_and, and_true, true_implies, false_implies, not_true_eq_false, not_false_eq_true, if_true, if_false, false_and, and_false]
      rw [br_n hlt]
      rcases isBl_i.mp c with q | q
      · rw [br_n (by omega), br_r q]; exact h0
      · rw [br_p q]; exact h0
    · rw [if_neg c] at hQ
      rw [isBl_i] at c
      rw [hX11_ahead_5]
      simp +decide (disch := omega) only [qX11_ahead_0, qX11_ahead_1, qX11_ahead_2, qX11_ahead_3, qX11_ahead_4, lm hL, t2, t6, e10, e32, ni_in_t, ni_tn, ni_add1, am_w1_i, am_w1_r, am_w1_x, am_w1_l, am_w1_w, va_rf_s, am_push_n, am_push_s, am_cs_0, am_cs_i, am_cs_l, am_cs_r, m_uI_K, m_uI_N, m_uI_R, m_uI_L, m_uI_I, m_uL_K, m_uL_N, m_uL_R, m_uL_I, m_uL_L, m_uR_K, m_uR_N, m_uR_I, m_uR_L, m_uR_R, true_and, and_true, true_implies, false_implies, not_true_eq_false, not_false_eq_true, if_true, if_false, false_and, and_false] at hQ ⊢
      rw [br_n hlt, br_n (by omega), br_q (by omega)]
      exact hQ
/-- what is known while a word or number is read: i signs of it -/
def LtM (M : am_M) (T : Nat → Nat) (k s i : Nat) (pre : Bool) : Prop := (mI M 277 8 = if pre = true ∨ mst k < i then 1 else 0) ∧ (mI M 277 9 = if pre = true then nI s else if mst k < i then nI (s + mst k) else -1) ∧ (pre = false → i ≤ mst k → (k = 1 → mL M 277 7 = Int64.ofNat (wdV T s i)) ∧ (k = 2 → mI M 277 6 = nI (numV T s i)))
def sLm (a j : Nat) : Prop := a = 277 ∧ 6 ≤ j ∧ j ≤ 9
theorem l_m_letters (d n s k : Nat) (T : Nat → Nat) (pre : Bool) (M0 : am_M) (Q : Option Value → am_M → Prop) (hL : Lay M0) (hT : TpM M0 T n) (hk : k = 1 ∨ k = 2) (hsn : s ≤ n)
    (hE : ∀ M' i, gF sLm nT M0 M' → LtM M' T k s i pre → s + i = run1 (fun i => if k = 1 then isL (T i) else isD (T i)) (n - s) s → Q none (uI M' 277 5 (nI (s + i)))) :
    ∀ (m i : Nat), s + i + m = n → (∀ j, j < i → kdN (T (s + j)) = k) → ∀ (M : am_M), gF sLm nT M0 M → LtM M T k s i pre → am_P am_P0 (d + 1) (am_look tX11_ahead) 200 [.ref 277, .int (nI (s + i)), .int (b01 (decide (k = 1))), .int (b01 (decide (k = 2))), .int (nI (mst k)), .int (nI i)] [] M Q := by
  have hms : mst k ≤ 6 := by unfold mst; split <;> omega
  intro m
  induction m with
  | zero =>
    intro i hi hall M hM hlt
    obtain ⟨t2, t3, t4⟩ := TpM_g hT hM (fun a j q w => by unfold sLm at w; omega)
    have hle : nI n ≤ nI (s + i) := (ni_le (by omega) (by omega)).mpr (by omega)
    have er := run1_skip (p := fun i => if k = 1 then isL (T i) else isD (T i)) (s := s) i 0 (fun j hj => (kdN_p hk).mp (hall j hj))
    have h0 := hE M i hM hlt (by rw [show n - s = i + 0 by omega, er]; rfl)
    rw [hX11_ahead_200]
    simp +decide only [qX11_ahead_0, qX11_ahead_1, qX11_ahead_2, qX11_ahead_3, qX11_ahead_4, lm (gF_LayN hM hL), t2, am_w1_i, am_w1_r, am_w1_x, am_w1_l, am_w1_w, va_rf_s, am_push_n, am_push_s, am_cs_0, am_cs_i, am_cs_l, am_cs_r, m_uI_K, m_uI_N, m_uI_R, m_uI_L, m_uI_I, m_uL_K, m_uL_N, m_uL_R, m_uL_I, m_uL_L, m_uR_K, m_uR_N, m_uR_I, m_uR_L, m_uR_R, true_and, and_true, true_implies, false_implies, not_true_eq_false, not_false_eq_true, if_true, if_false, false_and, and_false]
    rw [br_p hle]
    exact h0
  | succ m ih =>
    intro i hi hall M hM hlt
    obtain ⟨t2, t3, t4⟩ := TpM_g hT hM (fun a j q w => by unfold sLm at w; omega)
    obtain ⟨t5, t6⟩ := t4 (s + i) (by omega)
    have hLM := gF_LayN hM hL
    have hlt' : ¬ nI n ≤ nI (s + i) := by rw [ni_le (by omega) (by omega)]; omega
    have er := run1_skip (p := fun i => if k = 1 then isL (T i) else isD (T i)) (s := s) i (m + 1) (fun j hj => (kdN_p hk).mp (hall j hj))
    have er2 : run1 (fun i => if k = 1 then isL (T i) else isD (T i)) (m + 1) (s + i) = if (if k = 1 then isL (T (s + i)) else isD (T (s + i))) = true then run1 (fun i => if k = 1 then isL (T i) else isD (T i)) m (s + i + 1) else s + i := rfl
    have ens : n - s = i + (m + 1) := by omega
    have ml := fun Q => (m_let d (T (s + i)) M Q t5).1
    have md := fun Q => (m_let d (T (s + i)) M Q t5).2
    by_cases c : kdN (T (s + i)) = k
    · have hall' : ∀ j, j < i + 1 → kdN (T (s + j)) = k := fun j hj => by
        by_cases e : j = i
        · subst e; exact c
        · exact hall j (by omega)
      -- the fault of too many
      have step : ∀ (M1 : am_M), gF sLm nT M M1 → (mI M1 277 8 = if pre = true ∨ mst k < i + 1 then 1 else 0) → (mI M1 277 9 = if pre = true then nI s else if mst k < i + 1 then nI (s + mst k) else -1) → mL M1 277 7 = mL M 277 7 → mI M1 277 6 = mI M 277 6 → am_P am_P0 (d + 1) (am_look tX11_ahead) 252 [.ref 277, .int (nI (s + i)), .int (b01 (decide (k = 1))), .int (b01 (decide (k = 2))), .int (nI (mst k)), .int (nI i)] [] M1 Q := by
        intro M1 g1 q8 q9 q7 q6
        have L1 := gF_LayN g1 hLM
        obtain ⟨u2, u3, u4⟩ := TpM_g (TpM_g hT hM (fun a j q w => by unfold sLm at w; omega)) g1 (fun a j q w => by unfold sLm at w; omega)
        obtain ⟨u5, u6⟩ := u4 (s + i) (by omega)
        by_cases cm : i < mst k
        · have hcm : ¬ nI (mst k) ≤ nI i := by rw [ni_le (by omega) (by omega)]; omega
          rcases hk with rfl | rfl
          · have h7 : pre = false → mL M1 277 7 = Int64.ofNat (wdV T s i) := fun hp => by rw [q7]; exact (hlt.2.2 hp (by omega)).1 rfl
            have hw5 : wdV T s i < 256 ^ 5 := by
              have h1 := wdV_lt (T := T) (s := s) i (fun j hj => (u4 (s + j) (by omega)).1)
              have h2 : (256 : Nat) ^ i ≤ 256 ^ 5 := Nat.pow_le_pow_right (by omega) (by have : mst 1 = 6 := rfl; omega)
              omega
            have h0 := ih (i + 1) (by omega) hall' (uL M1 277 7 ((mL M1 277 7 <<< ((8 : Int32).toInt64 &&& 63)) ||| (nI (T (s + i))).toInt64)) (gF_trans hM (gF_trans g1 (gF_l _ ⟨rfl, by omega, by omega⟩))) ⟨q8, q9, fun hp hi' => ⟨fun _ => by rw [m_uL_L, if_pos ⟨rfl, rfl⟩, h7 hp, wd_or hw5 u5]; rfl, fun q => by omega⟩⟩
            simp +decide (disch := omega) only [qX11_ahead_0, qX11_ahead_1, qX11_ahead_2, qX11_ahead_3, qX11_ahead_4, lm L1, u6, b01, ni_in_t, ni_tn, ni_add1, am_w1_i, am_w1_r, am_w1_x, am_w1_l, am_w1_w, va_rf_s, am_push_n, am_push_s, am_cs_0, am_cs_i, am_cs_l, am_cs_r, m_uI_K, m_uI_N, m_uI_R, m_uI_L, m_uI_I, m_uL_K, m_uL_N, m_uL_R, m_uL_I, m_uL_L, m_uR_K, m_uR_N, m_uR_I, m_uR_L, m_uR_R, true_and, and_true, true_implies, false_implies, not_true_eq_false, not_false_eq_true, if_true, if_false, false_and, and_false] at h0 ⊢
            rw [br_n hcm, br_n hcm]
            exact h0
          · have h6 : pre = false → mI M1 277 6 = nI (numV T s i) := fun hp => by rw [q6]; exact (hlt.2.2 hp (by omega)).2 rfl
            have hD1 := isD_i.mp (kdN_2.mp c)
            have e1 : ∀ x, x = nI (numV T s i) → 10 * x + nI (T (s + i)) - 48 = nI (numV T s (i + 1)) := fun x hx => by
              rw [hx, show (10 : Int32) = nI 10 from rfl, ni_mul, ni_add, show (48 : Int32) = nI 48 from rfl, ni_sub (by omega)]
              congr 1
              show 10 * numV T s i + T (s + i) - 48 = numV T s i * 10 + (T (s + i) - 48)
              omega
            have h0 := ih (i + 1) (by omega) hall' (uI M1 277 6 (10 * mI M1 277 6 + nI (T (s + i)) - 48)) (gF_trans hM (gF_trans g1 (gF_i _ ⟨rfl, by omega, by omega⟩))) ⟨by rw [m_uI_I, if_neg (by omega)]; exact q8, by rw [m_uI_I, if_neg (by omega)]; exact q9, fun hp hi' => ⟨fun q => by omega, fun _ => by rw [m_uI_I, if_pos ⟨rfl, rfl⟩]; exact e1 _ (h6 hp)⟩⟩
            simp +decide (disch := omega) only [qX11_ahead_0, qX11_ahead_1, qX11_ahead_2, qX11_ahead_3, qX11_ahead_4, lm L1, u6, b01, ni_in_t, ni_tn, ni_add1, am_w1_i, am_w1_r, am_w1_x, am_w1_l, am_w1_w, va_rf_s, am_push_n, am_push_s, am_cs_0, am_cs_i, am_cs_l, am_cs_r, m_uI_K, m_uI_N, m_uI_R, m_uI_L, m_uI_I, m_uL_K, m_uL_N, m_uL_R, m_uL_I, m_uL_L, m_uR_K, m_uR_N, m_uR_I, m_uR_L, m_uR_R, true_and, and_true, true_implies, false_implies, not_true_eq_false, not_false_eq_true, if_true, if_false, false_and, and_false] at h0 ⊢
            rw [br_n hcm, br_n hcm]
            exact h0
        · have hcm : nI (mst k) ≤ nI i := (ni_le (by omega) (by omega)).mpr (by omega)
          have h0 := ih (i + 1) (by omega) hall' M1 (gF_trans hM g1) ⟨q8, q9, fun hp hi' => by omega⟩
          simp +decide (disch := omega) only [qX11_ahead_0, qX11_ahead_1, qX11_ahead_2, qX11_ahead_3, qX11_ahead_4, lm L1, ni_add1, am_w1_i, am_w1_r, am_w1_x, am_w1_l, am_w1_w, va_rf_s, am_push_n, am_push_s, am_cs_0, am_cs_i, am_cs_l, am_cs_r, m_uI_K, m_uI_N, m_uI_R, m_uI_L, m_uI_I, m_uL_K, m_uL_N, m_uL_R, m_uL_I, m_uL_L, m_uR_K, m_uR_N, m_uR_I, m_uR_L, m_uR_R, true_and, and_true, true_implies, false_implies, not_true_eq_false, not_false_eq_true, if_true, if_false, false_and, and_false] at h0 ⊢
          rw [br_p hcm, br_p hcm]
          exact h0
      have s252 : am_P am_P0 (d + 1) (am_look tX11_ahead) 239 [.ref 277, .int (nI (s + i)), .int (b01 (decide (k = 1))), .int (b01 (decide (k = 2))), .int (nI (mst k)), .int (nI i)] [] M Q := by
        obtain ⟨l8, l9, -⟩ := hlt
        by_cases ce : i = mst k
        · have hbl := fun Q => c_m_blame d 1 (nI (s + i)) M Q hLM
          have hce : (nI i = nI (mst k)) = True := eq_true (by rw [ce])
          by_cases hp : pre = true
          · rw [if_pos (Or.inl hp)] at l8
            have h0 := step M (gF_refl _ _ _) (by rw [if_pos (Or.inl hp)]; exact l8) (by rw [l9, if_pos hp, if_pos hp]) rfl rfl
            have hpos : (0 : Int32) < 1 := by decide
            simp +decide (disch := omega) only [qX11_ahead_0, qX11_ahead_1, qX11_ahead_2, qX11_ahead_3, qX11_ahead_4, lm hLM, hbl, l8, hpos, hce, am_w1_i, am_w1_r, am_w1_x, am_w1_l, am_w1_w, va_rf_s, am_push_n, am_push_s, am_cs_0, am_cs_i, am_cs_l, am_cs_r, m_uI_K, m_uI_N, m_uI_R, m_uI_L, m_uI_I, m_uL_K, m_uL_N, m_uL_R, m_uL_I, m_uL_L, m_uR_K, m_uR_N, m_uR_I, m_uR_L, m_uR_R, true_and, and_true, true_implies, false_implies, not_true_eq_false, not_false_eq_true, if_true, if_false, false_and, and_false] at h0 ⊢
            exact h0
          · have hp' : pre = false := by simpa using hp
            rw [if_neg (fun q => q.elim hp (fun w => by omega))] at l8
            have h0 := step (uI (uI M 277 8 1) 277 9 (nI (s + i))) (gF_trans (gF_i _ ⟨rfl, by omega, by omega⟩) (gF_i _ ⟨rfl, by omega, by omega⟩)) (by rw [if_pos (Or.inr (by omega))]; simp [m_uI_I]) (by rw [if_neg hp, if_pos (by omega), ← ce]; simp [m_uI_I]) rfl (by simp [m_uI_I])
            have hpos : ¬ (0 : Int32) < 0 := by decide
            have L1 : Lay (uI (uI M 277 8 1) 277 9 (nI (s + i))) := hLM
            simp +decide (disch := omega) only [qX11_ahead_0, qX11_ahead_1, qX11_ahead_2, qX11_ahead_3, qX11_ahead_4, lm hLM, lm L1, hbl, l8, hpos, hce, am_w1_i, am_w1_r, am_w1_x, am_w1_l, am_w1_w, va_rf_s, am_push_n, am_push_s, am_cs_0, am_cs_i, am_cs_l, am_cs_r, m_uI_K, m_uI_N, m_uI_R, m_uI_L, m_uI_I, m_uL_K, m_uL_N, m_uL_R, m_uL_I, m_uL_L, m_uR_K, m_uR_N, m_uR_I, m_uR_L, m_uR_R, true_and, and_true, true_implies, false_implies, not_true_eq_false, not_false_eq_true, if_true, if_false, false_and, and_false] at h0 ⊢
            exact h0
        · have hne : ¬ nI i = nI (mst k) := fun q => ce ((ni_eq (by omega) (by omega)).mp q)
          have h0 := step M (gF_refl _ _ _) (by
            rw [l8]
            by_cases h1 : pre = true ∨ mst k < i
            · rw [if_pos h1, if_pos (h1.imp id (fun w => by omega))]
            · rw [if_neg h1, if_neg (fun q => h1 (q.imp id (fun w => by omega)))]) (by
            rw [l9]
            by_cases hp : pre = true
            · rw [if_pos hp, if_pos hp]
            · rw [if_neg hp, if_neg hp]
              by_cases h1 : mst k < i
              · rw [if_pos h1, if_pos (by omega)]
              · rw [if_neg h1, if_neg (by omega)]) rfl rfl
          simp +decide (disch := omega) only [qX11_ahead_0, qX11_ahead_1, qX11_ahead_2, qX11_ahead_3, qX11_ahead_4, lm hLM, am_w1_i, am_w1_r, am_w1_x, am_w1_l, am_w1_w, va_rf_s, am_push_n, am_push_s, am_cs_0, am_cs_i, am_cs_l, am_cs_r, m_uI_K, m_uI_N, m_uI_R, m_uI_L, m_uI_I, m_uL_K, m_uL_N, m_uL_R, m_uL_I, m_uL_L, m_uR_K, m_uR_N, m_uR_I, m_uR_L, m_uR_R, true_and, and_true, true_implies, false_implies, not_true_eq_false, not_false_eq_true, if_true, if_false, false_and, and_false] at h0 ⊢
          rw [br_p hne]
          exact h0
      rw [hX11_ahead_200]
      rcases hk with rfl | rfl
      · have c1 : isL (T (s + i)) = true := kdN_1.mp c
        simp +decide (disch := omega) only [qX11_ahead_0, qX11_ahead_1, qX11_ahead_2, qX11_ahead_3, qX11_ahead_4, lm hLM, t2, t6, ml, c1, b01, ni_in_t, ni_tn, am_w1_i, am_w1_r, am_w1_x, am_w1_l, am_w1_w, va_rf_s, am_push_n, am_push_s, am_cs_0, am_cs_i, am_cs_l, am_cs_r, m_uI_K, m_uI_N, m_uI_R, m_uI_L, m_uI_I, m_uL_K, m_uL_N, m_uL_R, m_uL_I, m_uL_L, m_uR_K, m_uR_N, m_uR_I, m_uR_L, m_uR_R, true_and, and_true, true_implies, false_implies, not_true_eq_false, not_false_eq_true, if_true, if_false, false_and, and_false] at s252 ⊢
        rw [br_n hlt']
        exact s252
      · have c1 : isD (T (s + i)) = true := kdN_2.mp c
        simp +decide (disch := omega) only [qX11_ahead_0, qX11_ahead_1, qX11_ahead_2, qX11_ahead_3, qX11_ahead_4, lm hLM, t2, t6, md, c1, b01, ni_in_t, ni_tn, am_w1_i, am_w1_r, am_w1_x, am_w1_l, am_w1_w, va_rf_s, am_push_n, am_push_s, am_cs_0, am_cs_i, am_cs_l, am_cs_r, m_uI_K, m_uI_N, m_uI_R, m_uI_L, m_uI_I, m_uL_K, m_uL_N, m_uL_R, m_uL_I, m_uL_L, m_uR_K, m_uR_N, m_uR_I, m_uR_L, m_uR_R, true_and, and_true, true_implies, false_implies, not_true_eq_false, not_false_eq_true, if_true, if_false, false_and, and_false] at s252 ⊢
        rw [br_n hlt']
        exact s252
    · have cp : ¬ (if k = 1 then isL (T (s + i)) else isD (T (s + i))) = true := fun q => c ((kdN_p hk).mpr q)
      have h0 := hE M i hM hlt (by rw [ens, er, er2, if_neg cp])
      rw [hX11_ahead_200]
      rcases hk with rfl | rfl
      · have c1 : isL (T (s + i)) = false := by rw [if_pos rfl] at cp; simpa using cp
        simp +decide (disch := omega) only [qX11_ahead_0, qX11_ahead_1, qX11_ahead_2, qX11_ahead_3, qX11_ahead_4, lm hLM, t2, t6, ml, c1, b01, ni_in_t, ni_tn, am_w1_i, am_w1_r, am_w1_x, am_w1_l, am_w1_w, va_rf_s, am_push_n, am_push_s, am_cs_0, am_cs_i, am_cs_l, am_cs_r, m_uI_K, m_uI_N, m_uI_R, m_uI_L, m_uI_I, m_uL_K, m_uL_N, m_uL_R, m_uL_I, m_uL_L, m_uR_K, m_uR_N, m_uR_I, m_uR_L, m_uR_R, true_and, and_true, true_implies, false_implies, not_true_eq_false, not_false_eq_true, if_true, if_false, false_and, and_false]
        rw [br_n hlt']
        exact h0
      · have c1 : isD (T (s + i)) = false := by rw [if_neg (by omega)] at cp; simpa using cp
        simp +decide (disch := omega) only [qX11_ahead_0, qX11_ahead_1, qX11_ahead_2, qX11_ahead_3, qX11_ahead_4, lm hLM, t2, t6, md, c1, b01, ni_in_t, ni_tn, am_w1_i, am_w1_r, am_w1_x, am_w1_l, am_w1_w, va_rf_s, am_push_n, am_push_s, am_cs_0, am_cs_i, am_cs_l, am_cs_r, m_uI_K, m_uI_N, m_uI_R, m_uI_L, m_uI_I, m_uL_K, m_uL_N, m_uL_R, m_uL_I, m_uL_L, m_uR_K, m_uR_N, m_uR_I, m_uR_L, m_uR_R, true_and, and_true, true_implies, false_implies, not_true_eq_false, not_false_eq_true, if_true, if_false, false_and, and_false]
        rw [br_n hlt']
        exact h0
end
section
/-! the model's reader: ahead -/
theorem c_m_ahead (d n : Nat) (T : Nat → Nat) (a : Nat) (M : am_M) (Q : Option Value → am_M → Prop) (hL : Lay M) (hT : TpM M T n) (h8 : mI M 277 8 = 0) (h9 : mI M 277 9 = -1) (h5 : mI M 277 5 = nI a) (ha : a ≤ n)
    (hF : (tk T n a).1 = 4 → ∀ M', gF sRm nT M M' → FtM M' T n 1 (tS (tk T n a)) → Q none M')
    (hN : ¬ (tk T n a).1 = 4 → ∀ M', gF sRm nT M M' → RdM M' T n (tk T n a) → Q none M') : am_E am_P0 (d + 1) 174 [.ref 277] M Q := by
  obtain ⟨t2, t3, t4⟩ := id hT
  obtain ⟨s, hs⟩ : ∃ s, s = run1 (fun i => isBl (T i)) (n - a) a := ⟨_, rfl⟩
  have hrl := run1_le (fun i => isBl (T i)) (n - a) a
  rw [← hs] at hrl
  rw [eX11_ahead]
  simp +decide only [qX11_ahead_0, qX11_ahead_1, qX11_ahead_2, qX11_ahead_3, qX11_ahead_4, lm hL, h5, am_w1_i, am_w1_r, am_w1_x, am_w1_l, am_w1_w, va_rf_s, am_push_n, am_push_s, am_cs_0, am_cs_i, am_cs_l, am_cs_r, m_uI_K, m_uI_N, m_uI_R, m_uI_L, m_uI_I, m_uL_K, m_uL_N, m_uL_R, m_uL_I, m_uL_L, m_uR_K, m_uR_N, m_uR_I, m_uR_L, m_uR_R, true_and, and_true, true_implies, false_implies, not_true_eq_false, not_false_eq_true, if_true, if_false, false_and, and_false]
  refine l_m_blank (d + 1) n T M Q hL hT (n - a) a (by omega) ?_
  rw [← hs]
  by_cases cn : n ≤ s
  · have hsn : s = n := by omega
    have etk := tk_ge hs cn
    have G : gF sRm nT M (uI (uI (uI M 277 4 (nI s)) 277 5 (nI s)) 277 3 0) := gF_trans (gF_i _ ⟨rfl, by omega, by omega⟩) (gF_trans (gF_i _ ⟨rfl, by omega, by omega⟩) (gF_i _ ⟨rfl, by omega, by omega⟩))
    have h0 := hN (by rw [etk]; exact (by decide : ¬ (0 : Nat) = 4)) _ G (by
      rw [etk]
      refine ⟨TpM_g hT G (fun a j q w => by unfold sRm at w; omega), by simp [m_uI_I, h8], by simp [m_uI_I, h9], by simp [m_uI_I]; rfl, by simp [m_uI_I, tS], by simp [m_uI_I, tE], fun q => by dsimp only at q; omega, fun q => by dsimp only at q; omega, ?_⟩
      exact ⟨by show s ≤ n; omega, Nat.le_refl _, by show 0 ≤ 3; omega, fun q => by dsimp only at q; omega, fun _ => Or.inr (Or.inl hsn), fun q => by dsimp only at q; omega, fun q => by dsimp only at q; omega, fun q => by dsimp only at q; omega, fun q => absurd rfl q⟩)
    have hlt : ¬ nI s < nI n := by rw [ni_lt (by omega) (by omega)]; omega
    simp +decide (disch := omega) only [qX11_ahead_0, qX11_ahead_1, qX11_ahead_2, qX11_ahead_3, qX11_ahead_4, lm hL, t2, ni_in_t, ni_tn, ni_add1, am_w1_i, am_w1_r, am_w1_x, am_w1_l, am_w1_w, va_rf_s, am_push_n, am_push_s, am_cs_0, am_cs_i, am_cs_l, am_cs_r, m_uI_K, m_uI_N, m_uI_R, m_uI_L, m_uI_I, m_uL_K, m_uL_N, m_uL_R, m_uL_I, m_uL_L, m_uR_K, m_uR_N, m_uR_I, m_uR_L, m_uR_R, true_and, and_true, true_implies, false_implies, not_true_eq_false, not_false_eq_true, if_true, if_false, false_and, and_false]
    rw [br_n hlt]
    exact h0
  · have hlt : nI s < nI n := by rw [ni_lt (by omega) (by omega)]; omega
    obtain ⟨v5, v6⟩ := t4 s (by omega)
    obtain ⟨M1, hM1⟩ : ∃ M1, M1 = uI (uI (uI M 277 4 (nI s)) 277 5 (nI s)) 277 3 0 := ⟨_, rfl⟩
    have G1 : gF sRm nT M M1 := by rw [hM1]; exact gF_trans (gF_i _ ⟨rfl, by omega, by omega⟩) (gF_trans (gF_i _ ⟨rfl, by omega, by omega⟩) (gF_i _ ⟨rfl, by omega, by omega⟩))
    have L1 : Lay M1 := by rw [hM1]; exact hL
    have T1 := TpM_g hT G1 (fun a j q w => by unfold sRm at w; omega)
    have w8 : mI M1 277 8 = 0 := by rw [hM1]; simp [m_uI_I, h8]
    have w9 : mI M1 277 9 = -1 := by rw [hM1]; simp [m_uI_I, h9]
    have w4 : mI M1 277 4 = nI s := by rw [hM1]; simp [m_uI_I]
    obtain ⟨u2, u3, u4⟩ := id T1
    obtain ⟨x5, x6⟩ := u4 s (by omega)
    have ml := fun Q => (m_let d (T s) M1 Q x5).1
    have md := fun Q => (m_let d (T s) M1 Q x5).2
    by_cases cA : isA (T s) = true
    · have h12 : kdN (T s) = 1 ∨ kdN (T s) = 2 := by
        rcases isA_i.mp cA with q | q
        · exact Or.inl (kdN_1.mpr q)
        · exact Or.inr (kdN_2.mpr q)
      obtain ⟨k, hk⟩ : ∃ k, k = kdN (T s) := ⟨_, rfl⟩
      rw [← hk] at h12
      have hlL : isL (T s) = decide (k = 1) := by
        by_cases c : isL (T s) = true
        · rw [c, hk, kdN_1.mpr c]; rfl
        · have h1 : ¬ k = 1 := fun q => c (kdN_1.mp (by omega))
          rw [decide_eq_false h1]; simpa using c
      have hlD : isD (T s) = decide (k = 2) := by
        by_cases c : isD (T s) = true
        · rw [c, hk, kdN_2.mpr c]; rfl
        · have h1 : ¬ k = 2 := fun q => c (kdN_2.mp (by omega))
          rw [decide_eq_false h1]; simpa using c
      have hms : (if k = 1 then (6 : Int32) else 4) = nI (mst k) := by unfold mst; split <;> rfl
      -- from the place behind the first test
      have main : ∀ (pre : Bool) (M2 : am_M), gF (fun a j => a = 277 ∧ (j = 8 ∨ j = 9)) nT M1 M2 → (pre = true ↔ 0 < s ∧ isA (T (s - 1)) = true) → (mI M2 277 8 = if pre = true then 1 else 0) → (mI M2 277 9 = if pre = true then nI s else -1) → am_P am_P0 (d + 1) (am_look tX11_ahead) 131 [.ref 277, .int (nI s), .int (b01 (decide (k = 1))), .int (b01 (decide (k = 2))), am_x, am_x] [] M2 Q := by
        intro pre M2 g2 hpre q8 q9
        have L2 := gF_LayN g2 L1
        obtain ⟨M3, hM3⟩ : ∃ M3, M3 = uI (uI (uI (uL (uI M2 277 6 0) 277 7 0) 277 3 3) 277 5 (nI (s + 1))) 277 3 (nI k) := ⟨_, rfl⟩
        have g3 : gF (fun a j => a = 277 ∧ (j = 3 ∨ j = 5 ∨ j = 6 ∨ j = 7)) nT M2 M3 := by rw [hM3]; exact gF_trans (gF_i _ ⟨rfl, by omega⟩) (gF_trans (gF_l _ ⟨rfl, by omega⟩) (gF_trans (gF_i _ ⟨rfl, by omega⟩) (gF_trans (gF_i _ ⟨rfl, by omega⟩) (gF_i _ ⟨rfl, by omega⟩))))
        have L3 := gF_LayN g3 L2
        have T3 := TpM_g (TpM_g T1 g2 (fun a j q w => by omega)) g3 (fun a j q w => by omega)
        have G3 : gF sRm nT M M3 := gF_trans G1 (gF_trans (gF_up g2 (fun a j q => by unfold sRm; omega) (fun _ _ q => q)) (gF_up g3 (fun a j q => by unfold sRm; omega) (fun _ _ q => q)))
        have i3 : mI M3 277 3 = nI k := by rw [hM3]; simp [m_uI_I]
        have i4 : mI M3 277 4 = nI s := by rw [g3.1 _ _ (by omega), g2.1 _ _ (by omega)]; exact w4
        have hlt0 : LtM M3 T k s 0 pre := by
          refine ⟨?_, ?_, fun _ _ => ⟨fun _ => ?_, fun _ => ?_⟩⟩
          · rw [g3.1 _ _ (by omega), q8]
            by_cases hp : pre = true
            · rw [if_pos hp, if_pos (Or.inl hp)]
            · rw [if_neg hp, if_neg (fun q => q.elim hp (fun w => by omega))]
          · rw [g3.1 _ _ (by omega), q9]
            by_cases hp : pre = true
            · rw [if_pos hp, if_pos hp]
            · rw [if_neg hp, if_neg hp, if_neg (by omega)]
          · rw [hM3]; simp [m_uI_L, m_uL_L]; rfl
          · rw [hM3]; simp [m_uI_I, m_uL_I]; rfl
        have hlet := l_m_letters d n s k T pre M3 Q L3 T3 h12 (by omega) (fun M4 i g4 hl4 he => ?_) (n - s) 0 (by omega) (fun j hj => by omega) M3 (gF_refl _ _ _) hlt0
        · rcases h12 with h1 | h2
          · rw [h1] at hlet hM3 ⊢
            rw [hM3] at hlet
            have e6 : (6 : Int32) = nI (mst 1) := rfl
            simp +decide (disch := omega) only [qX11_ahead_0, qX11_ahead_1, qX11_ahead_2, qX11_ahead_3, qX11_ahead_4, lm L2, b01, ni_add1, am_w1_i, am_w1_r, am_w1_x, am_w1_l, am_w1_w, va_rf_s, am_push_n, am_push_s, am_cs_0, am_cs_i, am_cs_l, am_cs_r, m_uI_K, m_uI_N, m_uI_R, m_uI_L, m_uI_I, m_uL_K, m_uL_N, m_uL_R, m_uL_I, m_uL_L, m_uR_K, m_uR_N, m_uR_I, m_uR_L, m_uR_R, true_and, and_true, true_implies, false_implies, not_true_eq_false, not_false_eq_true, if_true, if_false, false_and, and_false] at hlet ⊢
            exact hlet
          · rw [h2] at hlet hM3 ⊢
            rw [hM3] at hlet
            simp +decide (disch := omega) only [qX11_ahead_0, qX11_ahead_1, qX11_ahead_2, qX11_ahead_3, qX11_ahead_4, lm L2, b01, ni_add1, am_w1_i, am_w1_r, am_w1_x, am_w1_l, am_w1_w, va_rf_s, am_push_n, am_push_s, am_cs_0, am_cs_i, am_cs_l, am_cs_r, m_uI_K, m_uI_N, m_uI_R, m_uI_L, m_uI_I, m_uL_K, m_uL_N, m_uL_R, m_uL_I, m_uL_L, m_uR_K, m_uR_N, m_uR_I, m_uR_L, m_uR_R, true_and, and_true, true_implies, false_implies, not_true_eq_false, not_false_eq_true, if_true, if_false, false_and, and_false] at hlet ⊢
            exact hlet
        · -- the end of the word or number
          obtain ⟨l8, l9, lv⟩ := hl4
          have g5 : gF (fun a j => a = 277 ∧ j = 5) nT M4 (uI M4 277 5 (nI (s + i))) := gF_i _ ⟨rfl, rfl⟩
          have G5 : gF sRm nT M (uI M4 277 5 (nI (s + i))) := gF_trans G3 (gF_trans (gF_up g4 (fun a j q => by unfold sLm at q; unfold sRm; omega) (fun _ _ q => q)) (gF_up g5 (fun a j q => by unfold sRm; omega) (fun _ _ q => q)))
          have T5 := TpM_g (TpM_g T3 g4 (fun a j q w => by unfold sLm at w; omega)) g5 (fun a j q w => by omega)
          have k8 : mI (uI M4 277 5 (nI (s + i))) 277 8 = mI M4 277 8 := by rw [m_uI_I, if_neg (by omega)]
          have k9 : mI (uI M4 277 5 (nI (s + i))) 277 9 = mI M4 277 9 := by rw [m_uI_I, if_neg (by omega)]
          have hrn := (run1_le (fun i => if k = 1 then isL (T i) else isD (T i)) (n - s) s).2
          have hsi : s + i ≤ n := by omega
          by_cases hp : pre = true
          · have etk := tk_4 hs (by omega) cA (hpre.mp hp)
            refine hF (by rw [etk]) _ G5 (by
              rw [etk]
              exact ⟨T5, by rw [k8, l8, if_pos (Or.inl hp)]; rfl, by omega, by rw [k9, l9, if_pos hp]; rfl⟩)
          · have hp' : pre = false := by simpa using hp
            have hb : ¬ (0 < s ∧ isA (T (s - 1)) = true) := fun q => hp (hpre.mpr q)
            rw [if_neg hp] at l9
            have hi1 : 1 ≤ i := by
              have hsn : n - s = (n - s - 1) + 1 := by omega
              rw [hsn] at he
              have : run1 (fun i => if k = 1 then isL (T i) else isD (T i)) (n - s - 1 + 1) s = if (if k = 1 then isL (T s) else isD (T s)) = true then run1 (fun i => if k = 1 then isL (T i) else isD (T i)) (n - s - 1) (s + 1) else s := rfl
              rw [this, if_pos ((kdN_p h12).mp hk.symm)] at he
              have := (run1_le (fun i => if k = 1 then isL (T i) else isD (T i)) (n - s - 1) (s + 1)).1
              omega
            have hin : ∀ j, j < i → (if k = 1 then isL (T (s + j)) else isD (T (s + j))) = true := fun j hj => run1_in (fun i => if k = 1 then isL (T i) else isD (T i)) (n - s) s (s + j) (by omega) (by omega)
            have hlA : isA (T (s + i - 1)) = true := by
              have := hin (i - 1) (by omega)
              rw [show s + (i - 1) = s + i - 1 by omega] at this
              rw [isA_i]
              by_cases c : k = 1
              · rw [if_pos c] at this; exact Or.inl this
              · rw [if_neg c] at this; exact Or.inr this
            by_cases cm : mst k < i
            · rw [if_pos cm] at l9
              rw [if_pos (Or.inr cm)] at l8
              rcases h12 with h1 | h2
              · have ef : (fun i => if k = 1 then isL (T i) else isD (T i)) = fun i => isL (T i) := funext fun i => if_pos h1
                rw [ef] at he
                have h66 : mst k = 6 := by rw [h1]; rfl
                have etk := tk_w hs (by omega) cA hb (kdN_1.mp (by omega)) he
                rw [if_pos (by omega)] at etk
                exact hF (by rw [etk]) _ G5 (by rw [etk]; exact ⟨T5, by rw [k8, l8]; rfl, by omega, by rw [k9, l9, h66]; rfl⟩)
              · have ef : (fun i => if k = 1 then isL (T i) else isD (T i)) = fun i => isD (T i) := funext fun i => if_neg (by omega)
                rw [ef] at he
                have h66 : mst k = 4 := by rw [h2]; rfl
                have etk := tk_n hs (by omega) cA hb (fun q => by have := kdN_1.mpr q; omega) he
                rw [if_pos (by omega)] at etk
                exact hF (by rw [etk]) _ G5 (by rw [etk]; exact ⟨T5, by rw [k8, l8]; rfl, by omega, by rw [k9, l9, h66]; rfl⟩)
            · rw [if_neg cm] at l9
              rw [if_neg (fun q => q.elim hp cm)] at l8
              obtain ⟨lv1, lv2⟩ := lv hp' (by omega)
              have k3 : mI (uI M4 277 5 (nI (s + i))) 277 3 = nI k := by rw [m_uI_I, if_neg (by omega), g4.1 _ _ (by unfold sLm; omega)]; exact i3
              have k4 : mI (uI M4 277 5 (nI (s + i))) 277 4 = nI s := by rw [m_uI_I, if_neg (by omega), g4.1 _ _ (by unfold sLm; omega)]; exact i4
              rcases h12 with h1 | h2
              · have ef : (fun i => if k = 1 then isL (T i) else isD (T i)) = fun i => isL (T i) := funext fun i => if_pos h1
                rw [ef] at he
                have h66 : mst k = 6 := by rw [h1]; rfl
                have etk := tk_w hs (by omega) cA hb (kdN_1.mp (by omega)) he
                rw [if_neg (by omega), show s + i - s = i by omega] at etk
                have hlw : isWd (letV T s i) ∧ (letV T s i).length = i := by
                  refine ⟨fun c hc => ?_, by unfold letV; rw [List.length_map, List.length_range]⟩
                  unfold letV at hc
                  rw [List.mem_map] at hc
                  obtain ⟨j, hj, rfl⟩ := hc
                  rw [List.mem_range] at hj
                  have := hin j hj
                  rw [if_pos h1] at this
                  exact isL_i.mp this
                refine hN (by rw [etk]; exact (by decide : ¬ (1 : Nat) = 4)) _ G5 (by
                  rw [etk]
                  refine ⟨T5, by rw [k8]; exact l8, by rw [k9]; exact l9, by rw [k3, h1], k4, by rw [m_uI_I, if_pos ⟨rfl, rfl⟩]; rfl, fun q => by dsimp only at q; omega, fun _ => ?_, ?_⟩
                  · show mL M4 277 7 = wdL (letV T s i)
                    rw [lv1 h1]
                    unfold wdL
                    rw [← wdV_L]
                  · exact ⟨by show s + i ≤ n; omega, by show s ≤ s + i; omega, by show 1 ≤ 3; omega, fun _ => ⟨by show 0 < s + i; omega, hlA⟩, fun q => by dsimp only at q; omega, fun _ => ⟨hlw.1, by rw [hlw.2]; omega, by rw [hlw.2]; exact hi1⟩, fun q => by dsimp only at q; omega, fun q => by dsimp only at q; omega, fun _ => by show s < s + i; omega⟩)
              · have ef : (fun i => if k = 1 then isL (T i) else isD (T i)) = fun i => isD (T i) := funext fun i => if_neg (by omega)
                rw [ef] at he
                have h66 : mst k = 4 := by rw [h2]; rfl
                have etk := tk_n hs (by omega) cA hb (fun q => by have := kdN_1.mpr q; omega) he
                rw [if_neg (by omega), show s + i - s = i by omega] at etk
                have hok := tk_OK T n a
                rw [etk] at hok
                refine hN (by rw [etk]; exact (by decide : ¬ (2 : Nat) = 4)) _ G5 (by
                  rw [etk]
                  refine ⟨T5, by rw [k8]; exact l8, by rw [k9]; exact l9, by rw [k3, h2], k4, by rw [m_uI_I, if_pos ⟨rfl, rfl⟩]; rfl, fun _ => ?_, fun q => by dsimp only at q; omega, ?_⟩
                  · rw [m_uI_I, if_neg (by omega)]; exact lv2 h2
                  · exact ⟨by show s + i ≤ n; omega, by show s ≤ s + i; omega, by show 2 ≤ 3; omega, fun _ => ⟨by show 0 < s + i; omega, hlA⟩, fun q => by dsimp only at q; omega, fun q => by dsimp only at q; omega, fun _ => hok rfl, fun q => by dsimp only at q; omega, fun _ => by show s < s + i; omega⟩)
      have mf := main false M1 (gF_refl _ _ _)
      rw [if_neg (by decide), if_neg (by decide)] at mf
      have mt := main true (uI (uI M1 277 8 1) 277 9 (nI s)) (gF_trans (gF_i _ ⟨rfl, by omega⟩) (gF_i _ ⟨rfl, by omega⟩))
      rw [if_pos rfl, if_pos rfl] at mt
      have hbl := fun Q => c_m_blame d 1 (nI s) M1 Q L1
      have h2 : (isL (T s) || isD (T s)) = true := cA
      have hcond : ¬ b01 (decide (k = 1)) = 0 ∨ (b01 (decide (k = 1)) = 0 ∧ ¬ b01 (decide (k = 2)) = 0) := by
        rcases h12 with q | q
        · exact Or.inl (by rw [q]; decide)
        · exact Or.inr (by rw [q]; decide)
      have s93 : am_P am_P0 (d + 1) (am_look tX11_ahead) 93 [.ref 277, .int (nI s), .int (b01 (decide (k = 1))), .int (b01 (decide (k = 2))), am_x, am_x] [] M1 Q := by
        by_cases c0 : s = 0
        · have h0 := mf ⟨fun q => (by cases q), fun q => absurd q.1 (by omega)⟩ w8 w9
          have hle : nI s ≤ 0 := by rw [c0]; decide
          simp +decide (disch := omega) only [qX11_ahead_0, qX11_ahead_1, qX11_ahead_2, qX11_ahead_3, qX11_ahead_4, lm L1, am_w1_i, am_w1_r, am_w1_x, am_w1_l, am_w1_w, va_rf_s, am_push_n, am_push_s, am_cs_0, am_cs_i, am_cs_l, am_cs_r, m_uI_K, m_uI_N, m_uI_R, m_uI_L, m_uI_I, m_uL_K, m_uL_N, m_uL_R, m_uL_I, m_uL_L, m_uR_K, m_uR_N, m_uR_I, m_uR_L, m_uR_R, true_and, and_true, true_implies, false_implies, not_true_eq_false, not_false_eq_true, if_true, if_false, false_and, and_false] at h0 ⊢
          rw [br_p hle]
          exact h0
        · have hle : ¬ nI s ≤ 0 := by rw [show (0 : Int32) = nI 0 from rfl, ni_le (by omega) (by omega)]; omega
          have es1 : nI s - 1 = nI (s - 1) := by rw [show (1 : Int32) = nI 1 from rfl, ni_sub (by omega)]
          obtain ⟨y5, y6⟩ := u4 (s - 1) (by omega)
          have ml' := fun Q => (m_let d (T (s - 1)) M1 Q y5).1
          have md' := fun Q => (m_let d (T (s - 1)) M1 Q y5).2
          have hw8 : ¬ (0 : Int32) < 0 := by decide
          by_cases cb : isA (T (s - 1)) = true
          · have h0 := mt ⟨fun _ => ⟨by omega, cb⟩, fun _ => rfl⟩ (by simp [m_uI_I]) (by simp [m_uI_I])
            have LM : Lay (uI (uI M1 277 8 1) 277 9 (nI s)) := L1
            simp +decide (disch := omega) only [qX11_ahead_0, qX11_ahead_1, qX11_ahead_2, qX11_ahead_3, qX11_ahead_4, lm L1, lm LM, es1, y6, ml', md', hbl, w8, hw8, ni_in_t, ni_tn, am_w1_i, am_w1_r, am_w1_x, am_w1_l, am_w1_w, va_rf_s, am_push_n, am_push_s, am_cs_0, am_cs_i, am_cs_l, am_cs_r, m_uI_K, m_uI_N, m_uI_R, m_uI_L, m_uI_I, m_uL_K, m_uL_N, m_uL_R, m_uL_I, m_uL_L, m_uR_K, m_uR_N, m_uR_I, m_uR_L, m_uR_R, true_and, and_true, true_implies, false_implies, not_true_eq_false, not_false_eq_true, if_true, if_false, false_and, and_false] at h0 ⊢
            rw [br_n hle]
            rcases isA_i.mp cb with q | q
            · rw [q, br_p (by decide)]; exact h0
            · by_cases q2 : isL (T (s - 1)) = true
              · rw [q2, br_p (by decide)]; exact h0
              · have q2' : isL (T (s - 1)) = false := by simpa using q2
                rw [q2', br_n (by decide), q, br_n (by decide)]; exact h0
          · have h0 := mf ⟨fun q => (by cases q), fun q => absurd q.2 cb⟩ w8 w9
            rw [isA_i] at cb
            have q1 : isL (T (s - 1)) = false := by
              by_cases q : isL (T (s - 1)) = true
              · exact absurd (Or.inl q) cb
              · simpa using q
            have q2 : isD (T (s - 1)) = false := by
              by_cases q : isD (T (s - 1)) = true
              · exact absurd (Or.inr q) cb
              · simpa using q
            simp +decide (disch := omega) only [qX11_ahead_0, qX11_ahead_1, qX11_ahead_2, qX11_ahead_3, qX11_ahead_4, lm L1, es1, y6, ml', md', q1, q2, b01, ni_in_t, ni_tn, am_w1_i, am_w1_r, am_w1_x, am_w1_l, am_w1_w, va_rf_s, am_push_n, am_push_s, am_cs_0, am_cs_i, am_cs_l, am_cs_r, m_uI_K, m_uI_N, m_uI_R, m_uI_L, m_uI_I, m_uL_K, m_uL_N, m_uL_R, m_uL_I, m_uL_L, m_uR_K, m_uR_N, m_uR_I, m_uR_L, m_uR_R, true_and, and_true, true_implies, false_implies, not_true_eq_false, not_false_eq_true, if_true, if_false, false_and, and_false] at h0 ⊢
            rw [br_n hle]
            exact h0
      rw [hM1] at s93 x6 ml md
      have L1' : Lay (uI (uI (uI M 277 4 (nI s)) 277 5 (nI s)) 277 3 0) := hL
      rw [hlL] at ml
      rw [hlD] at md
      simp +decide (disch := omega) only [qX11_ahead_0, qX11_ahead_1, qX11_ahead_2, qX11_ahead_3, qX11_ahead_4, lm hL, lm L1', t2, v6, ml, md, ni_in_t, ni_tn, ni_add1, am_w1_i, am_w1_r, am_w1_x, am_w1_l, am_w1_w, va_rf_s, am_push_n, am_push_s, am_cs_0, am_cs_i, am_cs_l, am_cs_r, m_uI_K, m_uI_N, m_uI_R, m_uI_L, m_uI_I, m_uL_K, m_uL_N, m_uL_R, m_uL_I, m_uL_L, m_uR_K, m_uR_N, m_uR_I, m_uR_L, m_uR_R, true_and, and_true, true_implies, false_implies, not_true_eq_false, not_false_eq_true, if_true, if_false, false_and, and_false] at s93 ⊢
      rw [br_p hlt]
      rcases h12 with q | q
      · rw [q] at s93 ⊢
        simp +decide only [b01, am_w1_i, am_w1_r, am_w1_x, am_w1_l, am_w1_w, va_rf_s, am_push_n, am_push_s, am_cs_0, am_cs_i, am_cs_l, am_cs_r, m_uI_K, m_uI_N, m_uI_R, m_uI_L, m_uI_I, m_uL_K, m_uL_N, m_uL_R, m_uL_I, m_uL_L, m_uR_K, m_uR_N, m_uR_I, m_uR_L, m_uR_R, true_and, and_true, true_implies, false_implies, not_true_eq_false, not_false_eq_true, if_true, if_false, false_and, and_false] at s93 ⊢
        exact s93
      · rw [q] at s93 ⊢
        simp +decide only [b01, am_w1_i, am_w1_r, am_w1_x, am_w1_l, am_w1_w, va_rf_s, am_push_n, am_push_s, am_cs_0, am_cs_i, am_cs_l, am_cs_r, m_uI_K, m_uI_N, m_uI_R, m_uI_L, m_uI_I, m_uL_K, m_uL_N, m_uL_R, m_uL_I, m_uL_L, m_uR_K, m_uR_N, m_uR_I, m_uR_L, m_uR_R, true_and, and_true, true_implies, false_implies, not_true_eq_false, not_false_eq_true, if_true, if_false, false_and, and_false] at s93 ⊢
        exact s93
    · have etk := tk_sg hs (by omega) cA
      rw [isA_i] at cA
      have q1 : isL (T s) = false := by
        by_cases q : isL (T s) = true
        · exact absurd (Or.inl q) cA
        · simpa using q
      have q2 : isD (T s) = false := by
        by_cases q : isD (T s) = true
        · exact absurd (Or.inr q) cA
        · simpa using q
      have G2 : gF sRm nT M (uI (uI (uI (uL (uI (uI (uI (uI M 277 4 (nI s)) 277 5 (nI s)) 277 3 0) 277 6 0) 277 7 0) 277 3 3) 277 5 (nI (s + 1))) 277 6 (nI (T s))) := by
        rw [hM1] at G1
        exact gF_trans G1 (gF_trans (gF_i _ ⟨rfl, by omega, by omega⟩) (gF_trans (gF_l _ ⟨rfl, by omega, by omega⟩) (gF_trans (gF_i _ ⟨rfl, by omega, by omega⟩) (gF_trans (gF_i _ ⟨rfl, by omega, by omega⟩) (gF_i _ ⟨rfl, by omega, by omega⟩)))))
      have h0 := hN (by rw [etk]; exact (by decide : ¬ (3 : Nat) = 4)) _ G2 (by
        rw [etk]
        refine ⟨TpM_g hT G2 (fun a j q w => by unfold sRm at w; omega), by simp [m_uI_I, m_uL_I, h8], by simp [m_uI_I, m_uL_I, h9], by simp [m_uI_I, m_uL_I]; rfl, by simp [m_uI_I, m_uL_I, tS], by simp [m_uI_I, m_uL_I, tE], fun _ => by simp [m_uI_I], fun q => by dsimp only at q; omega, ?_⟩
        exact ⟨by show s + 1 ≤ n; omega, by show s ≤ s + 1; omega, by show 3 ≤ 3; omega, fun q => by dsimp only at q; omega, fun _ => Or.inr (Or.inr (by show ¬ isA (T (s + 1 - 1)) = true; rw [Nat.add_sub_cancel, isA_i]; exact cA)), fun q => by dsimp only at q; omega, fun q => by dsimp only at q; omega, fun _ => v5, fun _ => by show s < s + 1; omega⟩)
      rw [hM1] at x6 ml md
      have L1' : Lay (uI (uI (uI M 277 4 (nI s)) 277 5 (nI s)) 277 3 0) := hL
      simp +decide (disch := omega) only [qX11_ahead_0, qX11_ahead_1, qX11_ahead_2, qX11_ahead_3, qX11_ahead_4, lm hL, lm L1', t2, v6, ml, md, q1, q2, b01, ni_in_t, ni_tn, ni_add1, am_w1_i, am_w1_r, am_w1_x, am_w1_l, am_w1_w, va_rf_s, am_push_n, am_push_s, am_cs_0, am_cs_i, am_cs_l, am_cs_r, m_uI_K, m_uI_N, m_uI_R, m_uI_L, m_uI_I, m_uL_K, m_uL_N, m_uL_R, m_uL_I, m_uL_L, m_uR_K, m_uR_N, m_uR_I, m_uR_L, m_uR_R, true_and, and_true, true_implies, false_implies, not_true_eq_false, not_false_eq_true, if_true, if_false, false_and, and_false]
      rw [br_p hlt]
      exact h0
end
section
/-! the model's reader: what is taken -/
theorem wdN_inj : ∀ (l m : List Nat), isWd l → isWd m → l.length = m.length → ∀ a b, wdN l a = wdN m b → l = m ∧ a = b := by
  intro l
  induction l with
  | nil =>
    intro m _ _ hl a b h
    cases m with
    | nil => exact ⟨rfl, h⟩
    | cons c r => cases hl
  | cons c r ih =>
    intro m hl hm hlen a b h
    cases m with
    | nil => cases hlen
    | cons c' r' =>
      have h1 := ih r' (fun x hx => hl x (List.mem_cons_of_mem _ hx)) (fun x hx => hm x (List.mem_cons_of_mem _ hx)) (by simpa using hlen) (a * 256 + c) (b * 256 + c') h
      have hc := hl c (List.mem_cons_self ..)
      have hc' := hm c' (List.mem_cons_self ..)
      have : a = b ∧ c = c' := by have := h1.2; omega
      exact ⟨by rw [h1.1, this.2], this.1⟩
theorem wdN_bd : ∀ (l : List Nat), isWd l → ∀ a, a * 256 ^ l.length ≤ wdN l a ∧ wdN l a < (a + 1) * 256 ^ l.length := by
  intro l
  induction l with
  | nil => intro _ a; show a * 1 ≤ a ∧ a < (a + 1) * 1; omega
  | cons c r ih =>
    intro h a
    have hc := h c (List.mem_cons_self ..)
    have h1 := ih (fun x hx => h x (List.mem_cons_of_mem _ hx)) (a * 256 + c)
    show a * 256 ^ (r.length + 1) ≤ wdN r (a * 256 + c) ∧ wdN r (a * 256 + c) < (a + 1) * 256 ^ (r.length + 1)
    rw [Nat.pow_succ]
    have e1 : a * (256 ^ r.length * 256) = a * 256 * 256 ^ r.length := by rw [Nat.mul_comm (256 ^ r.length), Nat.mul_assoc]
    have e2 : (a + 1) * (256 ^ r.length * 256) = (a * 256 + 256) * 256 ^ r.length := by
      rw [Nat.mul_comm (256 ^ r.length), ← Nat.mul_assoc, Nat.add_mul a 1 256, Nat.one_mul]
    have h2 : a * 256 * 256 ^ r.length ≤ (a * 256 + c) * 256 ^ r.length := Nat.mul_le_mul_right _ (by omega)
    have h3 : (a * 256 + c + 1) * 256 ^ r.length ≤ (a * 256 + 256) * 256 ^ r.length := Nat.mul_le_mul_right _ (by omega)
    omega
set_option maxRecDepth 10000 in
theorem wdN_ge {l : List Nat} (hl : isWd l) (h1 : 1 ≤ l.length) : 256 ^ (l.length - 1) ≤ wdN l 0 := by
  cases l with
  | nil => simp at h1
  | cons c r =>
    have hc := hl c (List.mem_cons_self ..)
    have h2 := (wdN_bd r (fun x hx => hl x (List.mem_cons_of_mem _ hx)) (0 * 256 + c)).1
    show 256 ^ (r.length + 1 - 1) ≤ wdN r (0 * 256 + c)
    rw [Nat.add_sub_cancel]
    have h3 : 1 * 256 ^ r.length ≤ (0 * 256 + c) * 256 ^ r.length := Nat.mul_le_mul_right _ (by omega)
    omega
set_option maxRecDepth 10000 in
theorem wdN_len {l m : List Nat} (hl : isWd l) (hm : isWd m) (h : wdN l 0 = wdN m 0) : l.length = m.length := by
  have key : ∀ {l m : List Nat}, isWd l → isWd m → wdN l 0 = wdN m 0 → ¬ l.length < m.length := fun {l m} hl hm h q => by
    have h1 := (wdN_bd l hl 0).2
    have h2 := wdN_ge hm (by omega)
    have h3 : (256 : Nat) ^ l.length ≤ 256 ^ (m.length - 1) := Nat.pow_le_pow_right (by omega) (by omega)
    omega
  have a := key hl hm h
  have b := key hm hl h.symm
  omega
set_option maxRecDepth 10000 in
theorem wdL_eq {l m : List Nat} (hl : isWd l) (hm : isWd m) (h6 : l.length ≤ 6) (h6' : m.length ≤ 6) : wdL l = wdL m ↔ l = m := by
  have bd : ∀ {l : List Nat}, isWd l → l.length ≤ 6 → wdN l 0 < 281474976710656 := fun {l} hl h6 => by
    have h1 := (wdN_bd l hl 0).2
    have h2 : (256 : Nat) ^ l.length ≤ 256 ^ 6 := Nat.pow_le_pow_right (by omega) h6
    have h3 : (256 : Nat) ^ 6 = 281474976710656 := by decide
    omega
  constructor
  · intro h
    unfold wdL at h
    rw [← Int64.toInt_inj, Int64.toInt_ofNat', Int64.toInt_ofNat'] at h
    have b1 := bd hl h6
    have b2 := bd hm h6'
    have e : (Int64.size : Nat) = 18446744073709551616 := rfl
    rw [e] at h
    simp only [Int.bmod] at h
    have h' : wdN l 0 = wdN m 0 := by omega
    exact (wdN_inj l m hl hm (wdN_len hl hm h') 0 0 h').1
  · intro h; rw [h]
set_option maxRecDepth 10000 in
theorem own_6 : ∀ k, k < 27 → (ownW.getD k []).length ≤ 6 := by decide
theorem own_wd {k : Nat} (h : k < 27) : isWd (ownW.getD k []) := ownW_wd _ (List.mem_of_getElem? (ownW_d h))
section
variable {T : Nat → Nat} {n : Nat}
theorem RdM_3 {M : am_M} {t : Tok} (h : RdM M T n t) (k : Nat) (hk : k ≤ 3) : mI M 277 3 = nI k ↔ t.1 = k := by
  obtain ⟨-, -, -, a4, -, -, -, -, a9⟩ := h
  have := a9.2.2.1
  rw [a4, ni_eq (by omega) (by omega)]
theorem m_isWord (d k : Nat) (t : Tok) (M : am_M) (Q : Option Value → am_M → Prop) (hL : Lay M) (hR : RdM M T n t) (hk : k < 27) : am_E am_P0 d 176 [.ref 277, .long (wdL (ownW.getD k []))] M Q ↔ Q (some (.int (b01 (isW t (ownW.getD k []))))) M := by
  have h3 := RdM_3 hR 1 (by omega)
  rw [show nI 1 = (1 : Int32) from rfl] at h3
  rw [eX11_isWord]
  simp +decide only [qX11_isWord, lm hL, lgc_0, am_w1_i, am_w1_r, am_w1_x, am_w1_l, am_w1_w, va_rf_s, am_push_n, am_push_s, am_cs_0, am_cs_i, am_cs_l, am_cs_r, m_uI_K, m_uI_N, m_uI_R, m_uI_L, m_uI_I, m_uL_K, m_uL_N, m_uL_R, m_uL_I, m_uL_L, m_uR_K, m_uR_N, m_uR_I, m_uR_L, m_uR_R, true_and, and_true, true_implies, false_implies, not_true_eq_false, not_false_eq_true, if_true, if_false, false_and, and_false]
  by_cases c : t.1 = 1
  · have hw := hR.2.2.2.2.2.2.2.2.2.2.2.2.2.1 c
    have h7 := hR.2.2.2.2.2.2.2.1 c
    rw [br_r (h3.mpr c), h7]
    have he := wdL_eq hw.1 (own_wd hk) hw.2.1 (own_6 k hk)
    by_cases c2 : t.2.2.1 = ownW.getD k []
    · have : isW t (ownW.getD k []) = true := by unfold isW; rw [c, c2]; simp
      rw [br_r (he.mpr c2), this]; exact Iff.rfl
    · have : isW t (ownW.getD k []) = false := by unfold isW; rw [Bool.and_eq_false_iff]; exact Or.inr (by simpa using c2)
      rw [br_q (fun q => c2 (he.mp q)), this]; exact Iff.rfl
  · have : isW t (ownW.getD k []) = false := by unfold isW; rw [Bool.and_eq_false_iff]; exact Or.inl (by simpa using c)
    rw [br_q (fun q => c (h3.mp q)), this]; exact Iff.rfl
theorem m_isSign (d c0 : Nat) (t : Tok) (M : am_M) (Q : Option Value → am_M → Prop) (hL : Lay M) (hR : RdM M T n t) (hc : c0 < 256) : am_E am_P0 d 175 [.ref 277, .int (nI c0)] M Q ↔ Q (some (.int (b01 (isS t c0)))) M := by
  have h3 := RdM_3 hR 3 (by omega)
  rw [show nI 3 = (3 : Int32) from rfl] at h3
  rw [c_m_isSign d _ M Q hL]
  by_cases c : t.1 = 3
  · have h6 := hR.2.2.2.2.2.2.1 (Or.inr c)
    have hv := hR.2.2.2.2.2.2.2.2.2.2.2.2.2.2.2.1 c
    by_cases c2 : t.2.1 = c0
    · have : isS t c0 = true := by unfold isS; rw [c, c2]; simp
      rw [bI_t ⟨h3.mpr c, by rw [h6, c2]⟩, this]; exact Iff.rfl
    · have : isS t c0 = false := by unfold isS; rw [Bool.and_eq_false_iff]; exact Or.inr (by simpa using c2)
      rw [bI_f (fun q => c2 (by have := q.2; rw [h6, ni_eq (by omega) (by omega)] at this; exact this)), this]; exact Iff.rfl
  · have : isS t c0 = false := by unfold isS; rw [Bool.and_eq_false_iff]; exact Or.inl (by simpa using c)
    rw [bI_f (fun q => c (h3.mp q.1)), this]; exact Iff.rfl
theorem FtM_pos {M : am_M} {k p : Nat} (h : FtM M T n k p) : (0 : Int32) < mI M 277 8 ∧ ¬ mI M 277 8 = 0 ∧ ¬ mI M 277 8 ≤ 0 := by
  obtain ⟨-, h8, h15, -⟩ := h
  rw [h8]
  refine ⟨by rw [show (0 : Int32) = nI 0 from rfl, ni_lt (by omega) (by omega)]; omega, fun q => ?_, fun q => ?_⟩
  · rw [show (0 : Int32) = nI 0 from rfl, ni_eq (by omega) (by omega)] at q; omega
  · rw [show (0 : Int32) = nI 0 from rfl, ni_le (by omega) (by omega)] at q; omega
/-- blamed here -/
theorem FtM_0 {M : am_M} {t : Tok} {k : Nat} (hR : RdM M T n t) (hk : 1 ≤ k ∧ k ≤ 5) : FtM (uI (uI M 277 8 (nI k)) 277 9 (nI (tS t))) T n k (tS t) ∧ gF sRm nT M (uI (uI M 277 8 (nI k)) 277 9 (nI (tS t))) := by
  have g : gF sRm nT M (uI (uI M 277 8 (nI k)) 277 9 (nI (tS t))) := gF_trans (gF_i _ ⟨rfl, by omega, by omega⟩) (gF_i _ ⟨rfl, by omega, by omega⟩)
  exact ⟨⟨TpM_g hR.1 g (fun a j q w => by unfold sRm at w; omega), by simp [m_uI_I], hk, by simp [m_uI_I]⟩, g⟩
theorem m_blame (d k : Nat) (t : Tok) (M : am_M) (Q : Option Value → am_M → Prop) (hL : Lay M) (hR : RdM M T n t) : am_E am_P0 d 171 [.ref 277, .int (nI k), .int (nI (tS t))] M Q ↔ Q none (uI (uI M 277 8 (nI k)) 277 9 (nI (tS t))) := by
  rw [c_m_blame d _ _ M Q hL, hR.2.1, if_neg (by decide)]
theorem m_adv (d : Nat) (t : Tok) (M : am_M) (Q : Option Value → am_M → Prop) (hL : Lay M) (hR : RdM M T n t) (hQ : ∀ M', gF sRm nT M M' → StM M' T n (advR T n t) → Q none M') : am_E am_P0 (d + 1) 174 [.ref 277] M Q := by
  refine c_m_ahead d n T (tE t) M Q hL hR.1 hR.2.1 hR.2.2.1 hR.2.2.2.2.2.1 hR.2.2.2.2.2.2.2.2.1 (fun h4 M' g h => hQ M' g ?_) (fun h4 M' g h => hQ M' g ?_)
  · unfold advR; rw [if_pos h4]; exact h
  · unfold advR; rw [if_neg h4]; exact h
theorem m_must (d c0 : Nat) (r : Rt) (M : am_M) (Q : Option Value → am_M → Prop) (hL : Lay M) (hc : c0 < 256) (hR : StM M T n r) (hQ : ∀ M', gF sRm nT M M' → StM M' T n (signR T n c0 r) → Q none M') : am_E am_P0 (d + 2) 177 [.ref 277, .int (nI c0)] M Q := by
  rw [eX11_must]
  cases r with
  | inl e =>
    obtain ⟨p1, p2, p3⟩ := FtM_pos hR
    have h0 := hQ M (gF_refl _ _ _) hR
    have hbl := fun x p Q => c_m_blame (d + 1) x p M Q hL
    simp +decide only [qX11_must, lm hL, c_m_isSign (d + 1) _ M _ hL, hbl, p1, am_w1_i, am_w1_r, am_w1_x, am_w1_l, am_w1_w, va_rf_s, am_push_n, am_push_s, am_cs_0, am_cs_i, am_cs_l, am_cs_r, m_uI_K, m_uI_N, m_uI_R, m_uI_L, m_uI_I, m_uL_K, m_uL_N, m_uL_R, m_uL_I, m_uL_L, m_uR_K, m_uR_N, m_uR_I, m_uR_L, m_uR_R, true_and, and_true, true_implies, false_implies, not_true_eq_false, not_false_eq_true, if_true, if_false, false_and, and_false]
    rw [br_p p2]
    by_cases c : ¬ bI (mI M 277 3 = 3 ∧ mI M 277 6 = nI c0) = 0
    · exact ⟨fun _ => h0, fun w => absurd c w⟩
    · exact ⟨fun w => absurd w c, fun _ => h0⟩
  | inr t =>
    have hR' : RdM M T n t := hR
    have es : signR T n c0 (.inr t) = if isS t c0 = true then advR T n t else .inl (1, tS t) := rfl
    rw [es] at hQ
    by_cases c : isS t c0 = true
    · rw [if_pos c] at hQ
      simp +decide only [qX11_must, lm hL, m_isSign (d + 1) c0 t M _ hL hR' hc, c, b01, hR'.2.1, am_w1_i, am_w1_r, am_w1_x, am_w1_l, am_w1_w, va_rf_s, am_push_n, am_push_s, am_cs_0, am_cs_i, am_cs_l, am_cs_r, m_uI_K, m_uI_N, m_uI_R, m_uI_L, m_uI_I, m_uL_K, m_uL_N, m_uL_R, m_uL_I, m_uL_L, m_uR_K, m_uR_N, m_uR_I, m_uR_L, m_uR_R, true_and, and_true, true_implies, false_implies, not_true_eq_false, not_false_eq_true, if_true, if_false, false_and, and_false]
      refine m_adv d t M _ hL hR' (fun M1 g1 h1 => ?_)
      have h0 := hQ M1 g1 h1
      simp +decide only [qX11_must, am_w1_i, am_w1_r, am_w1_x, am_w1_l, am_w1_w, va_rf_s, am_push_n, am_push_s, am_cs_0, am_cs_i, am_cs_l, am_cs_r, m_uI_K, m_uI_N, m_uI_R, m_uI_L, m_uI_I, m_uL_K, m_uL_N, m_uL_R, m_uL_I, m_uL_L, m_uR_K, m_uR_N, m_uR_I, m_uR_L, m_uR_R, true_and, and_true, true_implies, false_implies, not_true_eq_false, not_false_eq_true, if_true, if_false, false_and, and_false]
      exact h0
    · rw [if_neg c] at hQ
      have c' : isS t c0 = false := by simpa using c
      have hf := FtM_0 (k := 1) hR' (by omega)
      have h0 := hQ _ hf.2 hf.1
      have L1 : Lay (uI (uI M 277 8 (nI 1)) 277 9 (nI (tS t))) := hL
      have p1 : ¬ mI (uI (uI M 277 8 (nI 1)) 277 9 (nI (tS t))) 277 8 = 0 := (FtM_pos hf.1).2.1
      have hbl := fun Q => m_blame (T := T) (n := n) (d + 1) 1 t M Q hL hR'
      rw [show nI 1 = (1 : Int32) from rfl] at hbl p1 h0
      simp +decide only [qX11_must, lm hL, m_isSign (d + 1) c0 t M _ hL hR' hc, c', b01, hR'.2.2.2.2.1, hbl, am_w1_i, am_w1_r, am_w1_x, am_w1_l, am_w1_w, va_rf_s, am_push_n, am_push_s, am_cs_0, am_cs_i, am_cs_l, am_cs_r, m_uI_K, m_uI_N, m_uI_R, m_uI_L, m_uI_I, m_uL_K, m_uL_N, m_uL_R, m_uL_I, m_uL_L, m_uR_K, m_uR_N, m_uR_I, m_uR_L, m_uR_R, true_and, and_true, true_implies, false_implies, not_true_eq_false, not_false_eq_true, if_true, if_false, false_and, and_false]
      exact h0
theorem m_mustW (d k : Nat) (r : Rt) (M : am_M) (Q : Option Value → am_M → Prop) (hL : Lay M) (hk : k < 27) (hR : StM M T n r) (hQ : ∀ M', gF sRm nT M M' → StM M' T n (wordR T n k r) → Q none M') : am_E am_P0 (d + 2) 194 [.ref 277, .long (wdL (ownW.getD k []))] M Q := by
  rw [eX11_must_]
  cases r with
  | inl e =>
    obtain ⟨p1, p2, p3⟩ := FtM_pos hR
    have h0 := hQ M (gF_refl _ _ _) hR
    simp +decide only [qX11_must_, lm hL, am_w1_i, am_w1_r, am_w1_x, am_w1_l, am_w1_w, va_rf_s, am_push_n, am_push_s, am_cs_0, am_cs_i, am_cs_l, am_cs_r, m_uI_K, m_uI_N, m_uI_R, m_uI_L, m_uI_I, m_uL_K, m_uL_N, m_uL_R, m_uL_I, m_uL_L, m_uR_K, m_uR_N, m_uR_I, m_uR_L, m_uR_R, true_and, and_true, true_implies, false_implies, not_true_eq_false, not_false_eq_true, if_true, if_false, false_and, and_false]
    rw [br_n p3]
    exact h0
  | inr t =>
    have hR' : RdM M T n t := hR
    have es : wordR T n k (.inr t) = if isW t (ownW.getD k []) = true then advR T n t else .inl (1, tS t) := rfl
    rw [es] at hQ
    by_cases c : isW t (ownW.getD k []) = true
    · rw [if_pos c] at hQ
      simp +decide only [qX11_must_, lm hL, m_isWord (d + 1) k t M _ hL hR' hk, c, b01, hR'.2.1, am_w1_i, am_w1_r, am_w1_x, am_w1_l, am_w1_w, va_rf_s, am_push_n, am_push_s, am_cs_0, am_cs_i, am_cs_l, am_cs_r, m_uI_K, m_uI_N, m_uI_R, m_uI_L, m_uI_I, m_uL_K, m_uL_N, m_uL_R, m_uL_I, m_uL_L, m_uR_K, m_uR_N, m_uR_I, m_uR_L, m_uR_R, true_and, and_true, true_implies, false_implies, not_true_eq_false, not_false_eq_true, if_true, if_false, false_and, and_false]
      refine m_adv d t M _ hL hR' (fun M1 g1 h1 => ?_)
      have h0 := hQ M1 g1 h1
      simp +decide only [qX11_must_, am_w1_i, am_w1_r, am_w1_x, am_w1_l, am_w1_w, va_rf_s, am_push_n, am_push_s, am_cs_0, am_cs_i, am_cs_l, am_cs_r, m_uI_K, m_uI_N, m_uI_R, m_uI_L, m_uI_I, m_uL_K, m_uL_N, m_uL_R, m_uL_I, m_uL_L, m_uR_K, m_uR_N, m_uR_I, m_uR_L, m_uR_R, true_and, and_true, true_implies, false_implies, not_true_eq_false, not_false_eq_true, if_true, if_false, false_and, and_false]
      exact h0
    · rw [if_neg c] at hQ
      have c' : isW t (ownW.getD k []) = false := by simpa using c
      have hf := FtM_0 (k := 1) hR' (by omega)
      have h0 := hQ _ hf.2 hf.1
      have hbl := fun Q => m_blame (T := T) (n := n) (d + 1) 1 t M Q hL hR'
      rw [show nI 1 = (1 : Int32) from rfl] at hbl h0
      simp +decide only [qX11_must_, lm hL, m_isWord (d + 1) k t M _ hL hR' hk, c', b01, hR'.2.1, hR'.2.2.2.2.1, hbl, am_w1_i, am_w1_r, am_w1_x, am_w1_l, am_w1_w, va_rf_s, am_push_n, am_push_s, am_cs_0, am_cs_i, am_cs_l, am_cs_r, m_uI_K, m_uI_N, m_uI_R, m_uI_L, m_uI_I, m_uL_K, m_uL_N, m_uL_R, m_uL_I, m_uL_L, m_uR_K, m_uR_N, m_uR_I, m_uR_L, m_uR_R, true_and, and_true, true_implies, false_implies, not_true_eq_false, not_false_eq_true, if_true, if_false, false_and, and_false]
      exact h0
theorem m_numF (d : Nat) (e : Nat × Nat) (lo hi : Int32) (M : am_M) (Q : Option Value → am_M → Prop) (hL : Lay M) (hR : StM M T n (.inl e)) : am_E am_P0 d 182 [.ref 277, .int lo, .int hi] M Q ↔ Q (some (.int 0)) M := by
  obtain ⟨p1, p2, p3⟩ := FtM_pos hR
  rw [eX11_number]
  simp +decide only [qX11_number, lm hL, am_w1_i, am_w1_r, am_w1_x, am_w1_l, am_w1_w, va_rf_s, am_push_n, am_push_s, am_cs_0, am_cs_i, am_cs_l, am_cs_r, m_uI_K, m_uI_N, m_uI_R, m_uI_L, m_uI_I, m_uL_K, m_uL_N, m_uL_R, m_uL_I, m_uL_L, m_uR_K, m_uR_N, m_uR_I, m_uR_L, m_uR_R, true_and, and_true, true_implies, false_implies, not_true_eq_false, not_false_eq_true, if_true, if_false, false_and, and_false]
  rw [br_n p3]
theorem m_num (d lo hi : Nat) (r : Rt) (M : am_M) (Q : Option Value → am_M → Prop) (hL : Lay M) (hlo : lo < 10000) (hhi : hi < 10000) (hR : StM M T n r)
    (hQ : ∀ M' x, gF sRm nT M M' → StM M' T n (numR T n lo hi r).1 → (∀ t', (numR T n lo hi r).1 = .inr t' → x = nI (numR T n lo hi r).2) → Q (some (.int x)) M') : am_E am_P0 (d + 2) 182 [.ref 277, .int (nI lo), .int (nI hi)] M Q := by
  cases r with
  | inl e =>
    rw [m_numF (d + 2) e _ _ M Q hL hR]
    exact hQ M 0 (gF_refl _ _ _) hR (fun t' ht' => by cases ht')
  | inr t =>
    have hR' : RdM M T n t := hR
    have h3 := RdM_3 hR' 2 (by omega)
    rw [show nI 2 = (2 : Int32) from rfl] at h3
    have em : numR T n lo hi (.inr t) = if ¬ t.1 = 2 then (.inl (1, tS t), lo) else if t.2.1 < lo ∨ hi < t.2.1 then (.inl (4, tS t), lo) else (advR T n t, t.2.1) := rfl
    rw [em] at hQ
    rw [eX11_number]
    by_cases c2 : t.1 = 2
    · have h6 := hR'.2.2.2.2.2.2.1 (Or.inl c2)
      have hv := hR'.2.2.2.2.2.2.2.2.2.2.2.2.2.2.1 c2
      have his := fun Q => c_m_is (d + 1) (nI t.2.1) (nI lo) (nI hi) M Q
      rw [if_neg (by omega)] at hQ
      by_cases c : t.2.1 < lo ∨ hi < t.2.1
      · rw [if_pos c] at hQ
        have hf := FtM_0 (k := 4) hR' (by omega)
        have p2 := (FtM_pos hf.1).2.1
        have h0 := hQ _ (nI t.2.1) hf.2 hf.1 (fun t' ht' => by cases ht')
        have hbl := fun Q => m_blame (T := T) (n := n) (d + 1) 4 t M Q hL hR'
        rw [show nI 4 = (4 : Int32) from rfl] at hbl h0 p2
        have hb : bI (nI lo ≤ nI t.2.1 ∧ nI t.2.1 ≤ nI hi) = 0 := bI_f (by rw [ni_le (by omega) (by omega), ni_le (by omega) (by omega)]; omega)
        simp +decide only [qX11_number, lm hL, h3.mpr c2, hR'.2.1, h6, his, hb, hR'.2.2.2.2.1, hbl, am_w1_i, am_w1_r, am_w1_x, am_w1_l, am_w1_w, va_rf_s, am_push_n, am_push_s, am_cs_0, am_cs_i, am_cs_l, am_cs_r, m_uI_K, m_uI_N, m_uI_R, m_uI_L, m_uI_I, m_uL_K, m_uL_N, m_uL_R, m_uL_I, m_uL_L, m_uR_K, m_uR_N, m_uR_I, m_uR_L, m_uR_R, true_and, and_true, true_implies, false_implies, not_true_eq_false, not_false_eq_true, if_true, if_false, false_and, and_false]
        exact h0
      · rw [if_neg c] at hQ
        have hb : bI (nI lo ≤ nI t.2.1 ∧ nI t.2.1 ≤ nI hi) = 1 := bI_t (by rw [ni_le (by omega) (by omega), ni_le (by omega) (by omega)]; omega)
        simp +decide only [qX11_number, lm hL, h3.mpr c2, hR'.2.1, h6, his, hb, am_w1_i, am_w1_r, am_w1_x, am_w1_l, am_w1_w, va_rf_s, am_push_n, am_push_s, am_cs_0, am_cs_i, am_cs_l, am_cs_r, m_uI_K, m_uI_N, m_uI_R, m_uI_L, m_uI_I, m_uL_K, m_uL_N, m_uL_R, m_uL_I, m_uL_L, m_uR_K, m_uR_N, m_uR_I, m_uR_L, m_uR_R, true_and, and_true, true_implies, false_implies, not_true_eq_false, not_false_eq_true, if_true, if_false, false_and, and_false]
        refine m_adv d t M _ hL hR' (fun M1 g1 h1 => ?_)
        have h0 := hQ M1 (nI t.2.1) g1 h1 (fun t' _ => rfl)
        simp +decide only [qX11_number, am_w1_i, am_w1_r, am_w1_x, am_w1_l, am_w1_w, va_rf_s, am_push_n, am_push_s, am_cs_0, am_cs_i, am_cs_l, am_cs_r, m_uI_K, m_uI_N, m_uI_R, m_uI_L, m_uI_I, m_uL_K, m_uL_N, m_uL_R, m_uL_I, m_uL_L, m_uR_K, m_uR_N, m_uR_I, m_uR_L, m_uR_R, true_and, and_true, true_implies, false_implies, not_true_eq_false, not_false_eq_true, if_true, if_false, false_and, and_false]
        exact h0
    · rw [if_pos c2] at hQ
      have hf := FtM_0 (k := 1) hR' (by omega)
      have p2 := (FtM_pos hf.1).2.1
      have h0 := hQ _ (mI M 277 6) hf.2 hf.1 (fun t' ht' => by cases ht')
      have hbl := fun Q => m_blame (T := T) (n := n) (d + 1) 1 t M Q hL hR'
      have L1 : Lay (uI (uI M 277 8 1) 277 9 (nI (tS t))) := hL
      rw [show nI 1 = (1 : Int32) from rfl] at hbl h0 p2
      simp +decide only [qX11_number, lm hL, hR'.2.1, hR'.2.2.2.2.1, hbl, am_w1_i, am_w1_r, am_w1_x, am_w1_l, am_w1_w, va_rf_s, am_push_n, am_push_s, am_cs_0, am_cs_i, am_cs_l, am_cs_r, m_uI_K, m_uI_N, m_uI_R, m_uI_L, m_uI_I, m_uL_K, m_uL_N, m_uL_R, m_uL_I, m_uL_L, m_uR_K, m_uR_N, m_uR_I, m_uR_L, m_uR_R, true_and, and_true, true_implies, false_implies, not_true_eq_false, not_false_eq_true, if_true, if_false, false_and, and_false]
      rw [br_n (fun q => c2 (h3.mp q))]
      exact h0
theorem m_counts (d : Nat) (b : Bool) (t : Tok) (M : am_M) (Q : Option Value → am_M → Prop) (hL : Lay M) (hR : RdM M T n t)
    (hQ : ∀ M' x, gF sRm nT M M' → StM M' T n (if b = true then .inl (5, tS t) else advR T n t) → (∀ e, (if b = true then .inl (5, tS t) else advR T n t) = (.inl e : Rt) → x = 0) → (∀ t', (if b = true then .inl (5, tS t) else advR T n t) = (.inr t' : Rt) → x = 1) → Q (some (.int x)) M') : am_E am_P0 (d + 2) 193 [.ref 277, .int (b01 b)] M Q := by
  rw [eX11_counts]
  cases b with
  | true =>
    rw [if_pos rfl] at hQ
    have hf := FtM_0 (k := 5) hR (by omega)
    have h0 := hQ _ 0 hf.2 hf.1 (fun _ _ => rfl) (fun t' ht' => by cases ht')
    have hbl := fun Q => m_blame (T := T) (n := n) (d + 1) 5 t M Q hL hR
    rw [show nI 5 = (5 : Int32) from rfl] at hbl h0
    simp +decide only [qX11_counts, lm hL, hR.2.1, b01, hR.2.2.2.2.1, hbl, am_w1_i, am_w1_r, am_w1_x, am_w1_l, am_w1_w, va_rf_s, am_push_n, am_push_s, am_cs_0, am_cs_i, am_cs_l, am_cs_r, m_uI_K, m_uI_N, m_uI_R, m_uI_L, m_uI_I, m_uL_K, m_uL_N, m_uL_R, m_uL_I, m_uL_L, m_uR_K, m_uR_N, m_uR_I, m_uR_L, m_uR_R, true_and, and_true, true_implies, false_implies, not_true_eq_false, not_false_eq_true, if_true, if_false, false_and, and_false]
    exact h0
  | false =>
    rw [if_neg (by decide)] at hQ
    simp +decide only [qX11_counts, lm hL, hR.2.1, b01, am_w1_i, am_w1_r, am_w1_x, am_w1_l, am_w1_w, va_rf_s, am_push_n, am_push_s, am_cs_0, am_cs_i, am_cs_l, am_cs_r, m_uI_K, m_uI_N, m_uI_R, m_uI_L, m_uI_I, m_uL_K, m_uL_N, m_uL_R, m_uL_I, m_uL_L, m_uR_K, m_uR_N, m_uR_I, m_uR_L, m_uR_R, true_and, and_true, true_implies, false_implies, not_true_eq_false, not_false_eq_true, if_true, if_false, false_and, and_false]
    refine m_adv d t M _ hL hR (fun M1 g1 h1 => ?_)
    have L1 := gF_LayN g1 hL
    cases hr : advR T n t with
    | inl e =>
      rw [hr] at h1 hQ
      have p2 := (FtM_pos h1).2.1
      have h0 := hQ M1 0 g1 h1 (fun _ _ => rfl) (fun t' ht' => by cases ht')
      simp +decide only [qX11_counts, lm L1, am_w1_i, am_w1_r, am_w1_x, am_w1_l, am_w1_w, va_rf_s, am_push_n, am_push_s, am_cs_0, am_cs_i, am_cs_l, am_cs_r, m_uI_K, m_uI_N, m_uI_R, m_uI_L, m_uI_I, m_uL_K, m_uL_N, m_uL_R, m_uL_I, m_uL_L, m_uR_K, m_uR_N, m_uR_I, m_uR_L, m_uR_R, true_and, and_true, true_implies, false_implies, not_true_eq_false, not_false_eq_true, if_true, if_false, false_and, and_false]
      rw [br_p p2]
      exact h0
    | inr t' =>
      rw [hr] at h1 hQ
      have h1' : RdM M1 T n t' := h1
      have h0 := hQ M1 1 g1 h1 (fun e he => by cases he) (fun _ _ => rfl)
      simp +decide only [qX11_counts, lm L1, h1'.2.1, am_w1_i, am_w1_r, am_w1_x, am_w1_l, am_w1_w, va_rf_s, am_push_n, am_push_s, am_cs_0, am_cs_i, am_cs_l, am_cs_r, m_uI_K, m_uI_N, m_uI_R, m_uI_L, m_uI_I, m_uL_K, m_uL_N, m_uL_R, m_uL_I, m_uL_L, m_uR_K, m_uR_N, m_uR_I, m_uR_L, m_uR_R, true_and, and_true, true_implies, false_implies, not_true_eq_false, not_false_eq_true, if_true, if_false, false_and, and_false]
      exact h0
end
end
section
/-! the model's formulas: what lies on its heap -/
def hiO (o : Nat) : Prop := 10 ≤ o ∧ o ≤ 14
def loO (o : Nat) : Prop := o = 20 ∨ o = 21 ∨ o = 22
def cmO (o : Nat) : Prop := 17 ≤ o ∧ o ≤ 19
/-- 0: a sum's signs; 1: a test's before it compares; 2: behind that -/
def cH (m : Nat) : List Nat → Prop
  | [] => ¬ m = 2
  | o :: os => (hiO o ∧ cH m os) ∨ (m = 1 ∧ loO o ∧ ∀ x, x ∈ os → loO x) ∨ (m = 2 ∧ cmO o ∧ ∀ x, x ∈ os → loO x)
def tyO (o : Nat) (v : Den) : Prop := if o ≤ 19 then bdS v else bdT v
/-- what lies there for signs that wait -/
def tyW : List Nat → List Den → List Den → Prop
  | [], vs, r => vs = r
  | o :: os, vs, r => if o = 22 then tyW os vs r else ∃ v vs', vs = v :: vs' ∧ tyO o v ∧ tyW os vs' r
def jok (l : Nat) : List Nat → List Den → Prop
  | [], _ => True
  | o :: os, vs => l ≤ rnk o → opOK 1850 (o, 0) vs ∧ jok l os (appD o vs)
theorem rnk_hi {o : Nat} (h : hiO o) : 5 ≤ rnk o := by
  unfold hiO at h; unfold rnk; repeat' split
  all_goals omega
theorem rnk_cm {o : Nat} (h : cmO o) : rnk o = 4 := by
  unfold cmO at h; unfold rnk; repeat' split
  all_goals omega
theorem rnk_lo {o : Nat} (h : loO o) : 1 ≤ rnk o ∧ rnk o ≤ 3 := by
  rcases h with rfl | rfl | rfl <;> decide
theorem jns_c {l o : Nat} {os : List Nat} {vs : List Den} : jns l (o :: os) vs = if l ≤ rnk o then jns l os (appD o vs) else (o :: os, vs) := rfl
theorem jnD_T {o : Nat} {u v : Den} (h : o = 20 ∨ o = 21) (hu : bdT u) (hv : bdT v) : bdT (jnD o u v) := fun e => by
  rcases h with rfl | rfl
  · exact jn_20 (hu e) (hv e)
  · exact jn_21 _ _
theorem ntD_T {v : Den} (hv : bdT v) : bdT (ntD v) := fun e => by
  show 1 - v e = 0 ∨ 1 - v e = 1
  rcases hv e with q | q <;> rw [q] <;> omega
theorem j_lo {l : Nat} : ∀ (os : List Nat) (vs r : List Den) (v : Den), (∀ x, x ∈ os → loO x) → tyW os vs r → bdT v → jok l os (v :: vs) ∧ ∃ v' vs', (jns l os (v :: vs)).2 = v' :: vs' ∧ bdT v' ∧ tyW (jns l os (v :: vs)).1 vs' r ∧ (∀ x, x ∈ (jns l os (v :: vs)).1 → loO x) ∧ (l ≤ 1 → (jns l os (v :: vs)).1 = []) := by
  intro os
  induction os with
  | nil => intro vs r v h1 h2 h3; exact ⟨trivial, v, vs, rfl, h3, h2, h1, fun _ => rfl⟩
  | cons o os ih =>
    intro vs r v h1 h2 h3
    have ho := h1 o (List.mem_cons_self ..)
    have h1' : ∀ x, x ∈ os → loO x := fun x hx => h1 x (List.mem_cons_of_mem _ hx)
    have hr := rnk_lo ho
    by_cases c : l ≤ rnk o
    · rw [jns_c, if_pos c]
      by_cases c2 : o = 22
      · subst c2
        have h2' : tyW os vs r := by have := h2; unfold tyW at this; rw [if_pos rfl] at this; exact this
        have ea : appD 22 (v :: vs) = ntD v :: vs := rfl
        obtain ⟨a1, a2⟩ := ih vs r (ntD v) h1' h2' (ntD_T h3)
        refine ⟨fun _ => ⟨⟨fun q => absurd q (by decide), fun _ => ⟨v, vs, rfl, h3⟩, fun _ q => absurd q (by decide), fun q => absurd q (by decide), by decide⟩, ?_⟩, ?_⟩
        · rw [ea]; exact a1
        · rw [ea]; exact a2
      · have h2' := h2
        unfold tyW at h2'
        rw [if_neg c2] at h2'
        obtain ⟨u, vs', rfl, hu, hw⟩ := h2'
        have ho2 : o = 20 ∨ o = 21 := by rcases ho with q | q | q <;> omega
        have hu' : bdT u := by unfold tyO at hu; rw [if_neg (by omega)] at hu; exact hu
        have ea : appD o (v :: u :: vs') = jnD o u v :: vs' := app_2 c2 _ _ _
        obtain ⟨a1, a2⟩ := ih vs' r (jnD o u v) h1' hw (jnD_T ho2 hu' h3)
        refine ⟨fun _ => ⟨⟨fun q => ?_, fun q => absurd q c2, fun _ q => ?_, fun _ => ⟨v, u, vs', rfl, hu', h3⟩, ?_⟩, ?_⟩, ?_⟩
        · dsimp only at q; omega
        · dsimp only at q; omega
        · dsimp only; omega
        · rw [ea]; exact a1
        · rw [ea]; exact a2
    · rw [jns_c, if_neg c]
      exact ⟨fun q => absurd q c, v, vs, rfl, h3, h2, h1, fun q => by omega⟩
theorem op_hi {o : Nat} {w v : Den} {r : List Den} (h : 10 ≤ o ∧ o ≤ 19) (hv : bdS v) (hw : bdS w) : opOK 1850 (o, 0) (w :: v :: r) :=
  ⟨fun q => by dsimp only at q; omega, fun q => by dsimp only at q; omega, fun _ _ => ⟨w, v, r, rfl, hv, hw⟩, fun q => by dsimp only at q; omega, by dsimp only; omega⟩
theorem tyW_hi {o : Nat} {os : List Nat} {vs r : List Den} (h : 10 ≤ o ∧ o ≤ 19) (hw : tyW (o :: os) vs r) : ∃ u vs', vs = u :: vs' ∧ bdS u ∧ tyW os vs' r := by
  unfold tyW at hw
  rw [if_neg (by omega)] at hw
  obtain ⟨u, vs', e, hu, hw'⟩ := hw
  refine ⟨u, vs', e, ?_, hw'⟩
  unfold tyO at hu
  rw [if_pos (by omega)] at hu
  exact hu
/-- signs of sums alone are joined -/
theorem j_hi {l m : Nat} (hl : 5 ≤ l ∨ m = 0) : ∀ (os : List Nat) (vs r : List Den) (v : Den), cH m os → tyW os vs r → bdS v → jok l os (v :: vs) ∧ ∃ v' vs', (jns l os (v :: vs)).2 = v' :: vs' ∧ bdS v' ∧ tyW (jns l os (v :: vs)).1 vs' r ∧ cH m (jns l os (v :: vs)).1 ∧ (l ≤ 5 → m = 0 → (jns l os (v :: vs)).1 = []) ∧ (l ≤ 5 → m = 1 → ∀ x, x ∈ (jns l os (v :: vs)).1 → loO x) := by
  intro os
  induction os with
  | nil => intro vs r v h1 h2 h3; exact ⟨trivial, v, vs, rfl, h3, h2, h1, fun _ _ => rfl, fun _ _ x hx => by cases hx⟩
  | cons o os ih =>
    intro vs r v h1 h2 h3
    by_cases c : l ≤ rnk o
    · have hh : hiO o ∧ cH m os := by
        rcases h1 with q | ⟨q1, q2, q3⟩ | ⟨q1, q2, q3⟩
        · exact q
        · have := rnk_lo q2; omega
        · have := rnk_cm q2; omega
      have ho := hh.1
      unfold hiO at ho
      rw [jns_c, if_pos c]
      obtain ⟨u, vs', rfl, hu, hw⟩ := tyW_hi (by omega) h2
      have ea : appD o (v :: u :: vs') = jnD o u v :: vs' := app_2 (by omega) _ _ _
      obtain ⟨a1, a2⟩ := ih vs' r (jnD o u v) hh.2 hw (jnD_bd (by omega) hu h3)
      rw [ea]
      refine ⟨fun _ => ⟨op_hi (by omega) hu h3, ?_⟩, a2⟩
      rw [ea]; exact a1
    · rw [jns_c, if_neg c]
      refine ⟨fun q => absurd q c, v, vs, rfl, h3, h2, h1, fun q1 q2 => ?_, fun q1 q2 => ?_⟩
      · rcases h1 with q | ⟨q, -⟩ | ⟨q, -⟩
        · have := rnk_hi q.1; omega
        · omega
        · omega
      · rcases h1 with q | ⟨-, q3, q4⟩ | ⟨q, -⟩
        · have := rnk_hi q.1; omega
        · intro x hx
          rcases List.mem_cons.mp hx with rfl | hx
          · exact q3
          · exact q4 x hx
        · omega
/-- signs of sums, the comparing one, then others -/
theorem j_cm {l : Nat} (hl : l ≤ 4) : ∀ (os : List Nat) (vs r : List Den) (v : Den), cH 2 os → tyW os vs r → bdS v → jok l os (v :: vs) ∧ ∃ v' vs', (jns l os (v :: vs)).2 = v' :: vs' ∧ bdT v' ∧ tyW (jns l os (v :: vs)).1 vs' r ∧ (∀ x, x ∈ (jns l os (v :: vs)).1 → loO x) ∧ (l ≤ 1 → (jns l os (v :: vs)).1 = []) := by
  intro os
  induction os with
  | nil => intro vs r v h1 h2 h3; exact absurd rfl h1
  | cons o os ih =>
    intro vs r v h1 h2 h3
    rcases h1 with ⟨q1, q2⟩ | ⟨q, -⟩ | ⟨-, q2, q3⟩
    · have hr := rnk_hi q1
      have ho := q1
      unfold hiO at ho
      rw [jns_c, if_pos (by omega)]
      obtain ⟨u, vs', rfl, hu, hw⟩ := tyW_hi (by omega) h2
      have ea : appD o (v :: u :: vs') = jnD o u v :: vs' := app_2 (by omega) _ _ _
      obtain ⟨a1, a2⟩ := ih vs' r (jnD o u v) q2 hw (jnD_bd (by omega) hu h3)
      rw [ea]
      refine ⟨fun _ => ⟨op_hi (by omega) hu h3, ?_⟩, a2⟩
      rw [ea]; exact a1
    · omega
    · have hr := rnk_cm q2
      have ho := q2
      unfold cmO at ho
      rw [jns_c, if_pos (by omega)]
      obtain ⟨u, vs', rfl, hu, hw⟩ := tyW_hi (by omega) h2
      have ea : appD o (v :: u :: vs') = jnD o u v :: vs' := app_2 (by omega) _ _ _
      obtain ⟨a1, a2⟩ := j_lo (l := l) os vs' r (jnD o u v) q3 hw (fun e => jn_01 (by omega))
      rw [ea]
      refine ⟨fun _ => ⟨op_hi (by omega) hu h3, ?_⟩, a2⟩
      rw [ea]; exact a1
theorem cH_lo {os : List Nat} (h : ∀ x, x ∈ os → loO x) : cH 1 os := by
  cases os with
  | nil => show ¬ (1 : Nat) = 2; omega
  | cons o os => exact Or.inr (Or.inl ⟨rfl, h o (List.mem_cons_self ..), fun x hx => h x (List.mem_cons_of_mem _ hx)⟩)
def md (k ph : Nat) : Nat := if isTs k = false then 0 else if ph = 0 then 1 else 2
/-- the frame below one in brackets: a test that begins -/
def loT : List Frm → Prop
  | [] => False
  | f :: _ => isTs f.1 = true ∧ f.2.1 = 0 ∧ ∀ x, x ∈ f.2.2.2.2 → loO x
def tyR : List Frm → List Den → Prop
  | [], vs => vs = []
  | f :: F, vs => f.2.1 < 2 ∧ f.1 ≤ 5 ∧ cH (md f.1 f.2.1) f.2.2.2.2 ∧ (f.1 = 3 ∨ f.1 = 4 → f.2.2.2.1 = 15 ∨ f.2.2.2.1 = 16) ∧ (f.2.2.1 = true → f.2.1 = 0 ∧ ∀ x, x ∈ f.2.2.2.2 → loO x) ∧ (f.1 = 5 → loT F) ∧ (f.1 < 2 ↔ F = []) ∧ ∃ r, tyW f.2.2.2.2 vs r ∧ if f.1 = 4 then ∃ u r', r = u :: r' ∧ bdS u ∧ tyR F r' else tyR F r
/-- an operand is read, or not -/
def tyS (F : List Frm) (vs : List Den) : Bool → Prop
  | false => tyR F vs
  | true => match F with
    | [] => False
    | (k, ph, bg, pr, os) :: F' => bg = false ∧ ∃ v vs', vs = v :: vs' ∧ ((ph < 2 ∧ bdS v ∧ tyR ((k, ph, bg, pr, os) :: F') vs') ∨ (ph = 2 ∧ isTs k = true ∧ bdT v ∧ tyR ((k, 0, bg, pr, os) :: F') vs' ∧ ∀ x, x ∈ os → loO x))
theorem tyR_i {k ph : Nat} {bg : Bool} {pr : Nat} {os : List Nat} {F : List Frm} {vs : List Den} : tyR ((k, ph, bg, pr, os) :: F) vs ↔ ph < 2 ∧ k ≤ 5 ∧ cH (md k ph) os ∧ (k = 3 ∨ k = 4 → pr = 15 ∨ pr = 16) ∧ (bg = true → ph = 0 ∧ ∀ x, x ∈ os → loO x) ∧ (k = 5 → loT F) ∧ (k < 2 ↔ F = []) ∧ ∃ r, tyW os vs r ∧ if k = 4 then ∃ u r', r = u :: r' ∧ bdS u ∧ tyR F r' else tyR F r := Iff.rfl
end
section
/-! the types are kept by every step -/
section
variable {T : Nat → Nat} {n : Nat}
theorem tyR_bg {k ph : Nat} {bg : Bool} {pr : Nat} {os : List Nat} {F : List Frm} {vs : List Den} (h : tyR ((k, ph, bg, pr, os) :: F) vs) : tyR ((k, ph, false, pr, os) :: F) vs := by
  rw [tyR_i] at h ⊢
  obtain ⟨a1, a2, a3, a4, a5, a6, a7⟩ := h
  exact ⟨a1, a2, a3, a4, (fun q => by cases q), a6, a7⟩
theorem md_1 {k : Nat} (h : isTs k = true) : md k 0 = 1 := by unfold md; rw [h]; rfl
theorem md_2 {k : Nat} (h : isTs k = true) : md k 1 = 2 := by unfold md; rw [h]; rfl
theorem md_0 {k ph : Nat} (h : isTs k = false) : md k ph = 0 := by unfold md; rw [h]; rfl
theorem tyR_new {k pr : Nat} {F : List Frm} {vs : List Den} (hk : k = 5 ∨ k = 2 ∨ k = 3) (hp : k = 3 → pr = 15 ∨ pr = 16) (h5 : k = 5 → loT F) (hF : ¬ F = []) (h : tyR F vs) : tyR ((k, 0, true, pr, []) :: F) vs := by
  rw [tyR_i]
  refine ⟨by omega, by omega, ?_, fun q => hp (by omega), fun _ => ⟨rfl, fun x hx => by cases hx⟩, h5, ⟨fun q => by omega, fun q => absurd q hF⟩, vs, rfl, ?_⟩
  · show ¬ md k 0 = 2
    unfold md
    split <;> decide
  · rw [if_neg (by omega)]; exact h
theorem tyS_opd {t : Tok} {k ph : Nat} {bg : Bool} {pr : Nat} {os : List Nat} {F : List Frm} {vs : List Den} {s' : Mst} {b : Bool} (ht : tkOK t) (h : tyR ((k, ph, bg, pr, os) :: F) vs) (hs : mOpd T n t k ph bg pr os F vs = .inr (s', b)) : tyS s'.2.1 s'.2.2.1 s'.2.2.2 := by
  have hf := tyR_bg h
  obtain ⟨a1, a2, a3, a4, a5, a6, a7, r, hw, hr⟩ := tyR_i.mp h
  unfold mOpd at hs
  by_cases c1 : (isTs k && bg && isW t wNot) = true
  · rw [if_pos c1] at hs
    obtain ⟨-, rfl⟩ := mAdv_r hs
    rw [Bool.and_eq_true, Bool.and_eq_true] at c1
    obtain ⟨p0, pl⟩ := a5 c1.1.2
    subst p0
    have hl : ∀ x, x ∈ 22 :: os → loO x := fun x hx => by
      rcases List.mem_cons.mp hx with rfl | hx
      · exact Or.inr (Or.inr rfl)
      · exact pl x hx
    show tyR ((k, 0, bg, pr, 22 :: os) :: F) vs
    rw [tyR_i]
    refine ⟨a1, a2, by rw [md_1 c1.1.1]; exact cH_lo hl, a4, fun _ => ⟨rfl, hl⟩, a6, a7, r, ?_, hr⟩
    show if (22 : Nat) = 22 then _ else _
    rw [if_pos rfl]; exact hw
  · rw [if_neg c1] at hs
    by_cases c2 : (isTs k && bg && isS t 91) = true
    · rw [if_pos c2] at hs
      rw [Bool.and_eq_true, Bool.and_eq_true] at c2
      obtain ⟨p0, pl⟩ := a5 c2.1.2
      by_cases c : F.length = 8
      · rw [if_pos c] at hs; cases hs
      · rw [if_neg c] at hs
        obtain ⟨-, rfl⟩ := mAdv_r hs
        exact tyR_new (Or.inl rfl) (fun q => by omega) (fun _ => ⟨c2.1.1, p0, pl⟩) (fun q => by cases q) hf
    · rw [if_neg c2] at hs
      by_cases c3 : (isTs k && bg && isW t wAll) = true
      · rw [if_pos c3] at hs
        obtain ⟨-, rfl⟩ := mAdv_r hs
        rw [Bool.and_eq_true, Bool.and_eq_true] at c3
        obtain ⟨p0, pl⟩ := a5 c3.1.2
        subst p0
        exact ⟨rfl, _, _, rfl, Or.inr ⟨rfl, c3.1.1, fun e => Or.inr rfl, hf, pl⟩⟩
      · rw [if_neg c3] at hs
        by_cases c4 : isS t 40 = true
        · rw [if_pos c4] at hs
          by_cases c : F.length = 8
          · rw [if_pos c] at hs; cases hs
          · rw [if_neg c] at hs
            obtain ⟨-, rfl⟩ := mAdv_r hs
            exact tyR_new (Or.inr (Or.inl rfl)) (fun q => by omega) (fun q => by omega) (fun q => by cases q) hf
        · rw [if_neg c4] at hs
          by_cases c5 : (isW t wMin || isW t wMax) = true
          · rw [if_pos c5] at hs
            by_cases d1 : (tk T n (tE t)).1 = 4
            · rw [if_pos d1] at hs; cases hs
            · rw [if_neg d1] at hs
              by_cases d2 : isS (tk T n (tE t)) 40 = true
              · rw [if_pos d2] at hs
                by_cases c : F.length = 8
                · rw [if_pos c] at hs; cases hs
                · rw [if_neg c] at hs
                  obtain ⟨-, rfl⟩ := mAdv_r hs
                  exact tyR_new (Or.inr (Or.inr rfl)) (fun q => by split; exact Or.inl rfl; exact Or.inr rfl) (fun q => by omega) (fun q => by cases q) hf
              · rw [if_neg d2] at hs; cases hs
          · rw [if_neg c5] at hs
            cases hl : leaf t with
            | none => rw [hl] at hs; cases hs
            | some u =>
              rw [hl] at hs
              obtain ⟨-, rfl⟩ := mAdv_r hs
              exact ⟨rfl, _, _, rfl, Or.inl ⟨a1, leaf_bd ht hl, hf⟩⟩
/-- the joinings that are done can be done -/
theorem ty_j5 {k ph : Nat} {bg : Bool} {pr : Nat} {os : List Nat} {F : List Frm} {vs : List Den} {l : Nat} (hl : 5 ≤ l) (hp : ph < 2) (h : tyS ((k, ph, bg, pr, os) :: F) vs true) : jok l os vs ∧ bg = false ∧ ∃ v' vs' r, (jns l os vs).2 = v' :: vs' ∧ bdS v' ∧ tyW (jns l os vs).1 vs' r ∧ cH (md k ph) (jns l os vs).1 ∧ (l ≤ 5 → md k ph = 0 → (jns l os vs).1 = []) ∧ (l ≤ 5 → md k ph = 1 → ∀ x, x ∈ (jns l os vs).1 → loO x) ∧ k ≤ 5 ∧ (k = 3 ∨ k = 4 → pr = 15 ∨ pr = 16) ∧ (k = 5 → loT F) ∧ (k < 2 ↔ F = []) ∧ if k = 4 then ∃ u r', r = u :: r' ∧ bdS u ∧ tyR F r' else tyR F r := by
  obtain ⟨hb, v, vs0, rfl, ⟨-, hv, hR⟩ | ⟨q, -⟩⟩ := h
  · obtain ⟨a1, a2, a3, a4, a5, a6, a7, r, hw, hr⟩ := tyR_i.mp hR
    obtain ⟨j1, v', vs', e1, e2, e3, e4, e5, e6⟩ := j_hi (Or.inl hl) os vs0 r v a3 hw hv
    exact ⟨j1, hb, v', vs', r, e1, e2, e3, e4, e5, e6, a2, a4, a6, a7, hr⟩
  · omega
theorem ty_j0 {k ph : Nat} {bg : Bool} {pr : Nat} {os : List Nat} {F : List Frm} {vs : List Den} (hk : isTs k = false) (h : tyS ((k, ph, bg, pr, os) :: F) vs true) : jok 1 os vs ∧ bg = false ∧ ph < 2 ∧ (jns 1 os vs).1 = [] ∧ ∃ v' r, (jns 1 os vs).2 = v' :: r ∧ bdS v' ∧ k ≤ 5 ∧ (k = 3 ∨ k = 4 → pr = 15 ∨ pr = 16) ∧ (k < 2 ↔ F = []) ∧ if k = 4 then ∃ u r', r = u :: r' ∧ bdS u ∧ tyR F r' else tyR F r := by
  obtain ⟨hb, v, vs0, rfl, ⟨hp, hv, hR⟩ | ⟨-, q, -⟩⟩ := h
  · obtain ⟨a1, a2, a3, a4, a5, a6, a7, r, hw, hr⟩ := tyR_i.mp hR
    rw [md_0 hk] at a3
    obtain ⟨j1, v', vs', e1, e2, e3, e4, e5, e6⟩ := j_hi (l := 1) (Or.inr rfl) os vs0 r v a3 hw hv
    have e7 := e5 (by omega) rfl
    rw [e7] at e3
    have e3' : vs' = r := e3
    subst e3'
    exact ⟨j1, hb, hp, e7, v', vs', e1, e2, a2, a4, a7, hr⟩
  · rw [hk] at q; cases q
theorem ty_jT {k ph : Nat} {bg : Bool} {pr : Nat} {os : List Nat} {F : List Frm} {vs : List Den} {l : Nat} (hl : l ≤ 4) (hk : isTs k = true) (hp : ¬ ph = 0) (h : tyS ((k, ph, bg, pr, os) :: F) vs true) : jok l os vs ∧ bg = false ∧ ∃ v' vs' r, (jns l os vs).2 = v' :: vs' ∧ bdT v' ∧ tyW (jns l os vs).1 vs' r ∧ (∀ x, x ∈ (jns l os vs).1 → loO x) ∧ (l ≤ 1 → (jns l os vs).1 = []) ∧ k ≤ 5 ∧ (k = 5 → loT F) ∧ (k < 2 ↔ F = []) ∧ tyR F r := by
  have hk4 : ¬ k = 4 := fun q => by subst q; cases hk
  obtain ⟨hb, v, vs0, rfl, ⟨q, hv, hR⟩ | ⟨q, -, hv, hR, hlo⟩⟩ := h
  · have e1 : ph = 1 := by omega
    subst e1
    obtain ⟨a1, a2, a3, a4, a5, a6, a7, r, hw, hr⟩ := tyR_i.mp hR
    rw [md_2 hk] at a3
    rw [if_neg hk4] at hr
    obtain ⟨j1, v', vs', e1, e2, e3, e4, e5⟩ := j_cm hl os vs0 r v a3 hw hv
    exact ⟨j1, hb, v', vs', r, e1, e2, e3, e4, e5, a2, a6, a7, hr⟩
  · obtain ⟨a1, a2, a3, a4, a5, a6, a7, r, hw, hr⟩ := tyR_i.mp hR
    rw [if_neg hk4] at hr
    obtain ⟨j1, v', vs', e1, e2, e3, e4, e5⟩ := j_lo (l := l) os vs0 r v hlo hw hv
    exact ⟨j1, hb, v', vs', r, e1, e2, e3, e4, e5, a2, a6, a7, hr⟩
theorem add_hi {t : Tok} (h : ¬ addOp t = 0) : hiO (addOp t) := by rcases add_2 h with q | q <;> rw [q] <;> constructor <;> decide
theorem mul_hi {t : Tok} (h : ¬ mulOp t = 0) : hiO (mulOp t) := by rcases mul_3 h with q | q | q <;> rw [q] <;> constructor <;> decide
theorem cmp_cm {t : Tok} (h : ¬ cmpOp t = 0) : cmO (cmpOp t) := by rcases cmp_3 h with q | q | q <;> rw [q] <;> constructor <;> decide
theorem tyW_push {o : Nat} {os : List Nat} {v : Den} {vs r : List Den} (h1 : ¬ o = 22) (h2 : tyO o v) (h : tyW os vs r) : tyW (o :: os) (v :: vs) r := by
  unfold tyW
  rw [if_neg h1]
  exact ⟨v, vs, rfl, h2, h⟩
theorem tyO_s {o : Nat} {v : Den} (h : o ≤ 19) (hv : bdS v) : tyO o v := by unfold tyO; rw [if_pos h]; exact hv
theorem tyO_t {o : Nat} {v : Den} (h : ¬ o ≤ 19) (hv : bdT v) : tyO o v := by unfold tyO; rw [if_neg h]; exact hv
theorem tyS_go {t : Tok} {k ph : Nat} {bg : Bool} {pr : Nat} {os : List Nat} {F : List Frm} {vs : List Den} {s' : Mst} (hF : ∀ f, f ∈ F → f.2.2.1 = false) (h : tyS ((k, ph, bg, pr, os) :: F) vs true) (hs : mGo T n t k ph bg pr os F vs = .inr (s', true)) : tyS s'.2.1 s'.2.2.1 s'.2.2.2 := by
  unfold mGo at hs
  have hi : ∀ (l a : Nat), 5 ≤ l → hiO a → ph < 2 → tyR ((k, ph, bg, pr, a :: (jns l os vs).1) :: F) (jns l os vs).2 := fun l a hl ha hp => by
    obtain ⟨j1, hb, v', vs', r, e1, e2, e3, e4, e5, e6, b1, b2, b3, b4, b5⟩ := ty_j5 hl hp h
    rw [tyR_i, e1]
    have ha' := ha
    unfold hiO at ha'
    exact ⟨hp, b1, Or.inl ⟨ha, e4⟩, b2, (fun q => by rw [hb] at q; cases q), b3, b4, r, tyW_push (by omega) (tyO_s (by omega) e2) e3, b5⟩
  by_cases c1 : ph < 2 ∧ ¬ addOp t = 0
  · rw [if_pos c1] at hs
    obtain ⟨-, rfl⟩ := mAdv_r hs
    exact hi 5 _ (by omega) (add_hi c1.2) c1.1
  · rw [if_neg c1] at hs
    by_cases c2 : ph < 2 ∧ ¬ mulOp t = 0
    · rw [if_pos c2] at hs
      obtain ⟨-, rfl⟩ := mAdv_r hs
      exact hi 6 _ (by omega) (mul_hi c2.2) c2.1
    · rw [if_neg c2] at hs
      by_cases c3 : isTs k = true ∧ ph = 0 ∧ ¬ cmpOp t = 0
      · rw [if_pos c3] at hs
        obtain ⟨-, rfl⟩ := mAdv_r hs
        obtain ⟨h1, rfl, h3⟩ := c3
        obtain ⟨j1, hb, v', vs', r, e1, e2, e3, e4, e5, e6, b1, b2, b3, b4, b5⟩ := ty_j5 (l := 5) (by omega) (by omega) h
        have hc := cmp_cm h3
        have hc' := hc
        unfold cmO at hc'
        show tyR ((k, 1, bg, pr, cmpOp t :: (jns 5 os vs).1) :: F) (jns 5 os vs).2
        rw [tyR_i, e1]
        exact ⟨by omega, b1, by rw [md_2 h1]; exact Or.inr (Or.inr ⟨rfl, hc, e6 (by omega) (md_1 h1)⟩), b2, (fun q => by rw [hb] at q; cases q), b3, b4, r, tyW_push (by omega) (tyO_s (by omega) e2) e3, b5⟩
      · rw [if_neg c3] at hs
        by_cases c4 : isTs k = true ∧ (isW t wAnd || isW t wOr) = true
        · rw [if_pos c4] at hs
          by_cases c5 : ph = 0
          · rw [if_pos c5] at hs; cases hs
          · rw [if_neg c5] at hs
            obtain ⟨-, rfl⟩ := mAdv_r hs
            have key : ∀ (l a : Nat), l ≤ 4 → a = 20 ∨ a = 21 → tyR ((k, 0, true, pr, a :: (jns l os vs).1) :: F) (jns l os vs).2 := fun l a hl ha => by
              obtain ⟨j1, hb, v', vs', r, e1, e2, e3, e4, e5, b1, b3, b4, b5⟩ := ty_jT hl c4.1 c5 h
              have hk4 : ¬ k = 3 ∧ ¬ k = 4 := ⟨fun q => by (rw [q] at c4; cases c4.1), fun q => by (rw [q] at c4; cases c4.1)⟩
              have hlo : ∀ x, x ∈ a :: (jns l os vs).1 → loO x := fun x hx => by
                rcases List.mem_cons.mp hx with rfl | hx
                · unfold loO; omega
                · exact e4 x hx
              rw [tyR_i, e1]
              exact ⟨by omega, b1, by rw [md_1 c4.1]; exact cH_lo hlo, fun q => by omega, fun q => ⟨rfl, hlo⟩, b3, b4, r, tyW_push (by omega) (tyO_t (by omega) e2) e3, by rw [if_neg hk4.2]; exact b5⟩
            by_cases c6 : isW t wAnd = true
            · rw [if_pos c6, if_pos c6]; exact key 2 20 (by omega) (Or.inl rfl)
            · rw [if_neg c6, if_neg c6]; exact key 1 21 (by omega) (Or.inr rfl)
        · rw [if_neg c4] at hs
          by_cases c5 : isTs k = true ∧ ph = 0
          · rw [if_pos c5] at hs; cases hs
          · rw [if_neg c5] at hs
            by_cases c6 : k < 2
            · rw [if_pos c6] at hs; cases hs
            · rw [if_neg c6] at hs
              by_cases c7 : k = 3
              · rw [if_pos c7] at hs
                subst c7
                by_cases c8 : isS t 44 = true
                · rw [if_pos c8] at hs
                  obtain ⟨-, rfl⟩ := mAdv_r hs
                  obtain ⟨j1, hb, hp, e7, v', r, e1, e2, b1, b2, b4, b5⟩ := ty_j0 rfl h
                  rw [if_neg (by omega)] at b5
                  show tyR ((4, ph, bg, pr, (jns 1 os vs).1) :: F) (jns 1 os vs).2
                  rw [tyR_i, e1, e7]
                  exact ⟨hp, by omega, by rw [md_0 rfl]; show ¬ (0 : Nat) = 2; omega, fun _ => b2 (Or.inl rfl), (fun q => by rw [hb] at q; cases q), fun q => by omega, ⟨fun q => by omega, fun q => by have := b4.mpr q; omega⟩, v' :: r, rfl, by rw [if_pos rfl]; exact ⟨v', r, rfl, e2, b5⟩⟩
                · rw [if_neg c8] at hs; cases hs
              · rw [if_neg c7] at hs
                by_cases c8 : isS t (if k = 5 then 93 else 41) = true
                · rw [if_pos c8] at hs
                  cases F with
                  | nil => cases hs
                  | cons f F' =>
                    obtain ⟨k', ph', bg', pr', os'⟩ := f
                    obtain ⟨-, rfl⟩ := mAdv_r hs
                    have hb' : bg' = false := hF _ (List.mem_cons_self ..)
                    subst hb'
                    by_cases c9 : k = 5
                    · subst c9
                      obtain ⟨j1, hb, v', vs', r, e1, e2, e3, e4, e5, b1, b3, b4, b5⟩ := ty_jT (l := 1) (by omega) rfl (fun q => c5 ⟨rfl, q⟩) h
                      rw [e5 (by omega)] at e3
                      have e3' : vs' = r := e3
                      subst e3'
                      obtain ⟨l1, l2, l3⟩ := b3 rfl
                      have l2' : ph' = 0 := l2
                      subst l2'
                      rw [if_pos rfl, if_neg (by omega), e1]
                      exact ⟨rfl, v', vs', rfl, Or.inr ⟨rfl, l1, e2, b5, l3⟩⟩
                    · have hts : isTs k = false := by
                        unfold isTs
                        simp
                        omega
                      obtain ⟨j1, hb, hp, e7, v', r, e1, e2, b1, b2, b4, b5⟩ := ty_j0 hts h
                      rw [if_neg c9, e1]
                      by_cases c10 : k = 4
                      · subst c10
                        rw [if_pos rfl] at b5 ⊢
                        obtain ⟨u, r', rfl, hu, hR⟩ := b5
                        have hpr := b2 (Or.inr rfl)
                        rw [app_2 (by omega)]
                        exact ⟨rfl, _, _, rfl, Or.inl ⟨(tyR_i.mp hR).1, jnD_bd (by omega) hu e2, hR⟩⟩
                      · rw [if_neg c10] at b5 ⊢
                        exact ⟨rfl, _, _, rfl, Or.inl ⟨(tyR_i.mp b5).1, e2, b5⟩⟩
                · rw [if_neg c8] at hs; cases hs
end
end
section
/-! the model's formulas: its heaps in memory -/
/-- a sort of code, others beyond all -/
def uW (x : Int32) : Nat := if 0 ≤ x.toInt ∧ ¬ (5 ≤ x.toInt ∧ x.toInt ≤ 8) then x.toInt.toNat else 99
theorem uW_n {o : Nat} (h : o ≤ 22) (h2 : o ≤ 4 ∨ 9 ≤ o) : uW (nI o) = o := by unfold uW; rw [ni_ti (by omega), if_pos (by omega)]; omega
theorem uW_i {x : Int32} {o : Nat} (h : uW x = o) (ho : o ≤ 22) : x = nI o ∧ (o ≤ 4 ∨ 9 ≤ o) := by
  unfold uW at h
  split at h
  · refine ⟨?_, by omega⟩
    rw [← Int32.toInt_inj, ni_ti (by omega)]
    omega
  · omega
def insM (M : am_M) (z k : Nat) : Nat × Int := (uW (mI M 304 (1800 * z + k)), (mI M 305 (1800 * z + k)).toInt)
def CdM (M : am_M) (z a c : Nat) (vs : List Den) : Prop := a ≤ c ∧ wfD 1850 (insM M z) a (c - a) ∧ cdD (insM M z) a (c - a) = vs
def FmM (M : am_M) (z c : Nat) : Prop := mI M 277 40 = nI c ∧ c ≤ 1800 ∧ mI M 277 41 = nI z ∧ z ≤ 1
def sFm (z c a j : Nat) : Prop := (a = 277 ∧ ((3 ≤ j ∧ j ≤ 9) ∨ j = 40 ∨ j = 47 ∨ j = 48 ∨ j = 50 ∨ j = 51)) ∨ ((a = 304 ∨ a = 305) ∧ 1800 * z + c ≤ j ∧ j < 1800 * z + 1800) ∨ (306 ≤ a ∧ a ≤ 311)
theorem CdM_g {M M' : am_M} {z a c : Nat} {vs : List Den} {S T' : Nat → Nat → Prop} (h : CdM M z a c vs) (hg : gF S T' M M') (hS : ∀ b j, b = 304 ∨ b = 305 → 1800 * z ≤ j → j < 1800 * z + c → ¬ S b j) : CdM M' z a c vs := by
  obtain ⟨h1, h2, h3⟩ := h
  have e : ∀ j, j < c - a → insM M z (a + j) = insM M' z (a + j) := fun j hj => by unfold insM; rw [hg.1 _ _ (hS 304 _ (Or.inl rfl) (by omega) (by omega)), hg.1 _ _ (hS 305 _ (Or.inr rfl) (by omega) (by omega))]
  exact ⟨h1, wfD_ext e h2, by rw [← cdD_ext e]; exact h3⟩
theorem FmM_g {M M' : am_M} {z c : Nat} {S T' : Nat → Nat → Prop} (h : FmM M z c) (hg : gF S T' M M') (hS : ∀ j, j = 40 ∨ j = 41 → ¬ S 277 j) : FmM M' z c := ⟨by rw [hg.1 _ _ (hS _ (Or.inl rfl))]; exact h.1, h.2.1, by rw [hg.1 _ _ (hS _ (Or.inr rfl))]; exact h.2.2.1, h.2.2.2⟩
def addM (M : am_M) (z c : Nat) (s v : Int32) : am_M := uI (uI (uI M 304 (1800 * z + c) s) 305 (1800 * z + c) v) 277 40 (nI (c + 1))
theorem m_add (d z c : Nat) (s v : Int32) (M : am_M) (Q : Option Value → am_M → Prop) (hL : Lay M) (hF : FmM M z c) (hc : c < 1800) : am_E am_P0 d 183 [.ref 277, .int s, .int v] M Q ↔ Q none (addM M z c s v) := by
  obtain ⟨f1, f2, f3, f4⟩ := hF
  have e : (1800 : Int32) * nI z + nI c = nI (1800 * z + c) := by rw [show (1800 : Int32) = nI 1800 from rfl, ni_mul, ni_add]
  rw [eX11_add]
  simp +decide (disch := omega) only [qX11_add, lm hL, f1, f3, e, ni_in_t, ni_tn, ni_add1, am_w1_i, am_w1_r, am_w1_x, am_w1_l, am_w1_w, va_rf_s, am_push_n, am_push_s, am_cs_0, am_cs_i, am_cs_l, am_cs_r, m_uI_K, m_uI_N, m_uI_R, m_uI_L, m_uI_I, m_uL_K, m_uL_N, m_uL_R, m_uL_I, m_uL_L, m_uR_K, m_uR_N, m_uR_I, m_uR_L, m_uR_R, true_and, and_true, true_implies, false_implies, not_true_eq_false, not_false_eq_true, if_true, if_false, false_and, and_false]
  exact Iff.rfl
theorem gF_add {M : am_M} {z a c : Nat} {s v : Int32} (h1 : a ≤ c) (hc : c < 1800) : gF (sFm z a) nT M (addM M z c s v) := gF_trans (gF_i _ (Or.inr (Or.inl ⟨Or.inl rfl, by omega, by omega⟩))) (gF_trans (gF_i _ (Or.inr (Or.inl ⟨Or.inr rfl, by omega, by omega⟩))) (gF_i _ (Or.inl ⟨rfl, Or.inr (Or.inl rfl)⟩)))
theorem CdM_e {M : am_M} {z a c : Nat} {vs : List Den} (s v : Int32) (hc : c < 1800) (h : CdM M z a c vs) (ho : opOK 1850 (uW s, v.toInt) vs) : CdM (addM M z c s v) z a (c + 1) (stD (uW s, v.toInt) vs) := by
  obtain ⟨h1, h2, h3⟩ := CdM_g h (gF_add (s := s) (v := v) (Nat.le_refl c) hc) (fun b j q1 q2 q3 w => by unfold sFm at w; omega)
  have ei : insM (addM M z c s v) z c = (uW s, v.toInt) := by
    unfold insM addM
    rw [m_uI_I, if_neg (by omega), m_uI_I, if_neg (by omega), m_uI_I, if_pos ⟨rfl, rfl⟩, m_uI_I, if_neg (by omega), m_uI_I, if_pos ⟨rfl, rfl⟩]
  have ec : a + (c - a) = c := by omega
  refine ⟨by omega, ?_, ?_⟩
  · rw [show c + 1 - a = (c - a) + 1 by omega]
    exact wfD_succ h2 (by rw [ec, ei, h3]; exact ho)
  · rw [show c + 1 - a = (c - a) + 1 by omega]
    show stD (insM _ z (a + (c - a))) (cdD _ a (c - a)) = _
    rw [ec, ei, h3]
theorem FmM_e {M : am_M} {z c : Nat} {s v : Int32} (h : FmM M z c) (hc : c < 1800) : FmM (addM M z c s v) z (c + 1) := by
  obtain ⟨f1, f2, f3, f4⟩ := h
  refine ⟨?_, by omega, ?_, f4⟩ <;> unfold addM
  · rw [m_uI_I, if_pos ⟨rfl, rfl⟩]
  · rw [m_uI_I, if_neg (by omega), m_uI_I, if_neg (by omega), m_uI_I, if_neg (by omega)]; exact f3
def OpM (M : am_M) (b : Nat) : List Nat → Prop
  | [] => True
  | o :: os => mI M 311 (b + os.length) = nI o ∧ o ≤ 22 ∧ OpM M b os
def HpM (M : am_M) : List Frm → Prop
  | [] => True
  | f :: F => mI M 306 F.length = nI f.1 ∧ mI M 307 F.length = nI f.2.1 ∧ mI M 308 F.length = b01 f.2.2.1 ∧ (f.1 = 3 ∨ f.1 = 4 → mI M 309 F.length = nI f.2.2.2.1) ∧ mI M 310 F.length = nI (sumO F) ∧ OpM M (sumO F) f.2.2.2.2 ∧ HpM M F
theorem OpM_g {M M' : am_M} {b : Nat} {S T' : Nat → Nat → Prop} (hg : gF S T' M M') : ∀ (os : List Nat), OpM M b os → (∀ j, b ≤ j → j < b + os.length → ¬ S 311 j) → OpM M' b os := by
  intro os
  induction os with
  | nil => intro h _; exact h
  | cons o os ih =>
    intro h hS
    rw [List.length_cons] at hS
    exact ⟨by rw [hg.1 _ _ (hS _ (by omega) (by omega))]; exact h.1, h.2.1, ih h.2.2 (fun j q1 q2 => hS j q1 (by omega))⟩
theorem HpM_g {M M' : am_M} {S T' : Nat → Nat → Prop} (hg : gF S T' M M') : ∀ (F : List Frm), HpM M F → (∀ b j, 306 ≤ b → b ≤ 310 → j < F.length → ¬ S b j) → (∀ j, j < sumO F → ¬ S 311 j) → HpM M' F := by
  intro F
  induction F with
  | nil => intro h _ _; exact h
  | cons f F ih =>
    intro h hS hO
    rw [List.length_cons] at hS
    have eO : sumO (f :: F) = sumO F + f.2.2.2.2.length := rfl
    rw [eO] at hO
    obtain ⟨h1, h2, h3, h4, h5, h6, h7⟩ := h
    have k : ∀ b, 306 ≤ b → b ≤ 310 → mI M' b F.length = mI M b F.length := fun b q1 q2 => hg.1 _ _ (hS b _ q1 q2 (by omega))
    exact ⟨by rw [k _ (by omega) (by omega)]; exact h1, by rw [k _ (by omega) (by omega)]; exact h2, by rw [k _ (by omega) (by omega)]; exact h3, fun q => by rw [k _ (by omega) (by omega)]; exact h4 q, by rw [k _ (by omega) (by omega)]; exact h5, OpM_g hg _ h6 (fun j q1 q2 => hO j (by omega)), ih h7 (fun b j q1 q2 q3 => hS b j q1 q2 (by omega)) (fun j q => hO j (by omega))⟩
theorem m_rank (d o : Nat) (M : am_M) (Q : Option Value → am_M → Prop) (ho : o ≤ 22) : am_E am_P0 d 184 [.int (nI o)] M Q ↔ Q (some (.int (nI (rnk o)))) M := by
  have key : ∀ k, k ≤ 22 → (nI o = nI k ↔ o = k) := fun k hk => ni_eq (by omega) (by omega)
  have e21 := key 21 (by omega)
  have e20 := key 20 (by omega)
  have e22 := key 22 (by omega)
  have e17 := key 17 (by omega)
  have e18 := key 18 (by omega)
  have e19 := key 19 (by omega)
  have e10 := key 10 (by omega)
  have e11 := key 11 (by omega)
  rw [show nI 21 = (21 : Int32) from rfl] at e21
  rw [show nI 20 = (20 : Int32) from rfl] at e20
  rw [show nI 22 = (22 : Int32) from rfl] at e22
  rw [show nI 17 = (17 : Int32) from rfl] at e17
  rw [show nI 18 = (18 : Int32) from rfl] at e18
  rw [show nI 19 = (19 : Int32) from rfl] at e19
  rw [show nI 10 = (10 : Int32) from rfl] at e10
  rw [show nI 11 = (11 : Int32) from rfl] at e11
  rw [eX11_rank]
  unfold rnk
  simp +decide only [qX11_rank, e21, e20, e22, e17, e18, e19, e10, e11, am_w1_i, am_w1_r, am_w1_x, am_w1_l, am_w1_w, va_rf_s, am_push_n, am_push_s, am_cs_0, am_cs_i, am_cs_l, am_cs_r, m_uI_K, m_uI_N, m_uI_R, m_uI_L, m_uI_I, m_uL_K, m_uL_N, m_uL_R, m_uL_I, m_uL_L, m_uR_K, m_uR_N, m_uR_I, m_uR_L, m_uR_R, true_and, and_true, true_implies, false_implies, not_true_eq_false, not_false_eq_true, if_true, if_false, false_and, and_false]
  by_cases c1 : o = 21
  · rw [br_r c1, if_pos c1]; exact Iff.rfl
  rw [br_q c1, if_neg c1]
  by_cases c2 : o = 20
  · rw [br_r c2, if_pos c2]; exact Iff.rfl
  rw [br_q c2, if_neg c2]
  by_cases c3 : o = 22
  · rw [br_r c3, if_pos c3]; exact Iff.rfl
  rw [br_q c3, if_neg c3]
  by_cases c4 : o = 17
  · rw [br_p c4, if_pos (Or.inl c4)]; exact Iff.rfl
  rw [br_n c4]
  by_cases c5 : o = 18
  · rw [br_p c5, if_pos (Or.inr (Or.inl c5))]; exact Iff.rfl
  rw [br_n c5]
  by_cases c6 : o = 19
  · rw [br_r c6, if_pos (Or.inr (Or.inr c6))]; exact Iff.rfl
  rw [br_q c6, if_neg (by omega)]
  by_cases c7 : o = 10
  · rw [br_p c7, if_pos (Or.inl c7)]; exact Iff.rfl
  rw [br_n c7]
  by_cases c8 : o = 11
  · rw [br_r c8, if_pos (Or.inr c8)]; exact Iff.rfl
  rw [br_q c8, if_neg (by omega)]
  exact Iff.rfl
theorem m_isTest (d k : Nat) (M : am_M) (Q : Option Value → am_M → Prop) (hk : k ≤ 5) : am_E am_P0 d 189 [.int (nI k)] M Q ↔ Q (some (.int (b01 (isTs k)))) M := by
  have e1 : nI k = 1 ↔ k = 1 := ni_eq (a := k) (b := 1) (by omega) (by omega)
  have e5 : nI k = 5 ↔ k = 5 := ni_eq (a := k) (b := 5) (by omega) (by omega)
  rw [eX11_isTest]
  simp +decide only [qX11_isTest, e1, e5, am_w1_i, am_w1_r, am_w1_x, am_w1_l, am_w1_w, va_rf_s, am_push_n, am_push_s, am_cs_0, am_cs_i, am_cs_l, am_cs_r, m_uI_K, m_uI_N, m_uI_R, m_uI_L, m_uI_I, m_uL_K, m_uL_N, m_uL_R, m_uL_I, m_uL_L, m_uR_K, m_uR_N, m_uR_I, m_uR_L, m_uR_R, true_and, and_true, true_implies, false_implies, not_true_eq_false, not_false_eq_true, if_true, if_false, false_and, and_false]
  by_cases c1 : k = 1
  · subst c1; rw [br_p rfl]; exact Iff.rfl
  rw [br_n c1]
  by_cases c2 : k = 5
  · subst c2; rw [br_r rfl]; exact Iff.rfl
  rw [br_q c2]
  have : isTs k = false := by unfold isTs; simp; omega
  rw [this]; exact Iff.rfl
theorem op_st {o : Nat} {vs : List Den} (h : 10 ≤ o) : stD (o, 0) vs = appD o vs := by unfold stD; rw [if_neg (by dsimp only; omega)]
/-- joining changes these -/
def sJm (z c a j : Nat) : Prop := (a = 277 ∧ (j = 40 ∨ j = 50)) ∨ ((a = 304 ∨ a = 305) ∧ 1800 * z + c ≤ j ∧ j < 1800 * z + 1800)
theorem sJm_F {M M' : am_M} {z a : Nat} (h : gF (sJm z a) nT M M') : gF (sFm z a) nT M M' := gF_up h (fun a j q => by unfold sJm at q; unfold sFm; omega) (fun _ _ q => q)
theorem l_m_joins (d z a l b dp : Nat) (M0 : am_M) (Q : Option Value → am_M → Prop) (hL : Lay M0) (hl : l ≤ 6) (hdp : dp < 20) (hdeep : mI M0 277 47 = nI (dp + 1)) (hbase : mI M0 310 dp = nI b) : ∀ (os : List Nat) (vs : List Den) (c : Nat) (M : am_M), gF (sJm z a) nT M0 M → (∀ o, o ∈ os → 10 ≤ o) → OpM M b os → b + os.length ≤ 500 → mI M 277 50 = nI (b + os.length) → FmM M z c → CdM M z a c vs → jok l os vs → c + os.length ≤ 1800 →
    (∀ M' c', gF (sJm z a) nT M0 M' → c' + (jns l os vs).1.length = c + os.length → FmM M' z c' → CdM M' z a c' (jns l os vs).2 → mI M' 277 50 = nI (b + (jns l os vs).1.length) → OpM M' b (jns l os vs).1 → Q none M') → am_P am_P0 (d + 1) (am_look tX11_joins) 0 [.ref 277, .int (nI l)] [] M Q := by
  intro os
  induction os with
  | nil =>
    intro vs c M hM hten hO hb hm hF hC hj hc hQ
    have h0 := hQ M c hM rfl hF hC hm hO
    have hLM := gF_LayN hM hL
    rw [← hM.1 277 47 (fun q => by unfold sJm at q; omega)] at hdeep
    rw [← hM.1 310 dp (fun q => by unfold sJm at q; omega)] at hbase
    have hle : nI (b + ([] : List Nat).length) ≤ nI b := (ni_le (by simp; omega) (by omega)).mpr (by simp)
    rw [hX11_joins_0]
    simp +decide (disch := omega) only [qX11_joins, lm hLM, hdeep, hbase, hm, ni_in_t, ni_tn, ni_sub1, am_w1_i, am_w1_r, am_w1_x, am_w1_l, am_w1_w, va_rf_s, am_push_n, am_push_s, am_cs_0, am_cs_i, am_cs_l, am_cs_r, m_uI_K, m_uI_N, m_uI_R, m_uI_L, m_uI_I, m_uL_K, m_uL_N, m_uL_R, m_uL_I, m_uL_L, m_uR_K, m_uR_N, m_uR_I, m_uR_L, m_uR_R, true_and, and_true, true_implies, false_implies, not_true_eq_false, not_false_eq_true, if_true, if_false, false_and, and_false]
    rw [br_p hle]
    exact h0
  | cons o os ih =>
    intro vs c M hM hten hO hb hm hF hC hj hc hQ
    obtain ⟨o1, o2, o3⟩ := hO
    have hten' := hten o (List.mem_cons_self ..)
    have hLM := gF_LayN hM hL
    have hd1 := hdeep
    have hb1 := hbase
    rw [← hM.1 277 47 (fun q => by unfold sJm at q; omega)] at hd1
    rw [← hM.1 310 dp (fun q => by unfold sJm at q; omega)] at hb1
    rw [List.length_cons] at hb hm hc
    rw [show b + (os.length + 1) = b + os.length + 1 by omega] at hm
    have hle : ¬ nI (b + os.length + 1) ≤ nI b := by rw [ni_le (by omega) (by omega)]; omega
    have hrk := fun Q => m_rank d o M Q o2
    have hrb := rnk_b o
    rw [hX11_joins_0]
    simp +decide (disch := omega) only [qX11_joins, lm hLM, hd1, hb1, hm, o1, hrk, ni_in_t, ni_tn, ni_sub1, am_w1_i, am_w1_r, am_w1_x, am_w1_l, am_w1_w, va_rf_s, am_push_n, am_push_s, am_cs_0, am_cs_i, am_cs_l, am_cs_r, m_uI_K, m_uI_N, m_uI_R, m_uI_L, m_uI_I, m_uL_K, m_uL_N, m_uL_R, m_uL_I, m_uL_L, m_uR_K, m_uR_N, m_uR_I, m_uR_L, m_uR_R, true_and, and_true, true_implies, false_implies, not_true_eq_false, not_false_eq_true, if_true, if_false, false_and, and_false]
    rw [br_n hle]
    rw [jns_c] at hQ
    by_cases cr : l ≤ rnk o
    · rw [if_pos cr] at hQ
      obtain ⟨j1, j2⟩ := hj cr
      have hnl : ¬ nI (rnk o) < nI l := by rw [ni_lt (by omega) (by omega)]; omega
      rw [br_n hnl]
      have g1 : gF (sJm z a) nT M (uI M 277 50 (nI (b + os.length))) := gF_i _ (Or.inl ⟨rfl, Or.inr rfl⟩)
      have F1 : FmM (uI M 277 50 (nI (b + os.length))) z c := by
        obtain ⟨f1, f2, f3, f4⟩ := hF
        exact ⟨by rw [m_uI_I, if_neg (by omega)]; exact f1, f2, by rw [m_uI_I, if_neg (by omega)]; exact f3, f4⟩
      have C1 : CdM (uI M 277 50 (nI (b + os.length))) z a c vs := CdM_g hC (gF_i (S := fun a j => a = 277 ∧ j = 50) (T := nT) _ ⟨rfl, rfl⟩) (fun b' j q1 q2 q3 w => by omega)
      have hadd := fun Q => m_add d z c (nI o) 0 (uI M 277 50 (nI (b + os.length))) Q hLM F1 (by omega)
      have hz : uW (nI o) = o := uW_n (by omega) (by omega)
      have hC2 := CdM_e (nI o) 0 (by omega) C1 (by rw [hz]; exact j1)
      rw [hz] at hC2
      have est : stD (o, (0 : Int32).toInt) vs = appD o vs := op_st hten'
      rw [est] at hC2
      have g2 : gF (sJm z a) nT M (addM (uI M 277 50 (nI (b + os.length))) z c (nI o) 0) := gF_trans g1 (gF_trans (gF_i _ (Or.inr ⟨Or.inl rfl, by have := hC.1; omega, by omega⟩)) (gF_trans (gF_i _ (Or.inr ⟨Or.inr rfl, by have := hC.1; omega, by omega⟩)) (gF_i _ (Or.inl ⟨rfl, Or.inl rfl⟩))))
      have h0 := ih (appD o vs) (c + 1) _ (gF_trans hM g2) (fun x hx => hten x (List.mem_cons_of_mem _ hx)) (OpM_g g2 os o3 (fun j _ _ w => by unfold sJm at w; omega)) (by omega) (by unfold addM; simp [m_uI_I]) (FmM_e F1 (by omega)) hC2 j2 (by omega) (fun M' c' g' e' => hQ M' c' g' (by rw [List.length_cons]; omega))
      simp +decide (disch := omega) only [qX11_joins, lm hLM, o1, hadd, ni_in_t, ni_tn, am_w1_i, am_w1_r, am_w1_x, am_w1_l, am_w1_w, va_rf_s, am_push_n, am_push_s, am_cs_0, am_cs_i, am_cs_l, am_cs_r, m_uI_K, m_uI_N, m_uI_R, m_uI_L, m_uI_I, m_uL_K, m_uL_N, m_uL_R, m_uL_I, m_uL_L, m_uR_K, m_uR_N, m_uR_I, m_uR_L, m_uR_R, true_and, and_true, true_implies, false_implies, not_true_eq_false, not_false_eq_true, if_true, if_false, false_and, and_false]
      exact h0
    · rw [if_neg cr] at hQ
      have hnl : nI (rnk o) < nI l := (ni_lt (by omega) (by omega)).mpr (by omega)
      rw [br_p hnl]
      exact hQ M c hM rfl hF hC (by rw [List.length_cons]; exact hm) ⟨o1, o2, o3⟩
end
section
/-! the model's formulas: words, brackets, one step ahead -/
def nPr : List Frm → Nat
  | [] => 0
  | f :: F => nPr F + (if f.1 = 3 ∨ f.1 = 4 then 1 else 0)
def PzM (M : am_M) (z a c : Nat) (F : List Frm) (vs : List Den) : Prop := FmM M z c ∧ CdM M z a c vs ∧ HpM M F ∧ mI M 277 47 = nI F.length ∧ mI M 277 48 = nI (F.length - 1) ∧ mI M 277 50 = nI (sumO F)
theorem PzM_g {M M' : am_M} {z a c : Nat} {F : List Frm} {vs : List Den} {S T' : Nat → Nat → Prop} (h : PzM M z a c F vs) (hg : gF S T' M M') (hS : ∀ b j, S b j → ¬ (b = 277 ∧ (j = 40 ∨ j = 41 ∨ j = 47 ∨ j = 48 ∨ j = 50)) ∧ ¬ (304 ≤ b ∧ b ≤ 311)) : PzM M' z a c F vs := by
  obtain ⟨h1, h2, h3, h4, h5, h6⟩ := h
  refine ⟨FmM_g h1 hg (fun j q w => (hS _ _ w).1 ⟨rfl, by omega⟩), CdM_g h2 hg (fun b j q _ _ w => (hS _ _ w).2 (by omega)), HpM_g hg F h3 (fun b j q1 q2 _ w => (hS _ _ w).2 (by omega)) (fun j _ w => (hS _ _ w).2 (by omega)), ?_, ?_, ?_⟩
  · rw [hg.1 _ _ (fun w => (hS _ _ w).1 ⟨rfl, by omega⟩)]; exact h4
  · rw [hg.1 _ _ (fun w => (hS _ _ w).1 ⟨rfl, by omega⟩)]; exact h5
  · rw [hg.1 _ _ (fun w => (hS _ _ w).1 ⟨rfl, by omega⟩)]; exact h6
theorem PzM_R {M M' : am_M} {z a c : Nat} {F : List Frm} {vs : List Den} (h : PzM M z a c F vs) (hg : gF sRm nT M M') : PzM M' z a c F vs := PzM_g h hg (fun b j q => by unfold sRm at q; omega)
theorem sRm_F {M M' : am_M} {z a : Nat} (h : gF sRm nT M M') : gF (sFm z a) nT M M' := gF_up h (fun a j q => by unfold sRm at q; unfold sFm; omega) (fun _ _ q => q)
section
variable {T : Nat → Nat} {n : Nat}
def MsM (T : Nat → Nat) (n : Nat) (M : am_M) (z a c : Nat) (s : Mst) : Prop := RdM M T n s.1 ∧ PzM M z a c s.2.1 s.2.2.1 ∧ c + sumO s.2.1 + nPr s.2.1 ≤ tS s.1
def RsM (T : Nat → Nat) (n : Nat) (M : am_M) (z a : Nat) : Sum (Nat × Nat) (Mst × Bool) → Prop
  | .inl e => FtM M T n e.1 e.2
  | .inr q => ∃ c, MsM T n M z a c q.1
theorem m_advS (d z a c : Nat) (t : Tok) (F : List Frm) (vs : List Den) (o : Bool) (M : am_M) (Q : Option Value → am_M → Prop) (hL : Lay M) (hR : RdM M T n t) (h0 : ¬ t.1 = 0) (hP : PzM M z a c F vs) (hc : c + sumO F + nPr F ≤ tS t + 1)
    (hQ : ∀ M', gF sRm nT M M' → PzM M' z a c F vs → RsM T n M' z a (mAdv T n t (fun t1 => (t1, F, vs, o))) → Q none M') : am_E am_P0 (d + 1) 174 [.ref 277] M Q := by
  refine m_adv d t M Q hL hR (fun M1 g1 h1 => hQ M1 g1 (PzM_R hP g1) ?_)
  have hk := tkG_0 hR.2.2.2.2.2.2.2.2 h0
  unfold advR at h1
  unfold mAdv
  by_cases c4 : (tk T n (tE t)).1 = 4
  · rw [if_pos c4] at h1 ⊢; exact h1
  · rw [if_neg c4] at h1 ⊢
    exact ⟨c, h1, PzM_R hP g1, by dsimp only; omega⟩
theorem m_word1 (d k : Nat) (w : Int64) (l : List Nat) (t : Tok) (M : am_M) (Q : Option Value → am_M → Prop) (hL : Lay M) (hR : RdM M T n t) (hk : k < 27) (h1 : ownW.getD k [] = l) (h2 : wdL l = w) : am_E am_P0 d 176 [.ref 277, .long w] M Q ↔ Q (some (.int (b01 (isW t l)))) M := by
  subst h2 h1
  exact m_isWord d k t M Q hL hR hk
theorem m_words (d : Nat) (t : Tok) (M : am_M) (hL : Lay M) (hR : RdM M T n t) : (∀ Q, am_E am_P0 d 176 [.ref 277, .long 7237492] M Q ↔ Q (some (.int (b01 (isW t wNot)))) M) ∧ (∀ Q, am_E am_P0 d 176 [.ref 277, .long 6384748] M Q ↔ Q (some (.int (b01 (isW t wAll)))) M) ∧ (∀ Q, am_E am_P0 d 176 [.ref 277, .long 7170414] M Q ↔ Q (some (.int (b01 (isW t wMin)))) M) ∧ (∀ Q, am_E am_P0 d 176 [.ref 277, .long 7168376] M Q ↔ Q (some (.int (b01 (isW t wMax)))) M) ∧ (∀ Q, am_E am_P0 d 176 [.ref 277, .long 109330212154734] M Q ↔ Q (some (.int (b01 (isW t wCol)))) M) ∧ (∀ Q, am_E am_P0 d 176 [.ref 277, .long 7499639] M Q ↔ Q (some (.int (b01 (isW t wRow)))) M) ∧ (∀ Q, am_E am_P0 d 176 [.ref 277, .long 1752135026] M Q ↔ Q (some (.int (b01 (isW t wHour)))) M) ∧ (∀ Q, am_E am_P0 d 176 [.ref 277, .long 431198598248] M Q ↔ Q (some (.int (b01 (isW t wDepth)))) M) ∧ (∀ Q, am_E am_P0 d 176 [.ref 277, .long 6385252] M Q ↔ Q (some (.int (b01 (isW t wAnd)))) M) ∧ (∀ Q, am_E am_P0 d 176 [.ref 277, .long 28530] M Q ↔ Q (some (.int (b01 (isW t wOr)))) M) :=
  ⟨fun Q => m_word1 d 21 _ _ t M Q hL hR (by omega) rfl (by decide), fun Q => m_word1 d 22 _ _ t M Q hL hR (by omega) rfl (by decide), fun Q => m_word1 d 25 _ _ t M Q hL hR (by omega) rfl (by decide), fun Q => m_word1 d 26 _ _ t M Q hL hR (by omega) rfl (by decide), fun Q => m_word1 d 23 _ _ t M Q hL hR (by omega) rfl (by decide), fun Q => m_word1 d 24 _ _ t M Q hL hR (by omega) rfl (by decide), fun Q => m_word1 d 16 _ _ t M Q hL hR (by omega) rfl (by decide), fun Q => m_word1 d 1 _ _ t M Q hL hR (by omega) rfl (by decide), fun Q => m_word1 d 20 _ _ t M Q hL hR (by omega) rfl (by decide), fun Q => m_word1 d 19 _ _ t M Q hL hR (by omega) rfl (by decide)⟩
theorem m_signs (d : Nat) (t : Tok) (M : am_M) (hL : Lay M) (hR : RdM M T n t) : ∀ c, c < 256 → ∀ Q, am_E am_P0 d 175 [.ref 277, .int (nI c)] M Q ↔ Q (some (.int (b01 (isS t c)))) M := fun c hc Q => m_isSign d c t M Q hL hR hc
/-- a frame laid on, its pair aside -/
def NwM (M : am_M) (z a c k : Nat) (F : List Frm) (vs : List Den) : Prop := FmM M z c ∧ CdM M z a c vs ∧ HpM M F ∧ mI M 277 47 = nI (F.length + 1) ∧ mI M 277 48 = nI F.length ∧ mI M 277 50 = nI (sumO F) ∧ mI M 306 F.length = nI k ∧ mI M 307 F.length = 0 ∧ mI M 308 F.length = 1 ∧ mI M 310 F.length = nI (sumO F)
theorem NwM_P {M : am_M} {z a c k : Nat} {F : List Frm} {vs : List Den} (h : NwM M z a c k F vs) (hk : ¬ k = 3 ∧ ¬ k = 4) (pr : Nat) : PzM M z a c ((k, 0, true, pr, []) :: F) vs := by
  obtain ⟨h1, h2, h3, h4, h5, h6, h7, h8, h9, h10⟩ := h
  exact ⟨h1, h2, ⟨h7, h8, h9, fun q => by dsimp only at q; omega, h10, trivial, h3⟩, h4, h5, h6⟩
theorem NwM_P3 {M : am_M} {z a c : Nat} {F : List Frm} {vs : List Den} (h : NwM M z a c 3 F vs) (pr : Nat) : PzM (uI M 309 F.length (nI pr)) z a c ((3, 0, true, pr, []) :: F) vs := by
  have g : gF (fun b j => b = 309 ∧ j = F.length) nT M (uI M 309 F.length (nI pr)) := gF_i _ ⟨rfl, rfl⟩
  obtain ⟨h1, h2, h3, h4, h5, h6, h7, h8, h9, h10⟩ := h
  refine ⟨FmM_g h1 g (fun j q w => by omega), CdM_g h2 g (fun b j q _ _ w => by omega), ⟨?_, ?_, ?_, fun _ => ?_, ?_, trivial, HpM_g g F h3 (fun b j q1 q2 q3 w => by omega) (fun j _ w => by omega)⟩, ?_, ?_, ?_⟩
  · rw [m_uI_I, if_neg (by omega)]; exact h7
  · rw [m_uI_I, if_neg (by omega)]; exact h8
  · rw [m_uI_I, if_neg (by omega)]; exact h9
  · rw [m_uI_I, if_pos ⟨rfl, rfl⟩]
  · rw [m_uI_I, if_neg (by omega)]; exact h10
  · rw [m_uI_I, if_neg (by omega)]; exact h4
  · rw [m_uI_I, if_neg (by omega)]; exact h5
  · rw [m_uI_I, if_neg (by omega)]; exact h6
def psM (M : am_M) (l k : Nat) (m : Int32) : am_M := uI (uI (uI (uI (uI M 306 l (nI k)) 307 l 0) 308 l 1) 310 l m) 277 47 (nI (l + 1))
theorem m_pushes (d l k : Nat) (M : am_M) (Q : Option Value → am_M → Prop) (hL : Lay M) (hl : mI M 277 47 = nI l) (hl2 : l < 20) : am_E am_P0 d 187 [.ref 277, .int (nI k)] M Q ↔ Q none (psM M l k (mI M 277 50)) := by
  rw [eX11_pushes]
  simp +decide (disch := omega) only [qX11_pushes, lm hL, hl, ni_in_t, ni_tn, ni_add1, am_w1_i, am_w1_r, am_w1_x, am_w1_l, am_w1_w, va_rf_s, am_push_n, am_push_s, am_cs_0, am_cs_i, am_cs_l, am_cs_r, m_uI_K, m_uI_N, m_uI_R, m_uI_L, m_uI_I, m_uL_K, m_uL_N, m_uL_R, m_uL_I, m_uL_L, m_uR_K, m_uR_N, m_uR_I, m_uR_L, m_uR_R, true_and, and_true, true_implies, false_implies, not_true_eq_false, not_false_eq_true, if_true, if_false, false_and, and_false]
  exact Iff.rfl
theorem gF_psM {M : am_M} {l k : Nat} {m : Int32} : gF (fun b j => (306 ≤ b ∧ b ≤ 310 ∧ j = l) ∨ (b = 277 ∧ j = 47)) nT M (psM M l k m) :=
  gF_trans (gF_i _ (Or.inl ⟨by omega, by omega, rfl⟩)) (gF_trans (gF_i _ (Or.inl ⟨by omega, by omega, rfl⟩)) (gF_trans (gF_i _ (Or.inl ⟨by omega, by omega, rfl⟩)) (gF_trans (gF_i _ (Or.inl ⟨by omega, by omega, rfl⟩)) (gF_i _ (Or.inr ⟨rfl, rfl⟩)))))
theorem NwM_ps {M : am_M} {z a c k : Nat} {F : List Frm} {vs : List Den} (h1 : FmM M z c) (h2 : CdM M z a c vs) (h3 : HpM M F) (h5 : mI M 277 48 = nI F.length) (h6 : mI M 277 50 = nI (sumO F)) : NwM (psM M F.length k (nI (sumO F))) z a c k F vs := by
  have g : gF _ nT M (psM M F.length k (nI (sumO F))) := gF_psM
  refine ⟨FmM_g h1 g (fun j q w => by omega), CdM_g h2 g (fun b j q _ _ w => by omega), HpM_g g F h3 (fun b j q1 q2 q3 w => by omega) (fun j _ w => by omega), ?_, ?_, ?_, ?_, ?_, ?_, ?_⟩
  · unfold psM; rw [m_uI_I, if_pos ⟨rfl, rfl⟩]
  · rw [g.1 _ _ (fun w => by omega)]; exact h5
  · rw [g.1 _ _ (fun w => by omega)]; exact h6
  · unfold psM; simp [m_uI_I]
  · unfold psM; simp [m_uI_I]
  · unfold psM; simp [m_uI_I]
  · unfold psM; simp [m_uI_I]
/-- a bracket is opened -/
theorem m_opens (d z a c k : Nat) (t : Tok) (F : List Frm) (vs : List Den) (M : am_M) (Q : Option Value → am_M → Prop) (hL : Lay M) (hR : RdM M T n t) (h0 : ¬ t.1 = 0) (hP : PzM M z a c F vs) (hF : 1 ≤ F.length ∧ F.length ≤ 9)
    (hf : F.length = 9 → ∀ M', gF sRm nT M M' → FtM M' T n 5 (tS t) → Q none M')
    (h4 : ¬ F.length = 9 → (tk T n (tE t)).1 = 4 → ∀ M', gF (sFm z a) nT M M' → FtM M' T n 1 (tS (tk T n (tE t))) → Q none M')
    (hQ : ¬ F.length = 9 → ¬ (tk T n (tE t)).1 = 4 → ∀ M', gF (sFm z a) nT M M' → RdM M' T n (tk T n (tE t)) → NwM M' z a c k F vs → Q none M') : am_E am_P0 (d + 2) 188 [.ref 277, .int (nI k)] M Q := by
  obtain ⟨p1, p2, p3, p4, p5, p6⟩ := hP
  have e8 : nI (F.length - 1) = 8 ↔ F.length = 9 := by rw [show (8 : Int32) = nI 8 from rfl, ni_eq (by omega) (by omega)]; omega
  rw [eX11_opens]
  by_cases c9 : F.length = 9
  · have hfm := FtM_0 (k := 5) hR (by omega)
    have hq := hf c9 _ hfm.2 hfm.1
    have hbl := fun Q => m_blame (T := T) (n := n) (d + 1) 5 t M Q hL hR
    have hp := (FtM_pos hfm.1).2.2
    rw [show nI 5 = (5 : Int32) from rfl] at hbl hq hp
    have L1 : Lay (uI (uI M 277 8 5) 277 9 (nI (tS t))) := hL
    rw [e8.mpr c9] at p5
    simp +decide only [qX11_opens, lm hL, p5, hR.2.2.2.2.1, hbl, am_w1_i, am_w1_r, am_w1_x, am_w1_l, am_w1_w, va_rf_s, am_push_n, am_push_s, am_cs_0, am_cs_i, am_cs_l, am_cs_r, m_uI_K, m_uI_N, m_uI_R, m_uI_L, m_uI_I, m_uL_K, m_uL_N, m_uL_R, m_uL_I, m_uL_L, m_uR_K, m_uR_N, m_uR_I, m_uR_L, m_uR_R, true_and, and_true, true_implies, false_implies, not_true_eq_false, not_false_eq_true, if_true, if_false, false_and, and_false]
    exact hq
  · have h8 : ¬ nI (F.length - 1) = 8 := fun q => c9 (e8.mp q)
    simp +decide (disch := omega) only [qX11_opens, lm hL, p5, hR.2.1, am_w1_i, am_w1_r, am_w1_x, am_w1_l, am_w1_w, va_rf_s, am_push_n, am_push_s, am_cs_0, am_cs_i, am_cs_l, am_cs_r, m_uI_K, m_uI_N, m_uI_R, m_uI_L, m_uI_I, m_uL_K, m_uL_N, m_uL_R, m_uL_I, m_uL_L, m_uR_K, m_uR_N, m_uR_I, m_uR_L, m_uR_R, true_and, and_true, true_implies, false_implies, not_true_eq_false, not_false_eq_true, if_true, if_false, false_and, and_false]
    rw [br_q h8]
    simp +decide (disch := omega) only [qX11_opens, lm hL, p5, hR.2.1, ni_add1, am_w1_i, am_w1_r, am_w1_x, am_w1_l, am_w1_w, va_rf_s, am_push_n, am_push_s, am_cs_0, am_cs_i, am_cs_l, am_cs_r, m_uI_K, m_uI_N, m_uI_R, m_uI_L, m_uI_I, m_uL_K, m_uL_N, m_uL_R, m_uL_I, m_uL_L, m_uR_K, m_uR_N, m_uR_I, m_uR_L, m_uR_R, true_and, and_true, true_implies, false_implies, not_true_eq_false, not_false_eq_true, if_true, if_false, false_and, and_false]
    have g0 : gF (fun b j => b = 277 ∧ j = 48) nT M (uI M 277 48 (nI (F.length - 1 + 1))) := gF_i _ ⟨rfl, rfl⟩
    have G0 : gF (sFm z a) nT M (uI M 277 48 (nI (F.length - 1 + 1))) := gF_up g0 (fun b j q => by unfold sFm; omega) (fun _ _ q => q)
    refine m_adv d t _ _ hL (RdM_g hR g0 (fun b j q w => by omega)) (fun M1 g1 s1 => ?_)
    have L1 := gF_LayN g1 (gF_LayN g0 hL)
    have G1 := gF_trans G0 (sRm_F (z := z) (a := a) g1)
    have hl1 : mI M1 277 47 = nI F.length := by rw [g1.1 _ _ (fun w => by unfold sRm at w; omega), g0.1 _ _ (fun w => by omega)]; exact p4
    have ho1 : mI M1 277 50 = nI (sumO F) := by rw [g1.1 _ _ (fun w => by unfold sRm at w; omega), g0.1 _ _ (fun w => by omega)]; exact p6
    have hp48 : mI M1 277 48 = nI F.length := by rw [g1.1 _ _ (fun w => by unfold sRm at w; omega), m_uI_I, if_pos ⟨rfl, rfl⟩]; congr 1; omega
    have hps := fun Q => m_pushes (d + 1) F.length k M1 Q L1 hl1 (by omega)
    have F1 : FmM M1 z c := FmM_g (FmM_g p1 g0 (fun j q w => by omega)) g1 (fun j q w => by unfold sRm at w; omega)
    have C1 : CdM M1 z a c vs := CdM_g (CdM_g p2 g0 (fun b j q _ _ w => by omega)) g1 (fun b j q _ _ w => by unfold sRm at w; omega)
    have H1 : HpM M1 F := HpM_g g1 F (HpM_g g0 F p3 (fun b j q1 q2 _ w => by omega) (fun j _ w => by omega)) (fun b j q1 q2 _ w => by unfold sRm at w; omega) (fun j _ w => by unfold sRm at w; omega)
    have N1 := NwM_ps (k := k) F1 C1 H1 hp48 ho1
    have gp : gF (sFm z a) nT M1 (psM M1 F.length k (nI (sumO F))) := gF_up gF_psM (fun b j q => by unfold sFm; omega) (fun _ _ q => q)
    have hr1 : gF (fun b j => (306 ≤ b ∧ b ≤ 310 ∧ j = F.length) ∨ (b = 277 ∧ j = 47)) nT M1 (psM M1 F.length k (nI (sumO F))) := gF_psM
    simp +decide (disch := omega) only [qX11_opens, lm L1, hps, ho1, am_w1_i, am_w1_r, am_w1_x, am_w1_l, am_w1_w, va_rf_s, am_push_n, am_push_s, am_cs_0, am_cs_i, am_cs_l, am_cs_r, m_uI_K, m_uI_N, m_uI_R, m_uI_L, m_uI_I, m_uL_K, m_uL_N, m_uL_R, m_uL_I, m_uL_L, m_uR_K, m_uR_N, m_uR_I, m_uR_L, m_uR_R, true_and, and_true, true_implies, false_implies, not_true_eq_false, not_false_eq_true, if_true, if_false, false_and, and_false]
    unfold advR at s1
    by_cases c4 : (tk T n (tE t)).1 = 4
    · rw [if_pos c4] at s1
      exact h4 c9 c4 _ (gF_trans G1 gp) (FtM_g s1 hr1 (fun b j q w => by omega))
    · rw [if_neg c4] at s1
      exact hQ c9 c4 _ (gF_trans G1 gp) (RdM_g s1 hr1 (fun b j q w => by omega)) N1
theorem m_opensF (d k : Nat) (e : Nat × Nat) (M : am_M) (Q : Option Value → am_M → Prop) (hL : Lay M) (hR : FtM M T n e.1 e.2) : am_E am_P0 (d + 1) 188 [.ref 277, .int (nI k)] M Q ↔ Q none M := by
  obtain ⟨p1, p2, p3⟩ := FtM_pos hR
  have hbl := fun x p Q => c_m_blame d x p M Q hL
  rw [eX11_opens]
  simp +decide only [qX11_opens, lm hL, hbl, p1, am_w1_i, am_w1_r, am_w1_x, am_w1_l, am_w1_w, va_rf_s, am_push_n, am_push_s, am_cs_0, am_cs_i, am_cs_l, am_cs_r, m_uI_K, m_uI_N, m_uI_R, m_uI_L, m_uI_I, m_uL_K, m_uL_N, m_uL_R, m_uL_I, m_uL_L, m_uR_K, m_uR_N, m_uR_I, m_uR_L, m_uR_R, true_and, and_true, true_implies, false_implies, not_true_eq_false, not_false_eq_true, if_true, if_false, false_and, and_false]
  rw [br_n p3]
  constructor
  · intro q
    by_cases c : mI M 277 48 = 8
    · exact q.2 (fun w => w c)
    · exact q.1 c
  · intro q; exact ⟨fun _ => q, fun _ => q⟩
/-- a sign is held back -/
theorem m_holds (d z a c o : Nat) (k ph : Nat) (bg : Bool) (pr : Nat) (os : List Nat) (F : List Frm) (vs : List Den) (M : am_M) (Q : Option Value → am_M → Prop) (hL : Lay M) (hP : PzM M z a c ((k, ph, bg, pr, os) :: F) vs) (ho : o ≤ 22) (hb : sumO F + os.length < 500)
    (hQ : ∀ M', gF (fun b j => (b = 311 ∧ j = sumO F + os.length) ∨ (b = 277 ∧ j = 50)) nT M M' → PzM M' z a c ((k, ph, bg, pr, o :: os) :: F) vs → Q none M') : am_E am_P0 d 186 [.ref 277, .int (nI o)] M Q := by
  obtain ⟨p1, p2, ⟨f1, f2, f3, f4, f5, f6, f7⟩, p4, p5, p6⟩ := hP
  have eO : sumO ((k, ph, bg, pr, os) :: F) = sumO F + os.length := rfl
  have eO' : sumO ((k, ph, bg, pr, o :: os) :: F) = sumO F + os.length + 1 := rfl
  rw [eO] at p6
  have g : gF (fun b j => (b = 311 ∧ j = sumO F + os.length) ∨ (b = 277 ∧ j = 50)) nT M (uI (uI M 311 (sumO F + os.length) (nI o)) 277 50 (nI (sumO F + os.length + 1))) := gF_trans (gF_i _ (Or.inl ⟨rfl, rfl⟩)) (gF_i _ (Or.inr ⟨rfl, rfl⟩))
  have kk : ∀ b j, ¬ ((b = 311 ∧ j = sumO F + os.length) ∨ (b = 277 ∧ j = 50)) → mI (uI (uI M 311 (sumO F + os.length) (nI o)) 277 50 (nI (sumO F + os.length + 1))) b j = mI M b j := g.1
  have h0 := hQ _ g ⟨FmM_g p1 g (fun j q w => by omega), CdM_g p2 g (fun b j q _ _ w => by omega), ⟨by rw [kk _ _ (by omega)]; exact f1, by rw [kk _ _ (by omega)]; exact f2, by rw [kk _ _ (by omega)]; exact f3, fun q => by rw [kk _ _ (by omega)]; exact f4 q, by rw [kk _ _ (by omega)]; exact f5, ⟨by rw [m_uI_I, if_neg (by omega), m_uI_I, if_pos ⟨rfl, rfl⟩], ho, OpM_g g os f6 (fun j q1 q2 w => by omega)⟩, HpM_g g F f7 (fun b j q1 q2 _ w => by omega) (fun j q w => by omega)⟩, by rw [kk _ _ (by omega)]; exact p4, by rw [kk _ _ (by omega)]; exact p5, by rw [m_uI_I, if_pos ⟨rfl, rfl⟩, eO']⟩
  rw [eX11_holdsBack]
  simp +decide (disch := omega) only [qX11_holdsBack, lm hL, p6, ni_in_t, ni_tn, ni_add1, am_w1_i, am_w1_r, am_w1_x, am_w1_l, am_w1_w, va_rf_s, am_push_n, am_push_s, am_cs_0, am_cs_i, am_cs_l, am_cs_r, m_uI_K, m_uI_N, m_uI_R, m_uI_L, m_uI_I, m_uL_K, m_uL_N, m_uL_R, m_uL_I, m_uL_L, m_uR_K, m_uR_N, m_uR_I, m_uR_L, m_uR_R, true_and, and_true, true_implies, false_implies, not_true_eq_false, not_false_eq_true, if_true, if_false, false_and, and_false]
  exact h0
theorem m_joins (d z a c l : Nat) (k ph : Nat) (bg : Bool) (pr : Nat) (os : List Nat) (F : List Frm) (vs : List Den) (M : am_M) (Q : Option Value → am_M → Prop) (hL : Lay M) (hP : PzM M z a c ((k, ph, bg, pr, os) :: F) vs) (hl : l ≤ 6) (hF : F.length ≤ 8) (hten : ∀ o, o ∈ os → 10 ≤ o) (hb : sumO F + os.length ≤ 500) (hc : c + os.length ≤ 1800) (hj : jok l os vs)
    (hQ : ∀ M' c', gF (sJm z a) nT M M' → c' + (jns l os vs).1.length = c + os.length → PzM M' z a c' ((k, ph, bg, pr, (jns l os vs).1) :: F) (jns l os vs).2 → Q none M') : am_E am_P0 (d + 1) 185 [.ref 277, .int (nI l)] M Q := by
  obtain ⟨p1, p2, ⟨f1, f2, f3, f4, f5, f6, f7⟩, p4, p5, p6⟩ := hP
  have eO : sumO ((k, ph, bg, pr, os) :: F) = sumO F + os.length := rfl
  rw [eO] at p6
  rw [eX11_joins]
  refine l_m_joins d z a l (sumO F) F.length M Q hL hl (by omega) p4 f5 os vs c M (gF_refl _ _ _) hten f6 hb p6 p1 p2 hj hc (fun M' c' g e q1 q2 q3 q4 => hQ M' c' g e ?_)
  have kk : ∀ b j, ¬ sJm z a b j → mI M' b j = mI M b j := g.1
  have nj : ∀ b j, 306 ≤ b → b ≤ 311 → ¬ sJm z a b j := fun b j h1 h2 w => by unfold sJm at w; omega
  exact ⟨q1, q2, ⟨by rw [kk _ _ (nj _ _ (by omega) (by omega))]; exact f1, by rw [kk _ _ (nj _ _ (by omega) (by omega))]; exact f2, by rw [kk _ _ (nj _ _ (by omega) (by omega))]; exact f3, fun q => by rw [kk _ _ (nj _ _ (by omega) (by omega))]; exact f4 q, by rw [kk _ _ (nj _ _ (by omega) (by omega))]; exact f5, q4, HpM_g g F f7 (fun b j h1 h2 _ w => nj _ _ h1 (by omega) w) (fun j _ w => nj _ _ (by omega) (by omega) w)⟩, by rw [kk _ _ (fun w => by unfold sJm at w; omega)]; exact p4, by rw [kk _ _ (fun w => by unfold sJm at w; omega)]; exact p5, q3⟩
end
end
section
/-! the model's formulas: an operand -/
section
variable {T : Nat → Nat} {n : Nat}
/-- what is no word of facts -/
def opT (T : Nat → Nat) (n : Nat) (t : Tok) (k ph pr : Nat) (os : List Nat) (F : List Frm) (vs : List Den) : Sum (Nat × Nat) (Mst × Bool) :=
  if isS t 40 = true then (if F.length = 8 then .inl (5, tS t) else mAdv T n t (fun t1 => (t1, (2, 0, true, 0, []) :: (k, ph, false, pr, os) :: F, vs, false)))
  else if (isW t wMin || isW t wMax) = true then
    (if (tk T n (tE t)).1 = 4 then .inl (1, tS (tk T n (tE t)))
    else if isS (tk T n (tE t)) 40 = true then (if F.length = 8 then .inl (5, tS (tk T n (tE t))) else mAdv T n (tk T n (tE t)) (fun t1 => (t1, (3, 0, true, (if isW t wMin = true then 15 else 16), []) :: (k, ph, false, pr, os) :: F, vs, false)))
    else .inl (1, tS (tk T n (tE t))))
  else match leaf t with
    | some u => mAdv T n t (fun t1 => (t1, (k, ph, false, pr, os) :: F, u :: vs, true))
    | none => .inl (1, tS t)
theorem opT_e {t : Tok} {k ph : Nat} {bg : Bool} {pr : Nat} {os : List Nat} {F : List Frm} {vs : List Den} (h : nf t k bg) : mOpd T n t k ph bg pr os F vs = opT T n t k ph pr os F vs := by
  obtain ⟨h1, h2, h3⟩ := h
  unfold mOpd opT
  rw [h1, h2, h3]
  rfl
def oX (r : Sum (Nat × Nat) (Mst × Bool)) (x : Int32) : Prop := (x = 0 ∨ x = 1) ∧ ∀ s' b, r = .inr (s', b) → x = b01 s'.2.2.2
theorem oX_f {e : Nat × Nat} {x : Int32} (h : x = 0 ∨ x = 1) : oX (.inl e) x := ⟨h, fun s' b q => by cases q⟩
theorem oX_adv {t : Tok} {S : Tok → Mst} {o : Bool} (h : ∀ t1, (S t1).2.2.2 = o) : oX (mAdv T n t S) (b01 o) := by
  refine ⟨by cases o; exact Or.inl rfl; exact Or.inr rfl, fun s' b hs => ?_⟩
  obtain ⟨-, rfl⟩ := mAdv_r hs
  rw [h]
theorem isS_n0 {t : Tok} {c : Nat} (h : isS t c = true) : ¬ t.1 = 0 := by have := (isS_1 h).1; omega
theorem isW_n0 {t : Tok} {l : List Nat} (h : isW t l = true) : ¬ t.1 = 0 := by have := (isW_1 h).1; omega
/-- a bracket, as a step -/
theorem m_opensS (d z a c k : Nat) (t : Tok) (f : Frm) (F : List Frm) (vs : List Den) (M : am_M) (Q : Option Value → am_M → Prop) (hL : Lay M) (hR : RdM M T n t) (h0 : ¬ t.1 = 0) (hP : PzM M z a c (f :: F) vs) (hF : F.length ≤ 8) (hk : k = 2 ∨ k = 5) (hc : c + sumO (f :: F) + nPr (f :: F) ≤ tS t)
    (hQ : ∀ M', gF (sFm z a) nT M M' → RsM T n M' z a (if F.length = 8 then .inl (5, tS t) else mAdv T n t (fun t1 => (t1, (k, 0, true, 0, []) :: f :: F, vs, false))) → Q none M') : am_E am_P0 (d + 2) 188 [.ref 277, .int (nI k)] M Q := by
  have hk0 := tkG_0 hR.2.2.2.2.2.2.2.2 h0
  refine m_opens d z a c k t (f :: F) vs M Q hL hR h0 hP (by simp; omega) (fun e M' g h => hQ M' (sRm_F g) ?_) (fun e q M' g h => hQ M' g ?_) (fun e q M' g h1 h2 => hQ M' g ?_)
  · rw [if_pos (by simpa using e)]; exact h
  · rw [if_neg (by simpa using e)]; unfold mAdv; rw [if_pos q]; exact h
  · rw [if_neg (by simpa using e)]
    unfold mAdv
    rw [if_neg q]
    refine ⟨c, h1, NwM_P h2 (by omega) 0, ?_⟩
    have e1 : sumO ((k, 0, true, 0, []) :: f :: F) = sumO (f :: F) := rfl
    have e2 : nPr ((k, 0, true, 0, []) :: f :: F) = nPr (f :: F) := by show nPr (f :: F) + (if k = 3 ∨ k = 4 then 1 else 0) = _; rw [if_neg (by omega)]; rfl
    dsimp only
    rw [e1, e2]
    omega
theorem m_opdT (d z a c : Nat) (t : Tok) (k ph : Nat) (pr : Nat) (os : List Nat) (F : List Frm) (vs : List Den) (x2 : Int32) (M : am_M) (Q : Option Value → am_M → Prop) (hL : Lay M) (hR : RdM M T n t) (hP : PzM M z a c ((k, ph, false, pr, os) :: F) vs) (hF : F.length ≤ 8) (hc : c + sumO ((k, ph, false, pr, os) :: F) + nPr ((k, ph, false, pr, os) :: F) ≤ tS t)
    (hQ : ∀ M' x, gF (sFm z a) nT M M' → RsM T n M' z a (opT T n t k ph pr os F vs) → oX (opT T n t k ph pr os F vs) x → Q (some (.int x)) M') : am_P am_P0 (d + 3) (am_look tX11_operand) 121 [.ref 277, .int (nI F.length), .int x2, am_x] [] M Q := by
  obtain ⟨w1, w2, w3, w4, w5, w6, w7, w8, -, -⟩ := m_words (d + 2) t M hL hR
  have s40 := m_signs (d + 2) t M hL hR 40 (by omega)
  rw [show nI 40 = (40 : Int32) from rfl] at s40
  unfold opT at hQ
  by_cases c1 : isS t 40 = true
  · rw [if_pos c1] at hQ
    simp +decide only [qX11_operand_0, qX11_operand_1, qX11_operand_2, qX11_operand_3, qX11_operand_4, lm hL, s40, c1, b01, am_w1_i, am_w1_r, am_w1_x, am_w1_l, am_w1_w, va_rf_s, am_push_n, am_push_s, am_cs_0, am_cs_i, am_cs_l, am_cs_r, m_uI_K, m_uI_N, m_uI_R, m_uI_L, m_uI_I, m_uL_K, m_uL_N, m_uL_R, m_uL_I, m_uL_L, m_uR_K, m_uR_N, m_uR_I, m_uR_L, m_uR_R, true_and, and_true, true_implies, false_implies, not_true_eq_false, not_false_eq_true, if_true, if_false, false_and, and_false]
    refine m_opensS d z a c 2 t _ F vs M _ hL hR (isS_n0 c1) hP hF (Or.inl rfl) hc (fun M1 g1 h1 => ?_)
    have h0 := hQ M1 0 g1 h1 (by
      split
      · exact oX_f (by decide)
      · exact oX_adv (o := false) (fun _ => rfl))
    simp +decide only [qX11_operand_0, qX11_operand_1, qX11_operand_2, qX11_operand_3, qX11_operand_4, am_w1_i, am_w1_r, am_w1_x, am_w1_l, am_w1_w, va_rf_s, am_push_n, am_push_s, am_cs_0, am_cs_i, am_cs_l, am_cs_r, m_uI_K, m_uI_N, m_uI_R, m_uI_L, m_uI_I, m_uL_K, m_uL_N, m_uL_R, m_uL_I, m_uL_L, m_uR_K, m_uR_N, m_uR_I, m_uR_L, m_uR_R, true_and, and_true, true_implies, false_implies, not_true_eq_false, not_false_eq_true, if_true, if_false, false_and, and_false]
    exact h0
  have c1' : isS t 40 = false := by simpa using c1
  rw [if_neg c1] at hQ
  by_cases c2 : (isW t wMin || isW t wMax) = true
  · rw [if_pos c2] at hQ
    have hn0 : ¬ t.1 = 0 := by
      rw [Bool.or_eq_true] at c2
      rcases c2 with q | q <;> exact isW_n0 q
    have hk0 := tkG_0 hR.2.2.2.2.2.2.2.2 hn0
    obtain ⟨pv, hpv⟩ : ∃ pv : Nat, pv = (if isW t wMin = true then 15 else 16) := ⟨_, rfl⟩
    rw [← hpv] at hQ
    have tail : am_P am_P0 (d + 3) (am_look tX11_operand) 174 [.ref 277, .int (nI F.length), .int x2, am_x] [.int (nI pv)] M Q := by
      simp +decide only [qX11_operand_0, qX11_operand_1, qX11_operand_2, qX11_operand_3, qX11_operand_4, lm hL, am_w1_i, am_w1_r, am_w1_x, am_w1_l, am_w1_w, va_rf_s, am_push_n, am_push_s, am_cs_0, am_cs_i, am_cs_l, am_cs_r, m_uI_K, m_uI_N, m_uI_R, m_uI_L, m_uI_I, m_uL_K, m_uL_N, m_uL_R, m_uL_I, m_uL_L, m_uR_K, m_uR_N, m_uR_I, m_uR_L, m_uR_R, true_and, and_true, true_implies, false_implies, not_true_eq_false, not_false_eq_true, if_true, if_false, false_and, and_false]
      refine m_adv (d + 1) t M _ hL hR (fun M1 g1 s1 => ?_)
      have L1 := gF_LayN g1 hL
      have P1 := PzM_R hP g1
      unfold advR at s1
      by_cases d1 : (tk T n (tE t)).1 = 4
      · rw [if_pos d1] at hQ s1
        have s1' : FtM M1 T n 1 (tS (tk T n (tE t))) := s1
        obtain ⟨p1, p2, p3⟩ := FtM_pos s1'
        have h0 := hQ M1 0 (sRm_F g1) s1 (oX_f (by decide))
        have hbl := fun x p Q => c_m_blame (d + 2) x p M1 Q L1
        have hof := fun Q => m_opensF (T := T) (n := n) (d + 1) 3 (1, tS (tk T n (tE t))) M1 Q L1 s1
        have hsg := fun Q => c_m_isSign (d + 2) 40 M1 Q L1
        rw [show nI 3 = (3 : Int32) from rfl] at hof
        simp +decide only [qX11_operand_0, qX11_operand_1, qX11_operand_2, qX11_operand_3, qX11_operand_4, lm L1, hbl, hof, hsg, p1, am_w1_i, am_w1_r, am_w1_x, am_w1_l, am_w1_w, va_rf_s, am_push_n, am_push_s, am_cs_0, am_cs_i, am_cs_l, am_cs_r, m_uI_K, m_uI_N, m_uI_R, m_uI_L, m_uI_I, m_uL_K, m_uL_N, m_uL_R, m_uL_I, m_uL_L, m_uR_K, m_uR_N, m_uR_I, m_uR_L, m_uR_R, true_and, and_true, true_implies, false_implies, not_true_eq_false, not_false_eq_true, if_true, if_false, false_and, and_false]
        rw [br_p p2]
        exact ⟨fun _ => h0, fun _ => h0⟩
      · rw [if_neg d1] at hQ s1
        have s1' : RdM M1 T n (tk T n (tE t)) := s1
        have s41 := m_signs (d + 2) (tk T n (tE t)) M1 L1 s1' 40 (by omega)
        rw [show nI 40 = (40 : Int32) from rfl] at s41
        by_cases d2 : isS (tk T n (tE t)) 40 = true
        · rw [if_pos d2] at hQ
          have hn1 := isS_n0 d2
          simp +decide only [qX11_operand_0, qX11_operand_1, qX11_operand_2, qX11_operand_3, qX11_operand_4, lm L1, s41, d2, b01, am_w1_i, am_w1_r, am_w1_x, am_w1_l, am_w1_w, va_rf_s, am_push_n, am_push_s, am_cs_0, am_cs_i, am_cs_l, am_cs_r, m_uI_K, m_uI_N, m_uI_R, m_uI_L, m_uI_I, m_uL_K, m_uL_N, m_uL_R, m_uL_I, m_uL_L, m_uR_K, m_uR_N, m_uR_I, m_uR_L, m_uR_R, true_and, and_true, true_implies, false_implies, not_true_eq_false, not_false_eq_true, if_true, if_false, false_and, and_false]
          rw [show (3 : Int32) = nI 3 from rfl]
          refine m_opens d z a c 3 (tk T n (tE t)) _ vs M1 _ L1 s1' hn1 P1 (by simp; omega) (fun e M2 g2 h2 => ?_) (fun e q M2 g2 h2 => ?_) (fun e q M2 g2 h2 h3 => ?_)
          · have e' : F.length = 8 := by simpa using e
            rw [if_pos e'] at hQ
            have h0 := hQ M2 0 (gF_trans (sRm_F g1) (sRm_F g2)) h2 (oX_f (by decide))
            simp +decide only [qX11_operand_0, qX11_operand_1, qX11_operand_2, qX11_operand_3, qX11_operand_4, lm (gF_LayN g2 L1), am_w1_i, am_w1_r, am_w1_x, am_w1_l, am_w1_w, va_rf_s, am_push_n, am_push_s, am_cs_0, am_cs_i, am_cs_l, am_cs_r, m_uI_K, m_uI_N, m_uI_R, m_uI_L, m_uI_I, m_uL_K, m_uL_N, m_uL_R, m_uL_I, m_uL_L, m_uR_K, m_uR_N, m_uR_I, m_uR_L, m_uR_R, true_and, and_true, true_implies, false_implies, not_true_eq_false, not_false_eq_true, if_true, if_false, false_and, and_false]
            rw [br_p (FtM_pos h2).2.1]
            exact h0
          · have e' : ¬ F.length = 8 := by simpa using e
            rw [if_neg e'] at hQ
            unfold mAdv at hQ
            rw [if_pos q] at hQ
            have h0 := hQ M2 0 (gF_trans (sRm_F g1) g2) h2 (oX_f (by decide))
            simp +decide only [qX11_operand_0, qX11_operand_1, qX11_operand_2, qX11_operand_3, qX11_operand_4, lm (gF_LayN g2 L1), am_w1_i, am_w1_r, am_w1_x, am_w1_l, am_w1_w, va_rf_s, am_push_n, am_push_s, am_cs_0, am_cs_i, am_cs_l, am_cs_r, m_uI_K, m_uI_N, m_uI_R, m_uI_L, m_uI_I, m_uL_K, m_uL_N, m_uL_R, m_uL_I, m_uL_L, m_uR_K, m_uR_N, m_uR_I, m_uR_L, m_uR_R, true_and, and_true, true_implies, false_implies, not_true_eq_false, not_false_eq_true, if_true, if_false, false_and, and_false]
            rw [br_p (FtM_pos h2).2.1]
            exact h0
          · have e' : ¬ F.length = 8 := by simpa using e
            rw [if_neg e'] at hQ
            have L2 := gF_LayN g2 L1
            have h47 : mI M2 277 47 = nI (F.length + 1 + 1) := h3.2.2.2.1
            have P3 := NwM_P3 h3 pv
            have g3 : gF (sFm z a) nT M2 (uI M2 309 (F.length + 1) (nI pv)) := gF_i _ (Or.inr (Or.inr ⟨by omega, by omega⟩))
            have hr3 : gF (fun b j => b = 309) nT M2 (uI M2 309 (F.length + 1) (nI pv)) := gF_i _ rfl
            have h0 := hQ (uI M2 309 (F.length + 1) (nI pv)) 0 (gF_trans (sRm_F g1) (gF_trans g2 g3)) (by
              unfold mAdv
              rw [if_neg q]
              refine ⟨c, RdM_g h2 hr3 (fun b j w1 w2 => by omega), P3, ?_⟩
              have e1 : sumO ((3, 0, true, pv, []) :: (k, ph, false, pr, os) :: F) = sumO ((k, ph, false, pr, os) :: F) := rfl
              have e2 : nPr ((3, 0, true, pv, []) :: (k, ph, false, pr, os) :: F) = nPr ((k, ph, false, pr, os) :: F) + 1 := rfl
              have hk1 := tkG_0 s1'.2.2.2.2.2.2.2.2 hn1
              dsimp only
              rw [e1, e2]
              omega) (oX_adv (o := false) (fun _ => rfl))
            simp +decide (disch := omega) only [qX11_operand_0, qX11_operand_1, qX11_operand_2, qX11_operand_3, qX11_operand_4, lm L2, h2.2.1, h47, ni_sub1, ni_in_t, ni_tn, am_w1_i, am_w1_r, am_w1_x, am_w1_l, am_w1_w, va_rf_s, am_push_n, am_push_s, am_cs_0, am_cs_i, am_cs_l, am_cs_r, m_uI_K, m_uI_N, m_uI_R, m_uI_L, m_uI_I, m_uL_K, m_uL_N, m_uL_R, m_uL_I, m_uL_L, m_uR_K, m_uR_N, m_uR_I, m_uR_L, m_uR_R, true_and, and_true, true_implies, false_implies, not_true_eq_false, not_false_eq_true, if_true, if_false, false_and, and_false]
            exact h0
        · rw [if_neg d2] at hQ
          have d2' : isS (tk T n (tE t)) 40 = false := by simpa using d2
          have hfm := FtM_0 (k := 1) s1' (by omega)
          have p2 := (FtM_pos hfm.1).2.1
          have h0 := hQ _ 0 (gF_trans (sRm_F g1) (sRm_F hfm.2)) hfm.1 (oX_f (by decide))
          have hbl := fun Q => m_blame (T := T) (n := n) (d + 2) 1 (tk T n (tE t)) M1 Q L1 s1'
          have L2 : Lay (uI (uI M1 277 8 1) 277 9 (nI (tS (tk T n (tE t))))) := L1
          have hof := fun Q => m_opensF (T := T) (n := n) (d + 1) 3 (1, tS (tk T n (tE t))) (uI (uI M1 277 8 1) 277 9 (nI (tS (tk T n (tE t))))) Q L2 hfm.1
          rw [show nI 3 = (3 : Int32) from rfl] at hof
          rw [show nI 1 = (1 : Int32) from rfl] at hbl p2 h0
          simp +decide only [qX11_operand_0, qX11_operand_1, qX11_operand_2, qX11_operand_3, qX11_operand_4, lm L1, s41, d2', b01, s1'.2.2.2.2.1, hbl, hof, am_w1_i, am_w1_r, am_w1_x, am_w1_l, am_w1_w, va_rf_s, am_push_n, am_push_s, am_cs_0, am_cs_i, am_cs_l, am_cs_r, m_uI_K, m_uI_N, m_uI_R, m_uI_L, m_uI_I, m_uL_K, m_uL_N, m_uL_R, m_uL_I, m_uL_L, m_uR_K, m_uR_N, m_uR_I, m_uR_L, m_uR_R, true_and, and_true, true_implies, false_implies, not_true_eq_false, not_false_eq_true, if_true, if_false, false_and, and_false]
          exact h0
    by_cases c3 : isW t wMin = true
    · rw [if_pos c3] at hpv
      subst hpv
      rw [show nI 15 = (15 : Int32) from rfl] at tail
      simp +decide only [qX11_operand_0, qX11_operand_1, qX11_operand_2, qX11_operand_3, qX11_operand_4, lm hL, s40, c1', w3, c3, b01, am_w1_i, am_w1_r, am_w1_x, am_w1_l, am_w1_w, va_rf_s, am_push_n, am_push_s, am_cs_0, am_cs_i, am_cs_l, am_cs_r, m_uI_K, m_uI_N, m_uI_R, m_uI_L, m_uI_I, m_uL_K, m_uL_N, m_uL_R, m_uL_I, m_uL_L, m_uR_K, m_uR_N, m_uR_I, m_uR_L, m_uR_R, true_and, and_true, true_implies, false_implies, not_true_eq_false, not_false_eq_true, if_true, if_false, false_and, and_false] at tail ⊢
      exact tail
    · rw [if_neg c3] at hpv
      subst hpv
      have c3' : isW t wMin = false := by simpa using c3
      have c4 : isW t wMax = true := by rw [c3', Bool.false_or] at c2; exact c2
      rw [show nI 16 = (16 : Int32) from rfl] at tail
      simp +decide only [qX11_operand_0, qX11_operand_1, qX11_operand_2, qX11_operand_3, qX11_operand_4, lm hL, s40, c1', w3, w4, c3', c4, b01, am_w1_i, am_w1_r, am_w1_x, am_w1_l, am_w1_w, va_rf_s, am_push_n, am_push_s, am_cs_0, am_cs_i, am_cs_l, am_cs_r, m_uI_K, m_uI_N, m_uI_R, m_uI_L, m_uI_I, m_uL_K, m_uL_N, m_uL_R, m_uL_I, m_uL_L, m_uR_K, m_uR_N, m_uR_I, m_uR_L, m_uR_R, true_and, and_true, true_implies, false_implies, not_true_eq_false, not_false_eq_true, if_true, if_false, false_and, and_false] at tail ⊢
      exact tail
  · rw [if_neg c2] at hQ
    have c2' : isW t wMin = false ∧ isW t wMax = false := by
      have := c2
      rw [Bool.not_eq_true, Bool.or_eq_false_iff] at this
      exact this
    obtain ⟨hF1, hC1, hH1, p4, p5, p6⟩ := hP
    have hlen := cdD_len hC1.2.1
    rw [hC1.2.2] at hlen
    have hcf : c ≤ 1800 := hF1.2.1
    have tailL : ∀ (s : Nat) (u : Den), s ≤ 4 → ldD (s, (mI M 277 6).toInt) = u → leaf t = some u → am_P am_P0 (d + 3) (am_look tX11_operand) 292 [.ref 277, .int (nI F.length), .int x2, am_x] [.int (nI s)] M Q := by
      intro s u hs hu hl
      rw [hl] at hQ
      have hn0 := leaf_k hl
      have hk0 := tkG_0 hR.2.2.2.2.2.2.2.2 hn0
      have hcl : c < 1800 := by have := hR.1.2.1; omega
      have hbd := leaf_bd (tkG_OK hR.2.2.2.2.2.2.2.2) hl
      have hadd := fun Q => m_add (d + 2) z c (nI s) (mI M 277 6) M Q hL hF1 hcl
      have hz : uW (nI s) = s := uW_n (by omega) (by omega)
      have hne : ¬ nI s = -1 := by
        intro q
        have := congrArg Int32.toInt q
        rw [ni_ti (by omega)] at this
        have e : (-1 : Int32).toInt = -1 := by decide
        omega
      have hop : opOK 1850 (s, (mI M 277 6).toInt) vs := ⟨fun _ => ⟨by omega, by rw [hu]; exact hbd⟩, fun q => by dsimp only at q; omega, fun q => by dsimp only at q; omega, fun q => by dsimp only at q; omega, by dsimp only; omega⟩
      have hC2 := CdM_e (nI s) (mI M 277 6) hcl hC1 (by rw [hz]; exact hop)
      rw [hz] at hC2
      have est : stD (s, (mI M 277 6).toInt) vs = u :: vs := by unfold stD; rw [if_pos (by dsimp only; omega), hu]
      rw [est] at hC2
      have ga : gF (fun b j => (b = 304 ∨ b = 305) ∨ (b = 277 ∧ j = 40)) nT M (addM M z c (nI s) (mI M 277 6)) := gF_trans (gF_i _ (Or.inl (Or.inl rfl))) (gF_trans (gF_i _ (Or.inl (Or.inr rfl))) (gF_i _ (Or.inr ⟨rfl, rfl⟩)))
      have P2 : PzM (addM M z c (nI s) (mI M 277 6)) z a (c + 1) ((k, ph, false, pr, os) :: F) (u :: vs) := by
        exact ⟨FmM_e hF1 hcl, hC2, HpM_g ga _ hH1 (fun b j q1 q2 _ w => by omega) (fun j _ w => by omega), by rw [ga.1 _ _ (by omega)]; exact p4, by rw [ga.1 _ _ (by omega)]; exact p5, by rw [ga.1 _ _ (by omega)]; exact p6⟩
      have R2 : RdM (addM M z c (nI s) (mI M 277 6)) T n t := RdM_g hR ga (fun b j q w => by omega)
      have L2 : Lay (addM M z c (nI s) (mI M 277 6)) := gF_LayN ga hL
      simp +decide only [qX11_operand_0, qX11_operand_1, qX11_operand_2, qX11_operand_3, qX11_operand_4, lm hL, lm L2, hR.2.1, hadd, am_w1_i, am_w1_r, am_w1_x, am_w1_l, am_w1_w, va_rf_s, am_push_n, am_push_s, am_cs_0, am_cs_i, am_cs_l, am_cs_r, m_uI_K, m_uI_N, m_uI_R, m_uI_L, m_uI_I, m_uL_K, m_uL_N, m_uL_R, m_uL_I, m_uL_L, m_uR_K, m_uR_N, m_uR_I, m_uR_L, m_uR_R, true_and, and_true, true_implies, false_implies, not_true_eq_false, not_false_eq_true, if_true, if_false, false_and, and_false]
      rw [br_q hne]
      refine m_advS (d + 1) z a (c + 1) t _ (u :: vs) true _ _ L2 R2 hn0 P2 (by omega) (fun M3 g3 _ h3 => ?_)
      have h0 := hQ M3 1 (gF_trans (gF_add hC1.1 hcl) (sRm_F g3)) h3 (oX_adv (o := true) (fun _ => rfl))
      simp +decide only [qX11_operand_0, qX11_operand_1, qX11_operand_2, qX11_operand_3, qX11_operand_4, am_w1_i, am_w1_r, am_w1_x, am_w1_l, am_w1_w, va_rf_s, am_push_n, am_push_s, am_cs_0, am_cs_i, am_cs_l, am_cs_r, m_uI_K, m_uI_N, m_uI_R, m_uI_L, m_uI_I, m_uL_K, m_uL_N, m_uL_R, m_uL_I, m_uL_L, m_uR_K, m_uR_N, m_uR_I, m_uR_L, m_uR_R, true_and, and_true, true_implies, false_implies, not_true_eq_false, not_false_eq_true, if_true, if_false, false_and, and_false]
      exact h0
    have h3 := RdM_3 hR 2 (by omega)
    rw [show nI 2 = (2 : Int32) from rfl] at h3
    by_cases l2 : t.1 = 2
    · have h6 := hR.2.2.2.2.2.2.1 (Or.inl l2)
      have hv := hR.2.2.2.2.2.2.2.2.2.2.2.2.2.2.1 l2
      have tl := tailL 0 (fun _ => (t.2.1 : Int)) (by omega) (by rw [h6, ni_ti (by omega)]; rfl) (by unfold leaf; rw [if_pos l2])
      rw [show nI 0 = (0 : Int32) from rfl] at tl
      simp +decide only [qX11_operand_0, qX11_operand_1, qX11_operand_2, qX11_operand_3, qX11_operand_4, lm hL, s40, c1', w3, w4, c2', h3.mpr l2, b01, am_w1_i, am_w1_r, am_w1_x, am_w1_l, am_w1_w, va_rf_s, am_push_n, am_push_s, am_cs_0, am_cs_i, am_cs_l, am_cs_r, m_uI_K, m_uI_N, m_uI_R, m_uI_L, m_uI_I, m_uL_K, m_uL_N, m_uL_R, m_uL_I, m_uL_L, m_uR_K, m_uR_N, m_uR_I, m_uR_L, m_uR_R, true_and, and_true, true_implies, false_implies, not_true_eq_false, not_false_eq_true, if_true, if_false, false_and, and_false] at tl ⊢
      exact tl
    · have n2 : ¬ mI M 277 3 = 2 := fun q => l2 (h3.mp q)
      simp +decide only [qX11_operand_0, qX11_operand_1, qX11_operand_2, qX11_operand_3, qX11_operand_4, lm hL, s40, c1', w3, w4, c2', b01, am_w1_i, am_w1_r, am_w1_x, am_w1_l, am_w1_w, va_rf_s, am_push_n, am_push_s, am_cs_0, am_cs_i, am_cs_l, am_cs_r, m_uI_K, m_uI_N, m_uI_R, m_uI_L, m_uI_I, m_uL_K, m_uL_N, m_uL_R, m_uL_I, m_uL_L, m_uR_K, m_uR_N, m_uR_I, m_uR_L, m_uR_R, true_and, and_true, true_implies, false_implies, not_true_eq_false, not_false_eq_true, if_true, if_false, false_and, and_false]
      rw [br_q n2]
      by_cases lc : isW t wCol = true
      · have tl := tailL 1 (fun e => (e.1 : Int)) (by omega) rfl (by unfold leaf; rw [if_neg l2, if_pos lc])
        rw [show nI 1 = (1 : Int32) from rfl] at tl
        simp +decide only [qX11_operand_0, qX11_operand_1, qX11_operand_2, qX11_operand_3, qX11_operand_4, lm hL, w5, lc, b01, am_w1_i, am_w1_r, am_w1_x, am_w1_l, am_w1_w, va_rf_s, am_push_n, am_push_s, am_cs_0, am_cs_i, am_cs_l, am_cs_r, m_uI_K, m_uI_N, m_uI_R, m_uI_L, m_uI_I, m_uL_K, m_uL_N, m_uL_R, m_uL_I, m_uL_L, m_uR_K, m_uR_N, m_uR_I, m_uR_L, m_uR_R, true_and, and_true, true_implies, false_implies, not_true_eq_false, not_false_eq_true, if_true, if_false, false_and, and_false] at tl ⊢
        exact tl
      have lc' : isW t wCol = false := by simpa using lc
      by_cases lr : isW t wRow = true
      · have tl := tailL 2 (fun e => (e.2.1 : Int)) (by omega) rfl (by unfold leaf; rw [if_neg l2, if_neg lc, if_pos lr])
        rw [show nI 2 = (2 : Int32) from rfl] at tl
        simp +decide only [qX11_operand_0, qX11_operand_1, qX11_operand_2, qX11_operand_3, qX11_operand_4, lm hL, w5, w6, lc', lr, b01, am_w1_i, am_w1_r, am_w1_x, am_w1_l, am_w1_w, va_rf_s, am_push_n, am_push_s, am_cs_0, am_cs_i, am_cs_l, am_cs_r, m_uI_K, m_uI_N, m_uI_R, m_uI_L, m_uI_I, m_uL_K, m_uL_N, m_uL_R, m_uL_I, m_uL_L, m_uR_K, m_uR_N, m_uR_I, m_uR_L, m_uR_R, true_and, and_true, true_implies, false_implies, not_true_eq_false, not_false_eq_true, if_true, if_false, false_and, and_false] at tl ⊢
        exact tl
      have lr' : isW t wRow = false := by simpa using lr
      by_cases lh : isW t wHour = true
      · have tl := tailL 3 (fun e => (e.2.2.1 : Int)) (by omega) rfl (by unfold leaf; rw [if_neg l2, if_neg lc, if_neg lr, if_pos lh])
        rw [show nI 3 = (3 : Int32) from rfl] at tl
        simp +decide only [qX11_operand_0, qX11_operand_1, qX11_operand_2, qX11_operand_3, qX11_operand_4, lm hL, w5, w6, w7, lc', lr', lh, b01, am_w1_i, am_w1_r, am_w1_x, am_w1_l, am_w1_w, va_rf_s, am_push_n, am_push_s, am_cs_0, am_cs_i, am_cs_l, am_cs_r, m_uI_K, m_uI_N, m_uI_R, m_uI_L, m_uI_I, m_uL_K, m_uL_N, m_uL_R, m_uL_I, m_uL_L, m_uR_K, m_uR_N, m_uR_I, m_uR_L, m_uR_R, true_and, and_true, true_implies, false_implies, not_true_eq_false, not_false_eq_true, if_true, if_false, false_and, and_false] at tl ⊢
        exact tl
      have lh' : isW t wHour = false := by simpa using lh
      by_cases ld : isW t wDepth = true
      · have tl := tailL 4 (fun e => (e.2.2.2 : Int)) (by omega) rfl (by unfold leaf; rw [if_neg l2, if_neg lc, if_neg lr, if_neg lh, if_pos ld])
        rw [show nI 4 = (4 : Int32) from rfl] at tl
        simp +decide only [qX11_operand_0, qX11_operand_1, qX11_operand_2, qX11_operand_3, qX11_operand_4, lm hL, w5, w6, w7, w8, lc', lr', lh', ld, b01, am_w1_i, am_w1_r, am_w1_x, am_w1_l, am_w1_w, va_rf_s, am_push_n, am_push_s, am_cs_0, am_cs_i, am_cs_l, am_cs_r, m_uI_K, m_uI_N, m_uI_R, m_uI_L, m_uI_I, m_uL_K, m_uL_N, m_uL_R, m_uL_I, m_uL_L, m_uR_K, m_uR_N, m_uR_I, m_uR_L, m_uR_R, true_and, and_true, true_implies, false_implies, not_true_eq_false, not_false_eq_true, if_true, if_false, false_and, and_false] at tl ⊢
        exact tl
      have ld' : isW t wDepth = false := by simpa using ld
      have ln : leaf t = none := by unfold leaf; rw [if_neg l2, if_neg lc, if_neg lr, if_neg lh, if_neg ld]
      rw [ln] at hQ
      have hfm := FtM_0 (k := 1) hR (by omega)
      have p3 := (FtM_pos hfm.1).2.2
      have h0 := hQ _ 1 (sRm_F hfm.2) hfm.1 (oX_f (by decide))
      have hbl := fun Q => m_blame (T := T) (n := n) (d + 2) 1 t M Q hL hR
      have L2 : Lay (uI (uI M 277 8 1) 277 9 (nI (tS t))) := hL
      rw [show nI 1 = (1 : Int32) from rfl] at hbl p3 h0
      simp +decide only [qX11_operand_0, qX11_operand_1, qX11_operand_2, qX11_operand_3, qX11_operand_4, lm hL, w5, w6, w7, w8, lc', lr', lh', ld', b01, hR.2.2.2.2.1, hbl, am_w1_i, am_w1_r, am_w1_x, am_w1_l, am_w1_w, va_rf_s, am_push_n, am_push_s, am_cs_0, am_cs_i, am_cs_l, am_cs_r, m_uI_K, m_uI_N, m_uI_R, m_uI_L, m_uI_I, m_uL_K, m_uL_N, m_uL_R, m_uL_I, m_uL_L, m_uR_K, m_uR_N, m_uR_I, m_uR_L, m_uR_R, true_and, and_true, true_implies, false_implies, not_true_eq_false, not_false_eq_true, if_true, if_false, false_and, and_false]
      exact h0
theorem PzM_bg {M : am_M} {z a c k ph : Nat} {bg : Bool} {pr : Nat} {os : List Nat} {F : List Frm} {vs : List Den} (h : PzM M z a c ((k, ph, bg, pr, os) :: F) vs) : PzM (uI M 308 F.length 0) z a c ((k, ph, false, pr, os) :: F) vs := by
  have g : gF (fun b j => b = 308 ∧ j = F.length) nT M (uI M 308 F.length 0) := gF_i _ ⟨rfl, rfl⟩
  obtain ⟨p1, p2, ⟨f1, f2, f3, f4, f5, f6, f7⟩, p4, p5, p6⟩ := h
  exact ⟨FmM_g p1 g (fun j q w => by omega), CdM_g p2 g (fun b j q _ _ w => by omega), ⟨by rw [m_uI_I, if_neg (by omega)]; exact f1, by rw [m_uI_I, if_neg (by omega)]; exact f2, by rw [m_uI_I, if_pos ⟨rfl, rfl⟩]; rfl, fun q => by rw [m_uI_I, if_neg (by omega)]; exact f4 q, by rw [m_uI_I, if_neg (by omega)]; exact f5, OpM_g g os f6 (fun j _ _ w => by omega), HpM_g g F f7 (fun b j q1 q2 q3 w => by omega) (fun j _ w => by omega)⟩, by rw [m_uI_I, if_neg (by omega)]; exact p4, by rw [m_uI_I, if_neg (by omega)]; exact p5, by rw [m_uI_I, if_neg (by omega)]; exact p6⟩
theorem m_operand (d z a c : Nat) (t : Tok) (k ph : Nat) (bg : Bool) (pr : Nat) (os : List Nat) (F : List Frm) (vs : List Den) (M : am_M) (Q : Option Value → am_M → Prop) (hL : Lay M) (hR : RdM M T n t) (hP : PzM M z a c ((k, ph, bg, pr, os) :: F) vs) (hk : k ≤ 5) (hF : F.length ≤ 8) (hb : sumO F + os.length ≤ 495) (hc : c + sumO ((k, ph, bg, pr, os) :: F) + nPr ((k, ph, bg, pr, os) :: F) ≤ tS t)
    (hQ : ∀ M' x, gF (sFm z a) nT M M' → RsM T n M' z a (mOpd T n t k ph bg pr os F vs) → oX (mOpd T n t k ph bg pr os F vs) x → Q (some (.int x)) M') : am_E am_P0 (d + 3) 190 [.ref 277] M Q := by
  obtain ⟨w1, w2, -⟩ := m_words (d + 2) t M hL hR
  have hP0 := hP
  obtain ⟨p1, p2, ⟨f1, f2, f3, f4, f5, f6, f7⟩, p4, p5, p6⟩ := hP
  have hts := fun Q => m_isTest (d + 2) k M Q hk
  dsimp only at f1 f3
  have p4' : mI M 277 47 = nI (F.length + 1) := p4
  have g1 : gF (sFm z a) nT M (uI M 308 F.length 0) := gF_i _ (Or.inr (Or.inr ⟨by omega, by omega⟩))
  have r1 : gF (fun b j => b = 308) nT M (uI M 308 F.length 0) := gF_i _ rfl
  have R1 : RdM (uI M 308 F.length 0) T n t := RdM_g hR r1 (fun b j q w => by omega)
  have L1 : Lay (uI M 308 F.length 0) := hL
  have P1 := PzM_bg hP0
  obtain ⟨u1, u2, -⟩ := m_words (d + 2) t _ L1 R1
  have s91 := m_signs (d + 2) t _ L1 R1 91 (by omega)
  rw [show nI 91 = (91 : Int32) from rfl] at s91
  have tail : nf t k bg → ∀ x2, am_P am_P0 (d + 3) (am_look tX11_operand) 121 [.ref 277, .int (nI F.length), .int x2, am_x] [] (uI M 308 F.length 0) Q := fun hn x2 => by
    rw [opT_e hn] at hQ
    exact m_opdT d z a c t k ph pr os F vs x2 _ Q L1 R1 P1 hF hc (fun M' x g h1 h2 => hQ M' x (gF_trans g1 g) h1 h2)
  rw [eX11_operand]
  by_cases cf : (isTs k && bg) = true
  · have cf' := cf
    rw [Bool.and_eq_true] at cf'
    obtain ⟨ck, cb⟩ := cf'
    subst cb
    by_cases cn : isW t wNot = true
    · have em : mOpd T n t k ph true pr os F vs = mAdv T n t (fun t1 => (t1, (k, ph, true, pr, 22 :: os) :: F, vs, false)) := by
        unfold mOpd; rw [if_pos (by rw [ck, cn]; rfl)]
      rw [em] at hQ
      simp +decide (disch := omega) only [qX11_operand_0, qX11_operand_1, qX11_operand_2, qX11_operand_3, qX11_operand_4, lm hL, p4', ni_sub1, ni_in_t, ni_tn, f1, f3, hts, ck, w1, cn, b01, am_w1_i, am_w1_r, am_w1_x, am_w1_l, am_w1_w, va_rf_s, am_push_n, am_push_s, am_cs_0, am_cs_i, am_cs_l, am_cs_r, m_uI_K, m_uI_N, m_uI_R, m_uI_L, m_uI_I, m_uL_K, m_uL_N, m_uL_R, m_uL_I, m_uL_L, m_uR_K, m_uR_N, m_uR_I, m_uR_L, m_uR_R, true_and, and_true, true_implies, false_implies, not_true_eq_false, not_false_eq_true, if_true, if_false, false_and, and_false]
      rw [show (22 : Int32) = nI 22 from rfl]
      refine m_holds (d + 2) z a c 22 k ph true pr os F vs M _ hL hP0 (by omega) (by omega) (fun M2 g2 P2 => ?_)
      have L2 := gF_LayN g2 hL
      have R2 : RdM M2 T n t := RdM_g hR g2 (fun b j q w => by omega)
      have eS : sumO ((k, ph, true, pr, 22 :: os) :: F) = sumO ((k, ph, true, pr, os) :: F) + 1 := rfl
      have eN : nPr ((k, ph, true, pr, 22 :: os) :: F) = nPr ((k, ph, true, pr, os) :: F) := rfl
      simp +decide only [qX11_operand_0, qX11_operand_1, qX11_operand_2, qX11_operand_3, qX11_operand_4, lm L2, am_w1_i, am_w1_r, am_w1_x, am_w1_l, am_w1_w, va_rf_s, am_push_n, am_push_s, am_cs_0, am_cs_i, am_cs_l, am_cs_r, m_uI_K, m_uI_N, m_uI_R, m_uI_L, m_uI_I, m_uL_K, m_uL_N, m_uL_R, m_uL_I, m_uL_L, m_uR_K, m_uR_N, m_uR_I, m_uR_L, m_uR_R, true_and, and_true, true_implies, false_implies, not_true_eq_false, not_false_eq_true, if_true, if_false, false_and, and_false]
      refine m_advS (d + 1) z a c t _ vs false M2 _ L2 R2 (isW_n0 cn) P2 (by rw [eS, eN]; omega) (fun M3 g3 _ h3 => ?_)
      have h0 := hQ M3 0 (gF_trans (gF_up g2 (fun b j q => by unfold sFm; omega) (fun _ _ q => q)) (sRm_F g3)) h3 (oX_adv (o := false) (fun _ => rfl))
      simp +decide only [qX11_operand_0, qX11_operand_1, qX11_operand_2, qX11_operand_3, qX11_operand_4, am_w1_i, am_w1_r, am_w1_x, am_w1_l, am_w1_w, va_rf_s, am_push_n, am_push_s, am_cs_0, am_cs_i, am_cs_l, am_cs_r, m_uI_K, m_uI_N, m_uI_R, m_uI_L, m_uI_I, m_uL_K, m_uL_N, m_uL_R, m_uL_I, m_uL_L, m_uR_K, m_uR_N, m_uR_I, m_uR_L, m_uR_R, true_and, and_true, true_implies, false_implies, not_true_eq_false, not_false_eq_true, if_true, if_false, false_and, and_false]
      exact h0
    · have cn' : isW t wNot = false := by simpa using cn
      by_cases c9 : isS t 91 = true
      · have em : mOpd T n t k ph true pr os F vs = (if F.length = 8 then .inl (5, tS t) else mAdv T n t (fun t1 => (t1, (5, 0, true, 0, []) :: (k, ph, false, pr, os) :: F, vs, false))) := by
          unfold mOpd; rw [if_neg (by rw [ck, cn']; decide), if_pos (by rw [ck, c9]; rfl)]
        rw [em] at hQ
        simp +decide (disch := omega) only [qX11_operand_0, qX11_operand_1, qX11_operand_2, qX11_operand_3, qX11_operand_4, lm hL, p4', ni_sub1, ni_in_t, ni_tn, f1, f3, hts, ck, w1, cn', s91, c9, b01, am_w1_i, am_w1_r, am_w1_x, am_w1_l, am_w1_w, va_rf_s, am_push_n, am_push_s, am_cs_0, am_cs_i, am_cs_l, am_cs_r, m_uI_K, m_uI_N, m_uI_R, m_uI_L, m_uI_I, m_uL_K, m_uL_N, m_uL_R, m_uL_I, m_uL_L, m_uR_K, m_uR_N, m_uR_I, m_uR_L, m_uR_R, true_and, and_true, true_implies, false_implies, not_true_eq_false, not_false_eq_true, if_true, if_false, false_and, and_false]
        rw [show (5 : Int32) = nI 5 from rfl]
        refine m_opensS d z a c 5 t _ F vs _ _ L1 R1 (isS_n0 c9) P1 hF (Or.inr rfl) hc (fun M2 g2 h2 => ?_)
        have h0 := hQ M2 0 (gF_trans g1 g2) h2 (by
          split
          · exact oX_f (by decide)
          · exact oX_adv (o := false) (fun _ => rfl))
        simp +decide only [qX11_operand_0, qX11_operand_1, qX11_operand_2, qX11_operand_3, qX11_operand_4, am_w1_i, am_w1_r, am_w1_x, am_w1_l, am_w1_w, va_rf_s, am_push_n, am_push_s, am_cs_0, am_cs_i, am_cs_l, am_cs_r, m_uI_K, m_uI_N, m_uI_R, m_uI_L, m_uI_I, m_uL_K, m_uL_N, m_uL_R, m_uL_I, m_uL_L, m_uR_K, m_uR_N, m_uR_I, m_uR_L, m_uR_R, true_and, and_true, true_implies, false_implies, not_true_eq_false, not_false_eq_true, if_true, if_false, false_and, and_false]
        exact h0
      · have c9' : isS t 91 = false := by simpa using c9
        by_cases ca : isW t wAll = true
        · have em : mOpd T n t k ph true pr os F vs = mAdv T n t (fun t1 => (t1, (k, 2, false, pr, os) :: F, (fun _ => 1) :: vs, true)) := by
            unfold mOpd; rw [if_neg (by rw [ck, cn']; decide), if_neg (by rw [ck, c9']; decide), if_pos (by rw [ck, ca]; rfl)]
          rw [em] at hQ
          have hn0 := isW_n0 ca
          have hk0 := tkG_0 hR.2.2.2.2.2.2.2.2 hn0
          have hcl : c < 1800 := by have := hR.1.2.1; omega
          have hadd := fun Q => m_add (d + 2) z c 9 0 (uI M 308 F.length 0) Q L1 P1.1 hcl
          obtain ⟨v1, v2, v3, v4, v5, v6⟩ := P1
          have hlen := cdD_len v2.2.1
          rw [v2.2.2] at hlen
          have hcf : c ≤ 1800 := v1.2.1
          have hC2 := CdM_e 9 0 hcl v2 (show opOK 1850 (9, 0) vs from ⟨fun _ => ⟨by omega, fun e he => ⟨by show (-1000000 : Int) ≤ 1; omega, by show (1 : Int) ≤ 1000000; omega⟩⟩, fun q => by dsimp only at q; omega, fun q => by dsimp only at q; omega, fun q => by dsimp only at q; omega, by dsimp only; omega⟩)
          have est : stD (uW 9, (0 : Int32).toInt) vs = (fun _ => 1) :: vs := rfl
          rw [est] at hC2
          have hF2 := FmM_e (s := 9) (v := 0) v1 hcl
          have ga : gF (fun b j => (b = 304 ∨ b = 305) ∨ (b = 277 ∧ j = 40)) nT (uI M 308 F.length 0) (addM (uI M 308 F.length 0) z c 9 0) := gF_trans (gF_i _ (Or.inl (Or.inl rfl))) (gF_trans (gF_i _ (Or.inl (Or.inr rfl))) (gF_i _ (Or.inr ⟨rfl, rfl⟩)))
          have Ga : gF (sFm z a) nT (uI M 308 F.length 0) (addM (uI M 308 F.length 0) z c 9 0) := gF_add v2.1 hcl
          generalize addM (uI M 308 F.length 0) z c 9 0 = M2 at hadd hC2 hF2 ga Ga
          have L2 := gF_LayN ga L1
          have gb : gF (fun b j => b = 307 ∧ j = F.length) nT M2 (uI M2 307 F.length 2) := gF_i _ ⟨rfl, rfl⟩
          have Gb : gF (sFm z a) nT M2 (uI M2 307 F.length 2) := gF_i _ (Or.inr (Or.inr ⟨by omega, by omega⟩))
          have H2 := HpM_g ga _ v3 (fun b j q1 q2 _ w => by omega) (fun j _ w => by omega)
          obtain ⟨e1, e2, e3, e4, e5, e6, e7⟩ := H2
          have P3 : PzM (uI M2 307 F.length 2) z a (c + 1) ((k, 2, false, pr, os) :: F) ((fun _ => 1) :: vs) := ⟨FmM_g hF2 gb (fun j q w => by omega), CdM_g hC2 gb (fun b j q _ _ w => by omega), ⟨by rw [m_uI_I, if_neg (by omega)]; exact e1, by rw [m_uI_I, if_pos ⟨rfl, rfl⟩]; rfl, by rw [m_uI_I, if_neg (by omega)]; exact e3, fun q => by rw [m_uI_I, if_neg (by omega)]; exact e4 q, by rw [m_uI_I, if_neg (by omega)]; exact e5, OpM_g gb os e6 (fun j _ _ w => by omega), HpM_g gb F e7 (fun b j q1 q2 q3 w => by omega) (fun j _ w => by omega)⟩, by rw [m_uI_I, if_neg (by omega), ga.1 _ _ (by omega)]; exact v4, by rw [m_uI_I, if_neg (by omega), ga.1 _ _ (by omega)]; exact v5, by rw [m_uI_I, if_neg (by omega), ga.1 _ _ (by omega)]; exact v6⟩
          have R3 : RdM (uI M2 307 F.length 2) T n t := RdM_g (RdM_g R1 ga (fun b j q w => by omega)) gb (fun b j q w => by omega)
          have L3 : Lay (uI M2 307 F.length 2) := L2
          simp +decide (disch := omega) only [qX11_operand_0, qX11_operand_1, qX11_operand_2, qX11_operand_3, qX11_operand_4, lm hL, p4', ni_sub1, ni_in_t, ni_tn, f1, f3, hts, ck, w1, cn', s91, c9', u2, ca, hadd, lm L2, b01, am_w1_i, am_w1_r, am_w1_x, am_w1_l, am_w1_w, va_rf_s, am_push_n, am_push_s, am_cs_0, am_cs_i, am_cs_l, am_cs_r, m_uI_K, m_uI_N, m_uI_R, m_uI_L, m_uI_I, m_uL_K, m_uL_N, m_uL_R, m_uL_I, m_uL_L, m_uR_K, m_uR_N, m_uR_I, m_uR_L, m_uR_R, true_and, and_true, true_implies, false_implies, not_true_eq_false, not_false_eq_true, if_true, if_false, false_and, and_false]
          refine m_advS (d + 1) z a (c + 1) t _ _ true _ _ L3 R3 hn0 P3 (by
            have eS : sumO ((k, 2, false, pr, os) :: F) = sumO ((k, ph, true, pr, os) :: F) := rfl
            have eN : nPr ((k, 2, false, pr, os) :: F) = nPr ((k, ph, true, pr, os) :: F) := rfl
            rw [eS, eN]; omega) (fun M4 g4 _ h4 => ?_)
          have h0 := hQ M4 1 (gF_trans g1 (gF_trans Ga (gF_trans Gb (sRm_F g4)))) h4 (oX_adv (o := true) (fun _ => rfl))
          simp +decide only [qX11_operand_0, qX11_operand_1, qX11_operand_2, qX11_operand_3, qX11_operand_4, am_w1_i, am_w1_r, am_w1_x, am_w1_l, am_w1_w, va_rf_s, am_push_n, am_push_s, am_cs_0, am_cs_i, am_cs_l, am_cs_r, m_uI_K, m_uI_N, m_uI_R, m_uI_L, m_uI_I, m_uL_K, m_uL_N, m_uL_R, m_uL_I, m_uL_L, m_uR_K, m_uR_N, m_uR_I, m_uR_L, m_uR_R, true_and, and_true, true_implies, false_implies, not_true_eq_false, not_false_eq_true, if_true, if_false, false_and, and_false]
          exact h0
        · have ca' : isW t wAll = false := by simpa using ca
          have tl := tail ⟨by rw [ck, cn']; rfl, by rw [ck, c9']; rfl, by rw [ck, ca']; rfl⟩ 1
          simp +decide (disch := omega) only [qX11_operand_0, qX11_operand_1, qX11_operand_2, qX11_operand_3, qX11_operand_4, lm hL, p4', ni_sub1, ni_in_t, ni_tn, f1, f3, hts, ck, w1, cn', s91, c9', u2, ca', b01, am_w1_i, am_w1_r, am_w1_x, am_w1_l, am_w1_w, va_rf_s, am_push_n, am_push_s, am_cs_0, am_cs_i, am_cs_l, am_cs_r, m_uI_K, m_uI_N, m_uI_R, m_uI_L, m_uI_I, m_uL_K, m_uL_N, m_uL_R, m_uL_I, m_uL_L, m_uR_K, m_uR_N, m_uR_I, m_uR_L, m_uR_R, true_and, and_true, true_implies, false_implies, not_true_eq_false, not_false_eq_true, if_true, if_false, false_and, and_false] at tl ⊢
          exact tl
  · have cf' : (isTs k && bg) = false := by simpa using cf
    have tl := tail ⟨by rw [cf']; rfl, by rw [cf']; rfl, by rw [cf']; rfl⟩ 0
    by_cases ck : isTs k = true
    · have cb : bg = false := by rw [ck, Bool.true_and] at cf'; exact cf'
      subst cb
      simp +decide (disch := omega) only [qX11_operand_0, qX11_operand_1, qX11_operand_2, qX11_operand_3, qX11_operand_4, lm hL, p4', ni_sub1, ni_in_t, ni_tn, f1, f3, hts, ck, b01, am_w1_i, am_w1_r, am_w1_x, am_w1_l, am_w1_w, va_rf_s, am_push_n, am_push_s, am_cs_0, am_cs_i, am_cs_l, am_cs_r, m_uI_K, m_uI_N, m_uI_R, m_uI_L, m_uI_I, m_uL_K, m_uL_N, m_uL_R, m_uL_I, m_uL_L, m_uR_K, m_uR_N, m_uR_I, m_uR_L, m_uR_R, true_and, and_true, true_implies, false_implies, not_true_eq_false, not_false_eq_true, if_true, if_false, false_and, and_false] at tl ⊢
      exact tl
    · have ck' : isTs k = false := by simpa using ck
      simp +decide (disch := omega) only [qX11_operand_0, qX11_operand_1, qX11_operand_2, qX11_operand_3, qX11_operand_4, lm hL, p4', ni_sub1, ni_in_t, ni_tn, f1, hts, ck', b01, am_w1_i, am_w1_r, am_w1_x, am_w1_l, am_w1_w, va_rf_s, am_push_n, am_push_s, am_cs_0, am_cs_i, am_cs_l, am_cs_r, m_uI_K, m_uI_N, m_uI_R, m_uI_L, m_uI_I, m_uL_K, m_uL_N, m_uL_R, m_uL_I, m_uL_L, m_uR_K, m_uR_N, m_uR_I, m_uR_L, m_uR_R, true_and, and_true, true_implies, false_implies, not_true_eq_false, not_false_eq_true, if_true, if_false, false_and, and_false] at tl ⊢
      exact tl
end
end
section
/-! the model's formulas: what follows an operand -/
section
variable {T : Nat → Nat} {n : Nat}
theorem jns_len {l : Nat} : ∀ (os : List Nat) (vs : List Den), (jns l os vs).1.length ≤ os.length := by
  intro os
  induction os with
  | nil => intro vs; exact Nat.le_refl _
  | cons o os ih =>
    intro vs
    rw [jns_c]
    split
    · have := ih (appD o vs); rw [List.length_cons]; omega
    · exact Nat.le_refl _
theorem RsM_51 {M : am_M} {z a : Nat} {r : Sum (Nat × Nat) (Mst × Bool)} (x : Int32) (h : RsM T n M z a r) : RsM T n (uI M 277 51 x) z a r := by
  have g : gF (fun b j => b = 277 ∧ j = 51) nT M (uI M 277 51 x) := gF_i _ ⟨rfl, rfl⟩
  cases r with
  | inl e => exact FtM_g h g (fun b j q w => by omega)
  | inr q =>
    obtain ⟨c, h1, h2, h3⟩ := h
    exact ⟨c, RdM_g h1 g (fun b j q w => by omega), PzM_g h2 g (fun b j q => by omega), h3⟩
theorem PzM_top {M M' : am_M} {z a c k ph k' ph' : Nat} {bg bg' : Bool} {pr : Nat} {os : List Nat} {F : List Frm} {vs : List Den} (h : PzM M z a c ((k, ph, bg, pr, os) :: F) vs) (g : gF (fun b j => 306 ≤ b ∧ b ≤ 308 ∧ j = F.length) nT M M') (h1 : mI M' 306 F.length = nI k') (h2 : mI M' 307 F.length = nI ph') (h3 : mI M' 308 F.length = b01 bg') (h4 : k' = 3 ∨ k' = 4 → k = 3 ∨ k = 4) : PzM M' z a c ((k', ph', bg', pr, os) :: F) vs := by
  obtain ⟨p1, p2, ⟨f1, f2, f3, f4, f5, f6, f7⟩, p4, p5, p6⟩ := h
  exact ⟨FmM_g p1 g (fun j q w => by omega), CdM_g p2 g (fun b j q _ _ w => by omega), ⟨h1, h2, h3, fun q => by rw [g.1 _ _ (by omega)]; exact f4 (h4 q), by rw [g.1 _ _ (by omega)]; exact f5, OpM_g g os f6 (fun j _ _ w => by omega), HpM_g g F f7 (fun b j q1 q2 q3 w => by omega) (fun j _ w => by omega)⟩, by rw [g.1 _ _ (by omega)]; exact p4, by rw [g.1 _ _ (by omega)]; exact p5, by rw [g.1 _ _ (by omega)]; exact p6⟩
def gX (M : am_M) (r : Sum (Nat × Nat) (Mst × Bool)) (x : Int32) : Prop := ∀ s' b, r = .inr (s', b) → x = b01 b ∧ mI M 277 51 = b01 s'.2.2.2
theorem gX_adv {M : am_M} {t : Tok} {S : Tok → Mst} {o : Bool} (h : ∀ t1, (S t1).2.2.2 = o) (hm : mI M 277 51 = b01 o) : gX M (mAdv T n t S) 1 := fun s' b hs => by
  have hb : b = true := by
    unfold mAdv at hs
    split at hs
    · cases hs
    · cases hs; rfl
  obtain ⟨-, rfl⟩ := mAdv_r hs
  subst hb
  rw [h]
  exact ⟨rfl, hm⟩
abbrev Lg (F : List Frm) (k : Nat) (v4 : Value) : List Value := [.ref 277, .int (nI F.length), .int (nI k), .int (b01 (isTs k)), v4]
theorem sJm_R {M M' : am_M} {z a : Nat} {t : Tok} (h : RdM M T n t) (hg : gF (sJm z a) nT M M') : RdM M' T n t := RdM_g h hg (fun b j q w => by unfold sJm at w; omega)
/-- signs of sums -/
theorem m_goA (d z a c l op : Nat) (t : Tok) (k ph : Nat) (bg : Bool) (pr : Nat) (os : List Nat) (F : List Frm) (vs : List Den) (M : am_M) (Q : Option Value → am_M → Prop) (hL : Lay M) (hR : RdM M T n t) (h0 : ¬ t.1 = 0) (hP : PzM M z a c ((k, ph, bg, pr, os) :: F) vs) (hF : F.length ≤ 8) (hb : sumO F + os.length ≤ 495) (hc : c + sumO ((k, ph, bg, pr, os) :: F) + nPr ((k, ph, bg, pr, os) :: F) ≤ tS t) (hten : ∀ o, o ∈ os → 10 ≤ o) (hl : l ≤ 6) (hop : op ≤ 22) (hj : jok l os vs)
    (hsel : ∀ M', Lay M' → RdM M' T n t → am_P am_P0 (d + 3) (am_look tX11_goesOn) 161 (Lg F k am_x) [.int (nI op), .ref 277] M' Q → am_P am_P0 (d + 3) (am_look tX11_goesOn) 102 (Lg F k am_x) [] M' Q)
    (hQ : ∀ M' x, gF (sFm z a) nT M M' → RsM T n M' z a (mAdv T n t (fun t1 => (t1, (k, ph, bg, pr, op :: (jns l os vs).1) :: F, (jns l os vs).2, false))) → gX M' (mAdv T n t (fun t1 => (t1, (k, ph, bg, pr, op :: (jns l os vs).1) :: F, (jns l os vs).2, false))) x → Q (some (.int x)) M') : am_P am_P0 (d + 3) (am_look tX11_goesOn) 99 (Lg F k am_x) [.int (nI l), .ref 277] M Q := by
  have eO : sumO ((k, ph, bg, pr, os) :: F) = sumO F + os.length := rfl
  have hcn : c + os.length ≤ 1800 := by have := hR.1.2.1; have := hR.2.2.2.2.2.2.2.2.1; have := hR.2.2.2.2.2.2.2.2.2.1; omega
  simp +decide only [qX11_goesOn_0, qX11_goesOn_1, qX11_goesOn_2, qX11_goesOn_3, qX11_goesOn_4, qX11_goesOn_5, qX11_goesOn_6, qX11_goesOn_7, lm hL, am_w1_i, am_w1_r, am_w1_x, am_w1_l, am_w1_w, va_rf_s, am_push_n, am_push_s, am_cs_0, am_cs_i, am_cs_l, am_cs_r, m_uI_K, m_uI_N, m_uI_R, m_uI_L, m_uI_I, m_uL_K, m_uL_N, m_uL_R, m_uL_I, m_uL_L, m_uR_K, m_uR_N, m_uR_I, m_uR_L, m_uR_R, true_and, and_true, true_implies, false_implies, not_true_eq_false, not_false_eq_true, if_true, if_false, false_and, and_false]
  refine m_joins (d + 1) z a c l k ph bg pr os F vs M _ hL hP hl hF hten (by omega) hcn hj (fun M1 c1 g1 e1 P1 => ?_)
  have L1 := gF_LayN g1 hL
  have R1 := sJm_R hR g1
  have hlen : (jns l os vs).1.length ≤ os.length := jns_len os vs
  suffices key : am_P am_P0 (d + 3) (am_look tX11_goesOn) 161 (Lg F k am_x) [.int (nI op), .ref 277] M1 Q by
    have hs := hsel M1 L1 R1 key
    simp +decide only [Lg, qX11_goesOn_0, qX11_goesOn_1, qX11_goesOn_2, qX11_goesOn_3, qX11_goesOn_4, qX11_goesOn_5, qX11_goesOn_6, qX11_goesOn_7, lm L1, am_w1_i, am_w1_r, am_w1_x, am_w1_l, am_w1_w, va_rf_s, am_push_n, am_push_s, am_cs_0, am_cs_i, am_cs_l, am_cs_r, m_uI_K, m_uI_N, m_uI_R, m_uI_L, m_uI_I, m_uL_K, m_uL_N, m_uL_R, m_uL_I, m_uL_L, m_uR_K, m_uR_N, m_uR_I, m_uR_L, m_uR_R, true_and, and_true, true_implies, false_implies, not_true_eq_false, not_false_eq_true, if_true, if_false, false_and, and_false] at hs ⊢
    exact hs
  simp +decide only [qX11_goesOn_0, qX11_goesOn_1, qX11_goesOn_2, qX11_goesOn_3, qX11_goesOn_4, qX11_goesOn_5, qX11_goesOn_6, qX11_goesOn_7, lm L1, am_w1_i, am_w1_r, am_w1_x, am_w1_l, am_w1_w, va_rf_s, am_push_n, am_push_s, am_cs_0, am_cs_i, am_cs_l, am_cs_r, m_uI_K, m_uI_N, m_uI_R, m_uI_L, m_uI_I, m_uL_K, m_uL_N, m_uL_R, m_uL_I, m_uL_L, m_uR_K, m_uR_N, m_uR_I, m_uR_L, m_uR_R, true_and, and_true, true_implies, false_implies, not_true_eq_false, not_false_eq_true, if_true, if_false, false_and, and_false]
  refine m_holds (d + 2) z a c1 op k ph bg pr _ F _ M1 _ L1 P1 hop (by omega) (fun M2 g2 P2 => ?_)
  have L2 := gF_LayN g2 L1
  have R2 : RdM M2 T n t := RdM_g R1 g2 (fun b j q w => by omega)
  have G2 : gF (sFm z a) nT M1 M2 := gF_up g2 (fun b j q => by unfold sFm; omega) (fun _ _ q => q)
  simp +decide only [qX11_goesOn_0, qX11_goesOn_1, qX11_goesOn_2, qX11_goesOn_3, qX11_goesOn_4, qX11_goesOn_5, qX11_goesOn_6, qX11_goesOn_7, lm L2, am_w1_i, am_w1_r, am_w1_x, am_w1_l, am_w1_w, va_rf_s, am_push_n, am_push_s, am_cs_0, am_cs_i, am_cs_l, am_cs_r, m_uI_K, m_uI_N, m_uI_R, m_uI_L, m_uI_I, m_uL_K, m_uL_N, m_uL_R, m_uL_I, m_uL_L, m_uR_K, m_uR_N, m_uR_I, m_uR_L, m_uR_R, true_and, and_true, true_implies, false_implies, not_true_eq_false, not_false_eq_true, if_true, if_false, false_and, and_false]
  have eS : sumO ((k, ph, bg, pr, op :: (jns l os vs).1) :: F) = sumO F + (jns l os vs).1.length + 1 := rfl
  have eN : nPr ((k, ph, bg, pr, op :: (jns l os vs).1) :: F) = nPr ((k, ph, bg, pr, os) :: F) := rfl
  refine m_advS (d + 1) z a c1 t _ _ false M2 _ L2 R2 h0 P2 (by rw [eS, eN]; omega) (fun M3 g3 _ h3 => ?_)
  have L3 := gF_LayN g3 L2
  have hq := hQ (uI M3 277 51 0) 1 (gF_trans (sJm_F g1) (gF_trans G2 (gF_trans (sRm_F g3) (gF_i _ (Or.inl ⟨rfl, by omega⟩))))) (RsM_51 0 h3) (gX_adv (o := false) (fun _ => rfl) (by rw [m_uI_I, if_pos ⟨rfl, rfl⟩]; rfl))
  simp +decide only [qX11_goesOn_0, qX11_goesOn_1, qX11_goesOn_2, qX11_goesOn_3, qX11_goesOn_4, qX11_goesOn_5, qX11_goesOn_6, qX11_goesOn_7, lm L3, am_w1_i, am_w1_r, am_w1_x, am_w1_l, am_w1_w, va_rf_s, am_push_n, am_push_s, am_cs_0, am_cs_i, am_cs_l, am_cs_r, m_uI_K, m_uI_N, m_uI_R, m_uI_L, m_uI_I, m_uL_K, m_uL_N, m_uL_R, m_uL_I, m_uL_L, m_uR_K, m_uR_N, m_uR_I, m_uR_L, m_uR_R, true_and, and_true, true_implies, false_implies, not_true_eq_false, not_false_eq_true, if_true, if_false, false_and, and_false]
  exact hq
/-- a comparing sign -/
theorem m_goC (d z a c op : Nat) (t : Tok) (k ph : Nat) (bg : Bool) (pr : Nat) (os : List Nat) (F : List Frm) (vs : List Den) (M : am_M) (Q : Option Value → am_M → Prop) (hL : Lay M) (hR : RdM M T n t) (h0 : ¬ t.1 = 0) (hP : PzM M z a c ((k, ph, bg, pr, os) :: F) vs) (hF : F.length ≤ 8) (hb : sumO F + os.length ≤ 495) (hc : c + sumO ((k, ph, bg, pr, os) :: F) + nPr ((k, ph, bg, pr, os) :: F) ≤ tS t) (hten : ∀ o, o ∈ os → 10 ≤ o) (hop : op ≤ 22) (hj : jok 5 os vs)
    (hsel : ∀ M', Lay M' → RdM M' T n t → am_P am_P0 (d + 3) (am_look tX11_goesOn) 251 (Lg F k am_x) [.int (nI op), .ref 277] M' Q → am_P am_P0 (d + 3) (am_look tX11_goesOn) 220 (Lg F k am_x) [] M' Q)
    (hQ : ∀ M' x, gF (sFm z a) nT M M' → RsM T n M' z a (mAdv T n t (fun t1 => (t1, (k, 1, bg, pr, op :: (jns 5 os vs).1) :: F, (jns 5 os vs).2, false))) → gX M' (mAdv T n t (fun t1 => (t1, (k, 1, bg, pr, op :: (jns 5 os vs).1) :: F, (jns 5 os vs).2, false))) x → Q (some (.int x)) M') : am_P am_P0 (d + 3) (am_look tX11_goesOn) 217 (Lg F k am_x) [.int (nI 5), .ref 277] M Q := by
  have eO : sumO ((k, ph, bg, pr, os) :: F) = sumO F + os.length := rfl
  have hcn : c + os.length ≤ 1800 := by have := hR.1.2.1; have := hR.2.2.2.2.2.2.2.2.1; have := hR.2.2.2.2.2.2.2.2.2.1; omega
  simp +decide only [qX11_goesOn_0, qX11_goesOn_1, qX11_goesOn_2, qX11_goesOn_3, qX11_goesOn_4, qX11_goesOn_5, qX11_goesOn_6, qX11_goesOn_7, lm hL, am_w1_i, am_w1_r, am_w1_x, am_w1_l, am_w1_w, va_rf_s, am_push_n, am_push_s, am_cs_0, am_cs_i, am_cs_l, am_cs_r, m_uI_K, m_uI_N, m_uI_R, m_uI_L, m_uI_I, m_uL_K, m_uL_N, m_uL_R, m_uL_I, m_uL_L, m_uR_K, m_uR_N, m_uR_I, m_uR_L, m_uR_R, true_and, and_true, true_implies, false_implies, not_true_eq_false, not_false_eq_true, if_true, if_false, false_and, and_false]
  refine m_joins (d + 1) z a c 5 k ph bg pr os F vs M _ hL hP (by omega) hF hten (by omega) hcn hj (fun M1 c1 g1 e1 P1 => ?_)
  have L1 := gF_LayN g1 hL
  have R1 := sJm_R hR g1
  have hlen : (jns 5 os vs).1.length ≤ os.length := jns_len os vs
  suffices key : am_P am_P0 (d + 3) (am_look tX11_goesOn) 251 (Lg F k am_x) [.int (nI op), .ref 277] M1 Q by
    have hs := hsel M1 L1 R1 key
    simp +decide only [Lg, qX11_goesOn_0, qX11_goesOn_1, qX11_goesOn_2, qX11_goesOn_3, qX11_goesOn_4, qX11_goesOn_5, qX11_goesOn_6, qX11_goesOn_7, lm L1, am_w1_i, am_w1_r, am_w1_x, am_w1_l, am_w1_w, va_rf_s, am_push_n, am_push_s, am_cs_0, am_cs_i, am_cs_l, am_cs_r, m_uI_K, m_uI_N, m_uI_R, m_uI_L, m_uI_I, m_uL_K, m_uL_N, m_uL_R, m_uL_I, m_uL_L, m_uR_K, m_uR_N, m_uR_I, m_uR_L, m_uR_R, true_and, and_true, true_implies, false_implies, not_true_eq_false, not_false_eq_true, if_true, if_false, false_and, and_false] at hs ⊢
    exact hs
  simp +decide only [qX11_goesOn_0, qX11_goesOn_1, qX11_goesOn_2, qX11_goesOn_3, qX11_goesOn_4, qX11_goesOn_5, qX11_goesOn_6, qX11_goesOn_7, lm L1, am_w1_i, am_w1_r, am_w1_x, am_w1_l, am_w1_w, va_rf_s, am_push_n, am_push_s, am_cs_0, am_cs_i, am_cs_l, am_cs_r, m_uI_K, m_uI_N, m_uI_R, m_uI_L, m_uI_I, m_uL_K, m_uL_N, m_uL_R, m_uL_I, m_uL_L, m_uR_K, m_uR_N, m_uR_I, m_uR_L, m_uR_R, true_and, and_true, true_implies, false_implies, not_true_eq_false, not_false_eq_true, if_true, if_false, false_and, and_false]
  refine m_holds (d + 2) z a c1 op k ph bg pr _ F _ M1 _ L1 P1 hop (by omega) (fun M2 g2 P2 => ?_)
  have L2 := gF_LayN g2 L1
  have R2 : RdM M2 T n t := RdM_g R1 g2 (fun b j q w => by omega)
  have G2 : gF (sFm z a) nT M1 M2 := gF_up g2 (fun b j q => by unfold sFm; omega) (fun _ _ q => q)
  have gp : gF (fun b j => 306 ≤ b ∧ b ≤ 308 ∧ j = F.length) nT M2 (uI M2 307 F.length 1) := gF_i _ ⟨by omega, by omega, rfl⟩
  have Gp : gF (sFm z a) nT M2 (uI M2 307 F.length 1) := gF_i _ (Or.inr (Or.inr ⟨by omega, by omega⟩))
  have P3 := PzM_top (k' := k) (ph' := 1) (bg' := bg) P2 gp (by rw [m_uI_I, if_neg (by omega)]; exact P2.2.2.1.1) (by rw [m_uI_I, if_pos ⟨rfl, rfl⟩]; rfl) (by rw [m_uI_I, if_neg (by omega)]; exact P2.2.2.1.2.2.1) (fun q => q)
  have R3 : RdM (uI M2 307 F.length 1) T n t := RdM_g R2 gp (fun b j q w => by omega)
  have L3 : Lay (uI M2 307 F.length 1) := L2
  simp +decide (disch := omega) only [qX11_goesOn_0, qX11_goesOn_1, qX11_goesOn_2, qX11_goesOn_3, qX11_goesOn_4, qX11_goesOn_5, qX11_goesOn_6, qX11_goesOn_7, lm L2, ni_in_t, ni_tn, am_w1_i, am_w1_r, am_w1_x, am_w1_l, am_w1_w, va_rf_s, am_push_n, am_push_s, am_cs_0, am_cs_i, am_cs_l, am_cs_r, m_uI_K, m_uI_N, m_uI_R, m_uI_L, m_uI_I, m_uL_K, m_uL_N, m_uL_R, m_uL_I, m_uL_L, m_uR_K, m_uR_N, m_uR_I, m_uR_L, m_uR_R, true_and, and_true, true_implies, false_implies, not_true_eq_false, not_false_eq_true, if_true, if_false, false_and, and_false]
  have eS : sumO ((k, 1, bg, pr, op :: (jns 5 os vs).1) :: F) = sumO F + (jns 5 os vs).1.length + 1 := rfl
  have eN : nPr ((k, 1, bg, pr, op :: (jns 5 os vs).1) :: F) = nPr ((k, ph, bg, pr, os) :: F) := rfl
  refine m_advS (d + 1) z a c1 t _ _ false _ _ L3 R3 h0 P3 (by rw [eS, eN]; omega) (fun M4 g4 _ h4 => ?_)
  have L4 := gF_LayN g4 L3
  have hq := hQ (uI M4 277 51 0) 1 (gF_trans (sJm_F g1) (gF_trans G2 (gF_trans Gp (gF_trans (sRm_F g4) (gF_i _ (Or.inl ⟨rfl, by omega⟩)))))) (RsM_51 0 h4) (gX_adv (o := false) (fun _ => rfl) (by rw [m_uI_I, if_pos ⟨rfl, rfl⟩]; rfl))
  simp +decide only [qX11_goesOn_0, qX11_goesOn_1, qX11_goesOn_2, qX11_goesOn_3, qX11_goesOn_4, qX11_goesOn_5, qX11_goesOn_6, qX11_goesOn_7, lm L4, am_w1_i, am_w1_r, am_w1_x, am_w1_l, am_w1_w, va_rf_s, am_push_n, am_push_s, am_cs_0, am_cs_i, am_cs_l, am_cs_r, m_uI_K, m_uI_N, m_uI_R, m_uI_L, m_uI_I, m_uL_K, m_uL_N, m_uL_R, m_uL_I, m_uL_L, m_uR_K, m_uR_N, m_uR_I, m_uR_L, m_uR_R, true_and, and_true, true_implies, false_implies, not_true_eq_false, not_false_eq_true, if_true, if_false, false_and, and_false]
  exact hq
/-- and, or -/
theorem m_goB (d z a c l op : Nat) (w4 : Int32) (t : Tok) (k ph : Nat) (bg : Bool) (pr : Nat) (os : List Nat) (F : List Frm) (vs : List Den) (M : am_M) (Q : Option Value → am_M → Prop) (hL : Lay M) (hR : RdM M T n t) (h0 : ¬ t.1 = 0) (hP : PzM M z a c ((k, ph, bg, pr, os) :: F) vs) (hF : F.length ≤ 8) (hb : sumO F + os.length ≤ 495) (hc : c + sumO ((k, ph, bg, pr, os) :: F) + nPr ((k, ph, bg, pr, os) :: F) ≤ tS t) (hten : ∀ o, o ∈ os → 10 ≤ o) (hl : l ≤ 6) (hop : op ≤ 22) (hj : jok l os vs)
    (hsel : ∀ M', Lay M' → RdM M' T n t → am_P am_P0 (d + 3) (am_look tX11_goesOn) 359 (Lg F k (.int w4)) [.int (nI op), .ref 277] M' Q → am_P am_P0 (d + 3) (am_look tX11_goesOn) 346 (Lg F k (.int w4)) [] M' Q)
    (hQ : ∀ M' x, gF (sFm z a) nT M M' → RsM T n M' z a (mAdv T n t (fun t1 => (t1, (k, 0, true, pr, op :: (jns l os vs).1) :: F, (jns l os vs).2, false))) → gX M' (mAdv T n t (fun t1 => (t1, (k, 0, true, pr, op :: (jns l os vs).1) :: F, (jns l os vs).2, false))) x → Q (some (.int x)) M') : am_P am_P0 (d + 3) (am_look tX11_goesOn) 343 (Lg F k (.int w4)) [.int (nI l), .ref 277] M Q := by
  have eO : sumO ((k, ph, bg, pr, os) :: F) = sumO F + os.length := rfl
  have hcn : c + os.length ≤ 1800 := by have := hR.1.2.1; have := hR.2.2.2.2.2.2.2.2.1; have := hR.2.2.2.2.2.2.2.2.2.1; omega
  simp +decide only [qX11_goesOn_0, qX11_goesOn_1, qX11_goesOn_2, qX11_goesOn_3, qX11_goesOn_4, qX11_goesOn_5, qX11_goesOn_6, qX11_goesOn_7, lm hL, am_w1_i, am_w1_r, am_w1_x, am_w1_l, am_w1_w, va_rf_s, am_push_n, am_push_s, am_cs_0, am_cs_i, am_cs_l, am_cs_r, m_uI_K, m_uI_N, m_uI_R, m_uI_L, m_uI_I, m_uL_K, m_uL_N, m_uL_R, m_uL_I, m_uL_L, m_uR_K, m_uR_N, m_uR_I, m_uR_L, m_uR_R, true_and, and_true, true_implies, false_implies, not_true_eq_false, not_false_eq_true, if_true, if_false, false_and, and_false]
  refine m_joins (d + 1) z a c l k ph bg pr os F vs M _ hL hP hl hF hten (by omega) hcn hj (fun M1 c1 g1 e1 P1 => ?_)
  have L1 := gF_LayN g1 hL
  have R1 := sJm_R hR g1
  have hlen : (jns l os vs).1.length ≤ os.length := jns_len os vs
  suffices key : am_P am_P0 (d + 3) (am_look tX11_goesOn) 359 (Lg F k (.int w4)) [.int (nI op), .ref 277] M1 Q by
    have hs := hsel M1 L1 R1 key
    simp +decide only [Lg, qX11_goesOn_0, qX11_goesOn_1, qX11_goesOn_2, qX11_goesOn_3, qX11_goesOn_4, qX11_goesOn_5, qX11_goesOn_6, qX11_goesOn_7, lm L1, am_w1_i, am_w1_r, am_w1_x, am_w1_l, am_w1_w, va_rf_s, am_push_n, am_push_s, am_cs_0, am_cs_i, am_cs_l, am_cs_r, m_uI_K, m_uI_N, m_uI_R, m_uI_L, m_uI_I, m_uL_K, m_uL_N, m_uL_R, m_uL_I, m_uL_L, m_uR_K, m_uR_N, m_uR_I, m_uR_L, m_uR_R, true_and, and_true, true_implies, false_implies, not_true_eq_false, not_false_eq_true, if_true, if_false, false_and, and_false] at hs ⊢
    exact hs
  simp +decide only [qX11_goesOn_0, qX11_goesOn_1, qX11_goesOn_2, qX11_goesOn_3, qX11_goesOn_4, qX11_goesOn_5, qX11_goesOn_6, qX11_goesOn_7, lm L1, am_w1_i, am_w1_r, am_w1_x, am_w1_l, am_w1_w, va_rf_s, am_push_n, am_push_s, am_cs_0, am_cs_i, am_cs_l, am_cs_r, m_uI_K, m_uI_N, m_uI_R, m_uI_L, m_uI_I, m_uL_K, m_uL_N, m_uL_R, m_uL_I, m_uL_L, m_uR_K, m_uR_N, m_uR_I, m_uR_L, m_uR_R, true_and, and_true, true_implies, false_implies, not_true_eq_false, not_false_eq_true, if_true, if_false, false_and, and_false]
  refine m_holds (d + 2) z a c1 op k ph bg pr _ F _ M1 _ L1 P1 hop (by omega) (fun M2 g2 P2 => ?_)
  have L2 := gF_LayN g2 L1
  have R2 : RdM M2 T n t := RdM_g R1 g2 (fun b j q w => by omega)
  have G2 : gF (sFm z a) nT M1 M2 := gF_up g2 (fun b j q => by unfold sFm; omega) (fun _ _ q => q)
  have gp : gF (fun b j => 306 ≤ b ∧ b ≤ 308 ∧ j = F.length) nT M2 (uI (uI M2 307 F.length 0) 308 F.length 1) := gF_trans (gF_i _ ⟨by omega, by omega, rfl⟩) (gF_i _ ⟨by omega, by omega, rfl⟩)
  have Gp : gF (sFm z a) nT M2 (uI (uI M2 307 F.length 0) 308 F.length 1) := gF_trans (gF_i _ (Or.inr (Or.inr ⟨by omega, by omega⟩))) (gF_i _ (Or.inr (Or.inr ⟨by omega, by omega⟩)))
  have P3 := PzM_top (k' := k) (ph' := 0) (bg' := true) P2 gp (by rw [m_uI_I, if_neg (by omega), m_uI_I, if_neg (by omega)]; exact P2.2.2.1.1) (by rw [m_uI_I, if_neg (by omega), m_uI_I, if_pos ⟨rfl, rfl⟩]; rfl) (by rw [m_uI_I, if_pos ⟨rfl, rfl⟩]; rfl) (fun q => q)
  have R3 : RdM (uI (uI M2 307 F.length 0) 308 F.length 1) T n t := RdM_g R2 gp (fun b j q w => by omega)
  have L3 : Lay (uI (uI M2 307 F.length 0) 308 F.length 1) := L2
  simp +decide (disch := omega) only [qX11_goesOn_0, qX11_goesOn_1, qX11_goesOn_2, qX11_goesOn_3, qX11_goesOn_4, qX11_goesOn_5, qX11_goesOn_6, qX11_goesOn_7, lm L2, ni_in_t, ni_tn, am_w1_i, am_w1_r, am_w1_x, am_w1_l, am_w1_w, va_rf_s, am_push_n, am_push_s, am_cs_0, am_cs_i, am_cs_l, am_cs_r, m_uI_K, m_uI_N, m_uI_R, m_uI_L, m_uI_I, m_uL_K, m_uL_N, m_uL_R, m_uL_I, m_uL_L, m_uR_K, m_uR_N, m_uR_I, m_uR_L, m_uR_R, true_and, and_true, true_implies, false_implies, not_true_eq_false, not_false_eq_true, if_true, if_false, false_and, and_false]
  have eS : sumO ((k, 0, true, pr, op :: (jns l os vs).1) :: F) = sumO F + (jns l os vs).1.length + 1 := rfl
  have eN : nPr ((k, 0, true, pr, op :: (jns l os vs).1) :: F) = nPr ((k, ph, bg, pr, os) :: F) := rfl
  refine m_advS (d + 1) z a c1 t _ _ false _ _ L3 R3 h0 P3 (by rw [eS, eN]; omega) (fun M4 g4 _ h4 => ?_)
  have L4 := gF_LayN g4 L3
  have hq := hQ (uI M4 277 51 0) 1 (gF_trans (sJm_F g1) (gF_trans G2 (gF_trans Gp (gF_trans (sRm_F g4) (gF_i _ (Or.inl ⟨rfl, by omega⟩)))))) (RsM_51 0 h4) (gX_adv (o := false) (fun _ => rfl) (by rw [m_uI_I, if_pos ⟨rfl, rfl⟩]; rfl))
  simp +decide only [qX11_goesOn_0, qX11_goesOn_1, qX11_goesOn_2, qX11_goesOn_3, qX11_goesOn_4, qX11_goesOn_5, qX11_goesOn_6, qX11_goesOn_7, lm L4, am_w1_i, am_w1_r, am_w1_x, am_w1_l, am_w1_w, va_rf_s, am_push_n, am_push_s, am_cs_0, am_cs_i, am_cs_l, am_cs_r, m_uI_K, m_uI_N, m_uI_R, m_uI_L, m_uI_I, m_uL_K, m_uL_N, m_uL_R, m_uL_I, m_uL_L, m_uR_K, m_uR_N, m_uR_I, m_uR_L, m_uR_R, true_and, and_true, true_implies, false_implies, not_true_eq_false, not_false_eq_true, if_true, if_false, false_and, and_false]
  exact hq
end
end
section
/-! the model's formulas: what follows an operand, whole -/
section
variable {T : Nat → Nat} {n : Nat}
theorem cH_10 {m : Nat} : ∀ (os : List Nat), cH m os → ∀ o, o ∈ os → 10 ≤ o := by
  intro os
  induction os with
  | nil => intro _ o h; cases h
  | cons a os ih =>
    intro h o ho
    rcases h with ⟨h1, h2⟩ | ⟨-, h2, h3⟩ | ⟨-, h2, h3⟩
    · rcases List.mem_cons.mp ho with rfl | ho
      · exact h1.1
      · exact ih h2 o ho
    · rcases List.mem_cons.mp ho with rfl | ho
      · unfold loO at h2; omega
      · have := h3 o ho; unfold loO at this; omega
    · rcases List.mem_cons.mp ho with rfl | ho
      · unfold cmO at h2; omega
      · have := h3 o ho; unfold loO at this; omega
theorem ty_ten {k ph : Nat} {bg : Bool} {pr : Nat} {os : List Nat} {F : List Frm} {vs : List Den} (h : tyS ((k, ph, bg, pr, os) :: F) vs true) : (∀ o, o ∈ os → 10 ≤ o) ∧ k ≤ 5 ∧ bg = false ∧ (k < 2 ↔ F = []) ∧ ph ≤ 2 := by
  obtain ⟨hb, v, vs0, rfl, ⟨hp, hv, hR⟩ | ⟨hp, -, hv, hR, hlo⟩⟩ := h
  · obtain ⟨a1, a2, a3, a4, a5, a6, a7, -⟩ := tyR_i.mp hR
    exact ⟨cH_10 os a3, a2, hb, a7, by omega⟩
  · obtain ⟨a1, a2, a3, a4, a5, a6, a7, -⟩ := tyR_i.mp hR
    exact ⟨cH_10 os a3, a2, hb, a7, by omega⟩
theorem m_sgs (d : Nat) (t : Tok) (M : am_M) (hL : Lay M) (hR : RdM M T n t) : (∀ Q, am_E am_P0 d 175 [.ref 277, .int 43] M Q ↔ Q (some (.int (b01 (isS t 43)))) M) ∧ (∀ Q, am_E am_P0 d 175 [.ref 277, .int 45] M Q ↔ Q (some (.int (b01 (isS t 45)))) M) ∧ (∀ Q, am_E am_P0 d 175 [.ref 277, .int 42] M Q ↔ Q (some (.int (b01 (isS t 42)))) M) ∧ (∀ Q, am_E am_P0 d 175 [.ref 277, .int 47] M Q ↔ Q (some (.int (b01 (isS t 47)))) M) ∧ (∀ Q, am_E am_P0 d 175 [.ref 277, .int 37] M Q ↔ Q (some (.int (b01 (isS t 37)))) M) ∧ (∀ Q, am_E am_P0 d 175 [.ref 277, .int 60] M Q ↔ Q (some (.int (b01 (isS t 60)))) M) ∧ (∀ Q, am_E am_P0 d 175 [.ref 277, .int 62] M Q ↔ Q (some (.int (b01 (isS t 62)))) M) ∧ (∀ Q, am_E am_P0 d 175 [.ref 277, .int 61] M Q ↔ Q (some (.int (b01 (isS t 61)))) M) ∧ (∀ Q, am_E am_P0 d 175 [.ref 277, .int 44] M Q ↔ Q (some (.int (b01 (isS t 44)))) M) ∧ (∀ Q, am_E am_P0 d 175 [.ref 277, .int 93] M Q ↔ Q (some (.int (b01 (isS t 93)))) M) ∧ (∀ Q, am_E am_P0 d 175 [.ref 277, .int 41] M Q ↔ Q (some (.int (b01 (isS t 41)))) M) :=
  ⟨m_signs d t M hL hR 43 (by omega), m_signs d t M hL hR 45 (by omega), m_signs d t M hL hR 42 (by omega), m_signs d t M hL hR 47 (by omega), m_signs d t M hL hR 37 (by omega), m_signs d t M hL hR 60 (by omega), m_signs d t M hL hR 62 (by omega), m_signs d t M hL hR 61 (by omega), m_signs d t M hL hR 44 (by omega), m_signs d t M hL hR 93 (by omega), m_signs d t M hL hR 41 (by omega)⟩
theorem isS_o {t : Tok} {c c' : Nat} (h : isS t c = true) (hc : ¬ c = c') : isS t c' = false := isS_0 (fun _ q => hc (by rw [← (isS_1 h).2, q]))
/-- a frame is closed -/
theorem PzM_pop {M : am_M} {z a c k ph : Nat} {bg : Bool} {pr : Nat} {F : List Frm} {vs : List Den} (h : PzM M z a c ((k, ph, bg, pr, []) :: F) vs) : PzM (uI (uI M 277 47 (nI F.length)) 277 48 (nI (F.length - 1))) z a c F vs := by
  have g : gF (fun b j => b = 277 ∧ (j = 47 ∨ j = 48)) nT M (uI (uI M 277 47 (nI F.length)) 277 48 (nI (F.length - 1))) := gF_trans (gF_i _ ⟨rfl, Or.inl rfl⟩) (gF_i _ ⟨rfl, Or.inr rfl⟩)
  obtain ⟨p1, p2, ⟨f1, f2, f3, f4, f5, f6, f7⟩, p4, p5, p6⟩ := h
  exact ⟨FmM_g p1 g (fun j q w => by omega), CdM_g p2 g (fun b j q _ _ w => by omega), HpM_g g F f7 (fun b j q1 q2 q3 w => by omega) (fun j _ w => by omega), by rw [m_uI_I, if_neg (by omega), m_uI_I, if_pos ⟨rfl, rfl⟩], by rw [m_uI_I, if_pos ⟨rfl, rfl⟩], by rw [g.1 _ _ (by omega)]; exact p6⟩
theorem m_goE (d z a c : Nat) (t : Tok) (k ph : Nat) (bg : Bool) (pr : Nat) (os : List Nat) (f' : Frm) (F' : List Frm) (vs : List Den) (M : am_M) (Q : Option Value → am_M → Prop) (hL : Lay M) (hR : RdM M T n t) (h0 : ¬ t.1 = 0) (hP : PzM M z a c ((k, ph, bg, pr, os) :: f' :: F') vs) (hF : F'.length ≤ 7) (hb : sumO (f' :: F') + os.length ≤ 495) (hc : c + sumO ((k, ph, bg, pr, os) :: f' :: F') + nPr ((k, ph, bg, pr, os) :: f' :: F') ≤ tS t) (hten : ∀ o, o ∈ os → 10 ≤ o) (hj : jok 1 os vs) (hk : k = 2 ∨ k = 4 ∨ k = 5) (he : (jns 1 os vs).1 = []) (h4 : k = 4 → (pr = 15 ∨ pr = 16) ∧ opOK 1850 (pr, 0) (jns 1 os vs).2) (hfl : mI M 277 51 = 1)
    (hQ : ∀ M' x, gF (sFm z a) nT M M' → RsM T n M' z a (mAdv T n t (fun t1 => (t1, (f'.1, (if k = 5 then 2 else f'.2.1), f'.2.2.1, f'.2.2.2.1, f'.2.2.2.2) :: F', (if k = 4 then appD pr (jns 1 os vs).2 else (jns 1 os vs).2), true))) → gX M' (mAdv T n t (fun t1 => (t1, (f'.1, (if k = 5 then 2 else f'.2.1), f'.2.2.1, f'.2.2.2.1, f'.2.2.2.2) :: F', (if k = 4 then appD pr (jns 1 os vs).2 else (jns 1 os vs).2), true))) x → Q (some (.int x)) M') : am_P am_P0 (d + 3) (am_look tX11_goesOn) 520 (Lg (f' :: F') k am_x) [] M Q := by
  have eO : sumO ((k, ph, bg, pr, os) :: f' :: F') = sumO (f' :: F') + os.length := rfl
  have hcn : c + os.length ≤ 1800 := by have := hR.1.2.1; have := hR.2.2.2.2.2.2.2.2.1; have := hR.2.2.2.2.2.2.2.2.2.1; omega
  have hlen : (f' :: F').length = F'.length + 1 := rfl
  simp +decide only [qX11_goesOn_0, qX11_goesOn_1, qX11_goesOn_2, qX11_goesOn_3, qX11_goesOn_4, qX11_goesOn_5, qX11_goesOn_6, qX11_goesOn_7, lm hL, am_w1_i, am_w1_r, am_w1_x, am_w1_l, am_w1_w, va_rf_s, am_push_n, am_push_s, am_cs_0, am_cs_i, am_cs_l, am_cs_r, m_uI_K, m_uI_N, m_uI_R, m_uI_L, m_uI_I, m_uL_K, m_uL_N, m_uL_R, m_uL_I, m_uL_L, m_uR_K, m_uR_N, m_uR_I, m_uR_L, m_uR_R, true_and, and_true, true_implies, false_implies, not_true_eq_false, not_false_eq_true, if_true, if_false, false_and, and_false]
  refine m_joins (d + 1) z a c 1 k ph bg pr os (f' :: F') vs M _ hL hP (by omega) (by omega) hten (by omega) hcn hj (fun M1 c1 g1 e1 P1 => ?_)
  have L1 := gF_LayN g1 hL
  have R1 := sJm_R hR g1
  rw [he] at P1 e1
  have e1' : c1 = c + os.length := e1
  have hfl1 : mI M1 277 51 = 1 := by rw [g1.1 _ _ (fun w => by unfold sJm at w; omega)]; exact hfl
  have p47 : mI M1 277 47 = nI (F'.length + 1 + 1) := P1.2.2.2.1
  have p48 : mI M1 277 48 = nI (F'.length + 1) := P1.2.2.2.2.1
  have p309 : k = 4 → mI M1 309 (F'.length + 1) = nI pr := fun q => P1.2.2.1.2.2.2.1 (Or.inr q)
  have P2 := PzM_pop P1
  have g2 : gF (fun b j => b = 277 ∧ (j = 47 ∨ j = 48)) nT M1 (uI (uI M1 277 47 (nI (F'.length + 1))) 277 48 (nI (F'.length + 1 - 1))) := gF_trans (gF_i _ ⟨rfl, Or.inl rfl⟩) (gF_i _ ⟨rfl, Or.inr rfl⟩)
  have e48 : nI (F'.length + 1 - 1) = nI F'.length := by rw [Nat.add_sub_cancel]
  rw [e48] at g2
  rw [hlen, e48] at P2
  obtain ⟨M2, hM2⟩ : ∃ M2, M2 = uI (uI M1 277 47 (nI (F'.length + 1))) 277 48 (nI F'.length) := ⟨_, rfl⟩
  rw [← hM2] at g2 P2
  have L2 := gF_LayN g2 L1
  have R2 : RdM M2 T n t := RdM_g R1 g2 (fun b j q w => by omega)
  have G2 : gF (sFm z a) nT M M2 := gF_trans (sJm_F g1) (gF_up g2 (fun b j q => by unfold sFm; omega) (fun _ _ q => q))
  have p309' : k = 4 → mI M2 309 (F'.length + 1) = nI pr := fun q => by rw [g2.1 _ _ (by omega)]; exact p309 q
  have p47' : mI M2 277 47 = nI (F'.length + 1) := P2.2.2.2.1
  have hfl2 : mI M2 277 51 = 1 := by rw [g2.1 _ _ (by omega)]; exact hfl1
  have ek : ∀ x, x ≤ 5 → (nI k = nI x ↔ k = x) := fun x hx => ni_eq (by omega) (by omega)
  have ek4 := ek 4 (by omega)
  have ek5 := ek 5 (by omega)
  rw [show nI 4 = (4 : Int32) from rfl] at ek4
  rw [show nI 5 = (5 : Int32) from rfl] at ek5
  have fin : ∀ (c3 : Nat) (ff : Frm) (ws : List Den) (M3 : am_M), gF (sFm z a) nT M M3 → Lay M3 → RdM M3 T n t → PzM M3 z a c3 (ff :: F') ws → c3 + sumO (ff :: F') + nPr (ff :: F') ≤ tS t + 1 → mI M3 277 51 = 1 → (∀ M' x, gF (sFm z a) nT M M' → RsM T n M' z a (mAdv T n t (fun t1 => (t1, ff :: F', ws, true))) → gX M' (mAdv T n t (fun t1 => (t1, ff :: F', ws, true))) x → Q (some (.int x)) M') → am_P am_P0 (d + 3) (am_look tX11_goesOn) 578 (Lg (f' :: F') k am_x) [] M3 Q := by
    intro c3 ff ws M3 G3 L3 R3 P3 hc3 hf3 hQ3
    simp +decide only [qX11_goesOn_0, qX11_goesOn_1, qX11_goesOn_2, qX11_goesOn_3, qX11_goesOn_4, qX11_goesOn_5, qX11_goesOn_6, qX11_goesOn_7, lm L3, am_w1_i, am_w1_r, am_w1_x, am_w1_l, am_w1_w, va_rf_s, am_push_n, am_push_s, am_cs_0, am_cs_i, am_cs_l, am_cs_r, m_uI_K, m_uI_N, m_uI_R, m_uI_L, m_uI_I, m_uL_K, m_uL_N, m_uL_R, m_uL_I, m_uL_L, m_uR_K, m_uR_N, m_uR_I, m_uR_L, m_uR_R, true_and, and_true, true_implies, false_implies, not_true_eq_false, not_false_eq_true, if_true, if_false, false_and, and_false]
    refine m_advS (d + 1) z a c3 t _ _ true M3 _ L3 R3 h0 P3 hc3 (fun M4 g4 _ h4 => ?_)
    have hq := hQ3 M4 1 (gF_trans G3 (sRm_F g4)) h4 (gX_adv (o := true) (fun _ => rfl) (by rw [g4.1 _ _ (fun w => by unfold sRm at w; omega)]; exact hf3))
    simp +decide only [qX11_goesOn_0, qX11_goesOn_1, qX11_goesOn_2, qX11_goesOn_3, qX11_goesOn_4, qX11_goesOn_5, qX11_goesOn_6, qX11_goesOn_7, am_w1_i, am_w1_r, am_w1_x, am_w1_l, am_w1_w, va_rf_s, am_push_n, am_push_s, am_cs_0, am_cs_i, am_cs_l, am_cs_r, m_uI_K, m_uI_N, m_uI_R, m_uI_L, m_uI_I, m_uL_K, m_uL_N, m_uL_R, m_uL_I, m_uL_L, m_uR_K, m_uR_N, m_uR_I, m_uR_L, m_uR_R, true_and, and_true, true_implies, false_implies, not_true_eq_false, not_false_eq_true, if_true, if_false, false_and, and_false]
    exact hq
  have eN : nPr ((k, ph, bg, pr, os) :: f' :: F') = nPr (f' :: F') + (if k = 3 ∨ k = 4 then 1 else 0) := rfl
  simp +decide (disch := omega) only [qX11_goesOn_0, qX11_goesOn_1, qX11_goesOn_2, qX11_goesOn_3, qX11_goesOn_4, qX11_goesOn_5, qX11_goesOn_6, qX11_goesOn_7, lm L1, hlen, p47, p48, ← hM2, lm L2, ek4, ek5, ni_sub1, ni_in_t, ni_tn, am_w1_i, am_w1_r, am_w1_x, am_w1_l, am_w1_w, va_rf_s, am_push_n, am_push_s, am_cs_0, am_cs_i, am_cs_l, am_cs_r, m_uI_K, m_uI_N, m_uI_R, m_uI_L, m_uI_I, m_uL_K, m_uL_N, m_uL_R, m_uL_I, m_uL_L, m_uR_K, m_uR_N, m_uR_I, m_uR_L, m_uR_R, true_and, and_true, true_implies, false_implies, not_true_eq_false, not_false_eq_true, if_true, if_false, false_and, and_false]
  rcases hk with rfl | rfl | rfl
  · rw [if_neg (by omega), if_neg (by omega)] at hQ
    have hf := fin c1 f' _ M2 G2 L2 R2 P2 (by omega) hfl2 hQ
    simp +decide only [Lg, qX11_goesOn_0, qX11_goesOn_1, qX11_goesOn_2, qX11_goesOn_3, qX11_goesOn_4, qX11_goesOn_5, qX11_goesOn_6, qX11_goesOn_7, lm L2, hlen, am_w1_i, am_w1_r, am_w1_x, am_w1_l, am_w1_w, va_rf_s, am_push_n, am_push_s, am_cs_0, am_cs_i, am_cs_l, am_cs_r, m_uI_K, m_uI_N, m_uI_R, m_uI_L, m_uI_I, m_uL_K, m_uL_N, m_uL_R, m_uL_I, m_uL_L, m_uR_K, m_uR_N, m_uR_I, m_uR_L, m_uR_R, true_and, and_true, true_implies, false_implies, not_true_eq_false, not_false_eq_true, if_true, if_false, false_and, and_false] at hf ⊢
    exact hf
  · rw [if_neg (by omega), if_pos rfl] at hQ
    rw [if_pos (by omega)] at eN
    have hpr := p309' rfl
    obtain ⟨hp15, hop⟩ := h4 rfl
    have hcl : c1 < 1800 := by have := hR.1.2.1; have := hR.2.2.2.2.2.2.2.2.1; have := hR.2.2.2.2.2.2.2.2.2.1; omega
    have hadd := fun Q => m_add (d + 2) z c1 (nI pr) 0 M2 Q L2 P2.1 hcl
    have hz : uW (nI pr) = pr := uW_n (by omega) (by omega)
    have hC3 := CdM_e (nI pr) 0 hcl P2.2.1 (by rw [hz]; exact hop)
    rw [hz] at hC3
    have est : stD (pr, (0 : Int32).toInt) (jns 1 os vs).2 = appD pr (jns 1 os vs).2 := op_st (by omega)
    rw [est] at hC3
    have ga : gF (fun b j => (b = 304 ∨ b = 305) ∨ (b = 277 ∧ j = 40)) nT M2 (addM M2 z c1 (nI pr) 0) := gF_trans (gF_i _ (Or.inl (Or.inl rfl))) (gF_trans (gF_i _ (Or.inl (Or.inr rfl))) (gF_i _ (Or.inr ⟨rfl, rfl⟩)))
    have Ga : gF (sFm z a) nT M2 (addM M2 z c1 (nI pr) 0) := gF_add P2.2.1.1 hcl
    have hF3 := FmM_e (s := nI pr) (v := 0) P2.1 hcl
    obtain ⟨v1, v2, v3, v4, v5, v6⟩ := P2
    have P3 : PzM (addM M2 z c1 (nI pr) 0) z a (c1 + 1) (f' :: F') (appD pr (jns 1 os vs).2) := ⟨hF3, hC3, HpM_g ga _ v3 (fun b j q1 q2 _ w => by omega) (fun j _ w => by omega), by rw [ga.1 _ _ (by omega)]; exact v4, by rw [ga.1 _ _ (by omega)]; exact v5, by rw [ga.1 _ _ (by omega)]; exact v6⟩
    have L3 := gF_LayN ga L2
    have hf := fin (c1 + 1) f' _ _ (gF_trans G2 Ga) L3 (RdM_g R2 ga (fun b j q w => by omega)) P3 (by omega) (by rw [ga.1 _ _ (by omega)]; exact hfl2) hQ
    simp +decide (disch := omega) only [Lg, qX11_goesOn_0, qX11_goesOn_1, qX11_goesOn_2, qX11_goesOn_3, qX11_goesOn_4, qX11_goesOn_5, qX11_goesOn_6, qX11_goesOn_7, lm L2, lm L3, hlen, hpr, hadd, ni_in_t, ni_tn, am_w1_i, am_w1_r, am_w1_x, am_w1_l, am_w1_w, va_rf_s, am_push_n, am_push_s, am_cs_0, am_cs_i, am_cs_l, am_cs_r, m_uI_K, m_uI_N, m_uI_R, m_uI_L, m_uI_I, m_uL_K, m_uL_N, m_uL_R, m_uL_I, m_uL_L, m_uR_K, m_uR_N, m_uR_I, m_uR_L, m_uR_R, true_and, and_true, true_implies, false_implies, not_true_eq_false, not_false_eq_true, if_true, if_false, false_and, and_false] at hf ⊢
    exact hf
  · rw [if_pos rfl, if_neg (by omega)] at hQ
    have gp : gF (fun b j => 306 ≤ b ∧ b ≤ 308 ∧ j = F'.length) nT M2 (uI M2 307 F'.length 2) := gF_i _ ⟨by omega, by omega, rfl⟩
    have Gp : gF (sFm z a) nT M2 (uI M2 307 F'.length 2) := gF_i _ (Or.inr (Or.inr ⟨by omega, by omega⟩))
    have P3 := PzM_top (k' := f'.1) (ph' := 2) (bg' := f'.2.2.1) (k := f'.1) (ph := f'.2.1) (bg := f'.2.2.1) (pr := f'.2.2.2.1) (os := f'.2.2.2.2) P2 gp (by rw [m_uI_I, if_neg (by omega)]; exact P2.2.2.1.1) (by rw [m_uI_I, if_pos ⟨rfl, rfl⟩]; rfl) (by rw [m_uI_I, if_neg (by omega)]; exact P2.2.2.1.2.2.1) (fun q => q)
    have L3 : Lay (uI M2 307 F'.length 2) := L2
    have eS3 : sumO ((f'.1, 2, f'.2.2.1, f'.2.2.2.1, f'.2.2.2.2) :: F') = sumO (f' :: F') := rfl
    have eN3 : nPr ((f'.1, 2, f'.2.2.1, f'.2.2.2.1, f'.2.2.2.2) :: F') = nPr (f' :: F') := rfl
    have hf := fin c1 _ _ _ (gF_trans G2 Gp) L3 (RdM_g R2 gp (fun b j q w => by omega)) P3 (by rw [eS3, eN3]; omega) (by rw [m_uI_I, if_neg (by omega)]; exact hfl2) hQ
    simp +decide (disch := omega) only [Lg, qX11_goesOn_0, qX11_goesOn_1, qX11_goesOn_2, qX11_goesOn_3, qX11_goesOn_4, qX11_goesOn_5, qX11_goesOn_6, qX11_goesOn_7, lm L2, lm L3, hlen, p47', ni_sub1, ni_in_t, ni_tn, am_w1_i, am_w1_r, am_w1_x, am_w1_l, am_w1_w, va_rf_s, am_push_n, am_push_s, am_cs_0, am_cs_i, am_cs_l, am_cs_r, m_uI_K, m_uI_N, m_uI_R, m_uI_L, m_uI_I, m_uL_K, m_uL_N, m_uL_R, m_uL_I, m_uL_L, m_uR_K, m_uR_N, m_uR_I, m_uR_L, m_uR_R, true_and, and_true, true_implies, false_implies, not_true_eq_false, not_false_eq_true, if_true, if_false, false_and, and_false] at hf ⊢
    exact hf
end
end
section
/-! the model's formulas: goesOn -/
section
variable {T : Nat → Nat} {n : Nat}
theorem m_goesOn (d z a c : Nat) (t : Tok) (k ph : Nat) (bg : Bool) (pr : Nat) (os : List Nat) (F : List Frm) (vs : List Den) (M : am_M) (Q : Option Value → am_M → Prop) (hL : Lay M) (hR : RdM M T n t) (hP : PzM M z a c ((k, ph, bg, pr, os) :: F) vs) (hty : tyS ((k, ph, bg, pr, os) :: F) vs true) (hF : F.length ≤ 8) (hb : sumO F + os.length ≤ 495) (hc : c + sumO ((k, ph, bg, pr, os) :: F) + nPr ((k, ph, bg, pr, os) :: F) ≤ tS t) (hfl : mI M 277 51 = 1)
    (hQ : ∀ M' x, gF (sFm z a) nT M M' → RsM T n M' z a (mGo T n t k ph bg pr os F vs) → gX M' (mGo T n t k ph bg pr os F vs) x → Q (some (.int x)) M') : am_E am_P0 (d + 3) 191 [.ref 277] M Q := by
  obtain ⟨hten, hk, hbf, hkF, hp2⟩ := ty_ten hty
  have hP0 := hP
  obtain ⟨p1, p2, ⟨f1, f2, f3, f4, f5, f6, f7⟩, p4, p5, p6⟩ := hP
  have hts := fun Q => m_isTest (d + 2) k M Q hk
  dsimp only at f1 f2 f3
  have p4' : mI M 277 47 = nI (F.length + 1) := p4
  obtain ⟨w1, w2, w3, w4, w5, w6, w7, w8, w9, w10⟩ := m_words (d + 2) t M hL hR
  obtain ⟨s43, s45, s42, s47, s37, s60, s62, s61, s44, s93, s41⟩ := m_sgs (d + 2) t M hL hR
  have hle2 : (2 : Int32) ≤ nI ph ↔ 2 ≤ ph := by rw [show (2 : Int32) = nI 2 from rfl, ni_le (by omega) (by omega)]
  have ez : nI ph = 0 ↔ ph = 0 := ni_eq (a := ph) (b := 0) (by omega) (by omega)
  have hk2 : (2 : Int32) ≤ nI k ↔ 2 ≤ k := by rw [show (2 : Int32) = nI 2 from rfl, ni_le (by omega) (by omega)]
  have ek : ∀ x, x ≤ 5 → (nI k = nI x ↔ k = x) := fun x hx => ni_eq (by omega) (by omega)
  have ek3 := ek 3 (by omega)
  have ek5 := ek 5 (by omega)
  rw [show nI 3 = (3 : Int32) from rfl] at ek3
  rw [show nI 5 = (5 : Int32) from rfl] at ek5
  rw [eX11_goesOn]
  -- the fault that is blamed here
  have hfm := FtM_0 (k := 1) hR (by omega)
  have hpos := FtM_pos hfm.1
  have hbl := fun Q => m_blame (T := T) (n := n) (d + 2) 1 t M Q hL hR
  rw [show nI 1 = (1 : Int32) from rfl] at hbl hfm hpos
  obtain ⟨Mf, hMf⟩ : ∃ Mf, Mf = uI (uI M 277 8 1) 277 9 (nI (tS t)) := ⟨_, rfl⟩
  rw [← hMf] at hbl hfm hpos
  have Lf : Lay Mf := gF_LayN hfm.2 hL
  have hft : mGo T n t k ph bg pr os F vs = .inl (1, tS t) → Q (some (.int 0)) Mf := fun e => by
    rw [e] at hQ
    exact hQ Mf 0 (sRm_F hfm.2) hfm.1 (fun s' b q => by cases q)
  have hte : 1 ≤ os.length + 1 := by omega
  -- arithmetic signs
  by_cases c1 : ph < 2 ∧ ¬ addOp t = 0
  · have em : mGo T n t k ph bg pr os F vs = mAdv T n t (fun t1 => (t1, (k, ph, bg, pr, addOp t :: (jns 5 os vs).1) :: F, (jns 5 os vs).2, false)) := by unfold mGo; rw [if_pos c1]
    rw [em] at hQ
    have hj := (ty_j5 (l := 5) (by omega) c1.1 hty).1
    have n2 : ¬ (2 : Int32) ≤ nI ph := by rw [hle2]; omega
    by_cases a1 : isS t 43 = true
    · have ea : addOp t = 10 := by unfold addOp; rw [if_pos a1]
      rw [ea] at hQ
      have hA := m_goA d z a c 5 10 t k ph bg pr os F vs M Q hL hR (isS_n0 a1) hP0 hF hb hc hten (by omega) (by omega) hj (fun M' L' R' h => by
        obtain ⟨v43, v45, -⟩ := m_sgs (d + 2) t M' L' R'
        simp +decide only [Lg, qX11_goesOn_0, qX11_goesOn_1, qX11_goesOn_2, qX11_goesOn_3, qX11_goesOn_4, qX11_goesOn_5, qX11_goesOn_6, qX11_goesOn_7, lm L', v43, a1, b01, show nI 10 = (10 : Int32) from rfl, am_w1_i, am_w1_r, am_w1_x, am_w1_l, am_w1_w, va_rf_s, am_push_n, am_push_s, am_cs_0, am_cs_i, am_cs_l, am_cs_r, m_uI_K, m_uI_N, m_uI_R, m_uI_L, m_uI_I, m_uL_K, m_uL_N, m_uL_R, m_uL_I, m_uL_L, m_uR_K, m_uR_N, m_uR_I, m_uR_L, m_uR_R, true_and, and_true, true_implies, false_implies, not_true_eq_false, not_false_eq_true, if_true, if_false, false_and, and_false] at h ⊢
        exact h) hQ
      simp +decide (disch := omega) only [Lg, qX11_goesOn_0, qX11_goesOn_1, qX11_goesOn_2, qX11_goesOn_3, qX11_goesOn_4, qX11_goesOn_5, qX11_goesOn_6, qX11_goesOn_7, lm hL, p4', ni_sub1, ni_in_t, ni_tn, f1, f2, hts, s43, a1, b01, show nI 5 = (5 : Int32) from rfl, am_w1_i, am_w1_r, am_w1_x, am_w1_l, am_w1_w, va_rf_s, am_push_n, am_push_s, am_cs_0, am_cs_i, am_cs_l, am_cs_r, m_uI_K, m_uI_N, m_uI_R, m_uI_L, m_uI_I, m_uL_K, m_uL_N, m_uL_R, m_uL_I, m_uL_L, m_uR_K, m_uR_N, m_uR_I, m_uR_L, m_uR_R, true_and, and_true, true_implies, false_implies, not_true_eq_false, not_false_eq_true, if_true, if_false, false_and, and_false] at hA ⊢
      rw [br_n n2]
      exact hA
    · have a1' : isS t 43 = false := by simpa using a1
      have a2 : isS t 45 = true := by
        rcases add_s c1.2 with ⟨q1, q2⟩
        rcases q2 with q2 | q2
        · exact absurd (by unfold isS; rw [q1, q2]; rfl) a1
        · unfold isS; rw [q1, q2]; rfl
      have ea : addOp t = 11 := by unfold addOp; rw [if_neg a1, if_pos a2]
      rw [ea] at hQ
      have hA := m_goA d z a c 5 11 t k ph bg pr os F vs M Q hL hR (isS_n0 a2) hP0 hF hb hc hten (by omega) (by omega) hj (fun M' L' R' h => by
        obtain ⟨v43, v45, -⟩ := m_sgs (d + 2) t M' L' R'
        simp +decide only [Lg, qX11_goesOn_0, qX11_goesOn_1, qX11_goesOn_2, qX11_goesOn_3, qX11_goesOn_4, qX11_goesOn_5, qX11_goesOn_6, qX11_goesOn_7, lm L', v43, a1', v45, a2, b01, show nI 11 = (11 : Int32) from rfl, am_w1_i, am_w1_r, am_w1_x, am_w1_l, am_w1_w, va_rf_s, am_push_n, am_push_s, am_cs_0, am_cs_i, am_cs_l, am_cs_r, m_uI_K, m_uI_N, m_uI_R, m_uI_L, m_uI_I, m_uL_K, m_uL_N, m_uL_R, m_uL_I, m_uL_L, m_uR_K, m_uR_N, m_uR_I, m_uR_L, m_uR_R, true_and, and_true, true_implies, false_implies, not_true_eq_false, not_false_eq_true, if_true, if_false, false_and, and_false] at h ⊢
        exact h) hQ
      simp +decide (disch := omega) only [Lg, qX11_goesOn_0, qX11_goesOn_1, qX11_goesOn_2, qX11_goesOn_3, qX11_goesOn_4, qX11_goesOn_5, qX11_goesOn_6, qX11_goesOn_7, lm hL, p4', ni_sub1, ni_in_t, ni_tn, f1, f2, hts, s43, a1', s45, a2, b01, show nI 5 = (5 : Int32) from rfl, am_w1_i, am_w1_r, am_w1_x, am_w1_l, am_w1_w, va_rf_s, am_push_n, am_push_s, am_cs_0, am_cs_i, am_cs_l, am_cs_r, m_uI_K, m_uI_N, m_uI_R, m_uI_L, m_uI_I, m_uL_K, m_uL_N, m_uL_R, m_uL_I, m_uL_L, m_uR_K, m_uR_N, m_uR_I, m_uR_L, m_uR_R, true_and, and_true, true_implies, false_implies, not_true_eq_false, not_false_eq_true, if_true, if_false, false_and, and_false] at hA ⊢
      rw [br_n n2]
      exact hA
  by_cases c2 : ph < 2 ∧ ¬ mulOp t = 0
  · have em : mGo T n t k ph bg pr os F vs = mAdv T n t (fun t1 => (t1, (k, ph, bg, pr, mulOp t :: (jns 6 os vs).1) :: F, (jns 6 os vs).2, false)) := by unfold mGo; rw [if_neg c1, if_pos c2]
    rw [em] at hQ
    have hj := (ty_j5 (l := 6) (by omega) c2.1 hty).1
    have n2 : ¬ (2 : Int32) ≤ nI ph := by rw [hle2]; omega
    have hm3 := (mul_s c2.2).1
    have a1 : isS t 43 = false := isS_0 (fun _ q => by rcases (mul_s c2.2).2 with h | h | h <;> omega)
    have a2 : isS t 45 = false := isS_0 (fun _ q => by rcases (mul_s c2.2).2 with h | h | h <;> omega)
    have go : ∀ (op : Nat), mulOp t = op → op ≤ 22 → (∀ M', Lay M' → RdM M' T n t → am_P am_P0 (d + 3) (am_look tX11_goesOn) 161 (Lg F k am_x) [.int (nI op), .ref 277] M' Q → am_P am_P0 (d + 3) (am_look tX11_goesOn) 102 (Lg F k am_x) [] M' Q) → am_P am_P0 (d + 3) (am_look tX11_goesOn) 99 (Lg F k am_x) [.int (nI 6), .ref 277] M Q := fun op eo ho hs => by
      rw [eo] at hQ
      exact m_goA d z a c 6 op t k ph bg pr os F vs M Q hL hR (by omega) hP0 hF hb hc hten (by omega) ho hj hs hQ
    by_cases b1 : isS t 42 = true
    · have hA := go 12 (by unfold mulOp; rw [if_pos b1]) (by omega) (fun M' L' R' h => by
        obtain ⟨v43, v45, v42, -⟩ := m_sgs (d + 2) t M' L' R'
        simp +decide only [Lg, qX11_goesOn_0, qX11_goesOn_1, qX11_goesOn_2, qX11_goesOn_3, qX11_goesOn_4, qX11_goesOn_5, qX11_goesOn_6, qX11_goesOn_7, lm L', v43, a1, v45, a2, v42, b1, b01, show nI 12 = (12 : Int32) from rfl, am_w1_i, am_w1_r, am_w1_x, am_w1_l, am_w1_w, va_rf_s, am_push_n, am_push_s, am_cs_0, am_cs_i, am_cs_l, am_cs_r, m_uI_K, m_uI_N, m_uI_R, m_uI_L, m_uI_I, m_uL_K, m_uL_N, m_uL_R, m_uL_I, m_uL_L, m_uR_K, m_uR_N, m_uR_I, m_uR_L, m_uR_R, true_and, and_true, true_implies, false_implies, not_true_eq_false, not_false_eq_true, if_true, if_false, false_and, and_false] at h ⊢
        exact h)
      simp +decide (disch := omega) only [Lg, qX11_goesOn_0, qX11_goesOn_1, qX11_goesOn_2, qX11_goesOn_3, qX11_goesOn_4, qX11_goesOn_5, qX11_goesOn_6, qX11_goesOn_7, lm hL, p4', ni_sub1, ni_in_t, ni_tn, f1, f2, hts, s43, a1, s45, a2, s42, b1, b01, show nI 6 = (6 : Int32) from rfl, am_w1_i, am_w1_r, am_w1_x, am_w1_l, am_w1_w, va_rf_s, am_push_n, am_push_s, am_cs_0, am_cs_i, am_cs_l, am_cs_r, m_uI_K, m_uI_N, m_uI_R, m_uI_L, m_uI_I, m_uL_K, m_uL_N, m_uL_R, m_uL_I, m_uL_L, m_uR_K, m_uR_N, m_uR_I, m_uR_L, m_uR_R, true_and, and_true, true_implies, false_implies, not_true_eq_false, not_false_eq_true, if_true, if_false, false_and, and_false] at hA ⊢
      rw [br_n n2]
      exact hA
    have b1' : isS t 42 = false := by simpa using b1
    by_cases b2 : isS t 47 = true
    · have hA := go 13 (by unfold mulOp; rw [if_neg b1, if_pos b2]) (by omega) (fun M' L' R' h => by
        obtain ⟨v43, v45, v42, v47, -⟩ := m_sgs (d + 2) t M' L' R'
        simp +decide only [Lg, qX11_goesOn_0, qX11_goesOn_1, qX11_goesOn_2, qX11_goesOn_3, qX11_goesOn_4, qX11_goesOn_5, qX11_goesOn_6, qX11_goesOn_7, lm L', v43, a1, v45, a2, v42, b1', v47, b2, b01, show nI 13 = (13 : Int32) from rfl, am_w1_i, am_w1_r, am_w1_x, am_w1_l, am_w1_w, va_rf_s, am_push_n, am_push_s, am_cs_0, am_cs_i, am_cs_l, am_cs_r, m_uI_K, m_uI_N, m_uI_R, m_uI_L, m_uI_I, m_uL_K, m_uL_N, m_uL_R, m_uL_I, m_uL_L, m_uR_K, m_uR_N, m_uR_I, m_uR_L, m_uR_R, true_and, and_true, true_implies, false_implies, not_true_eq_false, not_false_eq_true, if_true, if_false, false_and, and_false] at h ⊢
        exact h)
      simp +decide (disch := omega) only [Lg, qX11_goesOn_0, qX11_goesOn_1, qX11_goesOn_2, qX11_goesOn_3, qX11_goesOn_4, qX11_goesOn_5, qX11_goesOn_6, qX11_goesOn_7, lm hL, p4', ni_sub1, ni_in_t, ni_tn, f1, f2, hts, s43, a1, s45, a2, s42, b1', s47, b2, b01, show nI 6 = (6 : Int32) from rfl, am_w1_i, am_w1_r, am_w1_x, am_w1_l, am_w1_w, va_rf_s, am_push_n, am_push_s, am_cs_0, am_cs_i, am_cs_l, am_cs_r, m_uI_K, m_uI_N, m_uI_R, m_uI_L, m_uI_I, m_uL_K, m_uL_N, m_uL_R, m_uL_I, m_uL_L, m_uR_K, m_uR_N, m_uR_I, m_uR_L, m_uR_R, true_and, and_true, true_implies, false_implies, not_true_eq_false, not_false_eq_true, if_true, if_false, false_and, and_false] at hA ⊢
      rw [br_n n2]
      exact hA
    have b2' : isS t 47 = false := by simpa using b2
    have b3 : isS t 37 = true := by
      have c2' := c2.2
      unfold mulOp at c2'
      rw [if_neg b1, if_neg b2] at c2'
      cases h : isS t 37 with
      | true => rfl
      | false => rw [h] at c2'; exact absurd rfl c2'
    have hA := go 14 (by unfold mulOp; rw [if_neg b1, if_neg b2, if_pos b3]) (by omega) (fun M' L' R' h => by
      obtain ⟨v43, v45, v42, v47, -⟩ := m_sgs (d + 2) t M' L' R'
      simp +decide only [Lg, qX11_goesOn_0, qX11_goesOn_1, qX11_goesOn_2, qX11_goesOn_3, qX11_goesOn_4, qX11_goesOn_5, qX11_goesOn_6, qX11_goesOn_7, lm L', v43, a1, v45, a2, v42, b1', v47, b2', b01, show nI 14 = (14 : Int32) from rfl, am_w1_i, am_w1_r, am_w1_x, am_w1_l, am_w1_w, va_rf_s, am_push_n, am_push_s, am_cs_0, am_cs_i, am_cs_l, am_cs_r, m_uI_K, m_uI_N, m_uI_R, m_uI_L, m_uI_I, m_uL_K, m_uL_N, m_uL_R, m_uL_I, m_uL_L, m_uR_K, m_uR_N, m_uR_I, m_uR_L, m_uR_R, true_and, and_true, true_implies, false_implies, not_true_eq_false, not_false_eq_true, if_true, if_false, false_and, and_false] at h ⊢
      exact h)
    simp +decide (disch := omega) only [Lg, qX11_goesOn_0, qX11_goesOn_1, qX11_goesOn_2, qX11_goesOn_3, qX11_goesOn_4, qX11_goesOn_5, qX11_goesOn_6, qX11_goesOn_7, lm hL, p4', ni_sub1, ni_in_t, ni_tn, f1, f2, hts, s43, a1, s45, a2, s42, b1', s47, b2', s37, b3, b01, show nI 6 = (6 : Int32) from rfl, am_w1_i, am_w1_r, am_w1_x, am_w1_l, am_w1_w, va_rf_s, am_push_n, am_push_s, am_cs_0, am_cs_i, am_cs_l, am_cs_r, m_uI_K, m_uI_N, m_uI_R, m_uI_L, m_uI_I, m_uL_K, m_uL_N, m_uL_R, m_uL_I, m_uL_L, m_uR_K, m_uR_N, m_uR_I, m_uR_L, m_uR_R, true_and, and_true, true_implies, false_implies, not_true_eq_false, not_false_eq_true, if_true, if_false, false_and, and_false] at hA ⊢
    rw [br_n n2]
    exact hA
  -- behind the arithmetic
  suffices at175 : am_P am_P0 (d + 3) (am_look tX11_goesOn) 175 (Lg F k am_x) [] M Q by
    by_cases cp : 2 ≤ ph
    · simp +decide (disch := omega) only [Lg, qX11_goesOn_0, qX11_goesOn_1, qX11_goesOn_2, qX11_goesOn_3, qX11_goesOn_4, qX11_goesOn_5, qX11_goesOn_6, qX11_goesOn_7, lm hL, p4', ni_sub1, ni_in_t, ni_tn, f1, f2, hts, am_w1_i, am_w1_r, am_w1_x, am_w1_l, am_w1_w, va_rf_s, am_push_n, am_push_s, am_cs_0, am_cs_i, am_cs_l, am_cs_r, m_uI_K, m_uI_N, m_uI_R, m_uI_L, m_uI_I, m_uL_K, m_uL_N, m_uL_R, m_uL_I, m_uL_L, m_uR_K, m_uR_N, m_uR_I, m_uR_L, m_uR_R, true_and, and_true, true_implies, false_implies, not_true_eq_false, not_false_eq_true, if_true, if_false, false_and, and_false] at at175 ⊢
      rw [br_p (hle2.mpr cp)]
      exact at175
    · have n2 : ¬ (2 : Int32) ≤ nI ph := by rw [hle2]; omega
      have ha : addOp t = 0 := by by_cases q : addOp t = 0; exact q; exact absurd ⟨by omega, q⟩ c1
      have hm : mulOp t = 0 := by by_cases q : mulOp t = 0; exact q; exact absurd ⟨by omega, q⟩ c2
      have a1 : isS t 43 = false := by
        cases h : isS t 43 with
        | false => rfl
        | true => unfold addOp at ha; rw [if_pos h] at ha; cases ha
      have a2 : isS t 45 = false := by
        cases h : isS t 45 with
        | false => rfl
        | true => unfold addOp at ha; rw [a1, if_neg (by decide), if_pos h] at ha; cases ha
      have b1 : isS t 42 = false := by
        cases h : isS t 42 with
        | false => rfl
        | true => unfold mulOp at hm; rw [if_pos h] at hm; cases hm
      have b2 : isS t 47 = false := by
        cases h : isS t 47 with
        | false => rfl
        | true => unfold mulOp at hm; rw [b1, if_neg (by decide), if_pos h] at hm; cases hm
      have b3 : isS t 37 = false := by
        cases h : isS t 37 with
        | false => rfl
        | true => unfold mulOp at hm; rw [b1, b2, if_neg (by decide), if_neg (by decide), if_pos h] at hm; cases hm
      simp +decide (disch := omega) only [Lg, qX11_goesOn_0, qX11_goesOn_1, qX11_goesOn_2, qX11_goesOn_3, qX11_goesOn_4, qX11_goesOn_5, qX11_goesOn_6, qX11_goesOn_7, lm hL, p4', ni_sub1, ni_in_t, ni_tn, f1, f2, hts, s43, a1, s45, a2, s42, b1, s47, b2, s37, b3, b01, am_w1_i, am_w1_r, am_w1_x, am_w1_l, am_w1_w, va_rf_s, am_push_n, am_push_s, am_cs_0, am_cs_i, am_cs_l, am_cs_r, m_uI_K, m_uI_N, m_uI_R, m_uI_L, m_uI_I, m_uL_K, m_uL_N, m_uL_R, m_uL_I, m_uL_L, m_uR_K, m_uR_N, m_uR_I, m_uR_L, m_uR_R, true_and, and_true, true_implies, false_implies, not_true_eq_false, not_false_eq_true, if_true, if_false, false_and, and_false] at at175 ⊢
      rw [br_n n2]
      exact at175
  -- a comparing sign
  by_cases c3 : isTs k = true ∧ ph = 0 ∧ ¬ cmpOp t = 0
  · have em : mGo T n t k ph bg pr os F vs = mAdv T n t (fun t1 => (t1, (k, 1, bg, pr, cmpOp t :: (jns 5 os vs).1) :: F, (jns 5 os vs).2, false)) := by unfold mGo; rw [if_neg c1, if_neg c2, if_pos c3]
    rw [em] at hQ
    obtain ⟨ct, cp, cc⟩ := c3
    have hj := (ty_j5 (l := 5) (by omega) (by omega) hty).1
    have ht3 := (cmp_s cc).1
    have f2' : mI M 307 F.length = 0 := by rw [f2, cp]; rfl
    have go : ∀ (op : Nat), cmpOp t = op → op ≤ 22 → (∀ M', Lay M' → RdM M' T n t → am_P am_P0 (d + 3) (am_look tX11_goesOn) 251 (Lg F k am_x) [.int (nI op), .ref 277] M' Q → am_P am_P0 (d + 3) (am_look tX11_goesOn) 220 (Lg F k am_x) [] M' Q) → am_P am_P0 (d + 3) (am_look tX11_goesOn) 217 (Lg F k am_x) [.int (nI 5), .ref 277] M Q := fun op eo ho hs => by
      rw [eo] at hQ
      exact m_goC d z a c op t k ph bg pr os F vs M Q hL hR (by omega) hP0 hF hb hc hten ho hj hs hQ
    by_cases b1 : isS t 60 = true
    · have hA := go 17 (by unfold cmpOp; rw [if_pos b1]) (by omega) (fun M' L' R' h => by
        obtain ⟨-, -, -, -, -, v60, -⟩ := m_sgs (d + 2) t M' L' R'
        simp +decide only [Lg, qX11_goesOn_0, qX11_goesOn_1, qX11_goesOn_2, qX11_goesOn_3, qX11_goesOn_4, qX11_goesOn_5, qX11_goesOn_6, qX11_goesOn_7, lm L', v60, b1, b01, show nI 17 = (17 : Int32) from rfl, am_w1_i, am_w1_r, am_w1_x, am_w1_l, am_w1_w, va_rf_s, am_push_n, am_push_s, am_cs_0, am_cs_i, am_cs_l, am_cs_r, m_uI_K, m_uI_N, m_uI_R, m_uI_L, m_uI_I, m_uL_K, m_uL_N, m_uL_R, m_uL_I, m_uL_L, m_uR_K, m_uR_N, m_uR_I, m_uR_L, m_uR_R, true_and, and_true, true_implies, false_implies, not_true_eq_false, not_false_eq_true, if_true, if_false, false_and, and_false] at h ⊢
        exact h)
      simp +decide (disch := omega) only [Lg, qX11_goesOn_0, qX11_goesOn_1, qX11_goesOn_2, qX11_goesOn_3, qX11_goesOn_4, qX11_goesOn_5, qX11_goesOn_6, qX11_goesOn_7, lm hL, ct, f2', ni_in_t, ni_tn, s60, b1, b01, show nI 5 = (5 : Int32) from rfl, am_w1_i, am_w1_r, am_w1_x, am_w1_l, am_w1_w, va_rf_s, am_push_n, am_push_s, am_cs_0, am_cs_i, am_cs_l, am_cs_r, m_uI_K, m_uI_N, m_uI_R, m_uI_L, m_uI_I, m_uL_K, m_uL_N, m_uL_R, m_uL_I, m_uL_L, m_uR_K, m_uR_N, m_uR_I, m_uR_L, m_uR_R, true_and, and_true, true_implies, false_implies, not_true_eq_false, not_false_eq_true, if_true, if_false, false_and, and_false] at hA ⊢
      exact hA
    have b1' : isS t 60 = false := by simpa using b1
    by_cases b2 : isS t 62 = true
    · have hA := go 18 (by unfold cmpOp; rw [if_neg b1, if_pos b2]) (by omega) (fun M' L' R' h => by
        obtain ⟨-, -, -, -, -, v60, v62, -⟩ := m_sgs (d + 2) t M' L' R'
        simp +decide only [Lg, qX11_goesOn_0, qX11_goesOn_1, qX11_goesOn_2, qX11_goesOn_3, qX11_goesOn_4, qX11_goesOn_5, qX11_goesOn_6, qX11_goesOn_7, lm L', v60, b1', v62, b2, b01, show nI 18 = (18 : Int32) from rfl, am_w1_i, am_w1_r, am_w1_x, am_w1_l, am_w1_w, va_rf_s, am_push_n, am_push_s, am_cs_0, am_cs_i, am_cs_l, am_cs_r, m_uI_K, m_uI_N, m_uI_R, m_uI_L, m_uI_I, m_uL_K, m_uL_N, m_uL_R, m_uL_I, m_uL_L, m_uR_K, m_uR_N, m_uR_I, m_uR_L, m_uR_R, true_and, and_true, true_implies, false_implies, not_true_eq_false, not_false_eq_true, if_true, if_false, false_and, and_false] at h ⊢
        exact h)
      simp +decide (disch := omega) only [Lg, qX11_goesOn_0, qX11_goesOn_1, qX11_goesOn_2, qX11_goesOn_3, qX11_goesOn_4, qX11_goesOn_5, qX11_goesOn_6, qX11_goesOn_7, lm hL, ct, f2', ni_in_t, ni_tn, s60, b1', s62, b2, b01, show nI 5 = (5 : Int32) from rfl, am_w1_i, am_w1_r, am_w1_x, am_w1_l, am_w1_w, va_rf_s, am_push_n, am_push_s, am_cs_0, am_cs_i, am_cs_l, am_cs_r, m_uI_K, m_uI_N, m_uI_R, m_uI_L, m_uI_I, m_uL_K, m_uL_N, m_uL_R, m_uL_I, m_uL_L, m_uR_K, m_uR_N, m_uR_I, m_uR_L, m_uR_R, true_and, and_true, true_implies, false_implies, not_true_eq_false, not_false_eq_true, if_true, if_false, false_and, and_false] at hA ⊢
      exact hA
    have b2' : isS t 62 = false := by simpa using b2
    have b3 : isS t 61 = true := by
      have c2' := cc
      unfold cmpOp at c2'
      rw [if_neg b1, if_neg b2] at c2'
      cases h : isS t 61 with
      | true => rfl
      | false => rw [h] at c2'; exact absurd rfl c2'
    have hA := go 19 (by unfold cmpOp; rw [if_neg b1, if_neg b2, if_pos b3]) (by omega) (fun M' L' R' h => by
      obtain ⟨-, -, -, -, -, v60, v62, -⟩ := m_sgs (d + 2) t M' L' R'
      simp +decide only [Lg, qX11_goesOn_0, qX11_goesOn_1, qX11_goesOn_2, qX11_goesOn_3, qX11_goesOn_4, qX11_goesOn_5, qX11_goesOn_6, qX11_goesOn_7, lm L', v60, b1', v62, b2', b01, show nI 19 = (19 : Int32) from rfl, am_w1_i, am_w1_r, am_w1_x, am_w1_l, am_w1_w, va_rf_s, am_push_n, am_push_s, am_cs_0, am_cs_i, am_cs_l, am_cs_r, m_uI_K, m_uI_N, m_uI_R, m_uI_L, m_uI_I, m_uL_K, m_uL_N, m_uL_R, m_uL_I, m_uL_L, m_uR_K, m_uR_N, m_uR_I, m_uR_L, m_uR_R, true_and, and_true, true_implies, false_implies, not_true_eq_false, not_false_eq_true, if_true, if_false, false_and, and_false] at h ⊢
      exact h)
    simp +decide (disch := omega) only [Lg, qX11_goesOn_0, qX11_goesOn_1, qX11_goesOn_2, qX11_goesOn_3, qX11_goesOn_4, qX11_goesOn_5, qX11_goesOn_6, qX11_goesOn_7, lm hL, ct, f2', ni_in_t, ni_tn, s60, b1', s62, b2', s61, b3, b01, show nI 5 = (5 : Int32) from rfl, am_w1_i, am_w1_r, am_w1_x, am_w1_l, am_w1_w, va_rf_s, am_push_n, am_push_s, am_cs_0, am_cs_i, am_cs_l, am_cs_r, m_uI_K, m_uI_N, m_uI_R, m_uI_L, m_uI_I, m_uL_K, m_uL_N, m_uL_R, m_uL_I, m_uL_L, m_uR_K, m_uR_N, m_uR_I, m_uR_L, m_uR_R, true_and, and_true, true_implies, false_implies, not_true_eq_false, not_false_eq_true, if_true, if_false, false_and, and_false] at hA ⊢
    exact hA
  suffices at272 : am_P am_P0 (d + 3) (am_look tX11_goesOn) 272 (Lg F k am_x) [] M Q by
    by_cases ct : isTs k = true
    · by_cases cp : ph = 0
      · have hcm : cmpOp t = 0 := by by_cases q : cmpOp t = 0; exact q; exact absurd ⟨ct, cp, q⟩ c3
        have f2' : mI M 307 F.length = 0 := by rw [f2, cp]; rfl
        have a1 : isS t 60 = false := by
          cases h : isS t 60 with
          | false => rfl
          | true => unfold cmpOp at hcm; rw [if_pos h] at hcm; cases hcm
        have a2 : isS t 62 = false := by
          cases h : isS t 62 with
          | false => rfl
          | true => unfold cmpOp at hcm; rw [a1, if_neg (by decide), if_pos h] at hcm; cases hcm
        have a3 : isS t 61 = false := by
          cases h : isS t 61 with
          | false => rfl
          | true => unfold cmpOp at hcm; rw [a1, a2, if_neg (by decide), if_neg (by decide), if_pos h] at hcm; cases hcm
        simp +decide (disch := omega) only [Lg, qX11_goesOn_0, qX11_goesOn_1, qX11_goesOn_2, qX11_goesOn_3, qX11_goesOn_4, qX11_goesOn_5, qX11_goesOn_6, qX11_goesOn_7, lm hL, ct, f2', ni_in_t, ni_tn, s60, a1, s62, a2, s61, a3, b01, am_w1_i, am_w1_r, am_w1_x, am_w1_l, am_w1_w, va_rf_s, am_push_n, am_push_s, am_cs_0, am_cs_i, am_cs_l, am_cs_r, m_uI_K, m_uI_N, m_uI_R, m_uI_L, m_uI_I, m_uL_K, m_uL_N, m_uL_R, m_uL_I, m_uL_L, m_uR_K, m_uR_N, m_uR_I, m_uR_L, m_uR_R, true_and, and_true, true_implies, false_implies, not_true_eq_false, not_false_eq_true, if_true, if_false, false_and, and_false] at at272 ⊢
        exact at272
      · have nz : ¬ nI ph = 0 := fun q => cp (ez.mp q)
        simp +decide (disch := omega) only [Lg, qX11_goesOn_0, qX11_goesOn_1, qX11_goesOn_2, qX11_goesOn_3, qX11_goesOn_4, qX11_goesOn_5, qX11_goesOn_6, qX11_goesOn_7, lm hL, ct, f2, ni_in_t, ni_tn, b01, am_w1_i, am_w1_r, am_w1_x, am_w1_l, am_w1_w, va_rf_s, am_push_n, am_push_s, am_cs_0, am_cs_i, am_cs_l, am_cs_r, m_uI_K, m_uI_N, m_uI_R, m_uI_L, m_uI_I, m_uL_K, m_uL_N, m_uL_R, m_uL_I, m_uL_L, m_uR_K, m_uR_N, m_uR_I, m_uR_L, m_uR_R, true_and, and_true, true_implies, false_implies, not_true_eq_false, not_false_eq_true, if_true, if_false, false_and, and_false] at at272 ⊢
        rw [br_q nz]
        exact at272
    · have ct' : isTs k = false := by simpa using ct
      simp +decide (disch := omega) only [Lg, qX11_goesOn_0, qX11_goesOn_1, qX11_goesOn_2, qX11_goesOn_3, qX11_goesOn_4, qX11_goesOn_5, qX11_goesOn_6, qX11_goesOn_7, lm hL, ct', b01, am_w1_i, am_w1_r, am_w1_x, am_w1_l, am_w1_w, va_rf_s, am_push_n, am_push_s, am_cs_0, am_cs_i, am_cs_l, am_cs_r, m_uI_K, m_uI_N, m_uI_R, m_uI_L, m_uI_I, m_uL_K, m_uL_N, m_uL_R, m_uL_I, m_uL_L, m_uR_K, m_uR_N, m_uR_I, m_uR_L, m_uR_R, true_and, and_true, true_implies, false_implies, not_true_eq_false, not_false_eq_true, if_true, if_false, false_and, and_false] at at272 ⊢
      exact at272
  -- and, or
  by_cases c4 : isTs k = true ∧ (isW t wAnd || isW t wOr) = true
  · have hn0 : ¬ t.1 = 0 := by
      have := c4.2
      rw [Bool.or_eq_true] at this
      rcases this with q | q <;> exact isW_n0 q
    by_cases cp : ph = 0
    · have em : mGo T n t k ph bg pr os F vs = .inl (1, tS t) := by unfold mGo; rw [if_neg c1, if_neg c2, if_neg c3, if_pos c4, if_pos cp]
      have hq := hft em
      have f2' : mI M 307 F.length = 0 := by rw [f2, cp]; rfl
      by_cases ca : isW t wAnd = true
      · simp +decide (disch := omega) only [Lg, qX11_goesOn_0, qX11_goesOn_1, qX11_goesOn_2, qX11_goesOn_3, qX11_goesOn_4, qX11_goesOn_5, qX11_goesOn_6, qX11_goesOn_7, lm hL, c4.1, w9, ca, f2', ni_in_t, ni_tn, hR.2.2.2.2.1, hbl, lm Lf, b01, am_w1_i, am_w1_r, am_w1_x, am_w1_l, am_w1_w, va_rf_s, am_push_n, am_push_s, am_cs_0, am_cs_i, am_cs_l, am_cs_r, m_uI_K, m_uI_N, m_uI_R, m_uI_L, m_uI_I, m_uL_K, m_uL_N, m_uL_R, m_uL_I, m_uL_L, m_uR_K, m_uR_N, m_uR_I, m_uR_L, m_uR_R, true_and, and_true, true_implies, false_implies, not_true_eq_false, not_false_eq_true, if_true, if_false, false_and, and_false]
        rw [br_n hpos.2.2]
        exact hq
      · have ca' : isW t wAnd = false := by simpa using ca
        have co : isW t wOr = true := by have := c4.2; rw [ca', Bool.false_or] at this; exact this
        simp +decide (disch := omega) only [Lg, qX11_goesOn_0, qX11_goesOn_1, qX11_goesOn_2, qX11_goesOn_3, qX11_goesOn_4, qX11_goesOn_5, qX11_goesOn_6, qX11_goesOn_7, lm hL, c4.1, w9, ca', w10, co, f2', ni_in_t, ni_tn, hR.2.2.2.2.1, hbl, lm Lf, b01, am_w1_i, am_w1_r, am_w1_x, am_w1_l, am_w1_w, va_rf_s, am_push_n, am_push_s, am_cs_0, am_cs_i, am_cs_l, am_cs_r, m_uI_K, m_uI_N, m_uI_R, m_uI_L, m_uI_I, m_uL_K, m_uL_N, m_uL_R, m_uL_I, m_uL_L, m_uR_K, m_uR_N, m_uR_I, m_uR_L, m_uR_R, true_and, and_true, true_implies, false_implies, not_true_eq_false, not_false_eq_true, if_true, if_false, false_and, and_false]
        rw [br_n hpos.2.2]
        exact hq
    · have nz : ¬ nI ph = 0 := fun q => cp (ez.mp q)
      have em : mGo T n t k ph bg pr os F vs = mAdv T n t (fun t1 => (t1, (k, 0, true, pr, (if isW t wAnd = true then 20 else 21) :: (jns (if isW t wAnd = true then 2 else 1) os vs).1) :: F, (jns (if isW t wAnd = true then 2 else 1) os vs).2, false)) := by unfold mGo; rw [if_neg c1, if_neg c2, if_neg c3, if_pos c4, if_neg cp]
      rw [em] at hQ
      by_cases ca : isW t wAnd = true
      · rw [if_pos ca, if_pos ca] at hQ
        have hj := (ty_jT (l := 2) (by omega) c4.1 cp hty).1
        have hA := m_goB d z a c 2 20 1 t k ph bg pr os F vs M Q hL hR hn0 hP0 hF hb hc hten (by omega) (by omega) hj (fun M' L' R' h => by
          simp +decide only [Lg, qX11_goesOn_0, qX11_goesOn_1, qX11_goesOn_2, qX11_goesOn_3, qX11_goesOn_4, qX11_goesOn_5, qX11_goesOn_6, qX11_goesOn_7, lm L', show nI 20 = (20 : Int32) from rfl, am_w1_i, am_w1_r, am_w1_x, am_w1_l, am_w1_w, va_rf_s, am_push_n, am_push_s, am_cs_0, am_cs_i, am_cs_l, am_cs_r, m_uI_K, m_uI_N, m_uI_R, m_uI_L, m_uI_I, m_uL_K, m_uL_N, m_uL_R, m_uL_I, m_uL_L, m_uR_K, m_uR_N, m_uR_I, m_uR_L, m_uR_R, true_and, and_true, true_implies, false_implies, not_true_eq_false, not_false_eq_true, if_true, if_false, false_and, and_false] at h ⊢
          exact h) hQ
        simp +decide (disch := omega) only [Lg, qX11_goesOn_0, qX11_goesOn_1, qX11_goesOn_2, qX11_goesOn_3, qX11_goesOn_4, qX11_goesOn_5, qX11_goesOn_6, qX11_goesOn_7, lm hL, c4.1, w9, ca, f2, ni_in_t, ni_tn, hR.2.1, b01, show nI 2 = (2 : Int32) from rfl, am_w1_i, am_w1_r, am_w1_x, am_w1_l, am_w1_w, va_rf_s, am_push_n, am_push_s, am_cs_0, am_cs_i, am_cs_l, am_cs_r, m_uI_K, m_uI_N, m_uI_R, m_uI_L, m_uI_I, m_uL_K, m_uL_N, m_uL_R, m_uL_I, m_uL_L, m_uR_K, m_uR_N, m_uR_I, m_uR_L, m_uR_R, true_and, and_true, true_implies, false_implies, not_true_eq_false, not_false_eq_true, if_true, if_false, false_and, and_false] at hA ⊢
        rw [br_q nz]
        exact hA
      · rw [if_neg ca, if_neg ca] at hQ
        have ca' : isW t wAnd = false := by simpa using ca
        have co : isW t wOr = true := by have := c4.2; rw [ca', Bool.false_or] at this; exact this
        have hj := (ty_jT (l := 1) (by omega) c4.1 cp hty).1
        have hA := m_goB d z a c 1 21 0 t k ph bg pr os F vs M Q hL hR hn0 hP0 hF hb hc hten (by omega) (by omega) hj (fun M' L' R' h => by
          simp +decide only [Lg, qX11_goesOn_0, qX11_goesOn_1, qX11_goesOn_2, qX11_goesOn_3, qX11_goesOn_4, qX11_goesOn_5, qX11_goesOn_6, qX11_goesOn_7, lm L', show nI 21 = (21 : Int32) from rfl, am_w1_i, am_w1_r, am_w1_x, am_w1_l, am_w1_w, va_rf_s, am_push_n, am_push_s, am_cs_0, am_cs_i, am_cs_l, am_cs_r, m_uI_K, m_uI_N, m_uI_R, m_uI_L, m_uI_I, m_uL_K, m_uL_N, m_uL_R, m_uL_I, m_uL_L, m_uR_K, m_uR_N, m_uR_I, m_uR_L, m_uR_R, true_and, and_true, true_implies, false_implies, not_true_eq_false, not_false_eq_true, if_true, if_false, false_and, and_false] at h ⊢
          exact h) hQ
        simp +decide (disch := omega) only [Lg, qX11_goesOn_0, qX11_goesOn_1, qX11_goesOn_2, qX11_goesOn_3, qX11_goesOn_4, qX11_goesOn_5, qX11_goesOn_6, qX11_goesOn_7, lm hL, c4.1, w9, ca', w10, co, f2, ni_in_t, ni_tn, hR.2.1, b01, show nI 1 = (1 : Int32) from rfl, am_w1_i, am_w1_r, am_w1_x, am_w1_l, am_w1_w, va_rf_s, am_push_n, am_push_s, am_cs_0, am_cs_i, am_cs_l, am_cs_r, m_uI_K, m_uI_N, m_uI_R, m_uI_L, m_uI_I, m_uL_K, m_uL_N, m_uL_R, m_uL_I, m_uL_L, m_uR_K, m_uR_N, m_uR_I, m_uR_L, m_uR_R, true_and, and_true, true_implies, false_implies, not_true_eq_false, not_false_eq_true, if_true, if_false, false_and, and_false] at hA ⊢
        rw [br_q nz]
        exact hA
  suffices at387 : am_P am_P0 (d + 3) (am_look tX11_goesOn) 387 (Lg F k am_x) [] M Q by
    by_cases ct : isTs k = true
    · have hab : isW t wAnd = false ∧ isW t wOr = false := by
        have q : ¬ (isW t wAnd || isW t wOr) = true := fun q => c4 ⟨ct, q⟩
        rw [Bool.not_eq_true, Bool.or_eq_false_iff] at q
        exact q
      simp +decide (disch := omega) only [Lg, qX11_goesOn_0, qX11_goesOn_1, qX11_goesOn_2, qX11_goesOn_3, qX11_goesOn_4, qX11_goesOn_5, qX11_goesOn_6, qX11_goesOn_7, lm hL, ct, w9, hab, w10, b01, am_w1_i, am_w1_r, am_w1_x, am_w1_l, am_w1_w, va_rf_s, am_push_n, am_push_s, am_cs_0, am_cs_i, am_cs_l, am_cs_r, m_uI_K, m_uI_N, m_uI_R, m_uI_L, m_uI_I, m_uL_K, m_uL_N, m_uL_R, m_uL_I, m_uL_L, m_uR_K, m_uR_N, m_uR_I, m_uR_L, m_uR_R, true_and, and_true, true_implies, false_implies, not_true_eq_false, not_false_eq_true, if_true, if_false, false_and, and_false] at at387 ⊢
      exact at387
    · have ct' : isTs k = false := by simpa using ct
      simp +decide (disch := omega) only [Lg, qX11_goesOn_0, qX11_goesOn_1, qX11_goesOn_2, qX11_goesOn_3, qX11_goesOn_4, qX11_goesOn_5, qX11_goesOn_6, qX11_goesOn_7, lm hL, ct', b01, am_w1_i, am_w1_r, am_w1_x, am_w1_l, am_w1_w, va_rf_s, am_push_n, am_push_s, am_cs_0, am_cs_i, am_cs_l, am_cs_r, m_uI_K, m_uI_N, m_uI_R, m_uI_L, m_uI_I, m_uL_K, m_uL_N, m_uL_R, m_uL_I, m_uL_L, m_uR_K, m_uR_N, m_uR_I, m_uR_L, m_uR_R, true_and, and_true, true_implies, false_implies, not_true_eq_false, not_false_eq_true, if_true, if_false, false_and, and_false] at at387 ⊢
      exact at387
  by_cases c5 : isTs k = true ∧ ph = 0
  · have em : mGo T n t k ph bg pr os F vs = .inl (1, tS t) := by unfold mGo; rw [if_neg c1, if_neg c2, if_neg c3, if_neg c4, if_pos c5]
    have hq := hft em
    have f2' : mI M 307 F.length = 0 := by rw [f2, c5.2]; rfl
    have k15 : k = 1 ∨ k = 5 := by
      have := c5.1
      unfold isTs at this
      simpa using this
    have hblf := fun x p Q => c_m_blame (d + 2) x p Mf Q Lf
    have hsg := fun Q => c_m_isSign (d + 2) 93 Mf Q Lf
    rcases k15 with rfl | rfl
    · simp +decide (disch := omega) only [Lg, qX11_goesOn_0, qX11_goesOn_1, qX11_goesOn_2, qX11_goesOn_3, qX11_goesOn_4, qX11_goesOn_5, qX11_goesOn_6, qX11_goesOn_7, lm hL, c5.1, f2', ni_in_t, ni_tn, hR.2.2.2.2.1, hbl, lm Lf, b01, show nI 1 = (1 : Int32) from rfl, am_w1_i, am_w1_r, am_w1_x, am_w1_l, am_w1_w, va_rf_s, am_push_n, am_push_s, am_cs_0, am_cs_i, am_cs_l, am_cs_r, m_uI_K, m_uI_N, m_uI_R, m_uI_L, m_uI_I, m_uL_K, m_uL_N, m_uL_R, m_uL_I, m_uL_L, m_uR_K, m_uR_N, m_uR_I, m_uR_L, m_uR_R, true_and, and_true, true_implies, false_implies, not_true_eq_false, not_false_eq_true, if_true, if_false, false_and, and_false]
      rw [br_p hpos.2.1]
      exact hq
    · simp +decide (disch := omega) only [Lg, qX11_goesOn_0, qX11_goesOn_1, qX11_goesOn_2, qX11_goesOn_3, qX11_goesOn_4, qX11_goesOn_5, qX11_goesOn_6, qX11_goesOn_7, lm hL, c5.1, f2', ni_in_t, ni_tn, hR.2.2.2.2.1, hbl, hblf, hsg, hpos.1, lm Lf, b01, show nI 5 = (5 : Int32) from rfl, am_w1_i, am_w1_r, am_w1_x, am_w1_l, am_w1_w, va_rf_s, am_push_n, am_push_s, am_cs_0, am_cs_i, am_cs_l, am_cs_r, m_uI_K, m_uI_N, m_uI_R, m_uI_L, m_uI_I, m_uL_K, m_uL_N, m_uL_R, m_uL_I, m_uL_L, m_uR_K, m_uR_N, m_uR_I, m_uR_L, m_uR_R, true_and, and_true, true_implies, false_implies, not_true_eq_false, not_false_eq_true, if_true, if_false, false_and, and_false]
      rw [br_n hpos.2.2]
      exact ⟨fun _ => hq, fun _ => hq⟩
  suffices at409 : am_P am_P0 (d + 3) (am_look tX11_goesOn) 409 (Lg F k am_x) [] M Q by
    by_cases ct : isTs k = true
    · have nz : ¬ nI ph = 0 := fun q => c5 ⟨ct, ez.mp q⟩
      simp +decide (disch := omega) only [Lg, qX11_goesOn_0, qX11_goesOn_1, qX11_goesOn_2, qX11_goesOn_3, qX11_goesOn_4, qX11_goesOn_5, qX11_goesOn_6, qX11_goesOn_7, lm hL, ct, f2, ni_in_t, ni_tn, b01, am_w1_i, am_w1_r, am_w1_x, am_w1_l, am_w1_w, va_rf_s, am_push_n, am_push_s, am_cs_0, am_cs_i, am_cs_l, am_cs_r, m_uI_K, m_uI_N, m_uI_R, m_uI_L, m_uI_I, m_uL_K, m_uL_N, m_uL_R, m_uL_I, m_uL_L, m_uR_K, m_uR_N, m_uR_I, m_uR_L, m_uR_R, true_and, and_true, true_implies, false_implies, not_true_eq_false, not_false_eq_true, if_true, if_false, false_and, and_false] at at409 ⊢
      rw [br_q nz]
      exact at409
    · have ct' : isTs k = false := by simpa using ct
      simp +decide (disch := omega) only [Lg, qX11_goesOn_0, qX11_goesOn_1, qX11_goesOn_2, qX11_goesOn_3, qX11_goesOn_4, qX11_goesOn_5, qX11_goesOn_6, qX11_goesOn_7, lm hL, ct', b01, am_w1_i, am_w1_r, am_w1_x, am_w1_l, am_w1_w, va_rf_s, am_push_n, am_push_s, am_cs_0, am_cs_i, am_cs_l, am_cs_r, m_uI_K, m_uI_N, m_uI_R, m_uI_L, m_uI_I, m_uL_K, m_uL_N, m_uL_R, m_uL_I, m_uL_L, m_uR_K, m_uR_N, m_uR_I, m_uR_L, m_uR_R, true_and, and_true, true_implies, false_implies, not_true_eq_false, not_false_eq_true, if_true, if_false, false_and, and_false] at at409 ⊢
      exact at409
  have hj1 : jok 1 os vs := by
    by_cases ct : isTs k = true
    · exact (ty_jT (l := 1) (by omega) ct (fun q => c5 ⟨ct, q⟩) hty).1
    · exact (ty_j0 (by simpa using ct) hty).1
  have he1 : (jns 1 os vs).1 = [] := by
    by_cases ct : isTs k = true
    · obtain ⟨-, -, v', vs', r, -, -, -, -, e5, -⟩ := ty_jT (l := 1) (by omega) ct (fun q => c5 ⟨ct, q⟩) hty
      exact e5 (by omega)
    · exact (ty_j0 (by simpa using ct) hty).2.2.2.1
  have eO : sumO ((k, ph, bg, pr, os) :: F) = sumO F + os.length := rfl
  have hcn : c + os.length ≤ 1800 := by have := hR.1.2.1; have := hR.2.2.2.2.2.2.2.2.1; have := hR.2.2.2.2.2.2.2.2.2.1; omega
  by_cases c6 : k < 2
  · have em : mGo T n t k ph bg pr os F vs = .inr ((t, (k, ph, bg, pr, (jns 1 os vs).1) :: F, (jns 1 os vs).2, true), false) := by unfold mGo; rw [if_neg c1, if_neg c2, if_neg c3, if_neg c4, if_neg c5, if_pos c6]
    rw [em] at hQ
    have nk : ¬ (2 : Int32) ≤ nI k := by rw [hk2]; omega
    simp +decide (disch := omega) only [Lg, qX11_goesOn_0, qX11_goesOn_1, qX11_goesOn_2, qX11_goesOn_3, qX11_goesOn_4, qX11_goesOn_5, qX11_goesOn_6, qX11_goesOn_7, lm hL, hR.2.1, am_w1_i, am_w1_r, am_w1_x, am_w1_l, am_w1_w, va_rf_s, am_push_n, am_push_s, am_cs_0, am_cs_i, am_cs_l, am_cs_r, m_uI_K, m_uI_N, m_uI_R, m_uI_L, m_uI_I, m_uL_K, m_uL_N, m_uL_R, m_uL_I, m_uL_L, m_uR_K, m_uR_N, m_uR_I, m_uR_L, m_uR_R, true_and, and_true, true_implies, false_implies, not_true_eq_false, not_false_eq_true, if_true, if_false, false_and, and_false]
    rw [br_n nk]
    refine m_joins (d + 1) z a c 1 k ph bg pr os F vs M _ hL hP0 (by omega) hF hten (by omega) hcn hj1 (fun M1 c1 g1 e1 P1 => ?_)
    have hq := hQ M1 0 (sJm_F g1) ⟨c1, sJm_R hR g1, P1, by
      have eS : sumO ((k, ph, bg, pr, (jns 1 os vs).1) :: F) = sumO F + (jns 1 os vs).1.length := rfl
      have eN : nPr ((k, ph, bg, pr, (jns 1 os vs).1) :: F) = nPr ((k, ph, bg, pr, os) :: F) := rfl
      dsimp only
      rw [eS, eN]
      omega⟩ (fun s' b q => by
        cases q
        exact ⟨rfl, by rw [g1.1 _ _ (fun w => by unfold sJm at w; omega)]; exact hfl⟩)
    simp +decide only [qX11_goesOn_0, qX11_goesOn_1, qX11_goesOn_2, qX11_goesOn_3, qX11_goesOn_4, qX11_goesOn_5, qX11_goesOn_6, qX11_goesOn_7, am_w1_i, am_w1_r, am_w1_x, am_w1_l, am_w1_w, va_rf_s, am_push_n, am_push_s, am_cs_0, am_cs_i, am_cs_l, am_cs_r, m_uI_K, m_uI_N, m_uI_R, m_uI_L, m_uI_I, m_uL_K, m_uL_N, m_uL_R, m_uL_I, m_uL_L, m_uR_K, m_uR_N, m_uR_I, m_uR_L, m_uR_R, true_and, and_true, true_implies, false_implies, not_true_eq_false, not_false_eq_true, if_true, if_false, false_and, and_false]
    exact hq
  have hk2' : (2 : Int32) ≤ nI k := hk2.mpr (by omega)
  by_cases c7 : k = 3
  · have em : mGo T n t k ph bg pr os F vs = (if isS t 44 = true then mAdv T n t (fun t1 => (t1, (4, ph, bg, pr, (jns 1 os vs).1) :: F, (jns 1 os vs).2, false)) else .inl (1, tS t)) := by unfold mGo; rw [if_neg c1, if_neg c2, if_neg c3, if_neg c4, if_neg c5, if_neg c6, if_pos c7]
    subst c7
    by_cases cs : isS t 44 = true
    · rw [if_pos cs] at em
      rw [em] at hQ
      simp +decide (disch := omega) only [Lg, qX11_goesOn_0, qX11_goesOn_1, qX11_goesOn_2, qX11_goesOn_3, qX11_goesOn_4, qX11_goesOn_5, qX11_goesOn_6, qX11_goesOn_7, lm hL, hR.2.1, s44, cs, b01, show nI 3 = (3 : Int32) from rfl, am_w1_i, am_w1_r, am_w1_x, am_w1_l, am_w1_w, va_rf_s, am_push_n, am_push_s, am_cs_0, am_cs_i, am_cs_l, am_cs_r, m_uI_K, m_uI_N, m_uI_R, m_uI_L, m_uI_I, m_uL_K, m_uL_N, m_uL_R, m_uL_I, m_uL_L, m_uR_K, m_uR_N, m_uR_I, m_uR_L, m_uR_R, true_and, and_true, true_implies, false_implies, not_true_eq_false, not_false_eq_true, if_true, if_false, false_and, and_false]
      refine m_joins (d + 1) z a c 1 3 ph bg pr os F vs M _ hL hP0 (by omega) hF hten (by omega) hcn hj1 (fun M1 c1 g1 e1 P1 => ?_)
      have L1 := gF_LayN g1 hL
      have R1 := sJm_R hR g1
      have gp : gF (fun b j => 306 ≤ b ∧ b ≤ 308 ∧ j = F.length) nT M1 (uI M1 306 F.length 4) := gF_i _ ⟨by omega, by omega, rfl⟩
      have Gp : gF (sFm z a) nT M1 (uI M1 306 F.length 4) := gF_i _ (Or.inr (Or.inr ⟨by omega, by omega⟩))
      have P2 := PzM_top (k' := 4) (ph' := ph) (bg' := bg) P1 gp (by rw [m_uI_I, if_pos ⟨rfl, rfl⟩]; rfl) (by rw [m_uI_I, if_neg (by omega)]; exact P1.2.2.1.2.1) (by rw [m_uI_I, if_neg (by omega)]; exact P1.2.2.1.2.2.1) (fun q => by omega)
      have L2 : Lay (uI M1 306 F.length 4) := L1
      have R2 : RdM (uI M1 306 F.length 4) T n t := RdM_g R1 gp (fun b j q w => by omega)
      simp +decide (disch := omega) only [Lg, qX11_goesOn_0, qX11_goesOn_1, qX11_goesOn_2, qX11_goesOn_3, qX11_goesOn_4, qX11_goesOn_5, qX11_goesOn_6, qX11_goesOn_7, lm L1, ni_in_t, ni_tn, am_w1_i, am_w1_r, am_w1_x, am_w1_l, am_w1_w, va_rf_s, am_push_n, am_push_s, am_cs_0, am_cs_i, am_cs_l, am_cs_r, m_uI_K, m_uI_N, m_uI_R, m_uI_L, m_uI_I, m_uL_K, m_uL_N, m_uL_R, m_uL_I, m_uL_L, m_uR_K, m_uR_N, m_uR_I, m_uR_L, m_uR_R, true_and, and_true, true_implies, false_implies, not_true_eq_false, not_false_eq_true, if_true, if_false, false_and, and_false]
      have eS : sumO ((4, ph, bg, pr, (jns 1 os vs).1) :: F) = sumO F + (jns 1 os vs).1.length := rfl
      have eN : nPr ((4, ph, bg, pr, (jns 1 os vs).1) :: F) = nPr ((3, ph, bg, pr, os) :: F) := rfl
      refine m_advS (d + 1) z a c1 t _ _ false _ _ L2 R2 (isS_n0 cs) P2 (by rw [eS, eN]; omega) (fun M3 g3 _ h3 => ?_)
      have L3 := gF_LayN g3 L2
      have hq := hQ (uI M3 277 51 0) 1 (gF_trans (sJm_F g1) (gF_trans Gp (gF_trans (sRm_F g3) (gF_i _ (Or.inl ⟨rfl, by omega⟩))))) (RsM_51 0 h3) (gX_adv (o := false) (fun _ => rfl) (by rw [m_uI_I, if_pos ⟨rfl, rfl⟩]; rfl))
      simp +decide only [qX11_goesOn_0, qX11_goesOn_1, qX11_goesOn_2, qX11_goesOn_3, qX11_goesOn_4, qX11_goesOn_5, qX11_goesOn_6, qX11_goesOn_7, lm L3, am_w1_i, am_w1_r, am_w1_x, am_w1_l, am_w1_w, va_rf_s, am_push_n, am_push_s, am_cs_0, am_cs_i, am_cs_l, am_cs_r, m_uI_K, m_uI_N, m_uI_R, m_uI_L, m_uI_I, m_uL_K, m_uL_N, m_uL_R, m_uL_I, m_uL_L, m_uR_K, m_uR_N, m_uR_I, m_uR_L, m_uR_R, true_and, and_true, true_implies, false_implies, not_true_eq_false, not_false_eq_true, if_true, if_false, false_and, and_false]
      exact hq
    · rw [if_neg cs] at em
      have cs' : isS t 44 = false := by simpa using cs
      have hq := hft em
      simp +decide (disch := omega) only [Lg, qX11_goesOn_0, qX11_goesOn_1, qX11_goesOn_2, qX11_goesOn_3, qX11_goesOn_4, qX11_goesOn_5, qX11_goesOn_6, qX11_goesOn_7, lm hL, s44, cs', b01, hR.2.2.2.2.1, hbl, lm Lf, show nI 3 = (3 : Int32) from rfl, am_w1_i, am_w1_r, am_w1_x, am_w1_l, am_w1_w, va_rf_s, am_push_n, am_push_s, am_cs_0, am_cs_i, am_cs_l, am_cs_r, m_uI_K, m_uI_N, m_uI_R, m_uI_L, m_uI_I, m_uL_K, m_uL_N, m_uL_R, m_uL_I, m_uL_L, m_uR_K, m_uR_N, m_uR_I, m_uR_L, m_uR_R, true_and, and_true, true_implies, false_implies, not_true_eq_false, not_false_eq_true, if_true, if_false, false_and, and_false]
      rw [br_n hpos.2.2]
      exact hq
  have k245 : k = 2 ∨ k = 4 ∨ k = 5 := by omega
  cases F with
  | nil => exact absurd (hkF.mpr rfl) c6
  | cons f' F' =>
    have em : mGo T n t k ph bg pr os (f' :: F') vs = (if isS t (if k = 5 then 93 else 41) = true then mAdv T n t (fun t1 => (t1, (f'.1, (if k = 5 then 2 else f'.2.1), f'.2.2.1, f'.2.2.2.1, f'.2.2.2.2) :: F', (if k = 4 then appD pr (jns 1 os vs).2 else (jns 1 os vs).2), true)) else .inl (1, tS t)) := by
      unfold mGo
      rw [if_neg c1, if_neg c2, if_neg c3, if_neg c4, if_neg c5, if_neg c6, if_neg c7]
    have h4 : k = 4 → (pr = 15 ∨ pr = 16) ∧ opOK 1850 (pr, 0) (jns 1 os vs).2 := fun q => by
      subst q
      obtain ⟨-, -, -, -, v', r, e1, e2, -, b2, -, b5⟩ := ty_j0 (k := 4) rfl hty
      rw [if_pos rfl] at b5
      obtain ⟨u, r', rfl, hu, -⟩ := b5
      rw [e1]
      exact ⟨b2 (Or.inr rfl), op_hi (by have := b2 (Or.inr rfl); omega) hu e2⟩
    have hFl : F'.length ≤ 7 := by simpa using hF
    by_cases cs : isS t (if k = 5 then 93 else 41) = true
    · rw [if_pos cs] at em
      rw [em] at hQ
      have hE := m_goE d z a c t k ph bg pr os f' F' vs M Q hL hR (isS_n0 cs) hP0 hFl hb hc hten hj1 k245 he1 h4 hfl hQ
      rcases k245 with rfl | rfl | rfl
      · rw [if_neg (by omega)] at cs
        simp +decide (disch := omega) only [Lg, qX11_goesOn_0, qX11_goesOn_1, qX11_goesOn_2, qX11_goesOn_3, qX11_goesOn_4, qX11_goesOn_5, qX11_goesOn_6, qX11_goesOn_7, lm hL, hR.2.1, s41, cs, b01, show nI 2 = (2 : Int32) from rfl, am_w1_i, am_w1_r, am_w1_x, am_w1_l, am_w1_w, va_rf_s, am_push_n, am_push_s, am_cs_0, am_cs_i, am_cs_l, am_cs_r, m_uI_K, m_uI_N, m_uI_R, m_uI_L, m_uI_I, m_uL_K, m_uL_N, m_uL_R, m_uL_I, m_uL_L, m_uR_K, m_uR_N, m_uR_I, m_uR_L, m_uR_R, true_and, and_true, true_implies, false_implies, not_true_eq_false, not_false_eq_true, if_true, if_false, false_and, and_false] at hE ⊢
        exact hE
      · rw [if_neg (by omega)] at cs
        simp +decide (disch := omega) only [Lg, qX11_goesOn_0, qX11_goesOn_1, qX11_goesOn_2, qX11_goesOn_3, qX11_goesOn_4, qX11_goesOn_5, qX11_goesOn_6, qX11_goesOn_7, lm hL, hR.2.1, s41, cs, b01, show nI 4 = (4 : Int32) from rfl, am_w1_i, am_w1_r, am_w1_x, am_w1_l, am_w1_w, va_rf_s, am_push_n, am_push_s, am_cs_0, am_cs_i, am_cs_l, am_cs_r, m_uI_K, m_uI_N, m_uI_R, m_uI_L, m_uI_I, m_uL_K, m_uL_N, m_uL_R, m_uL_I, m_uL_L, m_uR_K, m_uR_N, m_uR_I, m_uR_L, m_uR_R, true_and, and_true, true_implies, false_implies, not_true_eq_false, not_false_eq_true, if_true, if_false, false_and, and_false] at hE ⊢
        exact hE
      · rw [if_pos rfl] at cs
        simp +decide (disch := omega) only [Lg, qX11_goesOn_0, qX11_goesOn_1, qX11_goesOn_2, qX11_goesOn_3, qX11_goesOn_4, qX11_goesOn_5, qX11_goesOn_6, qX11_goesOn_7, lm hL, hR.2.1, s93, cs, b01, show nI 5 = (5 : Int32) from rfl, am_w1_i, am_w1_r, am_w1_x, am_w1_l, am_w1_w, va_rf_s, am_push_n, am_push_s, am_cs_0, am_cs_i, am_cs_l, am_cs_r, m_uI_K, m_uI_N, m_uI_R, m_uI_L, m_uI_I, m_uL_K, m_uL_N, m_uL_R, m_uL_I, m_uL_L, m_uR_K, m_uR_N, m_uR_I, m_uR_L, m_uR_R, true_and, and_true, true_implies, false_implies, not_true_eq_false, not_false_eq_true, if_true, if_false, false_and, and_false] at hE ⊢
        exact hE
    · rw [if_neg cs] at em
      have hq := hft em
      have cs' : isS t (if k = 5 then 93 else 41) = false := by simpa using cs
      rcases k245 with rfl | rfl | rfl
      · rw [if_neg (by omega)] at cs'
        simp +decide (disch := omega) only [Lg, qX11_goesOn_0, qX11_goesOn_1, qX11_goesOn_2, qX11_goesOn_3, qX11_goesOn_4, qX11_goesOn_5, qX11_goesOn_6, qX11_goesOn_7, lm hL, s41, cs', b01, hR.2.2.2.2.1, hbl, lm Lf, show nI 2 = (2 : Int32) from rfl, am_w1_i, am_w1_r, am_w1_x, am_w1_l, am_w1_w, va_rf_s, am_push_n, am_push_s, am_cs_0, am_cs_i, am_cs_l, am_cs_r, m_uI_K, m_uI_N, m_uI_R, m_uI_L, m_uI_I, m_uL_K, m_uL_N, m_uL_R, m_uL_I, m_uL_L, m_uR_K, m_uR_N, m_uR_I, m_uR_L, m_uR_R, true_and, and_true, true_implies, false_implies, not_true_eq_false, not_false_eq_true, if_true, if_false, false_and, and_false]
        rw [br_n hpos.2.2]
        exact hq
      · rw [if_neg (by omega)] at cs'
        simp +decide (disch := omega) only [Lg, qX11_goesOn_0, qX11_goesOn_1, qX11_goesOn_2, qX11_goesOn_3, qX11_goesOn_4, qX11_goesOn_5, qX11_goesOn_6, qX11_goesOn_7, lm hL, s41, cs', b01, hR.2.2.2.2.1, hbl, lm Lf, show nI 4 = (4 : Int32) from rfl, am_w1_i, am_w1_r, am_w1_x, am_w1_l, am_w1_w, va_rf_s, am_push_n, am_push_s, am_cs_0, am_cs_i, am_cs_l, am_cs_r, m_uI_K, m_uI_N, m_uI_R, m_uI_L, m_uI_I, m_uL_K, m_uL_N, m_uL_R, m_uL_I, m_uL_L, m_uR_K, m_uR_N, m_uR_I, m_uR_L, m_uR_R, true_and, and_true, true_implies, false_implies, not_true_eq_false, not_false_eq_true, if_true, if_false, false_and, and_false]
        rw [br_n hpos.2.2]
        exact hq
      · rw [if_pos rfl] at cs'
        simp +decide (disch := omega) only [Lg, qX11_goesOn_0, qX11_goesOn_1, qX11_goesOn_2, qX11_goesOn_3, qX11_goesOn_4, qX11_goesOn_5, qX11_goesOn_6, qX11_goesOn_7, lm hL, s93, cs', b01, hR.2.2.2.2.1, hbl, lm Lf, show nI 5 = (5 : Int32) from rfl, am_w1_i, am_w1_r, am_w1_x, am_w1_l, am_w1_w, va_rf_s, am_push_n, am_push_s, am_cs_0, am_cs_i, am_cs_l, am_cs_r, m_uI_K, m_uI_N, m_uI_R, m_uI_L, m_uI_I, m_uL_K, m_uL_N, m_uL_R, m_uL_I, m_uL_L, m_uR_K, m_uR_N, m_uR_I, m_uR_L, m_uR_R, true_and, and_true, true_implies, false_implies, not_true_eq_false, not_false_eq_true, if_true, if_false, false_and, and_false]
        rw [br_n hpos.2.2]
        exact hq
end
end
section
/-! the model's formulas: reads -/
section
variable {T : Nat → Nat} {n : Nat}
def EnM (T : Nat → Nat) (n : Nat) (M : am_M) (z a : Nat) : Sum (Nat × Nat) Mst → Prop
  | .inl e => FtM M T n e.1 e.2
  | .inr s => ∃ c, MsM T n M z a c s
theorem mRun_i {f : Nat} {s : Mst} : mRun T n (f + 1) s = (match mStep T n s with
    | .inl e => some (.inl e)
    | .inr q => if q.2 = true then mRun T n f q.1 else some (.inr q.1)) := rfl
theorem tok_a {t : Tok} {S : Tok → Mst} {s' : Mst} {b : Bool} (hv : tkV T n t) (hS : ∀ t1, (S t1).1 = t1) (h : mAdv T n t S = .inr (s', b)) : tS t ≤ tS s'.1 := by
  obtain ⟨-, rfl⟩ := mAdv_r h
  rw [hS]
  have := (tk_V T n (tE t) hv.2.2.2.1).2.1
  have := hv.2.2.2.2
  omega
theorem tok_opd {t : Tok} {k ph : Nat} {bg : Bool} {pr : Nat} {os : List Nat} {F : List Frm} {vs : List Den} {s' : Mst} {b : Bool} (hv : tkV T n t) (hs : mOpd T n t k ph bg pr os F vs = .inr (s', b)) : tS t ≤ tS s'.1 := by
  unfold mOpd at hs
  split at hs
  · exact tok_a hv (fun _ => rfl) hs
  split at hs
  · split at hs
    · cases hs
    · exact tok_a hv (fun _ => rfl) hs
  split at hs
  · exact tok_a hv (fun _ => rfl) hs
  split at hs
  · split at hs
    · cases hs
    · exact tok_a hv (fun _ => rfl) hs
  split at hs
  · split at hs
    · cases hs
    · split at hs
      · split at hs
        · cases hs
        · have h1 := tk_V T n (tE t) hv.2.2.2.1
          have h2 := tok_a h1.1 (fun _ => rfl) hs
          have := hv.2.2.2.2
          have := h1.2.1
          omega
      · cases hs
  · split at hs
    · exact tok_a hv (fun _ => rfl) hs
    · cases hs
theorem tok_go {t : Tok} {k ph : Nat} {bg : Bool} {pr : Nat} {os : List Nat} {F : List Frm} {vs : List Den} {s' : Mst} {b : Bool} (hv : tkV T n t) (hs : mGo T n t k ph bg pr os F vs = .inr (s', b)) : tS t ≤ tS s'.1 := by
  unfold mGo at hs
  split at hs
  · exact tok_a hv (fun _ => rfl) hs
  split at hs
  · exact tok_a hv (fun _ => rfl) hs
  split at hs
  · exact tok_a hv (fun _ => rfl) hs
  split at hs
  · split at hs
    · cases hs
    · exact tok_a hv (fun _ => rfl) hs
  split at hs
  · cases hs
  split at hs
  · cases hs; exact Nat.le_refl _
  split at hs
  · split at hs
    · exact tok_a hv (fun _ => rfl) hs
    · cases hs
  · by_cases c : isS t (if k = 5 then 93 else 41) = true
    · rw [if_pos c] at hs
      cases F with
      | nil => cases hs
      | cons f F' => exact tok_a hv (fun _ => rfl) hs
    · rw [if_neg c] at hs; cases hs
theorem tok_step {s s' : Mst} {b : Bool} (h : mI_ T n s) (hs : mStep T n s = .inr (s', b)) : tS s.1 ≤ tS s'.1 := by
  obtain ⟨t, k, ph, bg, pr, os, F, vs, o, rfl, hv, -⟩ := h
  cases o with
  | false => exact tok_opd hv hs
  | true => exact tok_go hv hs
/-- the last state's word lies behind -/
theorem tok_run : ∀ (f : Nat) (s s' : Mst), mI_ T n s → mRun T n f s = some (.inr s') → tS s.1 ≤ tS s'.1 := by
  intro f
  induction f with
  | zero => intro s s' _ h; cases h
  | succ f ih =>
    intro s s' hm h
    rw [mRun_i] at h
    cases hst : mStep T n s with
    | inl e => rw [hst] at h; cases h
    | inr q =>
      obtain ⟨s1, b⟩ := q
      rw [hst] at h
      have h1 := tok_step hm hst
      dsimp only at h
      cases b with
      | true =>
        rw [if_pos rfl] at h
        have := ih s1 s' (mI_step hm hst) h
        omega
      | false =>
        rw [if_neg (by decide)] at h
        cases h
        exact h1
theorem l_m_reads (d z a : Nat) (x1 : Int32) (M0 : am_M) (Q : Option Value → am_M → Prop) (hL0 : Lay M0) : ∀ (f : Nat) (s : Mst) (r : Sum (Nat × Nat) Mst), mRun T n f s = some r → ∀ (M : am_M) (c : Nat), gF (sFm z a) nT M0 M → MsM T n M z a c s → mI M 277 51 = b01 s.2.2.2 → mI_ T n s → tyS s.2.1 s.2.2.1 s.2.2.2 →
    (∀ M', gF (sFm z a) nT M0 M' → EnM T n M' z a r → Q none M') → am_P am_P0 (d + 4) (am_look tX11_reads) 43 [.ref 277, .int x1, .int 1] [] M Q := by
  intro f
  induction f with
  | zero => intro s r h; cases h
  | succ f ih =>
    intro s r hr M c hM hs hfl hmi hty hQ
    have hLM := gF_LayN hM hL0
    obtain ⟨e1, e2⟩ := mI_ops hmi hs.1.1.2.1
    obtain ⟨t, k, ph, bg, pr, os, F, vs, o, rfl, hv, hso, hFb, hl, hb, hc4⟩ := hmi
    have hmi : mI_ T n (t, (k, ph, bg, pr, os) :: F, vs, o) := ⟨t, k, ph, bg, pr, os, F, vs, o, rfl, hv, hso, hFb, hl, hb, hc4⟩
    obtain ⟨hR, hP, hc⟩ := hs
    dsimp only at hR hP hc hfl hty e1 e2
    have hO : sumO F + os.length ≤ 495 := e1
    -- how one step ends
    have done : ∀ (e : Nat × Nat) (M' : am_M) (x : Int32), gF (sFm z a) nT M M' → FtM M' T n e.1 e.2 → r = .inl e → (x = 0 ∨ ¬ x = 0) → am_P am_P0 (d + 4) (am_look tX11_reads) 70 [.ref 277, .int x1, .int x] [] M' Q := by
      intro e M' x g hf er hx
      subst er
      have h0 := hQ M' (gF_trans hM g) hf
      have L' := gF_LayN g hLM
      have hp := (FtM_pos hf).2.1
      have hz : am_P am_P0 (d + 4) (am_look tX11_reads) 43 [.ref 277, .int x1, .int 0] [] M' Q := by
        rw [hX11_reads_43]
        simp +decide only [qX11_reads_0, qX11_reads_1, am_w1_i, am_w1_r, am_w1_x, am_w1_l, am_w1_w, va_rf_s, am_push_n, am_push_s, am_cs_0, am_cs_i, am_cs_l, am_cs_r, m_uI_K, m_uI_N, m_uI_R, m_uI_L, m_uI_I, m_uL_K, m_uL_N, m_uL_R, m_uL_I, m_uL_L, m_uR_K, m_uR_N, m_uR_I, m_uR_L, m_uR_R, true_and, and_true, true_implies, false_implies, not_true_eq_false, not_false_eq_true, if_true, if_false, false_and, and_false]
        exact h0
      simp +decide only [qX11_reads_0, qX11_reads_1, lm L', am_w1_i, am_w1_r, am_w1_x, am_w1_l, am_w1_w, va_rf_s, am_push_n, am_push_s, am_cs_0, am_cs_i, am_cs_l, am_cs_r, m_uI_K, m_uI_N, m_uI_R, m_uI_L, m_uI_I, m_uL_K, m_uL_N, m_uL_R, m_uL_I, m_uL_L, m_uR_K, m_uR_N, m_uR_I, m_uR_L, m_uR_R, true_and, and_true, true_implies, false_implies, not_true_eq_false, not_false_eq_true, if_true, if_false, false_and, and_false] at hz ⊢
      rcases hx with hx | hx
      · rw [br_p hx]; exact hz
      · rw [br_n hx, br_p hp]; exact hz
    have more : ∀ (s' : Mst) (b : Bool) (M' : am_M), gF (sFm z a) nT M M' → (∃ c', MsM T n M' z a c' s') → mStep T n (t, (k, ph, bg, pr, os) :: F, vs, o) = .inr (s', b) → (b = true → mI M' 277 51 = b01 s'.2.2.2 ∧ tyS s'.2.1 s'.2.2.1 s'.2.2.2) → am_P am_P0 (d + 4) (am_look tX11_reads) 70 [.ref 277, .int x1, .int (b01 b)] [] M' Q := by
      intro s' b M' g hf hstep hbt
      obtain ⟨c', hs'⟩ := hf
      rw [mRun_i, hstep] at hr
      have L' := gF_LayN g hLM
      have h8 := hs'.1.2.1
      cases b with
      | false =>
        dsimp only at hr
        rw [if_neg (by decide)] at hr
        cases hr
        have h0 := hQ M' (gF_trans hM g) ⟨c', hs'⟩
        have hz : am_P am_P0 (d + 4) (am_look tX11_reads) 43 [.ref 277, .int x1, .int 0] [] M' Q := by
          rw [hX11_reads_43]
          simp +decide only [qX11_reads_0, qX11_reads_1, am_w1_i, am_w1_r, am_w1_x, am_w1_l, am_w1_w, va_rf_s, am_push_n, am_push_s, am_cs_0, am_cs_i, am_cs_l, am_cs_r, m_uI_K, m_uI_N, m_uI_R, m_uI_L, m_uI_I, m_uL_K, m_uL_N, m_uL_R, m_uL_I, m_uL_L, m_uR_K, m_uR_N, m_uR_I, m_uR_L, m_uR_R, true_and, and_true, true_implies, false_implies, not_true_eq_false, not_false_eq_true, if_true, if_false, false_and, and_false]
          exact h0
        simp +decide only [qX11_reads_0, qX11_reads_1, b01, am_w1_i, am_w1_r, am_w1_x, am_w1_l, am_w1_w, va_rf_s, am_push_n, am_push_s, am_cs_0, am_cs_i, am_cs_l, am_cs_r, m_uI_K, m_uI_N, m_uI_R, m_uI_L, m_uI_I, m_uL_K, m_uL_N, m_uL_R, m_uL_I, m_uL_L, m_uR_K, m_uR_N, m_uR_I, m_uR_L, m_uR_R, true_and, and_true, true_implies, false_implies, not_true_eq_false, not_false_eq_true, if_true, if_false, false_and, and_false] at hz ⊢
        exact hz
      | true =>
        dsimp only at hr
        rw [if_pos rfl] at hr
        have h0 := ih s' r hr M' c' (gF_trans hM g) hs' (hbt rfl).1 (mI_step hmi hstep) (hbt rfl).2 hQ
        simp +decide only [qX11_reads_0, qX11_reads_1, lm L', h8, b01, am_w1_i, am_w1_r, am_w1_x, am_w1_l, am_w1_w, va_rf_s, am_push_n, am_push_s, am_cs_0, am_cs_i, am_cs_l, am_cs_r, m_uI_K, m_uI_N, m_uI_R, m_uI_L, m_uI_I, m_uL_K, m_uL_N, m_uL_R, m_uL_I, m_uL_L, m_uR_K, m_uR_N, m_uR_I, m_uR_L, m_uR_R, true_and, and_true, true_implies, false_implies, not_true_eq_false, not_false_eq_true, if_true, if_false, false_and, and_false] at h0 ⊢
        exact h0
    rw [hX11_reads_43]
    cases o with
    | false =>
      simp +decide only [qX11_reads_0, qX11_reads_1, lm hLM, hfl, b01, am_w1_i, am_w1_r, am_w1_x, am_w1_l, am_w1_w, va_rf_s, am_push_n, am_push_s, am_cs_0, am_cs_i, am_cs_l, am_cs_r, m_uI_K, m_uI_N, m_uI_R, m_uI_L, m_uI_I, m_uL_K, m_uL_N, m_uL_R, m_uL_I, m_uL_L, m_uR_K, m_uR_N, m_uR_I, m_uR_L, m_uR_R, true_and, and_true, true_implies, false_implies, not_true_eq_false, not_false_eq_true, if_true, if_false, false_and, and_false]
      refine m_operand d z a c t k ph bg pr os F vs M _ hLM hR hP (tyR_i.mp hty).2.1 hl hO hc (fun M1 x g1 r1 x1h => ?_)
      have L1 := gF_LayN g1 hLM
      have gx : gF (sFm z a) nT M1 (uI M1 277 51 x) := gF_i _ (Or.inl ⟨rfl, by omega⟩)
      have L2 : Lay (uI M1 277 51 x) := L1
      have r2 := RsM_51 x r1
      have hx01 : (x = 0 ∨ x = 1) = True := eq_true x1h.1
      have hst : mStep T n (t, (k, ph, bg, pr, os) :: F, vs, false) = mOpd T n t k ph bg pr os F vs := rfl
      suffices key : am_P am_P0 (d + 4) (am_look tX11_reads) 70 [.ref 277, .int x1, .int 1] [] (uI M1 277 51 x) Q by
        simp +decide only [qX11_reads_0, qX11_reads_1, lm L1, hx01, am_w1_i, am_w1_r, am_w1_x, am_w1_l, am_w1_w, va_rf_s, am_push_n, am_push_s, am_cs_0, am_cs_i, am_cs_l, am_cs_r, m_uI_K, m_uI_N, m_uI_R, m_uI_L, m_uI_I, m_uL_K, m_uL_N, m_uL_R, m_uL_I, m_uL_L, m_uR_K, m_uR_N, m_uR_I, m_uR_L, m_uR_R, true_and, and_true, true_implies, false_implies, not_true_eq_false, not_false_eq_true, if_true, if_false, false_and, and_false] at key ⊢
        exact key
      cases hm : mOpd T n t k ph bg pr os F vs with
      | inl e =>
        rw [hm] at r2 hst
        have hr' := hr
        rw [mRun_i, hst] at hr'
        cases hr'
        exact done e _ 1 (gF_trans g1 gx) r2 rfl (Or.inr (by decide))
      | inr q =>
        obtain ⟨s', b⟩ := q
        rw [hm] at r2 hst
        have hb1 : b = true := by
          unfold mOpd at hm
          revert hm
          unfold mAdv
          intro hm
          repeat' split at hm
          all_goals first
            | (cases hm; done)
            | (cases hm; rfl)
        subst hb1
        exact more s' true _ (gF_trans g1 gx) r2 hst (fun _ => ⟨by rw [m_uI_I, if_pos ⟨rfl, rfl⟩]; exact x1h.2 s' true hm, tyS_opd (tkG_OK hR.2.2.2.2.2.2.2.2) hty hm⟩)
    | true =>
      simp +decide only [qX11_reads_0, qX11_reads_1, lm hLM, hfl, b01, am_w1_i, am_w1_r, am_w1_x, am_w1_l, am_w1_w, va_rf_s, am_push_n, am_push_s, am_cs_0, am_cs_i, am_cs_l, am_cs_r, m_uI_K, m_uI_N, m_uI_R, m_uI_L, m_uI_I, m_uL_K, m_uL_N, m_uL_R, m_uL_I, m_uL_L, m_uR_K, m_uR_N, m_uR_I, m_uR_L, m_uR_R, true_and, and_true, true_implies, false_implies, not_true_eq_false, not_false_eq_true, if_true, if_false, false_and, and_false]
      refine m_goesOn d z a c t k ph bg pr os F vs M _ hLM hR hP hty hl hO hc (by rw [hfl]; rfl) (fun M1 x g1 r1 x1h => ?_)
      have hst : mStep T n (t, (k, ph, bg, pr, os) :: F, vs, true) = mGo T n t k ph bg pr os F vs := rfl
      suffices key : am_P am_P0 (d + 4) (am_look tX11_reads) 70 [.ref 277, .int x1, .int x] [] M1 Q by
        simp +decide only [qX11_reads_0, qX11_reads_1, am_w1_i, am_w1_r, am_w1_x, am_w1_l, am_w1_w, va_rf_s, am_push_n, am_push_s, am_cs_0, am_cs_i, am_cs_l, am_cs_r, m_uI_K, m_uI_N, m_uI_R, m_uI_L, m_uI_I, m_uL_K, m_uL_N, m_uL_R, m_uL_I, m_uL_L, m_uR_K, m_uR_N, m_uR_I, m_uR_L, m_uR_R, true_and, and_true, true_implies, false_implies, not_true_eq_false, not_false_eq_true, if_true, if_false, false_and, and_false] at key ⊢
        exact key
      cases hm : mGo T n t k ph bg pr os F vs with
      | inl e =>
        rw [hm] at r1 hst
        have hr' := hr
        rw [mRun_i, hst] at hr'
        cases hr'
        exact done e _ x g1 r1 rfl (Decidable.em _)
      | inr q =>
        obtain ⟨s', b⟩ := q
        rw [hm] at r1 hst
        obtain ⟨x1a, x1b⟩ := x1h s' b hm
        rw [x1a]
        exact more s' b M1 g1 r1 hst (fun hb => ⟨x1b, by subst hb; exact tyS_go (fun f hf => (hFb f hf).2) hty hm⟩)
/-- as the grammar says -/
def EnP (T : Nat → Nat) (n : Nat) (t : Tok) (M : am_M) (z a : Nat) : Sum (Nat × Nat) (Tok × Den) → Prop
  | .inl e => FtM M T n e.1 e.2
  | .inr q => RdM M T n q.1 ∧ (∃ c, FmM M z c ∧ CdM M z a c [q.2] ∧ c ≤ tS q.1) ∧ tS t ≤ tS q.1
theorem m_reads (d z a : Nat) (b : Bool) (t : Tok) (res : Sum (Nat × Nat) (Tok × Den)) (M : am_M) (Q : Option Value → am_M → Prop) (hL : Lay M) (hR : RdM M T n t) (hV : tkV T n t) (hF : FmM M z a) (ha : a ≤ tS t) (hres : ps T n (fuelP n) (if b = true then 5 else 0) 0 t (fun _ => 0) = some res)
    (hQ : ∀ M', gF (sFm z a) nT M M' → EnP T n t M' z a res → Q none M') : am_E am_P0 (d + 4) 192 [.ref 277, .int (b01 b)] M Q := by
  obtain ⟨kk, hkk⟩ : ∃ kk : Nat, kk = (if b = true then 1 else 0) := ⟨_, rfl⟩
  have hk2 : kk < 2 := by rw [hkk]; split <;> omega
  -- how the run ends
  have run : ∃ f r, mRun T n f (t, [(kk, 0, true, 0, [])], [], false) = some r ∧ (∀ e, res = .inl e → r = .inl e) ∧ (∀ t' v, res = .inr (t', v) → ∃ s', r = .inr s' ∧ s'.1 = t' ∧ s'.2.2.1 = [v]) := by
    have fin : ∀ (t' : Tok) (v : Den) (ph : Nat) (os' : List Nat) (vs' : List Den), mStep T n (t', [(kk, ph, false, 0, os')], vs', true) = .inr ((t', [(kk, ph, false, 0, (jns 1 os' vs').1)], (jns 1 os' vs').2, true), false) → (jns 1 os' vs').2 = [v] → Go T n (t, [(kk, 0, true, 0, [])], [], false) (t', [(kk, ph, false, 0, os')], vs', true) → res = .inr (t', v) → ∃ f r, mRun T n f (t, [(kk, 0, true, 0, [])], [], false) = some r ∧ (∀ e, res = .inl e → r = .inl e) ∧ (∀ t' v, res = .inr (t', v) → ∃ s', r = .inr s' ∧ s'.1 = t' ∧ s'.2.2.1 = [v]) := by
      intro t' v ph os' vs' hs hv hg he
      obtain ⟨m, hm⟩ := hg
      refine ⟨1 + m, .inr (t', [(kk, ph, false, 0, (jns 1 os' vs').1)], (jns 1 os' vs').2, true), ?_, fun e q => ?_, fun t2 v2 q => ?_⟩
      · rw [hm, mRun_i, hs]; rfl
      · rw [he] at q; cases q
      · rw [he] at q; cases q; exact ⟨_, rfl, rfl, hv⟩
    have flt : ∀ e, Ff T n (t, [(kk, 0, true, 0, [])], [], false) e → res = .inl e → ∃ f r, mRun T n f (t, [(kk, 0, true, 0, [])], [], false) = some r ∧ (∀ e, res = .inl e → r = .inl e) ∧ (∀ t' v, res = .inr (t', v) → ∃ s', r = .inr s' ∧ s'.1 = t' ∧ s'.2.2.1 = [v]) := by
      intro e hf he
      obtain ⟨m, hm⟩ := hf
      exact ⟨0 + m, .inl e, hm 0, fun e' q => by rw [he] at q; cases q; rfl, fun t2 v2 q => by rw [he] at q; cases q⟩
    cases b with
    | false =>
      rw [if_neg (by decide)] at hkk hres
      subst hkk
      have ho := (sim_all (T := T) (n := n) (fuelP n)).1 0 t (fun _ => 0) 0 0 true 0 [] [] [] rfl (by omega) (by omega) (hdR_nil 5) (nf_k rfl)
      rw [hres] at ho
      cases res with
      | inl e => exact flt e ho rfl
      | inr q =>
        obtain ⟨s', hg, os', vs', rfl, hj, hm, ha'⟩ := ho
        have h1 : jns 1 os' vs' = ([], [q.2]) := by rw [jns_then (by omega) hj]; rfl
        refine fin q.1 q.2 0 os' vs' ?_ (by rw [h1]) hg rfl
        show mGo T n q.1 0 0 false 0 os' [] vs' = _
        unfold mGo
        rw [if_neg (fun w => w.2 ha'), if_neg (fun w => w.2 hm), if_neg (fun w => by cases w.1), if_neg (fun w => by cases w.1), if_neg (fun w => by cases w.1), if_pos (by omega)]
    | true =>
      rw [if_pos rfl] at hkk hres
      subst hkk
      have ho := (sim_all (T := T) (n := n) (fuelP n)).2.2.2.2.2.1 0 t (fun _ => 0) 1 0 [] [] rfl (by omega) rfl
      rw [hres] at ho
      cases res with
      | inl e => exact flt e ho rfl
      | inr q =>
        obtain ⟨s', hg, ph, os', vs', rfl, hj, hpe, hA, hO⟩ := ho
        refine fin q.1 q.2 ph os' vs' ?_ (by rw [hj]) hg rfl
        show mGo T n q.1 1 ph false 0 os' [] vs' = _
        have hp0 : ¬ ph = 0 := by rcases hpe with q | q <;> omega
        unfold mGo
        rw [if_neg (fun w => by rcases hpe with q | q; omega; exact w.2 q.2.1), if_neg (fun w => by rcases hpe with q | q; omega; exact w.2 q.2.2), if_neg (fun w => hp0 w.2.1), if_neg (fun w => by have := w.2; rw [hA, hO] at this; cases this), if_neg (fun w => hp0 w.2), if_pos (by omega)]
  obtain ⟨f, r, hrun, hrl, hrr⟩ := run
  have hmi0 : mI_ T n (t, [(kk, 0, true, 0, [])], [], false) := ⟨t, kk, 0, true, 0, [], [], [], false, rfl, hV, ⟨trivial, fun _ o ho => by cases ho⟩, (fun f hf => by cases hf), by decide, fun _ => ⟨rfl, fun a r h => by cases h⟩, by show 4 * 0 ≤ _; omega⟩
  have hfin : ∀ M', gF (sFm z a) nT M M' → EnM T n M' z a r → Q none M' := fun M' g hE => by
    refine hQ M' g ?_
    cases res with
    | inl e => rw [hrl e rfl] at hE; exact hE
    | inr q =>
      obtain ⟨s', rfl, h1, h2⟩ := hrr q.1 q.2 rfl
      obtain ⟨c, m1, m2, m3⟩ := hE
      rw [h1] at m1 m3
      refine ⟨m1, ⟨c, m2.1, ?_, by omega⟩, ?_⟩
      · have := m2.2.1
        rw [h2] at this
        exact this
      · have := tok_run f _ _ hmi0 hrun
        rw [h1] at this
        exact this
  -- the start
  obtain ⟨Ms, hMs⟩ : ∃ Ms, Ms = uI (uI (uI (uI M 277 47 0) 277 48 0) 277 50 0) 277 51 0 := ⟨_, rfl⟩
  have gs : gF (fun b j => b = 277 ∧ (j = 47 ∨ j = 48 ∨ j = 50 ∨ j = 51)) nT M Ms := by
    rw [hMs]
    exact gF_trans (gF_i _ ⟨rfl, by omega⟩) (gF_trans (gF_i _ ⟨rfl, by omega⟩) (gF_trans (gF_i _ ⟨rfl, by omega⟩) (gF_i _ ⟨rfl, by omega⟩)))
  have Ls := gF_LayN gs hL
  have h47 : mI Ms 277 47 = nI 0 := by rw [hMs]; simp [m_uI_I]; rfl
  have h48 : mI Ms 277 48 = nI ([] : List Frm).length := by rw [hMs]; simp [m_uI_I]; rfl
  have h50 : mI Ms 277 50 = nI (sumO []) := by rw [hMs]; simp [m_uI_I]; rfl
  have h51 : mI Ms 277 51 = 0 := by rw [hMs]; simp [m_uI_I]
  have Fs : FmM Ms z a := FmM_g hF gs (fun j q w => by omega)
  have Cs : CdM Ms z a a [] := ⟨Nat.le_refl _, fun j hj => by omega, by rw [Nat.sub_self]; rfl⟩
  have N1 := NwM_ps (k := kk) (F := []) Fs Cs trivial h48 h50
  have P1 := NwM_P N1 (by omega) 0
  have hps := fun Q => m_pushes (d + 3) 0 kk Ms Q Ls h47 (by omega)
  rw [h50] at hps
  have gp : gF (fun b j => (306 ≤ b ∧ b ≤ 310 ∧ j = 0) ∨ (b = 277 ∧ j = 47)) nT Ms (psM Ms 0 kk (nI (sumO []))) := gF_psM
  have Gp : gF (sFm z a) nT M (psM Ms 0 kk (nI (sumO []))) := gF_trans (gF_up gs (fun b j q => by unfold sFm; omega) (fun _ _ q => q)) (gF_up gp (fun b j q => by unfold sFm; omega) (fun _ _ q => q))
  have Rp : RdM (psM Ms 0 kk (nI (sumO []))) T n t := RdM_g (RdM_g hR gs (fun b j q w => by omega)) gp (fun b j q w => by omega)
  have hloop := l_m_reads (T := T) (n := n) d z a (b01 b) M Q hL f (t, [(kk, 0, true, 0, [])], [], false) r hrun _ a Gp ⟨Rp, P1, by
      show a + sumO [(kk, 0, true, 0, [])] + nPr [(kk, 0, true, 0, [])] ≤ tS t
      have e2 : nPr [(kk, 0, true, 0, [])] = 0 := by show 0 + (if kk = 3 ∨ kk = 4 then 1 else 0) = 0; rw [if_neg (by omega)]
      have e1 : sumO [(kk, 0, true, 0, [])] = 0 := rfl
      rw [e1, e2]; omega⟩ (by
      show mI (psM Ms 0 kk (nI (sumO []))) 277 51 = 0
      rw [gp.1 _ _ (by omega)]; exact h51) ⟨t, kk, 0, true, 0, [], [], [], false, rfl, hV, ⟨trivial, fun _ o ho => by cases ho⟩, (fun f hf => by cases hf), by decide, fun _ => ⟨rfl, fun a r h => by cases h⟩, by show 4 * 0 ≤ _; omega⟩ (by
      show tyR [(kk, 0, true, 0, [])] []
      rw [tyR_i]
      refine ⟨by omega, by omega, ?_, fun q => by omega, fun _ => ⟨rfl, fun x hx => by cases hx⟩, fun q => by omega, ⟨fun _ => rfl, fun _ => hk2⟩, [], rfl, ?_⟩
      · show ¬ md kk 0 = 2
        unfold md
        split <;> decide
      · rw [if_neg (by omega)]; rfl) hfin
  rw [eX11_reads]
  have L2 := gF_LayN gp Ls
  cases b with
  | false =>
    rw [if_neg (by decide)] at hkk
    subst hkk
    rw [show nI 0 = (0 : Int32) from rfl] at hps
    simp +decide only [qX11_reads_0, qX11_reads_1, lm hL, hR.2.1, ← hMs, lm Ls, hps, b01, am_w1_i, am_w1_r, am_w1_x, am_w1_l, am_w1_w, va_rf_s, am_push_n, am_push_s, am_cs_0, am_cs_i, am_cs_l, am_cs_r, m_uI_K, m_uI_N, m_uI_R, m_uI_L, m_uI_I, m_uL_K, m_uL_N, m_uL_R, m_uL_I, m_uL_L, m_uR_K, m_uR_N, m_uR_I, m_uR_L, m_uR_R, true_and, and_true, true_implies, false_implies, not_true_eq_false, not_false_eq_true, if_true, if_false, false_and, and_false] at hloop ⊢
    exact hloop
  | true =>
    rw [if_pos rfl] at hkk
    subst hkk
    rw [show nI 1 = (1 : Int32) from rfl] at hps
    simp +decide only [qX11_reads_0, qX11_reads_1, lm hL, hR.2.1, ← hMs, lm Ls, hps, b01, am_w1_i, am_w1_r, am_w1_x, am_w1_l, am_w1_w, va_rf_s, am_push_n, am_push_s, am_cs_0, am_cs_i, am_cs_l, am_cs_r, m_uI_K, m_uI_N, m_uI_R, m_uI_L, m_uI_I, m_uL_K, m_uL_N, m_uL_R, m_uL_I, m_uL_L, m_uR_K, m_uR_N, m_uR_I, m_uR_L, m_uR_R, true_and, and_true, true_implies, false_implies, not_true_eq_false, not_false_eq_true, if_true, if_false, false_and, and_false] at hloop ⊢
    exact hloop
theorem m_readsF (d : Nat) (x : Int32) (e : Nat × Nat) (M : am_M) (Q : Option Value → am_M → Prop) (hL : Lay M) (hR : FtM M T n e.1 e.2) : am_E am_P0 d 192 [.ref 277, .int x] M Q ↔ Q none M := by
  rw [eX11_reads]
  simp +decide only [qX11_reads_0, qX11_reads_1, lm hL, am_w1_i, am_w1_r, am_w1_x, am_w1_l, am_w1_w, va_rf_s, am_push_n, am_push_s, am_cs_0, am_cs_i, am_cs_l, am_cs_r, m_uI_K, m_uI_N, m_uI_R, m_uI_L, m_uI_I, m_uL_K, m_uL_N, m_uL_R, m_uL_I, m_uL_L, m_uR_K, m_uR_N, m_uR_I, m_uR_L, m_uR_R, true_and, and_true, true_implies, false_implies, not_true_eq_false, not_false_eq_true, if_true, if_false, false_and, and_false]
  rw [br_n (FtM_pos hR).2.2]
end
end
