/-! whole numbers as ints and longs; joining two -/
def zI (x : Int) : Int32 := Int32.ofInt x
def zL (x : Int) : Int64 := Int64.ofInt x
theorem zI_ti {x : Int} (h1 : -2147483648 ≤ x) (h2 : x < 2147483648) : (zI x).toInt = x := by
  unfold zI
  rw [Int32.toInt_ofInt]
  have e : (Int32.size : Nat) = 4294967296 := rfl
  rw [e]
  simp only [Int.bmod]
  omega
theorem zL_ti {x : Int} (h1 : -9223372036854775808 ≤ x) (h2 : x < 9223372036854775808) : (zL x).toInt = x := by
  unfold zL
  rw [Int64.toInt_ofInt]
  have e : (Int64.size : Nat) = 18446744073709551616 := rfl
  rw [e]
  simp only [Int.bmod]
  omega
theorem zI_n (n : Nat) : zI (n : Int) = nI n := Int32.ofInt_eq_ofNat
theorem zI_of (x : Int32) : zI x.toInt = x := by
  rw [← Int32.toInt_inj, zI_ti]
  · exact Int32.le_toInt x
  · have := Int32.toInt_lt x; omega
theorem zIL {x : Int} (h1 : -2147483648 ≤ x) (h2 : x < 2147483648) : (zI x).toInt64 = zL x := by
  rw [← Int64.toInt_inj, Int32.toInt_toInt64, zI_ti h1 h2, zL_ti (by omega) (by omega)]
theorem zLI {x : Int} (h1 : -2147483648 ≤ x) (h2 : x < 2147483648) : (zL x).toInt32 = zI x := by
  rw [← Int32.toInt_inj, Int64.toInt_toInt32, zI_ti h1 h2, zL_ti (by omega) (by omega)]
  simp only [Int.bmod]
  omega
theorem zL_add (a b : Int) : zL a + zL b = zL (a + b) := (Int64.ofInt_add a b).symm
theorem zL_sub (a b : Int) : zL a - zL b = zL (a - b) := (Int64.ofInt_sub a b).symm
theorem zL_mul (a b : Int) : zL a * zL b = zL (a * b) := (Int64.ofInt_mul a b).symm
theorem zI_sub (a b : Int) : zI a - zI b = zI (a - b) := (Int32.ofInt_sub a b).symm
/-- small enough -/
def sm_ (x : Int) : Prop := -1000000000000000 ≤ x ∧ x ≤ 1000000000000000
theorem zL_s {x : Int} (h : sm_ x) : (zL x).toInt = x := zL_ti (by have := h.1; omega) (by have := h.2; omega)
theorem zL_lt {a b : Int} (h1 : sm_ a) (h2 : sm_ b) : zL a < zL b ↔ a < b := by rw [Int64.lt_iff_toInt_lt, zL_s h1, zL_s h2]
theorem zL_eq {a b : Int} (h1 : sm_ a) (h2 : sm_ b) : zL a = zL b ↔ a = b := by rw [← Int64.toInt_inj, zL_s h1, zL_s h2]
theorem zL_div {a b : Int} (h1 : sm_ a) (h2 : sm_ b) : zL a / zL b = zL (a.tdiv b) :=
  (Int64.ofInt_tdiv (by have := h1.1; show (-9223372036854775808 : Int) ≤ a; omega) (by have := h1.2; show a ≤ (9223372036854775807 : Int); omega) (by have := h2.1; show (-9223372036854775808 : Int) ≤ b; omega) (by have := h2.2; show b ≤ (9223372036854775807 : Int); omega)).symm
/-- compared -/
def t3 (a b : Int) : Int32 := if a < b then -1 else if a = b then 0 else 1
theorem lgc_z {a b : Int} (h1 : sm_ a) (h2 : sm_ b) : lg_cmp (zL a) (zL b) = t3 a b := by
  unfold lg_cmp t3
  simp only [gt_iff_lt, zL_lt h2 h1, zL_eq h1 h2]
  by_cases c : b < a
  · rw [if_pos c, if_neg (by omega), if_neg (by omega)]
  · rw [if_neg c]
    by_cases c2 : a = b
    · rw [if_pos c2, if_neg (by omega), if_pos c2]
    · rw [if_neg c2, if_pos (by omega)]
theorem t3_cases (a b : Int) : (a < b ∧ t3 a b = -1) ∨ (a = b ∧ t3 a b = 0) ∨ (b < a ∧ t3 a b = 1) := by
  unfold t3
  by_cases c : a < b
  · exact Or.inl ⟨c, if_pos c⟩
  · by_cases c2 : a = b
    · exact Or.inr (Or.inl ⟨c2, by rw [if_neg c, if_pos c2]⟩)
    · exact Or.inr (Or.inr ⟨by omega, by rw [if_neg c, if_neg c2]⟩)
theorem t3_z (a b : Int) : t3 a b = 0 ↔ a = b := by
  rcases t3_cases a b with ⟨h, e⟩ | ⟨h, e⟩ | ⟨h, e⟩ <;> rw [e] <;> constructor <;> intro q <;> first | omega | (exact absurd q (by decide)) | decide
theorem t3_n (a b : Int) : t3 a b < 0 ↔ a < b := by
  rcases t3_cases a b with ⟨h, e⟩ | ⟨h, e⟩ | ⟨h, e⟩ <;> rw [e] <;> constructor <;> intro q <;> first | omega | (exact absurd q (by decide)) | decide
theorem t3_p (a b : Int) : 0 < t3 a b ↔ b < a := by
  rcases t3_cases a b with ⟨h, e⟩ | ⟨h, e⟩ | ⟨h, e⟩ <;> rw [e] <;> constructor <;> intro q <;> first | omega | (exact absurd q (by decide)) | decide
theorem t3_np (a b : Int) : t3 a b ≤ 0 ↔ a ≤ b := by
  rcases t3_cases a b with ⟨h, e⟩ | ⟨h, e⟩ | ⟨h, e⟩ <;> rw [e] <;> constructor <;> intro q <;> first | omega | (exact absurd q (by decide)) | decide
theorem t3_nn (a b : Int) : 0 ≤ t3 a b ↔ b ≤ a := by
  rcases t3_cases a b with ⟨h, e⟩ | ⟨h, e⟩ | ⟨h, e⟩ <;> rw [e] <;> constructor <;> intro q <;> first | omega | (exact absurd q (by decide)) | decide
theorem zL_xor {a b : Int} (h1 : sm_ a) (h2 : sm_ b) : zL a ^^^ zL b < 0 ↔ ¬ (a < 0 ↔ b < 0) := by
  have k : ∀ x : Int64, x < 0 ↔ x.toBitVec.msb = true := fun x => by
    rw [BitVec.msb_eq_toInt, decide_eq_true_iff, Int64.lt_iff_toInt_lt]
    exact Iff.rfl
  have ka := (k (zL a)).symm.trans (zL_lt (b := 0) h1 (by unfold sm_; omega))
  have kb := (k (zL b)).symm.trans (zL_lt (b := 0) h2 (by unfold sm_; omega))
  rw [k, Int64.toBitVec_xor, BitVec.msb_xor, ← ka, ← kb]
  cases (zL a).toBitVec.msb <;> cases (zL b).toBitVec.msb <;> simp
theorem fdiv_t {a b : Int} (hb : ¬ b = 0) : a.fdiv b = if ¬ (a < 0 ↔ b < 0) ∧ ¬ b ∣ a then a.tdiv b - 1 else a.tdiv b := by
  rw [Int.fdiv_eq_tdiv]
  by_cases hd : b ∣ a
  · rw [if_pos hd, if_neg (fun q => q.2 hd)]; omega
  · rw [if_neg hd]
    by_cases ha : 0 ≤ a
    · rw [if_pos ha]
      by_cases hb0 : 0 ≤ b
      · rw [if_pos hb0, if_neg (fun q => q.1 (by omega))]; omega
      · rw [if_neg hb0, if_pos ⟨by omega, hd⟩]
    · rw [if_neg ha]
      by_cases hb0 : 0 ≤ b
      · rw [if_pos hb0, if_pos ⟨by omega, hd⟩, Int.sign_eq_one_of_pos (by omega)]
      · rw [if_neg hb0, if_neg (fun q => q.1 (by omega)), Int.sign_eq_neg_one_of_neg (by omega)]; omega
theorem tdm {a b : Int} : a - a.tdiv b * b = a.tmod b := by
  rw [Int.tmod_def, Int.mul_comm]
theorem tdv_0 {a b : Int} : a.tmod b = 0 ↔ b ∣ a := (Int.dvd_iff_tmod_eq_zero).symm
theorem tdv_m {a b : Int} : a.tdiv b * b = a ↔ b ∣ a := by
  rw [← tdv_0, ← tdm]; omega
theorem tdv_bd {a b : Int} (h1 : -1000000 ≤ a) (h2 : a ≤ 1000000) : -1000000 ≤ a.tdiv b ∧ a.tdiv b ≤ 1000000 := by
  have h : (a.tdiv b).natAbs ≤ a.natAbs := by
    rw [Int.natAbs_tdiv]
    exact Nat.div_le_self _ _
  omega
theorem tmd_bd {a b : Int} (h1 : -1000000 ≤ a) (h2 : a ≤ 1000000) : -1000000 ≤ a.tmod b ∧ a.tmod b ≤ 1000000 := by
  have h : (a.tmod b).natAbs ≤ a.natAbs := by
    rw [Int.natAbs_tmod]
    exact Nat.mod_le _ _
  omega
/-- what two are joined to, before the bounds -/
def jx (op : Nat) (a b : Int) : Int :=
  if op = 10 then a + b else if op = 11 then a - b else if op = 12 then a * b else jn op a b
theorem c_maxL (d : Nat) (a b : Int) (M : am_M) (Q : Option Value → am_M → Prop) (h1 : sm_ a) (h2 : sm_ b) : am_E am_P0 d 308 [.long (zL a), .long (zL b)] M Q ↔ Q (some (.long (zL (max a b)))) M := by
  rw [eJ9_max_f86c9]
  simp +decide only [qJ9_max_f86c9, lgc_z h1 h2, t3_z, t3_n, t3_p, t3_np, t3_nn, am_w1_i, am_w1_r, am_w1_x, am_w1_l, am_w1_w, va_rf_s, am_push_n, am_push_s, am_cs_0, am_cs_i, am_cs_l, am_cs_r, m_uI_K, m_uI_N, m_uI_R, m_uI_L, m_uI_I, m_uL_K, m_uL_N, m_uL_R, m_uL_I, m_uL_L, m_uR_K, m_uR_N, m_uR_I, m_uR_L, m_uR_R, true_and, and_true]
  by_cases c : a < b
  · rw [br_p c, Int.max_eq_right (by omega)]
  · rw [br_n c, Int.max_eq_left (by omega)]
theorem c_minL (d : Nat) (a b : Int) (M : am_M) (Q : Option Value → am_M → Prop) (h1 : sm_ a) (h2 : sm_ b) : am_E am_P0 d 310 [.long (zL a), .long (zL b)] M Q ↔ Q (some (.long (zL (min a b)))) M := by
  rw [eJ9_min_f86c9]
  simp +decide only [qJ9_min_f86c9, lgc_z h1 h2, t3_z, t3_n, t3_p, t3_np, t3_nn, am_w1_i, am_w1_r, am_w1_x, am_w1_l, am_w1_w, va_rf_s, am_push_n, am_push_s, am_cs_0, am_cs_i, am_cs_l, am_cs_r, m_uI_K, m_uI_N, m_uI_R, m_uI_L, m_uI_I, m_uL_K, m_uL_N, m_uL_R, m_uL_I, m_uL_L, m_uR_K, m_uR_N, m_uR_I, m_uR_L, m_uR_R, true_and, and_true]
  by_cases c : b < a
  · rw [br_p c, Int.min_eq_right (by omega)]
  · rw [br_n c, Int.min_eq_left (by omega)]
theorem c_maxI (d : Nat) (a b : Int32) (M : am_M) (Q : Option Value → am_M → Prop) : am_E am_P0 d 307 [.int a, .int b] M Q ↔ Q (some (.int (if a < b then b else a))) M := by
  rw [eJ9_max_7cf53]
  simp +decide only [qJ9_max_7cf53, am_w1_i, am_w1_r, am_w1_x, am_w1_l, am_w1_w, va_rf_s, am_push_n, am_push_s, am_cs_0, am_cs_i, am_cs_l, am_cs_r, m_uI_K, m_uI_N, m_uI_R, m_uI_L, m_uI_I, m_uL_K, m_uL_N, m_uL_R, m_uL_I, m_uL_L, m_uR_K, m_uR_N, m_uR_I, m_uR_L, m_uR_R, true_and, and_true]
  by_cases c : a < b
  · rw [if_pos c, br_p c]
  · rw [if_neg c, br_n c]
theorem c_minI (d : Nat) (a b : Int32) (M : am_M) (Q : Option Value → am_M → Prop) : am_E am_P0 d 309 [.int a, .int b] M Q ↔ Q (some (.int (if b < a then b else a))) M := by
  rw [eJ9_min_7cf53]
  simp +decide only [qJ9_min_7cf53, am_w1_i, am_w1_r, am_w1_x, am_w1_l, am_w1_w, va_rf_s, am_push_n, am_push_s, am_cs_0, am_cs_i, am_cs_l, am_cs_r, m_uI_K, m_uI_N, m_uI_R, m_uI_L, m_uI_I, m_uL_K, m_uL_N, m_uL_R, m_uL_I, m_uL_L, m_uR_K, m_uR_N, m_uR_I, m_uR_L, m_uR_R, true_and, and_true]
  by_cases c : b < a
  · rw [if_pos c, br_p c]
  · rw [if_neg c, br_n c]
theorem sm_6 {a : Int} (h1 : -1000000 ≤ a) (h2 : a ≤ 1000000) : sm_ a := ⟨by omega, by omega⟩
theorem xor_c {a b : Int} (h1 : sm_ a) (h2 : sm_ b) : 0 ≤ lg_cmp (zL a ^^^ zL b) 0 ↔ (a < 0 ↔ b < 0) := by
  have h := zL_xor h1 h2
  unfold lg_cmp
  by_cases c : zL a ^^^ zL b < 0
  · have c' := Int64.lt_iff_toInt_lt.mp c
    rw [if_neg (fun q => by have := Int64.lt_iff_toInt_lt.mp q; omega), if_neg (fun q => by rw [q] at c'; omega)]
    exact ⟨fun q => absurd q (by decide), fun q => absurd q (h.mp c)⟩
  · have hq : a < 0 ↔ b < 0 := Decidable.not_not.mp (fun q => c (h.mpr q))
    refine ⟨fun _ => hq, fun _ => ?_⟩
    by_cases c1 : zL a ^^^ zL b > 0
    · rw [if_pos c1]; decide
    · rw [if_neg c1, if_pos]
      · decide
      · rw [← Int64.toInt_inj]
        rw [gt_iff_lt, Int64.lt_iff_toInt_lt] at c1
        rw [Int64.lt_iff_toInt_lt] at c
        omega
theorem mul_bd {a b : Int} (a1 : -1000000 ≤ a) (a2 : a ≤ 1000000) (b1 : -1000000 ≤ b) (b2 : b ≤ 1000000) : sm_ (a * b) := by
  have h : (a * b).natAbs ≤ 1000000 * 1000000 := by
    rw [Int.natAbs_mul]
    exact Nat.mul_le_mul (by omega) (by omega)
  unfold sm_
  omega
theorem c_floorDiv (d : Nat) (a b : Int) (M : am_M) (Q : Option Value → am_M → Prop) (a1 : -1000000 ≤ a) (a2 : a ≤ 1000000) (b1 : -1000000 ≤ b) (b2 : b ≤ 1000000) (hb : ¬ b = 0) : am_E am_P0 d 304 [.long (zL a), .long (zL b)] M Q ↔ Q (some (.long (zL (a.fdiv b)))) M := by
  have s1 := sm_6 a1 a2
  have s2 := sm_6 b1 b2
  have t := tdv_bd (b := b) a1 a2
  have hb0 : ¬ zL b = 0 := fun q => hb ((zL_eq s2 (b := 0) (by unfold sm_; omega)).mp q)
  rw [eJ9_floorDiv_f86c9]
  simp +decide only [qJ9_floorDiv_f86c9, zL_div s1 s2, zL_mul, hb0, am_w1_i, am_w1_r, am_w1_x, am_w1_l, am_w1_w, va_rf_s, am_push_n, am_push_s, am_cs_0, am_cs_i, am_cs_l, am_cs_r, m_uI_K, m_uI_N, m_uI_R, m_uI_L, m_uI_I, m_uL_K, m_uL_N, m_uL_R, m_uL_I, m_uL_L, m_uR_K, m_uR_N, m_uR_I, m_uR_L, m_uR_R, true_and, and_true, true_implies, false_implies, not_true_eq_false, not_false_eq_true, if_true, if_false, false_and, and_false, show (1 : Int64) = zL 1 from rfl, zL_sub, lgc_z (mul_bd t.1 t.2 b1 b2) s1, t3_z, t3_n, t3_p, t3_np, t3_nn, xor_c s1 s2]
  rw [fdiv_t hb]
  by_cases c : a < 0 ↔ b < 0
  · rw [br_p c, if_neg (fun q => q.1 c)]
  · rw [br_n c]
    by_cases c2 : a.tdiv b * b = a
    · rw [br_p c2, if_neg (fun q => q.2 (tdv_m.mp c2))]
    · rw [br_n c2, if_pos ⟨c, fun q => c2 (tdv_m.mpr q)⟩]
theorem c_floorMod (d : Nat) (a b : Int) (M : am_M) (Q : Option Value → am_M → Prop) (a1 : -1000000 ≤ a) (a2 : a ≤ 1000000) (b1 : -1000000 ≤ b) (b2 : b ≤ 1000000) (hb : ¬ b = 0) : am_E am_P0 d 305 [.long (zL a), .long (zL b)] M Q ↔ Q (some (.long (zL (a.fmod b)))) M := by
  have s1 := sm_6 a1 a2
  have s2 := sm_6 b1 b2
  have t := tmd_bd (b := b) a1 a2
  have hb0 : ¬ zL b = 0 := fun q => hb ((zL_eq s2 (b := 0) (by unfold sm_; omega)).mp q)
  have hf : a.fmod b = if ¬ (a < 0 ↔ b < 0) ∧ ¬ b ∣ a then a.tmod b + b else a.tmod b := by
    rw [Int.fmod_def, fdiv_t hb]
    split
    · rw [Int.mul_sub, ← tdm, Int.mul_comm b]; omega
    · rw [← tdm, Int.mul_comm b]
  have hl : lg_cmp (zL (a.tmod b)) 0 = t3 (a.tmod b) 0 := lgc_z (b := 0) (sm_6 t.1 t.2) (by unfold sm_; omega)
  rw [eJ9_floorMod_f86c9]
  simp +decide only [qJ9_floorMod_f86c9, zL_div s1 s2, zL_mul, hb0, zL_sub, tdm, zL_add, hl, t3_z, t3_n, t3_p, t3_np, t3_nn, xor_c s1 s2, am_w1_i, am_w1_r, am_w1_x, am_w1_l, am_w1_w, va_rf_s, am_push_n, am_push_s, am_cs_0, am_cs_i, am_cs_l, am_cs_r, m_uI_K, m_uI_N, m_uI_R, m_uI_L, m_uI_I, m_uL_K, m_uL_N, m_uL_R, m_uL_I, m_uL_L, m_uR_K, m_uR_N, m_uR_I, m_uR_L, m_uR_R, true_and, and_true, true_implies, false_implies, not_true_eq_false, not_false_eq_true, if_true, if_false, false_and, and_false]
  rw [hf]
  by_cases c : a < 0 ↔ b < 0
  · rw [br_p c, if_neg (fun q => q.1 c)]
  · rw [br_n c]
    by_cases c2 : a.tmod b = 0
    · rw [br_p c2, if_neg (fun q => q.2 (tdv_0.mp c2))]
    · rw [br_n c2, if_pos ⟨c, fun q => c2 (tdv_0.mpr q)⟩]
theorem jn_17 (a b : Int) : jn 17 a b = if a < b then 1 else 0 := by unfold jn; rfl
theorem jn_18 (a b : Int) : jn 18 a b = if a > b then 1 else 0 := by unfold jn; rfl
theorem jn_19 (a b : Int) : jn 19 a b = if a = b then 1 else 0 := by unfold jn; rfl
theorem jn_20' (a b : Int) : jn 20 a b = a * b := by unfold jn; rfl
theorem jn_21' (a b : Int) : jn 21 a b = if a + b > 0 then 1 else 0 := by unfold jn; rfl
theorem jx_o {op : Nat} (a b : Int) (h : 13 ≤ op) : jx op a b = jn op a b := by unfold jx; rw [if_neg (by omega), if_neg (by omega), if_neg (by omega)]
theorem lim_id {x : Int} (h1 : -1000000 ≤ x) (h2 : x ≤ 1000000) : lim x = x := by unfold lim; rw [if_neg (by omega), if_neg (by omega)]
theorem jx_lim {op : Nat} {a b : Int} (ho : 10 ≤ op) (h21 : op ≤ 21) (a1 : -1000000 ≤ a) (a2 : a ≤ 1000000) (b1 : -1000000 ≤ b) (b2 : b ≤ 1000000) (h01 : op = 20 ∨ op = 21 → (a = 0 ∨ a = 1) ∧ (b = 0 ∨ b = 1)) : lim (jx op a b) = jn op a b ∧ sm_ (jx op a b) ∧ -1000000 ≤ jn op a b ∧ jn op a b ≤ 1000000 := by
  by_cases e0 : op = 10
  · subst e0; exact ⟨by rw [jn_10]; rfl, ⟨by show _ ≤ a + b; omega, by show a + b ≤ _; omega⟩, by rw [jn_10]; exact lim_bd _⟩
  by_cases e1 : op = 11
  · subst e1; exact ⟨by rw [jn_11]; rfl, ⟨by show _ ≤ a - b; omega, by show a - b ≤ _; omega⟩, by rw [jn_11]; exact lim_bd _⟩
  by_cases e2 : op = 12
  · subst e2; exact ⟨by rw [jn_12]; rfl, mul_bd a1 a2 b1 b2, by rw [jn_12]; exact lim_bd _⟩
  rw [jx_o a b (by omega)]
  have hb : -1000000 ≤ jn op a b ∧ jn op a b ≤ 1000000 := by
    by_cases e : op ≤ 16
    · exact jn_bd (by omega) a1 a2 b1 b2
    · by_cases e' : op ≤ 19
      · rcases jn_01 (op := op) (a := a) (b := b) (by omega) with q | q <;> rw [q] <;> omega
      · by_cases e'' : op = 20
        · subst e''
          obtain ⟨q1, q2⟩ := h01 (Or.inl rfl)
          rcases jn_20 q1 q2 with q | q <;> rw [q] <;> omega
        · have : op = 21 := by omega
          subst this
          rcases jn_21 a b with q | q <;> rw [q] <;> omega
  exact ⟨lim_id hb.1 hb.2, sm_6 hb.1 hb.2, hb⟩
theorem c_x_joined (d op : Nat) (a b : Int) (M : am_M) (Q : Option Value → am_M → Prop) (ho : 10 ≤ op) (h21 : op ≤ 21) (a1 : -1000000 ≤ a) (a2 : a ≤ 1000000) (b1 : -1000000 ≤ b) (b2 : b ≤ 1000000) (h01 : op = 20 ∨ op = 21 → (a = 0 ∨ a = 1) ∧ (b = 0 ∨ b = 1)) : am_E am_P0 (d + 1) 4 [.int (zI (4 - op)), .long (zL a), .long (zL b)] M Q ↔ Q (some (.long (zL (jx op a b)))) M := by
  have s1 := sm_6 a1 a2
  have s2 := sm_6 b1 b2
  have hb0 : lg_cmp (zL b) 0 = t3 b 0 := lgc_z (b := 0) s2 (by unfold sm_; omega)
  have hd : ∀ Q, ¬ b = 0 → (am_E am_P0 d 304 [.long (zL a), .long (zL b)] M Q ↔ Q (some (.long (zL (a.fdiv b)))) M) := fun Q h => c_floorDiv d a b M Q a1 a2 b1 b2 h
  have hm : ∀ Q, ¬ b = 0 → (am_E am_P0 d 305 [.long (zL a), .long (zL b)] M Q ↔ Q (some (.long (zL (a.fmod b)))) M) := fun Q h => c_floorMod d a b M Q a1 a2 b1 b2 h
  rw [eX0_joined]
  have hop : op = 10 ∨ op = 11 ∨ op = 12 ∨ op = 13 ∨ op = 14 ∨ op = 15 ∨ op = 16 ∨ op = 17 ∨ op = 18 ∨ op = 19 ∨ op = 20 ∨ op = 21 := by omega
  rcases hop with rfl | rfl | rfl | rfl | rfl | rfl | rfl | rfl | rfl | rfl | rfl | rfl
  · have e : am_tab (-16) [152, 140, 128, 116, 110, 104, 88, 72, 68, 64, 60] 156 (zI (4 - (10 : Nat))) = 60 := by decide
    simp +decide only [qX0_joined_0, qX0_joined_1, e, zL_add, am_w1_i, am_w1_r, am_w1_x, am_w1_l, am_w1_w, va_rf_s, am_push_n, am_push_s, am_cs_0, am_cs_i, am_cs_l, am_cs_r, m_uI_K, m_uI_N, m_uI_R, m_uI_L, m_uI_I, m_uL_K, m_uL_N, m_uL_R, m_uL_I, m_uL_L, m_uR_K, m_uR_N, m_uR_I, m_uR_L, m_uR_R, true_and, and_true, true_implies, false_implies, not_true_eq_false, not_false_eq_true, if_true, if_false, false_and, and_false]
    exact Iff.rfl
  · have e : am_tab (-16) [152, 140, 128, 116, 110, 104, 88, 72, 68, 64, 60] 156 (zI (4 - (11 : Nat))) = 64 := by decide
    simp +decide only [qX0_joined_0, qX0_joined_1, e, zL_sub, am_w1_i, am_w1_r, am_w1_x, am_w1_l, am_w1_w, va_rf_s, am_push_n, am_push_s, am_cs_0, am_cs_i, am_cs_l, am_cs_r, m_uI_K, m_uI_N, m_uI_R, m_uI_L, m_uI_I, m_uL_K, m_uL_N, m_uL_R, m_uL_I, m_uL_L, m_uR_K, m_uR_N, m_uR_I, m_uR_L, m_uR_R, true_and, and_true, true_implies, false_implies, not_true_eq_false, not_false_eq_true, if_true, if_false, false_and, and_false]
    exact Iff.rfl
  · have e : am_tab (-16) [152, 140, 128, 116, 110, 104, 88, 72, 68, 64, 60] 156 (zI (4 - (12 : Nat))) = 68 := by decide
    simp +decide only [qX0_joined_0, qX0_joined_1, e, zL_mul, am_w1_i, am_w1_r, am_w1_x, am_w1_l, am_w1_w, va_rf_s, am_push_n, am_push_s, am_cs_0, am_cs_i, am_cs_l, am_cs_r, m_uI_K, m_uI_N, m_uI_R, m_uI_L, m_uI_I, m_uL_K, m_uL_N, m_uL_R, m_uL_I, m_uL_L, m_uR_K, m_uR_N, m_uR_I, m_uR_L, m_uR_R, true_and, and_true, true_implies, false_implies, not_true_eq_false, not_false_eq_true, if_true, if_false, false_and, and_false]
    exact Iff.rfl
  · have e : am_tab (-16) [152, 140, 128, 116, 110, 104, 88, 72, 68, 64, 60] 156 (zI (4 - (13 : Nat))) = 72 := by decide
    simp +decide only [qX0_joined_0, qX0_joined_1, e, hb0, t3_z, t3_n, t3_p, t3_np, t3_nn, am_w1_i, am_w1_r, am_w1_x, am_w1_l, am_w1_w, va_rf_s, am_push_n, am_push_s, am_cs_0, am_cs_i, am_cs_l, am_cs_r, m_uI_K, m_uI_N, m_uI_R, m_uI_L, m_uI_I, m_uL_K, m_uL_N, m_uL_R, m_uL_I, m_uL_L, m_uR_K, m_uR_N, m_uR_I, m_uR_L, m_uR_R, true_and, and_true, true_implies, false_implies, not_true_eq_false, not_false_eq_true, if_true, if_false, false_and, and_false]
    rw [jx_o _ _ (by omega), jn_13]
    by_cases c : b = 0
    · rw [br_r c, if_pos c]; exact Iff.rfl
    · rw [br_q c, hd _ c, if_neg c]
      simp +decide only [qX0_joined_0, qX0_joined_1, am_w1_i, am_w1_r, am_w1_x, am_w1_l, am_w1_w, va_rf_s, am_push_n, am_push_s, am_cs_0, am_cs_i, am_cs_l, am_cs_r, m_uI_K, m_uI_N, m_uI_R, m_uI_L, m_uI_I, m_uL_K, m_uL_N, m_uL_R, m_uL_I, m_uL_L, m_uR_K, m_uR_N, m_uR_I, m_uR_L, m_uR_R, true_and, and_true, true_implies, false_implies, not_true_eq_false, not_false_eq_true, if_true, if_false, false_and, and_false]
  · have e : am_tab (-16) [152, 140, 128, 116, 110, 104, 88, 72, 68, 64, 60] 156 (zI (4 - (14 : Nat))) = 88 := by decide
    simp +decide only [qX0_joined_0, qX0_joined_1, e, hb0, t3_z, t3_n, t3_p, t3_np, t3_nn, am_w1_i, am_w1_r, am_w1_x, am_w1_l, am_w1_w, va_rf_s, am_push_n, am_push_s, am_cs_0, am_cs_i, am_cs_l, am_cs_r, m_uI_K, m_uI_N, m_uI_R, m_uI_L, m_uI_I, m_uL_K, m_uL_N, m_uL_R, m_uL_I, m_uL_L, m_uR_K, m_uR_N, m_uR_I, m_uR_L, m_uR_R, true_and, and_true, true_implies, false_implies, not_true_eq_false, not_false_eq_true, if_true, if_false, false_and, and_false]
    rw [jx_o _ _ (by omega), jn_14]
    by_cases c : b = 0
    · rw [br_r c, if_pos c]; exact Iff.rfl
    · rw [br_q c, hm _ c, if_neg c]
      simp +decide only [qX0_joined_0, qX0_joined_1, am_w1_i, am_w1_r, am_w1_x, am_w1_l, am_w1_w, va_rf_s, am_push_n, am_push_s, am_cs_0, am_cs_i, am_cs_l, am_cs_r, m_uI_K, m_uI_N, m_uI_R, m_uI_L, m_uI_I, m_uL_K, m_uL_N, m_uL_R, m_uL_I, m_uL_L, m_uR_K, m_uR_N, m_uR_I, m_uR_L, m_uR_R, true_and, and_true, true_implies, false_implies, not_true_eq_false, not_false_eq_true, if_true, if_false, false_and, and_false]
  · have e : am_tab (-16) [152, 140, 128, 116, 110, 104, 88, 72, 68, 64, 60] 156 (zI (4 - (15 : Nat))) = 104 := by decide
    have e2 : min a b = if a < b then a else b := by
      by_cases c : a < b
      · rw [if_pos c]; omega
      · rw [if_neg c]; omega
    simp +decide only [qX0_joined_0, qX0_joined_1, e, c_minL d a b M _ s1 s2, am_w1_i, am_w1_r, am_w1_x, am_w1_l, am_w1_w, va_rf_s, am_push_n, am_push_s, am_cs_0, am_cs_i, am_cs_l, am_cs_r, m_uI_K, m_uI_N, m_uI_R, m_uI_L, m_uI_I, m_uL_K, m_uL_N, m_uL_R, m_uL_I, m_uL_L, m_uR_K, m_uR_N, m_uR_I, m_uR_L, m_uR_R, true_and, and_true, true_implies, false_implies, not_true_eq_false, not_false_eq_true, if_true, if_false, false_and, and_false]
    rw [jx_o _ _ (by omega), jn_15, e2]
  · have e : am_tab (-16) [152, 140, 128, 116, 110, 104, 88, 72, 68, 64, 60] 156 (zI (4 - (16 : Nat))) = 110 := by decide
    have e2 : max a b = if a > b then a else b := by
      by_cases c : a > b
      · rw [if_pos c]; omega
      · rw [if_neg c]; omega
    simp +decide only [qX0_joined_0, qX0_joined_1, e, c_maxL d a b M _ s1 s2, am_w1_i, am_w1_r, am_w1_x, am_w1_l, am_w1_w, va_rf_s, am_push_n, am_push_s, am_cs_0, am_cs_i, am_cs_l, am_cs_r, m_uI_K, m_uI_N, m_uI_R, m_uI_L, m_uI_I, m_uL_K, m_uL_N, m_uL_R, m_uL_I, m_uL_L, m_uR_K, m_uR_N, m_uR_I, m_uR_L, m_uR_R, true_and, and_true, true_implies, false_implies, not_true_eq_false, not_false_eq_true, if_true, if_false, false_and, and_false]
    rw [jx_o _ _ (by omega), jn_16, e2]
  · have e : am_tab (-16) [152, 140, 128, 116, 110, 104, 88, 72, 68, 64, 60] 156 (zI (4 - (17 : Nat))) = 116 := by decide
    simp +decide only [qX0_joined_0, qX0_joined_1, e, lgc_z s1 s2, t3_z, t3_n, t3_p, t3_np, t3_nn, am_w1_i, am_w1_r, am_w1_x, am_w1_l, am_w1_w, va_rf_s, am_push_n, am_push_s, am_cs_0, am_cs_i, am_cs_l, am_cs_r, m_uI_K, m_uI_N, m_uI_R, m_uI_L, m_uI_I, m_uL_K, m_uL_N, m_uL_R, m_uL_I, m_uL_L, m_uR_K, m_uR_N, m_uR_I, m_uR_L, m_uR_R, true_and, and_true, true_implies, false_implies, not_true_eq_false, not_false_eq_true, if_true, if_false, false_and, and_false]
    rw [jx_o _ _ (by omega), jn_17]
    by_cases c : a < b
    · rw [if_pos c, br_n (by omega)]; exact Iff.rfl
    · rw [if_neg c, br_p (by omega)]; exact Iff.rfl
  · have e : am_tab (-16) [152, 140, 128, 116, 110, 104, 88, 72, 68, 64, 60] 156 (zI (4 - (18 : Nat))) = 128 := by decide
    simp +decide only [qX0_joined_0, qX0_joined_1, e, lgc_z s1 s2, t3_z, t3_n, t3_p, t3_np, t3_nn, am_w1_i, am_w1_r, am_w1_x, am_w1_l, am_w1_w, va_rf_s, am_push_n, am_push_s, am_cs_0, am_cs_i, am_cs_l, am_cs_r, m_uI_K, m_uI_N, m_uI_R, m_uI_L, m_uI_I, m_uL_K, m_uL_N, m_uL_R, m_uL_I, m_uL_L, m_uR_K, m_uR_N, m_uR_I, m_uR_L, m_uR_R, true_and, and_true, true_implies, false_implies, not_true_eq_false, not_false_eq_true, if_true, if_false, false_and, and_false]
    rw [jx_o _ _ (by omega), jn_18]
    by_cases c : a > b
    · rw [if_pos c, br_n (by omega)]; exact Iff.rfl
    · rw [if_neg c, br_p (by omega)]; exact Iff.rfl
  · have e : am_tab (-16) [152, 140, 128, 116, 110, 104, 88, 72, 68, 64, 60] 156 (zI (4 - (19 : Nat))) = 140 := by decide
    simp +decide only [qX0_joined_0, qX0_joined_1, e, lgc_z s1 s2, t3_z, t3_n, t3_p, t3_np, t3_nn, am_w1_i, am_w1_r, am_w1_x, am_w1_l, am_w1_w, va_rf_s, am_push_n, am_push_s, am_cs_0, am_cs_i, am_cs_l, am_cs_r, m_uI_K, m_uI_N, m_uI_R, m_uI_L, m_uI_I, m_uL_K, m_uL_N, m_uL_R, m_uL_I, m_uL_L, m_uR_K, m_uR_N, m_uR_I, m_uR_L, m_uR_R, true_and, and_true, true_implies, false_implies, not_true_eq_false, not_false_eq_true, if_true, if_false, false_and, and_false]
    rw [jx_o _ _ (by omega), jn_19]
    by_cases c : a = b
    · rw [if_pos c, br_r c]; exact Iff.rfl
    · rw [if_neg c, br_q c]; exact Iff.rfl
  · have e : am_tab (-16) [152, 140, 128, 116, 110, 104, 88, 72, 68, 64, 60] 156 (zI (4 - (20 : Nat))) = 152 := by decide
    simp +decide only [qX0_joined_0, qX0_joined_1, e, am_w1_i, am_w1_r, am_w1_x, am_w1_l, am_w1_w, va_rf_s, am_push_n, am_push_s, am_cs_0, am_cs_i, am_cs_l, am_cs_r, m_uI_K, m_uI_N, m_uI_R, m_uI_L, m_uI_I, m_uL_K, m_uL_N, m_uL_R, m_uL_I, m_uL_L, m_uR_K, m_uR_N, m_uR_I, m_uR_L, m_uR_R, true_and, and_true, true_implies, false_implies, not_true_eq_false, not_false_eq_true, if_true, if_false, false_and, and_false]
    obtain ⟨q1, q2⟩ := h01 (Or.inl rfl)
    rw [jx_o _ _ (by omega), jn_20']
    rcases q1 with rfl | rfl <;> rcases q2 with rfl | rfl <;> exact Iff.rfl
  · have e : am_tab (-16) [152, 140, 128, 116, 110, 104, 88, 72, 68, 64, 60] 156 (zI (4 - (21 : Nat))) = 156 := by decide
    simp +decide only [qX0_joined_0, qX0_joined_1, e, am_w1_i, am_w1_r, am_w1_x, am_w1_l, am_w1_w, va_rf_s, am_push_n, am_push_s, am_cs_0, am_cs_i, am_cs_l, am_cs_r, m_uI_K, m_uI_N, m_uI_R, m_uI_L, m_uI_I, m_uL_K, m_uL_N, m_uL_R, m_uL_I, m_uL_L, m_uR_K, m_uR_N, m_uR_I, m_uR_L, m_uR_R, true_and, and_true, true_implies, false_implies, not_true_eq_false, not_false_eq_true, if_true, if_false, false_and, and_false]
    obtain ⟨q1, q2⟩ := h01 (Or.inr rfl)
    rw [jx_o _ _ (by omega), jn_21']
    rcases q1 with rfl | rfl <;> rcases q2 with rfl | rfl <;> exact Iff.rfl
