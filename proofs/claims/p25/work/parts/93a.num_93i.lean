/-! 93a.num 93b.val 93c.quiet 93d.gaps 93e.gaps2 93f.own 93g.begin 93h.meas 93i.ship -/
section
/-! whole numbers as ints and longs; joining two -/
def zI (x : Int) : Int32 := Int32.ofInt x
def zL (x : Int) : Int64 := Int64.ofInt x
theorem zI_ti {x : Int} (h1 : -2147483648 ≤ x) (h2 : x < 2147483648) : (zI x).toInt = x := by
  unfold zI
  rw [Int32.toInt_ofInt]
  have e : (Int32.size : Nat) = 4294967296 := rfl
  rw [e]
  simp only [Int.bmod]
  omega
theorem zL_ti {x : Int} (h1 : -9223372036854775808 ≤ x) (h2 : x < 9223372036854775808) : (zL x).toInt = x := by
  unfold zL
  rw [Int64.toInt_ofInt]
  have e : (Int64.size : Nat) = 18446744073709551616 := rfl
  rw [e]
  simp only [Int.bmod]
  omega
theorem zI_n (n : Nat) : zI (n : Int) = nI n := Int32.ofInt_eq_ofNat
theorem zI_of (x : Int32) : zI x.toInt = x := by
  rw [← Int32.toInt_inj, zI_ti]
  · exact Int32.le_toInt x
  · have := Int32.toInt_lt x; omega
theorem zIL {x : Int} (h1 : -2147483648 ≤ x) (h2 : x < 2147483648) : (zI x).toInt64 = zL x := by
  rw [← Int64.toInt_inj, Int32.toInt_toInt64, zI_ti h1 h2, zL_ti (by omega) (by omega)]
theorem zLI {x : Int} (h1 : -2147483648 ≤ x) (h2 : x < 2147483648) : (zL x).toInt32 = zI x := by
  rw [← Int32.toInt_inj, Int64.toInt_toInt32, zI_ti h1 h2, zL_ti (by omega) (by omega)]
  simp only [Int.bmod]
  omega
theorem zL_add (a b : Int) : zL a + zL b = zL (a + b) := (Int64.ofInt_add a b).symm
theorem zL_sub (a b : Int) : zL a - zL b = zL (a - b) := (Int64.ofInt_sub a b).symm
theorem zL_mul (a b : Int) : zL a * zL b = zL (a * b) := (Int64.ofInt_mul a b).symm
theorem zI_sub (a b : Int) : zI a - zI b = zI (a - b) := (Int32.ofInt_sub a b).symm
/-- small enough -/
def sm_ (x : Int) : Prop := -1000000000000000 ≤ x ∧ x ≤ 1000000000000000
theorem zL_s {x : Int} (h : sm_ x) : (zL x).toInt = x := zL_ti (by have := h.1; omega) (by have := h.2; omega)
theorem zL_lt {a b : Int} (h1 : sm_ a) (h2 : sm_ b) : zL a < zL b ↔ a < b := by rw [Int64.lt_iff_toInt_lt, zL_s h1, zL_s h2]
theorem zL_eq {a b : Int} (h1 : sm_ a) (h2 : sm_ b) : zL a = zL b ↔ a = b := by rw [← Int64.toInt_inj, zL_s h1, zL_s h2]
theorem zL_div {a b : Int} (h1 : sm_ a) (h2 : sm_ b) : zL a / zL b = zL (a.tdiv b) :=
  (Int64.ofInt_tdiv (by have := h1.1; show (-9223372036854775808 : Int) ≤ a; omega) (by have := h1.2; show a ≤ (9223372036854775807 : Int); omega) (by have := h2.1; show (-9223372036854775808 : Int) ≤ b; omega) (by have := h2.2; show b ≤ (9223372036854775807 : Int); omega)).symm
/-- compared -/
def t3 (a b : Int) : Int32 := if a < b then -1 else if a = b then 0 else 1
theorem lgc_z {a b : Int} (h1 : sm_ a) (h2 : sm_ b) : lg_cmp (zL a) (zL b) = t3 a b := by
  unfold lg_cmp t3
  simp only [gt_iff_lt, zL_lt h2 h1, zL_eq h1 h2]
  by_cases c : b < a
  · rw [if_pos c, if_neg (by omega), if_neg (by omega)]
  · rw [if_neg c]
    by_cases c2 : a = b
    · rw [if_pos c2, if_neg (by omega), if_pos c2]
    · rw [if_neg c2, if_pos (by omega)]
theorem t3_cases (a b : Int) : (a < b ∧ t3 a b = -1) ∨ (a = b ∧ t3 a b = 0) ∨ (b < a ∧ t3 a b = 1) := by
  unfold t3
  by_cases c : a < b
  · exact Or.inl ⟨c, if_pos c⟩
  · by_cases c2 : a = b
    · exact Or.inr (Or.inl ⟨c2, by rw [if_neg c, if_pos c2]⟩)
    · exact Or.inr (Or.inr ⟨by omega, by rw [if_neg c, if_neg c2]⟩)
theorem t3_z (a b : Int) : t3 a b = 0 ↔ a = b := by
  rcases t3_cases a b with ⟨h, e⟩ | ⟨h, e⟩ | ⟨h, e⟩ <;> rw [e] <;> constructor <;> intro q <;> first | omega | (exact absurd q (by decide)) | decide
theorem t3_n (a b : Int) : t3 a b < 0 ↔ a < b := by
  rcases t3_cases a b with ⟨h, e⟩ | ⟨h, e⟩ | ⟨h, e⟩ <;> rw [e] <;> constructor <;> intro q <;> first | omega | (exact absurd q (by decide)) | decide
theorem t3_p (a b : Int) : 0 < t3 a b ↔ b < a := by
  rcases t3_cases a b with ⟨h, e⟩ | ⟨h, e⟩ | ⟨h, e⟩ <;> rw [e] <;> constructor <;> intro q <;> first | omega | (exact absurd q (by decide)) | decide
theorem t3_np (a b : Int) : t3 a b ≤ 0 ↔ a ≤ b := by
  rcases t3_cases a b with ⟨h, e⟩ | ⟨h, e⟩ | ⟨h, e⟩ <;> rw [e] <;> constructor <;> intro q <;> first | omega | (exact absurd q (by decide)) | decide
theorem t3_nn (a b : Int) : 0 ≤ t3 a b ↔ b ≤ a := by
  rcases t3_cases a b with ⟨h, e⟩ | ⟨h, e⟩ | ⟨h, e⟩ <;> rw [e] <;> constructor <;> intro q <;> first | omega | (exact absurd q (by decide)) | decide
theorem zL_xor {a b : Int} (h1 : sm_ a) (h2 : sm_ b) : zL a ^^^ zL b < 0 ↔ ¬ (a < 0 ↔ b < 0) := by
  have k : ∀ x : Int64, x < 0 ↔ x.toBitVec.msb = true := fun x => by
    rw [BitVec.msb_eq_toInt, decide_eq_true_iff, Int64.lt_iff_toInt_lt]
    exact Iff.rfl
  have ka := (k (zL a)).symm.trans (zL_lt (b := 0) h1 (by unfold sm_; omega))
  have kb := (k (zL b)).symm.trans (zL_lt (b := 0) h2 (by unfold sm_; omega))
  rw [k, Int64.toBitVec_xor, BitVec.msb_xor, ← ka, ← kb]
  cases (zL a).toBitVec.msb <;> cases (zL b).toBitVec.msb <;> simp
theorem fdiv_t {a b : Int} (hb : ¬ b = 0) : a.fdiv b = if ¬ (a < 0 ↔ b < 0) ∧ ¬ b ∣ a then a.tdiv b - 1 else a.tdiv b := by
  rw [Int.fdiv_eq_tdiv]
  by_cases hd : b ∣ a
  · rw [if_pos hd, if_neg (fun q => q.2 hd)]; omega
  · rw [if_neg hd]
    by_cases ha : 0 ≤ a
    · rw [if_pos ha]
      by_cases hb0 : 0 ≤ b
      · rw [if_pos hb0, if_neg (fun q => q.1 (by omega))]; omega
      · rw [if_neg hb0, if_pos ⟨by omega, hd⟩]
    · rw [if_neg ha]
      by_cases hb0 : 0 ≤ b
      · rw [if_pos hb0, if_pos ⟨by omega, hd⟩, Int.sign_eq_one_of_pos (by omega)]
      · rw [if_neg hb0, if_neg (fun q => q.1 (by omega)), Int.sign_eq_neg_one_of_neg (by omega)]; omega
theorem tdm {a b : Int} : a - a.tdiv b * b = a.tmod b := by
  rw [Int.tmod_def, Int.mul_comm]
theorem tdv_0 {a b : Int} : a.tmod b = 0 ↔ b ∣ a := (Int.dvd_iff_tmod_eq_zero).symm
theorem tdv_m {a b : Int} : a.tdiv b * b = a ↔ b ∣ a := by
  rw [← tdv_0, ← tdm]; omega
theorem tdv_bd {a b : Int} (h1 : -1000000 ≤ a) (h2 : a ≤ 1000000) : -1000000 ≤ a.tdiv b ∧ a.tdiv b ≤ 1000000 := by
  have h : (a.tdiv b).natAbs ≤ a.natAbs := by
    rw [Int.natAbs_tdiv]
    exact Nat.div_le_self _ _
  omega
theorem tmd_bd {a b : Int} (h1 : -1000000 ≤ a) (h2 : a ≤ 1000000) : -1000000 ≤ a.tmod b ∧ a.tmod b ≤ 1000000 := by
  have h : (a.tmod b).natAbs ≤ a.natAbs := by
    rw [Int.natAbs_tmod]
    exact Nat.mod_le _ _
  omega
/-- what two are joined to, before the bounds -/
def jx (op : Nat) (a b : Int) : Int :=
  if op = 10 then a + b else if op = 11 then a - b else if op = 12 then a * b else jn op a b
theorem c_maxL (d : Nat) (a b : Int) (M : am_M) (Q : Option Value → am_M → Prop) (h1 : sm_ a) (h2 : sm_ b) : am_E am_P0 d 308 [.long (zL a), .long (zL b)] M Q ↔ Q (some (.long (zL (max a b)))) M := by
  rw [eJ9_max_f86c9]
  simp +decide only [qJ9_max_f86c9, lgc_z h1 h2, t3_z, t3_n, t3_p, t3_np, t3_nn, am_w1_i, am_w1_r, am_w1_x, am_w1_l, am_w1_w, va_rf_s, am_push_n, am_push_s, am_cs_0, am_cs_i, am_cs_l, am_cs_r, m_uI_K, m_uI_N, m_uI_R, m_uI_L, m_uI_I, m_uL_K, m_uL_N, m_uL_R, m_uL_I, m_uL_L, m_uR_K, m_uR_N, m_uR_I, m_uR_L, m_uR_R, true_and, and_true]
  by_cases c : a < b
  · rw [br_p c, Int.max_eq_right (by omega)]
  · rw [br_n c, Int.max_eq_left (by omega)]
theorem c_minL (d : Nat) (a b : Int) (M : am_M) (Q : Option Value → am_M → Prop) (h1 : sm_ a) (h2 : sm_ b) : am_E am_P0 d 310 [.long (zL a), .long (zL b)] M Q ↔ Q (some (.long (zL (min a b)))) M := by
  rw [eJ9_min_f86c9]
  simp +decide only [qJ9_min_f86c9, lgc_z h1 h2, t3_z, t3_n, t3_p, t3_np, t3_nn, am_w1_i, am_w1_r, am_w1_x, am_w1_l, am_w1_w, va_rf_s, am_push_n, am_push_s, am_cs_0, am_cs_i, am_cs_l, am_cs_r, m_uI_K, m_uI_N, m_uI_R, m_uI_L, m_uI_I, m_uL_K, m_uL_N, m_uL_R, m_uL_I, m_uL_L, m_uR_K, m_uR_N, m_uR_I, m_uR_L, m_uR_R, true_and, and_true]
  by_cases c : b < a
  · rw [br_p c, Int.min_eq_right (by omega)]
  · rw [br_n c, Int.min_eq_left (by omega)]
theorem c_maxI (d : Nat) (a b : Int32) (M : am_M) (Q : Option Value → am_M → Prop) : am_E am_P0 d 307 [.int a, .int b] M Q ↔ Q (some (.int (if a < b then b else a))) M := by
  rw [eJ9_max_7cf53]
  simp +decide only [qJ9_max_7cf53, am_w1_i, am_w1_r, am_w1_x, am_w1_l, am_w1_w, va_rf_s, am_push_n, am_push_s, am_cs_0, am_cs_i, am_cs_l, am_cs_r, m_uI_K, m_uI_N, m_uI_R, m_uI_L, m_uI_I, m_uL_K, m_uL_N, m_uL_R, m_uL_I, m_uL_L, m_uR_K, m_uR_N, m_uR_I, m_uR_L, m_uR_R, true_and, and_true]
  by_cases c : a < b
  · rw [if_pos c, br_p c]
  · rw [if_neg c, br_n c]
theorem c_minI (d : Nat) (a b : Int32) (M : am_M) (Q : Option Value → am_M → Prop) : am_E am_P0 d 309 [.int a, .int b] M Q ↔ Q (some (.int (if b < a then b else a))) M := by
  rw [eJ9_min_7cf53]
  simp +decide only [qJ9_min_7cf53, am_w1_i, am_w1_r, am_w1_x, am_w1_l, am_w1_w, va_rf_s, am_push_n, am_push_s, am_cs_0, am_cs_i, am_cs_l, am_cs_r, m_uI_K, m_uI_N, m_uI_R, m_uI_L, m_uI_I, m_uL_K, m_uL_N, m_uL_R, m_uL_I, m_uL_L, m_uR_K, m_uR_N, m_uR_I, m_uR_L, m_uR_R, true_and, and_true]
  by_cases c : b < a
  · rw [if_pos c, br_p c]
  · rw [if_neg c, br_n c]
theorem sm_6 {a : Int} (h1 : -1000000 ≤ a) (h2 : a ≤ 1000000) : sm_ a := ⟨by omega, by omega⟩
theorem xor_c {a b : Int} (h1 : sm_ a) (h2 : sm_ b) : 0 ≤ lg_cmp (zL a ^^^ zL b) 0 ↔ (a < 0 ↔ b < 0) := by
  have h := zL_xor h1 h2
  unfold lg_cmp
  by_cases c : zL a ^^^ zL b < 0
  · have c' := Int64.lt_iff_toInt_lt.mp c
    rw [if_neg (fun q => by have := Int64.lt_iff_toInt_lt.mp q; omega), if_neg (fun q => by rw [q] at c'; omega)]
    exact ⟨fun q => absurd q (by decide), fun q => absurd q (h.mp c)⟩
  · have hq : a < 0 ↔ b < 0 := Decidable.not_not.mp (fun q => c (h.mpr q))
    refine ⟨fun _ => hq, fun _ => ?_⟩
    by_cases c1 : zL a ^^^ zL b > 0
    · rw [if_pos c1]; decide
    · rw [if_neg c1, if_pos]
      · decide
      · rw [← Int64.toInt_inj]
        rw [gt_iff_lt, Int64.lt_iff_toInt_lt] at c1
        rw [Int64.lt_iff_toInt_lt] at c
        omega
theorem mul_bd {a b : Int} (a1 : -1000000 ≤ a) (a2 : a ≤ 1000000) (b1 : -1000000 ≤ b) (b2 : b ≤ 1000000) : sm_ (a * b) := by
  have h : (a * b).natAbs ≤ 1000000 * 1000000 := by
    rw [Int.natAbs_mul]
    exact Nat.mul_le_mul (by omega) (by omega)
  unfold sm_
  omega
theorem c_floorDiv (d : Nat) (a b : Int) (M : am_M) (Q : Option Value → am_M → Prop) (a1 : -1000000 ≤ a) (a2 : a ≤ 1000000) (b1 : -1000000 ≤ b) (b2 : b ≤ 1000000) (hb : ¬ b = 0) : am_E am_P0 d 304 [.long (zL a), .long (zL b)] M Q ↔ Q (some (.long (zL (a.fdiv b)))) M := by
  have s1 := sm_6 a1 a2
  have s2 := sm_6 b1 b2
  have t := tdv_bd (b := b) a1 a2
  have hb0 : ¬ zL b = 0 := fun q => hb ((zL_eq s2 (b := 0) (by unfold sm_; omega)).mp q)
  rw [eJ9_floorDiv_f86c9]
  simp +decide only [qJ9_floorDiv_f86c9, zL_div s1 s2, zL_mul, hb0, am_w1_i, am_w1_r, am_w1_x, am_w1_l, am_w1_w, va_rf_s, am_push_n, am_push_s, am_cs_0, am_cs_i, am_cs_l, am_cs_r, m_uI_K, m_uI_N, m_uI_R, m_uI_L, m_uI_I, m_uL_K, m_uL_N, m_uL_R, m_uL_I, m_uL_L, m_uR_K, m_uR_N, m_uR_I, m_uR_L, m_uR_R, true_and, and_true, true_implies, false_implies, not_true_eq_false, not_false_eq_true, if_true, if_false, false_and, and_false, show (1 : Int64) = zL 1 from rfl, zL_sub, lgc_z (mul_bd t.1 t.2 b1 b2) s1, t3_z, t3_n, t3_p, t3_np, t3_nn, xor_c s1 s2]
  rw [fdiv_t hb]
  by_cases c : a < 0 ↔ b < 0
  · rw [br_p c, if_neg (fun q => q.1 c)]
  · rw [br_n c]
    by_cases c2 : a.tdiv b * b = a
    · rw [br_p c2, if_neg (fun q => q.2 (tdv_m.mp c2))]
    · rw [br_n c2, if_pos ⟨c, fun q => c2 (tdv_m.mpr q)⟩]
theorem c_floorMod (d : Nat) (a b : Int) (M : am_M) (Q : Option Value → am_M → Prop) (a1 : -1000000 ≤ a) (a2 : a ≤ 1000000) (b1 : -1000000 ≤ b) (b2 : b ≤ 1000000) (hb : ¬ b = 0) : am_E am_P0 d 305 [.long (zL a), .long (zL b)] M Q ↔ Q (some (.long (zL (a.fmod b)))) M := by
  have s1 := sm_6 a1 a2
  have s2 := sm_6 b1 b2
  have t := tmd_bd (b := b) a1 a2
  have hb0 : ¬ zL b = 0 := fun q => hb ((zL_eq s2 (b := 0) (by unfold sm_; omega)).mp q)
  have hf : a.fmod b = if ¬ (a < 0 ↔ b < 0) ∧ ¬ b ∣ a then a.tmod b + b else a.tmod b := by
    rw [Int.fmod_def, fdiv_t hb]
    split
    · rw [Int.mul_sub, ← tdm, Int.mul_comm b]; omega
    · rw [← tdm, Int.mul_comm b]
  have hl : lg_cmp (zL (a.tmod b)) 0 = t3 (a.tmod b) 0 := lgc_z (b := 0) (sm_6 t.1 t.2) (by unfold sm_; omega)
  rw [eJ9_floorMod_f86c9]
  simp +decide only [qJ9_floorMod_f86c9, zL_div s1 s2, zL_mul, hb0, zL_sub, tdm, zL_add, hl, t3_z, t3_n, t3_p, t3_np, t3_nn, xor_c s1 s2, am_w1_i, am_w1_r, am_w1_x, am_w1_l, am_w1_w, va_rf_s, am_push_n, am_push_s, am_cs_0, am_cs_i, am_cs_l, am_cs_r, m_uI_K, m_uI_N, m_uI_R, m_uI_L, m_uI_I, m_uL_K, m_uL_N, m_uL_R, m_uL_I, m_uL_L, m_uR_K, m_uR_N, m_uR_I, m_uR_L, m_uR_R, true_and, and_true, true_implies, false_implies, not_true_eq_false, not_false_eq_true, if_true, if_false, false_and, and_false]
  rw [hf]
  by_cases c : a < 0 ↔ b < 0
  · rw [br_p c, if_neg (fun q => q.1 c)]
  · rw [br_n c]
    by_cases c2 : a.tmod b = 0
    · rw [br_p c2, if_neg (fun q => q.2 (tdv_0.mp c2))]
    · rw [br_n c2, if_pos ⟨c, fun q => c2 (tdv_0.mpr q)⟩]
theorem jn_17 (a b : Int) : jn 17 a b = if a < b then 1 else 0 := by unfold jn; rfl
theorem jn_18 (a b : Int) : jn 18 a b = if a > b then 1 else 0 := by unfold jn; rfl
theorem jn_19 (a b : Int) : jn 19 a b = if a = b then 1 else 0 := by unfold jn; rfl
theorem jn_20' (a b : Int) : jn 20 a b = a * b := by unfold jn; rfl
theorem jn_21' (a b : Int) : jn 21 a b = if a + b > 0 then 1 else 0 := by unfold jn; rfl
theorem jx_o {op : Nat} (a b : Int) (h : 13 ≤ op) : jx op a b = jn op a b := by unfold jx; rw [if_neg (by omega), if_neg (by omega), if_neg (by omega)]
theorem lim_id {x : Int} (h1 : -1000000 ≤ x) (h2 : x ≤ 1000000) : lim x = x := by unfold lim; rw [if_neg (by omega), if_neg (by omega)]
theorem jx_lim {op : Nat} {a b : Int} (ho : 10 ≤ op) (h21 : op ≤ 21) (a1 : -1000000 ≤ a) (a2 : a ≤ 1000000) (b1 : -1000000 ≤ b) (b2 : b ≤ 1000000) (h01 : op = 20 ∨ op = 21 → (a = 0 ∨ a = 1) ∧ (b = 0 ∨ b = 1)) : lim (jx op a b) = jn op a b ∧ sm_ (jx op a b) ∧ -1000000 ≤ jn op a b ∧ jn op a b ≤ 1000000 := by
  by_cases e0 : op = 10
  · subst e0; exact ⟨by rw [jn_10]; rfl, ⟨by show _ ≤ a + b; omega, by show a + b ≤ _; omega⟩, by rw [jn_10]; exact lim_bd _⟩
  by_cases e1 : op = 11
  · subst e1; exact ⟨by rw [jn_11]; rfl, ⟨by show _ ≤ a - b; omega, by show a - b ≤ _; omega⟩, by rw [jn_11]; exact lim_bd _⟩
  by_cases e2 : op = 12
  · subst e2; exact ⟨by rw [jn_12]; rfl, mul_bd a1 a2 b1 b2, by rw [jn_12]; exact lim_bd _⟩
  rw [jx_o a b (by omega)]
  have hb : -1000000 ≤ jn op a b ∧ jn op a b ≤ 1000000 := by
    by_cases e : op ≤ 16
    · exact jn_bd (by omega) a1 a2 b1 b2
    · by_cases e' : op ≤ 19
      · rcases jn_01 (op := op) (a := a) (b := b) (by omega) with q | q <;> rw [q] <;> omega
      · by_cases e'' : op = 20
        · subst e''
          obtain ⟨q1, q2⟩ := h01 (Or.inl rfl)
          rcases jn_20 q1 q2 with q | q <;> rw [q] <;> omega
        · have : op = 21 := by omega
          subst this
          rcases jn_21 a b with q | q <;> rw [q] <;> omega
  exact ⟨lim_id hb.1 hb.2, sm_6 hb.1 hb.2, hb⟩
theorem c_x_joined (d op : Nat) (a b : Int) (M : am_M) (Q : Option Value → am_M → Prop) (ho : 10 ≤ op) (h21 : op ≤ 21) (a1 : -1000000 ≤ a) (a2 : a ≤ 1000000) (b1 : -1000000 ≤ b) (b2 : b ≤ 1000000) (h01 : op = 20 ∨ op = 21 → (a = 0 ∨ a = 1) ∧ (b = 0 ∨ b = 1)) : am_E am_P0 (d + 1) 4 [.int (zI (4 - op)), .long (zL a), .long (zL b)] M Q ↔ Q (some (.long (zL (jx op a b)))) M := by
  have s1 := sm_6 a1 a2
  have s2 := sm_6 b1 b2
  have hb0 : lg_cmp (zL b) 0 = t3 b 0 := lgc_z (b := 0) s2 (by unfold sm_; omega)
  have hd : ∀ Q, ¬ b = 0 → (am_E am_P0 d 304 [.long (zL a), .long (zL b)] M Q ↔ Q (some (.long (zL (a.fdiv b)))) M) := fun Q h => c_floorDiv d a b M Q a1 a2 b1 b2 h
  have hm : ∀ Q, ¬ b = 0 → (am_E am_P0 d 305 [.long (zL a), .long (zL b)] M Q ↔ Q (some (.long (zL (a.fmod b)))) M) := fun Q h => c_floorMod d a b M Q a1 a2 b1 b2 h
  rw [eX0_joined]
  have hop : op = 10 ∨ op = 11 ∨ op = 12 ∨ op = 13 ∨ op = 14 ∨ op = 15 ∨ op = 16 ∨ op = 17 ∨ op = 18 ∨ op = 19 ∨ op = 20 ∨ op = 21 := by omega
  rcases hop with rfl | rfl | rfl | rfl | rfl | rfl | rfl | rfl | rfl | rfl | rfl | rfl
  · have e : am_tab (-16) [152, 140, 128, 116, 110, 104, 88, 72, 68, 64, 60] 156 (zI (4 - (10 : Nat))) = 60 := by decide
    simp +decide only [qX0_joined_0, qX0_joined_1, e, zL_add, am_w1_i, am_w1_r, am_w1_x, am_w1_l, am_w1_w, va_rf_s, am_push_n, am_push_s, am_cs_0, am_cs_i, am_cs_l, am_cs_r, m_uI_K, m_uI_N, m_uI_R, m_uI_L, m_uI_I, m_uL_K, m_uL_N, m_uL_R, m_uL_I, m_uL_L, m_uR_K, m_uR_N, m_uR_I, m_uR_L, m_uR_R, true_and, and_true, true_implies, false_implies, not_true_eq_false, not_false_eq_true, if_true, if_false, false_and, and_false]
    exact Iff.rfl
  · have e : am_tab (-16) [152, 140, 128, 116, 110, 104, 88, 72, 68, 64, 60] 156 (zI (4 - (11 : Nat))) = 64 := by decide
    simp +decide only [qX0_joined_0, qX0_joined_1, e, zL_sub, am_w1_i, am_w1_r, am_w1_x, am_w1_l, am_w1_w, va_rf_s, am_push_n, am_push_s, am_cs_0, am_cs_i, am_cs_l, am_cs_r, m_uI_K, m_uI_N, m_uI_R, m_uI_L, m_uI_I, m_uL_K, m_uL_N, m_uL_R, m_uL_I, m_uL_L, m_uR_K, m_uR_N, m_uR_I, m_uR_L, m_uR_R, true_and, and_true, true_implies, false_implies, not_true_eq_false, not_false_eq_true, if_true, if_false, false_and, and_false]
    exact Iff.rfl
  · have e : am_tab (-16) [152, 140, 128, 116, 110, 104, 88, 72, 68, 64, 60] 156 (zI (4 - (12 : Nat))) = 68 := by decide
    simp +decide only [qX0_joined_0, qX0_joined_1, e, zL_mul, am_w1_i, am_w1_r, am_w1_x, am_w1_l, am_w1_w, va_rf_s, am_push_n, am_push_s, am_cs_0, am_cs_i, am_cs_l, am_cs_r, m_uI_K, m_uI_N, m_uI_R, m_uI_L, m_uI_I, m_uL_K, m_uL_N, m_uL_R, m_uL_I, m_uL_L, m_uR_K, m_uR_N, m_uR_I, m_uR_L, m_uR_R, true_and, and_true, true_implies, false_implies, not_true_eq_false, not_false_eq_true, if_true, if_false, false_and, and_false]
    exact Iff.rfl
  · have e : am_tab (-16) [152, 140, 128, 116, 110, 104, 88, 72, 68, 64, 60] 156 (zI (4 - (13 : Nat))) = 72 := by decide
    simp +decide only [qX0_joined_0, qX0_joined_1, e, hb0, t3_z, t3_n, t3_p, t3_np, t3_nn, am_w1_i, am_w1_r, am_w1_x, am_w1_l, am_w1_w, va_rf_s, am_push_n, am_push_s, am_cs_0, am_cs_i, am_cs_l, am_cs_r, m_uI_K, m_uI_N, m_uI_R, m_uI_L, m_uI_I, m_uL_K, m_uL_N, m_uL_R, m_uL_I, m_uL_L, m_uR_K, m_uR_N, m_uR_I, m_uR_L, m_uR_R, true_and, and_true, true_implies, false_implies, not_true_eq_false, not_false_eq_true, if_true, if_false, false_and, and_false]
    rw [jx_o _ _ (by omega), jn_13]
    by_cases c : b = 0
    · rw [br_r c, if_pos c]; exact Iff.rfl
    · rw [br_q c, hd _ c, if_neg c]
      simp +decide only [qX0_joined_0, qX0_joined_1, am_w1_i, am_w1_r, am_w1_x, am_w1_l, am_w1_w, va_rf_s, am_push_n, am_push_s, am_cs_0, am_cs_i, am_cs_l, am_cs_r, m_uI_K, m_uI_N, m_uI_R, m_uI_L, m_uI_I, m_uL_K, m_uL_N, m_uL_R, m_uL_I, m_uL_L, m_uR_K, m_uR_N, m_uR_I, m_uR_L, m_uR_R, true_and, and_true, true_implies, false_implies, not_true_eq_false, not_false_eq_true, if_true, if_false, false_and, and_false]
  · have e : am_tab (-16) [152, 140, 128, 116, 110, 104, 88, 72, 68, 64, 60] 156 (zI (4 - (14 : Nat))) = 88 := by decide
    simp +decide only [qX0_joined_0, qX0_joined_1, e, hb0, t3_z, t3_n, t3_p, t3_np, t3_nn, am_w1_i, am_w1_r, am_w1_x, am_w1_l, am_w1_w, va_rf_s, am_push_n, am_push_s, am_cs_0, am_cs_i, am_cs_l, am_cs_r, m_uI_K, m_uI_N, m_uI_R, m_uI_L, m_uI_I, m_uL_K, m_uL_N, m_uL_R, m_uL_I, m_uL_L, m_uR_K, m_uR_N, m_uR_I, m_uR_L, m_uR_R, true_and, and_true, true_implies, false_implies, not_true_eq_false, not_false_eq_true, if_true, if_false, false_and, and_false]
    rw [jx_o _ _ (by omega), jn_14]
    by_cases c : b = 0
    · rw [br_r c, if_pos c]; exact Iff.rfl
    · rw [br_q c, hm _ c, if_neg c]
      simp +decide only [qX0_joined_0, qX0_joined_1, am_w1_i, am_w1_r, am_w1_x, am_w1_l, am_w1_w, va_rf_s, am_push_n, am_push_s, am_cs_0, am_cs_i, am_cs_l, am_cs_r, m_uI_K, m_uI_N, m_uI_R, m_uI_L, m_uI_I, m_uL_K, m_uL_N, m_uL_R, m_uL_I, m_uL_L, m_uR_K, m_uR_N, m_uR_I, m_uR_L, m_uR_R, true_and, and_true, true_implies, false_implies, not_true_eq_false, not_false_eq_true, if_true, if_false, false_and, and_false]
  · have e : am_tab (-16) [152, 140, 128, 116, 110, 104, 88, 72, 68, 64, 60] 156 (zI (4 - (15 : Nat))) = 104 := by decide
    have e2 : min a b = if a < b then a else b := by
      by_cases c : a < b
      · rw [if_pos c]; omega
      · rw [if_neg c]; omega
    simp +decide only [qX0_joined_0, qX0_joined_1, e, c_minL d a b M _ s1 s2, am_w1_i, am_w1_r, am_w1_x, am_w1_l, am_w1_w, va_rf_s, am_push_n, am_push_s, am_cs_0, am_cs_i, am_cs_l, am_cs_r, m_uI_K, m_uI_N, m_uI_R, m_uI_L, m_uI_I, m_uL_K, m_uL_N, m_uL_R, m_uL_I, m_uL_L, m_uR_K, m_uR_N, m_uR_I, m_uR_L, m_uR_R, true_and, and_true, true_implies, false_implies, not_true_eq_false, not_false_eq_true, if_true, if_false, false_and, and_false]
    rw [jx_o _ _ (by omega), jn_15, e2]
  · have e : am_tab (-16) [152, 140, 128, 116, 110, 104, 88, 72, 68, 64, 60] 156 (zI (4 - (16 : Nat))) = 110 := by decide
    have e2 : max a b = if a > b then a else b := by
      by_cases c : a > b
      · rw [if_pos c]; omega
      · rw [if_neg c]; omega
    simp +decide only [qX0_joined_0, qX0_joined_1, e, c_maxL d a b M _ s1 s2, am_w1_i, am_w1_r, am_w1_x, am_w1_l, am_w1_w, va_rf_s, am_push_n, am_push_s, am_cs_0, am_cs_i, am_cs_l, am_cs_r, m_uI_K, m_uI_N, m_uI_R, m_uI_L, m_uI_I, m_uL_K, m_uL_N, m_uL_R, m_uL_I, m_uL_L, m_uR_K, m_uR_N, m_uR_I, m_uR_L, m_uR_R, true_and, and_true, true_implies, false_implies, not_true_eq_false, not_false_eq_true, if_true, if_false, false_and, and_false]
    rw [jx_o _ _ (by omega), jn_16, e2]
  · have e : am_tab (-16) [152, 140, 128, 116, 110, 104, 88, 72, 68, 64, 60] 156 (zI (4 - (17 : Nat))) = 116 := by decide
    simp +decide only [qX0_joined_0, qX0_joined_1, e, lgc_z s1 s2, t3_z, t3_n, t3_p, t3_np, t3_nn, am_w1_i, am_w1_r, am_w1_x, am_w1_l, am_w1_w, va_rf_s, am_push_n, am_push_s, am_cs_0, am_cs_i, am_cs_l, am_cs_r, m_uI_K, m_uI_N, m_uI_R, m_uI_L, m_uI_I, m_uL_K, m_uL_N, m_uL_R, m_uL_I, m_uL_L, m_uR_K, m_uR_N, m_uR_I, m_uR_L, m_uR_R, true_and, and_true, true_implies, false_implies, not_true_eq_false, not_false_eq_true, if_true, if_false, false_and, and_false]
    rw [jx_o _ _ (by omega), jn_17]
    by_cases c : a < b
    · rw [if_pos c, br_n (by omega)]; exact Iff.rfl
    · rw [if_neg c, br_p (by omega)]; exact Iff.rfl
  · have e : am_tab (-16) [152, 140, 128, 116, 110, 104, 88, 72, 68, 64, 60] 156 (zI (4 - (18 : Nat))) = 128 := by decide
    simp +decide only [qX0_joined_0, qX0_joined_1, e, lgc_z s1 s2, t3_z, t3_n, t3_p, t3_np, t3_nn, am_w1_i, am_w1_r, am_w1_x, am_w1_l, am_w1_w, va_rf_s, am_push_n, am_push_s, am_cs_0, am_cs_i, am_cs_l, am_cs_r, m_uI_K, m_uI_N, m_uI_R, m_uI_L, m_uI_I, m_uL_K, m_uL_N, m_uL_R, m_uL_I, m_uL_L, m_uR_K, m_uR_N, m_uR_I, m_uR_L, m_uR_R, true_and, and_true, true_implies, false_implies, not_true_eq_false, not_false_eq_true, if_true, if_false, false_and, and_false]
    rw [jx_o _ _ (by omega), jn_18]
    by_cases c : a > b
    · rw [if_pos c, br_n (by omega)]; exact Iff.rfl
    · rw [if_neg c, br_p (by omega)]; exact Iff.rfl
  · have e : am_tab (-16) [152, 140, 128, 116, 110, 104, 88, 72, 68, 64, 60] 156 (zI (4 - (19 : Nat))) = 140 := by decide
    simp +decide only [qX0_joined_0, qX0_joined_1, e, lgc_z s1 s2, t3_z, t3_n, t3_p, t3_np, t3_nn, am_w1_i, am_w1_r, am_w1_x, am_w1_l, am_w1_w, va_rf_s, am_push_n, am_push_s, am_cs_0, am_cs_i, am_cs_l, am_cs_r, m_uI_K, m_uI_N, m_uI_R, m_uI_L, m_uI_I, m_uL_K, m_uL_N, m_uL_R, m_uL_I, m_uL_L, m_uR_K, m_uR_N, m_uR_I, m_uR_L, m_uR_R, true_and, and_true, true_implies, false_implies, not_true_eq_false, not_false_eq_true, if_true, if_false, false_and, and_false]
    rw [jx_o _ _ (by omega), jn_19]
    by_cases c : a = b
    · rw [if_pos c, br_r c]; exact Iff.rfl
    · rw [if_neg c, br_q c]; exact Iff.rfl
  · have e : am_tab (-16) [152, 140, 128, 116, 110, 104, 88, 72, 68, 64, 60] 156 (zI (4 - (20 : Nat))) = 152 := by decide
    simp +decide only [qX0_joined_0, qX0_joined_1, e, am_w1_i, am_w1_r, am_w1_x, am_w1_l, am_w1_w, va_rf_s, am_push_n, am_push_s, am_cs_0, am_cs_i, am_cs_l, am_cs_r, m_uI_K, m_uI_N, m_uI_R, m_uI_L, m_uI_I, m_uL_K, m_uL_N, m_uL_R, m_uL_I, m_uL_L, m_uR_K, m_uR_N, m_uR_I, m_uR_L, m_uR_R, true_and, and_true, true_implies, false_implies, not_true_eq_false, not_false_eq_true, if_true, if_false, false_and, and_false]
    obtain ⟨q1, q2⟩ := h01 (Or.inl rfl)
    rw [jx_o _ _ (by omega), jn_20']
    rcases q1 with rfl | rfl <;> rcases q2 with rfl | rfl <;> exact Iff.rfl
  · have e : am_tab (-16) [152, 140, 128, 116, 110, 104, 88, 72, 68, 64, 60] 156 (zI (4 - (21 : Nat))) = 156 := by decide
    simp +decide only [qX0_joined_0, qX0_joined_1, e, am_w1_i, am_w1_r, am_w1_x, am_w1_l, am_w1_w, va_rf_s, am_push_n, am_push_s, am_cs_0, am_cs_i, am_cs_l, am_cs_r, m_uI_K, m_uI_N, m_uI_R, m_uI_L, m_uI_I, m_uL_K, m_uL_N, m_uL_R, m_uL_I, m_uL_L, m_uR_K, m_uR_N, m_uR_I, m_uR_L, m_uR_R, true_and, and_true, true_implies, false_implies, not_true_eq_false, not_false_eq_true, if_true, if_false, false_and, and_false]
    obtain ⟨q1, q2⟩ := h01 (Or.inr rfl)
    rw [jx_o _ _ (by omega), jn_21']
    rcases q1 with rfl | rfl <;> rcases q2 with rfl | rfl <;> exact Iff.rfl
end
section
/-! the class: sums and tests worked out -/
def inX (x : Int32) : Nat × Int := if 0 ≤ x.toInt then (0, x.toInt) else if -4 ≤ x.toInt then ((-x.toInt).toNat, 0) else if x.toInt = -5 then (22, 0) else if -17 ≤ x.toInt then ((4 - x.toInt).toNat, 0) else (99, 0)
theorem inX_leaf {x : Int32} (h : (inX x).1 < 10) : -4 ≤ x.toInt := by
  unfold inX at h
  split at h
  · omega
  · split at h
    · omega
    · split at h
      · dsimp only at h; omega
      · split at h
        · dsimp only at h; omega
        · dsimp only at h; omega
theorem inX_not {x : Int32} (h : (inX x).1 = 22) : x.toInt = -5 := by
  unfold inX at h
  split at h
  · dsimp only at h; omega
  · split at h
    · dsimp only at h; omega
    · split at h
      · assumption
      · split at h <;> dsimp only at h <;> omega
theorem inX_op {x : Int32} (h : 10 ≤ (inX x).1) (h2 : (inX x).1 ≤ 21) : x = zI (4 - (inX x).1) ∧ x.toInt < -5 := by
  have k : x.toInt = 4 - ((inX x).1 : Int) ∧ x.toInt < -5 := by
    unfold inX at h h2 ⊢
    split at h
    · dsimp only at h; omega
    · rename_i a1
      rw [if_neg a1] at h2 ⊢
      split at h
      · dsimp only at h; omega
      · rename_i a2
        rw [if_neg a2] at h2 ⊢
        split at h
        · rename_i a3
          rw [if_pos a3] at h2
          dsimp only at h2; omega
        · rename_i a3
          rw [if_neg a3] at h2 ⊢
          split at h
          · rename_i a4
            rw [if_pos a4] at h2 ⊢
            dsimp only at h2 ⊢
            omega
          · rename_i a4
            rw [if_neg a4] at h2
            dsimp only at h2; omega
  exact ⟨by rw [← k.1, zI_of], k.2⟩
theorem ni_sub1 (n : Nat) : nI (n + 1) - 1 = nI n := by rw [show (1 : Int32) = nI 1 from rfl, ni_sub (by omega)]; rfl
theorem ni_dec (n : Nat) : nI (n + 1) + -1 = nI n := by rw [← ni_sub1 n, Int32.sub_eq_add_neg]
theorem c_x_partOf (d p h dp : Nat) (x : Int32) (M : am_M) (Q : Option Value → am_M → Prop) (hx : -4 ≤ x.toInt) (hp : p < 256) : am_E am_P0 d 3 [.int x, .int (nI p), .int (nI h), .int (nI dp)] M Q ↔ Q (some (.int (zI (ldD (inX x) (p % 16, p / 16, h, dp))))) M := by
  rw [eX0_partOf]
  have e1 : nI p / 16 = nI (p / 16) := ni_div (b := 16) (by omega) (by omega)
  have e2 : nI p - nI (p / 16) * 16 = nI (p % 16) := by
    have := ni_rem (a := p) (b := 16) (by omega) (by omega)
    rw [ni_div (by omega) (by omega)] at this
    exact this
  by_cases h0 : 0 ≤ x.toInt
  · have e : am_tab (-4) [44, 42, 37, 32] 46 x = 46 := am_tab_out (Or.inr (by show -4 + (4 : Int) ≤ _; omega))
    have ei : inX x = (0, x.toInt) := by unfold inX; rw [if_pos h0]
    have el : ldD (inX x) (p % 16, p / 16, h, dp) = x.toInt := by rw [ei]; rfl
    rw [el, zI_of]
    simp +decide only [qX0_partOf, e, am_w1_i, am_w1_r, am_w1_x, am_w1_l, am_w1_w, va_rf_s, am_push_n, am_push_s, am_cs_0, am_cs_i, am_cs_l, am_cs_r, m_uI_K, m_uI_N, m_uI_R, m_uI_L, m_uI_I, m_uL_K, m_uL_N, m_uL_R, m_uL_I, m_uL_L, m_uR_K, m_uR_N, m_uR_I, m_uR_L, m_uR_R, true_and, and_true, true_implies, false_implies, not_true_eq_false, not_false_eq_true, if_true, if_false, false_and, and_false]
  · have hc : x.toInt = -1 ∨ x.toInt = -2 ∨ x.toInt = -3 ∨ x.toInt = -4 := by omega
    have key : x = -1 ∨ x = -2 ∨ x = -3 ∨ x = -4 := by
      rcases hc with q | q | q | q
      · exact Or.inl (Int32.toInt_inj.mp (q.trans rfl))
      · exact Or.inr (Or.inl (Int32.toInt_inj.mp (q.trans rfl)))
      · exact Or.inr (Or.inr (Or.inl (Int32.toInt_inj.mp (q.trans rfl))))
      · exact Or.inr (Or.inr (Or.inr (Int32.toInt_inj.mp (q.trans rfl))))
    rcases key with rfl | rfl | rfl | rfl
    · have e : am_tab (-4) [44, 42, 37, 32] 46 (-1) = 32 := by decide
      have el : ldD (inX (-1)) (p % 16, p / 16, h, dp) = ((p % 16 : Nat) : Int) := rfl
      rw [el, zI_n]
      simp +decide only [qX0_partOf, e, e1, e2, am_w1_i, am_w1_r, am_w1_x, am_w1_l, am_w1_w, va_rf_s, am_push_n, am_push_s, am_cs_0, am_cs_i, am_cs_l, am_cs_r, m_uI_K, m_uI_N, m_uI_R, m_uI_L, m_uI_I, m_uL_K, m_uL_N, m_uL_R, m_uL_I, m_uL_L, m_uR_K, m_uR_N, m_uR_I, m_uR_L, m_uR_R, true_and, and_true, true_implies, false_implies, not_true_eq_false, not_false_eq_true, if_true, if_false, false_and, and_false]
    · have e : am_tab (-4) [44, 42, 37, 32] 46 (-2) = 37 := by decide
      have el : ldD (inX (-2)) (p % 16, p / 16, h, dp) = ((p / 16 : Nat) : Int) := rfl
      rw [el, zI_n]
      simp +decide only [qX0_partOf, e, e1, e2, am_w1_i, am_w1_r, am_w1_x, am_w1_l, am_w1_w, va_rf_s, am_push_n, am_push_s, am_cs_0, am_cs_i, am_cs_l, am_cs_r, m_uI_K, m_uI_N, m_uI_R, m_uI_L, m_uI_I, m_uL_K, m_uL_N, m_uL_R, m_uL_I, m_uL_L, m_uR_K, m_uR_N, m_uR_I, m_uR_L, m_uR_R, true_and, and_true, true_implies, false_implies, not_true_eq_false, not_false_eq_true, if_true, if_false, false_and, and_false]
    · have e : am_tab (-4) [44, 42, 37, 32] 46 (-3) = 42 := by decide
      have el : ldD (inX (-3)) (p % 16, p / 16, h, dp) = (h : Int) := rfl
      rw [el, zI_n]
      simp +decide only [qX0_partOf, e, am_w1_i, am_w1_r, am_w1_x, am_w1_l, am_w1_w, va_rf_s, am_push_n, am_push_s, am_cs_0, am_cs_i, am_cs_l, am_cs_r, m_uI_K, m_uI_N, m_uI_R, m_uI_L, m_uI_I, m_uL_K, m_uL_N, m_uL_R, m_uL_I, m_uL_L, m_uR_K, m_uR_N, m_uR_I, m_uR_L, m_uR_R, true_and, and_true, true_implies, false_implies, not_true_eq_false, not_false_eq_true, if_true, if_false, false_and, and_false]
    · have e : am_tab (-4) [44, 42, 37, 32] 46 (-4) = 44 := by decide
      have el : ldD (inX (-4)) (p % 16, p / 16, h, dp) = (dp : Int) := rfl
      rw [el, zI_n]
      simp +decide only [qX0_partOf, e, am_w1_i, am_w1_r, am_w1_x, am_w1_l, am_w1_w, va_rf_s, am_push_n, am_push_s, am_cs_0, am_cs_i, am_cs_l, am_cs_r, m_uI_K, m_uI_N, m_uI_R, m_uI_L, m_uI_I, m_uL_K, m_uL_N, m_uL_R, m_uL_I, m_uL_L, m_uR_K, m_uR_N, m_uR_I, m_uR_L, m_uR_R, true_and, and_true, true_implies, false_implies, not_true_eq_false, not_false_eq_true, if_true, if_false, false_and, and_false]
/-- the heap of numbers -/
def PlX (M : am_M) (a : Nat) (e : Env) : List Den → Prop
  | [] => True
  | v :: r => mI M a r.length = zI (v e) ∧ PlX M a e r
theorem PlX_u {M M' : am_M} {a : Nat} {e : Env} : ∀ vs : List Den, (∀ j, j < vs.length → mI M' a j = mI M a j) → PlX M a e vs → PlX M' a e vs := by
  intro vs
  induction vs with
  | nil => intro _ _; trivial
  | cons v r ih =>
    intro h h1
    rw [List.length_cons] at h
    exact ⟨by rw [h _ (by omega)]; exact h1.1, ih (fun j hj => h j (by omega)) h1.2⟩
def insX (M : am_M) (z k : Nat) : Nat × Int := inX (mI M (z + 7) k)
def sPl (z a _j : Nat) : Prop := a = z + 8
theorem lim_mm (x : Int) : max (-1000000) (min 1000000 x) = lim x := by
  unfold lim
  by_cases h1 : 1000000 < x
  · rw [if_pos h1]; omega
  · rw [if_neg h1]
    by_cases h2 : x < -1000000
    · rw [if_pos h2]; omega
    · rw [if_neg h2]; omega
theorem l_x_value (d z a m p h dp : Nat) (v : Den) (M0 : am_M) (Q : Option Value → am_M → Prop) (x1 : Int32) (hL : Lay M0) (hz : z = 2 ∨ z = 83) (ham : a + m ≤ 1800) (hp : p < 256) (hh : h ≤ 1000) (hdp : dp ≤ 1000) (hw : wfD 64 (insX M0 z) a m) (hc : cdD (insX M0 z) a m = [v])
    (hQ : ∀ M', oS (sPl z) M0 M' → Q (some (.int (zI (v (p % 16, p / 16, h, dp))))) M') :
    ∀ (r j : Nat), j + r = m → ∀ (M : am_M) (v8 v9 v10 : Value), oS (sPl z) M0 M → PlX M (z + 8) (p % 16, p / 16, h, dp) (cdD (insX M0 z) a j) → am_P am_P0 (d + 2) (am_look tX0_valueOf) 6 [.ref (z + 6), .int x1, .int (nI (a + m)), .int (nI p), .int (nI h), .int (nI dp), .int (nI (cdD (insX M0 z) a j).length), .int (nI (a + j)), v8, v9, v10] [] M Q := by
  obtain ⟨e, hee⟩ : ∃ e : Env, e = (p % 16, p / 16, h, dp) := ⟨_, rfl⟩
  have heok : eOK e := by rw [hee]; exact ⟨by show p % 16 ≤ 1000; omega, by show p / 16 ≤ 1000; omega, hh, hdp⟩
  intro r
  induction r with
  | zero =>
    intro j hj M v8 v9 v10 hM hP
    have ej : j = m := by omega
    subst ej
    have hLM := oS_Lay hM hL
    have h0 := hQ M hM
    rw [hc] at hP ⊢
    have hP1 : mI M (z + 8) 0 = zI (v (p % 16, p / 16, h, dp)) := hP.1
    have hle : nI (a + j) ≤ nI (a + j) := (ni_le (by omega) (by omega)).mpr (Nat.le_refl _)
    have e1 : nI ([v] : List Den).length = 1 := rfl
    have e2 : (1 : Int32) - 1 = nI 0 := rfl
    rw [hX0_valueOf_6]
    simp +decide (disch := omega) only [qX0_valueOf_0, qX0_valueOf_1, qX0_valueOf_2, lz hLM hz, e1, e2, hP1, ni_in_t, ni_tn, am_w1_i, am_w1_r, am_w1_x, am_w1_l, am_w1_w, va_rf_s, am_push_n, am_push_s, am_cs_0, am_cs_i, am_cs_l, am_cs_r, m_uI_K, m_uI_N, m_uI_R, m_uI_L, m_uI_I, m_uL_K, m_uL_N, m_uL_R, m_uL_I, m_uL_L, m_uR_K, m_uR_N, m_uR_I, m_uR_L, m_uR_R, true_and, and_true, true_implies, false_implies, not_true_eq_false, not_false_eq_true, if_true, if_false, false_and, and_false]
    rw [br_p hle]
    exact h0
  | succ r ih =>
    intro j hj M v8 v9 v10 hM hP
    have hLM := oS_Lay hM hL
    have hlt : ¬ nI (a + m) ≤ nI (a + j) := by rw [ni_le (by omega) (by omega)]; omega
    have hok := hw j (by omega)
    have hlen := cdD_len (lm := 64) (ins := insX M0 z) (a := a) (m := j) (fun i hi => hw i (by omega))
    have hst : cdD (insX M0 z) a (j + 1) = stD (insX M0 z (a + j)) (cdD (insX M0 z) a j) := rfl
    have hx : mI M (z + 7) (a + j) = mI M0 (z + 7) (a + j) := hM.1 _ _ (by unfold sPl; omega)
    obtain ⟨x, hxe⟩ : ∃ x, x = mI M0 (z + 7) (a + j) := ⟨_, rfl⟩
    have hin : insX M0 z (a + j) = inX x := by rw [hxe]; rfl
    rw [hin] at hok hst
    rw [← hxe] at hx
    have hIH := ih (j + 1) (by omega)
    rw [hst] at hIH
    obtain ⟨vs, hvs⟩ : ∃ vs, vs = cdD (insX M0 z) a j := ⟨_, rfl⟩
    rw [← hvs] at hP hlen hok hIH ⊢
    have mk : ∀ (M' : am_M), (∀ a' j', ¬ a' = z + 8 → mI M' a' j' = mI M a' j') → (∀ a' j', mL M' a' j' = mL M a' j') → (∀ a' j', mR M' a' j' = mR M a' j') → mS M' = mS M → oS (sPl z) M0 M' := fun M' q1 q2 q3 q4 => oS_trans hM ⟨fun a' j' q => q1 a' j' q, q2, q3, q4⟩
    by_cases c1 : (inX x).1 < 10
    · have hxl := inX_leaf c1
      have hn : ¬ x < -4 := by rw [lt32]; show ¬ x.toInt < -4; omega
      have hvl := (hok.1 c1).1
      have ht : nI vs.length < 64 := by rw [show (64 : Int32) = nI 64 from rfl, ni_lt (by omega) (by omega)]; exact hvl
      have hpt := fun Q => c_x_partOf (d + 1) p h dp x M Q hxl hp
      have est : stD (inX x) vs = ldD (inX x) :: vs := if_pos c1
      rw [est] at hIH
      rw [hX0_valueOf_6]
      simp +decide (disch := omega) only [qX0_valueOf_0, qX0_valueOf_1, qX0_valueOf_2, lz hLM hz, hx, hpt, ni_in_t, ni_tn, ni_add1, am_w1_i, am_w1_r, am_w1_x, am_w1_l, am_w1_w, va_rf_s, am_push_n, am_push_s, am_cs_0, am_cs_i, am_cs_l, am_cs_r, m_uI_K, m_uI_N, m_uI_R, m_uI_L, m_uI_I, m_uL_K, m_uL_N, m_uL_R, m_uL_I, m_uL_L, m_uR_K, m_uR_N, m_uR_I, m_uR_L, m_uR_R, true_and, and_true, true_implies, false_implies, not_true_eq_false, not_false_eq_true, if_true, if_false, false_and, and_false]
      rw [br_n hlt, br_n hn, br_p ht]
      refine hIH _ _ _ _ (mk _ (fun a' j' q => by rw [m_uI_I, if_neg (fun z => q z.1)]) (fun _ _ => rfl) (fun _ _ => rfl) rfl) ⟨?_, PlX_u vs (fun j' hj' => ?_) hP⟩
      · rw [m_uI_I, if_pos ⟨rfl, rfl⟩]
      · rw [m_uI_I, if_neg (by omega)]
    · by_cases c2 : (inX x).1 = 22
      · have hx5 := inX_not c2
        obtain ⟨w, r', hvw, hbt⟩ := hok.2.1 c2
        have e5 : x = -5 := Int32.toInt_inj.mp (hx5.trans rfl)
        have est : stD (inX x) vs = ntD w :: r' := by
          unfold stD appD
          rw [if_neg c1, if_pos c2, hvw]
        rw [est] at hIH
        rw [hvw] at hP hlen ⊢
        have hl1 : r'.length < 64 := by simp at hlen; omega
        rw [List.length_cons] at hIH ⊢
        have hPw : mI M (z + 8) r'.length = zI (w (p % 16, p / 16, h, dp)) := hP.1
        have ht : (1 : Int32) ≤ nI (r'.length + 1) := by rw [show (1 : Int32) = nI 1 from rfl, ni_le (by omega) (by omega)]; omega
        have e1 : (1 : Int32) - zI (w (p % 16, p / 16, h, dp)) = zI (ntD w (p % 16, p / 16, h, dp)) := zI_sub 1 _
        rw [hX0_valueOf_6]
        simp +decide (disch := omega) only [qX0_valueOf_0, qX0_valueOf_1, qX0_valueOf_2, lz hLM hz, hx, e5, ni_sub1, hPw, e1, ni_in_t, ni_tn, ni_add1, am_w1_i, am_w1_r, am_w1_x, am_w1_l, am_w1_w, va_rf_s, am_push_n, am_push_s, am_cs_0, am_cs_i, am_cs_l, am_cs_r, m_uI_K, m_uI_N, m_uI_R, m_uI_L, m_uI_I, m_uL_K, m_uL_N, m_uL_R, m_uL_I, m_uL_L, m_uR_K, m_uR_N, m_uR_I, m_uR_L, m_uR_R, true_and, and_true, true_implies, false_implies, not_true_eq_false, not_false_eq_true, if_true, if_false, false_and, and_false]
        rw [br_n hlt, br_p ht]
        refine hIH _ _ _ _ (mk _ (fun a' j' q => by rw [m_uI_I, if_neg (fun z => q z.1)]) (fun _ _ => rfl) (fun _ _ => rfl) rfl) ⟨?_, PlX_u r' (fun j' hj' => ?_) hP.2⟩
        · rw [m_uI_I, if_pos ⟨rfl, rfl⟩]
        · rw [m_uI_I, if_neg (by omega)]
      · have h22 := hok.2.2.2.2
        obtain ⟨hxo, hx5⟩ := inX_op (x := x) (by omega) (by omega)
        have two : ∃ w u r', vs = w :: u :: r' ∧ (bdS u ∧ bdS w) ∧ ((inX x).1 = 20 ∨ (inX x).1 = 21 → bdT u ∧ bdT w) := by
          by_cases c3 : (inX x).1 ≤ 19
          · obtain ⟨w, u, r', q1, q2, q3⟩ := hok.2.2.1 (by omega) c3
            exact ⟨w, u, r', q1, ⟨q2, q3⟩, fun q => by omega⟩
          · obtain ⟨w, u, r', q1, q2, q3⟩ := hok.2.2.2.1 (by omega)
            exact ⟨w, u, r', q1, ⟨bdT_S q2, bdT_S q3⟩, fun _ => ⟨q2, q3⟩⟩
        obtain ⟨w, u, r', hvw, ⟨bu, bw⟩, h01⟩ := two
        have est : stD (inX x) vs = jnD (inX x).1 u w :: r' := by
          unfold stD appD
          rw [if_neg c1, if_neg c2, hvw]
        rw [est] at hIH
        rw [hvw] at hP hlen ⊢
        have hl1 : r'.length + 1 < 64 := by simp at hlen; omega
        rw [List.length_cons, List.length_cons] at ⊢
        rw [List.length_cons] at hIH
        have hPw : mI M (z + 8) (r'.length + 1) = zI (w e) := by rw [hee]; exact hP.1
        have hPu : mI M (z + 8) r'.length = zI (u e) := by rw [hee]; exact hP.2.1
        have bu' := bu e heok
        have bw' := bw e heok
        have hj := jx_lim (op := (inX x).1) (a := u e) (b := w e) (by omega) (by omega) bu'.1 bu'.2 bw'.1 bw'.2 (fun q => ⟨(h01 q).1 e, (h01 q).2 e⟩)
        have hjo := fun Q => c_x_joined d (inX x).1 (u e) (w e) M Q (by omega) (by omega) bu'.1 bu'.2 bw'.1 bw'.2 (fun q => ⟨(h01 q).1 e, (h01 q).2 e⟩)
        rw [← hxo] at hjo
        have ht : (2 : Int32) ≤ nI (r'.length + 1 + 1) := by rw [show (2 : Int32) = nI 2 from rfl, ni_le (by omega) (by omega)]; omega
        have hn : x < -4 := by rw [lt32]; show x.toInt < -4; omega
        have hn5 : ¬ x = -5 := fun q => by rw [q] at hx5; exact absurd hx5 (by decide)
        have hmi := fun Q => c_minL (d + 1) 1000000 (jx (inX x).1 (u e) (w e)) M Q (by unfold sm_; omega) hj.2.1
        have hma := fun Q => c_maxL (d + 1) (-1000000) (min 1000000 (jx (inX x).1 (u e) (w e))) M Q (by unfold sm_; omega) (by have := hj.2.1; unfold sm_ at this ⊢; omega)
        rw [lim_mm, hj.1] at hma
        have zl := zLI (x := jn (inX x).1 (u e) (w e)) (by omega) (by omega)
        have zu := zIL (x := u e) (by omega) (by omega)
        have zw := zIL (x := w e) (by omega) (by omega)
        rw [hX0_valueOf_6]
        simp +decide (disch := omega) only [qX0_valueOf_0, qX0_valueOf_1, qX0_valueOf_2, lz hLM hz, hx, ni_sub1, ni_dec, hPw, hPu, zu, zw, hjo, show (1000000 : Int64) = zL 1000000 from rfl, show -zL 1000000 = zL (-1000000) from rfl, hmi, hma, zl, ni_in_t, ni_tn, ni_add1, am_w1_i, am_w1_r, am_w1_x, am_w1_l, am_w1_w, va_rf_s, am_push_n, am_push_s, am_cs_0, am_cs_i, am_cs_l, am_cs_r, m_uI_K, m_uI_N, m_uI_R, m_uI_L, m_uI_I, m_uL_K, m_uL_N, m_uL_R, m_uL_I, m_uL_L, m_uR_K, m_uR_N, m_uR_I, m_uR_L, m_uR_R, true_and, and_true, true_implies, false_implies, not_true_eq_false, not_false_eq_true, if_true, if_false, false_and, and_false]
        rw [br_n hlt, br_p hn, br_p hn5, br_p ht]
        refine hIH (uI M (z + 8) r'.length (zI (jn (inX x).1 (u e) (w e)))) _ _ _ (mk _ (fun a' j' q => by rw [m_uI_I, if_neg (fun z => q z.1)]) (fun _ _ => rfl) (fun _ _ => rfl) rfl) ⟨?_, PlX_u r' (fun j' hj' => ?_) hP.2.2⟩
        · rw [m_uI_I, if_pos ⟨rfl, rfl⟩, ← hee]; rfl
        · rw [m_uI_I, if_neg (by omega)]
theorem c_x_valueOf (d z a b p h dp : Nat) (v : Den) (M : am_M) (Q : Option Value → am_M → Prop) (hL : Lay M) (hz : z = 2 ∨ z = 83) (hab : a ≤ b) (hb : b ≤ 1800) (hp : p < 256) (hh : h ≤ 1000) (hdp : dp ≤ 1000) (hw : wfD 64 (insX M z) a (b - a)) (hc : cdD (insX M z) a (b - a) = [v])
    (hQ : ∀ M', oS (sPl z) M M' → Q (some (.int (zI (v (p % 16, p / 16, h, dp))))) M') : am_E am_P0 (d + 2) 2 [.ref (z + 6), .int (nI a), .int (nI b), .int (nI p), .int (nI h), .int (nI dp)] M Q := by
  have h0 := l_x_value d z a (b - a) p h dp v M Q (nI a) hL hz (by omega) hp hh hdp hw hc hQ (b - a) 0 (by omega) M am_x am_x am_x (oS_refl _ _) trivial
  have e : a + (b - a) = b := by omega
  rw [e] at h0
  rw [eX0_valueOf]
  simp +decide only [qX0_valueOf_0, qX0_valueOf_1, qX0_valueOf_2, am_w1_i, am_w1_r, am_w1_x, am_w1_l, am_w1_w, va_rf_s, am_push_n, am_push_s, am_cs_0, am_cs_i, am_cs_l, am_cs_r, m_uI_K, m_uI_N, m_uI_R, m_uI_L, m_uI_I, m_uL_K, m_uL_N, m_uL_R, m_uL_I, m_uL_L, m_uR_K, m_uR_N, m_uR_I, m_uR_L, m_uR_R, true_and, and_true, true_implies, false_implies, not_true_eq_false, not_false_eq_true, if_true, if_false, false_and, and_false]
  exact h0
/-- rules of a sea: q is the cell that holds them -/
def RlX (M : am_M) (z q : Nat) (sm : Bool) (R : List (Den × Den)) : Prop := mI M q 0 = nI R.length ∧ R.length ≤ 12 ∧ ∀ k r, R[k]? = some r → ∃ s0 s1 s2, s0 ≤ s1 ∧ s1 ≤ s2 ∧ s2 ≤ 1800 ∧ mI M (q + 1) k = nI s0 ∧ mI M (q + 2) k = nI s1 ∧ mI M (q + 3) k = nI s2 ∧ wfD 64 (insX M z) s1 (s2 - s1) ∧ cdD (insX M z) s1 (s2 - s1) = [r.2] ∧ bdT r.2 ∧ (sm = true → wfD 64 (insX M z) s0 (s1 - s0) ∧ cdD (insX M z) s0 (s1 - s0) = [r.1] ∧ bdS r.1)
theorem RlX_u {M M' : am_M} {z q : Nat} {sm : Bool} {R : List (Den × Den)} (h : RlX M z q sm R) (h1 : ∀ j, mI M' q j = mI M q j) (h2 : ∀ j, mI M' (q + 1) j = mI M (q + 1) j) (h3 : ∀ j, mI M' (q + 2) j = mI M (q + 2) j) (h4 : ∀ j, mI M' (q + 3) j = mI M (q + 3) j) (h5 : ∀ j, mI M' (z + 7) j = mI M (z + 7) j) : RlX M' z q sm R := by
  have e : insX M' z = insX M z := funext fun k => by unfold insX; rw [h5]
  obtain ⟨a1, a2, a3⟩ := h
  refine ⟨by rw [h1]; exact a1, a2, fun k r hr => ?_⟩
  obtain ⟨s0, s1, s2, b1, b2, b3, b4, b5, b6, b7⟩ := a3 k r hr
  rw [e]
  exact ⟨s0, s1, s2, b1, b2, b3, by rw [h2]; exact b4, by rw [h3]; exact b5, by rw [h4]; exact b6, b7⟩
theorem fstR_at {R : List (Den × Den)} {e : Env} {k : Nat} {r : Den × Den} (hk : R[k]? = some r) (h0 : ∀ j r', j < k → R[j]? = some r' → r'.2 e = 0) (h1 : ¬ r.2 e = 0) : fstR R e = some r := by
  unfold fstR
  rw [List.find?_eq_some_iff_getElem]
  obtain ⟨hl, hr⟩ := List.getElem?_eq_some_iff.mp hk
  refine ⟨by simpa using h1, k, hl, hr, fun j hj => ?_⟩
  have := h0 j _ hj (List.getElem?_eq_getElem (by omega))
  simpa using this
theorem fstR_no {R : List (Den × Den)} {e : Env} (h0 : ∀ (j : Nat) (r' : Den × Den), R[j]? = some r' → r'.2 e = 0) : fstR R e = none := by
  unfold fstR
  rw [List.find?_eq_none]
  intro r hr
  obtain ⟨j, hj⟩ := List.mem_iff_getElem?.mp hr
  simpa using h0 j r hj
def isRl (z q : Nat) (sm : Bool) : Prop := ((q = z + 9 ∨ q = z + 13) ∧ sm = true) ∨ (q = z + 17 ∧ sm = false)
theorem l_x_first (d z q p h dp N : Nat) (sm : Bool) (R : List (Den × Den)) (M0 : am_M) (Q : Option Value → am_M → Prop) (hL : Lay M0) (hz : z = 2 ∨ z = 83) (hq : q = z + 9 ∨ q = z + 13 ∨ q = z + 17) (hN : R.length ≤ N) (hN2 : N = if q = z + 17 then 6 else 12) (hp : p < 256) (hh : h ≤ 1000) (hdp : dp ≤ 1000)
    (hY : ∀ M' k r, oS (sPl z) M0 M' → R[k]? = some r → fstR R (p % 16, p / 16, h, dp) = some r → Q (some (.int (nI k))) M')
    (hNo : ∀ M', oS (sPl z) M0 M' → fstR R (p % 16, p / 16, h, dp) = none → Q (some (.int (-1))) M') :
    ∀ (m k : Nat), k + m = R.length → ∀ (M : am_M), oS (sPl z) M0 M → RlX M z q sm R → (∀ j r', j < k → R[j]? = some r' → r'.2 (p % 16, p / 16, h, dp) = 0) → am_P am_P0 (d + 3) (am_look tX4_firstHolding) 3 [.ref q, .ref (z + 6), .int (nI p), .int (nI h), .int (nI dp), .int (nI k)] [] M Q := by
  intro m
  induction m with
  | zero =>
    intro k hk M hM hR h0
    have hLM := oS_Lay hM hL
    have e : k = R.length := by omega
    subst e
    have h12 := hR.2.1
    have hle : nI R.length ≤ nI R.length := (ni_le (by omega) (by omega)).mpr (Nat.le_refl _)
    have hf := hNo M hM (fstR_no (fun j r' hj => h0 j r' (List.getElem?_eq_some_iff.mp hj).1 hj))
    have hR1 := hR.1
    rw [hX4_firstHolding_3]
    rcases hq with rfl | rfl | rfl <;> simp +decide only [qX4_firstHolding, lz hLM hz, hR1, am_w1_i, am_w1_r, am_w1_x, am_w1_l, am_w1_w, va_rf_s, am_push_n, am_push_s, am_cs_0, am_cs_i, am_cs_l, am_cs_r, m_uI_K, m_uI_N, m_uI_R, m_uI_L, m_uI_I, m_uL_K, m_uL_N, m_uL_R, m_uL_I, m_uL_L, m_uR_K, m_uR_N, m_uR_I, m_uR_L, m_uR_R, true_and, and_true, true_implies, false_implies, not_true_eq_false, not_false_eq_true, if_true, if_false, false_and, and_false] <;> rw [br_p hle] <;> exact hf
  | succ m ih =>
    intro k hk M hM hR h0
    have hLM := oS_Lay hM hL
    have h12 := hR.2.1
    have hlt : ¬ nI R.length ≤ nI k := by rw [ni_le (by omega) (by omega)]; omega
    obtain ⟨r, hr⟩ : ∃ r, R[k]? = some r := ⟨R[k]'(by omega), List.getElem?_eq_getElem (by omega)⟩
    obtain ⟨s0, s1, s2, b1, b2, b3, b4, b5, b6, b7, b8, b9, -⟩ := hR.2.2 k r hr
    have hR1 := hR.1
    have goal : am_E am_P0 (d + 2) 2 [.ref (z + 6), .int (nI s1), .int (nI s2), .int (nI p), .int (nI h), .int (nI dp)] M (fun r M2 => am_P am_P0 (d + 3) (am_look tX4_firstHolding) 34 [.ref q, .ref (z + 6), .int (nI p), .int (nI h), .int (nI dp), .int (nI k)] (am_push r []) M2 Q) := by
      refine c_x_valueOf d z s1 s2 p h dp r.2 M _ hLM hz b2 b3 hp hh hdp b7 b8 (fun M1 g1 => ?_)
      have hM1 := oS_trans hM g1
      have hR1 : RlX M1 z q sm R := RlX_u hR (fun j => g1.1 _ _ (by unfold sPl; omega)) (fun j => g1.1 _ _ (by unfold sPl; omega)) (fun j => g1.1 _ _ (by unfold sPl; omega)) (fun j => g1.1 _ _ (by unfold sPl; omega)) (fun j => g1.1 _ _ (by unfold sPl; omega))
      simp +decide only [qX4_firstHolding, ni_add1, am_w1_i, am_w1_r, am_w1_x, am_w1_l, am_w1_w, va_rf_s, am_push_n, am_push_s, am_cs_0, am_cs_i, am_cs_l, am_cs_r, m_uI_K, m_uI_N, m_uI_R, m_uI_L, m_uI_I, m_uL_K, m_uL_N, m_uL_R, m_uL_I, m_uL_L, m_uR_K, m_uR_N, m_uR_I, m_uR_L, m_uR_R, true_and, and_true, true_implies, false_implies, not_true_eq_false, not_false_eq_true, if_true, if_false, false_and, and_false]
      by_cases c : r.2 (p % 16, p / 16, h, dp) = 0
      · rw [br_p (by rw [c]; rfl)]
        refine ih (k + 1) (by omega) M1 hM1 hR1 (fun j r' hj hr' => ?_)
        by_cases e : j = k
        · subst e; cases hr.symm.trans hr'; exact c
        · exact h0 j r' (by omega) hr'
      · have c1 : r.2 (p % 16, p / 16, h, dp) = 1 := (b9 _).resolve_left c
        rw [br_n (by rw [c1]; decide)]
        exact hY M1 k r hM1 hr (fstR_at hr h0 c)
    have hkN : k < N := by omega
    rw [hX4_firstHolding_3]
    rcases hq with rfl | rfl | rfl
    · have e12 : N = 12 := by rw [hN2, if_neg (by omega)]
      simp +decide (disch := omega) only [qX4_firstHolding, lz hLM hz, hR1, b5, b6, ni_in_t, ni_tn, am_w1_i, am_w1_r, am_w1_x, am_w1_l, am_w1_w, va_rf_s, am_push_n, am_push_s, am_cs_0, am_cs_i, am_cs_l, am_cs_r, m_uI_K, m_uI_N, m_uI_R, m_uI_L, m_uI_I, m_uL_K, m_uL_N, m_uL_R, m_uL_I, m_uL_L, m_uR_K, m_uR_N, m_uR_I, m_uR_L, m_uR_R, true_and, and_true, true_implies, false_implies, not_true_eq_false, not_false_eq_true, if_true, if_false, false_and, and_false, Nat.add_assoc] at goal b5 b6 ⊢
      rw [br_n hlt]
      exact goal
    · have e12 : N = 12 := by rw [hN2, if_neg (by omega)]
      simp +decide (disch := omega) only [qX4_firstHolding, lz hLM hz, hR1, b5, b6, ni_in_t, ni_tn, am_w1_i, am_w1_r, am_w1_x, am_w1_l, am_w1_w, va_rf_s, am_push_n, am_push_s, am_cs_0, am_cs_i, am_cs_l, am_cs_r, m_uI_K, m_uI_N, m_uI_R, m_uI_L, m_uI_I, m_uL_K, m_uL_N, m_uL_R, m_uL_I, m_uL_L, m_uR_K, m_uR_N, m_uR_I, m_uR_L, m_uR_R, true_and, and_true, true_implies, false_implies, not_true_eq_false, not_false_eq_true, if_true, if_false, false_and, and_false, Nat.add_assoc] at goal b5 b6 ⊢
      rw [br_n hlt]
      exact goal
    · have e12 : N = 6 := by rw [hN2, if_pos rfl]
      simp +decide (disch := omega) only [qX4_firstHolding, lz hLM hz, hR1, b5, b6, ni_in_t, ni_tn, am_w1_i, am_w1_r, am_w1_x, am_w1_l, am_w1_w, va_rf_s, am_push_n, am_push_s, am_cs_0, am_cs_i, am_cs_l, am_cs_r, m_uI_K, m_uI_N, m_uI_R, m_uI_L, m_uI_I, m_uL_K, m_uL_N, m_uL_R, m_uL_I, m_uL_L, m_uR_K, m_uR_N, m_uR_I, m_uR_L, m_uR_R, true_and, and_true, true_implies, false_implies, not_true_eq_false, not_false_eq_true, if_true, if_false, false_and, and_false, Nat.add_assoc] at goal b5 b6 ⊢
      rw [br_n hlt]
      exact goal
end
section
/-! the class: the first rule that holds; cost; quiet -/
theorem c_x_firstHolding (d z q p h dp : Nat) (sm : Bool) (R : List (Den × Den)) (M : am_M) (Q : Option Value → am_M → Prop) (hL : Lay M) (hz : z = 2 ∨ z = 83) (hq : q = z + 9 ∨ q = z + 13 ∨ q = z + 17) (hN : q = z + 17 → R.length ≤ 6) (hp : p < 256) (hh : h ≤ 1000) (hdp : dp ≤ 1000) (hR : RlX M z q sm R)
    (hY : ∀ M' k r, oS (sPl z) M M' → R[k]? = some r → fstR R (p % 16, p / 16, h, dp) = some r → Q (some (.int (nI k))) M')
    (hNo : ∀ M', oS (sPl z) M M' → fstR R (p % 16, p / 16, h, dp) = none → Q (some (.int (-1))) M') : am_E am_P0 (d + 3) 49 [.ref q, .ref (z + 6), .int (nI p), .int (nI h), .int (nI dp)] M Q := by
  rw [eX4_firstHolding]
  simp +decide only [qX4_firstHolding, am_w1_i, am_w1_r, am_w1_x, am_w1_l, am_w1_w, va_rf_s, am_push_n, am_push_s, am_cs_0, am_cs_i, am_cs_l, am_cs_r, m_uI_K, m_uI_N, m_uI_R, m_uI_L, m_uI_I, m_uL_K, m_uL_N, m_uL_R, m_uL_I, m_uL_L, m_uR_K, m_uR_N, m_uR_I, m_uR_L, m_uR_R, true_and, and_true, true_implies, false_implies, not_true_eq_false, not_false_eq_true, if_true, if_false, false_and, and_false]
  rw [show (0 : Int32) = nI 0 from rfl]
  refine l_x_first d z q p h dp (if q = z + 17 then 6 else 12) sm R M Q hL hz hq ?_ rfl hp hh hdp hY hNo R.length 0 (by omega) M (oS_refl _ _) hR (fun j r' hj => by omega)
  split
  · rename_i e; exact hN e
  · exact hR.2.1
theorem mm99 {s : Int} (h1 : -1000000 ≤ s) (h2 : s ≤ 1000000) : (if (0 : Int32) < (if zI s < 99 then zI s else 99) then (if zI s < 99 then zI s else 99) else 0) = nI (max 0 (min 99 s)).toNat := by
  have e : zI s < 99 ↔ s < 99 := by rw [lt32, zI_ti (by omega) (by omega)]; exact Iff.rfl
  have e0 : (0 : Int32) < zI s ↔ 0 < s := by rw [lt32, zI_ti (by omega) (by omega)]; exact Iff.rfl
  by_cases c : s < 99
  · rw [if_pos (e.mpr c)]
    by_cases c0 : 0 < s
    · rw [if_pos (e0.mpr c0), ← zI_n]
      congr 1
      omega
    · rw [if_neg (fun q => c0 (e0.mp q)), show (max 0 (min 99 s)).toNat = 0 by omega]
      rfl
  · rw [if_neg (fun q => c (e.mp q)), if_pos (by decide), show (max 0 (min 99 s)).toNat = 99 by omega]
    rfl
theorem c_x_firstSum (d z q p dp : Nat) (R : List (Den × Den)) (M : am_M) (Q : Option Value → am_M → Prop) (hL : Lay M) (hz : z = 2 ∨ z = 83) (hq : q = z + 9 ∨ q = z + 13) (hp : p < 256) (hdp : dp ≤ 1000) (hR : RlX M z q true R)
    (hQ : ∀ M', oS (sPl z) M M' → Q (some (.int (nI (sumR R (p % 16, p / 16, 0, dp)).toNat))) M') : am_E am_P0 (d + 4) 50 [.ref q, .ref (z + 6), .int (nI p), .int (nI dp)] M Q := by
  have h12 := hR.2.1
  rw [eX4_firstSum]
  have kq : mK M q = 14 := by rcases hq with rfl | rfl <;> simp only [lz hL hz]
  simp +decide only [qX4_firstSum, kq, am_w1_i, am_w1_r, am_w1_x, am_w1_l, am_w1_w, va_rf_s, am_push_n, am_push_s, am_cs_0, am_cs_i, am_cs_l, am_cs_r, m_uI_K, m_uI_N, m_uI_R, m_uI_L, m_uI_I, m_uL_K, m_uL_N, m_uL_R, m_uL_I, m_uL_L, m_uR_K, m_uR_N, m_uR_I, m_uR_L, m_uR_R, true_and, and_true, true_implies, false_implies, not_true_eq_false, not_false_eq_true, if_true, if_false, false_and, and_false]
  rw [show (0 : Int32) = nI 0 from rfl]
  refine c_x_firstHolding d z q p 0 dp true R M _ hL hz (by omega) (fun e => by omega) hp (by omega) hdp hR (fun M1 k r g1 hk hf => ?_) (fun M1 g1 hf => ?_)
  · have hkl := (List.getElem?_eq_some_iff.mp hk).1
    have L1 := oS_Lay g1 hL
    have hR1 : RlX M1 z q true R := RlX_u hR (fun j => g1.1 _ _ (by unfold sPl; omega)) (fun j => g1.1 _ _ (by unfold sPl; omega)) (fun j => g1.1 _ _ (by unfold sPl; omega)) (fun j => g1.1 _ _ (by unfold sPl; omega)) (fun j => g1.1 _ _ (by unfold sPl; omega))
    obtain ⟨s0, s1, s2, b1, b2, b3, b4, b5, b6, b7, b8, b9, b10⟩ := hR1.2.2 k r hk
    obtain ⟨b11, b12, b13⟩ := b10 rfl
    have hk1 : ¬ nI k = -1 := nI_m1 (by omega)
    have heok : eOK (p % 16, p / 16, 0, dp) := ⟨by show p % 16 ≤ 1000; omega, by show p / 16 ≤ 1000; omega, by show 0 ≤ 1000; omega, hdp⟩
    have goal : am_E am_P0 (d + 3) 2 [.ref (z + 6), .int (nI s0), .int (nI s1), .int (nI p), .int (nI 0), .int (nI dp)] M1 (fun r M2 => am_P am_P0 (d + 4) (am_look tX4_firstSum) 39 [.ref q, .ref (z + 6), .int (nI p), .int (nI dp), .int (nI k), am_x] (am_push r []) M2 Q) := by
      refine c_x_valueOf (d + 1) z s0 s1 p 0 dp r.1 M1 _ L1 hz b1 (by omega) hp (by omega) hdp b11 b12 (fun M2 g2 => ?_)
      have h0 := hQ M2 (oS_trans g1 g2)
      have hbd := b13 _ heok
      have hs : sumR R (p % 16, p / 16, 0, dp) = max 0 (min 99 (r.1 (p % 16, p / 16, 0, dp))) := by unfold sumR; rw [hf]
      have hmi := fun Q => c_minI (d + 3) 99 (zI (r.1 (p % 16, p / 16, 0, dp))) M2 Q
      have hma := fun b Q => c_maxI (d + 3) 0 b M2 Q
      rw [hs] at h0
      simp +decide only [qX4_firstSum, hmi, hma, mm99 hbd.1 hbd.2, am_w1_i, am_w1_r, am_w1_x, am_w1_l, am_w1_w, va_rf_s, am_push_n, am_push_s, am_cs_0, am_cs_i, am_cs_l, am_cs_r, m_uI_K, m_uI_N, m_uI_R, m_uI_L, m_uI_I, m_uL_K, m_uL_N, m_uL_R, m_uL_I, m_uL_L, m_uR_K, m_uR_N, m_uR_I, m_uR_L, m_uR_R, true_and, and_true, true_implies, false_implies, not_true_eq_false, not_false_eq_true, if_true, if_false, false_and, and_false]
      exact h0
    have kq1 : mK M1 q = 14 ∧ mR M1 q 1 = some (q + 1) ∧ mR M1 q 2 = some (q + 2) ∧ mK M1 (q + 1) = 0 ∧ mN M1 (q + 1) = 12 ∧ mK M1 (q + 2) = 0 ∧ mN M1 (q + 2) = 12 := by
      rcases hq with rfl | rfl <;> simp only [lz L1 hz, Nat.add_assoc, and_self]
    simp +decide (disch := omega) only [qX4_firstSum, lz L1 hz, kq1, b4, b5, ni_in_t, ni_tn, am_w1_i, am_w1_r, am_w1_x, am_w1_l, am_w1_w, va_rf_s, am_push_n, am_push_s, am_cs_0, am_cs_i, am_cs_l, am_cs_r, m_uI_K, m_uI_N, m_uI_R, m_uI_L, m_uI_I, m_uL_K, m_uL_N, m_uL_R, m_uL_I, m_uL_L, m_uR_K, m_uR_N, m_uR_I, m_uR_L, m_uR_R, true_and, and_true, true_implies, false_implies, not_true_eq_false, not_false_eq_true, if_true, if_false, false_and, and_false]
    rw [br_p hk1]
    exact goal
  · have h0 := hQ M1 g1
    have hs : sumR R (p % 16, p / 16, 0, dp) = 0 := by unfold sumR; rw [hf]
    rw [hs] at h0
    simp +decide only [qX4_firstSum, am_w1_i, am_w1_r, am_w1_x, am_w1_l, am_w1_w, va_rf_s, am_push_n, am_push_s, am_cs_0, am_cs_i, am_cs_l, am_cs_r, m_uI_K, m_uI_N, m_uI_R, m_uI_L, m_uI_I, m_uL_K, m_uL_N, m_uL_R, m_uL_I, m_uL_L, m_uR_K, m_uR_N, m_uR_I, m_uR_L, m_uR_R, true_and, and_true, true_implies, false_implies, not_true_eq_false, not_false_eq_true, if_true, if_false, false_and, and_false]
    exact h0
/-- what a sea tells of depths, costs and quiet hours -/
def SqX (M : am_M) (z : Nat) (dep cst : Nat → Nat) (qut : Nat → Nat → Prop) : Prop :=
  (∃ Rc, RlX M z (z + 13) true Rc ∧ ∀ p, p < 256 → cst p = (sumR Rc (p % 16, p / 16, 0, dep p)).toNat) ∧ (∃ Rq, RlX M z (z + 17) false Rq ∧ Rq.length ≤ 6 ∧ ∀ p h, p < 256 → h < 48 → (qut p h ↔ ¬ fstR Rq (p % 16, p / 16, h, dep p) = none)) ∧
  (∀ p, p < 256 → dep p ≤ 99 ∧ mI M (z + 21) p = nI (dep p)) ∧ (∀ p, p < 256 → mI M (z + 22) p = -1 ∨ mI M (z + 22) p = nI (cst p)) ∧
  ∀ h p, h < 48 → p < 256 → (sbit (mL M (z + 23) (4 * h + p / 64)) (p % 64) = true → (sbit (mL M (z + 24) (4 * h + p / 64)) (p % 64) = true ↔ qut p h)) ∧ (sbit (mL M (z + 24) (4 * h + p / 64)) (p % 64) = true → sbit (mL M (z + 23) (4 * h + p / 64)) (p % 64) = true)
theorem SqX_u {M M' : am_M} {z : Nat} {dep cst : Nat → Nat} {qut : Nat → Nat → Prop} (h : SqX M z dep cst qut) (h1 : ∀ a j, z + 7 ≤ a → a ≤ z + 22 → ¬ a = z + 8 → mI M' a j = mI M a j) (h2 : ∀ a j, a = z + 23 ∨ a = z + 24 → mL M' a j = mL M a j) : SqX M' z dep cst qut := by
  obtain ⟨⟨Rc, c1, c2⟩, ⟨Rq, q1, q2, q3⟩, a3, a4, a5⟩ := h
  refine ⟨⟨Rc, RlX_u c1 (fun j => h1 _ _ (by omega) (by omega) (by omega)) (fun j => h1 _ _ (by omega) (by omega) (by omega)) (fun j => h1 _ _ (by omega) (by omega) (by omega)) (fun j => h1 _ _ (by omega) (by omega) (by omega)) (fun j => h1 _ _ (by omega) (by omega) (by omega)), c2⟩, ⟨Rq, RlX_u q1 (fun j => h1 _ _ (by omega) (by omega) (by omega)) (fun j => h1 _ _ (by omega) (by omega) (by omega)) (fun j => h1 _ _ (by omega) (by omega) (by omega)) (fun j => h1 _ _ (by omega) (by omega) (by omega)) (fun j => h1 _ _ (by omega) (by omega) (by omega)), q2, q3⟩, fun p hp => ⟨(a3 p hp).1, by rw [h1 _ _ (by omega) (by omega) (by omega)]; exact (a3 p hp).2⟩, fun p hp => by rw [h1 _ _ (by omega) (by omega) (by omega)]; exact a4 p hp, fun h p hh hp => ?_⟩
  rw [h2 _ _ (Or.inl rfl), h2 _ _ (Or.inr rfl)]
  exact a5 h p hh hp
def sMm (z a _j : Nat) : Prop := a = z + 8 ∨ a = z + 22 ∨ a = z + 23 ∨ a = z + 24
theorem zF_o {S : Nat → Nat → Prop} {M M' : am_M} (hL : Lay M) (hI : RInv M) (h : oS S M M') (h1 : ∀ a j s', s' < 8 → S a j → ¬ a = 174 + 13 * s' ∧ ¬ a = 177 + 13 * s') : zF S M M' := by
  refine ⟨oS_Lay h hL, RInv_S hI h.2.2.1 h.2.2.2, by unfold mC; rw [h.2.2.2]; exact Nat.le_refl _, fun a' j' _ _ q => h.1 a' j' q, fun a j _ _ => h.2.1 a j, fun a j _ _ => h.2.2.1 a j, fun s' v wt hs' hT => TrW_S hT (fun k => ?_) (fun k => ?_) (fun a j => h.2.1 a j) (fun a j => h.2.2.1 a j)⟩
  · exact h.1 _ _ (fun q => (h1 _ _ s' hs' q).1 rfl)
  · exact h.1 _ _ (fun q => (h1 _ _ s' hs' q).2 rfl)
theorem c_x_costAt (d z p : Nat) (dep cst : Nat → Nat) (qut : Nat → Nat → Prop) (M : am_M) (Q : Option Value → am_M → Prop) (hL : Lay M) (hI : RInv M) (hz : z = 2 ∨ z = 83) (hp : p < 256) (hS : SqX M z dep cst qut)
    (hQ : ∀ M', zF (sMm z) M M' → SqX M' z dep cst qut → Q (some (.int (nI (cst p)))) M') : am_E am_P0 (d + 5) 54 [.ref z, .int (nI p)] M Q := by
  obtain ⟨⟨Rc, c1, c2⟩, q1, a3, a4, a5⟩ := id hS
  have c3 : cst p ≤ 99 := by rw [c2 p hp]; have := sumR_bd Rc (p % 16, p / 16, 0, dep p); omega
  rw [eX5_costAt]
  rcases a4 p hp with hm | hm
  · simp +decide (disch := omega) only [qX5_costAt, lz hL hz, hm, (a3 p hp).2, ni_in_t, ni_tn, am_w1_i, am_w1_r, am_w1_x, am_w1_l, am_w1_w, va_rf_s, am_push_n, am_push_s, am_cs_0, am_cs_i, am_cs_l, am_cs_r, m_uI_K, m_uI_N, m_uI_R, m_uI_L, m_uI_I, m_uL_K, m_uL_N, m_uL_R, m_uL_I, m_uL_L, m_uR_K, m_uR_N, m_uR_I, m_uR_L, m_uR_R, true_and, and_true, true_implies, false_implies, not_true_eq_false, not_false_eq_true, if_true, if_false, false_and, and_false]
    refine c_x_firstSum d z (z + 13) p (dep p) Rc M _ hL hz (Or.inr rfl) hp (by have := (a3 p hp).1; omega) c1 (fun M1 g1 => ?_)
    rw [← c2 p hp]
    have L1 := oS_Lay g1 hL
    have z1 : zF (sMm z) M M1 := zF_o hL hI (oS_up g1 (fun a j q => Or.inl q)) (fun a j s' hs' q => by unfold sMm at q; omega)
    have z2 : zF (sMm z) M1 (uI M1 (z + 22) p (nI (cst p))) := zF_i z1.1 z1.2.1 _ (Or.inr (Or.inl rfl)) (fun s' hs' => by omega)
    have S1 : SqX M1 z dep cst qut := SqX_u hS (fun a j q1 q2 q3 => g1.1 _ _ (by unfold sPl; omega)) (fun a j q => g1.2.1 _ _)
    have h0 := hQ _ (zF_trans z1 z2) ⟨by
      obtain ⟨Rc', d1, d2⟩ := S1.1
      exact ⟨Rc', RlX_u d1 (fun j => by rw [m_uI_I, if_neg (by omega)]) (fun j => by rw [m_uI_I, if_neg (by omega)]) (fun j => by rw [m_uI_I, if_neg (by omega)]) (fun j => by rw [m_uI_I, if_neg (by omega)]) (fun j => by rw [m_uI_I, if_neg (by omega)]), d2⟩, by
      obtain ⟨Rc', d1, d2⟩ := S1.2.1
      exact ⟨Rc', RlX_u d1 (fun j => by rw [m_uI_I, if_neg (by omega)]) (fun j => by rw [m_uI_I, if_neg (by omega)]) (fun j => by rw [m_uI_I, if_neg (by omega)]) (fun j => by rw [m_uI_I, if_neg (by omega)]) (fun j => by rw [m_uI_I, if_neg (by omega)]), d2⟩, fun p' hp' => ⟨(S1.2.2.1 p' hp').1, by rw [m_uI_I, if_neg (by omega)]; exact (S1.2.2.1 p' hp').2⟩, fun p' hp' => by
        rw [m_uI_I]
        by_cases e : p' = p
        · rw [if_pos ⟨rfl, e⟩, e]; exact Or.inr rfl
        · rw [if_neg (fun q => e q.2)]; exact S1.2.2.2.1 p' hp', fun h p' => S1.2.2.2.2 h p'⟩
    simp +decide (disch := omega) only [qX5_costAt, lz L1 hz, ni_in_t, ni_tn, am_w1_i, am_w1_r, am_w1_x, am_w1_l, am_w1_w, va_rf_s, am_push_n, am_push_s, am_cs_0, am_cs_i, am_cs_l, am_cs_r, m_uI_K, m_uI_N, m_uI_R, m_uI_L, m_uI_I, m_uL_K, m_uL_N, m_uL_R, m_uL_I, m_uL_L, m_uR_K, m_uR_N, m_uR_I, m_uR_L, m_uR_R, true_and, and_true, true_implies, false_implies, not_true_eq_false, not_false_eq_true, if_true, if_false, false_and, and_false]
    exact h0
  · have h0 := hQ M (zF_refl hL hI) hS
    have hm1 : ¬ nI (cst p) = -1 := nI_m1 (by omega)
    simp +decide (disch := omega) only [qX5_costAt, lz hL hz, hm, ni_in_t, ni_tn, am_w1_i, am_w1_r, am_w1_x, am_w1_l, am_w1_w, va_rf_s, am_push_n, am_push_s, am_cs_0, am_cs_i, am_cs_l, am_cs_r, m_uI_K, m_uI_N, m_uI_R, m_uI_L, m_uI_I, m_uL_K, m_uL_N, m_uL_R, m_uL_I, m_uL_L, m_uR_K, m_uR_N, m_uR_I, m_uR_L, m_uR_R, true_and, and_true, true_implies, false_implies, not_true_eq_false, not_false_eq_true, if_true, if_false, false_and, and_false]
    rw [br_p hm1]
    exact h0
theorem sb_mask {x m : Int64} {i : Nat} (hm : ∀ j, sbit m j = decide (j = i)) (hi : i < 64) : x &&& m = 0 ↔ ¬ sbit x i = true := by
  constructor
  · intro h q
    have : sbit (x &&& m) i = sbit 0 i := by rw [h]
    rw [sb_and, q, hm i, sb_0, decide_eq_true rfl] at this
    cases this
  · intro h
    refine sb_ext (fun j hj => ?_)
    rw [sb_and, hm j, sb_0]
    by_cases e : j = i
    · subst e
      rw [Bool.not_eq_true] at h
      rw [h]; rfl
    · rw [decide_eq_false e, Bool.and_false]
theorem l_x_quiet2 (d z p h : Nat) (dep cst : Nat → Nat) (qut : Nat → Nat → Prop) (M : am_M) (Q : Option Value → am_M → Prop) (m : Int64) (hL : Lay M) (hz : z = 2 ∨ z = 83) (hp : p < 256) (hh : h < 48) (hm : ∀ j, sbit m j = decide (j = p % 64)) (hS : SqX M z dep cst qut) (hk : sbit (mL M (z + 23) (4 * h + p / 64)) (p % 64) = true)
    (hQ : Q (some (.int (tI (qut p h)))) M) : am_P am_P0 d (am_look tX5_isQuiet) 76 [.ref z, .int (nI p), .int (nI h), .int (nI (4 * h + p / 64)), .long m, am_x] [] M Q := by
  have e := (hS.2.2.2.2 h p hh hp).1 hk
  have hb := sb_mask (x := mL M (z + 24) (4 * h + p / 64)) hm (by omega)
  simp +decide (disch := omega) only [qX5_isQuiet_0, qX5_isQuiet_1, lz hL hz, lgc_0, hb, ni_in_t, ni_tn, am_w1_i, am_w1_r, am_w1_x, am_w1_l, am_w1_w, va_rf_s, am_push_n, am_push_s, am_cs_0, am_cs_i, am_cs_l, am_cs_r, m_uI_K, m_uI_N, m_uI_R, m_uI_L, m_uI_I, m_uL_K, m_uL_N, m_uL_R, m_uL_I, m_uL_L, m_uR_K, m_uR_N, m_uR_I, m_uR_L, m_uR_R, true_and, and_true, true_implies, false_implies, not_true_eq_false, not_false_eq_true, if_true, if_false, false_and, and_false]
  by_cases c : qut p h
  · rw [br_n (fun q => q (e.mpr c))]
    rw [tI_t c] at hQ
    exact hQ
  · rw [br_p (fun q => c (e.mp q))]
    rw [tI_f c] at hQ
    exact hQ
theorem c_x_isQuiet (d z p h : Nat) (dep cst : Nat → Nat) (qut : Nat → Nat → Prop) (M : am_M) (Q : Option Value → am_M → Prop) (hL : Lay M) (hI : RInv M) (hz : z = 2 ∨ z = 83) (hp : p < 256) (hh : h < 48) (hS : SqX M z dep cst qut)
    (hQ : ∀ M', zF (sMm z) M M' → SqX M' z dep cst qut → Q (some (.int (tI (qut p h)))) M') : am_E am_P0 (d + 4) 55 [.ref z, .int (nI p), .int (nI h)] M Q := by
  obtain ⟨⟨Rc, c1, c2⟩, ⟨Rq, q1, q2, q3⟩, a3, a4, a5⟩ := id hS
  have e1 : nI h * 4 + nI (p / 64) = nI (4 * h + p / 64) := by rw [show (4 : Int32) = nI 4 from rfl, ni_mul, ni_add, Nat.mul_comm]
  obtain ⟨m, hme⟩ : ∃ m, m = (1 : Int64) <<< ((nI (p % 64)).toInt64 &&& 63) := ⟨_, rfl⟩
  have hm : ∀ j, sbit m j = decide (j = p % 64) := fun j => by rw [hme]; exact bt_one (by omega) j
  have hb := sb_mask (x := mL M (z + 23) (4 * h + p / 64)) hm (by omega)
  rw [eX5_isQuiet]
  simp +decide (disch := omega) only [qX5_isQuiet_0, qX5_isQuiet_1, lz hL hz, sr6 p hp, an63 p hp, e1, ← hme, lgc_0, hb, (a3 p hp).2, ni_in_t, ni_tn, am_w1_i, am_w1_r, am_w1_x, am_w1_l, am_w1_w, va_rf_s, am_push_n, am_push_s, am_cs_0, am_cs_i, am_cs_l, am_cs_r, m_uI_K, m_uI_N, m_uI_R, m_uI_L, m_uI_I, m_uL_K, m_uL_N, m_uL_R, m_uL_I, m_uL_L, m_uR_K, m_uR_N, m_uR_I, m_uR_L, m_uR_R, true_and, and_true, true_implies, false_implies, not_true_eq_false, not_false_eq_true, if_true, if_false, false_and, and_false]
  by_cases ck : sbit (mL M (z + 23) (4 * h + p / 64)) (p % 64) = true
  · rw [br_p (fun q => q ck)]
    have h0 := l_x_quiet2 (d + 4) z p h dep cst qut M Q m hL hz hp hh hm hS ck (hQ M (zF_refl hL hI) hS)
    simp +decide (disch := omega) only [qX5_isQuiet_0, qX5_isQuiet_1, lz hL hz, lgc_0, ni_in_t, ni_tn, am_w1_i, am_w1_r, am_w1_x, am_w1_l, am_w1_w, va_rf_s, am_push_n, am_push_s, am_cs_0, am_cs_i, am_cs_l, am_cs_r, m_uI_K, m_uI_N, m_uI_R, m_uI_L, m_uI_I, m_uL_K, m_uL_N, m_uL_R, m_uL_I, m_uL_L, m_uR_K, m_uR_N, m_uR_I, m_uR_L, m_uR_R, true_and, and_true, true_implies, false_implies, not_true_eq_false, not_false_eq_true, if_true, if_false, false_and, and_false] at h0
    exact h0
  · rw [br_n (fun q => q ck)]
    have l1 : onlyL M (uL M (z + 23) (4 * h + p / 64) (mL M (z + 23) (4 * h + p / 64) ||| m)) (z + 23) := ⟨fun _ _ => rfl, fun _ _ => rfl, rfl, fun a j q => by rw [m_uL_L, if_neg (fun w => q w.1)]⟩
    have z1 : zF (sMm z) M (uL M (z + 23) (4 * h + p / 64) (mL M (z + 23) (4 * h + p / 64) ||| m)) := zF_l hL hI l1 (by omega) (fun j => Or.inr (Or.inr (Or.inl rfl))) (fun s' hs' => by omega)
    refine c_x_firstHolding d z (z + 17) p h (dep p) false Rq _ _ z1.1 hz (by omega) (fun _ => q2) hp (by omega) (by have := (a3 p hp).1; omega) (RlX_u q1 (fun _ => rfl) (fun _ => rfl) (fun _ => rfl) (fun _ => rfl) (fun _ => rfl)) (fun M2 k r g2 hk hf => ?_) (fun M2 g2 hf => ?_)
    · have L2 := oS_Lay g2 z1.1
      have z2 : zF (sMm z) _ M2 := zF_o z1.1 z1.2.1 (oS_up g2 (fun a j q => Or.inl q)) (fun a j s' hs' q => by unfold sMm at q; omega)
      have hk1 : ¬ nI k = -1 := nI_m1 (by have := (List.getElem?_eq_some_iff.mp hk).1; omega)
      have l3 : onlyL M2 (uL M2 (z + 24) (4 * h + p / 64) (mL M2 (z + 24) (4 * h + p / 64) ||| m)) (z + 24) := ⟨fun _ _ => rfl, fun _ _ => rfl, rfl, fun a j q => by rw [m_uL_L, if_neg (fun w => q w.1)]⟩
      have z3 : zF (sMm z) M2 (uL M2 (z + 24) (4 * h + p / 64) (mL M2 (z + 24) (4 * h + p / 64) ||| m)) := zF_l z2.1 z2.2.1 l3 (by omega) (fun j => Or.inr (Or.inr (Or.inr rfl))) (fun s' hs' => by omega)
      have hqt : qut p h := (q3 p h hp hh).mpr (by rw [hf]; simp)
      have S3 : SqX (uL M2 (z + 24) (4 * h + p / 64) (mL M2 (z + 24) (4 * h + p / 64) ||| m)) z dep cst qut := by
        have S0 : SqX (uL M (z + 23) (4 * h + p / 64) (mL M (z + 23) (4 * h + p / 64) ||| m)) z dep cst qut ∨ True := Or.inr trivial
        refine ⟨⟨Rc, RlX_u c1 (fun j => ?_) (fun j => ?_) (fun j => ?_) (fun j => ?_) (fun j => ?_), c2⟩, ⟨Rq, RlX_u q1 (fun j => ?_) (fun j => ?_) (fun j => ?_) (fun j => ?_) (fun j => ?_), q2, q3⟩, fun p' hp' => ⟨(a3 p' hp').1, ?_⟩, fun p' hp' => ?_, fun h' p' hh' hp' => ?_⟩
        · exact g2.1 _ _ (by unfold sPl; omega)
        · exact g2.1 _ _ (by unfold sPl; omega)
        · exact g2.1 _ _ (by unfold sPl; omega)
        · exact g2.1 _ _ (by unfold sPl; omega)
        · exact g2.1 _ _ (by unfold sPl; omega)
        · exact g2.1 _ _ (by unfold sPl; omega)
        · exact g2.1 _ _ (by unfold sPl; omega)
        · exact g2.1 _ _ (by unfold sPl; omega)
        · exact g2.1 _ _ (by unfold sPl; omega)
        · exact g2.1 _ _ (by unfold sPl; omega)
        · exact (g2.1 _ _ (by unfold sPl; omega)).trans (a3 p' hp').2
        · have e2 := g2.1 (z + 22) p' (by unfold sPl; omega)
          have e3 : mI (uL M (z + 23) (4 * h + p / 64) (mL M (z + 23) (4 * h + p / 64) ||| m)) (z + 22) p' = mI M (z + 22) p' := rfl
          show mI M2 (z + 22) p' = -1 ∨ mI M2 (z + 22) p' = _
          rw [e2, e3]; exact a4 p' hp'
        · have r23 : mL (uL M2 (z + 24) (4 * h + p / 64) (mL M2 (z + 24) (4 * h + p / 64) ||| m)) (z + 23) (4 * h' + p' / 64) = if 4 * h' + p' / 64 = 4 * h + p / 64 then mL M (z + 23) (4 * h + p / 64) ||| m else mL M (z + 23) (4 * h' + p' / 64) := by
            rw [m_uL_L, if_neg (by omega), g2.2.1, m_uL_L]
            by_cases e : 4 * h' + p' / 64 = 4 * h + p / 64
            · rw [if_pos ⟨rfl, e⟩, if_pos e]
            · rw [if_neg (fun q => e q.2), if_neg e]
          have r24 : mL (uL M2 (z + 24) (4 * h + p / 64) (mL M2 (z + 24) (4 * h + p / 64) ||| m)) (z + 24) (4 * h' + p' / 64) = if 4 * h' + p' / 64 = 4 * h + p / 64 then mL M (z + 24) (4 * h + p / 64) ||| m else mL M (z + 24) (4 * h' + p' / 64) := by
            have k : ∀ j, mL M2 (z + 24) j = mL M (z + 24) j := fun j => by rw [g2.2.1, m_uL_L, if_neg (by omega)]
            rw [m_uL_L, k, k]
            by_cases e : 4 * h' + p' / 64 = 4 * h + p / 64
            · rw [if_pos ⟨rfl, e⟩, if_pos e]
            · rw [if_neg (fun q => e q.2), if_neg e]
          rw [r23, r24]
          by_cases e : 4 * h' + p' / 64 = 4 * h + p / 64
          · rw [if_pos e, if_pos e, ← e, sb_or, sb_or, hm, Bool.or_eq_true, Bool.or_eq_true, decide_eq_true_iff]
            have := a5 h' p' hh' hp'
            by_cases e2 : p' % 64 = p % 64
            · have ep : p' = p ∧ h' = h := by omega
              rw [ep.1, ep.2]
              exact ⟨fun _ => ⟨fun _ => hqt, fun _ => Or.inr rfl⟩, fun _ => Or.inr rfl⟩
            · refine ⟨fun q => ⟨fun w => (this.1 (q.resolve_right e2)).mp (w.resolve_right e2), fun w => Or.inl ((this.1 (q.resolve_right e2)).mpr w)⟩, fun w => Or.inl (this.2 (w.resolve_right e2))⟩
          · rw [if_neg e, if_neg e]; exact a5 h' p' hh' hp'
      have h0 := l_x_quiet2 (d + 4) z p h dep cst qut _ Q m z3.1 hz hp hh hm S3 (by rw [m_uL_L, if_neg (by omega), g2.2.1, m_uL_L, if_pos ⟨rfl, rfl⟩, sb_or, hm, decide_eq_true rfl, Bool.or_true]) (hQ _ (zF_trans z1 (zF_trans z2 z3)) S3)
      simp +decide (disch := omega) only [qX5_isQuiet_0, qX5_isQuiet_1, lz L2 hz, ni_in_t, ni_tn, am_w1_i, am_w1_r, am_w1_x, am_w1_l, am_w1_w, va_rf_s, am_push_n, am_push_s, am_cs_0, am_cs_i, am_cs_l, am_cs_r, m_uI_K, m_uI_N, m_uI_R, m_uI_L, m_uI_I, m_uL_K, m_uL_N, m_uL_R, m_uL_I, m_uL_L, m_uR_K, m_uR_N, m_uR_I, m_uR_L, m_uR_R, true_and, and_true, true_implies, false_implies, not_true_eq_false, not_false_eq_true, if_true, if_false, false_and, and_false] at h0 ⊢
      rw [br_n hk1]
      exact h0
    · have L2 := oS_Lay g2 z1.1
      have z2 : zF (sMm z) _ M2 := zF_o z1.1 z1.2.1 (oS_up g2 (fun a j q => Or.inl q)) (fun a j s' hs' q => by unfold sMm at q; omega)
      have hqt : ¬ qut p h := fun q => (q3 p h hp hh).mp q hf
      have S3 : SqX M2 z dep cst qut := by
        refine ⟨⟨Rc, RlX_u c1 (fun j => ?_) (fun j => ?_) (fun j => ?_) (fun j => ?_) (fun j => ?_), c2⟩, ⟨Rq, RlX_u q1 (fun j => ?_) (fun j => ?_) (fun j => ?_) (fun j => ?_) (fun j => ?_), q2, q3⟩, fun p' hp' => ⟨(a3 p' hp').1, ?_⟩, fun p' hp' => ?_, fun h' p' hh' hp' => ?_⟩
        · exact g2.1 _ _ (by unfold sPl; omega)
        · exact g2.1 _ _ (by unfold sPl; omega)
        · exact g2.1 _ _ (by unfold sPl; omega)
        · exact g2.1 _ _ (by unfold sPl; omega)
        · exact g2.1 _ _ (by unfold sPl; omega)
        · exact g2.1 _ _ (by unfold sPl; omega)
        · exact g2.1 _ _ (by unfold sPl; omega)
        · exact g2.1 _ _ (by unfold sPl; omega)
        · exact g2.1 _ _ (by unfold sPl; omega)
        · exact g2.1 _ _ (by unfold sPl; omega)
        · exact (g2.1 _ _ (by unfold sPl; omega)).trans (a3 p' hp').2
        · have e2 := g2.1 (z + 22) p' (by unfold sPl; omega)
          have e3 : mI (uL M (z + 23) (4 * h + p / 64) (mL M (z + 23) (4 * h + p / 64) ||| m)) (z + 22) p' = mI M (z + 22) p' := rfl
          rw [e2, e3]; exact a4 p' hp'
        · have r23 : mL M2 (z + 23) (4 * h' + p' / 64) = if 4 * h' + p' / 64 = 4 * h + p / 64 then mL M (z + 23) (4 * h + p / 64) ||| m else mL M (z + 23) (4 * h' + p' / 64) := by
            rw [g2.2.1, m_uL_L]
            by_cases e : 4 * h' + p' / 64 = 4 * h + p / 64
            · rw [if_pos ⟨rfl, e⟩, if_pos e]
            · rw [if_neg (fun q => e q.2), if_neg e]
          have r24 : mL M2 (z + 24) (4 * h' + p' / 64) = mL M (z + 24) (4 * h' + p' / 64) := by rw [g2.2.1, m_uL_L, if_neg (by omega)]
          rw [r23, r24]
          by_cases e : 4 * h' + p' / 64 = 4 * h + p / 64
          · rw [if_pos e, ← e, sb_or, hm, Bool.or_eq_true, decide_eq_true_iff]
            have := a5 h' p' hh' hp'
            by_cases e2 : p' % 64 = p % 64
            · have ep : p' = p ∧ h' = h := by omega
              rw [ep.1, ep.2] at this ⊢
              exact ⟨fun _ => ⟨fun w => absurd (this.2 w) ck, fun w => absurd w hqt⟩, fun _ => Or.inr rfl⟩
            · exact ⟨fun q => this.1 (q.resolve_right e2), fun w => Or.inl (this.2 w)⟩
          · rw [if_neg e]; exact a5 h' p' hh' hp'
      have h0 := l_x_quiet2 (d + 4) z p h dep cst qut _ Q m z2.1 hz hp hh hm S3 (by rw [g2.2.1, m_uL_L, if_pos ⟨rfl, rfl⟩, sb_or, hm, decide_eq_true rfl, Bool.or_true]) (hQ _ (zF_trans z1 z2) S3)
      simp +decide (disch := omega) only [qX5_isQuiet_0, qX5_isQuiet_1, lz L2 hz, ni_in_t, ni_tn, am_w1_i, am_w1_r, am_w1_x, am_w1_l, am_w1_w, va_rf_s, am_push_n, am_push_s, am_cs_0, am_cs_i, am_cs_l, am_cs_r, m_uI_K, m_uI_N, m_uI_R, m_uI_L, m_uI_I, m_uL_K, m_uL_N, m_uL_R, m_uL_I, m_uL_L, m_uR_K, m_uR_N, m_uR_I, m_uR_L, m_uR_R, true_and, and_true, true_implies, false_implies, not_true_eq_false, not_false_eq_true, if_true, if_false, false_and, and_false] at h0 ⊢
      exact h0
end
section
/-! the class: gaps -/
theorem TkX_zz {M M' : am_M} {s g z v : Nat} {wt : Nat → Prop} {dep : Nat → Nat} {dr ld : Nat} {B : List Fct} {Y : List Sy} {S : Nat → Nat → Prop} (hs : s < 8) (hg : isSh g) (hz : z = 2 ∨ z = 83) (h : TkX M s g z v wt dep dr ld B Y) (hS : zF S M M') (hd : ∀ a j, (g ≤ a ∧ a ≤ g + 6) ∨ a = z + 21 → ¬ S a j) : TkX M' s g z v wt dep dr ld B Y := by
  have hgl := isSh_lt hg
  have ri : ∀ a j, (g ≤ a ∧ a ≤ g + 6) ∨ a = z + 21 → mI M' a j = mI M a j := fun a j ha => hS.2.2.2.1 a j (by omega) (fun s' hs' => by omega) (hd a j ha)
  have rr : ∀ j, mR M' (173 + 13 * s) j = mR M (173 + 13 * s) j := fun j => hS.2.2.2.2.2.1 _ j (by omega) (fun s' hs' => by omega)
  obtain ⟨h1, ⟨a1, a2, a3, a4, a5, a6, a7⟩, ⟨b1, b2, b3⟩, ⟨c1, c2, c3⟩⟩ := h
  refine ⟨hS.2.2.2.2.2.2 s v wt hs h1, ⟨by rw [rr]; exact a1, by rw [rr]; exact a2, by rw [ri _ _ (by omega)]; exact a3, by rw [ri _ _ (by omega)]; exact a4, a5, a6, fun p hp => ⟨(a7 p hp).1, by rw [ri _ _ (by omega)]; exact (a7 p hp).2⟩⟩, ⟨by rw [ri _ _ (by omega)]; exact b1, b2, fun i f hf => ?_⟩, ⟨by rw [ri _ _ (by omega)]; exact c1, c2, fun i f hf => ?_⟩⟩
  · obtain ⟨q1, q2, q3, q4⟩ := b3 i f hf
    exact ⟨q1, by rw [ri _ _ (by omega)]; exact q2, by rw [ri _ _ (by omega)]; exact q3, by rw [ri _ _ (by omega)]; exact q4⟩
  · obtain ⟨q1, q2, q3, q4⟩ := c3 i f hf
    exact ⟨q1, by rw [ri _ _ (by omega)]; exact q2, by rw [ri _ _ (by omega)]; exact q3, by rw [ri _ _ (by omega)]; exact q4⟩
theorem sMm_g {g z a j : Nat} (hg : isSh g) (hz : z = 2 ∨ z = 83) (h : (g ≤ a ∧ a ≤ g + 6) ∨ a = z + 21) : ¬ sMm z a j := by
  obtain ⟨s, h1, h2⟩ := hg
  unfold sMm
  omega
theorem SetX_z {M M' : am_M} {s v : Nat} {wt : Nat → Prop} {snd : Nat → Bool → Prop} {B : List Fct} {Y : List Sy} {S : Nat → Nat → Prop} (hs : s < 8) (h : SetX M s v wt snd B Y) (hz : zF S M M') (hd : ∀ a j, (a = 173 + 13 * s ∧ (j = 8 ∨ j = 11)) ∨ (181 + 13 * s ≤ a ∧ a ≤ 183 + 13 * s) → ¬ S a j) : SetX M' s v wt snd B Y := by
  obtain ⟨h1, h2, h3, h4, h5⟩ := h
  have ri : ∀ a j, (a = 173 + 13 * s ∧ (j = 8 ∨ j = 11)) ∨ (181 + 13 * s ≤ a ∧ a ≤ 183 + 13 * s) → mI M' a j = mI M a j := fun a j ha => hz.2.2.2.1 a j (by omega) (fun s' hs' => by omega) (hd a j ha)
  refine ⟨by rw [ri _ _ (by omega)]; exact h1, fun k y hy => by rw [ri _ _ (by omega)]; exact h2 k y hy, by rw [ri _ _ (by omega)]; exact h3, fun k hk => by rw [ri _ _ (by omega)]; exact h4 k hk, fun h hh q => ?_⟩
  exact (inS_ext (fun i _ => hz.2.2.2.2.1 _ _ (by omega) (hd _ _ (by omega))) q).trans (h5 h hh q)
section
variable (wt : Nat → Prop) (v : Nat) (snd : Nat → Bool → Prop) (B : List Fct) (Y : List Sy) (qut : Nat → Nat → Prop)
/-- an honest hour -/
def hnY (h : Nat) : Prop := ∃ q, mayY wt v snd B Y q h ∧ qut q h
/-- an hour between sayings, in which nothing is said -/
def usY (t : Nat) : Prop := (∃ y, y ∈ Y ∧ y.1 < t) ∧ (∃ y, y ∈ Y ∧ t < y.1) ∧ ∀ y, y ∈ Y → ¬ y.1 = t
noncomputable def unN (n : Nat) : Nat := cnt (fun t => dB (usY Y t)) n
noncomputable def gpN (n : Nat) : Nat := cnt (fun t => dB (usY Y t ∧ ¬ hnY wt v snd B Y qut t)) n
end
theorem l_x_hon2 (d s z h i : Nat) (may : Nat → Prop) (dep cst : Nat → Nat) (qut : Nat → Nat → Prop) (M0 : am_M) (Q : Option Value → am_M → Prop) (hs : s < 8) (hz : z = 2 ∨ z = 83) (hh : h < 48) (hi : i < 4) (hR : mR M0 (173 + 13 * s) 1 = some z) (hm : ∀ q, inS (my4 M0 s h) q ↔ may q)
    (hY : ∀ M', zF (sMm z) M0 M' → SqX M' z dep cst qut → (∃ q, may q ∧ qut q h) → Q (some (.int 1)) M')
    (hN : ∀ M' x v5, zF (sMm z) M0 M' → SqX M' z dep cst qut → (∀ q, q < 64 * (i + 1) → may q → ¬ qut q h) → am_P am_P0 (d + 5) (am_look tX8_isHonest) 2 [.ref (173 + 13 * s), .int (nI h), .int (nI (i + 1)), .long x, am_x, .int v5] [] M' Q) :
    ∀ (r k : Nat), k + r = 64 → ∀ (M : am_M) (x : Int64), zF (sMm z) M0 M → SqX M z dep cst qut → (∀ j, sbit x j = sbit (mL M0 (183 + 13 * s) (4 * h + i)) (k + j)) → (∀ q, q < 64 * i + k → may q → ¬ qut q h) → am_P am_P0 (d + 5) (am_look tX8_isHonest) 24 [.ref (173 + 13 * s), .int (nI h), .int (nI i), .long x, am_x, .int (nI (64 * i + k))] [] M Q := by
  have e64 : nI i * 64 + 64 = nI (64 * i + 64) := by rw [show (64 : Int32) = nI 64 from rfl, ni_mul, ni_add, Nat.mul_comm]
  have hq : ∀ q, q < 256 → q / 64 = i → (may q ↔ sbit (mL M0 (183 + 13 * s) (4 * h + i)) (q % 64) = true) := fun q h1 h2 => by
    rw [← hm q]
    unfold inS my4
    rw [h2]
    exact ⟨fun q => q.2, fun q => ⟨h1, q⟩⟩
  intro r
  induction r with
  | zero =>
    intro k hk M x hM hS hx hno
    have e : k = 64 := by omega
    subst e
    have hle : nI (64 * i + 64) ≤ nI (64 * i + 64) := (ni_le (by omega) (by omega)).mpr (Nat.le_refl _)
    have h0 := hN M x (nI (64 * i + 64)) hM hS (fun q hq => hno q (by omega))
    rw [hX8_isHonest_24]
    simp +decide only [qX8_isHonest_0, qX8_isHonest_1, e64, lgc_0, ni_add1, am_w1_i, am_w1_r, am_w1_x, am_w1_l, am_w1_w, va_rf_s, am_push_n, am_push_s, am_cs_0, am_cs_i, am_cs_l, am_cs_r, m_uI_K, m_uI_N, m_uI_R, m_uI_L, m_uI_I, m_uL_K, m_uL_N, m_uL_R, m_uL_I, m_uL_L, m_uR_K, m_uR_N, m_uR_I, m_uR_L, m_uR_R, true_and, and_true, true_implies, false_implies, not_true_eq_false, not_false_eq_true, if_true, if_false, false_and, and_false]
    by_cases c : x = 0
    · rw [br_p c]; exact h0
    · rw [br_n c, br_p hle]; exact h0
  | succ r ih =>
    intro k hk M x hM hS hx hno
    have hlt : ¬ nI (64 * i + 64) ≤ nI (64 * i + k) := by rw [ni_le (by omega) (by omega)]; omega
    have hRM : mR M (173 + 13 * s) 1 = some z := by rw [hM.2.2.2.2.2.1 _ _ (by omega) (fun s' hs' => by omega)]; exact hR
    have hb0 := sb_bit0 x
    have hx0 := hx 0
    have hmk := hq (64 * i + k) (by omega) (by omega)
    have ek : (64 * i + k) % 64 = k := by omega
    rw [ek] at hmk
    rw [Nat.add_zero] at hx0
    have hsh : ∀ j, sbit (x.toUInt64 >>> ((1 : Int32).toInt64 &&& 63).toUInt64).toInt64 j = sbit (mL M0 (183 + 13 * s) (4 * h + i)) (k + 1 + j) := fun j => by
      rw [sb_shr x (k := 1) (by decide), hx, Nat.add_assoc]
    rw [hX8_isHonest_24]
    simp +decide only [qX8_isHonest_0, qX8_isHonest_1, lt_ hM.1 (isTr_of hs), hRM, lz hM.1 hz, e64, lgc_0, ni_add1, am_w1_i, am_w1_r, am_w1_x, am_w1_l, am_w1_w, va_rf_s, am_push_n, am_push_s, am_cs_0, am_cs_i, am_cs_l, am_cs_r, m_uI_K, m_uI_N, m_uI_R, m_uI_L, m_uI_I, m_uL_K, m_uL_N, m_uL_R, m_uL_I, m_uL_L, m_uR_K, m_uR_N, m_uR_I, m_uR_L, m_uR_R, true_and, and_true, true_implies, false_implies, not_true_eq_false, not_false_eq_true, if_true, if_false, false_and, and_false]
    by_cases c : x = 0
    · have h0 := hN M x (nI (64 * i + k)) hM hS (fun q hql hmq => by
        by_cases e : q < 64 * i + k
        · exact hno q e hmq
        · have := (hq q (by omega) (by omega)).mp hmq
          have h2 := hx (q % 64 - k)
          rw [c, sb_0, show k + (q % 64 - k) = q % 64 by omega, this] at h2
          cases h2)
      rw [br_p c]
      exact h0
    · rw [br_n c, br_n hlt]
      by_cases c0 : x &&& 1 = 0
      · have hf := hb0.mp c0
        rw [hx0] at hf
        rw [br_p c0]
        exact ih (k + 1) (by omega) M _ hM hS hsh (fun q hql hmq => by
          by_cases e : q = 64 * i + k
          · subst e; rw [hmk, hf] at hmq; cases hmq
          · exact hno q (by omega) hmq)
      · have hf : sbit x 0 = true := by
          rw [← Bool.not_eq_false]; exact fun q => c0 (hb0.mpr q)
        rw [hx0] at hf
        rw [br_n c0]
        refine c_x_isQuiet d z (64 * i + k) h dep cst qut M _ hM.1 hM.2.1 hz (by omega) hh hS (fun M1 g1 S1 => ?_)
        have hM1 := zF_trans hM g1
        simp +decide only [qX8_isHonest_0, qX8_isHonest_1, ni_add1, am_w1_i, am_w1_r, am_w1_x, am_w1_l, am_w1_w, va_rf_s, am_push_n, am_push_s, am_cs_0, am_cs_i, am_cs_l, am_cs_r, m_uI_K, m_uI_N, m_uI_R, m_uI_L, m_uI_I, m_uL_K, m_uL_N, m_uL_R, m_uL_I, m_uL_L, m_uR_K, m_uR_N, m_uR_I, m_uR_L, m_uR_R, true_and, and_true, true_implies, false_implies, not_true_eq_false, not_false_eq_true, if_true, if_false, false_and, and_false]
        by_cases cq : qut (64 * i + k) h
        · rw [tI_t cq, br_n (by decide)]
          exact hY M1 hM1 S1 ⟨_, hmk.mpr hf, cq⟩
        · rw [tI_f cq, br_p rfl]
          exact ih (k + 1) (by omega) M1 _ hM1 S1 hsh (fun q hql hmq => by
            by_cases e : q = 64 * i + k
            · subst e; exact cq
            · exact hno q (by omega) hmq)
theorem l_x_hon1 (d s z h : Nat) (may : Nat → Prop) (dep cst : Nat → Nat) (qut : Nat → Nat → Prop) (M0 : am_M) (Q : Option Value → am_M → Prop) (hs : s < 8) (hz : z = 2 ∨ z = 83) (hh : h < 48) (hR : mR M0 (173 + 13 * s) 1 = some z) (hm : ∀ q, inS (my4 M0 s h) q ↔ may q)
    (hY : ∀ M', zF (sMm z) M0 M' → SqX M' z dep cst qut → (∃ q, may q ∧ qut q h) → Q (some (.int 1)) M')
    (hN : ∀ M', zF (sMm z) M0 M' → SqX M' z dep cst qut → ¬ (∃ q, may q ∧ qut q h) → Q (some (.int 0)) M') :
    ∀ (r i : Nat), i + r = 4 → ∀ (M : am_M) (v3 v4 v5 : Value), zF (sMm z) M0 M → SqX M z dep cst qut → (∀ q, q < 64 * i → may q → ¬ qut q h) → am_P am_P0 (d + 5) (am_look tX8_isHonest) 2 [.ref (173 + 13 * s), .int (nI h), .int (nI i), v3, v4, v5] [] M Q := by
  obtain ⟨w, hwe⟩ : ∃ w, w = 173 + 13 * s := ⟨_, rfl⟩
  have hw : isTr w := ⟨s, hs, hwe⟩
  have e10 : 183 + 13 * s = w + 10 := by omega
  intro r
  induction r with
  | zero =>
    intro i hi M v3 v4 v5 hM hS hno
    have e : i = 4 := by omega
    subst e
    have h0 := hN M hM hS (fun ⟨q, q1, q2⟩ => hno q ((hm q).mpr q1).1 q1 q2)
    rw [hX8_isHonest_2]
    simp +decide only [qX8_isHonest_0, qX8_isHonest_1, am_w1_i, am_w1_r, am_w1_x, am_w1_l, am_w1_w, va_rf_s, am_push_n, am_push_s, am_cs_0, am_cs_i, am_cs_l, am_cs_r, m_uI_K, m_uI_N, m_uI_R, m_uI_L, m_uI_I, m_uL_K, m_uL_N, m_uL_R, m_uL_I, m_uL_L, m_uR_K, m_uR_N, m_uR_I, m_uR_L, m_uR_R, true_and, and_true, true_implies, false_implies, not_true_eq_false, not_false_eq_true, if_true, if_false, false_and, and_false]
    exact h0
  | succ r ih =>
    intro i hi M v3 v4 v5 hM hS hno
    have hlt : ¬ (4 : Int32) ≤ nI i := by rw [show (4 : Int32) = nI 4 from rfl, ni_le (by omega) (by omega)]; omega
    have e1 : nI h * 4 + nI i = nI (4 * h + i) := by rw [show (4 : Int32) = nI 4 from rfl, ni_mul, ni_add, Nat.mul_comm]
    have e2 : nI i * 64 = nI (64 * i + 0) := by rw [show (64 : Int32) = nI 64 from rfl, ni_mul, Nat.mul_comm]; rfl
    have hl : mL M (w + 10) (4 * h + i) = mL M0 (w + 10) (4 * h + i) := hM.2.2.2.2.1 _ _ (by omega) (by unfold sMm; omega)
    have h0 := l_x_hon2 d s z h i may dep cst qut M0 Q hs hz hh (by omega) hR hm hY (fun M' x v5 a1 a2 a3 => ih (i + 1) (by omega) M' _ _ _ a1 a2 a3) 64 0 (by omega) M (mL M0 (w + 10) (4 * h + i)) hM hS (fun j => by rw [e10, Nat.zero_add]) hno
    rw [← hwe] at h0 ⊢
    rw [hX8_isHonest_2]
    simp +decide (disch := omega) only [qX8_isHonest_0, qX8_isHonest_1, lt_ hM.1 hw, e1, e2, hl, ni_in_t, ni_tn, am_w1_i, am_w1_r, am_w1_x, am_w1_l, am_w1_w, va_rf_s, am_push_n, am_push_s, am_cs_0, am_cs_i, am_cs_l, am_cs_r, m_uI_K, m_uI_N, m_uI_R, m_uI_L, m_uI_I, m_uL_K, m_uL_N, m_uL_R, m_uL_I, m_uL_L, m_uR_K, m_uR_N, m_uR_I, m_uR_L, m_uR_R, true_and, and_true, true_implies, false_implies, not_true_eq_false, not_false_eq_true, if_true, if_false, false_and, and_false]
    rw [br_n hlt]
    exact h0
theorem c_x_isHonest (d s z h : Nat) (may : Nat → Prop) (dep cst : Nat → Nat) (qut : Nat → Nat → Prop) (M : am_M) (Q : Option Value → am_M → Prop) (hL : Lay M) (hI : RInv M) (hs : s < 8) (hz : z = 2 ∨ z = 83) (hh : h < 48) (hR : mR M (173 + 13 * s) 1 = some z) (hm : ∀ q, inS (my4 M s h) q ↔ may q) (hS : SqX M z dep cst qut)
    (hQ : ∀ M', zF (sMm z) M M' → SqX M' z dep cst qut → Q (some (.int (tI (∃ q, may q ∧ qut q h)))) M') : am_E am_P0 (d + 5) 99 [.ref (173 + 13 * s), .int (nI h)] M Q := by
  rw [eX8_isHonest]
  simp +decide only [qX8_isHonest_0, qX8_isHonest_1, am_w1_i, am_w1_r, am_w1_x, am_w1_l, am_w1_w, va_rf_s, am_push_n, am_push_s, am_cs_0, am_cs_i, am_cs_l, am_cs_r, m_uI_K, m_uI_N, m_uI_R, m_uI_L, m_uI_I, m_uL_K, m_uL_N, m_uL_R, m_uL_I, m_uL_L, m_uR_K, m_uR_N, m_uR_I, m_uR_L, m_uR_R, true_and, and_true, true_implies, false_implies, not_true_eq_false, not_false_eq_true, if_true, if_false, false_and, and_false]
  rw [show (0 : Int32) = nI 0 from rfl]
  exact l_x_hon1 d s z h may dep cst qut M Q hs hz hh hR hm (fun M1 g1 s1 c => by have := hQ M1 g1 s1; rw [tI_t c] at this; exact this) (fun M1 g1 s1 c => by have := hQ M1 g1 s1; rw [tI_f c] at this; exact this) 4 0 (by omega) M _ _ _ (zF_refl hL hI) hS (fun q hq => by omega)
end
section
/-! the class: counting gaps -/
theorem us_no1 {Y : List Sy} {y : Sy} {t : Nat} (hs : srtY Y) (h0 : Y[0]? = some y) (ht : t ≤ y.1) : ¬ usY Y t := by
  rintro ⟨⟨y', h1, h2⟩, -⟩
  obtain ⟨k, hk⟩ := List.mem_iff_getElem?.mp h1
  by_cases e : k = 0
  · subst e; cases h0.symm.trans hk; omega
  · have := srtY_lt hs (i := 0) (j := k) h0 hk (by omega)
    omega
theorem us_no2 {Y : List Sy} {y : Sy} {n t : Nat} (hs : srtY Y) (hn : n + 1 = Y.length) (h0 : Y[n]? = some y) (ht : y.1 ≤ t) : ¬ usY Y t := by
  rintro ⟨-, ⟨y', h1, h2⟩, -⟩
  obtain ⟨k, hk⟩ := List.mem_iff_getElem?.mp h1
  have hkl := (List.getElem?_eq_some_iff.mp hk).1
  by_cases e : k = n
  · subst e; cases h0.symm.trans hk; omega
  · have := srtY_lt hs (i := k) (j := n) hk h0 (by omega)
    omega
theorem us_at {Y : List Sy} {y y' : Sy} {i t : Nat} (hs : srtY Y) (h0 : Y[i]? = some y) (h1 : Y[i + 1]? = some y') (ht : y.1 < t) (ht2 : t < y'.1) : usY Y t := by
  refine ⟨⟨y, List.mem_of_getElem? h0, ht⟩, ⟨y', List.mem_of_getElem? h1, ht2⟩, fun u hu e => ?_⟩
  obtain ⟨k, hk⟩ := List.mem_iff_getElem?.mp hu
  rcases Nat.lt_trichotomy k i with q | q | q
  · have := srtY_lt hs hk h0 q; omega
  · subst q; cases h0.symm.trans hk; omega
  · by_cases e2 : k = i + 1
    · subst e2; cases h1.symm.trans hk; omega
    · have := srtY_lt hs h1 hk (by omega); omega
theorem us_said {Y : List Sy} {y : Sy} (h : y ∈ Y) : ¬ usY Y y.1 := fun q => q.2.2 y h rfl
theorem cnt_stay {g : Nat → Bool} {a b : Nat} (h : a ≤ b) (hg : ∀ t, a ≤ t → t < b → ¬ g t = true) : cnt g b = cnt g a := by
  induction b with
  | zero => have : a = 0 := by omega
            subst this; rfl
  | succ b ih =>
    by_cases e : a = b + 1
    · rw [e]
    · rw [cnt_f (hg b (by omega) (by omega))]
      exact ih (by omega) (fun t h1 h2 => hg t h1 (by omega))
section
variable (wt : Nat → Prop) (v : Nat) (snd : Nat → Bool → Prop) (B : List Fct) (Y : List Sy) (qut : Nat → Nat → Prop)
/-- what counting leaves -/
def GpX (M : am_M) (s : Nat) : Prop := mI M (173 + 13 * s) 4 = 1 ∧ SetX M s v wt snd B Y ∧ mI M (173 + 13 * s) 13 = nI (unN Y 48) ∧ mI M (173 + 13 * s) 14 = nI (gpN wt v snd B Y qut 48)
def CtX (M : am_M) (s : Nat) : Prop := mI M (173 + 13 * s) 5 = 0 ∨ (mI M (173 + 13 * s) 5 = 1 ∧ GpX wt v snd B Y qut M s)
end
def sGp (s z a j : Nat) : Prop := sSt s a j ∨ sMm z a j ∨ (a = 173 + 13 * s ∧ (j = 5 ∨ j = 13 ∨ j = 14))
/-- while it is counted: t hours are through -/
def GqX (wt : Nat → Prop) (v : Nat) (snd : Nat → Bool → Prop) (B : List Fct) (Y : List Sy) (qut : Nat → Nat → Prop) (M : am_M) (s t : Nat) : Prop := mI M (173 + 13 * s) 4 = 1 ∧ mI M (173 + 13 * s) 5 = 1 ∧ SetX M s v wt snd B Y ∧ mI M (173 + 13 * s) 13 = nI (unN Y t) ∧ mI M (173 + 13 * s) 14 = nI (gpN wt v snd B Y qut t)
theorem sGp_g {s g z a j : Nat} (hg : isSh g) (hz : z = 2 ∨ z = 83) (h : (g ≤ a ∧ a ≤ g + 6) ∨ a = z + 21) : ¬ sGp s z a j := by
  have := isSh_lt hg
  rintro (q | q | q)
  · unfold sSt at q; omega
  · exact sMm_g hg hz h q
  · omega
theorem l_x_gap2 (d s g z v i : Nat) (wt : Nat → Prop) (dep cst : Nat → Nat) (qut : Nat → Nat → Prop) (dr ld : Nat) (B : List Fct) (Y : List Sy) (y y' : Sy) (M0 : am_M) (Q : Option Value → am_M → Prop) (hs : s < 8) (hg : isSh g) (hz : z = 2 ∨ z = 83) (hsr : srtY Y) (hy : Y[i]? = some y) (hy' : Y[i + 1]? = some y')
    (hN : ∀ M', zF (sGp s z) M0 M' → TkX M' s g z v wt dep dr ld B Y → SqX M' z dep cst qut → GqX wt v (sndP dep dr ld) B Y qut M' s (y'.1 + 1) → am_P am_P0 (d + 6) (am_look tX8_countGaps) 29 [.ref (173 + 13 * s), .int (nI (i + 1)), .int (nI y'.1)] [] M' Q) :
    ∀ (r t : Nat), t + r = y'.1 → y.1 < t → ∀ (M : am_M), zF (sGp s z) M0 M → TkX M s g z v wt dep dr ld B Y → SqX M z dep cst qut → GqX wt v (sndP dep dr ld) B Y qut M s t → am_P am_P0 (d + 6) (am_look tX8_countGaps) 54 [.ref (173 + 13 * s), .int (nI i), .int (nI t)] [] M Q := by
  obtain ⟨w, hwe⟩ : ∃ w, w = 173 + 13 * s := ⟨_, rfl⟩
  have hw : isTr w := ⟨s, hs, hwe⟩
  have hil := (List.getElem?_eq_some_iff.mp hy').1
  intro r
  induction r with
  | zero =>
    intro t ht hyt M hM hT hS hG
    have h48 := hT.2.2.2.2.1
    have hR := hT.2.1.1
    have e : t = y'.1 := by omega
    subst e
    obtain ⟨⟨y1, y2⟩, y3, y4, y5⟩ := hT.2.2.2.2.2 (i + 1) y' hy'
    have hle : nI y'.1 ≤ nI y'.1 := (ni_le (by omega) (by omega)).mpr (Nat.le_refl _)
    have hus := us_said (List.mem_of_getElem? hy')
    have h0 := hN M hM hT hS ⟨hG.1, hG.2.1, hG.2.2.1, by rw [hG.2.2.2.1]; unfold unN; rw [cnt_f (fun q => hus (dB_t.mp q))], by rw [hG.2.2.2.2]; unfold gpN; rw [cnt_f (fun q => hus (dB_t.mp q).1)]⟩
    rw [← hwe] at hR h0 ⊢
    rw [hX8_countGaps_54]
    simp +decide (disch := omega) only [qX8_countGaps_0, qX8_countGaps_1, lt_ hM.1 hw, lw_ hM.1 hg, hR, y3, ni_in_t, ni_tn, ni_add1, am_w1_i, am_w1_r, am_w1_x, am_w1_l, am_w1_w, va_rf_s, am_push_n, am_push_s, am_cs_0, am_cs_i, am_cs_l, am_cs_r, m_uI_K, m_uI_N, m_uI_R, m_uI_L, m_uI_I, m_uL_K, m_uL_N, m_uL_R, m_uL_I, m_uL_L, m_uR_K, m_uR_N, m_uR_I, m_uR_L, m_uR_R, true_and, and_true, true_implies, false_implies, not_true_eq_false, not_false_eq_true, if_true, if_false, false_and, and_false]
    rw [br_p hle]
    exact h0
  | succ r ih =>
    intro t ht hyt M hM hT hS hG
    have hL := hM.1
    have h48 := hT.2.2.2.2.1
    have hR := hT.2.1.1
    obtain ⟨⟨y1, y2⟩, y3, y4, y5⟩ := hT.2.2.2.2.2 (i + 1) y' hy'
    have hlt : ¬ nI y'.1 ≤ nI t := by rw [ni_le (by omega) (by omega)]; omega
    have hus := us_at hsr hy hy' hyt (by omega)
    have hun : unN Y (t + 1) = unN Y t + 1 := by unfold unN; rw [cnt_t (dB_t.mpr hus)]
    obtain ⟨g4, g5, gS, g13, g14⟩ := hG
    rw [← hwe] at hR g13 g14 ⊢
    have z1 : zF (fun a j => a = w ∧ (j = 13 ∨ j = 14)) M (uI M w 13 (nI (unN Y t + 1))) := zF_i hL hM.2.1 _ ⟨rfl, Or.inl rfl⟩ (fun s' hs' => by omega)
    have up2 : ∀ a j, (a = w ∧ (j = 13 ∨ j = 14)) → sGp s z a j := fun a j q => Or.inr (Or.inr ⟨by omega, by omega⟩)
    rw [hX8_countGaps_54]
    simp +decide (disch := omega) only [qX8_countGaps_0, qX8_countGaps_1, lt_ hL hw, lw_ hL hg, hR, y3, g13, g14, ni_in_t, ni_tn, ni_add1, am_w1_i, am_w1_r, am_w1_x, am_w1_l, am_w1_w, va_rf_s, am_push_n, am_push_s, am_cs_0, am_cs_i, am_cs_l, am_cs_r, m_uI_K, m_uI_N, m_uI_R, m_uI_L, m_uI_I, m_uL_K, m_uL_N, m_uL_R, m_uL_I, m_uL_L, m_uR_K, m_uR_N, m_uR_I, m_uR_L, m_uR_R, true_and, and_true, true_implies, false_implies, not_true_eq_false, not_false_eq_true, if_true, if_false, false_and, and_false]
    rw [br_n hlt]
    obtain ⟨M1, hM1⟩ : ∃ M1, M1 = uI M w 13 (nI (unN Y t + 1)) := ⟨_, rfl⟩
    rw [← hM1] at z1 ⊢
    have hk13 : mI M1 w 13 = nI (unN Y t + 1) := by rw [hM1, m_uI_I, if_pos ⟨rfl, rfl⟩]
    have k1 : ∀ a j, ¬ (a = w ∧ j = 13) → mI M1 a j = mI M a j := fun a j q => by rw [hM1, m_uI_I, if_neg q]
    have hR1 : mR M1 (173 + 13 * s) 1 = some z := by rw [hM1]; exact hT.2.1.2.1
    have S1 : SqX M1 z dep cst qut := SqX_u hS (fun a j q1 q2 q3 => k1 _ _ (by omega)) (fun a j q => by rw [hM1]; rfl)
    have gS1 : SetX M1 s v wt (sndP dep dr ld) B Y := SetX_z hs gS z1 (fun a j q w => by omega)
    have T1 := TkX_zz hs hg hz hT z1 (fun a j q w => by have := isSh_lt hg; omega)
    rw [hwe]
    refine c_x_isHonest d s z t (fun q => mayY wt v (sndP dep dr ld) B Y q t) dep cst qut M1 _ z1.1 z1.2.1 hs hz (by omega) hR1 (gS1.2.2.2.2 t (by omega)) S1 (fun M2 g2 S2 => ?_)
    have gS2 : SetX M2 s v wt (sndP dep dr ld) B Y := SetX_z hs gS1 g2 (fun a j q w => by unfold sMm at w; omega)
    have T2 := TkX_zz hs hg hz T1 g2 (fun a j q => sMm_g hg hz q)
    have k2 : ∀ j, mI M2 w j = mI M1 w j := fun j => g2.2.2.2.1 _ _ (by omega) (fun s' hs' => by omega) (by unfold sMm; omega)
    have fin : ∀ n, n = gpN wt v (sndP dep dr ld) B Y qut (t + 1) → am_P am_P0 (d + 6) (am_look tX8_countGaps) 54 [.ref w, .int (nI i), .int (nI (t + 1))] [] (uI M2 w 14 (nI n)) Q := fun n hn => by
      have z3 : zF (fun a j => a = w ∧ (j = 13 ∨ j = 14)) M2 (uI M2 w 14 (nI n)) := zF_i g2.1 g2.2.1 _ ⟨rfl, Or.inr rfl⟩ (fun s' hs' => by omega)
      have r3 : ∀ j, ¬ j = 14 → mI (uI M2 w 14 (nI n)) (173 + 13 * s) j = mI M1 w j := fun j hj => by rw [m_uI_I, if_neg (fun q => hj q.2), ← hwe, k2]
      have h0 := ih (t + 1) (by omega) (by omega) (uI M2 w 14 (nI n)) (zF_trans hM (zF_trans (zF_up z1 up2) (zF_trans (zF_up g2 (fun a j q => Or.inr (Or.inl q))) (zF_up z3 up2)))) (TkX_zz hs hg hz T2 z3 (fun a j q w => by have := isSh_lt hg; omega)) (SqX_u S2 (fun a j q1 q2 q3 => by rw [m_uI_I, if_neg (by omega)]) (fun a j q => rfl)) ⟨by rw [r3 _ (by omega), k1 _ _ (by omega), hwe]; exact g4, by rw [r3 _ (by omega), k1 _ _ (by omega), hwe]; exact g5, SetX_z hs gS2 z3 (fun a j q w => by omega), by rw [r3 _ (by omega), hk13, hun], by rw [m_uI_I, if_pos ⟨hwe.symm, rfl⟩, hn]⟩
      rw [← hwe] at h0
      exact h0
    rw [← hwe]
    by_cases ch : hnY wt v (sndP dep dr ld) B Y qut t
    · have ch' : ∃ q, mayY wt v (sndP dep dr ld) B Y q t ∧ qut q t := ch
      have h0 := fin (gpN wt v (sndP dep dr ld) B Y qut t) (by unfold gpN; rw [cnt_f (fun q => (dB_t.mp q).2 ch)])
      have ez : nI (gpN wt v (sndP dep dr ld) B Y qut t) + 0 = nI (gpN wt v (sndP dep dr ld) B Y qut t) := Int32.add_zero _
      rw [tI_t ch']
      simp +decide only [qX8_countGaps_0, qX8_countGaps_1, lt_ g2.1 hw, k2, k1 w 14 (by omega), g14, ez, ni_add1, am_w1_i, am_w1_r, am_w1_x, am_w1_l, am_w1_w, va_rf_s, am_push_n, am_push_s, am_cs_0, am_cs_i, am_cs_l, am_cs_r, m_uI_K, m_uI_N, m_uI_R, m_uI_L, m_uI_I, m_uL_K, m_uL_N, m_uL_R, m_uL_I, m_uL_L, m_uR_K, m_uR_N, m_uR_I, m_uR_L, m_uR_R, true_and, and_true, true_implies, false_implies, not_true_eq_false, not_false_eq_true, if_true, if_false, false_and, and_false]
      exact h0
    · have ch' : ¬ ∃ q, mayY wt v (sndP dep dr ld) B Y q t ∧ qut q t := ch
      have h0 := fin (gpN wt v (sndP dep dr ld) B Y qut t + 1) (by unfold gpN; rw [cnt_t (dB_t.mpr ⟨hus, ch⟩)])
      rw [tI_f ch']
      simp +decide only [qX8_countGaps_0, qX8_countGaps_1, lt_ g2.1 hw, k2, k1 w 14 (by omega), g14, ni_add1, am_w1_i, am_w1_r, am_w1_x, am_w1_l, am_w1_w, va_rf_s, am_push_n, am_push_s, am_cs_0, am_cs_i, am_cs_l, am_cs_r, m_uI_K, m_uI_N, m_uI_R, m_uI_L, m_uI_I, m_uL_K, m_uL_N, m_uL_R, m_uL_I, m_uL_L, m_uR_K, m_uR_N, m_uR_I, m_uR_L, m_uR_R, true_and, and_true, true_implies, false_implies, not_true_eq_false, not_false_eq_true, if_true, if_false, false_and, and_false]
      exact h0
theorem l_x_gap1 (d s g z v : Nat) (wt : Nat → Prop) (dep cst : Nat → Nat) (qut : Nat → Nat → Prop) (dr ld : Nat) (B : List Fct) (Y : List Sy) (M0 : am_M) (Q : Option Value → am_M → Prop) (hs : s < 8) (hg : isSh g) (hz : z = 2 ∨ z = 83) (hsr : srtY Y)
    (hQ : ∀ M', zF (sGp s z) M0 M' → SqX M' z dep cst qut → mI M' (173 + 13 * s) 5 = 1 → GpX wt v (sndP dep dr ld) B Y qut M' s → Q none M') :
    ∀ (r i : Nat), i + 1 + r = Y.length → ∀ (y : Sy), Y[i]? = some y → ∀ (M : am_M) (v2 : Value), jk v2 → zF (sGp s z) M0 M → TkX M s g z v wt dep dr ld B Y → SqX M z dep cst qut → GqX wt v (sndP dep dr ld) B Y qut M s (y.1 + 1) → am_P am_P0 (d + 6) (am_look tX8_countGaps) 29 [.ref (173 + 13 * s), .int (nI i), v2] [] M Q := by
  obtain ⟨w, hwe⟩ : ∃ w, w = 173 + 13 * s := ⟨_, rfl⟩
  have hw : isTr w := ⟨s, hs, hwe⟩
  intro r
  induction r with
  | zero =>
    intro i hi y hy M v2 j2 hM hT hS hG
    have h48 := hT.2.2.2.2.1
    have hR := hT.2.1.1
    obtain ⟨⟨y1, y2⟩, y3, y4, y5⟩ := hT.2.2.2.2.2 i y hy
    have hle : nI Y.length ≤ nI (i + 1) := (ni_le (by omega) (by omega)).mpr (by omega)
    have hno : ∀ t, y.1 + 1 ≤ t → t < 48 → ¬ usY Y t := fun t h1 h2 => us_no2 hsr (by omega) hy (by omega)
    have h0 := hQ M hM hS hG.2.1 ⟨hG.1, hG.2.2.1, by rw [hG.2.2.2.1]; unfold unN; rw [cnt_stay (b := 48) (a := y.1 + 1) (by omega) (fun t h1 h2 q => hno t h1 h2 (dB_t.mp q))], by rw [hG.2.2.2.2]; unfold gpN; rw [cnt_stay (b := 48) (a := y.1 + 1) (by omega) (fun t h1 h2 q => hno t h1 h2 (dB_t.mp q).1)]⟩
    rw [← hwe] at hR ⊢
    rw [hX8_countGaps_29]
    simp +decide only [qX8_countGaps_0, qX8_countGaps_1, lt_ hM.1 hw, lw_ hM.1 hg, hR, hT.2.2.2.1, ni_add1, am_w1_i, am_w1_r, am_w1_x, am_w1_l, am_w1_w, va_rf_s, am_push_n, am_push_s, am_cs_0, am_cs_i, am_cs_l, am_cs_r, m_uI_K, m_uI_N, m_uI_R, m_uI_L, m_uI_I, m_uL_K, m_uL_N, m_uL_R, m_uL_I, m_uL_L, m_uR_K, m_uR_N, m_uR_I, m_uR_L, m_uR_R, true_and, and_true, true_implies, false_implies, not_true_eq_false, not_false_eq_true, if_true, if_false, false_and, and_false]
    rw [br_p hle]
    exact h0
  | succ r ih =>
    intro i hi y hy M v2 j2 hM hT hS hG
    have h48 := hT.2.2.2.2.1
    have hR := hT.2.1.1
    obtain ⟨⟨y1, y2⟩, y3, y4, y5⟩ := hT.2.2.2.2.2 i y hy
    obtain ⟨y', hy'⟩ : ∃ y, Y[i + 1]? = some y := ⟨Y[i + 1]'(by omega), List.getElem?_eq_getElem (by omega)⟩
    have hyy := srtY_lt hsr hy hy' (by omega)
    have hlt : ¬ nI Y.length ≤ nI (i + 1) := by rw [ni_le (by omega) (by omega)]; omega
    have h0 := l_x_gap2 d s g z v i wt dep cst qut dr ld B Y y y' M0 Q hs hg hz hsr hy hy' (fun M' a1 a2 a3 a4 => ih (i + 1) (by omega) y' hy' M' _ (Or.inr ⟨_, rfl⟩) a1 a2 a3 a4) (y'.1 - (y.1 + 1)) (y.1 + 1) (by omega) (by omega) M hM hT hS hG
    rw [← hwe] at hR h0 ⊢
    rw [hX8_countGaps_29]
    simp +decide (disch := omega) only [qX8_countGaps_0, qX8_countGaps_1, lt_ hM.1 hw, lw_ hM.1 hg, hR, hT.2.2.2.1, y3, ni_in_t, ni_tn, ni_add1, am_w1_i, am_w1_r, am_w1_x, am_w1_l, am_w1_w, va_rf_s, am_push_n, am_push_s, am_cs_0, am_cs_i, am_cs_l, am_cs_r, m_uI_K, m_uI_N, m_uI_R, m_uI_L, m_uI_I, m_uL_K, m_uL_N, m_uL_R, m_uL_I, m_uL_L, m_uR_K, m_uR_N, m_uR_I, m_uR_L, m_uR_R, true_and, and_true, true_implies, false_implies, not_true_eq_false, not_false_eq_true, if_true, if_false, false_and, and_false]
    rw [br_n hlt]
    exact h0
theorem c_x_countGaps (d s g z v : Nat) (wt : Nat → Prop) (dep cst : Nat → Nat) (qut : Nat → Nat → Prop) (dr ld : Nat) (B : List Fct) (Y : List Sy) (M : am_M) (Q : Option Value → am_M → Prop) (hL : Lay M) (hI : RInv M) (hs : s < 8) (hg : isSh g) (hz : z = 2 ∨ z = 83) (hsr : srtY Y) (hsw : ∀ y, y ∈ Y → sndP dep dr ld y.2.1 y.2.2 → wt y.2.1) (hT : TkX M s g z v wt dep dr ld B Y) (hS : SqX M z dep cst qut) (hSt : StX M s v wt (sndP dep dr ld) B Y) (hC : CtX wt v (sndP dep dr ld) B Y qut M s)
    (hQ : ∀ M', zF (sGp s z) M M' → SqX M' z dep cst qut → mI M' (173 + 13 * s) 5 = 1 → GpX wt v (sndP dep dr ld) B Y qut M' s → Q none M') : am_E am_P0 (d + 6) 98 [.ref (173 + 13 * s)] M Q := by
  obtain ⟨w, hwe⟩ : ∃ w, w = 173 + 13 * s := ⟨_, rfl⟩
  have hw : isTr w := ⟨s, hs, hwe⟩
  have hgl := isSh_lt hg
  rw [eX8_countGaps]
  rcases hC with h5 | ⟨h5, hG⟩
  · rw [← hwe] at h5 ⊢
    have z1 : zF (fun a j => a = w ∧ j = 5) M (uI M w 5 1) := zF_i hL hI _ ⟨rfl, rfl⟩ (fun s' hs' => by omega)
    have T1 := TkX_zz hs hg hz hT z1 (fun a j q w => by omega)
    simp +decide (disch := omega) only [qX8_countGaps_0, qX8_countGaps_1, lt_ hL hw, h5, am_w1_i, am_w1_r, am_w1_x, am_w1_l, am_w1_w, va_rf_s, am_push_n, am_push_s, am_cs_0, am_cs_i, am_cs_l, am_cs_r, m_uI_K, m_uI_N, m_uI_R, m_uI_L, m_uI_I, m_uL_K, m_uL_N, m_uL_R, m_uL_I, m_uL_L, m_uR_K, m_uR_N, m_uR_I, m_uR_L, m_uR_R, true_and, and_true, true_implies, false_implies, not_true_eq_false, not_false_eq_true, if_true, if_false, false_and, and_false]
    obtain ⟨M1, hM1⟩ : ∃ M1, M1 = uI M w 5 1 := ⟨_, rfl⟩
    rw [← hM1] at z1 T1 ⊢
    have k1 : ∀ a j, ¬ (a = w ∧ j = 5) → mI M1 a j = mI M a j := fun a j q => by rw [hM1, m_uI_I, if_neg q]
    have St1 : StX M1 s v wt (sndP dep dr ld) B Y := by
      rcases hSt with q | ⟨q1, q2⟩
      · exact Or.inl (by rw [k1 _ _ (by omega)]; exact q)
      · exact Or.inr ⟨by rw [k1 _ _ (by omega)]; exact q1, SetX_z hs q2 z1 (fun a j q w => by omega)⟩
    rw [hwe]
    refine c_x_settle (d + 1) s g z v wt dep dr ld B Y M1 _ z1.1 z1.2.1 hs hg hz hsr hsw T1 St1 (fun M2 g2 m4 gS2 => ?_)
    have k2 : ∀ a j, a < 336 → (∀ s', s' < 8 → ¬ a = 177 + 13 * s') → ¬ sSt s a j → mI M2 a j = mI M1 a j := fun a j q1 q2 q3 => g2.2.2.2.1 a j q1 q2 q3
    have T2 := TkX_zz hs hg hz T1 g2 (fun a j q w => by unfold sSt at w; omega)
    have S2 : SqX M2 z dep cst qut := SqX_u hS (fun a j q1 q2 q3 => by rw [k2 _ _ (by omega) (fun s' hs' => by omega) (by unfold sSt; omega), k1 _ _ (by omega)]) (fun a j q => by rw [g2.2.2.2.2.1 _ _ (by omega) (by unfold sSt; omega), hM1]; rfl)
    have z3 : zF (fun a j => a = w ∧ (j = 13 ∨ j = 14)) M2 (uI M2 w 13 0) := zF_i g2.1 g2.2.1 _ ⟨rfl, Or.inl rfl⟩ (fun s' hs' => by omega)
    have z4 : zF (fun a j => a = w ∧ (j = 13 ∨ j = 14)) (uI M2 w 13 0) (uI (uI M2 w 13 0) w 14 0) := zF_i z3.1 z3.2.1 _ ⟨rfl, Or.inr rfl⟩ (fun s' hs' => by omega)
    have z34 := zF_trans z3 z4
    have T4 := TkX_zz hs hg hz T2 z34 (fun a j q w => by omega)
    have k4 : ∀ a j, ¬ (a = w ∧ j = 13) → ¬ (a = w ∧ j = 14) → mI (uI (uI M2 w 13 0) w 14 0) a j = mI M2 a j := fun a j q1 q2 => by rw [m_uI_I, if_neg q2, m_uI_I, if_neg q1]
    have S4 : SqX (uI (uI M2 w 13 0) w 14 0) z dep cst qut := SqX_u S2 (fun a j q1 q2 q3 => k4 _ _ (by omega) (by omega)) (fun a j q => rfl)
    have gS4 := SetX_z hs gS2 z34 (fun a j q w => by omega)
    have F4 : zF (sGp s z) M (uI (uI M2 w 13 0) w 14 0) := zF_trans (zF_up z1 (fun a j q => Or.inr (Or.inr ⟨by omega, by omega⟩))) (zF_trans (zF_up g2 (fun a j q => Or.inl q)) (zF_up z34 (fun a j q => Or.inr (Or.inr ⟨by omega, by omega⟩))))
    have m44 : mI (uI (uI M2 w 13 0) w 14 0) (173 + 13 * s) 4 = 1 := by rw [k4 _ _ (by omega) (by omega)]; exact m4
    have m45 : mI (uI (uI M2 w 13 0) w 14 0) (173 + 13 * s) 5 = 1 := by rw [k4 _ _ (by omega) (by omega), k2 _ _ (by omega) (fun s' hs' => by omega) (by unfold sSt; omega), hM1, m_uI_I, if_pos ⟨hwe.symm, rfl⟩]
    have m413 : mI (uI (uI M2 w 13 0) w 14 0) (173 + 13 * s) 13 = 0 := by rw [m_uI_I, if_neg (by omega), m_uI_I, if_pos ⟨hwe.symm, rfl⟩]
    have m414 : mI (uI (uI M2 w 13 0) w 14 0) (173 + 13 * s) 14 = 0 := by rw [m_uI_I, if_pos ⟨hwe.symm, rfl⟩]
    have hR4 := T4.2.1.1
    rw [← hwe] at hR4 ⊢
    simp +decide (disch := omega) only [qX8_countGaps_0, qX8_countGaps_1, lt_ g2.1 hw, am_w1_i, am_w1_r, am_w1_x, am_w1_l, am_w1_w, va_rf_s, am_push_n, am_push_s, am_cs_0, am_cs_i, am_cs_l, am_cs_r, m_uI_K, m_uI_N, m_uI_R, m_uI_L, m_uI_I, m_uL_K, m_uL_N, m_uL_R, m_uL_I, m_uL_L, m_uR_K, m_uR_N, m_uR_I, m_uR_L, m_uR_R, true_and, and_true, true_implies, false_implies, not_true_eq_false, not_false_eq_true, if_true, if_false, false_and, and_false]
    by_cases hn : Y.length = 0
    · have hno : ∀ t, ¬ usY Y t := fun t q => by
        obtain ⟨⟨y, hy, -⟩, -⟩ := q
        rw [List.length_eq_zero_iff.mp hn] at hy
        cases hy
      have h0 := hQ _ F4 S4 m45 ⟨m44, gS4, by rw [m413]; unfold unN; rw [cnt_0 (fun t q => hno t (dB_t.mp q))]; rfl, by rw [m414]; unfold gpN; rw [cnt_0 (fun t q => hno t (dB_t.mp q).1)]; rfl⟩
      have hc5 := T4.2.2.2.1
      rw [hn] at hc5
      rw [hX8_countGaps_29]
      simp +decide (disch := omega) only [qX8_countGaps_0, qX8_countGaps_1, lt_ F4.1 hw, lw_ F4.1 hg, hR4, hc5, am_w1_i, am_w1_r, am_w1_x, am_w1_l, am_w1_w, va_rf_s, am_push_n, am_push_s, am_cs_0, am_cs_i, am_cs_l, am_cs_r, m_uI_K, m_uI_N, m_uI_R, m_uI_L, m_uI_I, m_uL_K, m_uL_N, m_uL_R, m_uL_I, m_uL_L, m_uR_K, m_uR_N, m_uR_I, m_uR_L, m_uR_R, true_and, and_true, true_implies, false_implies, not_true_eq_false, not_false_eq_true, if_true, if_false, false_and, and_false]
      exact h0
    · obtain ⟨y, hy⟩ : ∃ y, Y[0]? = some y := ⟨Y[0]'(by omega), List.getElem?_eq_getElem (by omega)⟩
      have hno : ∀ t, t < y.1 + 1 → ¬ usY Y t := fun t ht => us_no1 hsr hy (by omega)
      have h0 := l_x_gap1 d s g z v wt dep cst qut dr ld B Y M Q hs hg hz hsr hQ (Y.length - 1) 0 (by omega) y hy (uI (uI M2 w 13 0) w 14 0) am_x (Or.inl rfl) F4 T4 S4 ⟨m44, m45, gS4, by rw [m413]; unfold unN; rw [cnt_stay (a := 0) (by omega) (fun t h1 h2 q => hno t h2 (dB_t.mp q))]; rfl, by rw [m414]; unfold gpN; rw [cnt_stay (a := 0) (by omega) (fun t h1 h2 q => hno t h2 (dB_t.mp q).1)]; rfl⟩
      rw [← hwe] at h0
      exact h0
  · have h0 := hQ M (zF_refl hL hI) hS h5 hG
    rw [← hwe] at h5 ⊢
    simp +decide only [qX8_countGaps_0, qX8_countGaps_1, lt_ hL hw, h5, am_w1_i, am_w1_r, am_w1_x, am_w1_l, am_w1_w, va_rf_s, am_push_n, am_push_s, am_cs_0, am_cs_i, am_cs_l, am_cs_r, m_uI_K, m_uI_N, m_uI_R, m_uI_L, m_uI_I, m_uL_K, m_uL_N, m_uL_R, m_uL_I, m_uL_L, m_uR_K, m_uR_N, m_uR_I, m_uR_L, m_uR_R, true_and, and_true, true_implies, false_implies, not_true_eq_false, not_false_eq_true, if_true, if_false, false_and, and_false]
    exact h0
end
section
/-! the class: own kinds; hours between the ends; hours of change -/
theorem most_all {wt : Nat → Prop} {v : Nat} {snd : Nat → Bool → Prop} {B : List Fct} {Y : List Sy} (hs : srtY Y) (hn : 0 < Y.length) : mostY wt v snd B Y = Y.length ↔ (∀ i, i < Y.length → gY wt v snd B Y i) ∧ ∀ i j, i < Y.length → j < Y.length → ¬ KY wt v Y i j := by
  have h := lg_whole (n := Y.length) (gd := gdF wt v snd B Y) (go := goF wt v Y) (gow_tr hs) hn
  have e : mostY wt v snd B Y = lgM (lg Y.length (gdF wt v snd B Y) (goF wt v Y)) Y.length := rfl
  rw [e, h]
  have hg : ∀ i, gdF wt v snd B Y i = true ↔ gY wt v snd B Y i := fun i => dB_t
  refine ⟨fun ⟨a1, a2⟩ => ⟨fun i hi => (hg i).mp (a1 i hi), fun i j hi hj hK => ?_⟩, fun ⟨a1, a2⟩ => ⟨fun i hi => (hg i).mpr (a1 i hi), fun i j hij hj => ?_⟩⟩
  · obtain ⟨h1, y, y', hy, hy', h2⟩ := hK
    rcases Nat.lt_or_gt_of_ne h1 with q | q
    · exact h2 ((goF_y hy hy').mp (a2 i j q hj))
    · exact h2 (gow_symm ((goF_y hy' hy).mp (a2 j i q hi)))
  · obtain ⟨y, hy⟩ : ∃ y, Y[i]? = some y := ⟨Y[i]'(by omega), List.getElem?_eq_getElem (by omega)⟩
    obtain ⟨y', hy'⟩ : ∃ y, Y[j]? = some y := ⟨Y[j]'hj, List.getElem?_eq_getElem hj⟩
    rw [goF_y hy hy']
    exact Classical.byContradiction (fun q => a2 i j (by omega) hj ⟨by omega, y, y', hy, hy', q⟩)
section
variable (wt : Nat → Prop) (v : Nat) (snd : Nat → Bool → Prop) (B : List Fct) (Y : List Sy) (qut : Nat → Nat → Prop)
/-- kinds of a tale that need no other ship -/
def k0Y : Prop := 0 < Y.length ∧ kcY wt v snd B Y = Y.length ∧ gpN wt v snd B Y qut 48 = 0
def k1Y : Prop := 0 < Y.length ∧ kcY wt v snd B Y = Y.length ∧ ¬ gpN wt v snd B Y qut 48 = 0
def k3Y : Prop := 0 < Y.length ∧ ¬ kcY wt v snd B Y = Y.length ∧ ptP wt v snd B Y
def k4Y : Prop := 0 < Y.length ∧ ¬ kcY wt v snd B Y = Y.length ∧ 0 < kcY wt v snd B Y
noncomputable def okI : Int32 := @ite _ (k0Y wt v snd B Y qut) (Classical.propDecidable _) 1 (@ite _ (k1Y wt v snd B Y qut) (Classical.propDecidable _) 2 (@ite _ (k4Y wt v snd B Y) (Classical.propDecidable _) 16 0 ||| @ite _ (k3Y wt v snd B Y) (Classical.propDecidable _) 8 0))
end
theorem lgM_le' {f : Nat → Nat} {n k : Nat} (h : ∀ i, i < k → f i ≤ n) : lgM f k ≤ n := by
  rcases lgM_at (f := f) (k := k) with e | ⟨i, h1, h2⟩
  · omega
  · have := h i h1; omega
theorem kc_le {wt : Nat → Prop} {v : Nat} {snd : Nat → Bool → Prop} {B : List Fct} {Y : List Sy} : kcY wt v snd B Y ≤ Y.length := by
  by_cases c : fitP wt v B
  · rw [kcY_t c]
    exact lgM_le' (fun i hi => by
      have := lg_le (n := Y.length) (gd := gdF wt v snd B Y) (go := goF wt v Y) Y.length i (by omega)
      show lg Y.length (gdF wt v snd B Y) (goF wt v Y) i ≤ _
      omega)
  · rw [kcY_f c]; omega
theorem c_x_ownKinds (d s g z v : Nat) (wt : Nat → Prop) (dep : Nat → Nat) (qut : Nat → Nat → Prop) (dr ld : Nat) (B : List Fct) (Y : List Sy) (M : am_M) (Q : Option Value → am_M → Prop) (hL : Lay M) (hI : RInv M) (hs : s < 8) (hg : isSh g) (hz : z = 2 ∨ z = 83) (hsr : srtY Y) (hT : TkX M s g z v wt dep dr ld B Y) (hG : GpX wt v (sndP dep dr ld) B Y qut M s)
    (hQ : ∀ M', zF (sCo s) M M' → Q (some (.int (okI wt v (sndP dep dr ld) B Y qut))) M') : am_E am_P0 (d + 5) 93 [.ref (173 + 13 * s)] M Q := by
  obtain ⟨w, hwe⟩ : ∃ w, w = 173 + 13 * s := ⟨_, rfl⟩
  have hw : isTr w := ⟨s, hs, hwe⟩
  obtain ⟨g4, gS, g13, g14⟩ := hG
  have g11 := gS.2.2.1
  have hkc := kc_le (wt := wt) (v := v) (snd := sndP dep dr ld) (B := B) (Y := Y)
  have hgp : gpN wt v (sndP dep dr ld) B Y qut 48 ≤ 48 := cnt_le _ _
  have h48 := hT.2.2.2.2.1
  have hR := hT.2.1.1
  have h5 := hT.2.2.2.1
  rw [← hwe] at g11 g14 hR ⊢
  rw [eX8_ownKinds]
  simp +decide only [qX8_ownKinds, lt_ hL hw, lw_ hL hg, hR, h5, g11, g14, am_w1_i, am_w1_r, am_w1_x, am_w1_l, am_w1_w, va_rf_s, am_push_n, am_push_s, am_cs_0, am_cs_i, am_cs_l, am_cs_r, m_uI_K, m_uI_N, m_uI_R, m_uI_L, m_uI_I, m_uL_K, m_uL_N, m_uL_R, m_uL_I, m_uL_L, m_uR_K, m_uR_N, m_uR_I, m_uR_L, m_uR_R, true_and, and_true, true_implies, false_implies, not_true_eq_false, not_false_eq_true, if_true, if_false, false_and, and_false]
  by_cases c0 : Y.length = 0
  · have h0 := hQ M (zF_refl hL hI)
    have e : okI wt v (sndP dep dr ld) B Y qut = 0 := by
      unfold okI
      rw [if_neg (fun q => by have := q.1; omega), if_neg (fun q => by have := q.1; omega), if_neg (fun q => by have := q.1; omega), if_neg (fun q => by have := q.1; omega)]
      decide
    rw [e] at h0
    rw [br_n (fun q => q (by rw [c0]; rfl))]
    exact h0
  · have hp : ¬ nI Y.length = 0 := fun q => c0 ((ni_eq (b := 0) (by omega) (by omega)).mp q)
    rw [br_p hp]
    by_cases c1 : kcY wt v (sndP dep dr ld) B Y = Y.length
    · have h0 := hQ M (zF_refl hL hI)
      rw [br_r (by rw [c1])]
      by_cases c2 : gpN wt v (sndP dep dr ld) B Y qut 48 = 0
      · have e : okI wt v (sndP dep dr ld) B Y qut = 1 := by unfold okI; rw [if_pos ⟨by omega, c1, c2⟩]
        rw [e] at h0
        rw [br_r (by rw [c2]; rfl)]
        exact h0
      · have e : okI wt v (sndP dep dr ld) B Y qut = 2 := by unfold okI; rw [if_neg (fun q => c2 q.2.2), if_pos ⟨by omega, c1, c2⟩]
        rw [e] at h0
        have c2' : ¬ nI (gpN wt v (sndP dep dr ld) B Y qut 48) = 0 := fun q => c2 ((ni_eq (b := 0) (by omega) (by omega)).mp q)
        rw [br_q c2']
        exact h0
    · rw [br_q (fun q => c1 ((ni_eq (by omega) (by omega)).mp q))]
      have e : okI wt v (sndP dep dr ld) B Y qut = @ite _ (k4Y wt v (sndP dep dr ld) B Y) (Classical.propDecidable _) 16 0 ||| @ite _ (k3Y wt v (sndP dep dr ld) B Y) (Classical.propDecidable _) 8 0 := by unfold okI; rw [if_neg (fun q => c1 q.2.1), if_neg (fun q => c1 q.2.1)]
      have hpart : ∀ Q : Option Value → am_M → Prop, (∀ M', zF (sCo s) M M' → Q (some (.int (tI (ptP wt v (sndP dep dr ld) B Y)))) M') → am_E am_P0 (d + 4) 94 [.ref (173 + 13 * s)] M Q := fun Q hQ' => c_x_canPart d s g z v wt dep dr ld B Y M Q hL hI hs hg hz hT gS.1 gS.2.1 (fun cf hn => by
        have hm := most_all (wt := wt) (v := v) (snd := sndP dep dr ld) (B := B) hsr hn
        rw [kcY_t cf] at c1
        refine Classical.byContradiction (fun q => c1 (hm.mpr ⟨fun i hi => Classical.byContradiction (fun q2 => q (Or.inl ⟨i, hi, q2⟩)), fun i j hi hj hK => q (Or.inr ⟨i, j, hi, hj, hK⟩)⟩))) hQ'
      rw [← hwe] at hpart
      have hfin : ∀ x : Int32, x = @ite _ (k4Y wt v (sndP dep dr ld) B Y) (Classical.propDecidable _) 16 0 → am_E am_P0 (d + 4) 94 [.ref w] M (fun r M2 => am_P am_P0 (d + 5) (am_look tX8_ownKinds) 60 [.ref w, .int x] (am_push r [.int x]) M2 Q) := fun x hx => by
        refine hpart _ (fun M1 g1 => ?_)
        have h0 := hQ M1 g1
        rw [e, ← hx] at h0
        simp +decide only [qX8_ownKinds, am_w1_i, am_w1_r, am_w1_x, am_w1_l, am_w1_w, va_rf_s, am_push_n, am_push_s, am_cs_0, am_cs_i, am_cs_l, am_cs_r, m_uI_K, m_uI_N, m_uI_R, m_uI_L, m_uI_I, m_uL_K, m_uL_N, m_uL_R, m_uL_I, m_uL_L, m_uR_K, m_uR_N, m_uR_I, m_uR_L, m_uR_R, true_and, and_true, true_implies, false_implies, not_true_eq_false, not_false_eq_true, if_true, if_false, false_and, and_false]
        by_cases cp : ptP wt v (sndP dep dr ld) B Y
        · rw [if_pos ⟨by omega, c1, cp⟩] at h0
          rw [tI_t cp, br_n (by decide)]
          exact h0
        · rw [if_neg (fun q => cp q.2.2)] at h0
          rw [tI_f cp, br_p rfl]
          exact h0
      by_cases c4 : 0 < kcY wt v (sndP dep dr ld) B Y
      · rw [br_n (fun q => by rw [show (0 : Int32) = nI 0 from rfl, ni_le (by omega) (by omega)] at q; omega)]
        exact hfin 16 (by rw [if_pos ⟨by omega, c1, c4⟩])
      · rw [br_p (by rw [show (0 : Int32) = nI 0 from rfl, ni_le (by omega) (by omega)]; omega)]
        exact hfin 0 (by rw [if_neg (fun q => c4 q.2.2)])
/-- the hours between the first and the last saying -/
def betY (Y : List Sy) : Nat := if Y.length < 2 then 0 else (Y[Y.length - 1]?.getD (0, 0, false)).1 - (Y[0]?.getD (0, 0, false)).1 - 1
theorem betY_lt {Y : List Sy} (h : ∀ y, y ∈ Y → y.1 < 48) : betY Y ≤ 46 := by
  unfold betY
  split
  · omega
  · have hl : Y.length - 1 < Y.length := by omega
    have := h _ (List.getElem_mem hl)
    rw [List.getElem?_eq_getElem hl]
    show Y[Y.length - 1].1 - _ - 1 ≤ 46
    omega
theorem c_x_hoursBetweenEnds (d s g z v : Nat) (wt : Nat → Prop) (dep : Nat → Nat) (dr ld : Nat) (B : List Fct) (Y : List Sy) (M : am_M) (Q : Option Value → am_M → Prop) (hL : Lay M) (hs : s < 8) (hg : isSh g) (hsr : srtY Y) (hT : TkX M s g z v wt dep dr ld B Y) : am_E am_P0 d 97 [.ref (173 + 13 * s)] M Q ↔ Q (some (.int (nI (betY Y)))) M := by
  obtain ⟨w, hwe⟩ : ∃ w, w = 173 + 13 * s := ⟨_, rfl⟩
  have hw : isTr w := ⟨s, hs, hwe⟩
  have h48 := hT.2.2.2.2.1
  have hR := hT.2.1.1
  have h5 := hT.2.2.2.1
  rw [← hwe] at hR ⊢
  rw [eX8_hoursBetweenEnds]
  by_cases c : Y.length < 2
  · have hb : betY Y = 0 := if_pos c
    simp +decide only [qX8_hoursBetweenEnds, lt_ hL hw, lw_ hL hg, hR, h5, am_w1_i, am_w1_r, am_w1_x, am_w1_l, am_w1_w, va_rf_s, am_push_n, am_push_s, am_cs_0, am_cs_i, am_cs_l, am_cs_r, m_uI_K, m_uI_N, m_uI_R, m_uI_L, m_uI_I, m_uL_K, m_uL_N, m_uL_R, m_uL_I, m_uL_L, m_uR_K, m_uR_N, m_uR_I, m_uR_L, m_uR_R, true_and, and_true, true_implies, false_implies, not_true_eq_false, not_false_eq_true, if_true, if_false, false_and, and_false]
    rw [br_n (by rw [show (2 : Int32) = nI 2 from rfl, ni_le (by omega) (by omega)]; omega), hb]
    exact Iff.rfl
  · obtain ⟨y, hy⟩ : ∃ y, Y[0]? = some y := ⟨Y[0]'(by omega), List.getElem?_eq_getElem (by omega)⟩
    obtain ⟨y', hy'⟩ : ∃ y, Y[Y.length - 1]? = some y := ⟨Y[Y.length - 1]'(by omega), List.getElem?_eq_getElem (by omega)⟩
    obtain ⟨⟨y1, y2⟩, y3, y4, y5⟩ := hT.2.2.2.2.2 0 y hy
    obtain ⟨⟨z1, z2⟩, z3, z4, z5⟩ := hT.2.2.2.2.2 (Y.length - 1) y' hy'
    have hlt := srtY_lt hsr hy hy' (by omega)
    have hb : betY Y = y'.1 - y.1 - 1 := by unfold betY; rw [if_neg c, hy, hy']; rfl
    have e1 : nI Y.length - 1 = nI (Y.length - 1) := by rw [show (1 : Int32) = nI 1 from rfl, ni_sub (by omega)]
    have e2 : nI y'.1 - nI y.1 - 1 = nI (y'.1 - y.1 - 1) := by rw [ni_sub (by omega), show (1 : Int32) = nI 1 from rfl, ni_sub (by omega)]
    have y3' : mI M (g + 1) ((0 : Int32).toInt.toNat) = nI y.1 := y3
    simp +decide (disch := omega) only [qX8_hoursBetweenEnds, lt_ hL hw, lw_ hL hg, hR, h5, e1, y3, y3', z3, e2, ni_in_t, ni_tn, am_w1_i, am_w1_r, am_w1_x, am_w1_l, am_w1_w, va_rf_s, am_push_n, am_push_s, am_cs_0, am_cs_i, am_cs_l, am_cs_r, m_uI_K, m_uI_N, m_uI_R, m_uI_L, m_uI_I, m_uL_K, m_uL_N, m_uL_R, m_uL_I, m_uL_L, m_uR_K, m_uR_N, m_uR_I, m_uR_L, m_uR_R, true_and, and_true, true_implies, false_implies, not_true_eq_false, not_false_eq_true, if_true, if_false, false_and, and_false]
    rw [br_p (by rw [show (2 : Int32) = nI 2 from rfl, ni_le (by omega) (by omega)]; omega), hb]
/-- the hours of change among the first n sayings -/
def chP (K : Nat → Prop) (Y : List Sy) (wl : Bool) (n t : Nat) : Prop := ∃ i j y y', i < j ∧ j < n ∧ K i ∧ K j ∧ (∀ k, i < k → k < j → ¬ K k) ∧ Y[i]? = some y ∧ Y[j]? = some y' ∧ y.1 < t ∧ t < y'.1 ∧ y.2.2 = wl ∧ ¬ y'.2.2 = wl
/-- the last one kept -/
def lsK (K : Nat → Prop) (i : Nat) (x : Int32) : Prop := (x = -1 ∧ ∀ k, k < i → ¬ K k) ∨ ∃ l, l < i ∧ x = nI l ∧ K l ∧ ∀ k, l < k → k < i → ¬ K k
theorem chP_n {K : Nat → Prop} {Y : List Sy} {wl : Bool} {n t : Nat} (h : ¬ K n) : chP K Y wl (n + 1) t ↔ chP K Y wl n t := by
  constructor
  · rintro ⟨i, j, y, y', h1, h2, h3, h4, h5⟩
    refine ⟨i, j, y, y', h1, ?_, h3, h4, h5⟩
    by_cases e : j = n
    · subst e; exact absurd h4 h
    · omega
  · rintro ⟨i, j, y, y', h1, h2, h3⟩
    exact ⟨i, j, y, y', h1, by omega, h3⟩
theorem chP_l {K : Nat → Prop} {Y : List Sy} {wl : Bool} {n t l : Nat} {y y' : Sy} (h : K n) (hl : l < n) (hKl : K l) (hno : ∀ k, l < k → k < n → ¬ K k) (hy : Y[l]? = some y) (hy' : Y[n]? = some y') : chP K Y wl (n + 1) t ↔ chP K Y wl n t ∨ (y.1 < t ∧ t < y'.1 ∧ y.2.2 = wl ∧ ¬ y'.2.2 = wl) := by
  constructor
  · rintro ⟨i, j, u, u', h1, h2, h3, h4, h5, h6, h7, h8⟩
    by_cases e : j = n
    · subst e
      have ei : i = l := by
        rcases Nat.lt_trichotomy i l with q | q | q
        · exact absurd hKl (h5 l q hl)
        · exact q
        · exact absurd h3 (hno i q h1)
      subst ei
      cases hy.symm.trans h6
      cases hy'.symm.trans h7
      exact Or.inr h8
    · exact Or.inl ⟨i, j, u, u', h1, by omega, h3, h4, h5, h6, h7, h8⟩
  · rintro (⟨i, j, u, u', h1, h2, h3⟩ | h8)
    · exact ⟨i, j, u, u', h1, by omega, h3⟩
    · exact ⟨l, n, y, y', hl, by omega, hKl, h, hno, hy, hy', h8⟩
theorem chP_0 {K : Nat → Prop} {Y : List Sy} {wl : Bool} {n t : Nat} (hno : ∀ k, k < n → ¬ K k) : ¬ chP K Y wl (n + 1) t := by
  rintro ⟨i, j, u, u', h1, h2, h3, -⟩
  exact hno i (by omega) h3
theorem b01_eq (a b : Bool) : b01 a = b01 b ↔ a = b := by cases a <;> cases b <;> decide
theorem l_x_chg2 (d s g z v i l : Nat) (wt : Nat → Prop) (dep : Nat → Nat) (dr ld : Nat) (B : List Fct) (Y : List Sy) (y y' : Sy) (wl : Bool) (P : Nat → Prop) (M : am_M) (Q : Option Value → am_M → Prop) (hL : Lay M) (hs : s < 8) (hg : isSh g) (hT : TkX M s g z v wt dep dr ld B Y) (hy' : Y[i]? = some y') (hyy : y.1 < y'.1)
    (hN : ∀ x, (∀ t, t < 64 → (sbit x t = true ↔ P t ∨ (y.1 < t ∧ t < y'.1))) → am_P am_P0 d (am_look tX8_hoursOfChange) 109 [.ref (173 + 13 * s), .int (b01 wl), .long x, am_x, .int (nI l), .int (nI i), .int (nI y'.1)] [] M Q) :
    ∀ (r t : Nat), t + r = y'.1 → y.1 < t → ∀ (x : Int64), (∀ t', t' < 64 → (sbit x t' = true ↔ P t' ∨ (y.1 < t' ∧ t' < t))) → am_P am_P0 d (am_look tX8_hoursOfChange) 81 [.ref (173 + 13 * s), .int (b01 wl), .long x, am_x, .int (nI l), .int (nI i), .int (nI t)] [] M Q := by
  obtain ⟨w, hwe⟩ : ∃ w, w = 173 + 13 * s := ⟨_, rfl⟩
  have hw : isTr w := ⟨s, hs, hwe⟩
  have h48 := hT.2.2.2.2.1
  have hR := hT.2.1.1
  obtain ⟨⟨y1, y2⟩, y3, y4, y5⟩ := hT.2.2.2.2.2 i y' hy'
  have hil := (List.getElem?_eq_some_iff.mp hy').1
  rw [← hwe] at hR hN ⊢
  intro r
  induction r with
  | zero =>
    intro t ht hyt x hx
    have e : t = y'.1 := by omega
    subst e
    have hle : nI y'.1 ≤ nI y'.1 := (ni_le (by omega) (by omega)).mpr (Nat.le_refl _)
    have h0 := hN x hx
    rw [hX8_hoursOfChange_81]
    simp +decide (disch := omega) only [qX8_hoursOfChange_0, qX8_hoursOfChange_1, lt_ hL hw, lw_ hL hg, hR, y3, ni_in_t, ni_tn, ni_add1, am_w1_i, am_w1_r, am_w1_x, am_w1_l, am_w1_w, va_rf_s, am_push_n, am_push_s, am_cs_0, am_cs_i, am_cs_l, am_cs_r, m_uI_K, m_uI_N, m_uI_R, m_uI_L, m_uI_I, m_uL_K, m_uL_N, m_uL_R, m_uL_I, m_uL_L, m_uR_K, m_uR_N, m_uR_I, m_uR_L, m_uR_R, true_and, and_true, true_implies, false_implies, not_true_eq_false, not_false_eq_true, if_true, if_false, false_and, and_false] at h0 ⊢
    rw [br_p hle]
    exact h0
  | succ r ih =>
    intro t ht hyt x hx
    have hlt : ¬ nI y'.1 ≤ nI t := by rw [ni_le (by omega) (by omega)]; omega
    have h0 := ih (t + 1) (by omega) (by omega) (x ||| (1 : Int64) <<< ((nI t).toInt64 &&& 63)) (fun t' ht' => by
      rw [sb_or, bt_one (by omega), Bool.or_eq_true, hx t' ht', decide_eq_true_iff]
      constructor
      · rintro ((q | q) | q)
        · exact Or.inl q
        · exact Or.inr (by omega)
        · exact Or.inr (by omega)
      · rintro (q | q)
        · exact Or.inl (Or.inl q)
        · by_cases e : t' = t
          · exact Or.inr e
          · exact Or.inl (Or.inr (by omega)))
    rw [hX8_hoursOfChange_81]
    simp +decide (disch := omega) only [qX8_hoursOfChange_0, qX8_hoursOfChange_1, lt_ hL hw, lw_ hL hg, hR, y3, ni_in_t, ni_tn, ni_add1, am_w1_i, am_w1_r, am_w1_x, am_w1_l, am_w1_w, va_rf_s, am_push_n, am_push_s, am_cs_0, am_cs_i, am_cs_l, am_cs_r, m_uI_K, m_uI_N, m_uI_R, m_uI_L, m_uI_I, m_uL_K, m_uL_N, m_uL_R, m_uL_I, m_uL_L, m_uR_K, m_uR_N, m_uR_I, m_uR_L, m_uR_R, true_and, and_true, true_implies, false_implies, not_true_eq_false, not_false_eq_true, if_true, if_false, false_and, and_false]
    rw [br_n hlt]
    exact h0
theorem l_x_chg1 (d s g z v : Nat) (wt : Nat → Prop) (dep : Nat → Nat) (dr ld : Nat) (B : List Fct) (Y : List Sy) (wl : Bool) (K : Nat → Prop) (M : am_M) (Q : Option Value → am_M → Prop) (hL : Lay M) (hs : s < 8) (hg : isSh g) (hsr : srtY Y) (hT : TkX M s g z v wt dep dr ld B Y) (hK : ∀ k, k < Y.length → mI M (182 + 13 * s) k = tI (K k))
    (hQ : ∀ x, (∀ t, t < 64 → (sbit x t = true ↔ chP K Y wl Y.length t)) → Q (some (.long x)) M) :
    ∀ (r i : Nat), i + r = Y.length → ∀ (x : Int64) (xl : Int32) (v6 : Value), jk v6 → (∀ t, t < 64 → (sbit x t = true ↔ chP K Y wl i t)) → lsK K i xl → am_P am_P0 d (am_look tX8_hoursOfChange) 8 [.ref (173 + 13 * s), .int (b01 wl), .long x, am_x, .int xl, .int (nI i), v6] [] M Q := by
  obtain ⟨w, hwe⟩ : ∃ w, w = 173 + 13 * s := ⟨_, rfl⟩
  have hw : isTr w := ⟨s, hs, hwe⟩
  have h48 := hT.2.2.2.2.1
  have hR := hT.2.1.1
  have h5 := hT.2.2.2.1
  have e9 : 182 + 13 * s = w + 9 := by omega
  rw [← hwe] at hR ⊢
  rw [e9] at hK
  intro r
  induction r with
  | zero =>
    intro i hi x xl v6 j6 hx hl
    have e : i = Y.length := by omega
    subst e
    have hle : nI Y.length ≤ nI Y.length := (ni_le (by omega) (by omega)).mpr (Nat.le_refl _)
    have h0 := hQ x hx
    rw [hX8_hoursOfChange_8]
    simp +decide (disch := omega) only [qX8_hoursOfChange_0, qX8_hoursOfChange_1, lt_ hL hw, lw_ hL hg, hR, h5, ni_in_t, ni_tn, ni_add1, am_w1_i, am_w1_r, am_w1_x, am_w1_l, am_w1_w, va_rf_s, am_push_n, am_push_s, am_cs_0, am_cs_i, am_cs_l, am_cs_r, m_uI_K, m_uI_N, m_uI_R, m_uI_L, m_uI_I, m_uL_K, m_uL_N, m_uL_R, m_uL_I, m_uL_L, m_uR_K, m_uR_N, m_uR_I, m_uR_L, m_uR_R, true_and, and_true, true_implies, false_implies, not_true_eq_false, not_false_eq_true, if_true, if_false, false_and, and_false]
    rw [br_p hle]
    exact h0
  | succ r ih =>
    intro i hi x xl v6 j6 hx hl
    have hlt : ¬ nI Y.length ≤ nI i := by rw [ni_le (by omega) (by omega)]; omega
    obtain ⟨y', hy'⟩ : ∃ y, Y[i]? = some y := ⟨Y[i]'(by omega), List.getElem?_eq_getElem (by omega)⟩
    obtain ⟨⟨z1, z2⟩, z3, z4, z5⟩ := hT.2.2.2.2.2 i y' hy'
    rw [hX8_hoursOfChange_8]
    by_cases cK : K i
    · have hki := hK i (by omega)
      rw [tI_t cK] at hki
      rcases hl with ⟨rfl, hno⟩ | ⟨l, hli, rfl, hKl, hno⟩
      · have h0 := ih (i + 1) (by omega) x (nI i) v6 j6 (fun t ht => by
          rw [hx t ht]
          exact ⟨fun q => by obtain ⟨a, b, u, u', h1, h2, h3⟩ := q; exact ⟨a, b, u, u', h1, by omega, h3⟩, fun q => absurd q (chP_0 hno)⟩) (Or.inr ⟨i, by omega, rfl, cK, fun k h1 h2 => by omega⟩)
        simp +decide (disch := omega) only [qX8_hoursOfChange_0, qX8_hoursOfChange_1, lt_ hL hw, lw_ hL hg, hR, h5, hki, ni_in_t, ni_tn, ni_add1, am_w1_i, am_w1_r, am_w1_x, am_w1_l, am_w1_w, va_rf_s, am_push_n, am_push_s, am_cs_0, am_cs_i, am_cs_l, am_cs_r, m_uI_K, m_uI_N, m_uI_R, m_uI_L, m_uI_I, m_uL_K, m_uL_N, m_uL_R, m_uL_I, m_uL_L, m_uR_K, m_uR_N, m_uR_I, m_uR_L, m_uR_R, true_and, and_true, true_implies, false_implies, not_true_eq_false, not_false_eq_true, if_true, if_false, false_and, and_false]
        rw [br_n hlt]
        exact h0
      · obtain ⟨y, hy⟩ : ∃ y, Y[l]? = some y := ⟨Y[l]'(by omega), List.getElem?_eq_getElem (by omega)⟩
        obtain ⟨⟨y1, y2⟩, y3, y4, y5⟩ := hT.2.2.2.2.2 l y hy
        have hyy := srtY_lt hsr hy hy' hli
        have hl1 : ¬ nI l = -1 := nI_m1 (by omega)
        have hls : lsK K (i + 1) (nI i) := Or.inr ⟨i, by omega, rfl, cK, fun k h1 h2 => by omega⟩
        have hcl := fun t => chP_l (wl := wl) (t := t) cK hli hKl hno hy hy'
        have skip : ∀ v6', jk v6' → ¬ (y.2.2 = wl ∧ ¬ y'.2.2 = wl) → am_P am_P0 d (am_look tX8_hoursOfChange) 8 [.ref w, .int (b01 wl), .long x, am_x, .int (nI i), .int (nI (i + 1)), v6'] [] M Q := fun v6' j6' hc =>
          ih (i + 1) (by omega) x (nI i) v6' j6' (fun t ht => by rw [hx t ht, hcl t]; exact ⟨Or.inl, fun q => q.elim id (fun q => absurd q.2.2 hc)⟩) hls
        simp +decide (disch := omega) only [qX8_hoursOfChange_0, qX8_hoursOfChange_1, lt_ hL hw, lw_ hL hg, hR, h5, hki, y3, y5, z5, b01_eq, ni_in_t, ni_tn, ni_add1, am_w1_i, am_w1_r, am_w1_x, am_w1_l, am_w1_w, va_rf_s, am_push_n, am_push_s, am_cs_0, am_cs_i, am_cs_l, am_cs_r, m_uI_K, m_uI_N, m_uI_R, m_uI_L, m_uI_I, m_uL_K, m_uL_N, m_uL_R, m_uL_I, m_uL_L, m_uR_K, m_uR_N, m_uR_I, m_uR_L, m_uR_R, true_and, and_true, true_implies, false_implies, not_true_eq_false, not_false_eq_true, if_true, if_false, false_and, and_false]
        rw [br_n hlt, br_n hl1]
        by_cases c1 : y.2.2 = wl
        · rw [br_r c1]
          by_cases c2 : y'.2.2 = wl
          · rw [br_p c2]
            exact skip v6 j6 (fun q => q.2 c2)
          · rw [br_n c2]
            have h0 := l_x_chg2 d s g z v i l wt dep dr ld B Y y y' wl (fun t => chP K Y wl i t) M Q hL hs hg hT hy' hyy (fun x' hx' => ?_) (y'.1 - (y.1 + 1)) (y.1 + 1) (by omega) (by omega) x (fun t ht => by rw [hx t ht]; exact ⟨Or.inl, fun q => q.elim id (fun q => by omega)⟩)
            · rw [← hwe] at h0
              exact h0
            · have h1 := ih (i + 1) (by omega) x' (nI i) (.int (nI y'.1)) (Or.inr ⟨_, rfl⟩) (fun t ht => by
                rw [hx' t ht, hcl t]
                exact ⟨fun q => q.elim Or.inl (fun q => Or.inr ⟨q.1, q.2, c1, c2⟩), fun q => q.elim Or.inl (fun q => Or.inr ⟨q.1, q.2.1⟩)⟩) hls
              rw [← hwe]
              simp +decide (disch := omega) only [qX8_hoursOfChange_0, qX8_hoursOfChange_1, ni_add1, am_w1_i, am_w1_r, am_w1_x, am_w1_l, am_w1_w, va_rf_s, am_push_n, am_push_s, am_cs_0, am_cs_i, am_cs_l, am_cs_r, m_uI_K, m_uI_N, m_uI_R, m_uI_L, m_uI_I, m_uL_K, m_uL_N, m_uL_R, m_uL_I, m_uL_L, m_uR_K, m_uR_N, m_uR_I, m_uR_L, m_uR_R, true_and, and_true, true_implies, false_implies, not_true_eq_false, not_false_eq_true, if_true, if_false, false_and, and_false]
              exact h1
        · rw [br_q c1]
          exact skip v6 j6 (fun q => c1 q.1)
    · have hki := hK i (by omega)
      rw [tI_f cK] at hki
      have h0 := ih (i + 1) (by omega) x xl v6 j6 (fun t ht => by rw [hx t ht, chP_n cK]) (by
        rcases hl with ⟨e, hno⟩ | ⟨l, h1, h2, h3, h4⟩
        · exact Or.inl ⟨e, fun k hk => by
            by_cases e2 : k = i
            · subst e2; exact cK
            · exact hno k (by omega)⟩
        · exact Or.inr ⟨l, by omega, h2, h3, fun k q1 q2 => by
            by_cases e2 : k = i
            · subst e2; exact cK
            · exact h4 k q1 (by omega)⟩)
      simp +decide (disch := omega) only [qX8_hoursOfChange_0, qX8_hoursOfChange_1, lt_ hL hw, lw_ hL hg, hR, h5, hki, ni_in_t, ni_tn, ni_add1, am_w1_i, am_w1_r, am_w1_x, am_w1_l, am_w1_w, va_rf_s, am_push_n, am_push_s, am_cs_0, am_cs_i, am_cs_l, am_cs_r, m_uI_K, m_uI_N, m_uI_R, m_uI_L, m_uI_I, m_uL_K, m_uL_N, m_uL_R, m_uL_I, m_uL_L, m_uR_K, m_uR_N, m_uR_I, m_uR_L, m_uR_R, true_and, and_true, true_implies, false_implies, not_true_eq_false, not_false_eq_true, if_true, if_false, false_and, and_false]
      rw [br_n hlt]
      exact h0
theorem c_x_hoursOfChange (d s g z v : Nat) (wt : Nat → Prop) (dep : Nat → Nat) (dr ld : Nat) (B : List Fct) (Y : List Sy) (wl : Bool) (K : Nat → Prop) (M : am_M) (Q : Option Value → am_M → Prop) (hL : Lay M) (hs : s < 8) (hg : isSh g) (hsr : srtY Y) (hT : TkX M s g z v wt dep dr ld B Y) (hK : ∀ k, k < Y.length → mI M (182 + 13 * s) k = tI (K k))
    (hQ : ∀ x, (∀ t, t < 64 → (sbit x t = true ↔ chP K Y wl Y.length t)) → Q (some (.long x)) M) : am_E am_P0 d 100 [.ref (173 + 13 * s), .int (b01 wl)] M Q := by
  rw [eX8_hoursOfChange]
  simp +decide only [qX8_hoursOfChange_0, qX8_hoursOfChange_1, am_w1_i, am_w1_r, am_w1_x, am_w1_l, am_w1_w, va_rf_s, am_push_n, am_push_s, am_cs_0, am_cs_i, am_cs_l, am_cs_r, m_uI_K, m_uI_N, m_uI_R, m_uI_L, m_uI_I, m_uL_K, m_uL_N, m_uL_R, m_uL_I, m_uL_L, m_uR_K, m_uR_N, m_uR_I, m_uR_L, m_uR_R, true_and, and_true, true_implies, false_implies, not_true_eq_false, not_false_eq_true, if_true, if_false, false_and, and_false]
  rw [show (0 : Int32) = nI 0 from rfl]
  exact l_x_chg1 d s g z v wt dep dr ld B Y wl K M Q hL hs hg hsr hT hK hQ Y.length 0 (by omega) 0 (-1) am_x (Or.inl rfl) (fun t ht => by rw [sb_0]; exact ⟨fun q => absurd q (by decide), fun ⟨i, j, u, u', h1, h2, _⟩ => absurd h2 (by omega)⟩) (Or.inl ⟨rfl, fun k hk => by omega⟩)
end
section
/-! the class: a new sea is measured, tracks begin -/
/-- nothing is changed but S, and references T -/
def gF (S T : Nat → Nat → Prop) (M M' : am_M) : Prop := (∀ a j, ¬ S a j → mI M' a j = mI M a j) ∧ (∀ a j, ¬ S a j → mL M' a j = mL M a j) ∧ (∀ a j, ¬ T a j → mR M' a j = mR M a j) ∧ mS M' = mS M
def nT (_a _j : Nat) : Prop := False
theorem gF_refl (S T : Nat → Nat → Prop) (M : am_M) : gF S T M M := ⟨fun _ _ _ => rfl, fun _ _ _ => rfl, fun _ _ _ => rfl, rfl⟩
theorem gF_trans {S T : Nat → Nat → Prop} {M M' M'' : am_M} (h1 : gF S T M M') (h2 : gF S T M' M'') : gF S T M M'' := ⟨fun a j q => (h2.1 a j q).trans (h1.1 a j q), fun a j q => (h2.2.1 a j q).trans (h1.2.1 a j q), fun a j q => (h2.2.2.1 a j q).trans (h1.2.2.1 a j q), h2.2.2.2.trans h1.2.2.2⟩
theorem gF_up {S T S' T' : Nat → Nat → Prop} {M M' : am_M} (h : gF S T M M') (hs : ∀ a j, S a j → S' a j) (ht : ∀ a j, T a j → T' a j) : gF S' T' M M' := ⟨fun a j q => h.1 a j (fun z => q (hs a j z)), fun a j q => h.2.1 a j (fun z => q (hs a j z)), fun a j q => h.2.2.1 a j (fun z => q (ht a j z)), h.2.2.2⟩
theorem gF_i {S T : Nat → Nat → Prop} {M : am_M} {a j : Nat} (x : Int32) (h : S a j) : gF S T M (uI M a j x) := ⟨fun a' j' q => by rw [m_uI_I, if_neg (fun z => q (by rw [z.1, z.2]; exact h))], fun _ _ _ => rfl, fun _ _ _ => rfl, rfl⟩
theorem gF_l {S T : Nat → Nat → Prop} {M : am_M} {a j : Nat} (x : Int64) (h : S a j) : gF S T M (uL M a j x) := ⟨fun _ _ _ => rfl, fun a' j' q => by rw [m_uL_L, if_neg (fun z => q (by rw [z.1, z.2]; exact h))], fun _ _ _ => rfl, rfl⟩
theorem gF_r {S T : Nat → Nat → Prop} {M : am_M} {a j : Nat} (x : Option Nat) (h : T a j) : gF S T M (uR M a j x) := ⟨fun _ _ _ => rfl, fun _ _ _ => rfl, fun a' j' q => by rw [m_uR_R, if_neg (fun z => q (by rw [z.1, z.2]; exact h))], rfl⟩
theorem gF_A {S T : Nat → Nat → Prop} {M : am_M} {a : Nat} (f : Nat → Int32) (h : ∀ j, S a j) : gF S T M (uA M a f) := ⟨fun a' j' q => by rw [uA_I, if_neg (fun z => q (by rw [z]; exact h j'))], fun _ _ _ => rfl, fun _ _ _ => rfl, rfl⟩
theorem gF_B {S T : Nat → Nat → Prop} {M : am_M} {a : Nat} (f : Nat → Int64) (h : ∀ j, S a j) : gF S T M (uB M a f) := ⟨fun _ _ _ => rfl, fun a' j' q => by rw [uB_L, if_neg (fun z => q (by rw [z]; exact h j'))], fun _ _ _ => rfl, rfl⟩
theorem gF_o {S T : Nat → Nat → Prop} {M M' : am_M} (h : oS S M M') : gF S T M M' := ⟨h.1, fun a j _ => h.2.1 a j, fun a j _ => h.2.2.1 a j, h.2.2.2⟩
theorem gF_Lay {S T : Nat → Nat → Prop} {M M' : am_M} (h : gF S T M M') (hL : Lay M) (hT : ∀ q ∈ ly_F, ¬ T q.1 q.2.1) : Lay M' := by
  obtain ⟨⟨n, h1, h2⟩, h3⟩ := hL
  exact ⟨⟨n, h1, by rw [h.2.2.2]; exact h2⟩, fun q hq => by rw [h.2.2.1 _ _ (hT q hq)]; exact h3 q hq⟩
theorem gF_LayN {S : Nat → Nat → Prop} {M M' : am_M} (h : gF S nT M M') (hL : Lay M) : Lay M' := gF_Lay h hL (fun _ _ q => q)
theorem gF_RInv {S T : Nat → Nat → Prop} {M M' : am_M} (h : gF S T M M') (hI : RInv M) (hT : ∀ a j s, s < 8 → T a j → ¬ a = 176 + 13 * s) : RInv M' := by
  have hR : ∀ s j, s < 8 → mR M' (176 + 13 * s) j = mR M (176 + 13 * s) j := fun s j hs => h.2.2.1 _ _ (fun q => hT _ _ s hs q rfl)
  have eC : mC M' = mC M := by unfold mC; rw [h.2.2.2]
  have ec : cnt (rgC M') 2048 = cnt (rgC M) 2048 := cnt_ext (fun t ht => by unfold rgC; rw [hR _ _ (by omega)])
  exact ⟨fun s p r q1 q2 q3 => by rw [eC]; exact hI.1 s p r q1 q2 (by rw [← hR s p q1]; exact q3), fun s p s' p' r q1 q2 q3 q4 q5 q6 => hI.2.1 s p s' p' r q1 q2 q3 q4 (by rw [← hR s p q1]; exact q5) (by rw [← hR s' p' q3]; exact q6), by rw [eC, ec]; exact hI.2.2⟩
def sWb (s a j : Nat) : Prop := (a = 174 + 13 * s ∧ j = 1) ∨ a = 175 + 13 * s ∨ a = 177 + 13 * s
theorem l_x_Wbeg (d s g z v dr : Nat) (dep : Nat → Nat) (M0 : am_M) (Q : Option Value → am_M → Prop) (hL : Lay M0) (hs : s < 8) (hg : isSh g) (hz : z = 2 ∨ z = 83) (hv2 : v ≤ 4) (hdr : mI M0 g 3 = nI dr) (hd2 : dr ≤ 40) (hdep : ∀ p, p < 256 → dep p ≤ 99 ∧ mI M0 (z + 21) p = nI (dep p))
    (hQ : ∀ M', gF (sWb s) nT M0 M' → TrW M' s v (fun p => p < 256 ∧ dr ≤ dep p) → Q none M') :
    ∀ (r k : Nat), k + r = 256 → ∀ (M : am_M), gF (sWb s) nT M0 M → mI M (174 + 13 * s) 1 = nI v → (∀ p, p < k → mI M (177 + 13 * s) p = 0) → (∀ q, inS (fun i => mL M (175 + 13 * s) i) q ↔ q < k ∧ dr ≤ dep q) → am_P am_P0 (d + 1) (am_look tX9_begin) 22 [.ref (174 + 13 * s), .ref z, .ref g, .int (nI k)] [] M Q := by
  obtain ⟨w, hwe⟩ : ∃ w, w = 173 + 13 * s := ⟨_, rfl⟩
  have hw : isTr w := ⟨s, hs, hwe⟩
  have e1 : 174 + 13 * s = w + 1 := by omega
  have e2 : 175 + 13 * s = w + 2 := by omega
  have e4 : 177 + 13 * s = w + 4 := by omega
  have hgl := isSh_lt hg
  intro r
  induction r with
  | zero =>
    intro k hk M hM h1 h4 h2
    have e : k = 256 := by omega
    subst e
    have h0 := hQ M hM ⟨h1, hv2, h2, fun p hp => ⟨Or.inl (h4 p hp), fun q => by rw [h4 p hp] at q; cases q⟩⟩
    rw [hX9_begin_22]
    simp +decide only [qX9_begin_0, qX9_begin_1, am_w1_i, am_w1_r, am_w1_x, am_w1_l, am_w1_w, va_rf_s, am_push_n, am_push_s, am_cs_0, am_cs_i, am_cs_l, am_cs_r, m_uI_K, m_uI_N, m_uI_R, m_uI_L, m_uI_I, m_uL_K, m_uL_N, m_uL_R, m_uL_I, m_uL_L, m_uR_K, m_uR_N, m_uR_I, m_uR_L, m_uR_R, true_and, and_true, true_implies, false_implies, not_true_eq_false, not_false_eq_true, if_true, if_false, false_and, and_false]
    exact h0
  | succ r ih =>
    intro k hk M hM h1 h4 h2
    have hLM := gF_LayN hM hL
    have hlt : ¬ (256 : Int32) ≤ nI k := by rw [show (256 : Int32) = nI 256 from rfl, ni_le (by omega) (by omega)]; omega
    have hdk : mI M (z + 21) k = nI (dep k) := by rw [hM.1 _ _ (by unfold sWb; omega)]; exact (hdep k (by omega)).2
    have hdrM : mI M g 3 = nI dr := by rw [hM.1 _ _ (by unfold sWb; omega)]; exact hdr
    have hdk9 := (hdep k (by omega)).1
    have g1 : gF (sWb s) nT M (uI M (w + 4) k 0) := gF_i _ (Or.inr (Or.inr e4.symm))
    have n1 : ¬ (w + 4 = z + 21) := by omega
    have n2 : ¬ (w + 4 = g) := by omega
    have n1' : ¬ (z + 21 = w + 4) := by omega
    have n2' : ¬ (g = w + 4) := by omega
    have h4' : ∀ x M', (∀ p, mI M' (177 + 13 * s) p = mI (uI M (w + 4) k 0) (177 + 13 * s) p) → ∀ p, p < k + 1 → mI M' (177 + 13 * s) p = (if x = 0 then 0 else 0 : Int32) := fun x M' h p hp => by
      rw [h p, m_uI_I]
      by_cases e : p = k
      · rw [if_pos ⟨e4, e⟩]; split <;> rfl
      · rw [if_neg (fun q => e q.2), h4 p (by omega)]; split <;> rfl
    rw [e1, hX9_begin_22]
    simp +decide (disch := omega) only [qX9_begin_0, qX9_begin_1, lt_ hLM hw, lz hLM hz, lw_ hLM hg, sr6 k (by omega), an63 k (by omega), hdk, hdrM, n1', n2', ni_in_t, ni_tn, ni_add1, am_w1_i, am_w1_r, am_w1_x, am_w1_l, am_w1_w, va_rf_s, am_push_n, am_push_s, am_cs_0, am_cs_i, am_cs_l, am_cs_r, m_uI_K, m_uI_N, m_uI_R, m_uI_L, m_uI_I, m_uL_K, m_uL_N, m_uL_R, m_uL_I, m_uL_L, m_uR_K, m_uR_N, m_uR_I, m_uR_L, m_uR_R, true_and, and_true, true_implies, false_implies, not_true_eq_false, not_false_eq_true, if_true, if_false, false_and, and_false]
    rw [br_n hlt]
    by_cases c : dr ≤ dep k
    · have g2 : gF (sWb s) nT (uI M (w + 4) k 0) (uL (uI M (w + 4) k 0) (w + 2) (k / 64) (mL M (w + 2) (k / 64) ||| (1 : Int64) <<< ((nI (k % 64)).toInt64 &&& 63))) := gF_l _ (Or.inr (Or.inl e2.symm))
      have h0 := ih (k + 1) (by omega) _ (gF_trans hM (gF_trans g1 g2)) (by
        show mI (uI M (w + 4) k 0) (174 + 13 * s) 1 = _
        rw [m_uI_I, if_neg (by omega)]; exact h1) (fun p hp => h4' 0 _ (fun p => rfl) p hp) (fun q => ?_)
      · rw [br_n (by rw [ni_lt (by omega) (by omega)]; omega)]
        rw [e1] at h0
        exact h0
      · have hq := h2 q
        unfold inS at hq ⊢
        dsimp only at hq ⊢
        rw [m_uL_L, e2]
        by_cases e : q / 64 = k / 64
        · rw [if_pos ⟨rfl, e⟩, sb_or, bt_one (by omega), Bool.or_eq_true, decide_eq_true_iff]
          rw [e2, e] at hq
          constructor
          · rintro ⟨q1, q2 | q2⟩
            · have := hq.mp ⟨q1, q2⟩; omega
            · have : q = k := by omega
              subst this; omega
          · rintro ⟨q1, q2⟩
            by_cases e3 : q = k
            · subst e3; exact ⟨by omega, Or.inr rfl⟩
            · have := hq.mpr ⟨by omega, q2⟩; exact ⟨this.1, Or.inl this.2⟩
        · rw [if_neg (fun q => e q.2)]
          rw [e2] at hq
          show q < 256 ∧ sbit (mL M (w + 2) (q / 64)) (q % 64) = true ↔ _
          rw [hq]
          constructor
          · rintro ⟨q1, q2⟩; exact ⟨by omega, q2⟩
          · rintro ⟨q1, q2⟩; exact ⟨by have : ¬ q = k := fun e3 => e (by rw [e3]); omega, q2⟩
    · have h0 := ih (k + 1) (by omega) _ (gF_trans hM g1) (by rw [m_uI_I, if_neg (by omega)]; exact h1) (fun p hp => h4' 0 _ (fun p => rfl) p hp) (fun q => ?_)
      · rw [br_p (by rw [ni_lt (by omega) (by omega)]; omega)]
        rw [e1] at h0
        exact h0
      · refine (h2 q).trans ⟨fun ⟨q1, q2⟩ => ⟨by omega, q2⟩, fun ⟨q1, q2⟩ => ⟨?_, q2⟩⟩
        have : ¬ q = k := fun e3 => c (by rw [← e3]; exact q2)
        omega
theorem c_x_Wbegin (d s g z v dr : Nat) (dep : Nat → Nat) (M : am_M) (Q : Option Value → am_M → Prop) (hL : Lay M) (hs : s < 8) (hg : isSh g) (hz : z = 2 ∨ z = 83) (hv : mI M g 2 = nI v) (hv1 : 1 ≤ v) (hv2 : v ≤ 4) (hdr : mI M g 3 = nI dr) (hd2 : dr ≤ 40) (hdep : ∀ p, p < 256 → dep p ≤ 99 ∧ mI M (z + 21) p = nI (dep p))
    (hQ : ∀ M', gF (sWb s) nT M M' → TrW M' s v (fun p => p < 256 ∧ dr ≤ dep p) → Q none M') : am_E am_P0 (d + 1) 102 [.ref (174 + 13 * s), .ref z, .ref g] M Q := by
  obtain ⟨w, hwe⟩ : ∃ w, w = 173 + 13 * s := ⟨_, rfl⟩
  have hw : isTr w := ⟨s, hs, hwe⟩
  have e1 : 174 + 13 * s = w + 1 := by omega
  have e2 : 175 + 13 * s = w + 2 := by omega
  have hgl := isSh_lt hg
  have hma := fun Q => c_maxI d 1 (nI v) M Q
  have em : (if (1 : Int32) < nI v then nI v else 1) = nI v := by
    by_cases c : (1 : Int32) < nI v
    · rw [if_pos c]
    · rw [if_neg c]
      rw [show (1 : Int32) = nI 1 from rfl, ni_lt (by omega) (by omega)] at c
      rw [show v = 1 by omega]; rfl
  rw [em] at hma
  rw [e1, eX9_begin]
  simp +decide (disch := omega) only [qX9_begin_0, qX9_begin_1, lw_ hL hg, lt_ hL hw, hv, hma, am_w1_i, am_w1_r, am_w1_x, am_w1_l, am_w1_w, va_rf_s, am_push_n, am_push_s, am_cs_0, am_cs_i, am_cs_l, am_cs_r, m_uI_K, m_uI_N, m_uI_R, m_uI_L, m_uI_I, m_uL_K, m_uL_N, m_uL_R, m_uL_I, m_uL_L, m_uR_K, m_uR_N, m_uR_I, m_uR_L, m_uR_R, true_and, and_true, true_implies, false_implies, not_true_eq_false, not_false_eq_true, if_true, if_false, false_and, and_false]
  have hk := lt_ hL hw
  rw [c_fillJ d (w + 2) 0 (uI M (w + 1) 1 (nI v)) _ (by show mK M (w + 2) = 1; simp only [hk]) (by show mN M (w + 2) ≤ 60000; simp +decide only [hk])]
  have hn : mN (uI M (w + 1) 1 (nI v)) (w + 2) = 4 := by show mN M (w + 2) = 4; simp only [hk]
  rw [hn]
  have g1 : gF (sWb s) nT M (uI M (w + 1) 1 (nI v)) := gF_i _ (Or.inl ⟨e1.symm, rfl⟩)
  have g2 : gF (sWb s) nT (uI M (w + 1) 1 (nI v)) (uB (uI M (w + 1) 1 (nI v)) (w + 2) (fun j => if j < 4 then 0 else mL (uI M (w + 1) 1 (nI v)) (w + 2) j)) := gF_B _ (fun j => Or.inr (Or.inl e2.symm))
  have h0 := l_x_Wbeg d s g z v dr dep M Q hL hs hg hz hv2 hdr hd2 hdep hQ 256 0 (by omega) _ (gF_trans g1 g2) (by
    show mI (uI M (w + 1) 1 (nI v)) (174 + 13 * s) 1 = _
    rw [m_uI_I, if_pos ⟨e1, rfl⟩]) (fun p hp => by omega) (fun q => by
    refine ⟨fun z => absurd ((inS_ext (g := fun _ => 0) (fun i hi => ?_) q).mp z) (inS_0 q), fun z => by omega⟩
    rw [uB_L, if_pos e2, if_pos hi])
  rw [e1] at h0
  simp +decide (disch := omega) only [qX9_begin_0, qX9_begin_1, am_w1_i, am_w1_r, am_w1_x, am_w1_l, am_w1_w, va_rf_s, am_push_n, am_push_s, am_cs_0, am_cs_i, am_cs_l, am_cs_r, m_uI_K, m_uI_N, m_uI_R, m_uI_L, m_uI_I, m_uL_K, m_uL_N, m_uL_R, m_uL_I, m_uL_L, m_uR_K, m_uR_N, m_uR_I, m_uR_L, m_uR_R, true_and, and_true, true_implies, false_implies, not_true_eq_false, not_false_eq_true, if_true, if_false, false_and, and_false]
  exact h0
theorem c_x_Tforget (d s : Nat) (M : am_M) (Q : Option Value → am_M → Prop) (hL : Lay M) (hs : s < 8) : am_E am_P0 d 74 [.ref (173 + 13 * s)] M Q ↔ Q none (uI (uI M (173 + 13 * s) 4 0) (173 + 13 * s) 5 0) := by
  rw [eX8_forget]
  simp +decide only [qX8_forget, lt_ hL (isTr_of hs), am_w1_i, am_w1_r, am_w1_x, am_w1_l, am_w1_w, va_rf_s, am_push_n, am_push_s, am_cs_0, am_cs_i, am_cs_l, am_cs_r, m_uI_K, m_uI_N, m_uI_R, m_uI_L, m_uI_I, m_uL_K, m_uL_N, m_uL_R, m_uL_I, m_uL_L, m_uR_K, m_uR_N, m_uR_I, m_uR_L, m_uR_R, true_and, and_true, true_implies, false_implies, not_true_eq_false, not_false_eq_true, if_true, if_false, false_and, and_false]
def sTb (s a j : Nat) : Prop := sWb s a j ∨ (a = 173 + 13 * s ∧ (j = 4 ∨ j = 5 ∨ j = 6))
def tTb (s a j : Nat) : Prop := a = 173 + 13 * s ∧ (j = 0 ∨ j = 1)
set_option maxRecDepth 100000 in
theorem lyF_free : ∀ q ∈ ly_F, ¬ (q.1 = 0 ∧ (q.2.1 = 1 ∨ q.2.1 = 2)) ∧ ¬ (q.1 = 164 ∧ q.2.1 = 1) ∧ ¬ (q.1 = 165 ∧ q.2.1 = 1) ∧ (173 ≤ q.1 → q.1 ≤ 264 → (q.1 - 173) % 13 = 0 → ¬ (q.2.1 = 0 ∨ q.2.1 = 1)) := by decide +kernel
theorem tTb_free {s : Nat} (hs : s < 8) : ∀ q ∈ ly_F, ¬ tTb s q.1 q.2.1 := fun q hq z => (lyF_free q hq).2.2.2 (by have := z.1; omega) (by have := z.1; omega) (by have := z.1; omega) z.2
theorem c_x_Tbegin (d s g z v dr : Nat) (dep : Nat → Nat) (M : am_M) (Q : Option Value → am_M → Prop) (hL : Lay M) (hs : s < 8) (hg : isSh g) (hz : z = 2 ∨ z = 83) (hv : mI M g 2 = nI v) (hv1 : 1 ≤ v) (hv2 : v ≤ 4) (hdr : mI M g 3 = nI dr) (hd2 : dr ≤ 40) (hdep : ∀ p, p < 256 → dep p ≤ 99 ∧ mI M (z + 21) p = nI (dep p))
    (hQ : ∀ M', gF (sTb s) (tTb s) M M' → Lay M' → TrW M' s v (fun p => p < 256 ∧ dr ≤ dep p) → mR M' (173 + 13 * s) 0 = some g → mR M' (173 + 13 * s) 1 = some z → mI M' (173 + 13 * s) 4 = 0 → mI M' (173 + 13 * s) 5 = 0 → mI M' (173 + 13 * s) 6 = 0 → Q none M') : am_E am_P0 (d + 2) 73 [.ref (173 + 13 * s), .ref z, .ref g] M Q := by
  obtain ⟨w, hwe⟩ : ∃ w, w = 173 + 13 * s := ⟨_, rfl⟩
  have hw : isTr w := ⟨s, hs, hwe⟩
  have hgl := isSh_lt hg
  have e1 : w + 1 = 174 + 13 * s := by omega
  have g1 : gF (sTb s) (tTb s) M (uR M w 1 (some z)) := gF_r _ ⟨hwe, Or.inr rfl⟩
  have g2 : gF (sTb s) (tTb s) (uR M w 1 (some z)) (uR (uR M w 1 (some z)) w 0 (some g)) := gF_r _ ⟨hwe, Or.inl rfl⟩
  have G2 := gF_trans g1 g2
  have L2 := gF_Lay G2 hL (tTb_free hs)
  rw [← hwe, eX8_begin]
  simp +decide (disch := omega) only [qX8_begin, lt_ hL hw, lw_ hL hg, lz hL hz, am_w1_i, am_w1_r, am_w1_x, am_w1_l, am_w1_w, va_rf_s, am_push_n, am_push_s, am_cs_0, am_cs_i, am_cs_l, am_cs_r, m_uI_K, m_uI_N, m_uI_R, m_uI_L, m_uI_I, m_uL_K, m_uL_N, m_uL_R, m_uL_I, m_uL_L, m_uR_K, m_uR_N, m_uR_I, m_uR_L, m_uR_R, true_and, and_true, true_implies, false_implies, not_true_eq_false, not_false_eq_true, if_true, if_false, false_and, and_false]
  obtain ⟨M2, hM2⟩ : ∃ M2, M2 = uR (uR M w 1 (some z)) w 0 (some g) := ⟨_, rfl⟩
  rw [← hM2] at G2 L2 ⊢
  have r0 : mR M2 w 0 = some g := by rw [hM2, m_uR_R, if_pos ⟨rfl, rfl⟩]
  have r1 : mR M2 w 1 = some z := by rw [hM2, m_uR_R, if_neg (by omega), m_uR_R, if_pos ⟨rfl, rfl⟩]
  have ki : ∀ a j, mI M2 a j = mI M a j := fun a j => by rw [hM2]; rfl
  rw [e1]
  refine c_x_Wbegin d s g z v dr dep M2 _ L2 hs hg hz (by rw [ki]; exact hv) hv1 hv2 (by rw [ki]; exact hdr) hd2 (fun p hp => by rw [ki]; exact hdep p hp) (fun M3 g3 T3 => ?_)
  have G3 : gF (sTb s) (tTb s) M2 M3 := gF_up g3 (fun a j q => Or.inl q) (fun a j q => q.elim)
  have L3 := gF_LayN g3 L2
  have hfo := fun M Q hL => c_x_Tforget (d + 1) s M Q hL hs
  have L4 : Lay (uI M3 w 6 0) := L3
  rw [← hwe] at hfo
  simp +decide (disch := omega) only [qX8_begin, lt_ L3 hw, hfo _ _ L4, am_w1_i, am_w1_r, am_w1_x, am_w1_l, am_w1_w, va_rf_s, am_push_n, am_push_s, am_cs_0, am_cs_i, am_cs_l, am_cs_r, m_uI_K, m_uI_N, m_uI_R, m_uI_L, m_uI_I, m_uL_K, m_uL_N, m_uL_R, m_uL_I, m_uL_L, m_uR_K, m_uR_N, m_uR_I, m_uR_L, m_uR_R, true_and, and_true, true_implies, false_implies, not_true_eq_false, not_false_eq_true, if_true, if_false, false_and, and_false]
  have ti : ∀ x j, TrW (uI x w j 0) s v (fun p => p < 256 ∧ dr ≤ dep p) ↔ TrW x s v (fun p => p < 256 ∧ dr ≤ dep p) := fun x j => ⟨fun q => TrW_S q (fun k => by rw [m_uI_I, if_neg (by omega)]) (fun k => by rw [m_uI_I, if_neg (by omega)]) (fun _ _ => rfl) (fun _ _ => rfl), fun q => TrW_S q (fun k => by rw [m_uI_I, if_neg (by omega)]) (fun k => by rw [m_uI_I, if_neg (by omega)]) (fun _ _ => rfl) (fun _ _ => rfl)⟩
  refine hQ _ (gF_trans G2 (gF_trans G3 (gF_trans (gF_i (a := w) (j := 6) 0 (Or.inr ⟨hwe, by omega⟩)) (gF_trans (gF_i (a := w) (j := 4) 0 (Or.inr ⟨hwe, by omega⟩)) (gF_i (a := w) (j := 5) 0 (Or.inr ⟨hwe, by omega⟩)))))) L3 ?_ ?_ ?_ ?_ ?_ ?_
  · rw [ti, ti, ti]; exact T3
  · show mR M3 _ 0 = _
    rw [g3.2.2.1 _ _ (fun q => q), ← hwe]; exact r0
  · show mR M3 _ 1 = _
    rw [g3.2.2.1 _ _ (fun q => q), ← hwe]; exact r1
  · rw [m_uI_I, if_neg (by omega), m_uI_I, if_pos ⟨hwe.symm, rfl⟩]
  · rw [m_uI_I, if_pos ⟨hwe.symm, rfl⟩]
  · rw [m_uI_I, if_neg (by omega), m_uI_I, if_neg (by omega), m_uI_I, if_pos ⟨hwe.symm, rfl⟩]
end
section
/-! the class: measure -/
/-- depths, costs, quiet hours of rules -/
noncomputable def dpF (C R : Nat) (Rd : List (Den × Den)) (p : Nat) : Nat := @ite _ (vld C R p) (Classical.propDecidable _) (sumR Rd (p % 16, p / 16, 0, 0)).toNat 0
noncomputable def csF (C R : Nat) (Rd Rc : List (Den × Den)) (p : Nat) : Nat := (sumR Rc (p % 16, p / 16, 0, dpF C R Rd p)).toNat
def qtF (C R : Nat) (Rd Rq : List (Den × Den)) (p h : Nat) : Prop := ¬ fstR Rq (p % 16, p / 16, h, dpF C R Rd p) = none
theorem dpF_le (C R : Nat) (Rd : List (Den × Den)) (p : Nat) : dpF C R Rd p ≤ 99 := by
  unfold dpF
  split
  · have := sumR_bd Rd (p % 16, p / 16, 0, 0); omega
  · omega
def sMe (z a _j : Nat) : Prop := a = z + 8 ∨ (z + 21 ≤ a ∧ a ≤ z + 24)
/-- depths up to a row and a column -/
noncomputable def dpU (C R : Nat) (Rd : List (Den × Den)) (r c p : Nat) : Nat := if p / 16 < r ∨ (p / 16 = r ∧ p % 16 < c) then dpF C R Rd p else 0
theorem l_x_meas2 (d z C R r : Nat) (Rd : List (Den × Den)) (M0 : am_M) (Q : Option Value → am_M → Prop) (hL : Lay M0) (hz : z = 2 ∨ z = 83) (hC : mI M0 z 0 = nI C) (hC2 : C ≤ 16) (hR2 : R ≤ 16) (hr : r < R)
    (hN : ∀ M' v2 v3, gF (sMe z) nT M0 M' → RlX M' z (z + 9) true Rd → (∀ p, p < 256 → mI M' (z + 21) p = nI (dpU C R Rd (r + 1) 0 p)) → (∀ a j, ¬ a = z + 21 → ¬ a = z + 8 → mI M' a j = mI M0 a j) → (∀ a j, mL M' a j = mL M0 a j) → jk v2 → jk v3 → am_P am_P0 (d + 5) (am_look tX5_measure) 34 [.ref z, .int (nI (r + 1)), v2, v3] [] M' Q) :
    ∀ (m c : Nat), c + m = C → ∀ (M : am_M) (v3 : Value), jk v3 → gF (sMe z) nT M0 M → RlX M z (z + 9) true Rd → (∀ p, p < 256 → mI M (z + 21) p = nI (dpU C R Rd r c p)) → (∀ a j, ¬ a = z + 21 → ¬ a = z + 8 → mI M a j = mI M0 a j) → (∀ a j, mL M a j = mL M0 a j) → am_P am_P0 (d + 5) (am_look tX5_measure) 44 [.ref z, .int (nI r), .int (nI c), v3] [] M Q := by
  intro m
  induction m with
  | zero =>
    intro c hc M v3 j3 hM hRl hdp hk hkl
    have hLM := gF_LayN hM hL
    have e : c = C := by omega
    subst e
    have hCM : mI M z 0 = nI c := by rw [hk _ _ (by omega) (by omega)]; exact hC
    have hle : nI c ≤ nI c := (ni_le (by omega) (by omega)).mpr (Nat.le_refl _)
    have h0 := hN M (.int (nI c)) v3 hM hRl (fun p hp => by
      rw [hdp p hp]
      congr 1
      unfold dpU
      by_cases q : p / 16 < r ∨ (p / 16 = r ∧ p % 16 < c)
      · rw [if_pos q, if_pos (by omega)]
      · rw [if_neg q]
        by_cases q2 : p / 16 < r + 1 ∨ (p / 16 = r + 1 ∧ p % 16 < 0)
        · rw [if_pos q2]
          unfold dpF
          rw [if_neg (fun v => by have := v.1; omega)]
        · rw [if_neg q2]) hk hkl (Or.inr ⟨_, rfl⟩) j3
    rw [hX5_measure_44]
    simp +decide only [qX5_measure_0, qX5_measure_1, lz hLM hz, hCM, ni_add1, am_w1_i, am_w1_r, am_w1_x, am_w1_l, am_w1_w, va_rf_s, am_push_n, am_push_s, am_cs_0, am_cs_i, am_cs_l, am_cs_r, m_uI_K, m_uI_N, m_uI_R, m_uI_L, m_uI_I, m_uL_K, m_uL_N, m_uL_R, m_uL_I, m_uL_L, m_uR_K, m_uR_N, m_uR_I, m_uR_L, m_uR_R, true_and, and_true, true_implies, false_implies, not_true_eq_false, not_false_eq_true, if_true, if_false, false_and, and_false]
    rw [br_p hle]
    exact h0
  | succ m ih =>
    intro c hc M v3 j3 hM hRl hdp hk hkl
    have hLM := gF_LayN hM hL
    have hCM : mI M z 0 = nI C := by rw [hk _ _ (by omega) (by omega)]; exact hC
    have hlt : ¬ nI C ≤ nI c := by rw [ni_le (by omega) (by omega)]; omega
    have e1 : nI r * 16 + nI c = nI (16 * r + c) := by rw [show (16 : Int32) = nI 16 from rfl, ni_mul, ni_add, Nat.mul_comm]
    rw [hX5_measure_44]
    simp +decide only [qX5_measure_0, qX5_measure_1, lz hLM hz, hCM, e1, jk_w j3, am_w1_i, am_w1_r, am_w1_x, am_w1_l, am_w1_w, va_rf_s, am_push_n, am_push_s, am_cs_0, am_cs_i, am_cs_l, am_cs_r, m_uI_K, m_uI_N, m_uI_R, m_uI_L, m_uI_I, m_uL_K, m_uL_N, m_uL_R, m_uL_I, m_uL_L, m_uR_K, m_uR_N, m_uR_I, m_uR_L, m_uR_R, true_and, and_true, true_implies, false_implies, not_true_eq_false, not_false_eq_true, if_true, if_false, false_and, and_false]
    rw [br_n hlt, show (0 : Int32) = nI 0 from rfl]
    refine c_x_firstSum d z (z + 9) (16 * r + c) 0 Rd M _ hLM hz (Or.inl rfl) (by omega) (by omega) hRl (fun M1 g1 => ?_)
    have L1 := oS_Lay g1 hLM
    have em : (16 * r + c) % 16 = c ∧ (16 * r + c) / 16 = r := by omega
    have hv : vld C R (16 * r + c) := ⟨by omega, by omega⟩
    have ed : (sumR Rd ((16 * r + c) % 16, (16 * r + c) / 16, 0, 0)).toNat = dpF C R Rd (16 * r + c) := by unfold dpF; rw [if_pos hv]
    rw [ed]
    have n8 : ∀ a j, ¬ a = z + 8 → mI M1 a j = mI M a j := fun a j q => g1.1 a j q
    have G2 : gF (sMe z) nT M1 (uI M1 (z + 21) (16 * r + c) (nI (dpF C R Rd (16 * r + c)))) := gF_i _ (Or.inr ⟨by omega, by omega⟩)
    have G1 : gF (sMe z) nT M M1 := gF_o (oS_up g1 (fun a j q => Or.inl q))
    have h0 := ih (c + 1) (by omega) (uI M1 (z + 21) (16 * r + c) (nI (dpF C R Rd (16 * r + c)))) (.int (nI (16 * r + c))) (Or.inr ⟨_, rfl⟩) (gF_trans hM (gF_trans G1 G2)) (RlX_u hRl (fun j => by rw [m_uI_I, if_neg (by omega), n8 _ _ (by omega)]) (fun j => by rw [m_uI_I, if_neg (by omega), n8 _ _ (by omega)]) (fun j => by rw [m_uI_I, if_neg (by omega), n8 _ _ (by omega)]) (fun j => by rw [m_uI_I, if_neg (by omega), n8 _ _ (by omega)]) (fun j => by rw [m_uI_I, if_neg (by omega), n8 _ _ (by omega)])) (fun p hp => by
      rw [m_uI_I]
      unfold dpU
      by_cases e : p = 16 * r + c
      · rw [if_pos ⟨rfl, e⟩, if_pos (by omega), e]
      · rw [if_neg (fun q => e q.2), n8 _ _ (by omega), hdp p hp]
        unfold dpU
        by_cases q : p / 16 < r ∨ (p / 16 = r ∧ p % 16 < c)
        · rw [if_pos q, if_pos (by omega)]
        · rw [if_neg q, if_neg (by omega)]) (fun a j q1 q2 => by rw [m_uI_I, if_neg (fun q => q1 q.1), n8 _ _ q2, hk _ _ q1 q2]) (fun a j => (g1.2.1 a j).trans (hkl a j))
    simp +decide (disch := omega) only [qX5_measure_0, qX5_measure_1, lz L1 hz, ni_in_t, ni_tn, ni_add1, am_w1_i, am_w1_r, am_w1_x, am_w1_l, am_w1_w, va_rf_s, am_push_n, am_push_s, am_cs_0, am_cs_i, am_cs_l, am_cs_r, m_uI_K, m_uI_N, m_uI_R, m_uI_L, m_uI_I, m_uL_K, m_uL_N, m_uL_R, m_uL_I, m_uL_L, m_uR_K, m_uR_N, m_uR_I, m_uR_L, m_uR_R, true_and, and_true, true_implies, false_implies, not_true_eq_false, not_false_eq_true, if_true, if_false, false_and, and_false]
    exact h0
theorem l_x_meas1 (d z C R : Nat) (Rd : List (Den × Den)) (M0 : am_M) (Q : Option Value → am_M → Prop) (hL : Lay M0) (hz : z = 2 ∨ z = 83) (hC : mI M0 z 0 = nI C) (hC2 : C ≤ 16) (hR : mI M0 z 1 = nI R) (hR2 : R ≤ 16)
    (hN : ∀ M', gF (sMe z) nT M0 M' → (∀ p, p < 256 → mI M' (z + 21) p = nI (dpF C R Rd p)) → (∀ a j, ¬ a = z + 21 → ¬ a = z + 8 → mI M' a j = mI M0 a j) → (∀ a j, mL M' a j = mL M0 a j) → Q none M') :
    ∀ (m r : Nat), r + m = R → ∀ (M : am_M) (v2 v3 : Value), jk v2 → jk v3 → gF (sMe z) nT M0 M → RlX M z (z + 9) true Rd → (∀ p, p < 256 → mI M (z + 21) p = nI (dpU C R Rd r 0 p)) → (∀ a j, ¬ a = z + 21 → ¬ a = z + 8 → mI M a j = mI M0 a j) → (∀ a j, mL M a j = mL M0 a j) → am_P am_P0 (d + 5) (am_look tX5_measure) 34 [.ref z, .int (nI r), v2, v3] [] M Q := by
  intro m
  induction m with
  | zero =>
    intro r hr M v2 v3 j2 j3 hM hRl hdp hk hkl
    have hLM := gF_LayN hM hL
    have e : r = R := by omega
    subst e
    have hRM : mI M z 1 = nI r := by rw [hk _ _ (by omega) (by omega)]; exact hR
    have hle : nI r ≤ nI r := (ni_le (by omega) (by omega)).mpr (Nat.le_refl _)
    have h0 := hN M hM (fun p hp => by
      rw [hdp p hp]
      congr 1
      unfold dpU
      by_cases q : p / 16 < r ∨ (p / 16 = r ∧ p % 16 < 0)
      · rw [if_pos q]
      · rw [if_neg q]
        unfold dpF
        rw [if_neg (fun v => by have := v.2; omega)]) hk hkl
    rw [hX5_measure_34]
    simp +decide only [qX5_measure_0, qX5_measure_1, lz hLM hz, hRM, ni_add1, am_w1_i, am_w1_r, am_w1_x, am_w1_l, am_w1_w, va_rf_s, am_push_n, am_push_s, am_cs_0, am_cs_i, am_cs_l, am_cs_r, m_uI_K, m_uI_N, m_uI_R, m_uI_L, m_uI_I, m_uL_K, m_uL_N, m_uL_R, m_uL_I, m_uL_L, m_uR_K, m_uR_N, m_uR_I, m_uR_L, m_uR_R, true_and, and_true, true_implies, false_implies, not_true_eq_false, not_false_eq_true, if_true, if_false, false_and, and_false]
    rw [br_p hle]
    exact h0
  | succ m ih =>
    intro r hr M v2 v3 j2 j3 hM hRl hdp hk hkl
    have hLM := gF_LayN hM hL
    have hRM : mI M z 1 = nI R := by rw [hk _ _ (by omega) (by omega)]; exact hR
    have hlt : ¬ nI R ≤ nI r := by rw [ni_le (by omega) (by omega)]; omega
    have h0 := l_x_meas2 d z C R r Rd M0 Q hL hz hC hC2 hR2 (by omega) (fun M' v2' v3' a1 a2 a3 a4 a5 a6 a7 => ih (r + 1) (by omega) M' v2' v3' a6 a7 a1 a2 a3 a4 a5) C 0 (by omega) M v3 j3 hM hRl hdp hk hkl
    rw [hX5_measure_34]
    simp +decide only [qX5_measure_0, qX5_measure_1, lz hLM hz, hRM, ni_add1, am_w1_i, am_w1_r, am_w1_x, am_w1_l, am_w1_w, va_rf_s, am_push_n, am_push_s, am_cs_0, am_cs_i, am_cs_l, am_cs_r, m_uI_K, m_uI_N, m_uI_R, m_uI_L, m_uI_I, m_uL_K, m_uL_N, m_uL_R, m_uL_I, m_uL_L, m_uR_K, m_uR_N, m_uR_I, m_uR_L, m_uR_R, true_and, and_true, true_implies, false_implies, not_true_eq_false, not_false_eq_true, if_true, if_false, false_and, and_false]
    rw [br_n hlt]
    exact h0
theorem c_x_measure (d z C R : Nat) (Rd Rc Rq : List (Den × Den)) (M : am_M) (Q : Option Value → am_M → Prop) (hL : Lay M) (hz : z = 2 ∨ z = 83) (hC : mI M z 0 = nI C) (hC2 : C ≤ 16) (hR : mI M z 1 = nI R) (hR2 : R ≤ 16) (hd : RlX M z (z + 9) true Rd) (hc : RlX M z (z + 13) true Rc) (hq : RlX M z (z + 17) false Rq) (hq6 : Rq.length ≤ 6)
    (hQ : ∀ M', gF (sMe z) nT M M' → SqX M' z (dpF C R Rd) (csF C R Rd Rc) (qtF C R Rd Rq) → Q none M') : am_E am_P0 (d + 5) 53 [.ref z] M Q := by
  have hlz := lz hL hz
  rw [eX5_measure]
  simp +decide only [qX5_measure_0, qX5_measure_1, hlz, am_w1_i, am_w1_r, am_w1_x, am_w1_l, am_w1_w, va_rf_s, am_push_n, am_push_s, am_cs_0, am_cs_i, am_cs_l, am_cs_r, m_uI_K, m_uI_N, m_uI_R, m_uI_L, m_uI_I, m_uL_K, m_uL_N, m_uL_R, m_uL_I, m_uL_L, m_uR_K, m_uR_N, m_uR_I, m_uR_L, m_uR_R, true_and, and_true, true_implies, false_implies, not_true_eq_false, not_false_eq_true, if_true, if_false, false_and, and_false]
  have kk : ∀ (M' : am_M), mS M' = mS M → mK M' (z + 21) = 0 ∧ mN M' (z + 21) = 256 ∧ mK M' (z + 22) = 0 ∧ mN M' (z + 22) = 256 ∧ mK M' (z + 23) = 1 ∧ mN M' (z + 23) = 192 ∧ mK M' (z + 24) = 1 ∧ mN M' (z + 24) = 192 ∧ mK M' z = 15 := fun M' h => by
    have e1 : ∀ a, mK M' a = mK M a := fun a => by unfold mK; rw [h]
    have e2 : ∀ a, mN M' a = mN M a := fun a => by unfold mN; rw [h]
    simp only [e1, e2, hlz, and_self]
  rw [c_fillI (d + 4) (z + 21) 0 M _ (kk M rfl).1 (by rw [(kk M rfl).2.1]; decide), (kk M rfl).2.1]
  obtain ⟨M1, hM1⟩ : ∃ M1, M1 = uA M (z + 21) (fun j => if j < 256 then 0 else mI M (z + 21) j) := ⟨_, rfl⟩
  have s1 : mS M1 = mS M := by rw [hM1]; rfl
  have L1 : Lay M1 := by rw [hM1]; exact hL
  have k1 := kk M1 s1
  have G1 : gF (sMe z) nT M M1 := by rw [hM1]; exact gF_A _ (fun j => Or.inr ⟨by omega, by omega⟩)
  rw [← hM1]
  simp +decide only [qX5_measure_0, qX5_measure_1, lz L1 hz, am_w1_i, am_w1_r, am_w1_x, am_w1_l, am_w1_w, va_rf_s, am_push_n, am_push_s, am_cs_0, am_cs_i, am_cs_l, am_cs_r, m_uI_K, m_uI_N, m_uI_R, m_uI_L, m_uI_I, m_uL_K, m_uL_N, m_uL_R, m_uL_I, m_uL_L, m_uR_K, m_uR_N, m_uR_I, m_uR_L, m_uR_R, true_and, and_true, true_implies, false_implies, not_true_eq_false, not_false_eq_true, if_true, if_false, false_and, and_false]
  rw [c_fillI (d + 4) (z + 22) (-1) M1 _ k1.2.2.1 (by rw [k1.2.2.2.1]; decide), k1.2.2.2.1]
  obtain ⟨M2, hM2⟩ : ∃ M2, M2 = uA M1 (z + 22) (fun j => if j < 256 then -1 else mI M1 (z + 22) j) := ⟨_, rfl⟩
  have s2 : mS M2 = mS M := by rw [hM2]; exact s1
  have L2 : Lay M2 := by rw [hM2]; exact L1
  have k2 := kk M2 s2
  have G2 : gF (sMe z) nT M1 M2 := by rw [hM2]; exact gF_A _ (fun j => Or.inr ⟨by omega, by omega⟩)
  rw [← hM2]
  simp +decide only [qX5_measure_0, qX5_measure_1, lz L2 hz, am_w1_i, am_w1_r, am_w1_x, am_w1_l, am_w1_w, va_rf_s, am_push_n, am_push_s, am_cs_0, am_cs_i, am_cs_l, am_cs_r, m_uI_K, m_uI_N, m_uI_R, m_uI_L, m_uI_I, m_uL_K, m_uL_N, m_uL_R, m_uL_I, m_uL_L, m_uR_K, m_uR_N, m_uR_I, m_uR_L, m_uR_R, true_and, and_true, true_implies, false_implies, not_true_eq_false, not_false_eq_true, if_true, if_false, false_and, and_false]
  rw [c_fillJ (d + 4) (z + 23) 0 M2 _ k2.2.2.2.2.1 (by rw [k2.2.2.2.2.2.1]; decide), k2.2.2.2.2.2.1]
  obtain ⟨M3, hM3⟩ : ∃ M3, M3 = uB M2 (z + 23) (fun j => if j < 192 then 0 else mL M2 (z + 23) j) := ⟨_, rfl⟩
  have s3 : mS M3 = mS M := by rw [hM3]; exact s2
  have L3 : Lay M3 := by rw [hM3]; exact L2
  have k3 := kk M3 s3
  have G3 : gF (sMe z) nT M2 M3 := by rw [hM3]; exact gF_B _ (fun j => Or.inr ⟨by omega, by omega⟩)
  rw [← hM3]
  simp +decide only [qX5_measure_0, qX5_measure_1, lz L3 hz, am_w1_i, am_w1_r, am_w1_x, am_w1_l, am_w1_w, va_rf_s, am_push_n, am_push_s, am_cs_0, am_cs_i, am_cs_l, am_cs_r, m_uI_K, m_uI_N, m_uI_R, m_uI_L, m_uI_I, m_uL_K, m_uL_N, m_uL_R, m_uL_I, m_uL_L, m_uR_K, m_uR_N, m_uR_I, m_uR_L, m_uR_R, true_and, and_true, true_implies, false_implies, not_true_eq_false, not_false_eq_true, if_true, if_false, false_and, and_false]
  rw [c_fillJ (d + 4) (z + 24) 0 M3 _ k3.2.2.2.2.2.2.1 (by rw [k3.2.2.2.2.2.2.2.1]; decide), k3.2.2.2.2.2.2.2.1]
  obtain ⟨M4, hM4⟩ : ∃ M4, M4 = uB M3 (z + 24) (fun j => if j < 192 then 0 else mL M3 (z + 24) j) := ⟨_, rfl⟩
  have L4 : Lay M4 := by rw [hM4]; exact L3
  have G4 : gF (sMe z) nT M3 M4 := by rw [hM4]; exact gF_B _ (fun j => Or.inr ⟨by omega, by omega⟩)
  have G : gF (sMe z) nT M M4 := gF_trans G1 (gF_trans G2 (gF_trans G3 G4))
  rw [← hM4]
  have ki : ∀ a j, ¬ a = z + 21 → ¬ a = z + 22 → mI M4 a j = mI M a j := fun a j q1 q2 => by
    rw [hM4, uB_I, hM3, uB_I, hM2, uA_I, if_neg q2, hM1, uA_I, if_neg q1]
  have i21 : ∀ p, p < 256 → mI M4 (z + 21) p = 0 := fun p hp => by rw [hM4, uB_I, hM3, uB_I, hM2, uA_I, if_neg (by omega), hM1, uA_I, if_pos rfl, if_pos hp]
  have i22 : ∀ p, p < 256 → mI M4 (z + 22) p = -1 := fun p hp => by rw [hM4, uB_I, hM3, uB_I, hM2, uA_I, if_pos rfl, if_pos hp]
  have l23 : ∀ j, j < 192 → mL M4 (z + 23) j = 0 := fun j hj => by rw [hM4, uB_L, if_neg (by omega), hM3, uB_L, if_pos rfl, if_pos hj]
  have l24 : ∀ j, j < 192 → mL M4 (z + 24) j = 0 := fun j hj => by rw [hM4, uB_L, if_pos rfl, if_pos hj]
  simp +decide only [qX5_measure_0, qX5_measure_1, am_w1_i, am_w1_r, am_w1_x, am_w1_l, am_w1_w, va_rf_s, am_push_n, am_push_s, am_cs_0, am_cs_i, am_cs_l, am_cs_r, m_uI_K, m_uI_N, m_uI_R, m_uI_L, m_uI_I, m_uL_K, m_uL_N, m_uL_R, m_uL_I, m_uL_L, m_uR_K, m_uR_N, m_uR_I, m_uR_L, m_uR_R, true_and, and_true, true_implies, false_implies, not_true_eq_false, not_false_eq_true, if_true, if_false, false_and, and_false]
  rw [show (0 : Int32) = nI 0 from rfl]
  have rl : ∀ {q sm R'} (M' : am_M), RlX M z q sm R' → (q = z + 9 ∨ q = z + 13 ∨ q = z + 17) → (∀ a j, ¬ a = z + 21 → ¬ a = z + 22 → ¬ a = z + 8 → mI M' a j = mI M a j) → RlX M' z q sm R' := fun M' h hq hk => RlX_u h (fun j => hk _ _ (by omega) (by omega) (by omega)) (fun j => hk _ _ (by omega) (by omega) (by omega)) (fun j => hk _ _ (by omega) (by omega) (by omega)) (fun j => hk _ _ (by omega) (by omega) (by omega)) (fun j => hk _ _ (by omega) (by omega) (by omega))
  refine l_x_meas1 d z C R Rd M4 Q L4 hz (by rw [ki _ _ (by omega) (by omega)]; exact hC) hC2 (by rw [ki _ _ (by omega) (by omega)]; exact hR) hR2 (fun M5 g5 hdp hk hkl => ?_) R 0 (by omega) M4 am_x am_x (Or.inl rfl) (Or.inl rfl) (gF_refl _ _ _) (rl M4 hd (by omega) (fun a j q1 q2 q3 => ki a j q1 q2)) (fun p hp => by
    rw [i21 p hp]
    unfold dpU
    rw [if_neg (by omega)]
    rfl) (fun _ _ _ _ => rfl) (fun _ _ => rfl)
  have k5 : ∀ a j, ¬ a = z + 21 → ¬ a = z + 22 → ¬ a = z + 8 → mI M5 a j = mI M a j := fun a j q1 q2 q3 => (hk a j q1 q3).trans (ki a j q1 q2)
  refine hQ M5 (gF_trans G g5) ⟨⟨Rc, rl M5 hc (by omega) k5, fun p hp => rfl⟩, ⟨Rq, rl M5 hq (by omega) k5, hq6, fun p h _ _ => Iff.rfl⟩, fun p hp => ⟨dpF_le C R Rd p, hdp p hp⟩, fun p hp => Or.inl ?_, fun h p hh hp => ?_⟩
  · rw [hk _ _ (by omega) (by omega)]; exact i22 p hp
  · rw [hkl, hkl, l23 _ (by omega), l24 _ (by omega), sb_0]
    exact ⟨fun q => absurd q (by decide), fun q => absurd q (by decide)⟩
end
section
/-! the class: a saying comes, goes; a book comes -/
def rwX (M : am_M) (g k : Nat) (y : Sy) : Prop := mI M (g + 1) k = nI y.1 ∧ mI M (g + 2) k = nI y.2.1 ∧ mI M (g + 3) k = b01 y.2.2
def sIn (g a j : Nat) : Prop := (a = g ∧ j = 5) ∨ a = g + 1 ∨ a = g + 2 ∨ a = g + 3
/-- with one saying more -/
def inY (Y : List Sy) (y0 : Sy) : List Sy := Y.insertIdx (bef Y y0.1).length y0
theorem bef_cut {Y : List Sy} {h i : Nat} (hi : i ≤ Y.length) (h1 : ∀ k y, k < i → Y[k]? = some y → y.1 < h) (h2 : ∀ k y, i ≤ k → Y[k]? = some y → h ≤ y.1) : (bef Y h).length = i := by
  have e : bef Y h = Y.take i := by
    unfold bef
    rw [← List.take_append_drop i Y, List.filter_append]
    have e1 : (Y.take i).filter (fun y => decide (y.1 < h)) = Y.take i := by
      rw [List.filter_eq_self]
      intro y hy
      obtain ⟨k, hk⟩ := List.mem_iff_getElem?.mp hy
      have hkl := (List.getElem?_eq_some_iff.mp hk).1
      rw [List.length_take] at hkl
      rw [List.getElem?_take_of_lt (by omega)] at hk
      simpa using h1 k y (by omega) hk
    have e2 : (Y.drop i).filter (fun y => decide (y.1 < h)) = [] := by
      rw [List.filter_eq_nil_iff]
      intro y hy
      obtain ⟨k, hk⟩ := List.mem_iff_getElem?.mp hy
      rw [List.getElem?_drop] at hk
      have := h2 (i + k) y (by omega) hk
      simp; omega
    rw [e1, e2, List.append_nil, List.take_append_drop]
  rw [e, List.length_take]
  omega
theorem bef_lt {Y : List Sy} (hs : srtY Y) {h k : Nat} {y : Sy} (hy : Y[k]? = some y) : k < (bef Y h).length ↔ y.1 < h := by
  induction Y generalizing k with
  | nil => simp at hy
  | cons a r ih =>
    have hs' := List.pairwise_cons.mp hs
    unfold bef at ih ⊢
    by_cases c : a.1 < h
    · rw [List.filter_cons_of_pos (by simpa using c), List.length_cons]
      cases k with
      | zero => simp at hy; subst hy; exact ⟨fun _ => c, fun _ => by omega⟩
      | succ k =>
        rw [List.getElem?_cons_succ] at hy
        rw [Nat.add_lt_add_iff_right]
        exact ih hs'.2 hy
    · have e2 : r.filter (fun y => decide (y.1 < h)) = [] := by
        rw [List.filter_eq_nil_iff]
        intro x hx
        have := hs'.1 x hx
        simp; omega
      rw [List.filter_cons_of_neg (by simpa using c), e2]
      refine ⟨fun q => by simp at q, fun q => absurd q ?_⟩
      cases k with
      | zero => simp at hy; subst hy; exact c
      | succ k =>
        rw [List.getElem?_cons_succ] at hy
        have := hs'.1 y (List.mem_of_getElem? hy)
        omega
theorem bef_le (Y : List Sy) (h : Nat) : (bef Y h).length ≤ Y.length := List.length_filter_le _ _
theorem inY_mem {Y : List Sy} {y0 y : Sy} : y ∈ inY Y y0 ↔ y = y0 ∨ y ∈ Y := by
  unfold inY
  rw [List.mem_insertIdx (bef_le _ _)]
theorem inY_len {Y : List Sy} {y0 : Sy} : (inY Y y0).length = Y.length + 1 := by
  unfold inY
  rw [List.length_insertIdx_of_le_length (bef_le _ _)]
theorem srtY_of {Y : List Sy} (h : ∀ (i j : Nat) (y y' : Sy), i < j → Y[i]? = some y → Y[j]? = some y' → y.1 < y'.1) : srtY Y := by
  unfold srtY
  rw [List.pairwise_iff_getElem]
  intro i j hi hj hij
  exact h i j _ _ hij (List.getElem?_eq_getElem hi) (List.getElem?_eq_getElem hj)
theorem inY_at {Y : List Sy} {y0 : Sy} (k : Nat) : (inY Y y0)[k]? = if k < (bef Y y0.1).length then Y[k]? else if k = (bef Y y0.1).length then some y0 else Y[k - 1]? := by
  unfold inY
  by_cases c : k < (bef Y y0.1).length
  · rw [if_pos c, List.getElem?_insertIdx_of_lt c]
  · rw [if_neg c]
    by_cases c2 : k = (bef Y y0.1).length
    · rw [if_pos c2, c2, List.getElem?_insertIdx_self, if_pos (bef_le _ _)]
    · rw [if_neg c2, List.getElem?_insertIdx_of_gt (by omega)]
theorem inY_srt {Y : List Sy} {y0 : Sy} (hs : srtY Y) (hn : ∀ y, y ∈ Y → ¬ y.1 = y0.1) : srtY (inY Y y0) := by
  refine srtY_of (fun i j y y' hij hy hy' => ?_)
  rw [inY_at] at hy hy'
  by_cases ci : i < (bef Y y0.1).length
  · rw [if_pos ci] at hy
    have h1 := (bef_lt hs hy).mp ci
    by_cases cj : j < (bef Y y0.1).length
    · rw [if_pos cj] at hy'
      exact srtY_lt hs hy hy' hij
    · rw [if_neg cj] at hy'
      by_cases cj2 : j = (bef Y y0.1).length
      · rw [if_pos cj2] at hy'; cases hy'; exact h1
      · rw [if_neg cj2] at hy'
        exact srtY_lt hs hy hy' (by omega)
  · rw [if_neg ci] at hy
    rw [if_neg (by omega), if_neg (by omega)] at hy'
    by_cases ci2 : i = (bef Y y0.1).length
    · rw [if_pos ci2] at hy
      cases hy
      have h1 : ¬ y'.1 < y0.1 := fun q => by have := (bef_lt hs hy').mpr q; omega
      have := hn y' (List.mem_of_getElem? hy')
      omega
    · rw [if_neg ci2] at hy
      exact srtY_lt hs hy hy' (by omega)
theorem erY_srt {Y : List Sy} {i : Nat} (hs : srtY Y) : srtY (Y.eraseIdx i) := List.Pairwise.sublist (List.eraseIdx_sublist _ _) hs
theorem l_x_insert (d g : Nat) (Y : List Sy) (y0 : Sy) (M0 : am_M) (Q : Option Value → am_M → Prop) (hL : Lay M0) (hg : isSh g) (hn : Y.length < 48) (h5 : mI M0 g 5 = nI Y.length) (hh : y0.1 < 48) (hs : srtY Y) (hno : ∀ y, y ∈ Y → ¬ y.1 = y0.1) (hyl : ∀ y, y ∈ Y → y.1 < 48)
    (hQ : ∀ M', gF (sIn g) nT M0 M' → mI M' g 5 = nI (Y.length + 1) → (∀ k y, (inY Y y0)[k]? = some y → rwX M' g k y) → Q (some (.int (nI (bef Y y0.1).length))) M') :
    ∀ (i : Nat), i ≤ Y.length → ∀ (M : am_M), gF (sIn g) nT M0 M → mI M g 5 = nI Y.length → (∀ k y, k < i → Y[k]? = some y → rwX M g k y) → (∀ k y, i ≤ k → Y[k]? = some y → rwX M g (k + 1) y ∧ y0.1 < y.1) → am_P am_P0 d (am_look tX6_insert) 17 [.ref g, .int (nI y0.1), .int (nI y0.2.1), .int (b01 y0.2.2), .int (nI i)] [] M Q := by
  have b01c : ∀ l : Bool, b01 l = 0 ∨ b01 l = 1 := fun l => by cases l <;> decide
  have fin : ∀ i, i ≤ Y.length → ∀ (M : am_M), gF (sIn g) nT M0 M → mI M g 5 = nI Y.length → (∀ k y, k < i → Y[k]? = some y → rwX M g k y ∧ y.1 < y0.1) → (∀ k y, i ≤ k → Y[k]? = some y → rwX M g (k + 1) y ∧ y0.1 < y.1) → am_P am_P0 d (am_look tX6_insert) 89 [.ref g, .int (nI y0.1), .int (nI y0.2.1), .int (b01 y0.2.2), .int (nI i)] [] M Q := by
    intro i hi M hM h5M h1 h2
    have hLM := gF_LayN hM hL
    have hcut : (bef Y y0.1).length = i := bef_cut hi (fun k y q1 q2 => (h1 k y q1 q2).2) (fun k y q1 q2 => Nat.le_of_lt (h2 k y q1 q2).2)
    have n1 : ¬ (g = g + 1) := by omega
    have n2 : ¬ (g = g + 2) := by omega
    have n3 : ¬ (g = g + 3) := by omega
    simp +decide (disch := omega) only [qX6_insert_0, qX6_insert_1, lw_ hLM hg, h5M, b01c, n1, n2, n3, ni_in_t, ni_tn, ni_add1, am_w1_i, am_w1_r, am_w1_x, am_w1_l, am_w1_w, va_rf_s, am_push_n, am_push_s, am_cs_0, am_cs_i, am_cs_l, am_cs_r, m_uI_K, m_uI_N, m_uI_R, m_uI_L, m_uI_I, m_uL_K, m_uL_N, m_uL_R, m_uL_I, m_uL_L, m_uR_K, m_uR_N, m_uR_I, m_uR_L, m_uR_R, true_and, and_true, true_implies, false_implies, not_true_eq_false, not_false_eq_true, if_true, if_false, false_and, and_false]
    have G : gF (sIn g) nT M (uI (uI (uI (uI M (g + 1) i (nI y0.1)) (g + 2) i (nI y0.2.1)) (g + 3) i (b01 y0.2.2)) g 5 (nI (Y.length + 1))) := gF_trans (gF_i _ (Or.inr (Or.inl rfl))) (gF_trans (gF_i _ (Or.inr (Or.inr (Or.inl rfl)))) (gF_trans (gF_i _ (Or.inr (Or.inr (Or.inr rfl)))) (gF_i _ (Or.inl ⟨rfl, rfl⟩))))
    have h0 := hQ _ (gF_trans hM G) (by rw [m_uI_I, if_pos ⟨rfl, rfl⟩]) (fun k y hy => by
      have key : ∀ k', ¬ k' = i → rwX M g k' y → rwX (uI (uI (uI (uI M (g + 1) i (nI y0.1)) (g + 2) i (nI y0.2.1)) (g + 3) i (b01 y0.2.2)) g 5 (nI (Y.length + 1))) g k' y := fun k' hk' q => by
        obtain ⟨q1, q2, q3⟩ := q
        refine ⟨?_, ?_, ?_⟩
        · rw [m_uI_I, if_neg (by omega), m_uI_I, if_neg (by omega), m_uI_I, if_neg (by omega), m_uI_I, if_neg (by omega)]; exact q1
        · rw [m_uI_I, if_neg (by omega), m_uI_I, if_neg (by omega), m_uI_I, if_neg (by omega), m_uI_I, if_neg (by omega)]; exact q2
        · rw [m_uI_I, if_neg (by omega), m_uI_I, if_neg (by omega), m_uI_I, if_neg (by omega), m_uI_I, if_neg (by omega)]; exact q3
      rw [inY_at, hcut] at hy
      by_cases c : k < i
      · rw [if_pos c] at hy
        exact key k (by omega) (h1 k y c hy).1
      · rw [if_neg c] at hy
        by_cases c2 : k = i
        · rw [if_pos c2] at hy
          cases hy
          subst c2
          refine ⟨?_, ?_, ?_⟩
          · rw [m_uI_I, if_neg (by omega), m_uI_I, if_neg (by omega), m_uI_I, if_neg (by omega), m_uI_I, if_pos ⟨rfl, rfl⟩]
          · rw [m_uI_I, if_neg (by omega), m_uI_I, if_neg (by omega), m_uI_I, if_pos ⟨rfl, rfl⟩]
          · rw [m_uI_I, if_neg (by omega), m_uI_I, if_pos ⟨rfl, rfl⟩]
        · rw [if_neg c2] at hy
          have := (h2 (k - 1) y (by omega) hy).1
          rw [show k - 1 + 1 = k by omega] at this
          exact key k c2 this)
    rw [hcut] at h0
    exact h0
  intro i
  induction i with
  | zero =>
    intro hi M hM h5M h1 h2
    have h0 := fin 0 hi M hM h5M (fun k y hk => by omega) h2
    rw [hX6_insert_17]
    simp +decide only [qX6_insert_0, qX6_insert_1, lw_ (gF_LayN hM hL) hg, h5M, am_w1_i, am_w1_r, am_w1_x, am_w1_l, am_w1_w, va_rf_s, am_push_n, am_push_s, am_cs_0, am_cs_i, am_cs_l, am_cs_r, m_uI_K, m_uI_N, m_uI_R, m_uI_L, m_uI_I, m_uL_K, m_uL_N, m_uL_R, m_uL_I, m_uL_L, m_uR_K, m_uR_N, m_uR_I, m_uR_L, m_uR_R, true_and, and_true, true_implies, false_implies, not_true_eq_false, not_false_eq_true, if_true, if_false, false_and, and_false] at h0 ⊢
    exact h0
  | succ i ih =>
    intro hi M hM h5M h1 h2
    have hLM := gF_LayN hM hL
    obtain ⟨y, hy⟩ : ∃ y, Y[i]? = some y := ⟨Y[i]'(by omega), List.getElem?_eq_getElem (by omega)⟩
    obtain ⟨r1, r2, r3⟩ := h1 i y (by omega) hy
    have hy48 := hyl y (List.mem_of_getElem? hy)
    have hi0 : ¬ nI (i + 1) ≤ 0 := by rw [show (0 : Int32) = nI 0 from rfl, ni_le (by omega) (by omega)]; omega
    by_cases c : y0.1 < y.1
    · have n1 : ¬ (g = g + 1) := by omega
      have h0 := ih (by omega) (uI (uI (uI M (g + 1) (i + 1) (nI y.1)) (g + 2) (i + 1) (nI y.2.1)) (g + 3) (i + 1) (b01 y.2.2)) (gF_trans hM (gF_trans (gF_i _ (Or.inr (Or.inl rfl))) (gF_trans (gF_i _ (Or.inr (Or.inr (Or.inl rfl)))) (gF_i _ (Or.inr (Or.inr (Or.inr rfl))))))) (by rw [m_uI_I, if_neg (by omega), m_uI_I, if_neg (by omega), m_uI_I, if_neg (by omega)]; exact h5M) (fun k u hk hu => ?_) (fun k u hk hu => ?_)
      · rw [hX6_insert_17]
        have hb := b01c y.2.2
        simp +decide (disch := omega) only [qX6_insert_0, qX6_insert_1, lw_ hLM hg, h5M, ni_sub1, ni_dec, r1, r2, r3, hb, Nat.add_left_cancel_iff, ni_in_t, ni_tn, ni_add1, am_w1_i, am_w1_r, am_w1_x, am_w1_l, am_w1_w, va_rf_s, am_push_n, am_push_s, am_cs_0, am_cs_i, am_cs_l, am_cs_r, m_uI_K, m_uI_N, m_uI_R, m_uI_L, m_uI_I, m_uL_K, m_uL_N, m_uL_R, m_uL_I, m_uL_L, m_uR_K, m_uR_N, m_uR_I, m_uR_L, m_uR_R, true_and, and_true, true_implies, false_implies, not_true_eq_false, not_false_eq_true, if_true, if_false, false_and, and_false]
        rw [br_n hi0, br_n (by rw [ni_le (by omega) (by omega)]; omega)]
        exact h0
      · obtain ⟨q1, q2, q3⟩ := h1 k u (by omega) hu
        refine ⟨?_, ?_, ?_⟩
        · rw [m_uI_I, if_neg (by omega), m_uI_I, if_neg (by omega), m_uI_I, if_neg (by omega)]; exact q1
        · rw [m_uI_I, if_neg (by omega), m_uI_I, if_neg (by omega), m_uI_I, if_neg (by omega)]; exact q2
        · rw [m_uI_I, if_neg (by omega), m_uI_I, if_neg (by omega), m_uI_I, if_neg (by omega)]; exact q3
      · by_cases e : k = i
        · subst e
          cases hy.symm.trans hu
          refine ⟨⟨?_, ?_, ?_⟩, c⟩
          · rw [m_uI_I, if_neg (by omega), m_uI_I, if_neg (by omega), m_uI_I, if_pos ⟨rfl, rfl⟩]
          · rw [m_uI_I, if_neg (by omega), m_uI_I, if_pos ⟨rfl, rfl⟩]
          · rw [m_uI_I, if_pos ⟨rfl, rfl⟩]
        · obtain ⟨⟨q1, q2, q3⟩, q4⟩ := h2 k u (by omega) hu
          refine ⟨⟨?_, ?_, ?_⟩, q4⟩
          · rw [m_uI_I, if_neg (by omega), m_uI_I, if_neg (by omega), m_uI_I, if_neg (by omega)]; exact q1
          · rw [m_uI_I, if_neg (by omega), m_uI_I, if_neg (by omega), m_uI_I, if_neg (by omega)]; exact q2
          · rw [m_uI_I, if_neg (by omega), m_uI_I, if_neg (by omega), m_uI_I, if_neg (by omega)]; exact q3
    · have hne := hno y (List.mem_of_getElem? hy)
      have h0 := fin (i + 1) hi M hM h5M (fun k u hk hu => ⟨h1 k u hk hu, by
        by_cases e : k = i
        · subst e; cases hy.symm.trans hu; omega
        · have := srtY_lt hs hu hy (by omega); omega⟩) h2
      rw [hX6_insert_17]
      simp +decide (disch := omega) only [qX6_insert_0, qX6_insert_1, lw_ hLM hg, h5M, ni_sub1, r1, ni_in_t, ni_tn, ni_add1, am_w1_i, am_w1_r, am_w1_x, am_w1_l, am_w1_w, va_rf_s, am_push_n, am_push_s, am_cs_0, am_cs_i, am_cs_l, am_cs_r, m_uI_K, m_uI_N, m_uI_R, m_uI_L, m_uI_I, m_uL_K, m_uL_N, m_uL_R, m_uL_I, m_uL_L, m_uR_K, m_uR_N, m_uR_I, m_uR_L, m_uR_R, true_and, and_true, true_implies, false_implies, not_true_eq_false, not_false_eq_true, if_true, if_false, false_and, and_false] at h0 ⊢
      rw [br_n hi0, br_p (by rw [ni_le (by omega) (by omega)]; omega)]
      exact h0
theorem c_x_insert (d g : Nat) (Y : List Sy) (y0 : Sy) (M : am_M) (Q : Option Value → am_M → Prop) (hL : Lay M) (hg : isSh g) (hS : SyX M g Y) (hn : Y.length < 48) (hh : y0.1 < 48) (hp : y0.2.1 < 256) (hs : srtY Y) (hno : ∀ y, y ∈ Y → ¬ y.1 = y0.1)
    (hQ : ∀ M', gF (sIn g) nT M M' → SyX M' g (inY Y y0) → Q (some (.int (nI (bef Y y0.1).length))) M') : am_E am_P0 d 66 [.ref g, .int (nI y0.1), .int (nI y0.2.1), .int (b01 y0.2.2)] M Q := by
  obtain ⟨h5, h48, h3⟩ := hS
  have hlt : nI Y.length < 48 := by rw [show (48 : Int32) = nI 48 from rfl, ni_lt (by omega) (by omega)]; exact hn
  have hall : ∀ y, y ∈ Y → y.1 < 48 ∧ y.2.1 < 256 := fun y hy => by
    obtain ⟨k, hk⟩ := List.mem_iff_getElem?.mp hy
    exact (h3 k y hk).1
  have h0 := l_x_insert d g Y y0 M Q hL hg hn h5 hh hs hno (fun y hy => (hall y hy).1) (fun M' g1 g2 g3 => hQ M' g1 ⟨by rw [inY_len]; exact g2, by rw [inY_len]; omega, fun k y hy => ⟨by
    rcases inY_mem.mp (List.mem_of_getElem? hy) with rfl | q
    · exact ⟨hh, hp⟩
    · exact hall y q, g3 k y hy⟩⟩) Y.length (Nat.le_refl _) M (gF_refl _ _ _) h5 (fun k y hk hy => (h3 k y hy).2) (fun k y hk hy => by have := (List.getElem?_eq_some_iff.mp hy).1; omega)
  rw [eX6_insert]
  simp +decide only [qX6_insert_0, qX6_insert_1, lw_ hL hg, h5, am_w1_i, am_w1_r, am_w1_x, am_w1_l, am_w1_w, va_rf_s, am_push_n, am_push_s, am_cs_0, am_cs_i, am_cs_l, am_cs_r, m_uI_K, m_uI_N, m_uI_R, m_uI_L, m_uI_I, m_uL_K, m_uL_N, m_uL_R, m_uL_I, m_uL_L, m_uR_K, m_uR_N, m_uR_I, m_uR_L, m_uR_R, true_and, and_true, true_implies, false_implies, not_true_eq_false, not_false_eq_true, if_true, if_false, false_and, and_false]
  rw [br_p hlt]
  exact h0
theorem l_x_remove (d g i : Nat) (Y : List Sy) (M0 : am_M) (Q : Option Value → am_M → Prop) (x1 : Int32) (hL : Lay M0) (hg : isSh g) (hi : i < Y.length) (h48 : Y.length ≤ 48)
    (hQ : ∀ M', gF (sIn g) nT M0 M' → mI M' g 5 = nI (Y.length - 1) → (∀ k y, (Y.eraseIdx i)[k]? = some y → rwX M' g k y) → Q none M') :
    ∀ (r k : Nat), k + 1 + r = Y.length → i ≤ k → ∀ (M : am_M), gF (sIn g) nT M0 M → mI M g 5 = nI Y.length → (∀ j y, j < k → (Y.eraseIdx i)[j]? = some y → rwX M g j y) → (∀ j y, k < j → Y[j]? = some y → rwX M g j y) → am_P am_P0 d (am_look tX6_remove) 2 [.ref g, .int x1, .int (nI k)] [] M Q := by
  have b01c : ∀ l : Bool, b01 l = 0 ∨ b01 l = 1 := fun l => by cases l <;> decide
  intro r
  induction r with
  | zero =>
    intro k hk hik M hM h5M h1 h2
    have hLM := gF_LayN hM hL
    have hle : nI Y.length ≤ nI (k + 1) := (ni_le (by omega) (by omega)).mpr (by omega)
    have e1 : nI Y.length - 1 = nI (Y.length - 1) := by rw [show (1 : Int32) = nI 1 from rfl, ni_sub (by omega)]
    have h0 := hQ (uI M g 5 (nI (Y.length - 1))) (gF_trans hM (gF_i _ (Or.inl ⟨rfl, rfl⟩))) (by rw [m_uI_I, if_pos ⟨rfl, rfl⟩]) (fun j y hy => by
      have hjl := (List.getElem?_eq_some_iff.mp hy).1
      rw [List.length_eraseIdx_of_lt hi] at hjl
      obtain ⟨q1, q2, q3⟩ := h1 j y (by omega) hy
      exact ⟨by rw [m_uI_I, if_neg (by omega)]; exact q1, by rw [m_uI_I, if_neg (by omega)]; exact q2, by rw [m_uI_I, if_neg (by omega)]; exact q3⟩)
    rw [hX6_remove_2]
    simp +decide only [qX6_remove_0, qX6_remove_1, lw_ hLM hg, h5M, e1, ni_add1, am_w1_i, am_w1_r, am_w1_x, am_w1_l, am_w1_w, va_rf_s, am_push_n, am_push_s, am_cs_0, am_cs_i, am_cs_l, am_cs_r, m_uI_K, m_uI_N, m_uI_R, m_uI_L, m_uI_I, m_uL_K, m_uL_N, m_uL_R, m_uL_I, m_uL_L, m_uR_K, m_uR_N, m_uR_I, m_uR_L, m_uR_R, true_and, and_true, true_implies, false_implies, not_true_eq_false, not_false_eq_true, if_true, if_false, false_and, and_false]
    rw [br_p hle]
    exact h0
  | succ r ih =>
    intro k hk hik M hM h5M h1 h2
    have hLM := gF_LayN hM hL
    have hlt : ¬ nI Y.length ≤ nI (k + 1) := by rw [ni_le (by omega) (by omega)]; omega
    obtain ⟨y, hy⟩ : ∃ y, Y[k + 1]? = some y := ⟨Y[k + 1]'(by omega), List.getElem?_eq_getElem (by omega)⟩
    obtain ⟨r1, r2, r3⟩ := h2 (k + 1) y (by omega) hy
    have hb := b01c y.2.2
    have h0 := ih (k + 1) (by omega) (by omega) (uI (uI (uI M (g + 1) k (nI y.1)) (g + 2) k (nI y.2.1)) (g + 3) k (b01 y.2.2)) (gF_trans hM (gF_trans (gF_i _ (Or.inr (Or.inl rfl))) (gF_trans (gF_i _ (Or.inr (Or.inr (Or.inl rfl)))) (gF_i _ (Or.inr (Or.inr (Or.inr rfl))))))) (by rw [m_uI_I, if_neg (by omega), m_uI_I, if_neg (by omega), m_uI_I, if_neg (by omega)]; exact h5M) (fun j u hj hu => ?_) (fun j u hj hu => ?_)
    · rw [hX6_remove_2]
      simp +decide (disch := omega) only [qX6_remove_0, qX6_remove_1, lw_ hLM hg, h5M, r1, r2, r3, hb, Nat.add_left_cancel_iff, ni_in_t, ni_tn, ni_add1, am_w1_i, am_w1_r, am_w1_x, am_w1_l, am_w1_w, va_rf_s, am_push_n, am_push_s, am_cs_0, am_cs_i, am_cs_l, am_cs_r, m_uI_K, m_uI_N, m_uI_R, m_uI_L, m_uI_I, m_uL_K, m_uL_N, m_uL_R, m_uL_I, m_uL_L, m_uR_K, m_uR_N, m_uR_I, m_uR_L, m_uR_R, true_and, and_true, true_implies, false_implies, not_true_eq_false, not_false_eq_true, if_true, if_false, false_and, and_false]
      rw [br_n hlt]
      exact h0
    · by_cases e : j = k
      · subst e
        rw [List.getElem?_eraseIdx_of_ge hik] at hu
        cases hy.symm.trans hu
        refine ⟨?_, ?_, ?_⟩
        · rw [m_uI_I, if_neg (by omega), m_uI_I, if_neg (by omega), m_uI_I, if_pos ⟨rfl, rfl⟩]
        · rw [m_uI_I, if_neg (by omega), m_uI_I, if_pos ⟨rfl, rfl⟩]
        · rw [m_uI_I, if_pos ⟨rfl, rfl⟩]
      · obtain ⟨q1, q2, q3⟩ := h1 j u (by omega) hu
        refine ⟨?_, ?_, ?_⟩
        · rw [m_uI_I, if_neg (by omega), m_uI_I, if_neg (by omega), m_uI_I, if_neg (by omega)]; exact q1
        · rw [m_uI_I, if_neg (by omega), m_uI_I, if_neg (by omega), m_uI_I, if_neg (by omega)]; exact q2
        · rw [m_uI_I, if_neg (by omega), m_uI_I, if_neg (by omega), m_uI_I, if_neg (by omega)]; exact q3
    · obtain ⟨q1, q2, q3⟩ := h2 j u (by omega) hu
      refine ⟨?_, ?_, ?_⟩
      · rw [m_uI_I, if_neg (by omega), m_uI_I, if_neg (by omega), m_uI_I, if_neg (by omega)]; exact q1
      · rw [m_uI_I, if_neg (by omega), m_uI_I, if_neg (by omega), m_uI_I, if_neg (by omega)]; exact q2
      · rw [m_uI_I, if_neg (by omega), m_uI_I, if_neg (by omega), m_uI_I, if_neg (by omega)]; exact q3
theorem c_x_remove (d g i : Nat) (Y : List Sy) (M : am_M) (Q : Option Value → am_M → Prop) (hL : Lay M) (hg : isSh g) (hS : SyX M g Y) (hi : i < Y.length)
    (hQ : ∀ M', gF (sIn g) nT M M' → SyX M' g (Y.eraseIdx i) → Q none M') : am_E am_P0 d 67 [.ref g, .int (nI i)] M Q := by
  obtain ⟨h5, h48, h3⟩ := hS
  have hall : ∀ y, y ∈ Y → y.1 < 48 ∧ y.2.1 < 256 := fun y hy => by
    obtain ⟨k, hk⟩ := List.mem_iff_getElem?.mp hy
    exact (h3 k y hk).1
  have h0 := l_x_remove d g i Y M Q (nI i) hL hg hi h48 (fun M' g1 g2 g3 => hQ M' g1 ⟨by rw [List.length_eraseIdx_of_lt hi]; exact g2, by rw [List.length_eraseIdx_of_lt hi]; omega, fun k y hy => ⟨hall y ((List.eraseIdx_sublist _ _).subset (List.mem_of_getElem? hy)), g3 k y hy⟩⟩) (Y.length - (i + 1)) i (by omega) (Nat.le_refl _) M (gF_refl _ _ _) h5 (fun j y hj hy => by
    rw [List.getElem?_eraseIdx_of_lt hj] at hy
    exact (h3 j y hy).2) (fun j y hj hy => (h3 j y hy).2)
  rw [eX6_remove]
  simp +decide only [qX6_remove_0, qX6_remove_1, am_w1_i, am_w1_r, am_w1_x, am_w1_l, am_w1_w, va_rf_s, am_push_n, am_push_s, am_cs_0, am_cs_i, am_cs_l, am_cs_r, m_uI_K, m_uI_N, m_uI_R, m_uI_L, m_uI_I, m_uL_K, m_uL_N, m_uL_R, m_uL_I, m_uL_L, m_uR_K, m_uR_N, m_uR_I, m_uR_L, m_uR_R, true_and, and_true, true_implies, false_implies, not_true_eq_false, not_false_eq_true, if_true, if_false, false_and, and_false]
  exact h0
def sEb (g a j : Nat) : Prop := (a = g ∧ j = 9) ∨ a = g + 4 ∨ a = g + 5 ∨ a = g + 6
theorem c_x_enterBook (d g : Nat) (B : List Fct) (f : Fct) (M : am_M) (Q : Option Value → am_M → Prop) (hL : Lay M) (hg : isSh g) (hB : BkX M g B) (hn : B.length < 12) (hf : f.1 < 256 ∧ f.2.1 ≤ f.2.2 ∧ f.2.2 < 48)
    (hQ : ∀ M', gF (sEb g) nT M M' → BkX M' g (B ++ [f]) → Q none M') : am_E am_P0 d 68 [.ref g, .int (nI f.1), .int (nI f.2.1), .int (nI f.2.2)] M Q := by
  obtain ⟨h9, h12, h3⟩ := hB
  have hlt : ¬ (12 : Int32) ≤ nI B.length := by rw [show (12 : Int32) = nI 12 from rfl, ni_le (by omega) (by omega)]; omega
  have n1 : ¬ (g = g + 4) := by omega
  have n2 : ¬ (g = g + 5) := by omega
  have n3 : ¬ (g = g + 6) := by omega
  have G : gF (sEb g) nT M (uI (uI (uI (uI M (g + 4) B.length (nI f.1)) (g + 5) B.length (nI f.2.1)) (g + 6) B.length (nI f.2.2)) g 9 (nI (B.length + 1))) := gF_trans (gF_i _ (Or.inr (Or.inl rfl))) (gF_trans (gF_i _ (Or.inr (Or.inr (Or.inl rfl)))) (gF_trans (gF_i _ (Or.inr (Or.inr (Or.inr rfl)))) (gF_i _ (Or.inl ⟨rfl, rfl⟩))))
  have h0 := hQ _ G ⟨by rw [m_uI_I, if_pos ⟨rfl, rfl⟩, List.length_append]; rfl, by rw [List.length_append]; show B.length + 1 ≤ 12; omega, fun i u hu => by
    by_cases e : i < B.length
    · rw [List.getElem?_append_left e] at hu
      obtain ⟨q1, q2, q3, q4⟩ := h3 i u hu
      refine ⟨q1, ?_, ?_, ?_⟩
      · rw [m_uI_I, if_neg (by omega), m_uI_I, if_neg (by omega), m_uI_I, if_neg (by omega), m_uI_I, if_neg (by omega)]; exact q2
      · rw [m_uI_I, if_neg (by omega), m_uI_I, if_neg (by omega), m_uI_I, if_neg (by omega), m_uI_I, if_neg (by omega)]; exact q3
      · rw [m_uI_I, if_neg (by omega), m_uI_I, if_neg (by omega), m_uI_I, if_neg (by omega), m_uI_I, if_neg (by omega)]; exact q4
    · rw [List.getElem?_append_right (by omega)] at hu
      have hl := (List.getElem?_eq_some_iff.mp hu).1
      have e2 : i = B.length := by
        have : ([f] : List Fct).length = 1 := rfl
        omega
      subst e2
      rw [Nat.sub_self] at hu
      cases hu
      refine ⟨hf, ?_, ?_, ?_⟩
      · rw [m_uI_I, if_neg (by omega), m_uI_I, if_neg (by omega), m_uI_I, if_neg (by omega), m_uI_I, if_pos ⟨rfl, rfl⟩]
      · rw [m_uI_I, if_neg (by omega), m_uI_I, if_neg (by omega), m_uI_I, if_pos ⟨rfl, rfl⟩]
      · rw [m_uI_I, if_neg (by omega), m_uI_I, if_pos ⟨rfl, rfl⟩]⟩
  rw [eX6_enterBook]
  simp +decide (disch := omega) only [qX6_enterBook, lw_ hL hg, h9, n1, n2, n3, ni_in_t, ni_tn, ni_add1, am_w1_i, am_w1_r, am_w1_x, am_w1_l, am_w1_w, va_rf_s, am_push_n, am_push_s, am_cs_0, am_cs_i, am_cs_l, am_cs_r, m_uI_K, m_uI_N, m_uI_R, m_uI_L, m_uI_I, m_uL_K, m_uL_N, m_uL_R, m_uL_I, m_uL_L, m_uR_K, m_uR_N, m_uR_I, m_uR_L, m_uR_R, true_and, and_true, true_implies, false_implies, not_true_eq_false, not_false_eq_true, if_true, if_false, false_and, and_false]
  rw [br_n hlt]
  exact h0
end
