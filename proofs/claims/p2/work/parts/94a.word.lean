/-! the class's reader: letters as numbers, own words -/
def kdN (c : Nat) : Nat := if isL c = true then 1 else if isD c = true then 2 else 3
theorem isL_i {c : Nat} : isL c = true ↔ 97 ≤ c ∧ c ≤ 122 := by unfold isL; rw [Bool.and_eq_true, decide_eq_true_iff, decide_eq_true_iff]
theorem isD_i {c : Nat} : isD c = true ↔ 48 ≤ c ∧ c ≤ 57 := by unfold isD; rw [Bool.and_eq_true, decide_eq_true_iff, decide_eq_true_iff]
theorem isA_i {c : Nat} : isA c = true ↔ isL c = true ∨ isD c = true := by unfold isA; rw [Bool.or_eq_true]
theorem isBl_i {c : Nat} : isBl c = true ↔ c = 10 ∨ c = 32 := by unfold isBl; rw [Bool.or_eq_true, beq_iff_eq, beq_iff_eq]
theorem kdN_1 {c : Nat} : kdN c = 1 ↔ isL c = true := by
  unfold kdN
  constructor
  · intro h
    split at h
    · assumption
    · split at h <;> omega
  · intro h; rw [if_pos h]
theorem kdN_2 {c : Nat} : kdN c = 2 ↔ isD c = true := by
  unfold kdN
  constructor
  · intro h
    split at h
    · omega
    · split at h
      · assumption
      · omega
  · intro h
    rw [isD_i] at h
    rw [if_neg (by rw [isL_i]; omega), if_pos (isD_i.mpr h)]
theorem kdN_3 {c : Nat} : kdN c = 3 ↔ ¬ isA c = true := by
  rw [isA_i]
  unfold kdN
  constructor
  · intro h
    split at h
    · omega
    · split at h
      · omega
      · rename_i a b; exact fun q => q.elim a b
  · intro h
    rw [if_neg (fun q => h (Or.inl q)), if_neg (fun q => h (Or.inr q))]
theorem kdN_le (c : Nat) : 1 ≤ kdN c ∧ kdN c ≤ 3 := by
  unfold kdN
  split
  · omega
  · split <;> omega
theorem c_x_kindOf (d c : Nat) (M : am_M) (Q : Option Value → am_M → Prop) (hc : c < 256) : am_E am_P0 d 37 [.int (nI c)] M Q ↔ Q (some (.int (nI (kdN c)))) M := by
  rw [eX3_kindOf]
  have l1 : nI c < 97 ↔ c < 97 := by rw [show (97 : Int32) = nI 97 from rfl, ni_lt (by omega) (by omega)]
  have l2 : 122 < nI c ↔ 122 < c := by rw [show (122 : Int32) = nI 122 from rfl, ni_lt (by omega) (by omega)]
  have l3 : nI c < 48 ↔ c < 48 := by rw [show (48 : Int32) = nI 48 from rfl, ni_lt (by omega) (by omega)]
  have l4 : 57 < nI c ↔ 57 < c := by rw [show (57 : Int32) = nI 57 from rfl, ni_lt (by omega) (by omega)]
  simp +decide only [qX3_kindOf, l1, l2, l3, l4, am_w1_i, am_w1_r, am_w1_x, am_w1_l, am_w1_w, va_rf_s, am_push_n, am_push_s, am_cs_0, am_cs_i, am_cs_l, am_cs_r, m_uI_K, m_uI_N, m_uI_R, m_uI_L, m_uI_I, m_uL_K, m_uL_N, m_uL_R, m_uL_I, m_uL_L, m_uR_K, m_uR_N, m_uR_I, m_uR_L, m_uR_R, true_and, and_true, true_implies, false_implies, not_true_eq_false, not_false_eq_true, if_true, if_false, false_and, and_false]
  have k1 := kdN_1 (c := c)
  have k2 := kdN_2 (c := c)
  have k3 := kdN_3 (c := c)
  rw [isA_i] at k3
  rw [isL_i] at k1 k3
  rw [isD_i] at k2 k3
  by_cases h1 : c < 97
  · rw [br_p h1]
    by_cases h3 : c < 48
    · rw [br_p h3, k3.mpr (by omega)]; exact Iff.rfl
    · rw [br_n h3]
      by_cases h4 : 57 < c
      · rw [br_p h4, k3.mpr (by omega)]; exact Iff.rfl
      · rw [br_n h4, k2.mpr (by omega)]; exact Iff.rfl
  · rw [br_n h1]
    by_cases h2 : 122 < c
    · rw [br_p h2, br_n (by omega), br_p (by omega), k3.mpr (by omega)]; exact Iff.rfl
    · rw [br_n h2, k1.mpr (by omega)]; exact Iff.rfl
/-- letters packed, five bits each -/
def pkV (T : Nat → Nat) (s : Nat) : Nat → Nat
  | 0 => 0
  | i + 1 => pkV T s i + (T (s + i) - 96) * 32 ^ i
theorem pkV_lt {T : Nat → Nat} {s : Nat} : ∀ i, (∀ j, j < i → isL (T (s + j)) = true) → pkV T s i < 32 ^ i := by
  intro i
  induction i with
  | zero => intro _; exact Nat.one_pos
  | succ i ih =>
    intro h
    have h1 := ih (fun j hj => h j (by omega))
    have h2 := isL_i.mp (h i (by omega))
    have e : pkV T s (i + 1) = pkV T s i + (T (s + i) - 96) * 32 ^ i := rfl
    have h3 : (T (s + i) - 96) * 32 ^ i ≤ 26 * 32 ^ i := Nat.mul_le_mul_right _ (by omega)
    rw [e, Nat.pow_succ]
    omega
theorem pk_or {v x i : Nat} (hi : i ≤ 5) (hv : v < 32 ^ i) (hx : x < 32) : nI v ||| (nI x <<< (nI (5 * i) &&& 31)) = nI (v + x * 32 ^ i) := by
  have hs : (nI (5 * i) &&& 31).toBitVec.smod 32 = BitVec.ofNat 32 (5 * i) := by
    have : ∀ i, i ≤ 5 → (nI (5 * i) &&& 31).toBitVec.smod 32 = BitVec.ofNat 32 (5 * i) := by decide
    exact this i hi
  rw [← Int32.toBitVec_inj, Int32.toBitVec_or, Int32.toBitVec_shiftLeft, hs]
  have e32 : 32 ^ i = 2 ^ (5 * i) := by rw [Nat.pow_mul]
  have hlt : 32 ^ i ≤ 32 ^ 5 := Nat.pow_le_pow_right (by omega) hi
  have h5 : (32 : Nat) ^ 5 = 33554432 := by decide
  have hm : x * 32 ^ i ≤ 31 * 33554432 := Nat.mul_le_mul (by omega) (by omega)
  have b : ∀ n : Nat, (nI n).toBitVec = BitVec.ofNat 32 n := fun n => rfl
  apply BitVec.eq_of_toNat_eq
  rw [BitVec.toNat_or, b, b, b, BitVec.toNat_ofNat, BitVec.toNat_ofNat, BitVec.shiftLeft_eq', BitVec.toNat_shiftLeft, BitVec.toNat_ofNat, BitVec.toNat_ofNat, Nat.mod_eq_of_lt (a := v) (by omega), Nat.mod_eq_of_lt (a := x) (by omega), Nat.mod_eq_of_lt (a := 5 * i) (by omega), Nat.shiftLeft_eq, ← e32, Nat.mod_eq_of_lt (a := x * 32 ^ i) (by omega), Nat.mod_eq_of_lt (a := v + x * 32 ^ i) (by omega), Nat.or_comm]
  rw [e32] at hv ⊢
  rw [← Nat.shiftLeft_eq, ← Nat.shiftLeft_add_eq_or_of_lt hv, Nat.add_comm]
/-- a word packed -/
def pkL : List Nat → Nat
  | [] => 0
  | c :: r => (c - 96) + 32 * pkL r
def isWd (l : List Nat) : Prop := ∀ c, c ∈ l → 97 ≤ c ∧ c ≤ 122
theorem pkL_app (l : List Nat) (c : Nat) : pkL (l ++ [c]) = pkL l + (c - 96) * 32 ^ l.length := by
  induction l with
  | nil => show (c - 96) + 32 * 0 = 0 + (c - 96) * 32 ^ 0; omega
  | cons a r ih =>
    show (a - 96) + 32 * pkL (r ++ [c]) = (a - 96) + 32 * pkL r + (c - 96) * 32 ^ (r.length + 1)
    rw [ih, Nat.pow_succ, Nat.mul_add, Nat.add_assoc]
    congr 2
    rw [Nat.mul_comm 32, Nat.mul_assoc]
theorem pkV_L (T : Nat → Nat) (s : Nat) : ∀ i, pkV T s i = pkL (letV T s i) := by
  intro i
  induction i with
  | zero => rfl
  | succ i ih =>
    have e : letV T s (i + 1) = letV T s i ++ [T (s + i)] := by unfold letV; rw [List.range_succ, List.map_append]; rfl
    rw [e, pkL_app, ← ih]
    have hl : (letV T s i).length = i := by unfold letV; rw [List.length_map, List.length_range]
    rw [hl]
    rfl
theorem pkL_inj : ∀ l m : List Nat, isWd l → isWd m → pkL l = pkL m → l = m := by
  intro l
  induction l with
  | nil =>
    intro m _ hm h
    cases m with
    | nil => rfl
    | cons b r =>
      have := hm b (List.mem_cons_self ..)
      have e : pkL (b :: r) = (b - 96) + 32 * pkL r := rfl
      have e0 : pkL ([] : List Nat) = 0 := rfl
      omega
  | cons a r ih =>
    intro m hl hm h
    have ha := hl a (List.mem_cons_self ..)
    have e1 : pkL (a :: r) = (a - 96) + 32 * pkL r := rfl
    cases m with
    | nil =>
      have e0 : pkL ([] : List Nat) = 0 := rfl
      omega
    | cons b q =>
      have hb := hm b (List.mem_cons_self ..)
      have e2 : pkL (b :: q) = (b - 96) + 32 * pkL q := rfl
      have h1 : a = b := by omega
      have h2 : pkL r = pkL q := by omega
      rw [h1, ih q (fun c hc => hl c (List.mem_cons_of_mem _ hc)) (fun c hc => hm c (List.mem_cons_of_mem _ hc)) h2]
theorem pkL_lt : ∀ l : List Nat, isWd l → pkL l < 32 ^ l.length := by
  intro l
  induction l with
  | nil => intro _; exact Nat.one_pos
  | cons a r ih =>
    intro h
    have h1 := ih (fun c hc => h c (List.mem_cons_of_mem _ hc))
    have h2 := h a (List.mem_cons_self ..)
    show (a - 96) + 32 * pkL r < 32 ^ (r.length + 1)
    rw [Nat.pow_succ]
    omega
/-- the own words -/
def ownW : List (List Nat) := [[115, 105, 122, 101], [100, 101, 112, 116, 104], [99, 111, 115, 116], [113, 117, 105, 101, 116], [115, 104, 105, 112], [108, 111, 111, 107], [115, 112, 101, 101, 100], [100, 114, 97, 102, 116], [108, 111, 97, 100], [115, 97, 121, 115], [97, 116], [108, 97, 100, 101, 110], [98, 111, 111, 107], [102, 114, 111, 109], [116, 111], [115, 101, 101, 110], [104, 111, 117, 114], [108, 117, 99, 107], [119, 104, 101, 110], [111, 114], [97, 110, 100], [110, 111, 116], [97, 108, 108], [99, 111, 108, 117, 109, 110], [114, 111, 119], [109, 105, 110], [109, 97, 120]]
theorem ownW_wd : ∀ l ∈ ownW, isWd l := by unfold isWd; decide
theorem ownW_nd : ∀ i, i < 27 → ∀ j, j < 27 → ownW.getD i [] = ownW.getD j [] → i = j := by decide +kernel
/-- the place of a word among them -/
def owI (l : List Nat) : Int32 := if ownW.findIdx (fun w => w == l) < 27 then nI (ownW.findIdx (fun w => w == l)) else -1
def OwX (M : am_M) : Prop := ∀ k, k < 27 → mI M 166 k = nI (pkL (ownW.getD k []))
theorem ownW_d {k : Nat} (h : k < 27) : ownW[k]? = some (ownW.getD k []) := by
  rw [List.getD_eq_getElem?_getD, List.getElem?_eq_getElem (show k < ownW.length from h)]
  rfl
theorem owI_is {l : List Nat} {k : Nat} (h : k < 27) : owI l = nI k ↔ l = ownW.getD k [] := by
  unfold owI
  have hl : ownW.length = 27 := rfl
  constructor
  · intro q
    by_cases c : ownW.findIdx (fun w => w == l) < 27
    · rw [if_pos c, ni_eq (by omega) (by omega)] at q
      have h1 := List.findIdx_getElem (xs := ownW) (p := fun w => w == l) (w := (show _ < ownW.length from c))
      have h2 := ownW_d c
      rw [List.getElem?_eq_getElem (show _ < ownW.length from c)] at h2
      rw [Option.some.inj h2, beq_iff_eq, q] at h1
      exact h1.symm
    · rw [if_neg c] at q
      exact absurd q.symm (nI_m1 (by omega))
  · intro q
    have c : ownW.findIdx (fun w => w == l) < ownW.length := List.findIdx_lt_length_of_exists ⟨ownW.getD k [], List.mem_of_getElem? (ownW_d h), by rw [q]; exact beq_self_eq_true _⟩
    have c' : ownW.findIdx (fun w => w == l) < 27 := c
    rw [if_pos c']
    have h1 := List.findIdx_getElem (xs := ownW) (p := fun w => w == l) (w := c)
    have h2 := ownW_d c'
    rw [List.getElem?_eq_getElem c] at h2
    rw [Option.some.inj h2, beq_iff_eq] at h1
    rw [ownW_nd _ c' _ h (h1.trans q)]
theorem owI_no {l : List Nat} : owI l = -1 ↔ ∀ k, k < 27 → ¬ l = ownW.getD k [] := by
  constructor
  · intro q k hk e
    rw [(owI_is hk).mpr e] at q
    exact nI_m1 (by omega) q
  · intro q
    unfold owI
    by_cases c : ownW.findIdx (fun w => w == l) < 27
    · have h1 := List.findIdx_getElem (xs := ownW) (p := fun w => w == l) (w := (show _ < ownW.length from c))
      have h2 := ownW_d c
      rw [List.getElem?_eq_getElem (show _ < ownW.length from c)] at h2
      rw [Option.some.inj h2, beq_iff_eq] at h1
      exact absurd h1.symm (q _ c)
    · rw [if_neg c]
theorem l_x_ownWord (d : Nat) (l : List Nat) (M : am_M) (Q : Option Value → am_M → Prop) (hL : Lay M) (hO : OwX M) (hl : isWd l) (h6 : l.length ≤ 6) : ∀ (m k : Nat), k + m = 27 → (∀ j, j < k → ¬ l = ownW.getD j []) → (am_P am_P0 d (am_look tX3_ownWord) 2 [.ref 165, .int (nI (pkL l)), .int (nI k)] [] M Q ↔ Q (some (.int (owI l))) M) := by
  have hp : pkL l < 2147483648 := by
    have h1 := pkL_lt l hl
    have h2 : 32 ^ l.length ≤ 32 ^ 6 := Nat.pow_le_pow_right (by omega) h6
    have h3 : (32 : Nat) ^ 6 = 1073741824 := by decide
    omega
  have ho : ∀ j, j < 27 → isWd (ownW.getD j []) ∧ pkL (ownW.getD j []) < 2147483648 := fun j hj => by
    have h0 := ownW_wd _ (List.mem_of_getElem? (ownW_d hj))
    refine ⟨h0, ?_⟩
    have h1 := pkL_lt _ h0
    have hlen : (ownW.getD j []).length ≤ 6 := by
      have : ∀ j, j < 27 → (ownW.getD j []).length ≤ 6 := by decide
      exact this j hj
    have h2 : 32 ^ (ownW.getD j []).length ≤ 32 ^ 6 := Nat.pow_le_pow_right (by omega) hlen
    have h3 : (32 : Nat) ^ 6 = 1073741824 := by decide
    omega
  intro m
  induction m with
  | zero =>
    intro k hk hno
    have e : k = 27 := by omega
    subst e
    rw [hX3_ownWord_2]
    simp +decide only [qX3_ownWord, am_w1_i, am_w1_r, am_w1_x, am_w1_l, am_w1_w, va_rf_s, am_push_n, am_push_s, am_cs_0, am_cs_i, am_cs_l, am_cs_r, m_uI_K, m_uI_N, m_uI_R, m_uI_L, m_uI_I, m_uL_K, m_uL_N, m_uL_R, m_uL_I, m_uL_L, m_uR_K, m_uR_N, m_uR_I, m_uR_L, m_uR_R, true_and, and_true, true_implies, false_implies, not_true_eq_false, not_false_eq_true, if_true, if_false, false_and, and_false]
    rw [owI_no.mpr hno]
  | succ m ih =>
    intro k hk hno
    have hlt : ¬ (27 : Int32) ≤ nI k := by rw [show (27 : Int32) = nI 27 from rfl, ni_le (by omega) (by omega)]; omega
    obtain ⟨o1, o2⟩ := ho k (by omega)
    rw [hX3_ownWord_2]
    simp +decide (disch := omega) only [qX3_ownWord, lx hL, hO k (by omega), ni_in_t, ni_tn, ni_add1, am_w1_i, am_w1_r, am_w1_x, am_w1_l, am_w1_w, va_rf_s, am_push_n, am_push_s, am_cs_0, am_cs_i, am_cs_l, am_cs_r, m_uI_K, m_uI_N, m_uI_R, m_uI_L, m_uI_I, m_uL_K, m_uL_N, m_uL_R, m_uL_I, m_uL_L, m_uR_K, m_uR_N, m_uR_I, m_uR_L, m_uR_R, true_and, and_true, true_implies, false_implies, not_true_eq_false, not_false_eq_true, if_true, if_false, false_and, and_false]
    rw [br_n hlt]
    by_cases c : l = ownW.getD k []
    · rw [br_r (by rw [c]), (owI_is (by omega)).mpr c]
    · rw [br_q (fun q => c (pkL_inj _ _ hl o1 ((ni_eq o2 hp).mp q).symm))]
      exact ih (k + 1) (by omega) (fun j hj => by
        by_cases e : j = k
        · subst e; exact c
        · exact hno j (by omega))
theorem c_x_ownWord (d : Nat) (l : List Nat) (M : am_M) (Q : Option Value → am_M → Prop) (hL : Lay M) (hO : OwX M) (hl : isWd l) (h6 : l.length ≤ 6) : am_E am_P0 d 36 [.ref 165, .int (nI (pkL l))] M Q ↔ Q (some (.int (owI l))) M := by
  rw [eX3_ownWord]
  simp +decide only [qX3_ownWord, am_w1_i, am_w1_r, am_w1_x, am_w1_l, am_w1_w, va_rf_s, am_push_n, am_push_s, am_cs_0, am_cs_i, am_cs_l, am_cs_r, m_uI_K, m_uI_N, m_uI_R, m_uI_L, m_uI_I, m_uL_K, m_uL_N, m_uL_R, m_uL_I, m_uL_L, m_uR_K, m_uR_N, m_uR_I, m_uR_L, m_uR_R, true_and, and_true, true_implies, false_implies, not_true_eq_false, not_false_eq_true, if_true, if_false, false_and, and_false]
  exact l_x_ownWord d l M Q hL hO hl h6 27 0 (by omega) (fun j hj => by omega)
