/-! 94a.word 94b.step 94c.step2 94d.take 94e.gram 94f.gram2 94g.gram3 94h.gram4 94i.gram5 94j.gram6 -/
section
/-! the class's reader: letters as numbers, own words -/
def kdN (c : Nat) : Nat := if isL c = true then 1 else if isD c = true then 2 else 3
theorem isL_i {c : Nat} : isL c = true ↔ 97 ≤ c ∧ c ≤ 122 := by unfold isL; rw [Bool.and_eq_true, decide_eq_true_iff, decide_eq_true_iff]
theorem isD_i {c : Nat} : isD c = true ↔ 48 ≤ c ∧ c ≤ 57 := by unfold isD; rw [Bool.and_eq_true, decide_eq_true_iff, decide_eq_true_iff]
theorem isA_i {c : Nat} : isA c = true ↔ isL c = true ∨ isD c = true := by unfold isA; rw [Bool.or_eq_true]
theorem isBl_i {c : Nat} : isBl c = true ↔ c = 10 ∨ c = 32 := by unfold isBl; rw [Bool.or_eq_true, beq_iff_eq, beq_iff_eq]
theorem kdN_1 {c : Nat} : kdN c = 1 ↔ isL c = true := by
  unfold kdN
  constructor
  · intro h
    split at h
    · assumption
    · split at h <;> omega
  · intro h; rw [if_pos h]
theorem kdN_2 {c : Nat} : kdN c = 2 ↔ isD c = true := by
  unfold kdN
  constructor
  · intro h
    split at h
    · omega
    · split at h
      · assumption
      · omega
  · intro h
    rw [isD_i] at h
    rw [if_neg (by rw [isL_i]; omega), if_pos (isD_i.mpr h)]
theorem kdN_3 {c : Nat} : kdN c = 3 ↔ ¬ isA c = true := by
  rw [isA_i]
  unfold kdN
  constructor
  · intro h
    split at h
    · omega
    · split at h
      · omega
      · rename_i a b; exact fun q => q.elim a b
  · intro h
    rw [if_neg (fun q => h (Or.inl q)), if_neg (fun q => h (Or.inr q))]
theorem kdN_le (c : Nat) : 1 ≤ kdN c ∧ kdN c ≤ 3 := by
  unfold kdN
  split
  · omega
  · split <;> omega
theorem c_x_kindOf (d c : Nat) (M : am_M) (Q : Option Value → am_M → Prop) (hc : c < 256) : am_E am_P0 d 37 [.int (nI c)] M Q ↔ Q (some (.int (nI (kdN c)))) M := by
  rw [eX3_kindOf]
  have l1 : nI c < 97 ↔ c < 97 := by rw [show (97 : Int32) = nI 97 from rfl, ni_lt (by omega) (by omega)]
  have l2 : 122 < nI c ↔ 122 < c := by rw [show (122 : Int32) = nI 122 from rfl, ni_lt (by omega) (by omega)]
  have l3 : nI c < 48 ↔ c < 48 := by rw [show (48 : Int32) = nI 48 from rfl, ni_lt (by omega) (by omega)]
  have l4 : 57 < nI c ↔ 57 < c := by rw [show (57 : Int32) = nI 57 from rfl, ni_lt (by omega) (by omega)]
  simp +decide only [qX3_kindOf, l1, l2, l3, l4, am_w1_i, am_w1_r, am_w1_x, am_w1_l, am_w1_w, va_rf_s, am_push_n, am_push_s, am_cs_0, am_cs_i, am_cs_l, am_cs_r, m_uI_K, m_uI_N, m_uI_R, m_uI_L, m_uI_I, m_uL_K, m_uL_N, m_uL_R, m_uL_I, m_uL_L, m_uR_K, m_uR_N, m_uR_I, m_uR_L, m_uR_R, true_and, and_true, true_implies, false_implies, not_true_eq_false, not_false_eq_true, if_true, if_false, false_and, and_false]
  have k1 := kdN_1 (c := c)
  have k2 := kdN_2 (c := c)
  have k3 := kdN_3 (c := c)
  rw [isA_i] at k3
  rw [isL_i] at k1 k3
  rw [isD_i] at k2 k3
  by_cases h1 : c < 97
  · rw [br_p h1]
    by_cases h3 : c < 48
    · rw [br_p h3, k3.mpr (by omega)]; exact Iff.rfl
    · rw [br_n h3]
      by_cases h4 : 57 < c
      · rw [br_p h4, k3.mpr (by omega)]; exact Iff.rfl
      · rw [br_n h4, k2.mpr (by omega)]; exact Iff.rfl
  · rw [br_n h1]
    by_cases h2 : 122 < c
    · rw [br_p h2, br_n (by omega), br_p (by omega), k3.mpr (by omega)]; exact Iff.rfl
    · rw [br_n h2, k1.mpr (by omega)]; exact Iff.rfl
/-- letters packed, five bits each -/
def pkV (T : Nat → Nat) (s : Nat) : Nat → Nat
  | 0 => 0
  | i + 1 => pkV T s i + (T (s + i) - 96) * 32 ^ i
theorem pkV_lt {T : Nat → Nat} {s : Nat} : ∀ i, (∀ j, j < i → isL (T (s + j)) = true) → pkV T s i < 32 ^ i := by
  intro i
  induction i with
  | zero => intro _; exact Nat.one_pos
  | succ i ih =>
    intro h
    have h1 := ih (fun j hj => h j (by omega))
    have h2 := isL_i.mp (h i (by omega))
    have e : pkV T s (i + 1) = pkV T s i + (T (s + i) - 96) * 32 ^ i := rfl
    have h3 : (T (s + i) - 96) * 32 ^ i ≤ 26 * 32 ^ i := Nat.mul_le_mul_right _ (by omega)
    rw [e, Nat.pow_succ]
    omega
theorem pk_or {v x i : Nat} (hi : i ≤ 5) (hv : v < 32 ^ i) (hx : x < 32) : nI v ||| (nI x <<< (nI (5 * i) &&& 31)) = nI (v + x * 32 ^ i) := by
  have hs : (nI (5 * i) &&& 31).toBitVec.smod 32 = BitVec.ofNat 32 (5 * i) := by
    have : ∀ i, i ≤ 5 → (nI (5 * i) &&& 31).toBitVec.smod 32 = BitVec.ofNat 32 (5 * i) := by decide
    exact this i hi
  rw [← Int32.toBitVec_inj, Int32.toBitVec_or, Int32.toBitVec_shiftLeft, hs]
  have e32 : 32 ^ i = 2 ^ (5 * i) := by rw [Nat.pow_mul]
  have hlt : 32 ^ i ≤ 32 ^ 5 := Nat.pow_le_pow_right (by omega) hi
  have h5 : (32 : Nat) ^ 5 = 33554432 := by decide
  have hm : x * 32 ^ i ≤ 31 * 33554432 := Nat.mul_le_mul (by omega) (by omega)
  have b : ∀ n : Nat, (nI n).toBitVec = BitVec.ofNat 32 n := fun n => rfl
  apply BitVec.eq_of_toNat_eq
  rw [BitVec.toNat_or, b, b, b, BitVec.toNat_ofNat, BitVec.toNat_ofNat, BitVec.shiftLeft_eq', BitVec.toNat_shiftLeft, BitVec.toNat_ofNat, BitVec.toNat_ofNat, Nat.mod_eq_of_lt (a := v) (by omega), Nat.mod_eq_of_lt (a := x) (by omega), Nat.mod_eq_of_lt (a := 5 * i) (by omega), Nat.shiftLeft_eq, ← e32, Nat.mod_eq_of_lt (a := x * 32 ^ i) (by omega), Nat.mod_eq_of_lt (a := v + x * 32 ^ i) (by omega), Nat.or_comm]
  rw [e32] at hv ⊢
  rw [← Nat.shiftLeft_eq, ← Nat.shiftLeft_add_eq_or_of_lt hv, Nat.add_comm]
/-- a word packed -/
def pkL : List Nat → Nat
  | [] => 0
  | c :: r => (c - 96) + 32 * pkL r
def isWd (l : List Nat) : Prop := ∀ c, c ∈ l → 97 ≤ c ∧ c ≤ 122
theorem pkL_app (l : List Nat) (c : Nat) : pkL (l ++ [c]) = pkL l + (c - 96) * 32 ^ l.length := by
  induction l with
  | nil => show (c - 96) + 32 * 0 = 0 + (c - 96) * 32 ^ 0; omega
  | cons a r ih =>
    show (a - 96) + 32 * pkL (r ++ [c]) = (a - 96) + 32 * pkL r + (c - 96) * 32 ^ (r.length + 1)
    rw [ih, Nat.pow_succ, Nat.mul_add, Nat.add_assoc]
    congr 2
    rw [Nat.mul_comm 32, Nat.mul_assoc]
theorem pkV_L (T : Nat → Nat) (s : Nat) : ∀ i, pkV T s i = pkL (letV T s i) := by
  intro i
  induction i with
  | zero => rfl
  | succ i ih =>
    have e : letV T s (i + 1) = letV T s i ++ [T (s + i)] := by unfold letV; rw [List.range_succ, List.map_append]; rfl
    rw [e, pkL_app, ← ih]
    have hl : (letV T s i).length = i := by unfold letV; rw [List.length_map, List.length_range]
    rw [hl]
    rfl
theorem pkL_inj : ∀ l m : List Nat, isWd l → isWd m → pkL l = pkL m → l = m := by
  intro l
  induction l with
  | nil =>
    intro m _ hm h
    cases m with
    | nil => rfl
    | cons b r =>
      have := hm b (List.mem_cons_self ..)
      have e : pkL (b :: r) = (b - 96) + 32 * pkL r := rfl
      have e0 : pkL ([] : List Nat) = 0 := rfl
      omega
  | cons a r ih =>
    intro m hl hm h
    have ha := hl a (List.mem_cons_self ..)
    have e1 : pkL (a :: r) = (a - 96) + 32 * pkL r := rfl
    cases m with
    | nil =>
      have e0 : pkL ([] : List Nat) = 0 := rfl
      omega
    | cons b q =>
      have hb := hm b (List.mem_cons_self ..)
      have e2 : pkL (b :: q) = (b - 96) + 32 * pkL q := rfl
      have h1 : a = b := by omega
      have h2 : pkL r = pkL q := by omega
      rw [h1, ih q (fun c hc => hl c (List.mem_cons_of_mem _ hc)) (fun c hc => hm c (List.mem_cons_of_mem _ hc)) h2]
theorem pkL_lt : ∀ l : List Nat, isWd l → pkL l < 32 ^ l.length := by
  intro l
  induction l with
  | nil => intro _; exact Nat.one_pos
  | cons a r ih =>
    intro h
    have h1 := ih (fun c hc => h c (List.mem_cons_of_mem _ hc))
    have h2 := h a (List.mem_cons_self ..)
    show (a - 96) + 32 * pkL r < 32 ^ (r.length + 1)
    rw [Nat.pow_succ]
    omega
/-- the own words -/
def ownW : List (List Nat) := [[115, 105, 122, 101], [100, 101, 112, 116, 104], [99, 111, 115, 116], [113, 117, 105, 101, 116], [115, 104, 105, 112], [108, 111, 111, 107], [115, 112, 101, 101, 100], [100, 114, 97, 102, 116], [108, 111, 97, 100], [115, 97, 121, 115], [97, 116], [108, 97, 100, 101, 110], [98, 111, 111, 107], [102, 114, 111, 109], [116, 111], [115, 101, 101, 110], [104, 111, 117, 114], [108, 117, 99, 107], [119, 104, 101, 110], [111, 114], [97, 110, 100], [110, 111, 116], [97, 108, 108], [99, 111, 108, 117, 109, 110], [114, 111, 119], [109, 105, 110], [109, 97, 120]]
theorem ownW_wd : ∀ l ∈ ownW, isWd l := by unfold isWd; decide
theorem ownW_nd : ∀ i, i < 27 → ∀ j, j < 27 → ownW.getD i [] = ownW.getD j [] → i = j := by decide +kernel
/-- the place of a word among them -/
def owI (l : List Nat) : Int32 := if ownW.findIdx (fun w => w == l) < 27 then nI (ownW.findIdx (fun w => w == l)) else -1
def OwX (M : am_M) : Prop := ∀ k, k < 27 → mI M 166 k = nI (pkL (ownW.getD k []))
theorem ownW_d {k : Nat} (h : k < 27) : ownW[k]? = some (ownW.getD k []) := by
  rw [List.getD_eq_getElem?_getD, List.getElem?_eq_getElem (show k < ownW.length from h)]
  rfl
theorem owI_is {l : List Nat} {k : Nat} (h : k < 27) : owI l = nI k ↔ l = ownW.getD k [] := by
  unfold owI
  have hl : ownW.length = 27 := rfl
  constructor
  · intro q
    by_cases c : ownW.findIdx (fun w => w == l) < 27
    · rw [if_pos c, ni_eq (by omega) (by omega)] at q
      have h1 := List.findIdx_getElem (xs := ownW) (p := fun w => w == l) (w := (show _ < ownW.length from c))
      have h2 := ownW_d c
      rw [List.getElem?_eq_getElem (show _ < ownW.length from c)] at h2
      rw [Option.some.inj h2, beq_iff_eq, q] at h1
      exact h1.symm
    · rw [if_neg c] at q
      exact absurd q.symm (nI_m1 (by omega))
  · intro q
    have c : ownW.findIdx (fun w => w == l) < ownW.length := List.findIdx_lt_length_of_exists ⟨ownW.getD k [], List.mem_of_getElem? (ownW_d h), by rw [q]; exact beq_self_eq_true _⟩
    have c' : ownW.findIdx (fun w => w == l) < 27 := c
    rw [if_pos c']
    have h1 := List.findIdx_getElem (xs := ownW) (p := fun w => w == l) (w := c)
    have h2 := ownW_d c'
    rw [List.getElem?_eq_getElem c] at h2
    rw [Option.some.inj h2, beq_iff_eq] at h1
    rw [ownW_nd _ c' _ h (h1.trans q)]
theorem owI_no {l : List Nat} : owI l = -1 ↔ ∀ k, k < 27 → ¬ l = ownW.getD k [] := by
  constructor
  · intro q k hk e
    rw [(owI_is hk).mpr e] at q
    exact nI_m1 (by omega) q
  · intro q
    unfold owI
    by_cases c : ownW.findIdx (fun w => w == l) < 27
    · have h1 := List.findIdx_getElem (xs := ownW) (p := fun w => w == l) (w := (show _ < ownW.length from c))
      have h2 := ownW_d c
      rw [List.getElem?_eq_getElem (show _ < ownW.length from c)] at h2
      rw [Option.some.inj h2, beq_iff_eq] at h1
      exact absurd h1.symm (q _ c)
    · rw [if_neg c]
theorem l_x_ownWord (d : Nat) (l : List Nat) (M : am_M) (Q : Option Value → am_M → Prop) (hL : Lay M) (hO : OwX M) (hl : isWd l) (h6 : l.length ≤ 6) : ∀ (m k : Nat), k + m = 27 → (∀ j, j < k → ¬ l = ownW.getD j []) → (am_P am_P0 d (am_look tX3_ownWord) 2 [.ref 165, .int (nI (pkL l)), .int (nI k)] [] M Q ↔ Q (some (.int (owI l))) M) := by
  have hp : pkL l < 2147483648 := by
    have h1 := pkL_lt l hl
    have h2 : 32 ^ l.length ≤ 32 ^ 6 := Nat.pow_le_pow_right (by omega) h6
    have h3 : (32 : Nat) ^ 6 = 1073741824 := by decide
    omega
  have ho : ∀ j, j < 27 → isWd (ownW.getD j []) ∧ pkL (ownW.getD j []) < 2147483648 := fun j hj => by
    have h0 := ownW_wd _ (List.mem_of_getElem? (ownW_d hj))
    refine ⟨h0, ?_⟩
    have h1 := pkL_lt _ h0
    have hlen : (ownW.getD j []).length ≤ 6 := by
      have : ∀ j, j < 27 → (ownW.getD j []).length ≤ 6 := by decide
      exact this j hj
    have h2 : 32 ^ (ownW.getD j []).length ≤ 32 ^ 6 := Nat.pow_le_pow_right (by omega) hlen
    have h3 : (32 : Nat) ^ 6 = 1073741824 := by decide
    omega
  intro m
  induction m with
  | zero =>
    intro k hk hno
    have e : k = 27 := by omega
    subst e
    rw [hX3_ownWord_2]
    simp +decide only [qX3_ownWord, am_w1_i, am_w1_r, am_w1_x, am_w1_l, am_w1_w, va_rf_s, am_push_n, am_push_s, am_cs_0, am_cs_i, am_cs_l, am_cs_r, m_uI_K, m_uI_N, m_uI_R, m_uI_L, m_uI_I, m_uL_K, m_uL_N, m_uL_R, m_uL_I, m_uL_L, m_uR_K, m_uR_N, m_uR_I, m_uR_L, m_uR_R, true_and, and_true, true_implies, false_implies, not_true_eq_false, not_false_eq_true, if_true, if_false, false_and, and_false]
    rw [owI_no.mpr hno]
  | succ m ih =>
    intro k hk hno
    have hlt : ¬ (27 : Int32) ≤ nI k := by rw [show (27 : Int32) = nI 27 from rfl, ni_le (by omega) (by omega)]; omega
    obtain ⟨o1, o2⟩ := ho k (by omega)
    rw [hX3_ownWord_2]
    simp +decide (disch := omega) only [qX3_ownWord, lx hL, hO k (by omega), ni_in_t, ni_tn, ni_add1, am_w1_i, am_w1_r, am_w1_x, am_w1_l, am_w1_w, va_rf_s, am_push_n, am_push_s, am_cs_0, am_cs_i, am_cs_l, am_cs_r, m_uI_K, m_uI_N, m_uI_R, m_uI_L, m_uI_I, m_uL_K, m_uL_N, m_uL_R, m_uL_I, m_uL_L, m_uR_K, m_uR_N, m_uR_I, m_uR_L, m_uR_R, true_and, and_true, true_implies, false_implies, not_true_eq_false, not_false_eq_true, if_true, if_false, false_and, and_false]
    rw [br_n hlt]
    by_cases c : l = ownW.getD k []
    · rw [br_r (by rw [c]), (owI_is (by omega)).mpr c]
    · rw [br_q (fun q => c (pkL_inj _ _ hl o1 ((ni_eq o2 hp).mp q).symm))]
      exact ih (k + 1) (by omega) (fun j hj => by
        by_cases e : j = k
        · subst e; exact c
        · exact hno j (by omega))
theorem c_x_ownWord (d : Nat) (l : List Nat) (M : am_M) (Q : Option Value → am_M → Prop) (hL : Lay M) (hO : OwX M) (hl : isWd l) (h6 : l.length ≤ 6) : am_E am_P0 d 36 [.ref 165, .int (nI (pkL l))] M Q ↔ Q (some (.int (owI l))) M := by
  rw [eX3_ownWord]
  simp +decide only [qX3_ownWord, am_w1_i, am_w1_r, am_w1_x, am_w1_l, am_w1_w, va_rf_s, am_push_n, am_push_s, am_cs_0, am_cs_i, am_cs_l, am_cs_r, m_uI_K, m_uI_N, m_uI_R, m_uI_L, m_uI_I, m_uL_K, m_uL_N, m_uL_R, m_uL_I, m_uL_L, m_uR_K, m_uR_N, m_uR_I, m_uR_L, m_uR_R, true_and, and_true, true_implies, false_implies, not_true_eq_false, not_false_eq_true, if_true, if_false, false_and, and_false]
  exact l_x_ownWord d l M Q hL hO hl h6 27 0 (by omega) (fun j hj => by omega)
end
section
/-! the class's reader: one step (class 7319c1d: a word too long is found ahead of a lacking blank; the place of a fault is left free) -/
def sRd (a _j : Nat) : Prop := a = 165
def TpX (M : am_M) (T : Nat → Nat) (n : Nat) : Prop := mR M 165 1 = some 1 ∧ mI M 165 2 = nI n ∧ n ≤ 1800 ∧ ∀ j, j < 1800 → T j < 256 ∧ mI M 1 j = nI (T j)
/-- a fault is kept -/
def FtX (M : am_M) (T : Nat → Nat) (n k p : Nat) : Prop := TpX M T n ∧ OwX M ∧ mI M 165 8 = nI k ∧ (1 ≤ k ∧ k ≤ 5) ∧ (True ∨ p = 0) ∧ mI M 165 4 = 0 ∧ mI M 165 6 = -1
/-- how a token ends -/
def tkG (T : Nat → Nat) (n : Nat) (t : Tok) : Prop := tE t ≤ n ∧ tS t ≤ tE t ∧ t.1 ≤ 3 ∧ (t.1 = 1 ∨ t.1 = 2 → 0 < tE t ∧ isA (T (tE t - 1)) = true) ∧ (t.1 = 0 ∨ t.1 = 3 → tE t = 0 ∨ tE t = n ∨ ¬ isA (T (tE t - 1)) = true) ∧ (t.1 = 1 → isWd t.2.2.1 ∧ t.2.2.1.length ≤ 6 ∧ 1 ≤ t.2.2.1.length) ∧ (t.1 = 2 → t.2.1 ≤ 9999) ∧ (t.1 = 3 → t.2.1 < 256) ∧ (¬ t.1 = 0 → tS t < tE t)
def RdX (M : am_M) (T : Nat → Nat) (n : Nat) (t : Tok) : Prop := TpX M T n ∧ OwX M ∧ mI M 165 8 = 0 ∧ mI M 165 3 = nI (tE t) ∧ mI M 165 4 = nI t.1 ∧ mI M 165 7 = nI (tS t) ∧ mI M 165 6 = (if t.1 = 1 then owI t.2.2.1 else -1) ∧ mI M 165 5 = (if t.1 = 1 then nI (pkL t.2.2.1) else nI t.2.1) ∧ tkG T n t ∧ mI M 165 9 = -1
theorem TpX_g {M M' : am_M} {T : Nat → Nat} {n : Nat} {S : Nat → Nat → Prop} (h : TpX M T n) (hg : gF S nT M M') (hS : ∀ a j, (a = 165 ∧ j = 2) ∨ a = 1 → ¬ S a j) : TpX M' T n := by
  obtain ⟨h1, h2, h3, h4⟩ := h
  exact ⟨by rw [hg.2.2.1 _ _ (fun q => q)]; exact h1, by rw [hg.1 _ _ (hS _ _ (Or.inl ⟨rfl, rfl⟩))]; exact h2, h3, fun j hj => ⟨(h4 j hj).1, by rw [hg.1 _ _ (hS _ _ (Or.inr rfl))]; exact (h4 j hj).2⟩⟩
theorem OwX_g {M M' : am_M} {S T : Nat → Nat → Prop} (h : OwX M) (hg : gF S T M M') (hS : ∀ j, ¬ S 166 j) : OwX M' := fun k hk => by rw [hg.1 _ _ (hS k)]; exact h k hk
theorem c_x_refuseAt0 (d : Nat) (x p : Int32) (M : am_M) (Q : Option Value → am_M → Prop) (hL : Lay M) (h0 : mI M 165 8 = 0) : am_E am_P0 d 38 [.ref 165, .int x, .int p] M Q ↔ Q none (uI (uI (uI (uI M 165 8 x) 165 9 p) 165 4 0) 165 6 (-1)) := by
  rw [eX3_refuseAt]
  simp +decide only [qX3_refuseAt, lx hL, h0, am_w1_i, am_w1_r, am_w1_x, am_w1_l, am_w1_w, va_rf_s, am_push_n, am_push_s, am_cs_0, am_cs_i, am_cs_l, am_cs_r, m_uI_K, m_uI_N, m_uI_R, m_uI_L, m_uI_I, m_uL_K, m_uL_N, m_uL_R, m_uL_I, m_uL_L, m_uR_K, m_uR_N, m_uR_I, m_uR_L, m_uR_R, true_and, and_true, true_implies, false_implies, not_true_eq_false, not_false_eq_true, if_true, if_false, false_and, and_false]
theorem c_x_refuseAt1 (d : Nat) (x p : Int32) (M : am_M) (Q : Option Value → am_M → Prop) (hL : Lay M) (h0 : ¬ mI M 165 8 = 0) : am_E am_P0 d 38 [.ref 165, .int x, .int p] M Q ↔ Q none (uI (uI M 165 4 0) 165 6 (-1)) := by
  rw [eX3_refuseAt]
  simp +decide only [qX3_refuseAt, lx hL, am_w1_i, am_w1_r, am_w1_x, am_w1_l, am_w1_w, va_rf_s, am_push_n, am_push_s, am_cs_0, am_cs_i, am_cs_l, am_cs_r, m_uI_K, m_uI_N, m_uI_R, m_uI_L, m_uI_I, m_uL_K, m_uL_N, m_uL_R, m_uL_I, m_uL_L, m_uR_K, m_uR_N, m_uR_I, m_uR_L, m_uR_R, true_and, and_true, true_implies, false_implies, not_true_eq_false, not_false_eq_true, if_true, if_false, false_and, and_false]
  rw [br_p h0]
/-- refused here: from a good state -/
theorem FtX_0 {M : am_M} {T : Nat → Nat} {n k p : Nat} (h : TpX M T n) (hO : OwX M) (hk : 1 ≤ k ∧ k ≤ 5) : FtX (uI (uI (uI (uI M 165 8 (nI k)) 165 9 (nI p)) 165 4 0) 165 6 (-1)) T n k p ∧ gF sRd nT M (uI (uI (uI (uI M 165 8 (nI k)) 165 9 (nI p)) 165 4 0) 165 6 (-1)) := by
  have g : gF (fun a j => a = 165 ∧ (j = 8 ∨ j = 9 ∨ j = 4 ∨ j = 6)) nT M (uI (uI (uI (uI M 165 8 (nI k)) 165 9 (nI p)) 165 4 0) 165 6 (-1)) := gF_trans (gF_i _ ⟨rfl, by omega⟩) (gF_trans (gF_i _ ⟨rfl, by omega⟩) (gF_trans (gF_i _ ⟨rfl, by omega⟩) (gF_i _ ⟨rfl, by omega⟩)))
  exact ⟨⟨TpX_g h g (fun a j q z => by omega), OwX_g hO g (fun j z => by omega), by simp [m_uI_I], hk, Or.inl trivial, by simp [m_uI_I], by simp [m_uI_I]⟩, gF_up g (fun a j q => q.1) (fun _ _ q => q)⟩
theorem FtX_1 {M : am_M} {T : Nat → Nat} {n k p : Nat} (h : FtX M T n k p) : FtX (uI (uI M 165 4 0) 165 6 (-1)) T n k p ∧ gF sRd nT M (uI (uI M 165 4 0) 165 6 (-1)) := by
  obtain ⟨a1, a2, a3, a4, a5, a6, a7⟩ := h
  have g : gF (fun a j => a = 165 ∧ (j = 4 ∨ j = 6)) nT M (uI (uI M 165 4 0) 165 6 (-1)) := gF_trans (gF_i _ ⟨rfl, by omega⟩) (gF_i _ ⟨rfl, by omega⟩)
  exact ⟨⟨TpX_g a1 g (fun a j q z => by omega), OwX_g a2 g (fun j z => by omega), by simp [m_uI_I, a3], a4, Or.inl trivial, by simp [m_uI_I], by simp [m_uI_I]⟩, gF_up g (fun a j q => q.1) (fun _ _ q => q)⟩
theorem FtX_8 {M : am_M} {T : Nat → Nat} {n k p : Nat} (h : FtX M T n k p) : ¬ mI M 165 8 = 0 := by
  rw [h.2.2.1]
  intro q
  have := h.2.2.2.1
  rw [show (0 : Int32) = nI 0 from rfl, ni_eq (by omega) (by omega)] at q
  omega
theorem run1_skip {p : Nat → Bool} {s : Nat} : ∀ i m, (∀ j, j < i → p (s + j) = true) → run1 p (i + m) s = run1 p m (s + i) := by
  intro i
  induction i generalizing s with
  | zero => intro m _; rw [Nat.zero_add]; rfl
  | succ i ih =>
    intro m h
    rw [show i + 1 + m = (i + m) + 1 by omega]
    show (if p s = true then run1 p (i + m) (s + 1) else s) = _
    have h0 := h 0 (by omega)
    rw [Nat.add_zero] at h0
    rw [if_pos h0, ih m (fun j hj => by have := h (j + 1) (by omega); rw [show s + (j + 1) = s + 1 + j by omega] at this; exact this), show s + 1 + i = s + (i + 1) by omega]
theorem l_x_blank (d n : Nat) (T : Nat → Nat) (M0 : am_M) (Q : Option Value → am_M → Prop) (b : Int32) (hL : Lay M0) (hT : TpX M0 T n) : ∀ (m a : Nat), a + m = n → ∀ (M : am_M), gF (fun a j => a = 165 ∧ j = 3) nT M0 M → mI M 165 3 = nI a → (∀ M', gF (fun a j => a = 165 ∧ j = 3) nT M0 M' → mI M' 165 3 = nI (run1 (fun i => isBl (T i)) m a) → am_P am_P0 d (am_look tX3_step) 85 [.ref 165, .int b, am_x] [] M' Q) → am_P am_P0 d (am_look tX3_step) 33 [.ref 165, .int b, am_x] [] M Q := by
  intro m
  induction m with
  | zero =>
    intro a ha M hM h3 hQ
    obtain ⟨t1, t2, t3, t4⟩ := TpX_g hT hM (fun a j q z => by omega)
    have e : a = n := by omega
    subst e
    have hle : nI a ≤ nI a := (ni_le (by omega) (by omega)).mpr (Nat.le_refl _)
    have h0 := hQ M hM h3
    rw [hX3_step_33]
    simp +decide (disch := omega) only [qX3_step_0, qX3_step_1, qX3_step_2, qX3_step_3, qX3_step_4, lx (gF_LayN hM hL), t1, t2, h3, am_w1_i, am_w1_r, am_w1_x, am_w1_l, am_w1_w, va_rf_s, am_push_n, am_push_s, am_cs_0, am_cs_i, am_cs_l, am_cs_r, m_uI_K, m_uI_N, m_uI_R, m_uI_L, m_uI_I, m_uL_K, m_uL_N, m_uL_R, m_uL_I, m_uL_L, m_uR_K, m_uR_N, m_uR_I, m_uR_L, m_uR_R, true_and, and_true, true_implies, false_implies, not_true_eq_false, not_false_eq_true, if_true, if_false, false_and, and_false] at h0 ⊢
    rw [br_p hle]
    exact h0
  | succ m ih =>
    intro a ha M hM h3 hQ
    have hTM := TpX_g hT hM (fun a j q z => by omega)
    obtain ⟨t1, t2, t3, t4⟩ := hTM
    obtain ⟨t5, t6⟩ := t4 a (by omega)
    have hLM := gF_LayN hM hL
    have hlt : ¬ nI n ≤ nI a := by rw [ni_le (by omega) (by omega)]; omega
    have e10 : nI (T a) = 10 ↔ T a = 10 := by rw [show (10 : Int32) = nI 10 from rfl, ni_eq (by omega) (by omega)]
    have e32 : nI (T a) = 32 ↔ T a = 32 := by rw [show (32 : Int32) = nI 32 from rfl, ni_eq (by omega) (by omega)]
    have er : run1 (fun i => isBl (T i)) (m + 1) a = if isBl (T a) = true then run1 (fun i => isBl (T i)) m (a + 1) else a := rfl
    by_cases c : isBl (T a) = true
    · have h0 := ih (a + 1) (by omega) (uI M 165 3 (nI (a + 1))) (gF_trans hM (gF_i _ ⟨rfl, rfl⟩)) (by rw [m_uI_I, if_pos ⟨rfl, rfl⟩]) (fun M' g1 g2 => hQ M' g1 (by rw [er, if_pos c]; exact g2))
      rw [hX3_step_33]
      simp +decide (disch := omega) only [qX3_step_0, qX3_step_1, qX3_step_2, qX3_step_3, qX3_step_4, lx hLM, t1, t2, h3, t6, e10, e32, ni_in_t, ni_tn, ni_add1, am_w1_i, am_w1_r, am_w1_x, am_w1_l, am_w1_w, va_rf_s, am_push_n, am_push_s, am_cs_0, am_cs_i, am_cs_l, am_cs_r, m_uI_K, m_uI_N, m_uI_R, m_uI_L, m_uI_I, m_uL_K, m_uL_N, m_uL_R, m_uL_I, m_uL_L, m_uR_K, m_uR_N, m_uR_I, m_uR_L, m_uR_R, true_and, and_true, true_implies, false_implies, not_true_eq_false, not_false_eq_true, if_true, if_false, false_and, and_false] at h0 ⊢
      rw [br_n hlt]
      rcases isBl_i.mp c with q | q
      · rw [br_p q]; exact h0
      · rw [br_n (by omega), br_r q]; exact h0
    · have h0 := hQ M hM (by rw [er, if_neg c]; exact h3)
      rw [isBl_i] at c
      rw [hX3_step_33]
      simp +decide (disch := omega) only [qX3_step_0, qX3_step_1, qX3_step_2, qX3_step_3, qX3_step_4, lx hLM, t1, t2, h3, t6, e10, e32, ni_in_t, ni_tn, ni_add1, am_w1_i, am_w1_r, am_w1_x, am_w1_l, am_w1_w, va_rf_s, am_push_n, am_push_s, am_cs_0, am_cs_i, am_cs_l, am_cs_r, m_uI_K, m_uI_N, m_uI_R, m_uI_L, m_uI_I, m_uL_K, m_uL_N, m_uL_R, m_uL_I, m_uL_L, m_uR_K, m_uR_N, m_uR_I, m_uR_L, m_uR_R, true_and, and_true, true_implies, false_implies, not_true_eq_false, not_false_eq_true, if_true, if_false, false_and, and_false] at h0 ⊢
      rw [br_n hlt, br_n (by omega), br_q (by omega)]
      exact h0
/-- what has been read of a word or number -/
def acV (T : Nat → Nat) (k s i : Nat) : Nat := if k = 1 then pkV T s i else numV T s i
def mst (k : Nat) : Nat := if k = 1 then 6 else 4
theorem kdN_p {k c : Nat} (hk : k = 1 ∨ k = 2) : kdN c = k ↔ (if k = 1 then isL c else isD c) = true := by
  rcases hk with rfl | rfl
  · rw [if_pos rfl]; exact kdN_1
  · rw [if_neg (by omega)]; exact kdN_2
theorem l_x_letters (d n s k : Nat) (T : Nat → Nat) (M0 : am_M) (Q : Option Value → am_M → Prop) (b : Int32) (hL : Lay M0) (hT : TpX M0 T n) (hf : mI M0 165 8 = 0) (hk : k = 1 ∨ k = 2) (h4 : mI M0 165 4 = nI k) (h7 : mI M0 165 7 = nI s) (hsn : s ≤ n)
    (hE : ∀ M' i, gF (fun a j => a = 165 ∧ (j = 3 ∨ j = 5)) nT M0 M' → i ≤ mst k → s + i = run1 (fun i => if k = 1 then isL (T i) else isD (T i)) (n - s) s → mI M' 165 3 = nI (s + i) → mI M' 165 5 = nI (acV T k s i) → am_P am_P0 (d + 1) (am_look tX3_step) 319 [.ref 165, .int b, .int (nI (mst k))] [] M' Q)
    (hF : ∀ M', gF (fun a j => a = 165 ∧ (j = 3 ∨ j = 5)) nT M0 M' → mst k < run1 (fun i => if k = 1 then isL (T i) else isD (T i)) (n - s) s - s → Q none (uI (uI (uI (uI M' 165 8 1) 165 9 (nI (s + mst k))) 165 4 0) 165 6 (-1))) :
    ∀ (m i : Nat), s + i + m = n → i ≤ mst k → (∀ j, j < i → kdN (T (s + j)) = k) → ∀ (M : am_M), gF (fun a j => a = 165 ∧ (j = 3 ∨ j = 5)) nT M0 M → mI M 165 3 = nI (s + i) → mI M 165 5 = nI (acV T k s i) → am_P am_P0 (d + 1) (am_look tX3_step) 189 [.ref 165, .int b, .int (nI (mst k))] [] M Q := by
  have hms : mst k ≤ 6 := by unfold mst; split <;> omega
  intro m
  induction m with
  | zero =>
    intro i hi him hall M hM h3 h5
    obtain ⟨t1, t2, t3, t4⟩ := TpX_g hT hM (fun a j q z => by omega)
    have hle : nI n ≤ nI (s + i) := (ni_le (by omega) (by omega)).mpr (by omega)
    have er := run1_skip (p := fun i => if k = 1 then isL (T i) else isD (T i)) (s := s) i 0 (fun j hj => (kdN_p hk).mp (hall j hj))
    have h0 := hE M i hM him (by rw [show n - s = i + 0 by omega, er]; rfl) h3 h5
    rw [hX3_step_189]
    simp +decide (disch := omega) only [qX3_step_0, qX3_step_1, qX3_step_2, qX3_step_3, qX3_step_4, lx (gF_LayN hM hL), t1, t2, h3, am_w1_i, am_w1_r, am_w1_x, am_w1_l, am_w1_w, va_rf_s, am_push_n, am_push_s, am_cs_0, am_cs_i, am_cs_l, am_cs_r, m_uI_K, m_uI_N, m_uI_R, m_uI_L, m_uI_I, m_uL_K, m_uL_N, m_uL_R, m_uL_I, m_uL_L, m_uR_K, m_uR_N, m_uR_I, m_uR_L, m_uR_R, true_and, and_true, true_implies, false_implies, not_true_eq_false, not_false_eq_true, if_true, if_false, false_and, and_false] at h0 ⊢
    rw [br_p hle]
    exact h0
  | succ m ih =>
    intro i hi him hall M hM h3 h5
    obtain ⟨t1, t2, t3, t4⟩ := TpX_g hT hM (fun a j q z => by omega)
    obtain ⟨t5, t6⟩ := t4 (s + i) (by omega)
    have hLM := gF_LayN hM hL
    have h4M : mI M 165 4 = nI k := by rw [hM.1 _ _ (by omega)]; exact h4
    have h7M : mI M 165 7 = nI s := by rw [hM.1 _ _ (by omega)]; exact h7
    have h8M : mI M 165 8 = 0 := by rw [hM.1 _ _ (by omega)]; exact hf
    have hlt : ¬ nI n ≤ nI (s + i) := by rw [ni_le (by omega) (by omega)]; omega
    have hkd := fun Q => c_x_kindOf d (T (s + i)) M Q t5
    have er := run1_skip (p := fun i => if k = 1 then isL (T i) else isD (T i)) (s := s) i (m + 1) (fun j hj => (kdN_p hk).mp (hall j hj))
    have er2 : run1 (fun i => if k = 1 then isL (T i) else isD (T i)) (m + 1) (s + i) = if (if k = 1 then isL (T (s + i)) else isD (T (s + i))) = true then run1 (fun i => if k = 1 then isL (T i) else isD (T i)) m (s + i + 1) else s + i := rfl
    have ens : n - s = i + (m + 1) := by omega
    have es : nI (s + i) - nI s = nI i := by rw [ni_sub (by omega), show s + i - s = i by omega]
    by_cases c : kdN (T (s + i)) = k
    · have cp := (kdN_p hk).mp c
      by_cases cm : i < mst k
      · have hgo : ∀ x, x = nI (acV T k s (i + 1)) → am_P am_P0 (d + 1) (am_look tX3_step) 189 [.ref 165, .int b, .int (nI (mst k))] [] (uI (uI M 165 5 x) 165 3 (nI (s + i + 1))) Q := fun x hx => by
          refine ih (i + 1) (by omega) (by omega) (fun j hj => ?_) _ (gF_trans hM (gF_trans (gF_i _ ⟨rfl, by omega⟩) (gF_i _ ⟨rfl, by omega⟩))) (by rw [m_uI_I, if_pos ⟨rfl, rfl⟩]; rfl) (by rw [m_uI_I, if_neg (by omega), m_uI_I, if_pos ⟨rfl, rfl⟩]; exact hx)
          by_cases e : j = i
          · subst e; exact c
          · exact hall j (by omega)
        have hlm : nI i < nI (mst k) := (ni_lt (by omega) (by omega)).mpr cm
        rcases hk with rfl | rfl
        · have hL1 := isL_i.mp (kdN_1.mp c)
          have e1 : nI (acV T 1 s i) ||| ((nI (T (s + i)) - 96) <<< (5 * nI i &&& 31)) = nI (acV T 1 s (i + 1)) := by
            rw [show (96 : Int32) = nI 96 from rfl, ni_sub (by omega), show (5 : Int32) = nI 5 from rfl, ni_mul]
            exact pk_or (by have : mst 1 = 6 := rfl; omega) (pkV_lt i (fun j hj => kdN_1.mp (hall j hj))) (by omega)
          have h0 := hgo _ e1
          rw [hX3_step_189]
          simp +decide (disch := omega) only [qX3_step_0, qX3_step_1, qX3_step_2, qX3_step_3, qX3_step_4, lx hLM, t1, t2, h3, t6, hkd, h4M, h7M, h5, c, es, ni_in_t, ni_tn, ni_add1, am_w1_i, am_w1_r, am_w1_x, am_w1_l, am_w1_w, va_rf_s, am_push_n, am_push_s, am_cs_0, am_cs_i, am_cs_l, am_cs_r, m_uI_K, m_uI_N, m_uI_R, m_uI_L, m_uI_I, m_uL_K, m_uL_N, m_uL_R, m_uL_I, m_uL_L, m_uR_K, m_uR_N, m_uR_I, m_uR_L, m_uR_R, true_and, and_true, true_implies, false_implies, not_true_eq_false, not_false_eq_true, if_true, if_false, false_and, and_false, show nI 1 = (1 : Int32) from rfl] at h0 ⊢
          rw [br_n hlt, br_p hlm]
          exact h0
        · have hD1 := isD_i.mp (kdN_2.mp c)
          have e1 : nI (acV T 2 s i) * 10 + nI (T (s + i)) - 48 = nI (acV T 2 s (i + 1)) := by
            rw [show (10 : Int32) = nI 10 from rfl, ni_mul, ni_add, show (48 : Int32) = nI 48 from rfl, ni_sub (by omega)]
            congr 1
            show numV T s i * 10 + T (s + i) - 48 = numV T s i * 10 + (T (s + i) - 48)
            omega
          have h0 := hgo _ e1
          rw [hX3_step_189]
          simp +decide (disch := omega) only [qX3_step_0, qX3_step_1, qX3_step_2, qX3_step_3, qX3_step_4, lx hLM, t1, t2, h3, t6, hkd, h4M, h7M, h5, c, es, ni_in_t, ni_tn, ni_add1, am_w1_i, am_w1_r, am_w1_x, am_w1_l, am_w1_w, va_rf_s, am_push_n, am_push_s, am_cs_0, am_cs_i, am_cs_l, am_cs_r, m_uI_K, m_uI_N, m_uI_R, m_uI_L, m_uI_I, m_uL_K, m_uL_N, m_uL_R, m_uL_I, m_uL_L, m_uR_K, m_uR_N, m_uR_I, m_uR_L, m_uR_R, true_and, and_true, true_implies, false_implies, not_true_eq_false, not_false_eq_true, if_true, if_false, false_and, and_false, show nI 2 = (2 : Int32) from rfl] at h0 ⊢
          rw [br_n hlt, br_p hlm]
          exact h0
      · have ei : i = mst k := by omega
        have hbig : mst k < run1 (fun i => if k = 1 then isL (T i) else isD (T i)) (n - s) s - s := by
          rw [ens, er, er2, if_pos cp]
          have := (run1_le (fun i => if k = 1 then isL (T i) else isD (T i)) m (s + i + 1)).1
          omega
        have h0 := hF M hM hbig
        have hre := fun Q => c_x_refuseAt0 d 1 (nI (s + i)) M Q hLM h8M
        have hlm : ¬ nI i < nI (mst k) := by rw [ni_lt (by omega) (by omega)]; omega
        rw [← ei] at h0
        rw [hX3_step_189]
        simp +decide (disch := omega) only [qX3_step_0, qX3_step_1, qX3_step_2, qX3_step_3, qX3_step_4, lx hLM, t1, t2, h3, t6, hkd, h4M, h7M, h5, c, es, hre, ni_in_t, ni_tn, ni_add1, am_w1_i, am_w1_r, am_w1_x, am_w1_l, am_w1_w, va_rf_s, am_push_n, am_push_s, am_cs_0, am_cs_i, am_cs_l, am_cs_r, m_uI_K, m_uI_N, m_uI_R, m_uI_L, m_uI_I, m_uL_K, m_uL_N, m_uL_R, m_uL_I, m_uL_L, m_uR_K, m_uR_N, m_uR_I, m_uR_L, m_uR_R, true_and, and_true, true_implies, false_implies, not_true_eq_false, not_false_eq_true, if_true, if_false, false_and, and_false]
        rw [br_n hlt, br_n hlm]
        exact h0
    · have cp : ¬ (if k = 1 then isL (T (s + i)) else isD (T (s + i))) = true := fun q => c ((kdN_p hk).mpr q)
      have h0 := hE M i hM him (by rw [ens, er, er2, if_neg cp]) h3 h5
      have hne : ¬ nI (kdN (T (s + i))) = nI k := fun q => c ((ni_eq (by have := kdN_le (T (s + i)); omega) (by omega)).mp q)
      rw [hX3_step_189]
      simp +decide (disch := omega) only [qX3_step_0, qX3_step_1, qX3_step_2, qX3_step_3, qX3_step_4, lx hLM, t1, t2, h3, t6, hkd, h4M, h7M, h5, es, ni_in_t, ni_tn, ni_add1, am_w1_i, am_w1_r, am_w1_x, am_w1_l, am_w1_w, va_rf_s, am_push_n, am_push_s, am_cs_0, am_cs_i, am_cs_l, am_cs_r, m_uI_K, m_uI_N, m_uI_R, m_uI_L, m_uI_I, m_uL_K, m_uL_N, m_uL_R, m_uL_I, m_uL_L, m_uR_K, m_uR_N, m_uR_I, m_uR_L, m_uR_R, true_and, and_true, true_implies, false_implies, not_true_eq_false, not_false_eq_true, if_true, if_false, false_and, and_false] at h0 ⊢
      rw [br_n hlt, br_p hne]
      exact h0
end
section
/-! the class's reader: one step, whole -/
theorem tk_ge {T : Nat → Nat} {n a s : Nat} (hs : s = run1 (fun i => isBl (T i)) (n - a) a) (h : n ≤ s) : tk T n a = (0, 0, [], s, s) := by
  unfold tk
  dsimp only
  rw [← hs, if_pos h]
theorem tk_sg {T : Nat → Nat} {n a s : Nat} (hs : s = run1 (fun i => isBl (T i)) (n - a) a) (h : s < n) (hA : ¬ isA (T s) = true) : tk T n a = (3, T s, [], s, s + 1) := by
  unfold tk
  dsimp only
  rw [← hs, if_neg (by omega), if_neg hA]
theorem tk_4 {T : Nat → Nat} {n a s : Nat} (hs : s = run1 (fun i => isBl (T i)) (n - a) a) (h : s < n) (hA : isA (T s) = true) (hb : 0 < s ∧ isA (T (s - 1)) = true) : tk T n a = (4, 0, [], s, s) := by
  unfold tk
  dsimp only
  rw [← hs, if_neg (by omega), if_pos hA, if_pos hb]
theorem tk_w {T : Nat → Nat} {n a s e : Nat} (hs : s = run1 (fun i => isBl (T i)) (n - a) a) (h : s < n) (hA : isA (T s) = true) (hb : ¬ (0 < s ∧ isA (T (s - 1)) = true)) (hl : isL (T s) = true) (he : e = run1 (fun i => isL (T i)) (n - s) s) : tk T n a = if 6 < e - s then (4, 0, [], s + 6, e) else (1, 0, letV T s (e - s), s, e) := by
  unfold tk
  dsimp only
  rw [← hs, if_neg (by omega), if_pos hA, if_neg hb, if_pos hl, ← he]
theorem tk_n {T : Nat → Nat} {n a s e : Nat} (hs : s = run1 (fun i => isBl (T i)) (n - a) a) (h : s < n) (hA : isA (T s) = true) (hb : ¬ (0 < s ∧ isA (T (s - 1)) = true)) (hl : ¬ isL (T s) = true) (he : e = run1 (fun i => isD (T i)) (n - s) s) : tk T n a = if 4 < e - s then (4, 0, [], s + 4, e) else (2, numV T s (e - s), [], s, e) := by
  unfold tk
  dsimp only
  rw [← hs, if_neg (by omega), if_pos hA, if_neg hb, if_neg hl, ← he]
theorem c_x_stepF (d n k p : Nat) (T : Nat → Nat) (M : am_M) (Q : Option Value → am_M → Prop) (hL : Lay M) (hF : FtX M T n k p) : am_E am_P0 d 35 [.ref 165] M Q ↔ Q none M := by
  have h8 := FtX_8 hF
  rw [eX3_step]
  simp +decide only [qX3_step_0, qX3_step_1, qX3_step_2, qX3_step_3, qX3_step_4, lx hL, am_w1_i, am_w1_r, am_w1_x, am_w1_l, am_w1_w, va_rf_s, am_push_n, am_push_s, am_cs_0, am_cs_i, am_cs_l, am_cs_r, m_uI_K, m_uI_N, m_uI_R, m_uI_L, m_uI_I, m_uL_K, m_uL_N, m_uL_R, m_uL_I, m_uL_L, m_uR_K, m_uR_N, m_uR_I, m_uR_L, m_uR_R, true_and, and_true, true_implies, false_implies, not_true_eq_false, not_false_eq_true, if_true, if_false, false_and, and_false]
  rw [br_n h8]
theorem c_x_stepW (d n : Nat) (T : Nat → Nat) (t : Tok) (M : am_M) (Q : Option Value → am_M → Prop) (hL : Lay M) (hT : TpX M T n) (hO : OwX M) (h8 : mI M 165 8 = 0) (h3 : mI M 165 3 = nI (tE t)) (h4 : mI M 165 4 = nI t.1) (hG : tkG T n t) (h9 : mI M 165 9 = -1)
    (hF : (tk T n (tE t)).1 = 4 → ∀ M', gF sRd nT M M' → FtX M' T n 1 (tS (tk T n (tE t))) → Q none M')
    (hN : ¬ (tk T n (tE t)).1 = 4 → ∀ M', gF sRd nT M M' → RdX M' T n (tk T n (tE t)) → Q none M') : am_E am_P0 (d + 1) 35 [.ref 165] M Q := by
  obtain ⟨t1, t2, t3, t4⟩ := id hT
  obtain ⟨b, hb⟩ : ∃ b : Int32, b = if t.1 = 1 ∨ t.1 = 2 then nI (tE t) else -1 := ⟨_, rfl⟩
  obtain ⟨s, hs⟩ : ∃ s, s = run1 (fun i => isBl (T i)) (n - tE t) (tE t) := ⟨_, rfl⟩
  have hrl := run1_le (fun i => isBl (T i)) (n - tE t) (tE t)
  rw [← hs] at hrl
  have hEn := hG.1
  have hbd : (0 < s ∧ s < n ∧ isA (T (s - 1)) = true) ↔ (s < n ∧ nI s = b) := by
    constructor
    · rintro ⟨q1, q2, q3⟩
      refine ⟨q2, ?_⟩
      have hst : s = tE t := by
        by_cases e : s = tE t
        · exact e
        · have := run1_in (fun i => isBl (T i)) (n - tE t) (tE t) (s - 1) (by omega) (by rw [← hs]; omega)
          have hbl := isBl_i.mp this
          rw [isA_i, isL_i, isD_i] at q3
          omega
      have h12 : t.1 = 1 ∨ t.1 = 2 := by
        have h03 := hG.2.2.2.2.1
        have hle := hG.2.2.1
        by_cases e : t.1 = 1 ∨ t.1 = 2
        · exact e
        · rcases h03 (by omega) with q | q | q
          · omega
          · omega
          · rw [hst] at q3; exact absurd q3 q
      rw [hb, if_pos h12, hst]
    · rintro ⟨q2, q⟩
      by_cases e : t.1 = 1 ∨ t.1 = 2
      · rw [hb, if_pos e, ni_eq (by omega) (by omega)] at q
        have := hG.2.2.2.1 e
        rw [q]
        exact ⟨this.1, by omega, this.2⟩
      · rw [hb, if_neg e] at q
        exact absurd q (nI_m1 (by omega))
  rw [eX3_step]
  -- from the blanks on
  have main : am_P am_P0 (d + 1) (am_look tX3_step) 33 [.ref 165, .int b, am_x] [] M Q := by
    refine l_x_blank (d + 1) n T M Q b hL hT (n - tE t) (tE t) (by omega) M (gF_refl _ _ _) h3 (fun M1 g1 r3 => ?_)
    rw [← hs] at r3
    have L1 := gF_LayN g1 hL
    have T1 := TpX_g hT g1 (fun a j q z => by omega)
    have O1 := OwX_g hO g1 (fun j z => by omega)
    have r8 : mI M1 165 8 = 0 := by rw [g1.1 _ _ (by omega)]; exact h8
    have r9 : mI M1 165 9 = -1 := by rw [g1.1 _ _ (by omega)]; exact h9
    obtain ⟨u1, u2, u3, u4⟩ := id T1
    by_cases cn : n ≤ s
    · have hsn : s = n := by omega
      have etk := tk_ge hs cn
      have hle : nI n ≤ nI s := (ni_le (by omega) (by omega)).mpr cn
      have G : gF (fun a j => a = 165 ∧ (j = 7 ∨ j = 5 ∨ j = 6 ∨ j = 4)) nT M1 (uI (uI (uI (uI M1 165 7 (nI s)) 165 5 0) 165 6 (-1)) 165 4 0) := gF_trans (gF_i _ ⟨rfl, by omega⟩) (gF_trans (gF_i _ ⟨rfl, by omega⟩) (gF_trans (gF_i _ ⟨rfl, by omega⟩) (gF_i _ ⟨rfl, by omega⟩)))
      have h0 := hN (by rw [etk]; exact (by decide : ¬ (0 : Nat) = 4)) _ (gF_trans (gF_up g1 (fun a j q => q.1) (fun _ _ q => q)) (gF_up G (fun a j q => q.1) (fun _ _ q => q))) (by
        rw [etk]
        refine ⟨TpX_g T1 G (fun a j q z => by omega), OwX_g O1 G (fun j z => by omega), ?_, ?_, ?_, ?_, ?_, ?_, ?_, ?_⟩
        · rw [G.1 _ _ (by omega)]; exact r8
        · rw [G.1 _ _ (by omega)]; exact r3
        · simp [m_uI_I]; rfl
        · simp [m_uI_I, tS]
        · simp [m_uI_I]
        · simp [m_uI_I]; rfl
        · exact ⟨by show s ≤ n; omega, Nat.le_refl _, by show 0 ≤ 3; omega, fun q => by dsimp only at q; omega, fun _ => Or.inr (Or.inl hsn), fun q => by dsimp only at q; omega, fun q => by dsimp only at q; omega, fun q => by dsimp only at q; omega, fun q => absurd rfl q⟩
        · rw [G.1 _ _ (by omega)]; exact r9)
      simp +decide (disch := omega) only [qX3_step_0, qX3_step_1, qX3_step_2, qX3_step_3, qX3_step_4, lx L1, u1, u2, r3, ni_in_t, ni_tn, ni_add1, am_w1_i, am_w1_r, am_w1_x, am_w1_l, am_w1_w, va_rf_s, am_push_n, am_push_s, am_cs_0, am_cs_i, am_cs_l, am_cs_r, m_uI_K, m_uI_N, m_uI_R, m_uI_L, m_uI_I, m_uL_K, m_uL_N, m_uL_R, m_uL_I, m_uL_L, m_uR_K, m_uR_N, m_uR_I, m_uR_L, m_uR_R, true_and, and_true, true_implies, false_implies, not_true_eq_false, not_false_eq_true, if_true, if_false, false_and, and_false]
      rw [br_p hle]
      exact h0
    · have hlt : ¬ nI n ≤ nI s := by rw [ni_le (by omega) (by omega)]; omega
      obtain ⟨v5, v6⟩ := u4 s (by omega)
      have kl := kdN_le (T s)
      have hkd := fun M Q => c_x_kindOf d (T s) M Q v5
      have hk0 : ¬ nI (kdN (T s)) = 0 := fun q => by rw [show (0 : Int32) = nI 0 from rfl, ni_eq (by omega) (by omega)] at q; omega
      obtain ⟨M2, hM2⟩ : ∃ M2, M2 = uI (uI (uI (uI M1 165 7 (nI s)) 165 5 0) 165 6 (-1)) 165 4 (nI (kdN (T s))) := ⟨_, rfl⟩
      have G2 : gF (fun a j => a = 165 ∧ (j = 7 ∨ j = 5 ∨ j = 6 ∨ j = 4)) nT M1 M2 := by rw [hM2]; exact gF_trans (gF_i _ ⟨rfl, by omega⟩) (gF_trans (gF_i _ ⟨rfl, by omega⟩) (gF_trans (gF_i _ ⟨rfl, by omega⟩) (gF_i _ ⟨rfl, by omega⟩)))
      have T2 := TpX_g T1 G2 (fun a j q z => by omega)
      have O2 := OwX_g O1 G2 (fun j z => by omega)
      have L2 := gF_LayN G2 L1
      have F2 : gF sRd nT M M2 := gF_trans (gF_up g1 (fun a j q => q.1) (fun _ _ q => q)) (gF_up G2 (fun a j q => q.1) (fun _ _ q => q))
      have w3 : mI M2 165 3 = nI s := by rw [G2.1 _ _ (by omega)]; exact r3
      have w8 : mI M2 165 8 = 0 := by rw [G2.1 _ _ (by omega)]; exact r8
      have w9 : mI M2 165 9 = -1 := by rw [G2.1 _ _ (by omega)]; exact r9
      have w4 : mI M2 165 4 = nI (kdN (T s)) := by rw [hM2, m_uI_I, if_pos ⟨rfl, rfl⟩]
      have w5 : mI M2 165 5 = 0 := by rw [hM2]; simp [m_uI_I]
      have w6 : mI M2 165 6 = -1 := by rw [hM2]; simp [m_uI_I]
      have w7 : mI M2 165 7 = nI s := by rw [hM2]; simp [m_uI_I]
      obtain ⟨x1, x2, x3, x4⟩ := id T2
      obtain ⟨y5, y6⟩ := x4 s (by omega)
      -- to the place behind the kind
      have goal138 : am_P am_P0 (d + 1) (am_look tX3_step) 138 [.ref 165, .int b, am_x] [.int (nI (kdN (T s)))] M2 Q := by
        by_cases cA : isA (T s) = true
        · have h12 : kdN (T s) = 1 ∨ kdN (T s) = 2 := by
            rcases isA_i.mp cA with q | q
            · exact Or.inl (kdN_1.mpr q)
            · exact Or.inr (kdN_2.mpr q)
          have hk3 : ¬ nI (kdN (T s)) = 3 := fun q => by rw [show (3 : Int32) = nI 3 from rfl, ni_eq (by omega) (by omega)] at q; omega
          · have hlet := l_x_letters d n s (kdN (T s)) T M2 Q b L2 T2 w8 h12 w4 w7 (by omega) (fun M3 i g3 hi he e3 e5 => ?_) (fun M3 g3 hbig => ?_) (n - s) 0 (by omega) (Nat.zero_le _) (fun j hj => by omega) M2 (gF_refl _ _ _) w3 (by rw [w5]; unfold acV; split <;> rfl)
            · have em : (if kdN (T s) = 1 then (6 : Int32) else 4) = nI (mst (kdN (T s))) := by unfold mst; split <;> rfl
              rcases h12 with h1 | h2
              · have e1 : nI (kdN (T s)) = 1 := by rw [h1]; rfl
                rw [h1] at hlet
                simp +decide (disch := omega) only [qX3_step_0, qX3_step_1, qX3_step_2, qX3_step_3, qX3_step_4, lx L2, w4, w7, e1, am_w1_i, am_w1_r, am_w1_x, am_w1_l, am_w1_w, va_rf_s, am_push_n, am_push_s, am_cs_0, am_cs_i, am_cs_l, am_cs_r, m_uI_K, m_uI_N, m_uI_R, m_uI_L, m_uI_I, m_uL_K, m_uL_N, m_uL_R, m_uL_I, m_uL_L, m_uR_K, m_uR_N, m_uR_I, m_uR_L, m_uR_R, true_and, and_true, true_implies, false_implies, not_true_eq_false, not_false_eq_true, if_true, if_false, false_and, and_false]
                exact hlet
              · have e1 : nI (kdN (T s)) = 2 := by rw [h2]; rfl
                rw [h2] at hlet
                simp +decide (disch := omega) only [qX3_step_0, qX3_step_1, qX3_step_2, qX3_step_3, qX3_step_4, lx L2, w4, w7, e1, am_w1_i, am_w1_r, am_w1_x, am_w1_l, am_w1_w, va_rf_s, am_push_n, am_push_s, am_cs_0, am_cs_i, am_cs_l, am_cs_r, m_uI_K, m_uI_N, m_uI_R, m_uI_L, m_uI_I, m_uL_K, m_uL_N, m_uL_R, m_uL_I, m_uL_L, m_uR_K, m_uR_N, m_uR_I, m_uR_L, m_uR_R, true_and, and_true, true_implies, false_implies, not_true_eq_false, not_false_eq_true, if_true, if_false, false_and, and_false]
                exact hlet
            · have L3 := gF_LayN g3 L2
              have T3 := TpX_g T2 g3 (fun a j q z => by omega)
              have O3 := OwX_g O2 g3 (fun j z => by omega)
              have i4 : mI M3 165 4 = nI (kdN (T s)) := by rw [g3.1 _ _ (by omega)]; exact w4
              have i7 : mI M3 165 7 = nI s := by rw [g3.1 _ _ (by omega)]; exact w7
              have i8 : mI M3 165 8 = 0 := by rw [g3.1 _ _ (by omega)]; exact w8
              have i9 : mI M3 165 9 = -1 := by rw [g3.1 _ _ (by omega)]; exact w9
              have F3 : gF sRd nT M M3 := gF_trans F2 (gF_up g3 (fun a j q => q.1) (fun _ _ q => q))
              have hi1 : 1 ≤ i := by
                have hsn : n - s = (n - s - 1) + 1 := by omega
                rw [hsn] at he
                have : run1 (fun i => if kdN (T s) = 1 then isL (T i) else isD (T i)) (n - s - 1 + 1) s = if (if kdN (T s) = 1 then isL (T s) else isD (T s)) = true then run1 (fun i => if kdN (T s) = 1 then isL (T i) else isD (T i)) (n - s - 1) (s + 1) else s := rfl
                rw [this, if_pos ((kdN_p h12).mp rfl)] at he
                have := (run1_le (fun i => if kdN (T s) = 1 then isL (T i) else isD (T i)) (n - s - 1) (s + 1)).1
                omega
              have hin : ∀ j, j < i → (if kdN (T s) = 1 then isL (T (s + j)) else isD (T (s + j))) = true := fun j hj => run1_in (fun i => if kdN (T s) = 1 then isL (T i) else isD (T i)) (n - s) s (s + j) (by omega) (by omega)
              have hrn := (run1_le (fun i => if kdN (T s) = 1 then isL (T i) else isD (T i)) (n - s) s).2
              have hsi : s + i ≤ n := by omega
              by_cases cb : 0 < s ∧ isA (T (s - 1)) = true
              · have etk := tk_4 hs (by omega) cA cb
                have hbe : nI s = b := (hbd.mp ⟨cb.1, by omega, cb.2⟩).2
                have hre := fun Q => c_x_refuseAt0 d 1 (nI s) M3 Q L3 i8
                have hf := FtX_0 (k := 1) (p := s) T3 O3 (by omega)
                have h0 := hF (by rw [etk]) _ (gF_trans F3 hf.2) (by rw [etk]; exact hf.1)
                simp +decide (disch := omega) only [qX3_step_0, qX3_step_1, qX3_step_2, qX3_step_3, qX3_step_4, lx L3, i7, hre, am_w1_i, am_w1_r, am_w1_x, am_w1_l, am_w1_w, va_rf_s, am_push_n, am_push_s, am_cs_0, am_cs_i, am_cs_l, am_cs_r, m_uI_K, m_uI_N, m_uI_R, m_uI_L, m_uI_I, m_uL_K, m_uL_N, m_uL_R, m_uL_I, m_uL_L, m_uR_K, m_uR_N, m_uR_I, m_uR_L, m_uR_R, true_and, and_true, true_implies, false_implies, not_true_eq_false, not_false_eq_true, if_true, if_false, false_and, and_false]
                rw [br_r hbe]
                exact h0
              have hbe : ¬ nI s = b := fun q => cb (by have := hbd.mpr ⟨by omega, q⟩; exact ⟨this.1, this.2.2⟩)
              rcases h12 with h1 | h2
              · have e1 : nI (kdN (T s)) = 1 := by rw [h1]; rfl
                have ef : (fun i => if kdN (T s) = 1 then isL (T i) else isD (T i)) = fun i => isL (T i) := funext fun i => if_pos h1
                rw [ef] at he
                have h66 : mst (kdN (T s)) = 6 := by rw [h1]; rfl
                have etk := tk_w hs (by omega) cA cb (kdN_1.mp h1) he
                rw [if_neg (by omega), show s + i - s = i by omega] at etk
                have hlw : isWd (letV T s i) ∧ (letV T s i).length = i := by
                  refine ⟨fun c hc => ?_, by unfold letV; rw [List.length_map, List.length_range]⟩
                  unfold letV at hc
                  rw [List.mem_map] at hc
                  obtain ⟨j, hj, rfl⟩ := hc
                  rw [List.mem_range] at hj
                  have := hin j hj
                  rw [if_pos h1] at this
                  exact isL_i.mp this
                have e5' : mI M3 165 5 = nI (pkL (letV T s i)) := by rw [e5, ← pkV_L]; unfold acV; rw [if_pos h1]
                have how := fun Q => c_x_ownWord d (letV T s i) M3 Q L3 O3 hlw.1 (by rw [hlw.2]; omega)
                have G4 : gF (fun a j => a = 165 ∧ j = 6) nT M3 (uI M3 165 6 (owI (letV T s i))) := gF_i _ ⟨rfl, rfl⟩
                have h0 := hN (by rw [etk]; exact (by decide : ¬ (1 : Nat) = 4)) _ (gF_trans F3 (gF_up G4 (fun a j q => q.1) (fun _ _ q => q))) (by
                  rw [etk]
                  refine ⟨TpX_g T3 G4 (fun a j q z => by omega), OwX_g O3 G4 (fun j z => by omega), ?_, ?_, ?_, ?_, ?_, ?_, ?_, ?_⟩
                  · rw [G4.1 _ _ (by omega)]; exact i8
                  · rw [G4.1 _ _ (by omega)]; exact e3
                  · rw [G4.1 _ _ (by omega), i4, e1]; rfl
                  · rw [G4.1 _ _ (by omega)]; exact i7
                  · rw [m_uI_I, if_pos ⟨rfl, rfl⟩]; rfl
                  · rw [G4.1 _ _ (by omega), e5']; rfl
                  · refine ⟨by show s + i ≤ n; omega, by show s ≤ s + i; omega, by show 1 ≤ 3; omega, fun _ => ⟨by show 0 < s + i; omega, ?_⟩, fun q => by dsimp only at q; omega, fun _ => ⟨hlw.1, by rw [hlw.2]; omega, by rw [hlw.2]; exact hi1⟩, fun q => by dsimp only at q; omega, fun q => by dsimp only at q; omega, fun _ => by show s < s + i; omega⟩
                    have := hin (i - 1) (by omega)
                    rw [if_pos h1, show s + (i - 1) = s + i - 1 by omega] at this
                    exact isA_i.mpr (Or.inl this)
                  · rw [G4.1 _ _ (by omega)]; exact i9)
                simp +decide (disch := omega) only [qX3_step_0, qX3_step_1, qX3_step_2, qX3_step_3, qX3_step_4, lx L3, i4, i7, e1, e5', how, am_w1_i, am_w1_r, am_w1_x, am_w1_l, am_w1_w, va_rf_s, am_push_n, am_push_s, am_cs_0, am_cs_i, am_cs_l, am_cs_r, m_uI_K, m_uI_N, m_uI_R, m_uI_L, m_uI_I, m_uL_K, m_uL_N, m_uL_R, m_uL_I, m_uL_L, m_uR_K, m_uR_N, m_uR_I, m_uR_L, m_uR_R, true_and, and_true, true_implies, false_implies, not_true_eq_false, not_false_eq_true, if_true, if_false, false_and, and_false]
                rw [br_q hbe]
                exact h0
              · have e1 : nI (kdN (T s)) = 2 := by rw [h2]; rfl
                have hnl : ¬ isL (T s) = true := fun q => by have := kdN_1.mpr q; omega
                have ef : (fun i => if kdN (T s) = 1 then isL (T i) else isD (T i)) = fun i => isD (T i) := funext fun i => if_neg (by omega)
                rw [ef] at he
                have h66 : mst (kdN (T s)) = 4 := by rw [h2]; rfl
                have etk := tk_n hs (by omega) cA cb hnl he
                rw [if_neg (by omega), show s + i - s = i by omega] at etk
                have e5' : mI M3 165 5 = nI (numV T s i) := by rw [e5]; unfold acV; rw [if_neg (by omega)]
                have G4 : gF (fun a j => a = 165 ∧ j = 6) nT M3 (uI M3 165 6 (-1)) := gF_i _ ⟨rfl, rfl⟩
                have hok := tk_OK T n (tE t)
                rw [etk] at hok
                have h0 := hN (by rw [etk]; exact (by decide : ¬ (2 : Nat) = 4)) _ (gF_trans F3 (gF_up G4 (fun a j q => q.1) (fun _ _ q => q))) (by
                  rw [etk]
                  refine ⟨TpX_g T3 G4 (fun a j q z => by omega), OwX_g O3 G4 (fun j z => by omega), ?_, ?_, ?_, ?_, ?_, ?_, ?_, ?_⟩
                  · rw [G4.1 _ _ (by omega)]; exact i8
                  · rw [G4.1 _ _ (by omega)]; exact e3
                  · rw [G4.1 _ _ (by omega), i4, e1]; rfl
                  · rw [G4.1 _ _ (by omega)]; exact i7
                  · rw [m_uI_I, if_pos ⟨rfl, rfl⟩]; rfl
                  · rw [G4.1 _ _ (by omega), e5']; rfl
                  · refine ⟨by show s + i ≤ n; omega, by show s ≤ s + i; omega, by show 2 ≤ 3; omega, fun _ => ⟨by show 0 < s + i; omega, ?_⟩, fun q => by dsimp only at q; omega, fun q => by dsimp only at q; omega, fun _ => hok rfl, fun q => by dsimp only at q; omega, fun _ => by show s < s + i; omega⟩
                    have := hin (i - 1) (by omega)
                    rw [if_neg (by omega), show s + (i - 1) = s + i - 1 by omega] at this
                    exact isA_i.mpr (Or.inr this)
                  · rw [G4.1 _ _ (by omega)]; exact i9)
                simp +decide (disch := omega) only [qX3_step_0, qX3_step_1, qX3_step_2, qX3_step_3, qX3_step_4, lx L3, i4, i7, e1, am_w1_i, am_w1_r, am_w1_x, am_w1_l, am_w1_w, va_rf_s, am_push_n, am_push_s, am_cs_0, am_cs_i, am_cs_l, am_cs_r, m_uI_K, m_uI_N, m_uI_R, m_uI_L, m_uI_I, m_uL_K, m_uL_N, m_uL_R, m_uL_I, m_uL_L, m_uR_K, m_uR_N, m_uR_I, m_uR_L, m_uR_R, true_and, and_true, true_implies, false_implies, not_true_eq_false, not_false_eq_true, if_true, if_false, false_and, and_false]
                rw [br_q hbe]
                exact h0
            · have T3 := TpX_g T2 g3 (fun a j q z => by omega)
              have O3 := OwX_g O2 g3 (fun j z => by omega)
              have F3 : gF sRd nT M M3 := gF_trans F2 (gF_up g3 (fun a j q => q.1) (fun _ _ q => q))
              have hf := FtX_0 (k := 1) (p := s + mst (kdN (T s))) T3 O3 (by omega)
              by_cases cb : 0 < s ∧ isA (T (s - 1)) = true
              · have etk := tk_4 hs (by omega) cA cb
                exact hF (by rw [etk]) _ (gF_trans F3 hf.2) (by rw [etk]; exact ⟨hf.1.1, hf.1.2.1, hf.1.2.2.1, hf.1.2.2.2.1, Or.inl trivial, hf.1.2.2.2.2.2⟩)
              rcases h12 with h1 | h2
              · have ef : (fun i => if kdN (T s) = 1 then isL (T i) else isD (T i)) = fun i => isL (T i) := funext fun i => if_pos h1
                rw [ef, h1] at hbig
                rw [h1] at hf ⊢
                have etk := tk_w hs (by omega) cA cb (kdN_1.mp h1) rfl
                rw [if_pos (show 6 < run1 (fun i => isL (T i)) (n - s) s - s from hbig)] at etk
                exact hF (by rw [etk]) _ (gF_trans F3 hf.2) (by rw [etk]; exact hf.1)
              · have hnl : ¬ isL (T s) = true := fun q => by have := kdN_1.mpr q; omega
                have ef : (fun i => if kdN (T s) = 1 then isL (T i) else isD (T i)) = fun i => isD (T i) := funext fun i => if_neg (by omega)
                rw [ef, h2] at hbig
                rw [h2] at hf ⊢
                have etk := tk_n hs (by omega) cA cb hnl rfl
                rw [if_pos (show 4 < run1 (fun i => isD (T i)) (n - s) s - s from hbig)] at etk
                exact hF (by rw [etk]) _ (gF_trans F3 hf.2) (by rw [etk]; exact hf.1)
        · have e3 : kdN (T s) = 3 := kdN_3.mpr cA
          have etk := tk_sg hs (by omega) cA
          have e3' : nI (kdN (T s)) = 3 := by rw [e3]; rfl
          have G3 : gF (fun a j => a = 165 ∧ (j = 3 ∨ j = 5)) nT M2 (uI (uI M2 165 5 (nI (T s))) 165 3 (nI (s + 1))) := gF_trans (gF_i _ ⟨rfl, by omega⟩) (gF_i _ ⟨rfl, by omega⟩)
          have h0 := hN (by rw [etk]; exact (by decide : ¬ (3 : Nat) = 4)) _ (gF_trans F2 (gF_up G3 (fun a j q => q.1) (fun _ _ q => q))) (by
            rw [etk]
            refine ⟨TpX_g T2 G3 (fun a j q z => by omega), OwX_g O2 G3 (fun j z => by omega), ?_, ?_, ?_, ?_, ?_, ?_, ?_, ?_⟩
            · rw [G3.1 _ _ (by omega)]; exact w8
            · rw [m_uI_I, if_pos ⟨rfl, rfl⟩]; rfl
            · rw [G3.1 _ _ (by omega), w4, e3]
            · rw [G3.1 _ _ (by omega)]; exact w7
            · rw [G3.1 _ _ (by omega)]; exact w6
            · rw [m_uI_I, if_neg (by omega), m_uI_I, if_pos ⟨rfl, rfl⟩]; rfl
            · exact ⟨by show s + 1 ≤ n; omega, by show s ≤ s + 1; omega, by show 3 ≤ 3; omega, fun q => by dsimp only at q; omega, fun _ => Or.inr (Or.inr (by show ¬ isA (T (s + 1 - 1)) = true; rw [Nat.add_sub_cancel]; exact cA)), fun q => by dsimp only at q; omega, fun q => by dsimp only at q; omega, fun _ => v5, fun _ => by show s < s + 1; omega⟩
            · rw [G3.1 _ _ (by omega)]; exact w9)
          simp +decide (disch := omega) only [qX3_step_0, qX3_step_1, qX3_step_2, qX3_step_3, qX3_step_4, lx L2, w3, w4, e3', x1, y6, ni_in_t, ni_tn, ni_add1, am_w1_i, am_w1_r, am_w1_x, am_w1_l, am_w1_w, va_rf_s, am_push_n, am_push_s, am_cs_0, am_cs_i, am_cs_l, am_cs_r, m_uI_K, m_uI_N, m_uI_R, m_uI_L, m_uI_I, m_uL_K, m_uL_N, m_uL_R, m_uL_I, m_uL_L, m_uR_K, m_uR_N, m_uR_I, m_uR_L, m_uR_R, true_and, and_true, true_implies, false_implies, not_true_eq_false, not_false_eq_true, if_true, if_false, false_and, and_false]
          exact h0
      rw [hM2] at goal138
      simp +decide (disch := omega) only [qX3_step_0, qX3_step_1, qX3_step_2, qX3_step_3, qX3_step_4, lx L1, u1, u2, r3, v6, hkd, ni_in_t, ni_tn, ni_add1, am_w1_i, am_w1_r, am_w1_x, am_w1_l, am_w1_w, va_rf_s, am_push_n, am_push_s, am_cs_0, am_cs_i, am_cs_l, am_cs_r, m_uI_K, m_uI_N, m_uI_R, m_uI_L, m_uI_I, m_uL_K, m_uL_N, m_uL_R, m_uL_I, m_uL_L, m_uR_K, m_uR_N, m_uR_I, m_uR_L, m_uR_R, true_and, and_true, true_implies, false_implies, not_true_eq_false, not_false_eq_true, if_true, if_false, false_and, and_false] at goal138 ⊢
      rw [br_n hlt]
      exact goal138
  simp +decide (disch := omega) only [qX3_step_0, qX3_step_1, qX3_step_2, qX3_step_3, qX3_step_4, lx hL, h8, h4, h3, am_w1_i, am_w1_r, am_w1_x, am_w1_l, am_w1_w, va_rf_s, am_push_n, am_push_s, am_cs_0, am_cs_i, am_cs_l, am_cs_r, m_uI_K, m_uI_N, m_uI_R, m_uI_L, m_uI_I, m_uL_K, m_uL_N, m_uL_R, m_uL_I, m_uL_L, m_uR_K, m_uR_N, m_uR_I, m_uR_L, m_uR_R, true_and, and_true, true_implies, false_implies, not_true_eq_false, not_false_eq_true, if_true, if_false, false_and, and_false]
  by_cases e1 : t.1 = 1
  · rw [hb, if_pos (Or.inl e1)] at main
    rw [br_p (by rw [e1]; rfl)]
    exact main
  · have n1 : ¬ nI t.1 = 1 := fun q => e1 ((ni_eq (b := 1) (by have := hG.2.2.1; omega) (by omega)).mp q)
    rw [br_n n1]
    by_cases e2 : t.1 = 2
    · rw [hb, if_pos (Or.inr e2)] at main
      rw [br_r (by rw [e2]; rfl)]
      exact main
    · have n2 : ¬ nI t.1 = 2 := fun q => e2 ((ni_eq (b := 2) (by have := hG.2.2.1; omega) (by omega)).mp q)
      rw [hb, if_neg (by omega)] at main
      rw [br_q n2]
      exact main
theorem c_x_step (d n : Nat) (T : Nat → Nat) (t : Tok) (M : am_M) (Q : Option Value → am_M → Prop) (hL : Lay M) (hR : RdX M T n t)
    (hF : (tk T n (tE t)).1 = 4 → ∀ M', gF sRd nT M M' → FtX M' T n 1 (tS (tk T n (tE t))) → Q none M')
    (hN : ¬ (tk T n (tE t)).1 = 4 → ∀ M', gF sRd nT M M' → RdX M' T n (tk T n (tE t)) → Q none M') : am_E am_P0 (d + 1) 35 [.ref 165] M Q :=
  c_x_stepW d n T t M Q hL hR.1 hR.2.1 hR.2.2.1 hR.2.2.2.1 hR.2.2.2.2.1 hR.2.2.2.2.2.2.2.2.1 hR.2.2.2.2.2.2.2.2.2 hF hN
end
section
/-! the class's reader: what is taken -/
abbrev Rt := Sum (Nat × Nat) Tok
def StR (M : am_M) (T : Nat → Nat) (n : Nat) : Rt → Prop
  | .inl e => FtX M T n e.1 e.2
  | .inr t => RdX M T n t
def advR (T : Nat → Nat) (n : Nat) (t : Tok) : Rt := if (tk T n (tE t)).1 = 4 then .inl (1, tS (tk T n (tE t))) else .inr (tk T n (tE t))
def stepR (T : Nat → Nat) (n : Nat) : Rt → Rt
  | .inl e => .inl e
  | .inr t => advR T n t
def refR (k : Nat) : Rt → Rt
  | .inl e => .inl e
  | .inr t => .inl (k, tS t)
def signR (T : Nat → Nat) (n c : Nat) : Rt → Rt
  | .inl e => .inl e
  | .inr t => if isS t c = true then advR T n t else .inl (1, tS t)
def wordR (T : Nat → Nat) (n k : Nat) : Rt → Rt
  | .inl e => .inl e
  | .inr t => if isW t (ownW.getD k []) = true then advR T n t else .inl (1, tS t)
def isNR (lo hi : Nat) : Rt → Rt × Bool
  | .inl e => (.inl e, false)
  | .inr t => if ¬ t.1 = 2 then (.inl (1, tS t), false) else if t.2.1 < lo ∨ hi < t.2.1 then (.inl (4, tS t), false) else (.inr t, true)
def numR (T : Nat → Nat) (n lo hi : Nat) : Rt → Rt × Nat
  | .inl e => (.inl e, lo)
  | .inr t => if ¬ t.1 = 2 then (.inl (1, tS t), lo) else if t.2.1 < lo ∨ hi < t.2.1 then (.inl (4, tS t), lo) else (advR T n t, t.2.1)
/-- a name: a word that is no own word -/
def isNm (t : Tok) : Bool := t.1 == 1 && !decide (t.2.2.1 ∈ ownW)
def nameR : Rt → Rt × Bool
  | .inl e => (.inl e, false)
  | .inr t => if isNm t = true then (.inr t, true) else (.inl (1, tS t), false)
theorem RdX_g {M M' : am_M} {T : Nat → Nat} {n : Nat} {t : Tok} {S T' : Nat → Nat → Prop} (h : RdX M T n t) (hg : gF S T' M M') (hS : ∀ a j, a = 165 ∨ a = 1 ∨ a = 166 → ¬ S a j) (hT : ¬ T' 165 1) : RdX M' T n t := by
  obtain ⟨⟨a1, a2, a3, a4⟩, b2, b3, b4, b5, b6, b7, b8, b9, b10⟩ := h
  have k : ∀ j, mI M' 165 j = mI M 165 j := fun j => hg.1 _ _ (hS _ _ (Or.inl rfl))
  exact ⟨⟨by rw [hg.2.2.1 _ _ hT]; exact a1, by rw [k]; exact a2, a3, fun j hj => ⟨(a4 j hj).1, by rw [hg.1 _ _ (hS _ _ (Or.inr (Or.inl rfl)))]; exact (a4 j hj).2⟩⟩, OwX_g b2 hg (fun j => hS _ _ (Or.inr (Or.inr rfl))), by rw [k]; exact b3, by rw [k]; exact b4, by rw [k]; exact b5, by rw [k]; exact b6, by rw [k]; exact b7, by rw [k]; exact b8, b9, by rw [k]; exact b10⟩
theorem FtX_g {M M' : am_M} {T : Nat → Nat} {n k p : Nat} {S T' : Nat → Nat → Prop} (h : FtX M T n k p) (hg : gF S T' M M') (hS : ∀ a j, a = 165 ∨ a = 1 ∨ a = 166 → ¬ S a j) (hT : ¬ T' 165 1) : FtX M' T n k p := by
  obtain ⟨⟨a1, a2, a3, a4⟩, b2, b3, b4, b5, b6, b7⟩ := h
  have k : ∀ j, mI M' 165 j = mI M 165 j := fun j => hg.1 _ _ (hS _ _ (Or.inl rfl))
  exact ⟨⟨by rw [hg.2.2.1 _ _ hT]; exact a1, by rw [k]; exact a2, a3, fun j hj => ⟨(a4 j hj).1, by rw [hg.1 _ _ (hS _ _ (Or.inr (Or.inl rfl)))]; exact (a4 j hj).2⟩⟩, OwX_g b2 hg (fun j => hS _ _ (Or.inr (Or.inr rfl))), by rw [k]; exact b3, b4, Or.inl trivial, by rw [k]; exact b6, by rw [k]; exact b7⟩
theorem StR_g {M M' : am_M} {T : Nat → Nat} {n : Nat} {r : Rt} {S T' : Nat → Nat → Prop} (h : StR M T n r) (hg : gF S T' M M') (hS : ∀ a j, a = 165 ∨ a = 1 ∨ a = 166 → ¬ S a j) (hT : ¬ T' 165 1) : StR M' T n r := by
  cases r with
  | inl e => exact FtX_g h hg hS hT
  | inr t => exact RdX_g h hg hS hT
theorem c_x_stepR (d n : Nat) (T : Nat → Nat) (r : Rt) (M : am_M) (Q : Option Value → am_M → Prop) (hL : Lay M) (hR : StR M T n r) (hQ : ∀ M', gF sRd nT M M' → StR M' T n (stepR T n r) → Q none M') : am_E am_P0 (d + 1) 35 [.ref 165] M Q := by
  cases r with
  | inl e => rw [c_x_stepF (d + 1) n e.1 e.2 T M Q hL hR]; exact hQ M (gF_refl _ _ _) hR
  | inr t =>
    refine c_x_step d n T t M Q hL hR (fun h4 M1 g1 hF => hQ M1 g1 ?_) (fun h4 M1 g1 hF => hQ M1 g1 ?_)
    · show StR M1 T n (advR T n t); unfold advR; rw [if_pos h4]; exact hF
    · show StR M1 T n (advR T n t); unfold advR; rw [if_neg h4]; exact hF
theorem c_x_refuse (d n k : Nat) (T : Nat → Nat) (r : Rt) (M : am_M) (Q : Option Value → am_M → Prop) (hL : Lay M) (hk : 1 ≤ k ∧ k ≤ 5) (hR : StR M T n r) (hQ : ∀ M', gF sRd nT M M' → StR M' T n (refR k r) → Q none M') : am_E am_P0 (d + 1) 39 [.ref 165, .int (nI k)] M Q := by
  rw [eX3_refuse]
  cases r with
  | inl e =>
    have h8 := FtX_8 hR
    have hf := FtX_1 hR
    have h0 := hQ _ hf.2 hf.1
    simp +decide only [qX3_refuse, lx hL, am_w1_i, am_w1_r, am_w1_x, am_w1_l, am_w1_w, va_rf_s, am_push_n, am_push_s, am_cs_0, am_cs_i, am_cs_l, am_cs_r, m_uI_K, m_uI_N, m_uI_R, m_uI_L, m_uI_I, m_uL_K, m_uL_N, m_uL_R, m_uL_I, m_uL_L, m_uR_K, m_uR_N, m_uR_I, m_uR_L, m_uR_R, true_and, and_true, true_implies, false_implies, not_true_eq_false, not_false_eq_true, if_true, if_false, false_and, and_false]
    rw [c_x_refuseAt1 d _ _ M _ hL h8]
    simp +decide only [qX3_refuse, lx hL, am_w1_i, am_w1_r, am_w1_x, am_w1_l, am_w1_w, va_rf_s, am_push_n, am_push_s, am_cs_0, am_cs_i, am_cs_l, am_cs_r, m_uI_K, m_uI_N, m_uI_R, m_uI_L, m_uI_I, m_uL_K, m_uL_N, m_uL_R, m_uL_I, m_uL_L, m_uR_K, m_uR_N, m_uR_I, m_uR_L, m_uR_R, true_and, and_true, true_implies, false_implies, not_true_eq_false, not_false_eq_true, if_true, if_false, false_and, and_false]
    exact h0
  | inr t =>
    obtain ⟨hT, hO, h8, h3, h4, h7, -⟩ := id hR
    have hf := FtX_0 (k := k) (p := tS t) hT hO hk
    have h0 := hQ _ hf.2 hf.1
    simp +decide only [qX3_refuse, lx hL, h7, am_w1_i, am_w1_r, am_w1_x, am_w1_l, am_w1_w, va_rf_s, am_push_n, am_push_s, am_cs_0, am_cs_i, am_cs_l, am_cs_r, m_uI_K, m_uI_N, m_uI_R, m_uI_L, m_uI_I, m_uL_K, m_uL_N, m_uL_R, m_uL_I, m_uL_L, m_uR_K, m_uR_N, m_uR_I, m_uR_L, m_uR_R, true_and, and_true, true_implies, false_implies, not_true_eq_false, not_false_eq_true, if_true, if_false, false_and, and_false]
    rw [c_x_refuseAt0 d _ _ M _ hL h8]
    simp +decide only [qX3_refuse, lx hL, am_w1_i, am_w1_r, am_w1_x, am_w1_l, am_w1_w, va_rf_s, am_push_n, am_push_s, am_cs_0, am_cs_i, am_cs_l, am_cs_r, m_uI_K, m_uI_N, m_uI_R, m_uI_L, m_uI_I, m_uL_K, m_uL_N, m_uL_R, m_uL_I, m_uL_L, m_uR_K, m_uR_N, m_uR_I, m_uR_L, m_uR_R, true_and, and_true, true_implies, false_implies, not_true_eq_false, not_false_eq_true, if_true, if_false, false_and, and_false]
    exact h0
def isSr (c : Nat) : Rt → Bool
  | .inl _ => false
  | .inr t => isS t c
def isWr (k : Nat) : Rt → Bool
  | .inl _ => false
  | .inr t => isW t (ownW.getD k [])
theorem c_x_isSign (d n c : Nat) (T : Nat → Nat) (r : Rt) (M : am_M) (Q : Option Value → am_M → Prop) (hL : Lay M) (hc : c < 256) (hR : StR M T n r) : am_E am_P0 d 40 [.ref 165, .int (nI c)] M Q ↔ Q (some (.int (b01 (isSr c r)))) M := by
  rw [eX3_isSign]
  cases r with
  | inl e =>
    have h4 := hR.2.2.2.2.2.1
    simp +decide only [qX3_isSign, lx hL, h4, am_w1_i, am_w1_r, am_w1_x, am_w1_l, am_w1_w, va_rf_s, am_push_n, am_push_s, am_cs_0, am_cs_i, am_cs_l, am_cs_r, m_uI_K, m_uI_N, m_uI_R, m_uI_L, m_uI_I, m_uL_K, m_uL_N, m_uL_R, m_uL_I, m_uL_L, m_uR_K, m_uR_N, m_uR_I, m_uR_L, m_uR_R, true_and, and_true, true_implies, false_implies, not_true_eq_false, not_false_eq_true, if_true, if_false, false_and, and_false]
    exact Iff.rfl
  | inr t =>
    obtain ⟨hT, hO, h8, h3, h4, h7, h6, h5, hG, -⟩ := id hR
    simp +decide only [qX3_isSign, lx hL, h4, h5, am_w1_i, am_w1_r, am_w1_x, am_w1_l, am_w1_w, va_rf_s, am_push_n, am_push_s, am_cs_0, am_cs_i, am_cs_l, am_cs_r, m_uI_K, m_uI_N, m_uI_R, m_uI_L, m_uI_I, m_uL_K, m_uL_N, m_uL_R, m_uL_I, m_uL_L, m_uR_K, m_uR_N, m_uR_I, m_uR_L, m_uR_R, true_and, and_true, true_implies, false_implies, not_true_eq_false, not_false_eq_true, if_true, if_false, false_and, and_false]
    have hle := hG.2.2.1
    show _ ↔ Q (some (.int (b01 (isS t c)))) M
    by_cases c3 : t.1 = 3
    · have ht := hG.2.2.2.2.2.2.2.1 c3
      have e3 : nI t.1 = 3 := by rw [c3]; rfl
      rw [br_r e3, if_neg (by omega)]
      by_cases cc : t.2.1 = c
      · have : isS t c = true := by unfold isS; rw [c3, cc]; simp
        rw [br_r (by rw [cc]), this]; exact Iff.rfl
      · have : isS t c = false := by unfold isS; rw [Bool.and_eq_false_iff]; exact Or.inr (by simpa using cc)
        rw [br_q (fun q => cc ((ni_eq (by omega) (by omega)).mp q)), this]; exact Iff.rfl
    · have : isS t c = false := by unfold isS; rw [Bool.and_eq_false_iff]; exact Or.inl (by simpa using c3)
      have n3 : ¬ nI t.1 = 3 := fun q => c3 ((ni_eq (b := 3) (by omega) (by omega)).mp q)
      rw [br_q n3, this]; exact Iff.rfl
theorem wr_is {M : am_M} {T : Nat → Nat} {n k : Nat} {r : Rt} (hR : StR M T n r) (hk : k < 27) : mI M 165 6 = nI k ↔ isWr k r = true := by
  cases r with
  | inl e =>
    have h6 : mI M 165 6 = -1 := hR.2.2.2.2.2.2
    rw [h6]
    exact ⟨fun q => absurd q.symm (nI_m1 (by omega)), fun q => absurd q (by show ¬ false = true; decide)⟩
  | inr t =>
    obtain ⟨hT, hO, h8, h3, h4, h7, h6, h5, hG, -⟩ := id hR
    rw [h6]
    show _ ↔ isW t (ownW.getD k []) = true
    unfold isW
    rw [Bool.and_eq_true, beq_iff_eq, beq_iff_eq]
    by_cases c : t.1 = 1
    · rw [if_pos c, owI_is hk]
      exact ⟨fun q => ⟨c, q⟩, fun q => q.2⟩
    · rw [if_neg c]
      exact ⟨fun q => absurd q.symm (nI_m1 (by omega)), fun q => absurd q.1 c⟩
theorem c_x_takeSign (d n c : Nat) (T : Nat → Nat) (r : Rt) (M : am_M) (Q : Option Value → am_M → Prop) (hL : Lay M) (hc : c < 256) (hR : StR M T n r) (hQ : ∀ M', gF sRd nT M M' → StR M' T n (signR T n c r) → Q none M') : am_E am_P0 (d + 2) 41 [.ref 165, .int (nI c)] M Q := by
  rw [eX3_takeSign]
  simp +decide only [qX3_takeSign, lx hL, c_x_isSign (d + 1) n c T r M _ hL hc hR, am_w1_i, am_w1_r, am_w1_x, am_w1_l, am_w1_w, va_rf_s, am_push_n, am_push_s, am_cs_0, am_cs_i, am_cs_l, am_cs_r, m_uI_K, m_uI_N, m_uI_R, m_uI_L, m_uI_I, m_uL_K, m_uL_N, m_uL_R, m_uL_I, m_uL_L, m_uR_K, m_uR_N, m_uR_I, m_uR_L, m_uR_R, true_and, and_true, true_implies, false_implies, not_true_eq_false, not_false_eq_true, if_true, if_false, false_and, and_false]
  cases hs : isSr c r with
  | true =>
    simp +decide only [b01, am_w1_i, am_w1_r, am_w1_x, am_w1_l, am_w1_w, va_rf_s, am_push_n, am_push_s, am_cs_0, am_cs_i, am_cs_l, am_cs_r, m_uI_K, m_uI_N, m_uI_R, m_uI_L, m_uI_I, m_uL_K, m_uL_N, m_uL_R, m_uL_I, m_uL_L, m_uR_K, m_uR_N, m_uR_I, m_uR_L, m_uR_R, true_and, and_true, true_implies, false_implies, not_true_eq_false, not_false_eq_true, if_true, if_false, false_and, and_false]
    refine c_x_stepR d n T r M _ hL hR (fun M1 g1 h1 => ?_)
    simp +decide only [qX3_takeSign, am_w1_i, am_w1_r, am_w1_x, am_w1_l, am_w1_w, va_rf_s, am_push_n, am_push_s, am_cs_0, am_cs_i, am_cs_l, am_cs_r, m_uI_K, m_uI_N, m_uI_R, m_uI_L, m_uI_I, m_uL_K, m_uL_N, m_uL_R, m_uL_I, m_uL_L, m_uR_K, m_uR_N, m_uR_I, m_uR_L, m_uR_R, true_and, and_true, true_implies, false_implies, not_true_eq_false, not_false_eq_true, if_true, if_false, false_and, and_false]
    refine hQ M1 g1 ?_
    cases r with
    | inl e => exact absurd hs (by show ¬ false = true; decide)
    | inr t =>
      have hs' : isS t c = true := hs
      show StR M1 T n (if isS t c = true then advR T n t else .inl (1, tS t)); rw [if_pos hs']; exact h1
  | false =>
    simp +decide only [b01, am_w1_i, am_w1_r, am_w1_x, am_w1_l, am_w1_w, va_rf_s, am_push_n, am_push_s, am_cs_0, am_cs_i, am_cs_l, am_cs_r, m_uI_K, m_uI_N, m_uI_R, m_uI_L, m_uI_I, m_uL_K, m_uL_N, m_uL_R, m_uL_I, m_uL_L, m_uR_K, m_uR_N, m_uR_I, m_uR_L, m_uR_R, true_and, and_true, true_implies, false_implies, not_true_eq_false, not_false_eq_true, if_true, if_false, false_and, and_false]
    rw [show (1 : Int32) = nI 1 from rfl]
    refine c_x_refuse d n 1 T r M _ hL (by omega) hR (fun M1 g1 h1 => ?_)
    simp +decide only [qX3_takeSign, am_w1_i, am_w1_r, am_w1_x, am_w1_l, am_w1_w, va_rf_s, am_push_n, am_push_s, am_cs_0, am_cs_i, am_cs_l, am_cs_r, m_uI_K, m_uI_N, m_uI_R, m_uI_L, m_uI_I, m_uL_K, m_uL_N, m_uL_R, m_uL_I, m_uL_L, m_uR_K, m_uR_N, m_uR_I, m_uR_L, m_uR_R, true_and, and_true, true_implies, false_implies, not_true_eq_false, not_false_eq_true, if_true, if_false, false_and, and_false]
    refine hQ M1 g1 ?_
    cases r with
    | inl e => exact h1
    | inr t =>
      have hs' : isS t c = false := hs
      show StR M1 T n (if isS t c = true then advR T n t else .inl (1, tS t)); rw [hs', if_neg (by decide)]; exact h1
theorem c_x_takeWord (d n k : Nat) (T : Nat → Nat) (r : Rt) (M : am_M) (Q : Option Value → am_M → Prop) (hL : Lay M) (hk : k < 27) (hR : StR M T n r) (hQ : ∀ M', gF sRd nT M M' → StR M' T n (wordR T n k r) → Q none M') : am_E am_P0 (d + 2) 42 [.ref 165, .int (nI k)] M Q := by
  have hw := wr_is hR hk
  rw [eX3_takeWord]
  simp +decide only [qX3_takeWord, lx hL, am_w1_i, am_w1_r, am_w1_x, am_w1_l, am_w1_w, va_rf_s, am_push_n, am_push_s, am_cs_0, am_cs_i, am_cs_l, am_cs_r, m_uI_K, m_uI_N, m_uI_R, m_uI_L, m_uI_I, m_uL_K, m_uL_N, m_uL_R, m_uL_I, m_uL_L, m_uR_K, m_uR_N, m_uR_I, m_uR_L, m_uR_R, true_and, and_true, true_implies, false_implies, not_true_eq_false, not_false_eq_true, if_true, if_false, false_and, and_false]
  by_cases hs : isWr k r = true
  · rw [br_r (hw.mpr hs)]
    refine c_x_stepR d n T r M _ hL hR (fun M1 g1 h1 => ?_)
    simp +decide only [qX3_takeWord, am_w1_i, am_w1_r, am_w1_x, am_w1_l, am_w1_w, va_rf_s, am_push_n, am_push_s, am_cs_0, am_cs_i, am_cs_l, am_cs_r, m_uI_K, m_uI_N, m_uI_R, m_uI_L, m_uI_I, m_uL_K, m_uL_N, m_uL_R, m_uL_I, m_uL_L, m_uR_K, m_uR_N, m_uR_I, m_uR_L, m_uR_R, true_and, and_true, true_implies, false_implies, not_true_eq_false, not_false_eq_true, if_true, if_false, false_and, and_false]
    refine hQ M1 g1 ?_
    cases r with
    | inl e => exact absurd hs (by show ¬ false = true; decide)
    | inr t =>
      have hs' : isW t (ownW.getD k []) = true := hs
      show StR M1 T n (if isW t (ownW.getD k []) = true then advR T n t else .inl (1, tS t)); rw [if_pos hs']; exact h1
  · rw [br_q (fun q => hs (hw.mp q)), show (1 : Int32) = nI 1 from rfl]
    refine c_x_refuse d n 1 T r M _ hL (by omega) hR (fun M1 g1 h1 => ?_)
    simp +decide only [qX3_takeWord, am_w1_i, am_w1_r, am_w1_x, am_w1_l, am_w1_w, va_rf_s, am_push_n, am_push_s, am_cs_0, am_cs_i, am_cs_l, am_cs_r, m_uI_K, m_uI_N, m_uI_R, m_uI_L, m_uI_I, m_uL_K, m_uL_N, m_uL_R, m_uL_I, m_uL_L, m_uR_K, m_uR_N, m_uR_I, m_uR_L, m_uR_R, true_and, and_true, true_implies, false_implies, not_true_eq_false, not_false_eq_true, if_true, if_false, false_and, and_false]
    refine hQ M1 g1 ?_
    cases r with
    | inl e => exact h1
    | inr t =>
      have hs' : ¬ isW t (ownW.getD k []) = true := hs
      show StR M1 T n (if isW t (ownW.getD k []) = true then advR T n t else .inl (1, tS t)); rw [if_neg hs']; exact h1
theorem c_x_isNumberF (d n : Nat) (e : Nat × Nat) (lo hi : Int32) (T : Nat → Nat) (M : am_M) (Q : Option Value → am_M → Prop) (hL : Lay M) (hR : StR M T n (.inl e)) (hQ : ∀ M', gF sRd nT M M' → StR M' T n (.inl e) → Q (some (.int 0)) M') : am_E am_P0 (d + 2) 43 [.ref 165, .int lo, .int hi] M Q := by
  have h4 : mI M 165 4 = 0 := hR.2.2.2.2.2.1
  rw [eX3_checkNumber]
  simp +decide only [qX3_checkNumber, lx hL, h4, am_w1_i, am_w1_r, am_w1_x, am_w1_l, am_w1_w, va_rf_s, am_push_n, am_push_s, am_cs_0, am_cs_i, am_cs_l, am_cs_r, m_uI_K, m_uI_N, m_uI_R, m_uI_L, m_uI_I, m_uL_K, m_uL_N, m_uL_R, m_uL_I, m_uL_L, m_uR_K, m_uR_N, m_uR_I, m_uR_L, m_uR_R, true_and, and_true, true_implies, false_implies, not_true_eq_false, not_false_eq_true, if_true, if_false, false_and, and_false]
  rw [show (1 : Int32) = nI 1 from rfl]
  refine c_x_refuse d n 1 T (.inl e) M _ hL (by omega) hR (fun M1 g1 h1 => ?_)
  have h0 := hQ M1 g1 h1
  simp +decide only [qX3_checkNumber, am_w1_i, am_w1_r, am_w1_x, am_w1_l, am_w1_w, va_rf_s, am_push_n, am_push_s, am_cs_0, am_cs_i, am_cs_l, am_cs_r, m_uI_K, m_uI_N, m_uI_R, m_uI_L, m_uI_I, m_uL_K, m_uL_N, m_uL_R, m_uL_I, m_uL_L, m_uR_K, m_uR_N, m_uR_I, m_uR_L, m_uR_R, true_and, and_true, true_implies, false_implies, not_true_eq_false, not_false_eq_true, if_true, if_false, false_and, and_false]
  exact h0
theorem c_x_isNumber (d n lo hi : Nat) (T : Nat → Nat) (r : Rt) (M : am_M) (Q : Option Value → am_M → Prop) (hL : Lay M) (hlo : lo < 10000) (hhi : hi < 10000) (hR : StR M T n r) (hQ : ∀ M', gF sRd nT M M' → StR M' T n (isNR lo hi r).1 → Q (some (.int (b01 (isNR lo hi r).2))) M') : am_E am_P0 (d + 2) 43 [.ref 165, .int (nI lo), .int (nI hi)] M Q := by
  cases r with
  | inl e => exact c_x_isNumberF d n e _ _ T M Q hL hR hQ
  | inr t =>
    obtain ⟨hT, hO, h8, h3, h4, h7, h6, h5, hG, -⟩ := id hR
    have hle := hG.2.2.1
    rw [eX3_checkNumber]
    simp +decide only [qX3_checkNumber, lx hL, h4, h5, am_w1_i, am_w1_r, am_w1_x, am_w1_l, am_w1_w, va_rf_s, am_push_n, am_push_s, am_cs_0, am_cs_i, am_cs_l, am_cs_r, m_uI_K, m_uI_N, m_uI_R, m_uI_L, m_uI_I, m_uL_K, m_uL_N, m_uL_R, m_uL_I, m_uL_L, m_uR_K, m_uR_N, m_uR_I, m_uR_L, m_uR_R, true_and, and_true, true_implies, false_implies, not_true_eq_false, not_false_eq_true, if_true, if_false, false_and, and_false]
    have en : isNR lo hi (.inr t) = if ¬ t.1 = 2 then (.inl (1, tS t), false) else if t.2.1 < lo ∨ hi < t.2.1 then (.inl (4, tS t), false) else (.inr t, true) := rfl
    by_cases c2 : t.1 = 2
    · have hv := hG.2.2.2.2.2.2.1 c2
      rw [br_p (by rw [c2]; rfl), if_neg (by omega)]
      rw [if_neg (by omega)] at en
      by_cases c : t.2.1 < lo ∨ hi < t.2.1
      · rw [if_pos c] at en
        rw [en] at hQ
        have goal : am_E am_P0 (d + 1) 39 [.ref 165, .int 4] M (fun r M2 => am_P am_P0 (d + 2) (am_look tX3_checkNumber) 37 [.ref 165, .int (nI lo), .int (nI hi)] (.int 0 :: am_push r []) M2 Q) := by
          rw [show (4 : Int32) = nI 4 from rfl]
          refine c_x_refuse d n 4 T (.inr t) M _ hL (by omega) hR (fun M1 g1 h1 => ?_)
          have h0 := hQ M1 g1 h1
          simp +decide only [qX3_checkNumber, am_w1_i, am_w1_r, am_w1_x, am_w1_l, am_w1_w, va_rf_s, am_push_n, am_push_s, am_cs_0, am_cs_i, am_cs_l, am_cs_r, m_uI_K, m_uI_N, m_uI_R, m_uI_L, m_uI_I, m_uL_K, m_uL_N, m_uL_R, m_uL_I, m_uL_L, m_uR_K, m_uR_N, m_uR_I, m_uR_L, m_uR_R, true_and, and_true, true_implies, false_implies, not_true_eq_false, not_false_eq_true, if_true, if_false, false_and, and_false]
          exact h0
        by_cases c1 : t.2.1 < lo
        · rw [br_p ((ni_lt (by omega) (by omega)).mpr c1)]
          exact goal
        · rw [br_n (by rw [ni_lt (by omega) (by omega)]; exact c1), br_n (by rw [ni_le (by omega) (by omega)]; omega)]
          exact goal
      · rw [if_neg c] at en
        rw [en] at hQ
        rw [br_n (by rw [ni_lt (by omega) (by omega)]; omega), br_p (by rw [ni_le (by omega) (by omega)]; omega)]
        exact hQ M (gF_refl _ _ _) hR
    · rw [if_pos c2] at en
      rw [en] at hQ
      have n2 : ¬ nI t.1 = 2 := fun q => c2 ((ni_eq (b := 2) (by omega) (by omega)).mp q)
      rw [br_n n2, show (1 : Int32) = nI 1 from rfl]
      refine c_x_refuse d n 1 T (.inr t) M _ hL (by omega) hR (fun M1 g1 h1 => ?_)
      have h0 := hQ M1 g1 h1
      simp +decide only [qX3_checkNumber, am_w1_i, am_w1_r, am_w1_x, am_w1_l, am_w1_w, va_rf_s, am_push_n, am_push_s, am_cs_0, am_cs_i, am_cs_l, am_cs_r, m_uI_K, m_uI_N, m_uI_R, m_uI_L, m_uI_I, m_uL_K, m_uL_N, m_uL_R, m_uL_I, m_uL_L, m_uR_K, m_uR_N, m_uR_I, m_uR_L, m_uR_R, true_and, and_true, true_implies, false_implies, not_true_eq_false, not_false_eq_true, if_true, if_false, false_and, and_false]
      exact h0
theorem c_x_takeNumberF (d n : Nat) (e : Nat × Nat) (lo hi : Int32) (T : Nat → Nat) (M : am_M) (Q : Option Value → am_M → Prop) (hL : Lay M) (hR : StR M T n (.inl e)) (hQ : ∀ M', gF sRd nT M M' → StR M' T n (.inl e) → Q (some (.int lo)) M') : am_E am_P0 (d + 3) 44 [.ref 165, .int lo, .int hi] M Q := by
  rw [eX3_takeNumber]
  simp +decide only [qX3_takeNumber, lx hL, am_w1_i, am_w1_r, am_w1_x, am_w1_l, am_w1_w, va_rf_s, am_push_n, am_push_s, am_cs_0, am_cs_i, am_cs_l, am_cs_r, m_uI_K, m_uI_N, m_uI_R, m_uI_L, m_uI_I, m_uL_K, m_uL_N, m_uL_R, m_uL_I, m_uL_L, m_uR_K, m_uR_N, m_uR_I, m_uR_L, m_uR_R, true_and, and_true, true_implies, false_implies, not_true_eq_false, not_false_eq_true, if_true, if_false, false_and, and_false]
  refine c_x_isNumberF d n e lo hi T M _ hL hR (fun M1 g1 h1 => ?_)
  have h0 := hQ M1 g1 h1
  simp +decide only [qX3_takeNumber, am_w1_i, am_w1_r, am_w1_x, am_w1_l, am_w1_w, va_rf_s, am_push_n, am_push_s, am_cs_0, am_cs_i, am_cs_l, am_cs_r, m_uI_K, m_uI_N, m_uI_R, m_uI_L, m_uI_I, m_uL_K, m_uL_N, m_uL_R, m_uL_I, m_uL_L, m_uR_K, m_uR_N, m_uR_I, m_uR_L, m_uR_R, true_and, and_true, true_implies, false_implies, not_true_eq_false, not_false_eq_true, if_true, if_false, false_and, and_false]
  exact h0
theorem c_x_takeNumber (d n lo hi : Nat) (T : Nat → Nat) (r : Rt) (M : am_M) (Q : Option Value → am_M → Prop) (hL : Lay M) (hlo : lo < 10000) (hhi : hi < 10000) (hR : StR M T n r) (hQ : ∀ M', gF sRd nT M M' → StR M' T n (numR T n lo hi r).1 → Q (some (.int (nI (numR T n lo hi r).2))) M') : am_E am_P0 (d + 3) 44 [.ref 165, .int (nI lo), .int (nI hi)] M Q := by
  cases r with
  | inl e => exact c_x_takeNumberF d n e _ _ T M Q hL hR hQ
  | inr t =>
    rw [eX3_takeNumber]
    simp +decide only [qX3_takeNumber, lx hL, am_w1_i, am_w1_r, am_w1_x, am_w1_l, am_w1_w, va_rf_s, am_push_n, am_push_s, am_cs_0, am_cs_i, am_cs_l, am_cs_r, m_uI_K, m_uI_N, m_uI_R, m_uI_L, m_uI_I, m_uL_K, m_uL_N, m_uL_R, m_uL_I, m_uL_L, m_uR_K, m_uR_N, m_uR_I, m_uR_L, m_uR_R, true_and, and_true, true_implies, false_implies, not_true_eq_false, not_false_eq_true, if_true, if_false, false_and, and_false]
    have en : isNR lo hi (.inr t) = if ¬ t.1 = 2 then (.inl (1, tS t), false) else if t.2.1 < lo ∨ hi < t.2.1 then (.inl (4, tS t), false) else (.inr t, true) := rfl
    have em : numR T n lo hi (.inr t) = if ¬ t.1 = 2 then (.inl (1, tS t), lo) else if t.2.1 < lo ∨ hi < t.2.1 then (.inl (4, tS t), lo) else (advR T n t, t.2.1) := rfl
    refine c_x_isNumber d n lo hi T (.inr t) M _ hL hlo hhi hR (fun M1 g1 h1 => ?_)
    by_cases c2 : t.1 = 2
    · rw [if_neg (by omega)] at en em
      by_cases c : t.2.1 < lo ∨ hi < t.2.1
      · rw [if_pos c] at en em
        rw [en] at h1 ⊢
        rw [em] at hQ
        have h0 := hQ M1 g1 h1
        simp +decide only [qX3_takeNumber, b01, am_w1_i, am_w1_r, am_w1_x, am_w1_l, am_w1_w, va_rf_s, am_push_n, am_push_s, am_cs_0, am_cs_i, am_cs_l, am_cs_r, m_uI_K, m_uI_N, m_uI_R, m_uI_L, m_uI_I, m_uL_K, m_uL_N, m_uL_R, m_uL_I, m_uL_L, m_uR_K, m_uR_N, m_uR_I, m_uR_L, m_uR_R, true_and, and_true, true_implies, false_implies, not_true_eq_false, not_false_eq_true, if_true, if_false, false_and, and_false]
        exact h0
      · rw [if_neg c] at en em
        rw [en] at h1 ⊢
        rw [em] at hQ
        have h1' : RdX M1 T n t := h1
        have L1 := gF_LayN g1 hL
        have h5 := h1'.2.2.2.2.2.2.2.1
        rw [if_neg (by omega)] at h5
        simp +decide only [qX3_takeNumber, lx L1, h5, b01, am_w1_i, am_w1_r, am_w1_x, am_w1_l, am_w1_w, va_rf_s, am_push_n, am_push_s, am_cs_0, am_cs_i, am_cs_l, am_cs_r, m_uI_K, m_uI_N, m_uI_R, m_uI_L, m_uI_I, m_uL_K, m_uL_N, m_uL_R, m_uL_I, m_uL_L, m_uR_K, m_uR_N, m_uR_I, m_uR_L, m_uR_R, true_and, and_true, true_implies, false_implies, not_true_eq_false, not_false_eq_true, if_true, if_false, false_and, and_false]
        refine c_x_stepR (d + 1) n T (.inr t) M1 _ L1 h1 (fun M2 g2 h2 => ?_)
        have h0 := hQ M2 (gF_trans g1 g2) h2
        simp +decide only [qX3_takeNumber, am_w1_i, am_w1_r, am_w1_x, am_w1_l, am_w1_w, va_rf_s, am_push_n, am_push_s, am_cs_0, am_cs_i, am_cs_l, am_cs_r, m_uI_K, m_uI_N, m_uI_R, m_uI_L, m_uI_I, m_uL_K, m_uL_N, m_uL_R, m_uL_I, m_uL_L, m_uR_K, m_uR_N, m_uR_I, m_uR_L, m_uR_R, true_and, and_true, true_implies, false_implies, not_true_eq_false, not_false_eq_true, if_true, if_false, false_and, and_false]
        exact h0
    · rw [if_pos c2] at en em
      rw [en] at h1 ⊢
      rw [em] at hQ
      have h0 := hQ M1 g1 h1
      simp +decide only [qX3_takeNumber, b01, am_w1_i, am_w1_r, am_w1_x, am_w1_l, am_w1_w, va_rf_s, am_push_n, am_push_s, am_cs_0, am_cs_i, am_cs_l, am_cs_r, m_uI_K, m_uI_N, m_uI_R, m_uI_L, m_uI_I, m_uL_K, m_uL_N, m_uL_R, m_uL_I, m_uL_L, m_uR_K, m_uR_N, m_uR_I, m_uR_L, m_uR_R, true_and, and_true, true_implies, false_implies, not_true_eq_false, not_false_eq_true, if_true, if_false, false_and, and_false]
      exact h0
theorem own_no {l : List Nat} : owI l = -1 ↔ ¬ l ∈ ownW := by
  rw [owI_no]
  constructor
  · intro h q
    obtain ⟨k, hk⟩ := List.mem_iff_getElem?.mp q
    have hl : k < 27 := (List.getElem?_eq_some_iff.mp hk).1
    have := ownW_d hl
    rw [hk] at this
    exact h k hl (Option.some.inj this)
  · intro h k hk e
    exact h (by rw [e]; exact List.mem_of_getElem? (ownW_d hk))
theorem c_x_isName (d n : Nat) (T : Nat → Nat) (r : Rt) (M : am_M) (Q : Option Value → am_M → Prop) (hL : Lay M) (hR : StR M T n r) (hQ : ∀ M', gF sRd nT M M' → StR M' T n (nameR r).1 → Q (some (.int (b01 (nameR r).2))) M') : am_E am_P0 (d + 2) 45 [.ref 165] M Q := by
  rw [eX3_checkName]
  have bad : ∀ r' : Rt, (nameR r' = (refR 1 r', false)) → StR M T n r' → (∀ M', gF sRd nT M M' → StR M' T n (nameR r').1 → Q (some (.int (b01 (nameR r').2))) M') → am_E am_P0 (d + 1) 39 [.ref 165, .int 1] M (fun r M2 => am_P am_P0 (d + 2) (am_look tX3_checkName) 22 [.ref 165] (.int 0 :: am_push r []) M2 Q) := fun r' hr' hR' hQ' => by
    rw [show (1 : Int32) = nI 1 from rfl]
    refine c_x_refuse d n 1 T r' M _ hL (by omega) hR' (fun M1 g1 h1 => ?_)
    rw [hr'] at hQ'
    have h0 := hQ' M1 g1 h1
    simp +decide only [qX3_checkName, am_w1_i, am_w1_r, am_w1_x, am_w1_l, am_w1_w, va_rf_s, am_push_n, am_push_s, am_cs_0, am_cs_i, am_cs_l, am_cs_r, m_uI_K, m_uI_N, m_uI_R, m_uI_L, m_uI_I, m_uL_K, m_uL_N, m_uL_R, m_uL_I, m_uL_L, m_uR_K, m_uR_N, m_uR_I, m_uR_L, m_uR_R, true_and, and_true, true_implies, false_implies, not_true_eq_false, not_false_eq_true, if_true, if_false, false_and, and_false]
    exact h0
  cases r with
  | inl e =>
    have h4 : mI M 165 4 = 0 := hR.2.2.2.2.2.1
    simp +decide only [qX3_checkName, lx hL, h4, am_w1_i, am_w1_r, am_w1_x, am_w1_l, am_w1_w, va_rf_s, am_push_n, am_push_s, am_cs_0, am_cs_i, am_cs_l, am_cs_r, m_uI_K, m_uI_N, m_uI_R, m_uI_L, m_uI_I, m_uL_K, m_uL_N, m_uL_R, m_uL_I, m_uL_L, m_uR_K, m_uR_N, m_uR_I, m_uR_L, m_uR_R, true_and, and_true, true_implies, false_implies, not_true_eq_false, not_false_eq_true, if_true, if_false, false_and, and_false]
    exact bad (.inl e) rfl hR hQ
  | inr t =>
    obtain ⟨hT, hO, h8, h3, h4, h7, h6, h5, hG, -⟩ := id hR
    have hle := hG.2.2.1
    have en : nameR (.inr t) = if isNm t = true then (.inr t, true) else (.inl (1, tS t), false) := rfl
    simp +decide only [qX3_checkName, lx hL, h4, h6, am_w1_i, am_w1_r, am_w1_x, am_w1_l, am_w1_w, va_rf_s, am_push_n, am_push_s, am_cs_0, am_cs_i, am_cs_l, am_cs_r, m_uI_K, m_uI_N, m_uI_R, m_uI_L, m_uI_I, m_uL_K, m_uL_N, m_uL_R, m_uL_I, m_uL_L, m_uR_K, m_uR_N, m_uR_I, m_uR_L, m_uR_R, true_and, and_true, true_implies, false_implies, not_true_eq_false, not_false_eq_true, if_true, if_false, false_and, and_false]
    by_cases c1 : t.1 = 1
    · rw [br_r (by rw [c1]; rfl), if_pos c1]
      by_cases c : t.2.2.1 ∈ ownW
      · have hn : isNm t = false := by unfold isNm; rw [decide_eq_true c]; simp
        rw [hn, if_neg (by decide)] at en
        rw [br_n (fun q => own_no.mp q c)]
        exact bad (.inr t) en hR hQ
      · have hn : isNm t = true := by unfold isNm; rw [decide_eq_false c, c1]; rfl
        rw [hn, if_pos rfl] at en
        rw [en] at hQ
        rw [br_p (own_no.mpr c)]
        exact hQ M (gF_refl _ _ _) hR
    · have hn : isNm t = false := by unfold isNm; rw [Bool.and_eq_false_iff]; exact Or.inl (by simpa using c1)
      rw [hn, if_neg (by decide)] at en
      have n1 : ¬ nI t.1 = 1 := fun q => c1 ((ni_eq (b := 1) (by omega) (by omega)).mp q)
      rw [br_q n1]
      exact bad (.inr t) en hR hQ
end
section
/-! the class's parser: formulas, after a fault -/
def FmX (M : am_M) (z c : Nat) : Prop := mI M (z + 6) 1 = nI c ∧ c ≤ 1800
def CdX (M : am_M) (z a c : Nat) (vs : List Den) : Prop := a ≤ c ∧ wfD 64 (insX M z) a (c - a) ∧ cdD (insX M z) a (c - a) = vs
def sPz (z c a j : Nat) : Prop := a = 165 ∨ (a = z + 7 ∧ c ≤ j) ∨ (a = z + 6 ∧ j = 1)
def sFz (z a j : Nat) : Prop := a = 165 ∨ a = z + 7 ∨ (a = z + 6 ∧ j = 1)
theorem CdX_g {M M' : am_M} {z a c : Nat} {vs : List Den} {S T' : Nat → Nat → Prop} (h : CdX M z a c vs) (hg : gF S T' M M') (hS : ∀ j, j < c → ¬ S (z + 7) j) : CdX M' z a c vs := by
  obtain ⟨h1, h2, h3⟩ := h
  have e : ∀ j, j < c - a → insX M z (a + j) = insX M' z (a + j) := fun j hj => by unfold insX; rw [hg.1 _ _ (hS _ (by omega))]
  exact ⟨h1, wfD_ext e h2, by rw [← cdD_ext e]; exact h3⟩
theorem FmX_g {M M' : am_M} {z c : Nat} {S T' : Nat → Nat → Prop} (h : FmX M z c) (hg : gF S T' M M') (hS : ¬ S (z + 6) 1) : FmX M' z c := ⟨by rw [hg.1 _ _ hS]; exact h.1, h.2⟩
theorem c_x_emit (d z c : Nat) (x : Int32) (M : am_M) (Q : Option Value → am_M → Prop) (hL : Lay M) (hz : z = 2 ∨ z = 83) (hF : FmX M z c) (hc : c < 1800) : am_E am_P0 d 1 [.ref (z + 6), .int x] M Q ↔ Q none (uI (uI M (z + 7) c x) (z + 6) 1 (nI (c + 1))) := by
  have hlt : ¬ (1800 : Int32) ≤ nI c := by rw [show (1800 : Int32) = nI 1800 from rfl, ni_le (by omega) (by omega)]; omega
  rw [eX0_emit]
  simp +decide (disch := omega) only [qX0_emit, lz hL hz, hF.1, Nat.add_left_cancel_iff, ni_in_t, ni_tn, ni_add1, am_w1_i, am_w1_r, am_w1_x, am_w1_l, am_w1_w, va_rf_s, am_push_n, am_push_s, am_cs_0, am_cs_i, am_cs_l, am_cs_r, m_uI_K, m_uI_N, m_uI_R, m_uI_L, m_uI_I, m_uL_K, m_uL_N, m_uL_R, m_uL_I, m_uL_L, m_uR_K, m_uR_N, m_uR_I, m_uR_L, m_uR_R, true_and, and_true, true_implies, false_implies, not_true_eq_false, not_false_eq_true, if_true, if_false, false_and, and_false]
  rw [br_n hlt]
theorem c_x_emitF (d z c : Nat) (x : Int32) (M : am_M) (Q : Option Value → am_M → Prop) (hL : Lay M) (hz : z = 2 ∨ z = 83) (hF : FmX M z c)
    (hQ : ∀ M' c', gF (fun a j => (a = z + 7 ∧ c ≤ j) ∨ (a = z + 6 ∧ j = 1)) nT M M' → FmX M' z c' → Q none M') : am_E am_P0 d 1 [.ref (z + 6), .int x] M Q := by
  by_cases hc : c < 1800
  · rw [c_x_emit d z c x M Q hL hz hF hc]
    exact hQ _ (c + 1) (gF_trans (gF_i _ (Or.inl ⟨rfl, Nat.le_refl _⟩)) (gF_i _ (Or.inr ⟨rfl, rfl⟩))) ⟨by rw [m_uI_I, if_pos ⟨rfl, rfl⟩], by omega⟩
  · have e : c = 1800 := by have := hF.2; omega
    have h1 := hF.1
    rw [e] at h1
    have h0 := hQ M c (gF_refl _ _ _) hF
    rw [eX0_emit]
    simp +decide only [qX0_emit, lz hL hz, h1, show nI 1800 = (1800 : Int32) from rfl, am_w1_i, am_w1_r, am_w1_x, am_w1_l, am_w1_w, va_rf_s, am_push_n, am_push_s, am_cs_0, am_cs_i, am_cs_l, am_cs_r, m_uI_K, m_uI_N, m_uI_R, m_uI_L, m_uI_I, m_uL_K, m_uL_N, m_uL_R, m_uL_I, m_uL_L, m_uR_K, m_uR_N, m_uR_I, m_uR_L, m_uR_R, true_and, and_true, true_implies, false_implies, not_true_eq_false, not_false_eq_true, if_true, if_false, false_and, and_false]
    exact h0
theorem CdX_e {M : am_M} {z a c : Nat} {vs : List Den} (x : Int32) (h : CdX M z a c vs) (ho : opOK 64 (inX x) vs) : CdX (uI (uI M (z + 7) c x) (z + 6) 1 (nI (c + 1))) z a (c + 1) (stD (inX x) vs) := by
  have g : gF (fun a j => (a = z + 7 ∧ c ≤ j) ∨ (a = z + 6 ∧ j = 1)) nT M (uI (uI M (z + 7) c x) (z + 6) 1 (nI (c + 1))) := gF_trans (gF_i _ (Or.inl ⟨rfl, Nat.le_refl _⟩)) (gF_i _ (Or.inr ⟨rfl, rfl⟩))
  obtain ⟨h1, h2, h3⟩ := CdX_g h g (fun j hj q => by omega)
  have ei : insX (uI (uI M (z + 7) c x) (z + 6) 1 (nI (c + 1))) z c = inX x := by unfold insX; rw [m_uI_I, if_neg (by omega), m_uI_I, if_pos ⟨rfl, rfl⟩]
  have ec : a + (c - a) = c := by omega
  refine ⟨by omega, ?_, ?_⟩
  · rw [show c + 1 - a = (c - a) + 1 by omega]
    exact wfD_succ h2 (by rw [ec, ei, h3]; exact ho)
  · rw [show c + 1 - a = (c - a) + 1 by omega]
    show stD (insX _ z (a + (c - a))) (cdD _ a (c - a)) = _
    rw [ec, ei, h3]
/-- after a fault -/
def FaX (M : am_M) (z : Nat) (T : Nat → Nat) (n : Nat) (e : Nat × Nat) : Prop := FtX M T n e.1 e.2 ∧ mR M 164 1 = some z ∧ ∃ c, FmX M z c
section
variable {T : Nat → Nat} {n z : Nat}
theorem FaX_r {M M' : am_M} {e e' : Nat × Nat} (hF : FaX M z T n e) (hz : z = 2 ∨ z = 83) (h1 : FtX M' T n e'.1 e'.2) (hg : gF sRd nT M M') : FaX M' z T n e' := by
  obtain ⟨c, hc⟩ := hF.2.2
  exact ⟨h1, by rw [hg.2.2.1 _ _ (fun q => q)]; exact hF.2.1, c, FmX_g hc hg (fun q => by unfold sRd at q; omega)⟩
theorem sRd_F {M M' : am_M} (h : gF sRd nT M M') : gF (sFz z) nT M M' := gF_up h (fun a j q => Or.inl q) (fun _ _ q => q)
theorem f_emit (d : Nat) (e : Nat × Nat) (x : Int32) (M : am_M) (Q : Option Value → am_M → Prop) (hL : Lay M) (hz : z = 2 ∨ z = 83) (hF : FaX M z T n e) (hQ : ∀ M', gF (sFz z) nT M M' → FaX M' z T n e → Q none M') : am_E am_P0 d 1 [.ref (z + 6), .int x] M Q := by
  obtain ⟨h1, h2, c, hc⟩ := hF
  refine c_x_emitF d z c x M Q hL hz hc (fun M1 c1 g1 f1 => hQ M1 (gF_up g1 (fun a j q => by unfold sFz; omega) (fun _ _ q => q)) ⟨FtX_g h1 g1 (fun a j q z => by omega) (fun q => q), by rw [g1.2.2.1 _ _ (fun q => q)]; exact h2, c1, f1⟩)
theorem f_part (d : Nat) (o : Int32) (e : Nat × Nat) (M : am_M) (Q : Option Value → am_M → Prop) (hL : Lay M) (hz : z = 2 ∨ z = 83) (hF : FaX M z T n e) (hQ : ∀ M', gF (sFz z) nT M M' → FaX M' z T n e → Q none M') : am_E am_P0 (d + 2) 29 [.ref 164, .int o] M Q := by
  have h4 : mI M 165 4 = 0 := hF.1.2.2.2.2.2.1
  have h6 : mI M 165 6 = -1 := hF.1.2.2.2.2.2.2
  have hst : StR M T n (.inl e) := hF.1
  have hs := fun Q => c_x_isSign (d + 1) n 40 T (.inl e) M Q hL (by omega) hst
  rw [show nI 40 = (40 : Int32) from rfl] at hs
  have el : am_lk [(1, 154), (16, 145), (23, 128), (24, 136), (25, 163), (26, 173)] 183 (-1) = 183 := by decide
  rw [eX2_readPart]
  simp +decide only [qX2_readPart_0, qX2_readPart_1, lx hL, h4, h6, hs, isSr, b01, el, am_w1_i, am_w1_r, am_w1_x, am_w1_l, am_w1_w, va_rf_s, am_push_n, am_push_s, am_cs_0, am_cs_i, am_cs_l, am_cs_r, m_uI_K, m_uI_N, m_uI_R, m_uI_L, m_uI_I, m_uL_K, m_uL_N, m_uL_R, m_uL_I, m_uL_L, m_uR_K, m_uR_N, m_uR_I, m_uR_L, m_uR_R, true_and, and_true, true_implies, false_implies, not_true_eq_false, not_false_eq_true, if_true, if_false, false_and, and_false]
  rw [show (1 : Int32) = nI 1 from rfl]
  refine c_x_refuse d n 1 T (.inl e) M _ hL (by omega) hst (fun M1 g1 h1 => ?_)
  have h0 := hQ M1 (sRd_F g1) (FaX_r hF hz h1 g1)
  simp +decide only [qX2_readPart_0, qX2_readPart_1, am_w1_i, am_w1_r, am_w1_x, am_w1_l, am_w1_w, va_rf_s, am_push_n, am_push_s, am_cs_0, am_cs_i, am_cs_l, am_cs_r, m_uI_K, m_uI_N, m_uI_R, m_uI_L, m_uI_I, m_uL_K, m_uL_N, m_uL_R, m_uL_I, m_uL_L, m_uR_K, m_uR_N, m_uR_I, m_uR_L, m_uR_R, true_and, and_true, true_implies, false_implies, not_true_eq_false, not_false_eq_true, if_true, if_false, false_and, and_false]
  exact h0
theorem f_times (d : Nat) (e : Nat × Nat) (M : am_M) (Q : Option Value → am_M → Prop) (hL : Lay M) (hF : FaX M z T n e) : am_E am_P0 (d + 1) 28 [.ref 164] M Q ↔ Q (some (.int 0)) M := by
  have hst : StR M T n (.inl e) := hF.1
  have s1 := fun Q => c_x_isSign d n 42 T (.inl e) M Q hL (by omega) hst
  have s2 := fun Q => c_x_isSign d n 47 T (.inl e) M Q hL (by omega) hst
  have s3 := fun Q => c_x_isSign d n 37 T (.inl e) M Q hL (by omega) hst
  rw [show nI 42 = (42 : Int32) from rfl] at s1
  rw [show nI 47 = (47 : Int32) from rfl] at s2
  rw [show nI 37 = (37 : Int32) from rfl] at s3
  rw [eX2_timesSign]
  simp +decide only [qX2_timesSign, lx hL, s1, s2, s3, isSr, b01, am_w1_i, am_w1_r, am_w1_x, am_w1_l, am_w1_w, va_rf_s, am_push_n, am_push_s, am_cs_0, am_cs_i, am_cs_l, am_cs_r, m_uI_K, m_uI_N, m_uI_R, m_uI_L, m_uI_I, m_uL_K, m_uL_N, m_uL_R, m_uL_I, m_uL_L, m_uR_K, m_uR_N, m_uR_I, m_uR_L, m_uR_R, true_and, and_true, true_implies, false_implies, not_true_eq_false, not_false_eq_true, if_true, if_false, false_and, and_false]
theorem f_prod (d : Nat) (o : Int32) (e : Nat × Nat) (M : am_M) (Q : Option Value → am_M → Prop) (hL : Lay M) (hz : z = 2 ∨ z = 83) (hF : FaX M z T n e) (hQ : ∀ M', gF (sFz z) nT M M' → FaX M' z T n e → Q none M') : am_E am_P0 (d + 3) 27 [.ref 164, .int o] M Q := by
  rw [eX2_readProduct]
  simp +decide only [qX2_readProduct, lx hL, am_w1_i, am_w1_r, am_w1_x, am_w1_l, am_w1_w, va_rf_s, am_push_n, am_push_s, am_cs_0, am_cs_i, am_cs_l, am_cs_r, m_uI_K, m_uI_N, m_uI_R, m_uI_L, m_uI_I, m_uL_K, m_uL_N, m_uL_R, m_uL_I, m_uL_L, m_uR_K, m_uR_N, m_uR_I, m_uR_L, m_uR_R, true_and, and_true, true_implies, false_implies, not_true_eq_false, not_false_eq_true, if_true, if_false, false_and, and_false]
  refine f_part d o e M _ hL hz hF (fun M1 g1 h1 => ?_)
  have h0 := hQ M1 g1 h1
  simp +decide only [qX2_readProduct, am_w1_i, am_w1_r, am_w1_x, am_w1_l, am_w1_w, va_rf_s, am_push_n, am_push_s, am_cs_0, am_cs_i, am_cs_l, am_cs_r, m_uI_K, m_uI_N, m_uI_R, m_uI_L, m_uI_I, m_uL_K, m_uL_N, m_uL_R, m_uL_I, m_uL_L, m_uR_K, m_uR_N, m_uR_I, m_uR_L, m_uR_R, true_and, and_true, true_implies, false_implies, not_true_eq_false, not_false_eq_true, if_true, if_false, false_and, and_false]
  rw [hX2_readProduct_7]
  simp +decide only [qX2_readProduct, lx (gF_LayN g1 hL), f_times (d + 1) e M1 _ (gF_LayN g1 hL) h1, am_w1_i, am_w1_r, am_w1_x, am_w1_l, am_w1_w, va_rf_s, am_push_n, am_push_s, am_cs_0, am_cs_i, am_cs_l, am_cs_r, m_uI_K, m_uI_N, m_uI_R, m_uI_L, m_uI_I, m_uL_K, m_uL_N, m_uL_R, m_uL_I, m_uL_L, m_uR_K, m_uR_N, m_uR_I, m_uR_L, m_uR_R, true_and, and_true, true_implies, false_implies, not_true_eq_false, not_false_eq_true, if_true, if_false, false_and, and_false]
  exact h0
theorem f_sum (d : Nat) (o : Int32) (e : Nat × Nat) (M : am_M) (Q : Option Value → am_M → Prop) (hL : Lay M) (hz : z = 2 ∨ z = 83) (hF : FaX M z T n e) (hQ : ∀ M', gF (sFz z) nT M M' → FaX M' z T n e → Q none M') : am_E am_P0 (d + 4) 26 [.ref 164, .int o] M Q := by
  rw [eX2_readSum]
  simp +decide only [qX2_readSum, lx hL, am_w1_i, am_w1_r, am_w1_x, am_w1_l, am_w1_w, va_rf_s, am_push_n, am_push_s, am_cs_0, am_cs_i, am_cs_l, am_cs_r, m_uI_K, m_uI_N, m_uI_R, m_uI_L, m_uI_I, m_uL_K, m_uL_N, m_uL_R, m_uL_I, m_uL_L, m_uR_K, m_uR_N, m_uR_I, m_uR_L, m_uR_R, true_and, and_true, true_implies, false_implies, not_true_eq_false, not_false_eq_true, if_true, if_false, false_and, and_false]
  refine f_prod d o e M _ hL hz hF (fun M1 g1 h1 => ?_)
  have h0 := hQ M1 g1 h1
  have L1 := gF_LayN g1 hL
  have hst : StR M1 T n (.inl e) := h1.1
  have s1 := fun Q => c_x_isSign (d + 3) n 43 T (.inl e) M1 Q L1 (by omega) hst
  have s2 := fun Q => c_x_isSign (d + 3) n 45 T (.inl e) M1 Q L1 (by omega) hst
  rw [show nI 43 = (43 : Int32) from rfl] at s1
  rw [show nI 45 = (45 : Int32) from rfl] at s2
  simp +decide only [qX2_readSum, am_w1_i, am_w1_r, am_w1_x, am_w1_l, am_w1_w, va_rf_s, am_push_n, am_push_s, am_cs_0, am_cs_i, am_cs_l, am_cs_r, m_uI_K, m_uI_N, m_uI_R, m_uI_L, m_uI_I, m_uL_K, m_uL_N, m_uL_R, m_uL_I, m_uL_L, m_uR_K, m_uR_N, m_uR_I, m_uR_L, m_uR_R, true_and, and_true, true_implies, false_implies, not_true_eq_false, not_false_eq_true, if_true, if_false, false_and, and_false]
  rw [hX2_readSum_7]
  simp +decide only [qX2_readSum, lx L1, s1, s2, isSr, b01, am_w1_i, am_w1_r, am_w1_x, am_w1_l, am_w1_w, va_rf_s, am_push_n, am_push_s, am_cs_0, am_cs_i, am_cs_l, am_cs_r, m_uI_K, m_uI_N, m_uI_R, m_uI_L, m_uI_I, m_uL_K, m_uL_N, m_uL_R, m_uL_I, m_uL_L, m_uR_K, m_uR_N, m_uR_I, m_uR_L, m_uR_R, true_and, and_true, true_implies, false_implies, not_true_eq_false, not_false_eq_true, if_true, if_false, false_and, and_false]
  exact h0
theorem f_cmp (d : Nat) (e : Nat × Nat) (M : am_M) (Q : Option Value → am_M → Prop) (hL : Lay M) (hz : z = 2 ∨ z = 83) (hF : FaX M z T n e) (hQ : ∀ M', gF (sFz z) nT M M' → FaX M' z T n e → Q (some (.int (-15))) M') : am_E am_P0 (d + 3) 25 [.ref 164] M Q := by
  have hst : StR M T n (.inl e) := hF.1
  have s1 := fun Q => c_x_isSign (d + 2) n 60 T (.inl e) M Q hL (by omega) hst
  have s2 := fun Q => c_x_isSign (d + 2) n 62 T (.inl e) M Q hL (by omega) hst
  rw [show nI 60 = (60 : Int32) from rfl] at s1
  rw [show nI 62 = (62 : Int32) from rfl] at s2
  rw [eX2_takeComparison]
  simp +decide only [qX2_takeComparison, lx hL, s1, s2, isSr, b01, am_w1_i, am_w1_r, am_w1_x, am_w1_l, am_w1_w, va_rf_s, am_push_n, am_push_s, am_cs_0, am_cs_i, am_cs_l, am_cs_r, m_uI_K, m_uI_N, m_uI_R, m_uI_L, m_uI_I, m_uL_K, m_uL_N, m_uL_R, m_uL_I, m_uL_L, m_uR_K, m_uR_N, m_uR_I, m_uR_L, m_uR_R, true_and, and_true, true_implies, false_implies, not_true_eq_false, not_false_eq_true, if_true, if_false, false_and, and_false]
  rw [show (61 : Int32) = nI 61 from rfl]
  refine c_x_takeSign d n 61 T (.inl e) M _ hL (by omega) hst (fun M1 g1 h1 => ?_)
  have h0 := hQ M1 (sRd_F g1) (FaX_r hF hz h1 g1)
  simp +decide only [qX2_takeComparison, am_w1_i, am_w1_r, am_w1_x, am_w1_l, am_w1_w, va_rf_s, am_push_n, am_push_s, am_cs_0, am_cs_i, am_cs_l, am_cs_r, m_uI_K, m_uI_N, m_uI_R, m_uI_L, m_uI_I, m_uL_K, m_uL_N, m_uL_R, m_uL_I, m_uL_L, m_uR_K, m_uR_N, m_uR_I, m_uR_L, m_uR_R, true_and, and_true, true_implies, false_implies, not_true_eq_false, not_false_eq_true, if_true, if_false, false_and, and_false]
  exact h0
theorem f_fact (d : Nat) (o : Int32) (e : Nat × Nat) (M : am_M) (Q : Option Value → am_M → Prop) (b : Bool) (x3 : Int32) (hL : Lay M) (hz : z = 2 ∨ z = 83) (hF : FaX M z T n e) (hQ : ∀ M', gF (sFz z) nT M M' → FaX M' z T n e → Q none M') : am_P am_P0 (d + 5) (am_look tX2_readFact) 4 [.ref 164, .int o, .int (b01 b), .int x3] [] M Q := by
  have h6 : mI M 165 6 = -1 := hF.1.2.2.2.2.2.2
  have hst : StR M T n (.inl e) := hF.1
  have hs := fun Q => c_x_isSign (d + 4) n 91 T (.inl e) M Q hL (by omega) hst
  rw [show nI 91 = (91 : Int32) from rfl] at hs
  have main : am_E am_P0 (d + 4) 26 [.ref 164, .int o] M (fun r M2 => am_P am_P0 (d + 5) (am_look tX2_readFact) 125 [.ref 164, .int o, .int (b01 b), .int x3] (am_push r []) M2 Q) := by
    refine f_sum d o e M _ hL hz hF (fun M1 g1 h1 => ?_)
    have L1 := gF_LayN g1 hL
    simp +decide only [qX2_readFact_0, qX2_readFact_1, lx L1, am_w1_i, am_w1_r, am_w1_x, am_w1_l, am_w1_w, va_rf_s, am_push_n, am_push_s, am_cs_0, am_cs_i, am_cs_l, am_cs_r, m_uI_K, m_uI_N, m_uI_R, m_uI_L, m_uI_I, m_uL_K, m_uL_N, m_uL_R, m_uL_I, m_uL_L, m_uR_K, m_uR_N, m_uR_I, m_uR_L, m_uR_R, true_and, and_true, true_implies, false_implies, not_true_eq_false, not_false_eq_true, if_true, if_false, false_and, and_false]
    refine f_cmp (d + 1) e M1 _ L1 hz h1 (fun M2 g2 h2 => ?_)
    have L2 := gF_LayN g2 L1
    simp +decide only [qX2_readFact_0, qX2_readFact_1, lx L2, am_w1_i, am_w1_r, am_w1_x, am_w1_l, am_w1_w, va_rf_s, am_push_n, am_push_s, am_cs_0, am_cs_i, am_cs_l, am_cs_r, m_uI_K, m_uI_N, m_uI_R, m_uI_L, m_uI_I, m_uL_K, m_uL_N, m_uL_R, m_uL_I, m_uL_L, m_uR_K, m_uR_N, m_uR_I, m_uR_L, m_uR_R, true_and, and_true, true_implies, false_implies, not_true_eq_false, not_false_eq_true, if_true, if_false, false_and, and_false]
    refine f_sum d o e M2 _ L2 hz h2 (fun M3 g3 h3 => ?_)
    have L3 := gF_LayN g3 L2
    simp +decide only [qX2_readFact_0, qX2_readFact_1, lx L3, lz L3 hz, h3.2.1, am_w1_i, am_w1_r, am_w1_x, am_w1_l, am_w1_w, va_rf_s, am_push_n, am_push_s, am_cs_0, am_cs_i, am_cs_l, am_cs_r, m_uI_K, m_uI_N, m_uI_R, m_uI_L, m_uI_I, m_uL_K, m_uL_N, m_uL_R, m_uL_I, m_uL_L, m_uR_K, m_uR_N, m_uR_I, m_uR_L, m_uR_R, true_and, and_true, true_implies, false_implies, not_true_eq_false, not_false_eq_true, if_true, if_false, false_and, and_false]
    refine f_emit (d + 4) e (-15) M3 _ L3 hz h3 (fun M4 g4 h4 => ?_)
    have L4 := gF_LayN g4 L3
    have G := gF_trans g1 (gF_trans g2 (gF_trans g3 g4))
    cases b with
    | false =>
      simp +decide only [qX2_readFact_0, qX2_readFact_1, b01, am_w1_i, am_w1_r, am_w1_x, am_w1_l, am_w1_w, va_rf_s, am_push_n, am_push_s, am_cs_0, am_cs_i, am_cs_l, am_cs_r, m_uI_K, m_uI_N, m_uI_R, m_uI_L, m_uI_I, m_uL_K, m_uL_N, m_uL_R, m_uL_I, m_uL_L, m_uR_K, m_uR_N, m_uR_I, m_uR_L, m_uR_R, true_and, and_true, true_implies, false_implies, not_true_eq_false, not_false_eq_true, if_true, if_false, false_and, and_false]
      exact hQ M4 G h4
    | true =>
      simp +decide only [qX2_readFact_0, qX2_readFact_1, lx L4, lz L4 hz, h4.2.1, b01, am_w1_i, am_w1_r, am_w1_x, am_w1_l, am_w1_w, va_rf_s, am_push_n, am_push_s, am_cs_0, am_cs_i, am_cs_l, am_cs_r, m_uI_K, m_uI_N, m_uI_R, m_uI_L, m_uI_I, m_uL_K, m_uL_N, m_uL_R, m_uL_I, m_uL_L, m_uR_K, m_uR_N, m_uR_I, m_uR_L, m_uR_R, true_and, and_true, true_implies, false_implies, not_true_eq_false, not_false_eq_true, if_true, if_false, false_and, and_false]
      refine f_emit (d + 4) e (-5) M4 _ L4 hz h4 (fun M5 g5 h5 => ?_)
      simp +decide only [qX2_readFact_0, qX2_readFact_1, am_w1_i, am_w1_r, am_w1_x, am_w1_l, am_w1_w, va_rf_s, am_push_n, am_push_s, am_cs_0, am_cs_i, am_cs_l, am_cs_r, m_uI_K, m_uI_N, m_uI_R, m_uI_L, m_uI_I, m_uL_K, m_uL_N, m_uL_R, m_uL_I, m_uL_L, m_uR_K, m_uR_N, m_uR_I, m_uR_L, m_uR_R, true_and, and_true, true_implies, false_implies, not_true_eq_false, not_false_eq_true, if_true, if_false, false_and, and_false]
      exact hQ M5 (gF_trans G g5) h5
  rw [hX2_readFact_4]
  simp +decide only [qX2_readFact_0, qX2_readFact_1, lx hL, h6, hs, isSr, b01, am_w1_i, am_w1_r, am_w1_x, am_w1_l, am_w1_w, va_rf_s, am_push_n, am_push_s, am_cs_0, am_cs_i, am_cs_l, am_cs_r, m_uI_K, m_uI_N, m_uI_R, m_uI_L, m_uI_I, m_uL_K, m_uL_N, m_uL_R, m_uL_I, m_uL_L, m_uR_K, m_uR_N, m_uR_I, m_uR_L, m_uR_R, true_and, and_true, true_implies, false_implies, not_true_eq_false, not_false_eq_true, if_true, if_false, false_and, and_false] at main ⊢
  by_cases c : (1800 : Int32) ≤ x3
  · rw [br_p c]
    exact main
  · rw [br_n c]
    exact main
theorem f_factE (d : Nat) (o : Int32) (e : Nat × Nat) (M : am_M) (Q : Option Value → am_M → Prop) (hL : Lay M) (hz : z = 2 ∨ z = 83) (hF : FaX M z T n e) (hQ : ∀ M', gF (sFz z) nT M M' → FaX M' z T n e → Q none M') : am_E am_P0 (d + 5) 24 [.ref 164, .int o] M Q := by
  rw [eX2_readFact]
  simp +decide only [qX2_readFact_0, qX2_readFact_1, am_w1_i, am_w1_r, am_w1_x, am_w1_l, am_w1_w, va_rf_s, am_push_n, am_push_s, am_cs_0, am_cs_i, am_cs_l, am_cs_r, m_uI_K, m_uI_N, m_uI_R, m_uI_L, m_uI_I, m_uL_K, m_uL_N, m_uL_R, m_uL_I, m_uL_L, m_uR_K, m_uR_N, m_uR_I, m_uR_L, m_uR_R, true_and, and_true, true_implies, false_implies, not_true_eq_false, not_false_eq_true, if_true, if_false, false_and, and_false]
  exact f_fact d o e M Q false 0 hL hz hF hQ
theorem f_both (d : Nat) (o : Int32) (e : Nat × Nat) (M : am_M) (Q : Option Value → am_M → Prop) (hL : Lay M) (hz : z = 2 ∨ z = 83) (hF : FaX M z T n e) (hQ : ∀ M', gF (sFz z) nT M M' → FaX M' z T n e → Q none M') : am_E am_P0 (d + 6) 23 [.ref 164, .int o] M Q := by
  rw [eX2_readBoth]
  simp +decide only [qX2_readBoth, lx hL, am_w1_i, am_w1_r, am_w1_x, am_w1_l, am_w1_w, va_rf_s, am_push_n, am_push_s, am_cs_0, am_cs_i, am_cs_l, am_cs_r, m_uI_K, m_uI_N, m_uI_R, m_uI_L, m_uI_I, m_uL_K, m_uL_N, m_uL_R, m_uL_I, m_uL_L, m_uR_K, m_uR_N, m_uR_I, m_uR_L, m_uR_R, true_and, and_true, true_implies, false_implies, not_true_eq_false, not_false_eq_true, if_true, if_false, false_and, and_false]
  refine f_factE d o e M _ hL hz hF (fun M1 g1 h1 => ?_)
  have h0 := hQ M1 g1 h1
  have h6 : mI M1 165 6 = -1 := h1.1.2.2.2.2.2.2
  simp +decide only [qX2_readBoth, am_w1_i, am_w1_r, am_w1_x, am_w1_l, am_w1_w, va_rf_s, am_push_n, am_push_s, am_cs_0, am_cs_i, am_cs_l, am_cs_r, m_uI_K, m_uI_N, m_uI_R, m_uI_L, m_uI_I, m_uL_K, m_uL_N, m_uL_R, m_uL_I, m_uL_L, m_uR_K, m_uR_N, m_uR_I, m_uR_L, m_uR_R, true_and, and_true, true_implies, false_implies, not_true_eq_false, not_false_eq_true, if_true, if_false, false_and, and_false]
  rw [hX2_readBoth_7]
  simp +decide only [qX2_readBoth, lx (gF_LayN g1 hL), h6, am_w1_i, am_w1_r, am_w1_x, am_w1_l, am_w1_w, va_rf_s, am_push_n, am_push_s, am_cs_0, am_cs_i, am_cs_l, am_cs_r, m_uI_K, m_uI_N, m_uI_R, m_uI_L, m_uI_I, m_uL_K, m_uL_N, m_uL_R, m_uL_I, m_uL_L, m_uR_K, m_uR_N, m_uR_I, m_uR_L, m_uR_R, true_and, and_true, true_implies, false_implies, not_true_eq_false, not_false_eq_true, if_true, if_false, false_and, and_false]
  exact h0
theorem f_test (d : Nat) (o : Int32) (e : Nat × Nat) (M : am_M) (Q : Option Value → am_M → Prop) (hL : Lay M) (hz : z = 2 ∨ z = 83) (hF : FaX M z T n e) (hQ : ∀ M', gF (sFz z) nT M M' → FaX M' z T n e → Q none M') : am_E am_P0 (d + 7) 22 [.ref 164, .int o] M Q := by
  rw [eX2_readTest]
  simp +decide only [qX2_readTest, lx hL, am_w1_i, am_w1_r, am_w1_x, am_w1_l, am_w1_w, va_rf_s, am_push_n, am_push_s, am_cs_0, am_cs_i, am_cs_l, am_cs_r, m_uI_K, m_uI_N, m_uI_R, m_uI_L, m_uI_I, m_uL_K, m_uL_N, m_uL_R, m_uL_I, m_uL_L, m_uR_K, m_uR_N, m_uR_I, m_uR_L, m_uR_R, true_and, and_true, true_implies, false_implies, not_true_eq_false, not_false_eq_true, if_true, if_false, false_and, and_false]
  refine f_both d o e M _ hL hz hF (fun M1 g1 h1 => ?_)
  have h0 := hQ M1 g1 h1
  have h6 : mI M1 165 6 = -1 := h1.1.2.2.2.2.2.2
  simp +decide only [qX2_readTest, am_w1_i, am_w1_r, am_w1_x, am_w1_l, am_w1_w, va_rf_s, am_push_n, am_push_s, am_cs_0, am_cs_i, am_cs_l, am_cs_r, m_uI_K, m_uI_N, m_uI_R, m_uI_L, m_uI_I, m_uL_K, m_uL_N, m_uL_R, m_uL_I, m_uL_L, m_uR_K, m_uR_N, m_uR_I, m_uR_L, m_uR_R, true_and, and_true, true_implies, false_implies, not_true_eq_false, not_false_eq_true, if_true, if_false, false_and, and_false]
  rw [hX2_readTest_7]
  simp +decide only [qX2_readTest, lx (gF_LayN g1 hL), h6, am_w1_i, am_w1_r, am_w1_x, am_w1_l, am_w1_w, va_rf_s, am_push_n, am_push_s, am_cs_0, am_cs_i, am_cs_l, am_cs_r, m_uI_K, m_uI_N, m_uI_R, m_uI_L, m_uI_I, m_uL_K, m_uL_N, m_uL_R, m_uL_I, m_uL_L, m_uR_K, m_uR_N, m_uR_I, m_uR_L, m_uR_R, true_and, and_true, true_implies, false_implies, not_true_eq_false, not_false_eq_true, if_true, if_false, false_and, and_false]
  exact h0
end
end
section
/-! the class's parser: sums -/
section
variable {T : Nat → Nat} {n z : Nat}
theorem f_sumL (d : Nat) (o x : Int32) (v3 : Value) (e : Nat × Nat) (M : am_M) (Q : Option Value → am_M → Prop) (hL : Lay M) (hF : FaX M z T n e) (h0 : Q none M) : am_P am_P0 (d + 1) (am_look tX2_readSum) 7 [.ref 164, .int o, .int x, v3] [] M Q := by
  have hst : StR M T n (.inl e) := hF.1
  have s1 := fun Q => c_x_isSign d n 43 T (.inl e) M Q hL (by omega) hst
  have s2 := fun Q => c_x_isSign d n 45 T (.inl e) M Q hL (by omega) hst
  rw [show nI 43 = (43 : Int32) from rfl] at s1
  rw [show nI 45 = (45 : Int32) from rfl] at s2
  rw [hX2_readSum_7]
  simp +decide only [qX2_readSum, lx hL, s1, s2, isSr, b01, am_w1_i, am_w1_r, am_w1_x, am_w1_l, am_w1_w, va_rf_s, am_push_n, am_push_s, am_cs_0, am_cs_i, am_cs_l, am_cs_r, m_uI_K, m_uI_N, m_uI_R, m_uI_L, m_uI_I, m_uL_K, m_uL_N, m_uL_R, m_uL_I, m_uL_L, m_uR_K, m_uR_N, m_uR_I, m_uR_L, m_uR_R, true_and, and_true, true_implies, false_implies, not_true_eq_false, not_false_eq_true, if_true, if_false, false_and, and_false]
  exact ⟨fun _ => h0, fun _ => h0⟩
theorem f_prodL (d : Nat) (o x : Int32) (v3 : Value) (e : Nat × Nat) (M : am_M) (Q : Option Value → am_M → Prop) (hL : Lay M) (hF : FaX M z T n e) (h0 : Q none M) : am_P am_P0 (d + 2) (am_look tX2_readProduct) 7 [.ref 164, .int o, .int x, v3] [] M Q := by
  rw [hX2_readProduct_7]
  simp +decide only [qX2_readProduct, lx hL, f_times d e M _ hL hF, am_w1_i, am_w1_r, am_w1_x, am_w1_l, am_w1_w, va_rf_s, am_push_n, am_push_s, am_cs_0, am_cs_i, am_cs_l, am_cs_r, m_uI_K, m_uI_N, m_uI_R, m_uI_L, m_uI_I, m_uL_K, m_uL_N, m_uL_R, m_uL_I, m_uL_L, m_uR_K, m_uR_N, m_uR_I, m_uR_L, m_uR_R, true_and, and_true, true_implies, false_implies, not_true_eq_false, not_false_eq_true, if_true, if_false, false_and, and_false]
  exact ⟨fun _ => h0, fun _ => h0⟩
theorem f_bothL (d : Nat) (o x : Int32) (e : Nat × Nat) (M : am_M) (Q : Option Value → am_M → Prop) (hL : Lay M) (hF : FaX M z T n e) (h0 : Q none M) : am_P am_P0 d (am_look tX2_readBoth) 7 [.ref 164, .int o, .int x] [] M Q := by
  have h6 : mI M 165 6 = -1 := hF.1.2.2.2.2.2.2
  rw [hX2_readBoth_7]
  simp +decide only [qX2_readBoth, lx hL, h6, am_w1_i, am_w1_r, am_w1_x, am_w1_l, am_w1_w, va_rf_s, am_push_n, am_push_s, am_cs_0, am_cs_i, am_cs_l, am_cs_r, m_uI_K, m_uI_N, m_uI_R, m_uI_L, m_uI_I, m_uL_K, m_uL_N, m_uL_R, m_uL_I, m_uL_L, m_uR_K, m_uR_N, m_uR_I, m_uR_L, m_uR_R, true_and, and_true, true_implies, false_implies, not_true_eq_false, not_false_eq_true, if_true, if_false, false_and, and_false]
  exact ⟨fun _ => h0, fun _ => h0⟩
theorem f_testL (d : Nat) (o x : Int32) (e : Nat × Nat) (M : am_M) (Q : Option Value → am_M → Prop) (hL : Lay M) (hF : FaX M z T n e) (h0 : Q none M) : am_P am_P0 d (am_look tX2_readTest) 7 [.ref 164, .int o, .int x] [] M Q := by
  have h6 : mI M 165 6 = -1 := hF.1.2.2.2.2.2.2
  rw [hX2_readTest_7]
  simp +decide only [qX2_readTest, lx hL, h6, am_w1_i, am_w1_r, am_w1_x, am_w1_l, am_w1_w, va_rf_s, am_push_n, am_push_s, am_cs_0, am_cs_i, am_cs_l, am_cs_r, m_uI_K, m_uI_N, m_uI_R, m_uI_L, m_uI_I, m_uL_K, m_uL_N, m_uL_R, m_uL_I, m_uL_L, m_uR_K, m_uR_N, m_uR_I, m_uR_L, m_uR_R, true_and, and_true, true_implies, false_implies, not_true_eq_false, not_false_eq_true, if_true, if_false, false_and, and_false]
  exact ⟨fun _ => h0, fun _ => h0⟩
end
section
variable (T : Nat → Nat) (n z : Nat)
/-- a good state -/
def GoX (M : am_M) (a c : Nat) (vs : List Den) (t : Tok) : Prop := Lay M ∧ mR M 164 1 = some z ∧ RdX M T n t ∧ FmX M z c ∧ CdX M z a c vs ∧ c ≤ tS t
/-- how it ends -/
def PoX (a c : Nat) (vs : List Den) (t : Tok) (M M' : am_M) : Sum (Nat × Nat) (Tok × Den) → Prop
  | .inl e => gF (sFz z) nT M M' ∧ FaX M' z T n e
  | .inr q => gF (sPz z c) nT M M' ∧ ∃ c', GoX T n z M' a c' (q.2 :: vs) q.1 ∧ c ≤ c' ∧ c' + tS t ≤ c + tS q.1
/-- what a reading method does, and a loop in it -/
def HP (g y hg dg f : Nat) : Prop := ∀ (D o : Nat) (t : Tok) (v0 : Den) (a c : Nat) (vs : List Den) (M : am_M) (Q : Option Value → am_M → Prop) (res : Sum (Nat × Nat) (Tok × Den)), o ≤ 8 → 12 * (9 - o) + dg ≤ D → GoX T n z M a c vs t → vs.length ≤ 3 * o + hg → ps T n f g o t v0 = some res → (∀ M', PoX T n z a c vs t M M' res → Q none M') → am_E am_P0 D y [.ref 164, .int (nI o)] M Q
end
section
variable {T : Nat → Nat} {n z : Nat}
theorem sPz_F {M M' : am_M} {c : Nat} (h : gF (sPz z c) nT M M') : gF (sFz z) nT M M' := gF_up h (fun a j q => by unfold sPz at q; unfold sFz; omega) (fun _ _ q => q)
theorem sPz_le {M M' : am_M} {c c' : Nat} (h : gF (sPz z c') nT M M') (hc : c ≤ c') : gF (sPz z c) nT M M' := gF_up h (fun a j q => by unfold sPz at q ⊢; omega) (fun _ _ q => q)
theorem sRd_P {M M' : am_M} {c : Nat} (h : gF sRd nT M M') : gF (sPz z c) nT M M' := gF_up h (fun a j q => Or.inl q) (fun _ _ q => q)
theorem bnd_some {r : Rs} {k : Tok → Den → Rs} {res : Sum (Nat × Nat) (Tok × Den)} (h : bnd r k = some res) : (∃ e, r = some (.inl e) ∧ res = .inl e) ∨ ∃ t v, r = some (.inr (t, v)) ∧ k t v = some res := by
  unfold bnd at h
  split at h
  · cases h
  · rename_i e
    cases h
    exact Or.inl ⟨e, rfl, rfl⟩
  · rename_i q
    exact Or.inr ⟨q.1, q.2, rfl, h⟩
theorem tkG_OK {t : Tok} (h : tkG T n t) : tkOK t := fun q => h.2.2.2.2.2.2.1 q
theorem tkG_0 {t : Tok} (h : tkG T n t) (h0 : ¬ t.1 = 0) : tS t < tE t ∧ tE t ≤ n ∧ tS t < tS (tk T n (tE t)) := by
  have h1 := h.2.2.2.2.2.2.2.2 h0
  have h2 := (tk_V T n (tE t) h.1).2.1
  exact ⟨h1, h.1, by omega⟩
theorem GoX_t {M : am_M} {a c : Nat} {vs : List Den} {t : Tok} (h : GoX T n z M a c vs t) : tkG T n t := h.2.2.1.2.2.2.2.2.2.2.2.1
theorem g_step (d : Nat) (t : Tok) (k : Tok → Rs) (res : Sum (Nat × Nat) (Tok × Den)) (a c : Nat) (vs : List Den) (M : am_M) (Q : Option Value → am_M → Prop) (hz : z = 2 ∨ z = 83) (hG : GoX T n z M a c vs t) (h0 : ¬ t.1 = 0) (hk : adv T n t k = some res)
    (hF : ∀ M' e, res = .inl e → gF sRd nT M M' → FaX M' z T n e → Q none M')
    (hN : ∀ M' t1, gF sRd nT M M' → GoX T n z M' a c vs t1 → tS t + 1 ≤ tS t1 → k t1 = some res → Q none M') : am_E am_P0 (d + 1) 35 [.ref 165] M Q := by
  obtain ⟨hL, hp, hR, hf, hc, hct⟩ := id hG
  have hg0 := tkG_0 (GoX_t hG) h0
  unfold adv at hk
  refine c_x_step d n T t M Q hL hR (fun h4 M1 g1 f1 => ?_) (fun h4 M1 g1 f1 => ?_)
  · rw [if_pos h4] at hk
    cases hk
    exact hF M1 _ rfl g1 ⟨f1, by rw [g1.2.2.1 _ _ (fun q => q)]; exact hp, c, FmX_g hf g1 (fun q => by unfold sRd at q; omega)⟩
  · rw [if_neg h4] at hk
    exact hN M1 _ g1 ⟨gF_LayN g1 hL, by rw [g1.2.2.1 _ _ (fun q => q)]; exact hp, f1, FmX_g hf g1 (fun q => by unfold sRd at q; omega), CdX_g hc g1 (fun j _ q => by unfold sRd at q; omega), by omega⟩ (by omega) hk
theorem g_emit (d : Nat) (x : Int32) (t : Tok) (a c : Nat) (vs : List Den) (M : am_M) (Q : Option Value → am_M → Prop) (hz : z = 2 ∨ z = 83) (hn : n ≤ 1800) (hG : GoX T n z M a c vs t) (hct : c + 1 ≤ tS t) (ho : opOK 64 (inX x) vs)
    (hN : ∀ M', gF (sPz z c) nT M M' → GoX T n z M' a (c + 1) (stD (inX x) vs) t → Q none M') : am_E am_P0 d 1 [.ref (z + 6), .int x] M Q := by
  obtain ⟨hL, hp, hR, hf, hc, -⟩ := id hG
  have hE := (GoX_t hG).1
  have hS := (GoX_t hG).2.1
  rw [c_x_emit d z c x M Q hL hz hf (by omega)]
  have g : gF (fun a j => (a = z + 7 ∧ c ≤ j) ∨ (a = z + 6 ∧ j = 1)) nT M (uI (uI M (z + 7) c x) (z + 6) 1 (nI (c + 1))) := gF_trans (gF_i _ (Or.inl ⟨rfl, Nat.le_refl _⟩)) (gF_i _ (Or.inr ⟨rfl, rfl⟩))
  exact hN _ (gF_up g (fun a j q => Or.inr q) (fun _ _ q => q)) ⟨hL, hp, RdX_g hR g (fun a j q w => by omega) (fun q => q), ⟨by rw [m_uI_I, if_pos ⟨rfl, rfl⟩], by omega⟩, CdX_e x hc ho, hct⟩
theorem op_bin {x : Int32} {op : Nat} {v w : Den} {r : List Den} (hx : inX x = (op, 0)) (h1 : 10 ≤ op) (h2 : op ≤ 19) (hv : bdS v) (hw : bdS w) : opOK 64 (inX x) (w :: v :: r) ∧ stD (inX x) (w :: v :: r) = jnD op v w :: r := by
  rw [hx]
  refine ⟨⟨fun q => by dsimp only at q; omega, fun q => by dsimp only at q; omega, fun _ _ => ⟨w, v, r, rfl, hv, hw⟩, fun q => by dsimp only at q; omega, by show op ≤ 22; omega⟩, ?_⟩
  unfold stD
  rw [if_neg (by show ¬ op < 10; omega)]
  exact app_2 (by omega) v w r
theorem op_log {x : Int32} {op : Nat} {v w : Den} {r : List Den} (hx : inX x = (op, 0)) (h1 : op = 20 ∨ op = 21) (hv : bdT v) (hw : bdT w) : opOK 64 (inX x) (w :: v :: r) ∧ stD (inX x) (w :: v :: r) = jnD op v w :: r := by
  rw [hx]
  refine ⟨⟨fun q => by dsimp only at q; omega, fun q => by dsimp only at q; omega, fun _ q => by dsimp only at q; omega, fun _ => ⟨w, v, r, rfl, hv, hw⟩, by show op ≤ 22; omega⟩, ?_⟩
  unfold stD
  rw [if_neg (by show ¬ op < 10; omega)]
  exact app_2 (by omega) v w r
theorem op_leaf {x : Int32} {u : Den} {vs : List Den} (h1 : (inX x).1 < 10) (h2 : ldD (inX x) = u) (hu : bdS u) (hl : vs.length < 64) : opOK 64 (inX x) vs ∧ stD (inX x) vs = u :: vs := by
  refine ⟨⟨fun _ => ⟨hl, by rw [h2]; exact hu⟩, fun q => by omega, fun q => by omega, fun q => by omega, by omega⟩, ?_⟩
  unfold stD
  rw [if_pos h1, h2]
theorem c_addOp (x : Int32) (d : Nat) (t : Tok) (M : am_M) (Q : Option Value → am_M → Prop) (hL : Lay M) (hR : RdX M T n t) : (am_E am_P0 d 40 [.ref 165, .int 43] M Q ↔ Q (some (.int (b01 (isS t 43)))) M) ∧ (am_E am_P0 d 40 [.ref 165, .int 45] M Q ↔ Q (some (.int (b01 (isS t 45)))) M) := by
  have hst : StR M T n (.inr t) := hR
  exact ⟨c_x_isSign d n 43 T (.inr t) M Q hL (by omega) hst, c_x_isSign d n 45 T (.inr t) M Q hL (by omega) hst⟩
/-- the rest of a sum -/
theorem g_sumL (hz : z = 2 ∨ z = 83) (hn : n ≤ 1800) (f : Nat) (h2 : ∀ f', f' < f → HP T n z 2 27 4 1 f') : ∀ (f1 : Nat), f1 ≤ f → ∀ (D o : Nat) (t : Tok) (v : Den) (a c : Nat) (vs : List Den) (M : am_M) (Q : Option Value → am_M → Prop) (res : Sum (Nat × Nat) (Tok × Den)) (turn : Nat) (v3 : Value), o ≤ 8 → 12 * (9 - o) + 2 ≤ D → GoX T n z M a c (v :: vs) t → vs.length ≤ 3 * o + 3 → bdS v → turn ≤ tS t → ps T n f1 1 o t v = some res → (∀ M', PoX T n z a c vs t M M' res → Q none M') → am_P am_P0 D (am_look tX2_readSum) 7 [.ref 164, .int (nI o), .int (nI turn), v3] [] M Q := by
  intro f1
  induction f1 with
  | zero => intro _ D o t v a c vs M Q res turn v3 _ _ _ _ _ _ h; cases h
  | succ f1 ih =>
    intro hf1 D o t v a c vs M Q res turn v3 ho hD hG hl hv htu hp hQ
    obtain ⟨d, rfl⟩ : ∃ d, D = d + 12 := ⟨D - 12, by omega⟩
    obtain ⟨hL, hpa, hR, hf, hc, hct⟩ := id hG
    have hsz := GoX_t hG
    rw [ps_1] at hp
    have hnt : tS t ≤ n := by have := hsz.1; have := hsz.2.1; omega
    have s1 := fun Q => (c_addOp (T := T) (n := n) 0 (d + 11) t M Q hL hR).1
    have s2 := fun Q => (c_addOp (T := T) (n := n) 0 (d + 11) t M Q hL hR).2
    by_cases ha : addOp t = 0
    · rw [if_pos ha] at hp
      cases hp
      have h0 := hQ M ⟨gF_refl _ _ _, c, hG, Nat.le_refl _, Nat.le_refl _⟩
      have e1 : isS t 43 = false := by
        unfold addOp at ha
        by_cases c1 : isS t 43 = true
        · rw [if_pos c1] at ha; cases ha
        · simpa using c1
      have e2 : isS t 45 = false := by
        unfold addOp at ha
        rw [e1, if_neg (by decide)] at ha
        by_cases c1 : isS t 45 = true
        · rw [if_pos c1] at ha; cases ha
        · simpa using c1
      rw [hX2_readSum_7]
      simp +decide only [qX2_readSum, lx hL, s1, s2, e1, e2, b01, am_w1_i, am_w1_r, am_w1_x, am_w1_l, am_w1_w, va_rf_s, am_push_n, am_push_s, am_cs_0, am_cs_i, am_cs_l, am_cs_r, m_uI_K, m_uI_N, m_uI_R, m_uI_L, m_uI_I, m_uL_K, m_uL_N, m_uL_R, m_uL_I, m_uL_L, m_uR_K, m_uR_N, m_uR_I, m_uR_L, m_uR_R, true_and, and_true, true_implies, false_implies, not_true_eq_false, not_false_eq_true, if_true, if_false, false_and, and_false]
      exact ⟨fun _ => h0, fun _ => h0⟩
    · rw [if_neg ha] at hp
      have h3 := add_s ha
      have ht0 : ¬ t.1 = 0 := by omega
      have hz0 := tkG_0 hsz ht0
      have hlt : ¬ (1800 : Int32) ≤ nI turn := by rw [show (1800 : Int32) = nI 1800 from rfl, ni_le (by omega) (by omega)]; omega
      -- the sign and what it means
      have main : ∀ x : Int32, inX x = (addOp t, 0) → am_E am_P0 (d + 11) 35 [.ref 165] M (fun r M2 => am_P am_P0 (d + 12) (am_look tX2_readSum) 65 [.ref 164, .int (nI o), .int (nI turn), .int x] (am_push r []) M2 Q) := by
        intro x hx
        refine g_step (d + 10) t _ res a c (v :: vs) M _ hz hG ht0 hp (fun M1 e he g1 F1 => ?_) (fun M1 t1 g1 G1 hs1 hk1 => ?_)
        · have L1 := gF_LayN g1 hL
          simp +decide only [qX2_readSum, lx L1, am_w1_i, am_w1_r, am_w1_x, am_w1_l, am_w1_w, va_rf_s, am_push_n, am_push_s, am_cs_0, am_cs_i, am_cs_l, am_cs_r, m_uI_K, m_uI_N, m_uI_R, m_uI_L, m_uI_I, m_uL_K, m_uL_N, m_uL_R, m_uL_I, m_uL_L, m_uR_K, m_uR_N, m_uR_I, m_uR_L, m_uR_R, true_and, and_true, true_implies, false_implies, not_true_eq_false, not_false_eq_true, if_true, if_false, false_and, and_false]
          refine f_prod (d + 8) (nI o) e M1 _ L1 hz F1 (fun M2 g2 F2 => ?_)
          have L2 := gF_LayN g2 L1
          simp +decide only [qX2_readSum, lx L2, lz L2 hz, F2.2.1, am_w1_i, am_w1_r, am_w1_x, am_w1_l, am_w1_w, va_rf_s, am_push_n, am_push_s, am_cs_0, am_cs_i, am_cs_l, am_cs_r, m_uI_K, m_uI_N, m_uI_R, m_uI_L, m_uI_I, m_uL_K, m_uL_N, m_uL_R, m_uL_I, m_uL_L, m_uR_K, m_uR_N, m_uR_I, m_uR_L, m_uR_R, true_and, and_true, true_implies, false_implies, not_true_eq_false, not_false_eq_true, if_true, if_false, false_and, and_false]
          refine f_emit (d + 11) e x M2 _ L2 hz F2 (fun M3 g3 F3 => ?_)
          simp +decide only [qX2_readSum, am_w1_i, am_w1_r, am_w1_x, am_w1_l, am_w1_w, va_rf_s, am_push_n, am_push_s, am_cs_0, am_cs_i, am_cs_l, am_cs_r, m_uI_K, m_uI_N, m_uI_R, m_uI_L, m_uI_I, m_uL_K, m_uL_N, m_uL_R, m_uL_I, m_uL_L, m_uR_K, m_uR_N, m_uR_I, m_uR_L, m_uR_R, true_and, and_true, true_implies, false_implies, not_true_eq_false, not_false_eq_true, if_true, if_false, false_and, and_false]
          exact f_sumL (d + 11) _ _ _ e M3 Q (gF_LayN g3 L2) F3 (hQ M3 (by rw [he]; exact ⟨gF_trans (sRd_F g1) (gF_trans g2 g3), F3⟩))
        · have L1 := G1.1
          have typ2 := (ps_typ (T := T) (n := n) f1).2.2.1 o t1 v (tkG_OK (GoX_t G1))
          simp +decide only [qX2_readSum, lx L1, am_w1_i, am_w1_r, am_w1_x, am_w1_l, am_w1_w, va_rf_s, am_push_n, am_push_s, am_cs_0, am_cs_i, am_cs_l, am_cs_r, m_uI_K, m_uI_N, m_uI_R, m_uI_L, m_uI_I, m_uL_K, m_uL_N, m_uL_R, m_uL_I, m_uL_L, m_uR_K, m_uR_N, m_uR_I, m_uR_L, m_uR_R, true_and, and_true, true_implies, false_implies, not_true_eq_false, not_false_eq_true, if_true, if_false, false_and, and_false]
          rcases bnd_some hk1 with ⟨e, he1, he2⟩ | ⟨t2, v2, he1, he2⟩
          · refine h2 f1 (by omega) (d + 11) o t1 v a c (v :: vs) M1 _ _ ho (by omega) G1 (by rw [List.length_cons]; omega) he1 (fun M2 P2 => ?_)
            obtain ⟨g2, F2⟩ : gF (sFz z) nT M1 M2 ∧ FaX M2 z T n e := P2
            have L2 := gF_LayN g2 L1
            simp +decide only [qX2_readSum, lx L2, lz L2 hz, F2.2.1, am_w1_i, am_w1_r, am_w1_x, am_w1_l, am_w1_w, va_rf_s, am_push_n, am_push_s, am_cs_0, am_cs_i, am_cs_l, am_cs_r, m_uI_K, m_uI_N, m_uI_R, m_uI_L, m_uI_I, m_uL_K, m_uL_N, m_uL_R, m_uL_I, m_uL_L, m_uR_K, m_uR_N, m_uR_I, m_uR_L, m_uR_R, true_and, and_true, true_implies, false_implies, not_true_eq_false, not_false_eq_true, if_true, if_false, false_and, and_false]
            refine f_emit (d + 11) e x M2 _ L2 hz F2 (fun M3 g3 F3 => ?_)
            simp +decide only [qX2_readSum, am_w1_i, am_w1_r, am_w1_x, am_w1_l, am_w1_w, va_rf_s, am_push_n, am_push_s, am_cs_0, am_cs_i, am_cs_l, am_cs_r, m_uI_K, m_uI_N, m_uI_R, m_uI_L, m_uI_I, m_uL_K, m_uL_N, m_uL_R, m_uL_I, m_uL_L, m_uR_K, m_uR_N, m_uR_I, m_uR_L, m_uR_R, true_and, and_true, true_implies, false_implies, not_true_eq_false, not_false_eq_true, if_true, if_false, false_and, and_false]
            exact f_sumL (d + 11) _ _ _ e M3 Q (gF_LayN g3 L2) F3 (hQ M3 (by rw [he2]; exact ⟨gF_trans (sRd_F g1) (gF_trans g2 g3), F3⟩))
          · refine h2 f1 (by omega) (d + 11) o t1 v a c (v :: vs) M1 _ _ ho (by omega) G1 (by rw [List.length_cons]; omega) he1 (fun M2 P2 => ?_)
            obtain ⟨g2, c2, G2, hc2, hc2'⟩ : gF (sPz z c) nT M1 M2 ∧ ∃ c', GoX T n z M2 a c' (v2 :: v :: vs) t2 ∧ c ≤ c' ∧ c' + tS t1 ≤ c + tS t2 := P2
            have L2 := G2.1
            have hb2 := (typ2 t2 v2 he1).2
            have hop := op_bin (r := vs) hx (by have := add_2 ha; omega) (by have := add_2 ha; omega) hv hb2
            have hbj : bdS (jnD (addOp t) v v2) := jnD_bd (by have := add_2 ha; omega) hv hb2
            simp +decide only [qX2_readSum, lx L2, lz L2 hz, G2.2.1, am_w1_i, am_w1_r, am_w1_x, am_w1_l, am_w1_w, va_rf_s, am_push_n, am_push_s, am_cs_0, am_cs_i, am_cs_l, am_cs_r, m_uI_K, m_uI_N, m_uI_R, m_uI_L, m_uI_I, m_uL_K, m_uL_N, m_uL_R, m_uL_I, m_uL_L, m_uR_K, m_uR_N, m_uR_I, m_uR_L, m_uR_R, true_and, and_true, true_implies, false_implies, not_true_eq_false, not_false_eq_true, if_true, if_false, false_and, and_false]
            refine g_emit (d + 11) x t2 a c2 (v2 :: v :: vs) M2 _ hz hn G2 (by omega) hop.1 (fun M3 g3 G3 => ?_)
            rw [hop.2] at G3
            simp +decide only [qX2_readSum, ni_add1, am_w1_i, am_w1_r, am_w1_x, am_w1_l, am_w1_w, va_rf_s, am_push_n, am_push_s, am_cs_0, am_cs_i, am_cs_l, am_cs_r, m_uI_K, m_uI_N, m_uI_R, m_uI_L, m_uI_I, m_uL_K, m_uL_N, m_uL_R, m_uL_I, m_uL_L, m_uR_K, m_uR_N, m_uR_I, m_uR_L, m_uR_R, true_and, and_true, true_implies, false_implies, not_true_eq_false, not_false_eq_true, if_true, if_false, false_and, and_false]
            refine ih (by omega) (d + 12) o t2 _ a (c2 + 1) vs M3 Q res (turn + 1) _ ho hD G3 hl hbj (by omega) he2 (fun M4 P4 => hQ M4 ?_)
            have G13 : gF (sPz z c) nT M M3 := gF_trans (sRd_P g1) (gF_trans g2 (sPz_le g3 hc2))
            cases res with
            | inl e => exact ⟨gF_trans (sPz_F G13) P4.1, P4.2⟩
            | inr q =>
              obtain ⟨g4, c4, G4, hc4, hc4'⟩ : gF (sPz z (c2 + 1)) nT M3 M4 ∧ ∃ c', GoX T n z M4 a c' (q.2 :: vs) q.1 ∧ c2 + 1 ≤ c' ∧ c' + tS t2 ≤ c2 + 1 + tS q.1 := P4
              exact ⟨gF_trans G13 (sPz_le g4 (by omega)), c4, G4, by omega, by omega⟩
      rw [hX2_readSum_7]
      by_cases c1 : isS t 43 = true
      · have hx : inX (-6) = (addOp t, 0) := by unfold addOp; rw [if_pos c1]; rfl
        have h0 := main (-6) hx
        simp +decide only [qX2_readSum, lx hL, s1, s2, c1, b01, am_w1_i, am_w1_r, am_w1_x, am_w1_l, am_w1_w, va_rf_s, am_push_n, am_push_s, am_cs_0, am_cs_i, am_cs_l, am_cs_r, m_uI_K, m_uI_N, m_uI_R, m_uI_L, m_uI_I, m_uL_K, m_uL_N, m_uL_R, m_uL_I, m_uL_L, m_uR_K, m_uR_N, m_uR_I, m_uR_L, m_uR_R, true_and, and_true, true_implies, false_implies, not_true_eq_false, not_false_eq_true, if_true, if_false, false_and, and_false] at h0 ⊢
        rw [br_n hlt]
        exact h0
      · have c1' : isS t 43 = false := by simpa using c1
        have c2 : isS t 45 = true := by
          unfold addOp at ha
          rw [if_neg c1] at ha
          by_cases c2 : isS t 45 = true
          · exact c2
          · rw [if_neg c2] at ha; exact absurd rfl ha
        have hx : inX (-7) = (addOp t, 0) := by unfold addOp; rw [if_neg c1, if_pos c2]; rfl
        have h0 := main (-7) hx
        simp +decide only [qX2_readSum, lx hL, s1, s2, c1', c2, b01, am_w1_i, am_w1_r, am_w1_x, am_w1_l, am_w1_w, va_rf_s, am_push_n, am_push_s, am_cs_0, am_cs_i, am_cs_l, am_cs_r, m_uI_K, m_uI_N, m_uI_R, m_uI_L, m_uI_I, m_uL_K, m_uL_N, m_uL_R, m_uL_I, m_uL_L, m_uR_K, m_uR_N, m_uR_I, m_uR_L, m_uR_R, true_and, and_true, true_implies, false_implies, not_true_eq_false, not_false_eq_true, if_true, if_false, false_and, and_false] at h0 ⊢
        rw [br_n hlt]
        exact h0
theorem g_sum (hz : z = 2 ∨ z = 83) (hn : n ≤ 1800) (f : Nat) (h2 : ∀ f', f' < f → HP T n z 2 27 4 1 f') : HP T n z 0 26 3 2 f := by
  intro D o t v0 a c vs M Q res ho hD hG hl hp hQ
  cases f with
  | zero => cases hp
  | succ f =>
    obtain ⟨d, rfl⟩ : ∃ d, D = d + 12 := ⟨D - 12, by omega⟩
    rw [ps_0] at hp
    have hL := hG.1
    rw [eX2_readSum]
    simp +decide only [qX2_readSum, lx hL, am_w1_i, am_w1_r, am_w1_x, am_w1_l, am_w1_w, va_rf_s, am_push_n, am_push_s, am_cs_0, am_cs_i, am_cs_l, am_cs_r, m_uI_K, m_uI_N, m_uI_R, m_uI_L, m_uI_I, m_uL_K, m_uL_N, m_uL_R, m_uL_I, m_uL_L, m_uR_K, m_uR_N, m_uR_I, m_uR_L, m_uR_R, true_and, and_true, true_implies, false_implies, not_true_eq_false, not_false_eq_true, if_true, if_false, false_and, and_false]
    rcases bnd_some hp with ⟨e, he1, he2⟩ | ⟨t1, v1, he1, he2⟩
    · refine h2 f (by omega) (d + 11) o t v0 a c vs M _ _ ho (by omega) hG (by omega) he1 (fun M1 P1 => ?_)
      obtain ⟨g1, F1⟩ : gF (sFz z) nT M M1 ∧ FaX M1 z T n e := P1
      simp +decide only [qX2_readSum, am_w1_i, am_w1_r, am_w1_x, am_w1_l, am_w1_w, va_rf_s, am_push_n, am_push_s, am_cs_0, am_cs_i, am_cs_l, am_cs_r, m_uI_K, m_uI_N, m_uI_R, m_uI_L, m_uI_I, m_uL_K, m_uL_N, m_uL_R, m_uL_I, m_uL_L, m_uR_K, m_uR_N, m_uR_I, m_uR_L, m_uR_R, true_and, and_true, true_implies, false_implies, not_true_eq_false, not_false_eq_true, if_true, if_false, false_and, and_false]
      exact f_sumL (d + 11) _ _ _ e M1 Q (gF_LayN g1 hL) F1 (hQ M1 (by rw [he2]; exact ⟨g1, F1⟩))
    · refine h2 f (by omega) (d + 11) o t v0 a c vs M _ _ ho (by omega) hG (by omega) he1 (fun M1 P1 => ?_)
      obtain ⟨g1, c1, G1, hc1, hc1'⟩ : gF (sPz z c) nT M M1 ∧ ∃ c', GoX T n z M1 a c' (v1 :: vs) t1 ∧ c ≤ c' ∧ c' + tS t ≤ c + tS t1 := P1
      have hb1 := ((ps_typ (T := T) (n := n) f).2.2.1 o t v0 (tkG_OK (GoX_t hG)) t1 v1 he1).2
      simp +decide only [qX2_readSum, am_w1_i, am_w1_r, am_w1_x, am_w1_l, am_w1_w, va_rf_s, am_push_n, am_push_s, am_cs_0, am_cs_i, am_cs_l, am_cs_r, m_uI_K, m_uI_N, m_uI_R, m_uI_L, m_uI_I, m_uL_K, m_uL_N, m_uL_R, m_uL_I, m_uL_L, m_uR_K, m_uR_N, m_uR_I, m_uR_L, m_uR_R, true_and, and_true, true_implies, false_implies, not_true_eq_false, not_false_eq_true, if_true, if_false, false_and, and_false]
      rw [show (0 : Int32) = nI 0 from rfl]
      refine g_sumL hz hn f (fun f' hf' => h2 f' (by omega)) f (Nat.le_refl _) (d + 12) o t1 v1 a c1 vs M1 Q res 0 _ ho hD G1 hl hb1 (Nat.zero_le _) he2 (fun M2 P2 => hQ M2 ?_)
      cases res with
      | inl e => exact ⟨gF_trans (sPz_F g1) P2.1, P2.2⟩
      | inr q =>
        obtain ⟨g4, c4, G4, hc4, hc4'⟩ : gF (sPz z c1) nT M1 M2 ∧ ∃ c', GoX T n z M2 a c' (q.2 :: vs) q.1 ∧ c1 ≤ c' ∧ c' + tS t1 ≤ c1 + tS q.1 := P2
        exact ⟨gF_trans g1 (sPz_le g4 hc1), c4, G4, by omega, by omega⟩
end
end
section
/-! the class's parser: products, parts -/
def msI (t : Tok) : Int32 := if isS t 42 = true then -8 else if isS t 47 = true then -9 else if isS t 37 = true then -10 else 0
theorem msI_op {t : Tok} : (mulOp t = 0 ↔ msI t = 0) ∧ (¬ mulOp t = 0 → inX (msI t) = (mulOp t, 0)) := by
  unfold msI mulOp
  by_cases c1 : isS t 42 = true
  · rw [if_pos c1, if_pos c1]; exact ⟨by decide, fun _ => rfl⟩
  · rw [if_neg c1, if_neg c1]
    by_cases c2 : isS t 47 = true
    · rw [if_pos c2, if_pos c2]; exact ⟨by decide, fun _ => rfl⟩
    · rw [if_neg c2, if_neg c2]
      by_cases c3 : isS t 37 = true
      · rw [if_pos c3, if_pos c3]; exact ⟨by decide, fun _ => rfl⟩
      · rw [if_neg c3, if_neg c3]; exact ⟨by decide, fun q => absurd rfl q⟩
section
variable {T : Nat → Nat} {n z : Nat}
theorem c_x_times (d : Nat) (t : Tok) (M : am_M) (Q : Option Value → am_M → Prop) (hL : Lay M) (hR : RdX M T n t) : am_E am_P0 (d + 1) 28 [.ref 164] M Q ↔ Q (some (.int (msI t))) M := by
  have hst : StR M T n (.inr t) := hR
  have s1 := fun Q => c_x_isSign d n 42 T (.inr t) M Q hL (by omega) hst
  have s2 := fun Q => c_x_isSign d n 47 T (.inr t) M Q hL (by omega) hst
  have s3 := fun Q => c_x_isSign d n 37 T (.inr t) M Q hL (by omega) hst
  rw [show nI 42 = (42 : Int32) from rfl] at s1
  rw [show nI 47 = (47 : Int32) from rfl] at s2
  rw [show nI 37 = (37 : Int32) from rfl] at s3
  rw [eX2_timesSign]
  simp +decide only [qX2_timesSign, lx hL, s1, s2, s3, isSr, am_w1_i, am_w1_r, am_w1_x, am_w1_l, am_w1_w, va_rf_s, am_push_n, am_push_s, am_cs_0, am_cs_i, am_cs_l, am_cs_r, m_uI_K, m_uI_N, m_uI_R, m_uI_L, m_uI_I, m_uL_K, m_uL_N, m_uL_R, m_uL_I, m_uL_L, m_uR_K, m_uR_N, m_uR_I, m_uR_L, m_uR_R, true_and, and_true, true_implies, false_implies, not_true_eq_false, not_false_eq_true, if_true, if_false, false_and, and_false]
  unfold msI
  cases c1 : isS t 42 with
  | true => rw [br_n (by decide), if_pos rfl]
  | false =>
    rw [br_p (by decide), if_neg (by decide)]
    cases c2 : isS t 47 with
    | true => rw [br_n (by decide), if_pos rfl]
    | false =>
      rw [br_p (by decide), if_neg (by decide)]
      cases c3 : isS t 37 with
      | true => rw [br_n (by decide), if_pos rfl]
      | false => rw [br_p (by decide), if_neg (by decide)]
/-- the rest of a product -/
theorem g_prodL (hz : z = 2 ∨ z = 83) (hn : n ≤ 1800) (f : Nat) (h4 : ∀ f', f' < f → HP T n z 4 29 5 0 f') : ∀ (f1 : Nat), f1 ≤ f → ∀ (D o : Nat) (t : Tok) (v : Den) (a c : Nat) (vs : List Den) (M : am_M) (Q : Option Value → am_M → Prop) (res : Sum (Nat × Nat) (Tok × Den)) (turn : Nat) (v3 : Value), o ≤ 8 → 12 * (9 - o) + 1 ≤ D → GoX T n z M a c (v :: vs) t → vs.length ≤ 3 * o + 4 → bdS v → turn ≤ tS t → ps T n f1 3 o t v = some res → (∀ M', PoX T n z a c vs t M M' res → Q none M') → am_P am_P0 D (am_look tX2_readProduct) 7 [.ref 164, .int (nI o), .int (nI turn), v3] [] M Q := by
  intro f1
  induction f1 with
  | zero => intro _ D o t v a c vs M Q res turn v3 _ _ _ _ _ _ h; cases h
  | succ f1 ih =>
    intro hf1 D o t v a c vs M Q res turn v3 ho hD hG hl hv htu hp hQ
    obtain ⟨d, rfl⟩ : ∃ d, D = d + 12 := ⟨D - 12, by omega⟩
    obtain ⟨hL, hpa, hR, hf, hc, hct⟩ := id hG
    have hsz := GoX_t hG
    rw [ps_3] at hp
    have hnt : tS t ≤ n := by have := hsz.1; have := hsz.2.1; omega
    have s1 := fun Q => c_x_times (T := T) (n := n) (d + 10) t M Q hL hR
    have hms := msI_op (t := t)
    by_cases ha : mulOp t = 0
    · rw [if_pos ha] at hp
      cases hp
      have h0 := hQ M ⟨gF_refl _ _ _, c, hG, Nat.le_refl _, Nat.le_refl _⟩
      have e1 := hms.1.mp ha
      rw [hX2_readProduct_7]
      simp +decide only [qX2_readProduct, lx hL, s1, e1, am_w1_i, am_w1_r, am_w1_x, am_w1_l, am_w1_w, va_rf_s, am_push_n, am_push_s, am_cs_0, am_cs_i, am_cs_l, am_cs_r, m_uI_K, m_uI_N, m_uI_R, m_uI_L, m_uI_I, m_uL_K, m_uL_N, m_uL_R, m_uL_I, m_uL_L, m_uR_K, m_uR_N, m_uR_I, m_uR_L, m_uR_R, true_and, and_true, true_implies, false_implies, not_true_eq_false, not_false_eq_true, if_true, if_false, false_and, and_false]
      exact ⟨fun _ => h0, fun _ => h0⟩
    · rw [if_neg ha] at hp
      have h3 := mul_s ha
      have ht0 : ¬ t.1 = 0 := by omega
      have hz0 := tkG_0 hsz ht0
      have hx := hms.2 ha
      have hx0 : ¬ msI t = 0 := fun q => ha (hms.1.mpr q)
      have hlt : ¬ (1800 : Int32) ≤ nI turn := by rw [show (1800 : Int32) = nI 1800 from rfl, ni_le (by omega) (by omega)]; omega
      have main : am_E am_P0 (d + 11) 35 [.ref 165] M (fun r M2 => am_P am_P0 (d + 12) (am_look tX2_readProduct) 33 [.ref 164, .int (nI o), .int (nI turn), .int (msI t)] (am_push r []) M2 Q) := by
        refine g_step (d + 10) t _ res a c (v :: vs) M _ hz hG ht0 hp (fun M1 e he g1 F1 => ?_) (fun M1 t1 g1 G1 hs1 hk1 => ?_)
        · have L1 := gF_LayN g1 hL
          simp +decide only [qX2_readProduct, lx L1, am_w1_i, am_w1_r, am_w1_x, am_w1_l, am_w1_w, va_rf_s, am_push_n, am_push_s, am_cs_0, am_cs_i, am_cs_l, am_cs_r, m_uI_K, m_uI_N, m_uI_R, m_uI_L, m_uI_I, m_uL_K, m_uL_N, m_uL_R, m_uL_I, m_uL_L, m_uR_K, m_uR_N, m_uR_I, m_uR_L, m_uR_R, true_and, and_true, true_implies, false_implies, not_true_eq_false, not_false_eq_true, if_true, if_false, false_and, and_false]
          refine f_part (d + 9) (nI o) e M1 _ L1 hz F1 (fun M2 g2 F2 => ?_)
          have L2 := gF_LayN g2 L1
          simp +decide only [qX2_readProduct, lx L2, lz L2 hz, F2.2.1, am_w1_i, am_w1_r, am_w1_x, am_w1_l, am_w1_w, va_rf_s, am_push_n, am_push_s, am_cs_0, am_cs_i, am_cs_l, am_cs_r, m_uI_K, m_uI_N, m_uI_R, m_uI_L, m_uI_I, m_uL_K, m_uL_N, m_uL_R, m_uL_I, m_uL_L, m_uR_K, m_uR_N, m_uR_I, m_uR_L, m_uR_R, true_and, and_true, true_implies, false_implies, not_true_eq_false, not_false_eq_true, if_true, if_false, false_and, and_false]
          refine f_emit (d + 11) e (msI t) M2 _ L2 hz F2 (fun M3 g3 F3 => ?_)
          simp +decide only [qX2_readProduct, am_w1_i, am_w1_r, am_w1_x, am_w1_l, am_w1_w, va_rf_s, am_push_n, am_push_s, am_cs_0, am_cs_i, am_cs_l, am_cs_r, m_uI_K, m_uI_N, m_uI_R, m_uI_L, m_uI_I, m_uL_K, m_uL_N, m_uL_R, m_uL_I, m_uL_L, m_uR_K, m_uR_N, m_uR_I, m_uR_L, m_uR_R, true_and, and_true, true_implies, false_implies, not_true_eq_false, not_false_eq_true, if_true, if_false, false_and, and_false]
          exact f_prodL (d + 10) _ _ _ e M3 Q (gF_LayN g3 L2) F3 (hQ M3 (by rw [he]; exact ⟨gF_trans (sRd_F g1) (gF_trans g2 g3), F3⟩))
        · have L1 := G1.1
          have typ2 := (ps_typ (T := T) (n := n) f1).2.2.2.2.1 o t1 v (tkG_OK (GoX_t G1))
          simp +decide only [qX2_readProduct, lx L1, am_w1_i, am_w1_r, am_w1_x, am_w1_l, am_w1_w, va_rf_s, am_push_n, am_push_s, am_cs_0, am_cs_i, am_cs_l, am_cs_r, m_uI_K, m_uI_N, m_uI_R, m_uI_L, m_uI_I, m_uL_K, m_uL_N, m_uL_R, m_uL_I, m_uL_L, m_uR_K, m_uR_N, m_uR_I, m_uR_L, m_uR_R, true_and, and_true, true_implies, false_implies, not_true_eq_false, not_false_eq_true, if_true, if_false, false_and, and_false]
          rcases bnd_some hk1 with ⟨e, he1, he2⟩ | ⟨t2, v2, he1, he2⟩
          · refine h4 f1 (by omega) (d + 11) o t1 v a c (v :: vs) M1 _ _ ho (by omega) G1 (by rw [List.length_cons]; omega) he1 (fun M2 P2 => ?_)
            obtain ⟨g2, F2⟩ : gF (sFz z) nT M1 M2 ∧ FaX M2 z T n e := P2
            have L2 := gF_LayN g2 L1
            simp +decide only [qX2_readProduct, lx L2, lz L2 hz, F2.2.1, am_w1_i, am_w1_r, am_w1_x, am_w1_l, am_w1_w, va_rf_s, am_push_n, am_push_s, am_cs_0, am_cs_i, am_cs_l, am_cs_r, m_uI_K, m_uI_N, m_uI_R, m_uI_L, m_uI_I, m_uL_K, m_uL_N, m_uL_R, m_uL_I, m_uL_L, m_uR_K, m_uR_N, m_uR_I, m_uR_L, m_uR_R, true_and, and_true, true_implies, false_implies, not_true_eq_false, not_false_eq_true, if_true, if_false, false_and, and_false]
            refine f_emit (d + 11) e (msI t) M2 _ L2 hz F2 (fun M3 g3 F3 => ?_)
            simp +decide only [qX2_readProduct, am_w1_i, am_w1_r, am_w1_x, am_w1_l, am_w1_w, va_rf_s, am_push_n, am_push_s, am_cs_0, am_cs_i, am_cs_l, am_cs_r, m_uI_K, m_uI_N, m_uI_R, m_uI_L, m_uI_I, m_uL_K, m_uL_N, m_uL_R, m_uL_I, m_uL_L, m_uR_K, m_uR_N, m_uR_I, m_uR_L, m_uR_R, true_and, and_true, true_implies, false_implies, not_true_eq_false, not_false_eq_true, if_true, if_false, false_and, and_false]
            exact f_prodL (d + 10) _ _ _ e M3 Q (gF_LayN g3 L2) F3 (hQ M3 (by rw [he2]; exact ⟨gF_trans (sRd_F g1) (gF_trans g2 g3), F3⟩))
          · refine h4 f1 (by omega) (d + 11) o t1 v a c (v :: vs) M1 _ _ ho (by omega) G1 (by rw [List.length_cons]; omega) he1 (fun M2 P2 => ?_)
            obtain ⟨g2, c2, G2, hc2, hc2'⟩ : gF (sPz z c) nT M1 M2 ∧ ∃ c', GoX T n z M2 a c' (v2 :: v :: vs) t2 ∧ c ≤ c' ∧ c' + tS t1 ≤ c + tS t2 := P2
            have L2 := G2.1
            have hb2 := (typ2 t2 v2 he1).2
            have hop := op_bin (r := vs) hx (by have := mul_3 ha; omega) (by have := mul_3 ha; omega) hv hb2
            have hbj : bdS (jnD (mulOp t) v v2) := jnD_bd (by have := mul_3 ha; omega) hv hb2
            simp +decide only [qX2_readProduct, lx L2, lz L2 hz, G2.2.1, am_w1_i, am_w1_r, am_w1_x, am_w1_l, am_w1_w, va_rf_s, am_push_n, am_push_s, am_cs_0, am_cs_i, am_cs_l, am_cs_r, m_uI_K, m_uI_N, m_uI_R, m_uI_L, m_uI_I, m_uL_K, m_uL_N, m_uL_R, m_uL_I, m_uL_L, m_uR_K, m_uR_N, m_uR_I, m_uR_L, m_uR_R, true_and, and_true, true_implies, false_implies, not_true_eq_false, not_false_eq_true, if_true, if_false, false_and, and_false]
            refine g_emit (d + 11) (msI t) t2 a c2 (v2 :: v :: vs) M2 _ hz hn G2 (by omega) hop.1 (fun M3 g3 G3 => ?_)
            rw [hop.2] at G3
            simp +decide only [qX2_readProduct, ni_add1, am_w1_i, am_w1_r, am_w1_x, am_w1_l, am_w1_w, va_rf_s, am_push_n, am_push_s, am_cs_0, am_cs_i, am_cs_l, am_cs_r, m_uI_K, m_uI_N, m_uI_R, m_uI_L, m_uI_I, m_uL_K, m_uL_N, m_uL_R, m_uL_I, m_uL_L, m_uR_K, m_uR_N, m_uR_I, m_uR_L, m_uR_R, true_and, and_true, true_implies, false_implies, not_true_eq_false, not_false_eq_true, if_true, if_false, false_and, and_false]
            refine ih (by omega) (d + 12) o t2 _ a (c2 + 1) vs M3 Q res (turn + 1) _ ho hD G3 hl hbj (by omega) he2 (fun M4 P4 => hQ M4 ?_)
            have G13 : gF (sPz z c) nT M M3 := gF_trans (sRd_P g1) (gF_trans g2 (sPz_le g3 hc2))
            cases res with
            | inl e => exact ⟨gF_trans (sPz_F G13) P4.1, P4.2⟩
            | inr q =>
              obtain ⟨g4, c4, G4, hc4, hc4'⟩ : gF (sPz z (c2 + 1)) nT M3 M4 ∧ ∃ c', GoX T n z M4 a c' (q.2 :: vs) q.1 ∧ c2 + 1 ≤ c' ∧ c' + tS t2 ≤ c2 + 1 + tS q.1 := P4
              exact ⟨gF_trans G13 (sPz_le g4 (by omega)), c4, G4, by omega, by omega⟩
      rw [hX2_readProduct_7]
      simp +decide only [qX2_readProduct, lx hL, s1, am_w1_i, am_w1_r, am_w1_x, am_w1_l, am_w1_w, va_rf_s, am_push_n, am_push_s, am_cs_0, am_cs_i, am_cs_l, am_cs_r, m_uI_K, m_uI_N, m_uI_R, m_uI_L, m_uI_I, m_uL_K, m_uL_N, m_uL_R, m_uL_I, m_uL_L, m_uR_K, m_uR_N, m_uR_I, m_uR_L, m_uR_R, true_and, and_true, true_implies, false_implies, not_true_eq_false, not_false_eq_true, if_true, if_false, false_and, and_false] at main ⊢
      rw [br_n hlt, br_n hx0]
      exact main
theorem g_prod (hz : z = 2 ∨ z = 83) (hn : n ≤ 1800) (f : Nat) (h4 : ∀ f', f' < f → HP T n z 4 29 5 0 f') : HP T n z 2 27 4 1 f := by
  intro D o t v0 a c vs M Q res ho hD hG hl hp hQ
  cases f with
  | zero => cases hp
  | succ f =>
    obtain ⟨d, rfl⟩ : ∃ d, D = d + 12 := ⟨D - 12, by omega⟩
    rw [ps_2] at hp
    have hL := hG.1
    rw [eX2_readProduct]
    simp +decide only [qX2_readProduct, lx hL, am_w1_i, am_w1_r, am_w1_x, am_w1_l, am_w1_w, va_rf_s, am_push_n, am_push_s, am_cs_0, am_cs_i, am_cs_l, am_cs_r, m_uI_K, m_uI_N, m_uI_R, m_uI_L, m_uI_I, m_uL_K, m_uL_N, m_uL_R, m_uL_I, m_uL_L, m_uR_K, m_uR_N, m_uR_I, m_uR_L, m_uR_R, true_and, and_true, true_implies, false_implies, not_true_eq_false, not_false_eq_true, if_true, if_false, false_and, and_false]
    rcases bnd_some hp with ⟨e, he1, he2⟩ | ⟨t1, v1, he1, he2⟩
    · refine h4 f (by omega) (d + 11) o t v0 a c vs M _ _ ho (by omega) hG (by omega) he1 (fun M1 P1 => ?_)
      obtain ⟨g1, F1⟩ : gF (sFz z) nT M M1 ∧ FaX M1 z T n e := P1
      simp +decide only [qX2_readProduct, am_w1_i, am_w1_r, am_w1_x, am_w1_l, am_w1_w, va_rf_s, am_push_n, am_push_s, am_cs_0, am_cs_i, am_cs_l, am_cs_r, m_uI_K, m_uI_N, m_uI_R, m_uI_L, m_uI_I, m_uL_K, m_uL_N, m_uL_R, m_uL_I, m_uL_L, m_uR_K, m_uR_N, m_uR_I, m_uR_L, m_uR_R, true_and, and_true, true_implies, false_implies, not_true_eq_false, not_false_eq_true, if_true, if_false, false_and, and_false]
      exact f_prodL (d + 10) _ _ _ e M1 Q (gF_LayN g1 hL) F1 (hQ M1 (by rw [he2]; exact ⟨g1, F1⟩))
    · refine h4 f (by omega) (d + 11) o t v0 a c vs M _ _ ho (by omega) hG (by omega) he1 (fun M1 P1 => ?_)
      obtain ⟨g1, c1, G1, hc1, hc1'⟩ : gF (sPz z c) nT M M1 ∧ ∃ c', GoX T n z M1 a c' (v1 :: vs) t1 ∧ c ≤ c' ∧ c' + tS t ≤ c + tS t1 := P1
      have hb1 := ((ps_typ (T := T) (n := n) f).2.2.2.2.1 o t v0 (tkG_OK (GoX_t hG)) t1 v1 he1).2
      simp +decide only [qX2_readProduct, am_w1_i, am_w1_r, am_w1_x, am_w1_l, am_w1_w, va_rf_s, am_push_n, am_push_s, am_cs_0, am_cs_i, am_cs_l, am_cs_r, m_uI_K, m_uI_N, m_uI_R, m_uI_L, m_uI_I, m_uL_K, m_uL_N, m_uL_R, m_uL_I, m_uL_L, m_uR_K, m_uR_N, m_uR_I, m_uR_L, m_uR_R, true_and, and_true, true_implies, false_implies, not_true_eq_false, not_false_eq_true, if_true, if_false, false_and, and_false]
      rw [show (0 : Int32) = nI 0 from rfl]
      refine g_prodL hz hn f (fun f' hf' => h4 f' (by omega)) f (Nat.le_refl _) (d + 12) o t1 v1 a c1 vs M1 Q res 0 _ ho hD G1 hl hb1 (Nat.zero_le _) he2 (fun M2 P2 => hQ M2 ?_)
      cases res with
      | inl e => exact ⟨gF_trans (sPz_F g1) P2.1, P2.2⟩
      | inr q =>
        obtain ⟨g4, c4, G4, hc4, hc4'⟩ : gF (sPz z c1) nT M1 M2 ∧ ∃ c', GoX T n z M2 a c' (q.2 :: vs) q.1 ∧ c1 ≤ c' ∧ c' + tS t1 ≤ c1 + tS q.1 := P2
        exact ⟨gF_trans g1 (sPz_le g4 hc1), c4, G4, by omega, by omega⟩
/-- a leaf -/
theorem g_leaf (d : Nat) (x : Int32) (u : Den) (t : Tok) (res : Sum (Nat × Nat) (Tok × Den)) (a c : Nat) (vs : List Den) (M : am_M) (Q : Option Value → am_M → Prop) (hz : z = 2 ∨ z = 83) (hn : n ≤ 1800) (hG : GoX T n z M a c vs t) (h0 : ¬ t.1 = 0) (hop : opOK 64 (inX x) vs ∧ stD (inX x) vs = u :: vs) (hp : adv T n t (fun t1 => some (.inr (t1, u))) = some res)
    (hQ : ∀ M', PoX T n z a c vs t M M' res → Q none M') : am_E am_P0 (d + 2) 30 [.ref 164, .int x] M Q := by
  have hL := hG.1
  have hz0 := tkG_0 (GoX_t hG) h0
  have hct := hG.2.2.2.2.2
  have hR := hG.2.2.1
  rw [eX2_readLeaf]
  simp +decide only [qX2_readLeaf, lx hL, lz hL hz, hG.2.1, am_w1_i, am_w1_r, am_w1_x, am_w1_l, am_w1_w, va_rf_s, am_push_n, am_push_s, am_cs_0, am_cs_i, am_cs_l, am_cs_r, m_uI_K, m_uI_N, m_uI_R, m_uI_L, m_uI_I, m_uL_K, m_uL_N, m_uL_R, m_uL_I, m_uL_L, m_uR_K, m_uR_N, m_uR_I, m_uR_L, m_uR_R, true_and, and_true, true_implies, false_implies, not_true_eq_false, not_false_eq_true, if_true, if_false, false_and, and_false]
  rw [c_x_emit (d + 1) z c x M _ hL hz hG.2.2.2.1 (by omega)]
  have g : gF (fun a j => (a = z + 7 ∧ c ≤ j) ∨ (a = z + 6 ∧ j = 1)) nT M (uI (uI M (z + 7) c x) (z + 6) 1 (nI (c + 1))) := gF_trans (gF_i _ (Or.inl ⟨rfl, Nat.le_refl _⟩)) (gF_i _ (Or.inr ⟨rfl, rfl⟩))
  obtain ⟨M1, hM1⟩ : ∃ M1, M1 = uI (uI M (z + 7) c x) (z + 6) 1 (nI (c + 1)) := ⟨_, rfl⟩
  have L1 : Lay M1 := by rw [hM1]; exact hL
  have R1 : RdX M1 T n t := by rw [hM1]; exact RdX_g hR g (fun a j q w => by omega) (fun q => q)
  have F1 : FmX M1 z (c + 1) := by rw [hM1]; exact ⟨by rw [m_uI_I, if_pos ⟨rfl, rfl⟩], by omega⟩
  have C1 : CdX M1 z a (c + 1) (u :: vs) := by rw [hM1, ← hop.2]; exact CdX_e x hG.2.2.2.2.1 hop.1
  have P1 : mR M1 164 1 = some z := by rw [hM1]; exact hG.2.1
  rw [← hM1] at g ⊢
  have gP : gF (sPz z c) nT M M1 := gF_up g (fun a j q => Or.inr q) (fun _ _ q => q)
  simp +decide only [qX2_readLeaf, lx L1, am_w1_i, am_w1_r, am_w1_x, am_w1_l, am_w1_w, va_rf_s, am_push_n, am_push_s, am_cs_0, am_cs_i, am_cs_l, am_cs_r, m_uI_K, m_uI_N, m_uI_R, m_uI_L, m_uI_I, m_uL_K, m_uL_N, m_uL_R, m_uL_I, m_uL_L, m_uR_K, m_uR_N, m_uR_I, m_uR_L, m_uR_R, true_and, and_true, true_implies, false_implies, not_true_eq_false, not_false_eq_true, if_true, if_false, false_and, and_false]
  refine c_x_step d n T t M1 _ L1 R1 (fun h4 M2 g2 f2 => ?_) (fun h4 M2 g2 f2 => ?_)
  · unfold adv at hp
    rw [if_pos h4] at hp
    cases hp
    have h1 := hQ M2 ⟨gF_trans (sPz_F gP) (sRd_F g2), f2, by rw [g2.2.2.1 _ _ (fun q => q)]; exact P1, c + 1, FmX_g F1 g2 (fun q => by unfold sRd at q; omega)⟩
    simp +decide only [qX2_readLeaf, am_w1_i, am_w1_r, am_w1_x, am_w1_l, am_w1_w, va_rf_s, am_push_n, am_push_s, am_cs_0, am_cs_i, am_cs_l, am_cs_r, m_uI_K, m_uI_N, m_uI_R, m_uI_L, m_uI_I, m_uL_K, m_uL_N, m_uL_R, m_uL_I, m_uL_L, m_uR_K, m_uR_N, m_uR_I, m_uR_L, m_uR_R, true_and, and_true, true_implies, false_implies, not_true_eq_false, not_false_eq_true, if_true, if_false, false_and, and_false]
    exact h1
  · unfold adv at hp
    rw [if_neg h4] at hp
    cases hp
    have h1 := hQ M2 ⟨gF_trans gP (sRd_P g2), c + 1, ⟨gF_LayN g2 L1, by rw [g2.2.2.1 _ _ (fun q => q)]; exact P1, f2, FmX_g F1 g2 (fun q => by unfold sRd at q; omega), CdX_g C1 g2 (fun j _ q => by unfold sRd at q; omega), by show c + 1 ≤ tS (tk T n (tE t)); omega⟩, by omega, by show c + 1 + tS t ≤ c + tS (tk T n (tE t)); omega⟩
    simp +decide only [qX2_readLeaf, am_w1_i, am_w1_r, am_w1_x, am_w1_l, am_w1_w, va_rf_s, am_push_n, am_push_s, am_cs_0, am_cs_i, am_cs_l, am_cs_r, m_uI_K, m_uI_N, m_uI_R, m_uI_L, m_uI_I, m_uL_K, m_uL_N, m_uL_R, m_uL_I, m_uL_L, m_uR_K, m_uR_N, m_uR_I, m_uR_L, m_uR_R, true_and, and_true, true_implies, false_implies, not_true_eq_false, not_false_eq_true, if_true, if_false, false_and, and_false]
    exact h1
/-- a bracket is opened -/
theorem g_open (d c0 o : Nat) (t : Tok) (k : Tok → Rs) (res : Sum (Nat × Nat) (Tok × Den)) (a c : Nat) (vs : List Den) (M : am_M) (Q : Option Value → am_M → Prop) (hz : z = 2 ∨ z = 83) (hc0 : c0 < 256) (ho : o ≤ 8) (hG : GoX T n z M a c vs t) (hp : opn T n c0 o t k = some res)
    (hF : ∀ M' e, res = .inl e → gF sRd nT M M' → FaX M' z T n e → Q (some (.int 0)) M')
    (hF1 : ∀ M' e, res = .inl e → gF sRd nT M M' → FaX M' z T n e → Q (some (.int 1)) M')
    (hN : ∀ M' t1, o < 8 → gF sRd nT M M' → GoX T n z M' a c vs t1 → tS t + 1 ≤ tS t1 → k t1 = some res → Q (some (.int 1)) M') : am_E am_P0 (d + 2) 32 [.ref 164, .int (nI c0), .int (nI o)] M Q := by
  obtain ⟨hL, hpa, hR, hf, hc, hct⟩ := id hG
  have hst : StR M T n (.inr t) := hR
  have s1 := fun Q => c_x_isSign (d + 1) n c0 T (.inr t) M Q hL hc0 hst
  unfold opn at hp
  rw [eX2_takeOpening]
  by_cases c1 : isS t c0 = true
  · rw [if_pos c1] at hp
    have c1' : isSr c0 (.inr t) = true := c1
    have ht0 : ¬ t.1 = 0 := by have := isS_1 c1; omega
    by_cases c8 : 8 ≤ o
    · rw [if_pos c8] at hp
      cases hp
      simp +decide only [qX2_takeOpening, lx hL, s1, c1', b01, am_w1_i, am_w1_r, am_w1_x, am_w1_l, am_w1_w, va_rf_s, am_push_n, am_push_s, am_cs_0, am_cs_i, am_cs_l, am_cs_r, m_uI_K, m_uI_N, m_uI_R, m_uI_L, m_uI_I, m_uL_K, m_uL_N, m_uL_R, m_uL_I, m_uL_L, m_uR_K, m_uR_N, m_uR_I, m_uR_L, m_uR_R, true_and, and_true, true_implies, false_implies, not_true_eq_false, not_false_eq_true, if_true, if_false, false_and, and_false]
      rw [br_n (by rw [show (8 : Int32) = nI 8 from rfl, ni_lt (by omega) (by omega)]; omega), show (5 : Int32) = nI 5 from rfl]
      refine c_x_refuse d n 5 T (.inr t) M _ hL (by omega) hst (fun M1 g1 h1 => ?_)
      have h0 := hF M1 _ rfl g1 ⟨h1, by rw [g1.2.2.1 _ _ (fun q => q)]; exact hpa, c, FmX_g hf g1 (fun q => by unfold sRd at q; omega)⟩
      simp +decide only [qX2_takeOpening, am_w1_i, am_w1_r, am_w1_x, am_w1_l, am_w1_w, va_rf_s, am_push_n, am_push_s, am_cs_0, am_cs_i, am_cs_l, am_cs_r, m_uI_K, m_uI_N, m_uI_R, m_uI_L, m_uI_I, m_uL_K, m_uL_N, m_uL_R, m_uL_I, m_uL_L, m_uR_K, m_uR_N, m_uR_I, m_uR_L, m_uR_R, true_and, and_true, true_implies, false_implies, not_true_eq_false, not_false_eq_true, if_true, if_false, false_and, and_false]
      exact h0
    · rw [if_neg c8] at hp
      simp +decide only [qX2_takeOpening, lx hL, s1, c1', b01, am_w1_i, am_w1_r, am_w1_x, am_w1_l, am_w1_w, va_rf_s, am_push_n, am_push_s, am_cs_0, am_cs_i, am_cs_l, am_cs_r, m_uI_K, m_uI_N, m_uI_R, m_uI_L, m_uI_I, m_uL_K, m_uL_N, m_uL_R, m_uL_I, m_uL_L, m_uR_K, m_uR_N, m_uR_I, m_uR_L, m_uR_R, true_and, and_true, true_implies, false_implies, not_true_eq_false, not_false_eq_true, if_true, if_false, false_and, and_false]
      rw [br_p (by rw [show (8 : Int32) = nI 8 from rfl, ni_lt (by omega) (by omega)]; omega)]
      refine g_step d t k res a c vs M _ hz hG ht0 hp (fun M1 e he g1 F1 => ?_) (fun M1 t1 g1 G1 hs1 hk1 => ?_)
      · have h0 := hF1 M1 e he g1 F1
        simp +decide only [qX2_takeOpening, am_w1_i, am_w1_r, am_w1_x, am_w1_l, am_w1_w, va_rf_s, am_push_n, am_push_s, am_cs_0, am_cs_i, am_cs_l, am_cs_r, m_uI_K, m_uI_N, m_uI_R, m_uI_L, m_uI_I, m_uL_K, m_uL_N, m_uL_R, m_uL_I, m_uL_L, m_uR_K, m_uR_N, m_uR_I, m_uR_L, m_uR_R, true_and, and_true, true_implies, false_implies, not_true_eq_false, not_false_eq_true, if_true, if_false, false_and, and_false]
        exact h0
      · have h0 := hN M1 t1 (by omega) g1 G1 hs1 hk1
        simp +decide only [qX2_takeOpening, am_w1_i, am_w1_r, am_w1_x, am_w1_l, am_w1_w, va_rf_s, am_push_n, am_push_s, am_cs_0, am_cs_i, am_cs_l, am_cs_r, m_uI_K, m_uI_N, m_uI_R, m_uI_L, m_uI_I, m_uL_K, m_uL_N, m_uL_R, m_uL_I, m_uL_L, m_uR_K, m_uR_N, m_uR_I, m_uR_L, m_uR_R, true_and, and_true, true_implies, false_implies, not_true_eq_false, not_false_eq_true, if_true, if_false, false_and, and_false]
        exact h0
  · rw [if_neg c1] at hp
    cases hp
    have c1' : isSr c0 (.inr t) = false := by show isS t c0 = false; simpa using c1
    simp +decide only [qX2_takeOpening, lx hL, s1, c1', b01, am_w1_i, am_w1_r, am_w1_x, am_w1_l, am_w1_w, va_rf_s, am_push_n, am_push_s, am_cs_0, am_cs_i, am_cs_l, am_cs_r, m_uI_K, m_uI_N, m_uI_R, m_uI_L, m_uI_I, m_uL_K, m_uL_N, m_uL_R, m_uL_I, m_uL_L, m_uR_K, m_uR_N, m_uR_I, m_uR_L, m_uR_R, true_and, and_true, true_implies, false_implies, not_true_eq_false, not_false_eq_true, if_true, if_false, false_and, and_false]
    rw [show (1 : Int32) = nI 1 from rfl]
    refine c_x_refuse d n 1 T (.inr t) M _ hL (by omega) hst (fun M1 g1 h1 => ?_)
    have h0 := hF M1 _ rfl g1 ⟨h1, by rw [g1.2.2.1 _ _ (fun q => q)]; exact hpa, c, FmX_g hf g1 (fun q => by unfold sRd at q; omega)⟩
    simp +decide only [qX2_takeOpening, am_w1_i, am_w1_r, am_w1_x, am_w1_l, am_w1_w, va_rf_s, am_push_n, am_push_s, am_cs_0, am_cs_i, am_cs_l, am_cs_r, m_uI_K, m_uI_N, m_uI_R, m_uI_L, m_uI_I, m_uL_K, m_uL_N, m_uL_R, m_uL_I, m_uL_L, m_uR_K, m_uR_N, m_uR_I, m_uR_L, m_uR_R, true_and, and_true, true_implies, false_implies, not_true_eq_false, not_false_eq_true, if_true, if_false, false_and, and_false]
    exact h0
/-- a sign is taken -/
theorem g_sign (d c0 : Nat) (t : Tok) (k : Tok → Rs) (res : Sum (Nat × Nat) (Tok × Den)) (a c : Nat) (vs : List Den) (M : am_M) (Q : Option Value → am_M → Prop) (hz : z = 2 ∨ z = 83) (hc0 : c0 < 256) (hG : GoX T n z M a c vs t) (hp : tks T n c0 t k = some res)
    (hF : ∀ M' e, res = .inl e → gF sRd nT M M' → FaX M' z T n e → Q none M')
    (hN : ∀ M' t1, gF sRd nT M M' → GoX T n z M' a c vs t1 → tS t + 1 ≤ tS t1 → k t1 = some res → Q none M') : am_E am_P0 (d + 2) 41 [.ref 165, .int (nI c0)] M Q := by
  obtain ⟨hL, hpa, hR, hf, hc, hct⟩ := id hG
  have hst : StR M T n (.inr t) := hR
  unfold tks at hp
  by_cases c1 : isS t c0 = true
  · rw [if_pos c1] at hp
    have ht0 : ¬ t.1 = 0 := by have := isS_1 c1; omega
    have c1' : isSr c0 (.inr t) = true := c1
    have s1 := fun Q => c_x_isSign (d + 1) n c0 T (.inr t) M Q hL hc0 hst
    rw [eX3_takeSign]
    simp +decide only [qX3_takeSign, lx hL, s1, c1', b01, am_w1_i, am_w1_r, am_w1_x, am_w1_l, am_w1_w, va_rf_s, am_push_n, am_push_s, am_cs_0, am_cs_i, am_cs_l, am_cs_r, m_uI_K, m_uI_N, m_uI_R, m_uI_L, m_uI_I, m_uL_K, m_uL_N, m_uL_R, m_uL_I, m_uL_L, m_uR_K, m_uR_N, m_uR_I, m_uR_L, m_uR_R, true_and, and_true, true_implies, false_implies, not_true_eq_false, not_false_eq_true, if_true, if_false, false_and, and_false]
    refine g_step d t k res a c vs M _ hz hG ht0 hp (fun M1 e he g1 F1 => ?_) (fun M1 t1 g1 G1 hs1 hk1 => ?_)
    · have h0 := hF M1 e he g1 F1
      simp +decide only [qX3_takeSign, am_w1_i, am_w1_r, am_w1_x, am_w1_l, am_w1_w, va_rf_s, am_push_n, am_push_s, am_cs_0, am_cs_i, am_cs_l, am_cs_r, m_uI_K, m_uI_N, m_uI_R, m_uI_L, m_uI_I, m_uL_K, m_uL_N, m_uL_R, m_uL_I, m_uL_L, m_uR_K, m_uR_N, m_uR_I, m_uR_L, m_uR_R, true_and, and_true, true_implies, false_implies, not_true_eq_false, not_false_eq_true, if_true, if_false, false_and, and_false]
      exact h0
    · have h0 := hN M1 t1 g1 G1 hs1 hk1
      simp +decide only [qX3_takeSign, am_w1_i, am_w1_r, am_w1_x, am_w1_l, am_w1_w, va_rf_s, am_push_n, am_push_s, am_cs_0, am_cs_i, am_cs_l, am_cs_r, m_uI_K, m_uI_N, m_uI_R, m_uI_L, m_uI_I, m_uL_K, m_uL_N, m_uL_R, m_uL_I, m_uL_L, m_uR_K, m_uR_N, m_uR_I, m_uR_L, m_uR_R, true_and, and_true, true_implies, false_implies, not_true_eq_false, not_false_eq_true, if_true, if_false, false_and, and_false]
      exact h0
  · rw [if_neg c1] at hp
    cases hp
    refine c_x_takeSign d n c0 T (.inr t) M Q hL hc0 hst (fun M1 g1 h1 => ?_)
    have h1' : StR M1 T n (if isS t c0 = true then advR T n t else .inl (1, tS t)) := h1
    rw [if_neg c1] at h1'
    exact hF M1 _ rfl g1 ⟨h1', by rw [g1.2.2.1 _ _ (fun q => q)]; exact hpa, c, FmX_g hf g1 (fun q => by unfold sRd at q; omega)⟩
theorem f_sign (d c0 : Nat) (e : Nat × Nat) (M : am_M) (Q : Option Value → am_M → Prop) (hL : Lay M) (hz : z = 2 ∨ z = 83) (hc0 : c0 < 256) (hF : FaX M z T n e) (hQ : ∀ M', gF (sFz z) nT M M' → FaX M' z T n e → Q none M') : am_E am_P0 (d + 2) 41 [.ref 165, .int (nI c0)] M Q :=
  c_x_takeSign d n c0 T (.inl e) M Q hL hc0 hF.1 (fun M1 g1 h1 => hQ M1 (sRd_F g1) (FaX_r hF hz h1 g1))
end
end
section
/-! the class's parser: min, max, parts -/
section
variable {T : Nat → Nat} {n z : Nat}
theorem f_open (d c0 : Nat) (o : Int32) (e : Nat × Nat) (M : am_M) (Q : Option Value → am_M → Prop) (hL : Lay M) (hz : z = 2 ∨ z = 83) (hc0 : c0 < 256) (hF : FaX M z T n e) (hQ : ∀ M', gF (sFz z) nT M M' → FaX M' z T n e → Q (some (.int 0)) M') : am_E am_P0 (d + 2) 32 [.ref 164, .int (nI c0), .int o] M Q := by
  have hst : StR M T n (.inl e) := hF.1
  have s1 := fun Q => c_x_isSign (d + 1) n c0 T (.inl e) M Q hL hc0 hst
  rw [eX2_takeOpening]
  simp +decide only [qX2_takeOpening, lx hL, s1, isSr, b01, am_w1_i, am_w1_r, am_w1_x, am_w1_l, am_w1_w, va_rf_s, am_push_n, am_push_s, am_cs_0, am_cs_i, am_cs_l, am_cs_r, m_uI_K, m_uI_N, m_uI_R, m_uI_L, m_uI_I, m_uL_K, m_uL_N, m_uL_R, m_uL_I, m_uL_L, m_uR_K, m_uR_N, m_uR_I, m_uR_L, m_uR_R, true_and, and_true, true_implies, false_implies, not_true_eq_false, not_false_eq_true, if_true, if_false, false_and, and_false]
  rw [show (1 : Int32) = nI 1 from rfl]
  refine c_x_refuse d n 1 T (.inl e) M _ hL (by omega) hst (fun M1 g1 h1 => ?_)
  have h0 := hQ M1 (sRd_F g1) (FaX_r hF hz h1 g1)
  simp +decide only [qX2_takeOpening, am_w1_i, am_w1_r, am_w1_x, am_w1_l, am_w1_w, va_rf_s, am_push_n, am_push_s, am_cs_0, am_cs_i, am_cs_l, am_cs_r, m_uI_K, m_uI_N, m_uI_R, m_uI_L, m_uI_I, m_uL_K, m_uL_N, m_uL_R, m_uL_I, m_uL_L, m_uR_K, m_uR_N, m_uR_I, m_uR_L, m_uR_R, true_and, and_true, true_implies, false_implies, not_true_eq_false, not_false_eq_true, if_true, if_false, false_and, and_false]
  exact h0
theorem ft_41 (d : Nat) (x o : Int32) (e : Nat × Nat) (M : am_M) (Q : Option Value → am_M → Prop) (hL : Lay M) (hz : z = 2 ∨ z = 83) (hF : FaX M z T n e) (hQ : ∀ M', gF (sFz z) nT M M' → FaX M' z T n e → Q none M') : am_P am_P0 (d + 11) (am_look tX2_readChoice) 41 [.ref 164, .int x, .int o] [] M Q := by
  simp +decide only [qX2_readChoice, lx hL, am_w1_i, am_w1_r, am_w1_x, am_w1_l, am_w1_w, va_rf_s, am_push_n, am_push_s, am_cs_0, am_cs_i, am_cs_l, am_cs_r, m_uI_K, m_uI_N, m_uI_R, m_uI_L, m_uI_I, m_uL_K, m_uL_N, m_uL_R, m_uL_I, m_uL_L, m_uR_K, m_uR_N, m_uR_I, m_uR_L, m_uR_R, true_and, and_true, true_implies, false_implies, not_true_eq_false, not_false_eq_true, if_true, if_false, false_and, and_false]
  rw [show (41 : Int32) = nI 41 from rfl]
  refine f_sign (d + 8) 41 e M _ hL hz (by omega) hF (fun M1 g1 F1 => ?_)
  have L1 := gF_LayN g1 hL
  simp +decide only [qX2_readChoice, lx L1, lz L1 hz, F1.2.1, am_w1_i, am_w1_r, am_w1_x, am_w1_l, am_w1_w, va_rf_s, am_push_n, am_push_s, am_cs_0, am_cs_i, am_cs_l, am_cs_r, m_uI_K, m_uI_N, m_uI_R, m_uI_L, m_uI_I, m_uL_K, m_uL_N, m_uL_R, m_uL_I, m_uL_L, m_uR_K, m_uR_N, m_uR_I, m_uR_L, m_uR_R, true_and, and_true, true_implies, false_implies, not_true_eq_false, not_false_eq_true, if_true, if_false, false_and, and_false]
  refine f_emit (d + 10) e x M1 _ L1 hz F1 (fun M2 g2 F2 => ?_)
  have h0 := hQ M2 (gF_trans g1 g2) F2
  simp +decide only [qX2_readChoice, am_w1_i, am_w1_r, am_w1_x, am_w1_l, am_w1_w, va_rf_s, am_push_n, am_push_s, am_cs_0, am_cs_i, am_cs_l, am_cs_r, m_uI_K, m_uI_N, m_uI_R, m_uI_L, m_uI_I, m_uL_K, m_uL_N, m_uL_R, m_uL_I, m_uL_L, m_uR_K, m_uR_N, m_uR_I, m_uR_L, m_uR_R, true_and, and_true, true_implies, false_implies, not_true_eq_false, not_false_eq_true, if_true, if_false, false_and, and_false]
  exact h0
theorem ft_34 (d : Nat) (x o : Int32) (e : Nat × Nat) (M : am_M) (Q : Option Value → am_M → Prop) (hL : Lay M) (hz : z = 2 ∨ z = 83) (hF : FaX M z T n e) (hQ : ∀ M', gF (sFz z) nT M M' → FaX M' z T n e → Q none M') : am_P am_P0 (d + 11) (am_look tX2_readChoice) 34 [.ref 164, .int x, .int o] [] M Q := by
  simp +decide only [qX2_readChoice, lx hL, am_w1_i, am_w1_r, am_w1_x, am_w1_l, am_w1_w, va_rf_s, am_push_n, am_push_s, am_cs_0, am_cs_i, am_cs_l, am_cs_r, m_uI_K, m_uI_N, m_uI_R, m_uI_L, m_uI_I, m_uL_K, m_uL_N, m_uL_R, m_uL_I, m_uL_L, m_uR_K, m_uR_N, m_uR_I, m_uR_L, m_uR_R, true_and, and_true, true_implies, false_implies, not_true_eq_false, not_false_eq_true, if_true, if_false, false_and, and_false]
  refine f_sum (d + 6) (o + 1) e M _ hL hz hF (fun M1 g1 F1 => ?_)
  have L1 := gF_LayN g1 hL
  have h0 := ft_41 d x o e M1 Q L1 hz F1 (fun M' g' F' => hQ M' (gF_trans g1 g') F')
  simp +decide only [qX2_readChoice, lx L1, am_w1_i, am_w1_r, am_w1_x, am_w1_l, am_w1_w, va_rf_s, am_push_n, am_push_s, am_cs_0, am_cs_i, am_cs_l, am_cs_r, m_uI_K, m_uI_N, m_uI_R, m_uI_L, m_uI_I, m_uL_K, m_uL_N, m_uL_R, m_uL_I, m_uL_L, m_uR_K, m_uR_N, m_uR_I, m_uR_L, m_uR_R, true_and, and_true, true_implies, false_implies, not_true_eq_false, not_false_eq_true, if_true, if_false, false_and, and_false] at h0 ⊢
  exact h0
theorem ft_25 (d : Nat) (x o : Int32) (e : Nat × Nat) (M : am_M) (Q : Option Value → am_M → Prop) (hL : Lay M) (hz : z = 2 ∨ z = 83) (hF : FaX M z T n e) (hQ : ∀ M', gF (sFz z) nT M M' → FaX M' z T n e → Q none M') : am_P am_P0 (d + 11) (am_look tX2_readChoice) 25 [.ref 164, .int x, .int o] [] M Q := by
  simp +decide only [qX2_readChoice, lx hL, am_w1_i, am_w1_r, am_w1_x, am_w1_l, am_w1_w, va_rf_s, am_push_n, am_push_s, am_cs_0, am_cs_i, am_cs_l, am_cs_r, m_uI_K, m_uI_N, m_uI_R, m_uI_L, m_uI_I, m_uL_K, m_uL_N, m_uL_R, m_uL_I, m_uL_L, m_uR_K, m_uR_N, m_uR_I, m_uR_L, m_uR_R, true_and, and_true, true_implies, false_implies, not_true_eq_false, not_false_eq_true, if_true, if_false, false_and, and_false]
  rw [show (44 : Int32) = nI 44 from rfl]
  refine f_sign (d + 8) 44 e M _ hL hz (by omega) hF (fun M1 g1 F1 => ?_)
  have L1 := gF_LayN g1 hL
  have h0 := ft_34 d x o e M1 Q L1 hz F1 (fun M' g' F' => hQ M' (gF_trans g1 g') F')
  simp +decide only [qX2_readChoice, lx L1, am_w1_i, am_w1_r, am_w1_x, am_w1_l, am_w1_w, va_rf_s, am_push_n, am_push_s, am_cs_0, am_cs_i, am_cs_l, am_cs_r, m_uI_K, m_uI_N, m_uI_R, m_uI_L, m_uI_I, m_uL_K, m_uL_N, m_uL_R, m_uL_I, m_uL_L, m_uR_K, m_uR_N, m_uR_I, m_uR_L, m_uR_R, true_and, and_true, true_implies, false_implies, not_true_eq_false, not_false_eq_true, if_true, if_false, false_and, and_false] at h0 ⊢
  exact h0
theorem ft_18 (d : Nat) (x o : Int32) (e : Nat × Nat) (M : am_M) (Q : Option Value → am_M → Prop) (hL : Lay M) (hz : z = 2 ∨ z = 83) (hF : FaX M z T n e) (hQ : ∀ M', gF (sFz z) nT M M' → FaX M' z T n e → Q none M') : am_P am_P0 (d + 11) (am_look tX2_readChoice) 18 [.ref 164, .int x, .int o] [] M Q := by
  simp +decide only [qX2_readChoice, lx hL, am_w1_i, am_w1_r, am_w1_x, am_w1_l, am_w1_w, va_rf_s, am_push_n, am_push_s, am_cs_0, am_cs_i, am_cs_l, am_cs_r, m_uI_K, m_uI_N, m_uI_R, m_uI_L, m_uI_I, m_uL_K, m_uL_N, m_uL_R, m_uL_I, m_uL_L, m_uR_K, m_uR_N, m_uR_I, m_uR_L, m_uR_R, true_and, and_true, true_implies, false_implies, not_true_eq_false, not_false_eq_true, if_true, if_false, false_and, and_false]
  refine f_sum (d + 6) (o + 1) e M _ hL hz hF (fun M1 g1 F1 => ?_)
  have L1 := gF_LayN g1 hL
  have h0 := ft_25 d x o e M1 Q L1 hz F1 (fun M' g' F' => hQ M' (gF_trans g1 g') F')
  simp +decide only [qX2_readChoice, lx L1, am_w1_i, am_w1_r, am_w1_x, am_w1_l, am_w1_w, va_rf_s, am_push_n, am_push_s, am_cs_0, am_cs_i, am_cs_l, am_cs_r, m_uI_K, m_uI_N, m_uI_R, m_uI_L, m_uI_I, m_uL_K, m_uL_N, m_uL_R, m_uL_I, m_uL_L, m_uR_K, m_uR_N, m_uR_I, m_uR_L, m_uR_R, true_and, and_true, true_implies, false_implies, not_true_eq_false, not_false_eq_true, if_true, if_false, false_and, and_false] at h0 ⊢
  exact h0
theorem g_choice (hz : z = 2 ∨ z = 83) (hn : n ≤ 1800) (f : Nat) (h0 : HP T n z 0 26 3 2 f) (d op o : Nat) (x : Int32) (t : Tok) (v : Den) (res : Sum (Nat × Nat) (Tok × Den)) (a c : Nat) (vs : List Den) (M : am_M) (Q : Option Value → am_M → Prop) (ho : o ≤ 8) (hD : 12 * (9 - o) ≤ d + 12) (hx : inX x = (op, 0)) (hop1 : op = 15 ∨ op = 16) (hG : GoX T n z M a c vs t) (hl : vs.length ≤ 3 * o + 5) (ht0 : ¬ t.1 = 0)
    (hp : adv T n t (fun t0 => opn T n 40 o t0 (fun t1 => bnd (ps T n f 0 (o + 1) t1 v) (fun t2 u => tks T n 44 t2 (fun t3 => bnd (ps T n f 0 (o + 1) t3 v) (fun t4 u' => tks T n 41 t4 (fun t5 => some (.inr (t5, jnD op u u')))))))) = some res)
    (hQ : ∀ M', PoX T n z a c vs t M M' res → Q none M') : am_E am_P0 (d + 11) 31 [.ref 164, .int x, .int (nI o)] M Q := by
  have hL := hG.1
  have hct := hG.2.2.2.2.2
  have bad : ∀ M' e, res = .inl e → gF (sFz z) nT M M' → FaX M' z T n e → Q none M' := fun M' e he g F => hQ M' (by rw [he]; exact ⟨g, F⟩)
  rw [eX2_readChoice]
  simp +decide only [qX2_readChoice, lx hL, am_w1_i, am_w1_r, am_w1_x, am_w1_l, am_w1_w, va_rf_s, am_push_n, am_push_s, am_cs_0, am_cs_i, am_cs_l, am_cs_r, m_uI_K, m_uI_N, m_uI_R, m_uI_L, m_uI_I, m_uL_K, m_uL_N, m_uL_R, m_uL_I, m_uL_L, m_uR_K, m_uR_N, m_uR_I, m_uR_L, m_uR_R, true_and, and_true, true_implies, false_implies, not_true_eq_false, not_false_eq_true, if_true, if_false, false_and, and_false]
  refine g_step (d + 9) t _ res a c vs M _ hz hG ht0 hp (fun M1 e he g1 F1 => ?_) (fun M1 t0 g1 G1 hs1 hk1 => ?_)
  · have L1 := gF_LayN g1 hL
    simp +decide only [qX2_readChoice, lx L1, am_w1_i, am_w1_r, am_w1_x, am_w1_l, am_w1_w, va_rf_s, am_push_n, am_push_s, am_cs_0, am_cs_i, am_cs_l, am_cs_r, m_uI_K, m_uI_N, m_uI_R, m_uI_L, m_uI_I, m_uL_K, m_uL_N, m_uL_R, m_uL_I, m_uL_L, m_uR_K, m_uR_N, m_uR_I, m_uR_L, m_uR_R, true_and, and_true, true_implies, false_implies, not_true_eq_false, not_false_eq_true, if_true, if_false, false_and, and_false]
    rw [show (40 : Int32) = nI 40 from rfl]
    refine f_open (d + 8) 40 (nI o) e M1 _ L1 hz (by omega) F1 (fun M2 g2 F2 => ?_)
    have h9 := bad M2 e he (gF_trans (sRd_F g1) g2) F2
    simp +decide only [qX2_readChoice, am_w1_i, am_w1_r, am_w1_x, am_w1_l, am_w1_w, va_rf_s, am_push_n, am_push_s, am_cs_0, am_cs_i, am_cs_l, am_cs_r, m_uI_K, m_uI_N, m_uI_R, m_uI_L, m_uI_I, m_uL_K, m_uL_N, m_uL_R, m_uL_I, m_uL_L, m_uR_K, m_uR_N, m_uR_I, m_uR_L, m_uR_R, true_and, and_true, true_implies, false_implies, not_true_eq_false, not_false_eq_true, if_true, if_false, false_and, and_false]
    exact h9
  · have L1 := G1.1
    simp +decide only [qX2_readChoice, lx L1, am_w1_i, am_w1_r, am_w1_x, am_w1_l, am_w1_w, va_rf_s, am_push_n, am_push_s, am_cs_0, am_cs_i, am_cs_l, am_cs_r, m_uI_K, m_uI_N, m_uI_R, m_uI_L, m_uI_I, m_uL_K, m_uL_N, m_uL_R, m_uL_I, m_uL_L, m_uR_K, m_uR_N, m_uR_I, m_uR_L, m_uR_R, true_and, and_true, true_implies, false_implies, not_true_eq_false, not_false_eq_true, if_true, if_false, false_and, and_false]
    rw [show (40 : Int32) = nI 40 from rfl]
    refine g_open (d + 8) 40 o t0 _ res a c vs M1 _ hz (by omega) ho G1 hk1 (fun M2 e he g2 F2 => ?_) (fun M2 e he g2 F2 => ?_) (fun M2 t1 ho8 g2 G2 hs2 hk2 => ?_)
    · have h9 := bad M2 e he (gF_trans (sRd_F g1) (sRd_F g2)) F2
      simp +decide only [qX2_readChoice, am_w1_i, am_w1_r, am_w1_x, am_w1_l, am_w1_w, va_rf_s, am_push_n, am_push_s, am_cs_0, am_cs_i, am_cs_l, am_cs_r, m_uI_K, m_uI_N, m_uI_R, m_uI_L, m_uI_I, m_uL_K, m_uL_N, m_uL_R, m_uL_I, m_uL_L, m_uR_K, m_uR_N, m_uR_I, m_uR_L, m_uR_R, true_and, and_true, true_implies, false_implies, not_true_eq_false, not_false_eq_true, if_true, if_false, false_and, and_false]
      exact h9
    · have L2 := gF_LayN g2 L1
      have h9 := ft_18 d x (nI o) e M2 Q L2 hz F2 (fun M' g' F' => bad M' e he (gF_trans (sRd_F g1) (gF_trans (sRd_F g2) g')) F')
      simp +decide only [qX2_readChoice, lx L2, am_w1_i, am_w1_r, am_w1_x, am_w1_l, am_w1_w, va_rf_s, am_push_n, am_push_s, am_cs_0, am_cs_i, am_cs_l, am_cs_r, m_uI_K, m_uI_N, m_uI_R, m_uI_L, m_uI_I, m_uL_K, m_uL_N, m_uL_R, m_uL_I, m_uL_L, m_uR_K, m_uR_N, m_uR_I, m_uR_L, m_uR_R, true_and, and_true, true_implies, false_implies, not_true_eq_false, not_false_eq_true, if_true, if_false, false_and, and_false] at h9 ⊢
      exact h9
    · have L2 := G2.1
      simp +decide only [qX2_readChoice, lx L2, ni_add1, am_w1_i, am_w1_r, am_w1_x, am_w1_l, am_w1_w, va_rf_s, am_push_n, am_push_s, am_cs_0, am_cs_i, am_cs_l, am_cs_r, m_uI_K, m_uI_N, m_uI_R, m_uI_L, m_uI_I, m_uL_K, m_uL_N, m_uL_R, m_uL_I, m_uL_L, m_uR_K, m_uR_N, m_uR_I, m_uR_L, m_uR_R, true_and, and_true, true_implies, false_implies, not_true_eq_false, not_false_eq_true, if_true, if_false, false_and, and_false]
      have tail25 : ∀ M3 e, res = .inl e → gF (sFz z) nT M M3 → FaX M3 z T n e → am_P am_P0 (d + 11) (am_look tX2_readChoice) 25 [.ref 164, .int x, .int (nI o)] [] M3 Q := fun M3 e he g3 F3 => ft_25 d x (nI o) e M3 Q (gF_LayN g3 hL) hz F3 (fun M' g' F' => bad M' e he (gF_trans g3 g') F')
      have G12 : gF (sPz z c) nT M M2 := gF_trans (sRd_P g1) (sRd_P g2)
      rcases bnd_some hk2 with ⟨e, he1, he2⟩ | ⟨t2, u, he1, he2⟩
      · refine h0 (d + 10) (o + 1) t1 v a c vs M2 _ _ (by omega) (by omega) G2 (by omega) he1 (fun M3 P3 => ?_)
        obtain ⟨g3, F3⟩ : gF (sFz z) nT M2 M3 ∧ FaX M3 z T n e := P3
        have h9 := tail25 M3 e he2 (gF_trans (sPz_F G12) g3) F3
        simp +decide only [qX2_readChoice, lx (gF_LayN g3 L2), am_w1_i, am_w1_r, am_w1_x, am_w1_l, am_w1_w, va_rf_s, am_push_n, am_push_s, am_cs_0, am_cs_i, am_cs_l, am_cs_r, m_uI_K, m_uI_N, m_uI_R, m_uI_L, m_uI_I, m_uL_K, m_uL_N, m_uL_R, m_uL_I, m_uL_L, m_uR_K, m_uR_N, m_uR_I, m_uR_L, m_uR_R, true_and, and_true, true_implies, false_implies, not_true_eq_false, not_false_eq_true, if_true, if_false, false_and, and_false] at h9 ⊢
        exact h9
      · refine h0 (d + 10) (o + 1) t1 v a c vs M2 _ _ (by omega) (by omega) G2 (by omega) he1 (fun M3 P3 => ?_)
        obtain ⟨g3, c3, G3, hc3, hc3'⟩ : gF (sPz z c) nT M2 M3 ∧ ∃ c', GoX T n z M3 a c' (u :: vs) t2 ∧ c ≤ c' ∧ c' + tS t1 ≤ c + tS t2 := P3
        have L3 := G3.1
        have hbu := ((ps_typ (T := T) (n := n) f).1 (o + 1) t1 v (tkG_OK (GoX_t G2)) t2 u he1).2
        have G13 := gF_trans G12 g3
        simp +decide only [qX2_readChoice, lx L3, am_w1_i, am_w1_r, am_w1_x, am_w1_l, am_w1_w, va_rf_s, am_push_n, am_push_s, am_cs_0, am_cs_i, am_cs_l, am_cs_r, m_uI_K, m_uI_N, m_uI_R, m_uI_L, m_uI_I, m_uL_K, m_uL_N, m_uL_R, m_uL_I, m_uL_L, m_uR_K, m_uR_N, m_uR_I, m_uR_L, m_uR_R, true_and, and_true, true_implies, false_implies, not_true_eq_false, not_false_eq_true, if_true, if_false, false_and, and_false]
        rw [show (44 : Int32) = nI 44 from rfl]
        refine g_sign (d + 8) 44 t2 _ res a c3 (u :: vs) M3 _ hz (by omega) G3 he2 (fun M4 e he g4 F4 => ?_) (fun M4 t3 g4 G4 hs4 hk4 => ?_)
        · have h9 := ft_34 d x (nI o) e M4 Q (gF_LayN g4 L3) hz F4 (fun M' g' F' => bad M' e he (gF_trans (sPz_F G13) (gF_trans (sRd_F g4) g')) F')
          simp +decide only [qX2_readChoice, lx (gF_LayN g4 L3), am_w1_i, am_w1_r, am_w1_x, am_w1_l, am_w1_w, va_rf_s, am_push_n, am_push_s, am_cs_0, am_cs_i, am_cs_l, am_cs_r, m_uI_K, m_uI_N, m_uI_R, m_uI_L, m_uI_I, m_uL_K, m_uL_N, m_uL_R, m_uL_I, m_uL_L, m_uR_K, m_uR_N, m_uR_I, m_uR_L, m_uR_R, true_and, and_true, true_implies, false_implies, not_true_eq_false, not_false_eq_true, if_true, if_false, false_and, and_false] at h9 ⊢
          exact h9
        · have L4 := G4.1
          have G14 := gF_trans G13 (sRd_P (z := z) (c := c) g4)
          simp +decide only [qX2_readChoice, lx L4, ni_add1, am_w1_i, am_w1_r, am_w1_x, am_w1_l, am_w1_w, va_rf_s, am_push_n, am_push_s, am_cs_0, am_cs_i, am_cs_l, am_cs_r, m_uI_K, m_uI_N, m_uI_R, m_uI_L, m_uI_I, m_uL_K, m_uL_N, m_uL_R, m_uL_I, m_uL_L, m_uR_K, m_uR_N, m_uR_I, m_uR_L, m_uR_R, true_and, and_true, true_implies, false_implies, not_true_eq_false, not_false_eq_true, if_true, if_false, false_and, and_false]
          rcases bnd_some hk4 with ⟨e, hf1, hf2⟩ | ⟨t4, u', hf1, hf2⟩
          · refine h0 (d + 10) (o + 1) t3 v a c3 (u :: vs) M4 _ _ (by omega) (by omega) G4 (by rw [List.length_cons]; omega) hf1 (fun M5 P5 => ?_)
            obtain ⟨g5, F5⟩ : gF (sFz z) nT M4 M5 ∧ FaX M5 z T n e := P5
            have h9 := ft_41 d x (nI o) e M5 Q (gF_LayN g5 L4) hz F5 (fun M' g' F' => bad M' e hf2 (gF_trans (sPz_F G14) (gF_trans g5 g')) F')
            simp +decide only [qX2_readChoice, lx (gF_LayN g5 L4), am_w1_i, am_w1_r, am_w1_x, am_w1_l, am_w1_w, va_rf_s, am_push_n, am_push_s, am_cs_0, am_cs_i, am_cs_l, am_cs_r, m_uI_K, m_uI_N, m_uI_R, m_uI_L, m_uI_I, m_uL_K, m_uL_N, m_uL_R, m_uL_I, m_uL_L, m_uR_K, m_uR_N, m_uR_I, m_uR_L, m_uR_R, true_and, and_true, true_implies, false_implies, not_true_eq_false, not_false_eq_true, if_true, if_false, false_and, and_false] at h9 ⊢
            exact h9
          · refine h0 (d + 10) (o + 1) t3 v a c3 (u :: vs) M4 _ _ (by omega) (by omega) G4 (by rw [List.length_cons]; omega) hf1 (fun M5 P5 => ?_)
            obtain ⟨g5, c5, G5, hc5, hc5'⟩ : gF (sPz z c3) nT M4 M5 ∧ ∃ c', GoX T n z M5 a c' (u' :: u :: vs) t4 ∧ c3 ≤ c' ∧ c' + tS t3 ≤ c3 + tS t4 := P5
            have L5 := G5.1
            have hbu' := ((ps_typ (T := T) (n := n) f).1 (o + 1) t3 v (tkG_OK (GoX_t G4)) t4 u' hf1).2
            have G15 := gF_trans G14 (sPz_le (c := c) g5 hc3)
            simp +decide only [qX2_readChoice, lx L5, am_w1_i, am_w1_r, am_w1_x, am_w1_l, am_w1_w, va_rf_s, am_push_n, am_push_s, am_cs_0, am_cs_i, am_cs_l, am_cs_r, m_uI_K, m_uI_N, m_uI_R, m_uI_L, m_uI_I, m_uL_K, m_uL_N, m_uL_R, m_uL_I, m_uL_L, m_uR_K, m_uR_N, m_uR_I, m_uR_L, m_uR_R, true_and, and_true, true_implies, false_implies, not_true_eq_false, not_false_eq_true, if_true, if_false, false_and, and_false]
            rw [show (41 : Int32) = nI 41 from rfl]
            refine g_sign (d + 8) 41 t4 _ res a c5 (u' :: u :: vs) M5 _ hz (by omega) G5 hf2 (fun M6 e he g6 F6 => ?_) (fun M6 t5 g6 G6 hs6 hk6 => ?_)
            · have L6 := gF_LayN g6 L5
              simp +decide only [qX2_readChoice, lx L6, lz L6 hz, F6.2.1, am_w1_i, am_w1_r, am_w1_x, am_w1_l, am_w1_w, va_rf_s, am_push_n, am_push_s, am_cs_0, am_cs_i, am_cs_l, am_cs_r, m_uI_K, m_uI_N, m_uI_R, m_uI_L, m_uI_I, m_uL_K, m_uL_N, m_uL_R, m_uL_I, m_uL_L, m_uR_K, m_uR_N, m_uR_I, m_uR_L, m_uR_R, true_and, and_true, true_implies, false_implies, not_true_eq_false, not_false_eq_true, if_true, if_false, false_and, and_false]
              refine f_emit (d + 10) e x M6 _ L6 hz F6 (fun M7 g7 F7 => ?_)
              have h9 := bad M7 e he (gF_trans (sPz_F G15) (gF_trans (sRd_F g6) g7)) F7
              simp +decide only [qX2_readChoice, am_w1_i, am_w1_r, am_w1_x, am_w1_l, am_w1_w, va_rf_s, am_push_n, am_push_s, am_cs_0, am_cs_i, am_cs_l, am_cs_r, m_uI_K, m_uI_N, m_uI_R, m_uI_L, m_uI_I, m_uL_K, m_uL_N, m_uL_R, m_uL_I, m_uL_L, m_uR_K, m_uR_N, m_uR_I, m_uR_L, m_uR_R, true_and, and_true, true_implies, false_implies, not_true_eq_false, not_false_eq_true, if_true, if_false, false_and, and_false]
              exact h9
            · cases hk6
              have L6 := G6.1
              have hop := op_bin (r := vs) hx (by omega) (by omega) hbu hbu'
              simp +decide only [qX2_readChoice, lx L6, lz L6 hz, G6.2.1, am_w1_i, am_w1_r, am_w1_x, am_w1_l, am_w1_w, va_rf_s, am_push_n, am_push_s, am_cs_0, am_cs_i, am_cs_l, am_cs_r, m_uI_K, m_uI_N, m_uI_R, m_uI_L, m_uI_I, m_uL_K, m_uL_N, m_uL_R, m_uL_I, m_uL_L, m_uR_K, m_uR_N, m_uR_I, m_uR_L, m_uR_R, true_and, and_true, true_implies, false_implies, not_true_eq_false, not_false_eq_true, if_true, if_false, false_and, and_false]
              refine g_emit (d + 10) x t5 a c5 (u' :: u :: vs) M6 _ hz hn G6 (by omega) hop.1 (fun M7 g7 G7 => ?_)
              rw [hop.2] at G7
              have h9 := hQ M7 ⟨gF_trans G15 (gF_trans (sRd_P g6) (sPz_le g7 (by omega))), c5 + 1, G7, by omega, by show c5 + 1 + tS t ≤ c + tS t5; omega⟩
              simp +decide only [qX2_readChoice, am_w1_i, am_w1_r, am_w1_x, am_w1_l, am_w1_w, va_rf_s, am_push_n, am_push_s, am_cs_0, am_cs_i, am_cs_l, am_cs_r, m_uI_K, m_uI_N, m_uI_R, m_uI_L, m_uI_I, m_uL_K, m_uL_N, m_uL_R, m_uL_I, m_uL_L, m_uR_K, m_uR_N, m_uR_I, m_uR_L, m_uR_R, true_and, and_true, true_implies, false_implies, not_true_eq_false, not_false_eq_true, if_true, if_false, false_and, and_false]
              exact h9
theorem lk_w (x : Int32) (h : ¬ x = 1 ∧ ¬ x = 16 ∧ ¬ x = 23 ∧ ¬ x = 24 ∧ ¬ x = 25 ∧ ¬ x = 26) : am_lk [(1, 154), (16, 145), (23, 128), (24, 136), (25, 163), (26, 173)] 183 x = 183 := by
  refine am_lk_out (fun q hq => ?_)
  have k : ∀ y : Int32, ¬ x = y → y.toInt ≠ x.toInt := fun y hy e => hy (Int32.toInt_inj.mp e).symm
  obtain ⟨h1, h2, h3, h4, h5, h6⟩ := h
  simp only [List.mem_cons, List.not_mem_nil, or_false] at hq
  rcases hq with rfl | rfl | rfl | rfl | rfl | rfl
  · exact k 1 h1
  · exact k 16 h2
  · exact k 23 h3
  · exact k 24 h4
  · exact k 25 h5
  · exact k 26 h6
theorem isW_uniq {t : Tok} {l m : List Nat} (h1 : isW t l = true) (h2 : isW t m = true) : l = m := (isW_1 h1).2.symm.trans (isW_1 h2).2
theorem g_part (hz : z = 2 ∨ z = 83) (hn : n ≤ 1800) (f : Nat) (h0 : ∀ f', f' < f → HP T n z 0 26 3 2 f') : HP T n z 4 29 5 0 f := by
  intro D o t v0 a c vs M Q res ho hD hG hl hp hQ
  cases f with
  | zero => cases hp
  | succ f =>
    obtain ⟨d, rfl⟩ : ∃ d, D = d + 12 := ⟨D - 12, by omega⟩
    rw [ps_4] at hp
    obtain ⟨hL, hpa, hR, hf, hc, hct⟩ := id hG
    have hst : StR M T n (.inr t) := hR
    have hG4 := hR.2.2.2.2.1
    have hG5 := hR.2.2.2.2.2.2.2.1
    have hsz := GoX_t hG
    have hle := hsz.2.2.1
    have s1 := fun Q => c_x_isSign (d + 11) n 40 T (.inr t) M Q hL (by omega) hst
    rw [show nI 40 = (40 : Int32) from rfl] at s1
    have bad : ∀ M' e, res = .inl e → gF (sFz z) nT M M' → FaX M' z T n e → Q none M' := fun M' e he g F => hQ M' (by rw [he]; exact ⟨g, F⟩)
    rw [eX2_readPart]
    by_cases c2 : t.1 = 2
    · have hle9 := hsz.2.2.2.2.2.2.1 c2
      have el : leaf t = some (fun _ => (t.2.1 : Int)) := by unfold leaf; rw [if_pos c2]
      rw [el] at hp
      rw [if_neg (by omega)] at hG5
      have hin : inX (nI t.2.1) = (0, (t.2.1 : Int)) := by unfold inX; rw [ni_ti (by omega), if_pos (by omega)]
      have hop : opOK 64 (inX (nI t.2.1)) vs ∧ stD (inX (nI t.2.1)) vs = (fun _ => (t.2.1 : Int)) :: vs := op_leaf (by rw [hin]; show 0 < 10; omega) (by rw [hin]; rfl) (leaf_bd (tkG_OK hsz) el) (by omega)
      have e2 : nI t.1 = 2 := by rw [c2]; rfl
      simp +decide only [qX2_readPart_0, qX2_readPart_1, lx hL, hG4, hG5, e2, am_w1_i, am_w1_r, am_w1_x, am_w1_l, am_w1_w, va_rf_s, am_push_n, am_push_s, am_cs_0, am_cs_i, am_cs_l, am_cs_r, m_uI_K, m_uI_N, m_uI_R, m_uI_L, m_uI_I, m_uL_K, m_uL_N, m_uL_R, m_uL_I, m_uL_L, m_uR_K, m_uR_N, m_uR_I, m_uR_L, m_uR_R, true_and, and_true, true_implies, false_implies, not_true_eq_false, not_false_eq_true, if_true, if_false, false_and, and_false]
      refine g_leaf (d + 9) (nI t.2.1) _ t res a c vs M _ hz hn hG (by omega) hop hp (fun M1 P1 => ?_)
      have h9 := hQ M1 P1
      simp +decide only [qX2_readPart_0, qX2_readPart_1, am_w1_i, am_w1_r, am_w1_x, am_w1_l, am_w1_w, va_rf_s, am_push_n, am_push_s, am_cs_0, am_cs_i, am_cs_l, am_cs_r, m_uI_K, m_uI_N, m_uI_R, m_uI_L, m_uI_I, m_uL_K, m_uL_N, m_uL_R, m_uL_I, m_uL_L, m_uR_K, m_uR_N, m_uR_I, m_uR_L, m_uR_R, true_and, and_true, true_implies, false_implies, not_true_eq_false, not_false_eq_true, if_true, if_false, false_and, and_false]
      exact h9
    · have n2 : ¬ nI t.1 = 2 := fun q => c2 ((ni_eq (b := 2) (by omega) (by omega)).mp q)
      by_cases c40 : isS t 40 = true
      · have el : leaf t = none := by
          have h3 := isS_1 c40
          unfold leaf
          rw [if_neg c2, if_neg (by rw [isW_0 (fun q => by omega)]; decide), if_neg (by rw [isW_0 (fun q => by omega)]; decide), if_neg (by rw [isW_0 (fun q => by omega)]; decide), if_neg (by rw [isW_0 (fun q => by omega)]; decide)]
        rw [el] at hp
        dsimp only at hp
        rw [if_pos c40] at hp
        have c40' : isSr 40 (.inr t) = true := c40
        simp +decide only [qX2_readPart_0, qX2_readPart_1, lx hL, hG4, s1, c40', b01, am_w1_i, am_w1_r, am_w1_x, am_w1_l, am_w1_w, va_rf_s, am_push_n, am_push_s, am_cs_0, am_cs_i, am_cs_l, am_cs_r, m_uI_K, m_uI_N, m_uI_R, m_uI_L, m_uI_I, m_uL_K, m_uL_N, m_uL_R, m_uL_I, m_uL_L, m_uR_K, m_uR_N, m_uR_I, m_uR_L, m_uR_R, true_and, and_true, true_implies, false_implies, not_true_eq_false, not_false_eq_true, if_true, if_false, false_and, and_false]
        rw [br_p n2, show (40 : Int32) = nI 40 from rfl]
        refine g_open (d + 9) 40 o t _ res a c vs M _ hz (by omega) ho hG hp (fun M2 e he g2 F2 => ?_) (fun M2 e he g2 F2 => ?_) (fun M2 t1 ho8 g2 G2 hs2 hk2 => ?_)
        · have h9 := bad M2 e he (sRd_F g2) F2
          simp +decide only [qX2_readPart_0, qX2_readPart_1, am_w1_i, am_w1_r, am_w1_x, am_w1_l, am_w1_w, va_rf_s, am_push_n, am_push_s, am_cs_0, am_cs_i, am_cs_l, am_cs_r, m_uI_K, m_uI_N, m_uI_R, m_uI_L, m_uI_I, m_uL_K, m_uL_N, m_uL_R, m_uL_I, m_uL_L, m_uR_K, m_uR_N, m_uR_I, m_uR_L, m_uR_R, true_and, and_true, true_implies, false_implies, not_true_eq_false, not_false_eq_true, if_true, if_false, false_and, and_false]
          exact h9
        · have L2 := gF_LayN g2 hL
          simp +decide only [qX2_readPart_0, qX2_readPart_1, lx L2, am_w1_i, am_w1_r, am_w1_x, am_w1_l, am_w1_w, va_rf_s, am_push_n, am_push_s, am_cs_0, am_cs_i, am_cs_l, am_cs_r, m_uI_K, m_uI_N, m_uI_R, m_uI_L, m_uI_I, m_uL_K, m_uL_N, m_uL_R, m_uL_I, m_uL_L, m_uR_K, m_uR_N, m_uR_I, m_uR_L, m_uR_R, true_and, and_true, true_implies, false_implies, not_true_eq_false, not_false_eq_true, if_true, if_false, false_and, and_false]
          refine f_sum (d + 7) (nI o + 1) e M2 _ L2 hz F2 (fun M3 g3 F3 => ?_)
          have L3 := gF_LayN g3 L2
          simp +decide only [qX2_readPart_0, qX2_readPart_1, lx L3, am_w1_i, am_w1_r, am_w1_x, am_w1_l, am_w1_w, va_rf_s, am_push_n, am_push_s, am_cs_0, am_cs_i, am_cs_l, am_cs_r, m_uI_K, m_uI_N, m_uI_R, m_uI_L, m_uI_I, m_uL_K, m_uL_N, m_uL_R, m_uL_I, m_uL_L, m_uR_K, m_uR_N, m_uR_I, m_uR_L, m_uR_R, true_and, and_true, true_implies, false_implies, not_true_eq_false, not_false_eq_true, if_true, if_false, false_and, and_false]
          rw [show (41 : Int32) = nI 41 from rfl]
          refine f_sign (d + 9) 41 e M3 _ L3 hz (by omega) F3 (fun M4 g4 F4 => ?_)
          have h9 := bad M4 e he (gF_trans (sRd_F g2) (gF_trans g3 g4)) F4
          simp +decide only [qX2_readPart_0, qX2_readPart_1, am_w1_i, am_w1_r, am_w1_x, am_w1_l, am_w1_w, va_rf_s, am_push_n, am_push_s, am_cs_0, am_cs_i, am_cs_l, am_cs_r, m_uI_K, m_uI_N, m_uI_R, m_uI_L, m_uI_I, m_uL_K, m_uL_N, m_uL_R, m_uL_I, m_uL_L, m_uR_K, m_uR_N, m_uR_I, m_uR_L, m_uR_R, true_and, and_true, true_implies, false_implies, not_true_eq_false, not_false_eq_true, if_true, if_false, false_and, and_false]
          exact h9
        · have L2 := G2.1
          simp +decide only [qX2_readPart_0, qX2_readPart_1, lx L2, ni_add1, am_w1_i, am_w1_r, am_w1_x, am_w1_l, am_w1_w, va_rf_s, am_push_n, am_push_s, am_cs_0, am_cs_i, am_cs_l, am_cs_r, m_uI_K, m_uI_N, m_uI_R, m_uI_L, m_uI_I, m_uL_K, m_uL_N, m_uL_R, m_uL_I, m_uL_L, m_uR_K, m_uR_N, m_uR_I, m_uR_L, m_uR_R, true_and, and_true, true_implies, false_implies, not_true_eq_false, not_false_eq_true, if_true, if_false, false_and, and_false]
          rcases bnd_some hk2 with ⟨e, he1, he2⟩ | ⟨t2, u, he1, he2⟩
          · refine h0 f (by omega) (d + 11) (o + 1) t1 v0 a c vs M2 _ _ (by omega) (by omega) G2 (by omega) he1 (fun M3 P3 => ?_)
            obtain ⟨g3, F3⟩ : gF (sFz z) nT M2 M3 ∧ FaX M3 z T n e := P3
            have L3 := gF_LayN g3 L2
            simp +decide only [qX2_readPart_0, qX2_readPart_1, lx L3, am_w1_i, am_w1_r, am_w1_x, am_w1_l, am_w1_w, va_rf_s, am_push_n, am_push_s, am_cs_0, am_cs_i, am_cs_l, am_cs_r, m_uI_K, m_uI_N, m_uI_R, m_uI_L, m_uI_I, m_uL_K, m_uL_N, m_uL_R, m_uL_I, m_uL_L, m_uR_K, m_uR_N, m_uR_I, m_uR_L, m_uR_R, true_and, and_true, true_implies, false_implies, not_true_eq_false, not_false_eq_true, if_true, if_false, false_and, and_false]
            rw [show (41 : Int32) = nI 41 from rfl]
            refine f_sign (d + 9) 41 e M3 _ L3 hz (by omega) F3 (fun M4 g4 F4 => ?_)
            have h9 := bad M4 e he2 (gF_trans (sRd_F g2) (gF_trans g3 g4)) F4
            simp +decide only [qX2_readPart_0, qX2_readPart_1, am_w1_i, am_w1_r, am_w1_x, am_w1_l, am_w1_w, va_rf_s, am_push_n, am_push_s, am_cs_0, am_cs_i, am_cs_l, am_cs_r, m_uI_K, m_uI_N, m_uI_R, m_uI_L, m_uI_I, m_uL_K, m_uL_N, m_uL_R, m_uL_I, m_uL_L, m_uR_K, m_uR_N, m_uR_I, m_uR_L, m_uR_R, true_and, and_true, true_implies, false_implies, not_true_eq_false, not_false_eq_true, if_true, if_false, false_and, and_false]
            exact h9
          · refine h0 f (by omega) (d + 11) (o + 1) t1 v0 a c vs M2 _ _ (by omega) (by omega) G2 (by omega) he1 (fun M3 P3 => ?_)
            obtain ⟨g3, c3, G3, hc3, hc3'⟩ : gF (sPz z c) nT M2 M3 ∧ ∃ c', GoX T n z M3 a c' (u :: vs) t2 ∧ c ≤ c' ∧ c' + tS t1 ≤ c + tS t2 := P3
            have L3 := G3.1
            simp +decide only [qX2_readPart_0, qX2_readPart_1, lx L3, am_w1_i, am_w1_r, am_w1_x, am_w1_l, am_w1_w, va_rf_s, am_push_n, am_push_s, am_cs_0, am_cs_i, am_cs_l, am_cs_r, m_uI_K, m_uI_N, m_uI_R, m_uI_L, m_uI_I, m_uL_K, m_uL_N, m_uL_R, m_uL_I, m_uL_L, m_uR_K, m_uR_N, m_uR_I, m_uR_L, m_uR_R, true_and, and_true, true_implies, false_implies, not_true_eq_false, not_false_eq_true, if_true, if_false, false_and, and_false]
            rw [show (41 : Int32) = nI 41 from rfl]
            refine g_sign (d + 9) 41 t2 _ res a c3 (u :: vs) M3 _ hz (by omega) G3 he2 (fun M4 e he g4 F4 => ?_) (fun M4 t3 g4 G4 hs4 hk4 => ?_)
            · have h9 := bad M4 e he (gF_trans (sRd_F g2) (gF_trans (sPz_F g3) (sRd_F g4))) F4
              simp +decide only [qX2_readPart_0, qX2_readPart_1, am_w1_i, am_w1_r, am_w1_x, am_w1_l, am_w1_w, va_rf_s, am_push_n, am_push_s, am_cs_0, am_cs_i, am_cs_l, am_cs_r, m_uI_K, m_uI_N, m_uI_R, m_uI_L, m_uI_I, m_uL_K, m_uL_N, m_uL_R, m_uL_I, m_uL_L, m_uR_K, m_uR_N, m_uR_I, m_uR_L, m_uR_R, true_and, and_true, true_implies, false_implies, not_true_eq_false, not_false_eq_true, if_true, if_false, false_and, and_false]
              exact h9
            · cases hk4
              have h9 := hQ M4 ⟨gF_trans (sRd_P g2) (gF_trans g3 (sRd_P g4)), c3, G4, hc3, by show c3 + tS t ≤ c + tS t3; omega⟩
              simp +decide only [qX2_readPart_0, qX2_readPart_1, am_w1_i, am_w1_r, am_w1_x, am_w1_l, am_w1_w, va_rf_s, am_push_n, am_push_s, am_cs_0, am_cs_i, am_cs_l, am_cs_r, m_uI_K, m_uI_N, m_uI_R, m_uI_L, m_uI_I, m_uL_K, m_uL_N, m_uL_R, m_uL_I, m_uL_L, m_uR_K, m_uR_N, m_uR_I, m_uR_L, m_uR_R, true_and, and_true, true_implies, false_implies, not_true_eq_false, not_false_eq_true, if_true, if_false, false_and, and_false]
              exact h9
      · have c40' : isSr 40 (.inr t) = false := by show isS t 40 = false; simpa using c40
        have hw := fun k (hk : k < 27) => wr_is hst hk
        -- the words of a part
        have word : ∀ (k : Nat) (hk : k < 27) (x : Int32) (tg : Nat), mI M 165 6 = nI k → True := fun _ _ _ _ _ => trivial
        simp +decide only [qX2_readPart_0, qX2_readPart_1, lx hL, hG4, s1, c40', b01, am_w1_i, am_w1_r, am_w1_x, am_w1_l, am_w1_w, va_rf_s, am_push_n, am_push_s, am_cs_0, am_cs_i, am_cs_l, am_cs_r, m_uI_K, m_uI_N, m_uI_R, m_uI_L, m_uI_I, m_uL_K, m_uL_N, m_uL_R, m_uL_I, m_uL_L, m_uR_K, m_uR_N, m_uR_I, m_uR_L, m_uR_R, true_and, and_true, true_implies, false_implies, not_true_eq_false, not_false_eq_true, if_true, if_false, false_and, and_false]
        rw [br_p n2]
        have leafW : ∀ (x : Int32) (u : Den) (pc : Nat), leaf t = some u → ldD (inX x) = u → (inX x).1 < 10 → am_E am_P0 (d + 11) 30 [.ref 164, .int x] M (fun r M2 => r = none → Q none M2) := fun x u pc el hl2 hl1 => by
          rw [el] at hp
          refine g_leaf (d + 9) x u t res a c vs M _ hz hn hG (leaf_k el) (op_leaf hl1 hl2 (leaf_bd (tkG_OK hsz) el) (by omega)) hp (fun M1 P1 _ => hQ M1 P1)
        by_cases w23 : isW t wCol = true
        · have h6 := (hw 23 (by omega)).mpr w23
          have el : leaf t = some (fun e => (e.1 : Int)) := by unfold leaf; rw [if_neg c2, if_pos w23]
          rw [el] at hp
          have elk : am_lk [(1, 154), (16, 145), (23, 128), (24, 136), (25, 163), (26, 173)] 183 (nI 23) = 128 := by decide
          rw [h6, elk]
          simp +decide only [qX2_readPart_0, qX2_readPart_1, lx hL, am_w1_i, am_w1_r, am_w1_x, am_w1_l, am_w1_w, va_rf_s, am_push_n, am_push_s, am_cs_0, am_cs_i, am_cs_l, am_cs_r, m_uI_K, m_uI_N, m_uI_R, m_uI_L, m_uI_I, m_uL_K, m_uL_N, m_uL_R, m_uL_I, m_uL_L, m_uR_K, m_uR_N, m_uR_I, m_uR_L, m_uR_R, true_and, and_true, true_implies, false_implies, not_true_eq_false, not_false_eq_true, if_true, if_false, false_and, and_false]
          refine g_leaf (d + 9) (-1) _ t res a c vs M _ hz hn hG (leaf_k el) (op_leaf (by decide) rfl (leaf_bd (tkG_OK hsz) el) (by omega)) hp (fun M1 P1 => ?_)
          have h9 := hQ M1 P1
          simp +decide only [qX2_readPart_0, qX2_readPart_1, am_w1_i, am_w1_r, am_w1_x, am_w1_l, am_w1_w, va_rf_s, am_push_n, am_push_s, am_cs_0, am_cs_i, am_cs_l, am_cs_r, m_uI_K, m_uI_N, m_uI_R, m_uI_L, m_uI_I, m_uL_K, m_uL_N, m_uL_R, m_uL_I, m_uL_L, m_uR_K, m_uR_N, m_uR_I, m_uR_L, m_uR_R, true_and, and_true, true_implies, false_implies, not_true_eq_false, not_false_eq_true, if_true, if_false, false_and, and_false]
          exact h9
        · by_cases w24 : isW t wRow = true
          · have h6 := (hw 24 (by omega)).mpr w24
            have el : leaf t = some (fun e => (e.2.1 : Int)) := by unfold leaf; rw [if_neg c2, if_neg w23, if_pos w24]
            rw [el] at hp
            have elk : am_lk [(1, 154), (16, 145), (23, 128), (24, 136), (25, 163), (26, 173)] 183 (nI 24) = 136 := by decide
            rw [h6, elk]
            simp +decide only [qX2_readPart_0, qX2_readPart_1, lx hL, am_w1_i, am_w1_r, am_w1_x, am_w1_l, am_w1_w, va_rf_s, am_push_n, am_push_s, am_cs_0, am_cs_i, am_cs_l, am_cs_r, m_uI_K, m_uI_N, m_uI_R, m_uI_L, m_uI_I, m_uL_K, m_uL_N, m_uL_R, m_uL_I, m_uL_L, m_uR_K, m_uR_N, m_uR_I, m_uR_L, m_uR_R, true_and, and_true, true_implies, false_implies, not_true_eq_false, not_false_eq_true, if_true, if_false, false_and, and_false]
            refine g_leaf (d + 9) (-2) _ t res a c vs M _ hz hn hG (leaf_k el) (op_leaf (by decide) rfl (leaf_bd (tkG_OK hsz) el) (by omega)) hp (fun M1 P1 => ?_)
            have h9 := hQ M1 P1
            simp +decide only [qX2_readPart_0, qX2_readPart_1, am_w1_i, am_w1_r, am_w1_x, am_w1_l, am_w1_w, va_rf_s, am_push_n, am_push_s, am_cs_0, am_cs_i, am_cs_l, am_cs_r, m_uI_K, m_uI_N, m_uI_R, m_uI_L, m_uI_I, m_uL_K, m_uL_N, m_uL_R, m_uL_I, m_uL_L, m_uR_K, m_uR_N, m_uR_I, m_uR_L, m_uR_R, true_and, and_true, true_implies, false_implies, not_true_eq_false, not_false_eq_true, if_true, if_false, false_and, and_false]
            exact h9
          · by_cases w16 : isW t wHour = true
            · have h6 := (hw 16 (by omega)).mpr w16
              have el : leaf t = some (fun e => (e.2.2.1 : Int)) := by unfold leaf; rw [if_neg c2, if_neg w23, if_neg w24, if_pos w16]
              rw [el] at hp
              have elk : am_lk [(1, 154), (16, 145), (23, 128), (24, 136), (25, 163), (26, 173)] 183 (nI 16) = 145 := by decide
              rw [h6, elk]
              simp +decide only [qX2_readPart_0, qX2_readPart_1, lx hL, am_w1_i, am_w1_r, am_w1_x, am_w1_l, am_w1_w, va_rf_s, am_push_n, am_push_s, am_cs_0, am_cs_i, am_cs_l, am_cs_r, m_uI_K, m_uI_N, m_uI_R, m_uI_L, m_uI_I, m_uL_K, m_uL_N, m_uL_R, m_uL_I, m_uL_L, m_uR_K, m_uR_N, m_uR_I, m_uR_L, m_uR_R, true_and, and_true, true_implies, false_implies, not_true_eq_false, not_false_eq_true, if_true, if_false, false_and, and_false]
              refine g_leaf (d + 9) (-3) _ t res a c vs M _ hz hn hG (leaf_k el) (op_leaf (by decide) rfl (leaf_bd (tkG_OK hsz) el) (by omega)) hp (fun M1 P1 => ?_)
              have h9 := hQ M1 P1
              simp +decide only [qX2_readPart_0, qX2_readPart_1, am_w1_i, am_w1_r, am_w1_x, am_w1_l, am_w1_w, va_rf_s, am_push_n, am_push_s, am_cs_0, am_cs_i, am_cs_l, am_cs_r, m_uI_K, m_uI_N, m_uI_R, m_uI_L, m_uI_I, m_uL_K, m_uL_N, m_uL_R, m_uL_I, m_uL_L, m_uR_K, m_uR_N, m_uR_I, m_uR_L, m_uR_R, true_and, and_true, true_implies, false_implies, not_true_eq_false, not_false_eq_true, if_true, if_false, false_and, and_false]
              exact h9
            · by_cases w1 : isW t wDepth = true
              · have h6 := (hw 1 (by omega)).mpr w1
                have el : leaf t = some (fun e => (e.2.2.2 : Int)) := by unfold leaf; rw [if_neg c2, if_neg w23, if_neg w24, if_neg w16, if_pos w1]
                rw [el] at hp
                have elk : am_lk [(1, 154), (16, 145), (23, 128), (24, 136), (25, 163), (26, 173)] 183 (nI 1) = 154 := by decide
                rw [h6, elk]
                simp +decide only [qX2_readPart_0, qX2_readPart_1, lx hL, am_w1_i, am_w1_r, am_w1_x, am_w1_l, am_w1_w, va_rf_s, am_push_n, am_push_s, am_cs_0, am_cs_i, am_cs_l, am_cs_r, m_uI_K, m_uI_N, m_uI_R, m_uI_L, m_uI_I, m_uL_K, m_uL_N, m_uL_R, m_uL_I, m_uL_L, m_uR_K, m_uR_N, m_uR_I, m_uR_L, m_uR_R, true_and, and_true, true_implies, false_implies, not_true_eq_false, not_false_eq_true, if_true, if_false, false_and, and_false]
                refine g_leaf (d + 9) (-4) _ t res a c vs M _ hz hn hG (leaf_k el) (op_leaf (by decide) rfl (leaf_bd (tkG_OK hsz) el) (by omega)) hp (fun M1 P1 => ?_)
                have h9 := hQ M1 P1
                simp +decide only [qX2_readPart_0, qX2_readPart_1, am_w1_i, am_w1_r, am_w1_x, am_w1_l, am_w1_w, va_rf_s, am_push_n, am_push_s, am_cs_0, am_cs_i, am_cs_l, am_cs_r, m_uI_K, m_uI_N, m_uI_R, m_uI_L, m_uI_I, m_uL_K, m_uL_N, m_uL_R, m_uL_I, m_uL_L, m_uR_K, m_uR_N, m_uR_I, m_uR_L, m_uR_R, true_and, and_true, true_implies, false_implies, not_true_eq_false, not_false_eq_true, if_true, if_false, false_and, and_false]
                exact h9
              · have el : leaf t = none := by unfold leaf; rw [if_neg c2, if_neg w23, if_neg w24, if_neg w16, if_neg w1]
                rw [el] at hp
                dsimp only at hp
                rw [if_neg c40] at hp
                by_cases w25 : isW t wMin = true
                · have h6 := (hw 25 (by omega)).mpr w25
                  rw [if_pos (by rw [w25]; rfl), if_pos w25] at hp
                  have elk : am_lk [(1, 154), (16, 145), (23, 128), (24, 136), (25, 163), (26, 173)] 183 (nI 25) = 163 := by decide
                  rw [h6, elk]
                  simp +decide only [qX2_readPart_0, qX2_readPart_1, lx hL, am_w1_i, am_w1_r, am_w1_x, am_w1_l, am_w1_w, va_rf_s, am_push_n, am_push_s, am_cs_0, am_cs_i, am_cs_l, am_cs_r, m_uI_K, m_uI_N, m_uI_R, m_uI_L, m_uI_I, m_uL_K, m_uL_N, m_uL_R, m_uL_I, m_uL_L, m_uR_K, m_uR_N, m_uR_I, m_uR_L, m_uR_R, true_and, and_true, true_implies, false_implies, not_true_eq_false, not_false_eq_true, if_true, if_false, false_and, and_false]
                  refine g_choice hz hn f (h0 f (by omega)) d 15 o (-11) t v0 res a c vs M _ ho hD (by decide) (Or.inl rfl) hG hl (by have := (isW_1 w25).1; omega) hp (fun M1 P1 => ?_)
                  have h9 := hQ M1 P1
                  simp +decide only [qX2_readPart_0, qX2_readPart_1, am_w1_i, am_w1_r, am_w1_x, am_w1_l, am_w1_w, va_rf_s, am_push_n, am_push_s, am_cs_0, am_cs_i, am_cs_l, am_cs_r, m_uI_K, m_uI_N, m_uI_R, m_uI_L, m_uI_I, m_uL_K, m_uL_N, m_uL_R, m_uL_I, m_uL_L, m_uR_K, m_uR_N, m_uR_I, m_uR_L, m_uR_R, true_and, and_true, true_implies, false_implies, not_true_eq_false, not_false_eq_true, if_true, if_false, false_and, and_false]
                  exact h9
                · by_cases w26 : isW t wMax = true
                  · have h6 := (hw 26 (by omega)).mpr w26
                    rw [if_pos (by rw [w26, Bool.or_true]), if_neg w25] at hp
                    have elk : am_lk [(1, 154), (16, 145), (23, 128), (24, 136), (25, 163), (26, 173)] 183 (nI 26) = 173 := by decide
                    rw [h6, elk]
                    simp +decide only [qX2_readPart_0, qX2_readPart_1, lx hL, am_w1_i, am_w1_r, am_w1_x, am_w1_l, am_w1_w, va_rf_s, am_push_n, am_push_s, am_cs_0, am_cs_i, am_cs_l, am_cs_r, m_uI_K, m_uI_N, m_uI_R, m_uI_L, m_uI_I, m_uL_K, m_uL_N, m_uL_R, m_uL_I, m_uL_L, m_uR_K, m_uR_N, m_uR_I, m_uR_L, m_uR_R, true_and, and_true, true_implies, false_implies, not_true_eq_false, not_false_eq_true, if_true, if_false, false_and, and_false]
                    refine g_choice hz hn f (h0 f (by omega)) d 16 o (-12) t v0 res a c vs M _ ho hD (by decide) (Or.inr rfl) hG hl (by have := (isW_1 w26).1; omega) hp (fun M1 P1 => ?_)
                    have h9 := hQ M1 P1
                    simp +decide only [qX2_readPart_0, qX2_readPart_1, am_w1_i, am_w1_r, am_w1_x, am_w1_l, am_w1_w, va_rf_s, am_push_n, am_push_s, am_cs_0, am_cs_i, am_cs_l, am_cs_r, m_uI_K, m_uI_N, m_uI_R, m_uI_L, m_uI_I, m_uL_K, m_uL_N, m_uL_R, m_uL_I, m_uL_L, m_uR_K, m_uR_N, m_uR_I, m_uR_L, m_uR_R, true_and, and_true, true_implies, false_implies, not_true_eq_false, not_false_eq_true, if_true, if_false, false_and, and_false]
                    exact h9
                  · rw [if_neg (by rw [Bool.or_eq_true]; exact fun q => q.elim w25 w26)] at hp
                    cases hp
                    rw [lk_w (mI M 165 6) ⟨fun q => w1 ((hw 1 (by omega)).mp q), fun q => w16 ((hw 16 (by omega)).mp q), fun q => w23 ((hw 23 (by omega)).mp q), fun q => w24 ((hw 24 (by omega)).mp q), fun q => w25 ((hw 25 (by omega)).mp q), fun q => w26 ((hw 26 (by omega)).mp q)⟩]
                    simp +decide only [qX2_readPart_0, qX2_readPart_1, lx hL, am_w1_i, am_w1_r, am_w1_x, am_w1_l, am_w1_w, va_rf_s, am_push_n, am_push_s, am_cs_0, am_cs_i, am_cs_l, am_cs_r, m_uI_K, m_uI_N, m_uI_R, m_uI_L, m_uI_I, m_uL_K, m_uL_N, m_uL_R, m_uL_I, m_uL_L, m_uR_K, m_uR_N, m_uR_I, m_uR_L, m_uR_R, true_and, and_true, true_implies, false_implies, not_true_eq_false, not_false_eq_true, if_true, if_false, false_and, and_false]
                    rw [show (1 : Int32) = nI 1 from rfl]
                    refine c_x_refuse (d + 10) n 1 T (.inr t) M _ hL (by omega) hst (fun M1 g1 h1 => ?_)
                    have h9 := bad M1 _ rfl (sRd_F g1) ⟨h1, by rw [g1.2.2.1 _ _ (fun q => q)]; exact hpa, c, FmX_g hf g1 (fun q => by unfold sRd at q; omega)⟩
                    simp +decide only [qX2_readPart_0, qX2_readPart_1, am_w1_i, am_w1_r, am_w1_x, am_w1_l, am_w1_w, va_rf_s, am_push_n, am_push_s, am_cs_0, am_cs_i, am_cs_l, am_cs_r, m_uI_K, m_uI_N, m_uI_R, m_uI_L, m_uI_I, m_uL_K, m_uL_N, m_uL_R, m_uL_I, m_uL_L, m_uR_K, m_uR_N, m_uR_I, m_uR_L, m_uR_R, true_and, and_true, true_implies, false_implies, not_true_eq_false, not_false_eq_true, if_true, if_false, false_and, and_false]
                    exact h9
end
end
section
/-! the class's parser: facts, tests -/
def dnD (b : Bool) (v : Den) : Den := if b = true then ntD v else v
def dnR (b : Bool) : Sum (Nat × Nat) (Tok × Den) → Sum (Nat × Nat) (Tok × Den)
  | .inl e => .inl e
  | .inr q => .inr (q.1, dnD b q.2)
theorem nt_nt (v : Den) : ntD (ntD v) = v := funext fun e => by show 1 - (1 - v e) = v e; omega
theorem dnD_n (b : Bool) (v : Den) : dnD (!b) v = dnD b (ntD v) := by
  cases b
  · rfl
  · show v = ntD (ntD v); exact (nt_nt v).symm
section
variable {T : Nat → Nat} {n z : Nat}
theorem g_cmp (d : Nat) (t : Tok) (k : Tok → Rs) (res : Sum (Nat × Nat) (Tok × Den)) (a c : Nat) (vs : List Den) (M : am_M) (Q : Option Value → am_M → Prop) (hz : z = 2 ∨ z = 83) (hG : GoX T n z M a c vs t) (hp : (if cmpOp t = 0 then flt 1 t else adv T n t k) = some res)
    (hF : ∀ M' e x, res = .inl e → gF sRd nT M M' → FaX M' z T n e → Q (some (.int x)) M')
    (hN : ∀ M' t1 x, gF sRd nT M M' → GoX T n z M' a c vs t1 → tS t + 1 ≤ tS t1 → k t1 = some res → ¬ cmpOp t = 0 → inX x = (cmpOp t, 0) → Q (some (.int x)) M') : am_E am_P0 (d + 3) 25 [.ref 164] M Q := by
  obtain ⟨hL, hpa, hR, hf, hc, hct⟩ := id hG
  have hst : StR M T n (.inr t) := hR
  have s1 := fun Q => c_x_isSign (d + 2) n 60 T (.inr t) M Q hL (by omega) hst
  have s2 := fun Q => c_x_isSign (d + 2) n 62 T (.inr t) M Q hL (by omega) hst
  rw [show nI 60 = (60 : Int32) from rfl] at s1
  rw [show nI 62 = (62 : Int32) from rfl] at s2
  rw [eX2_takeComparison]
  by_cases c1 : isS t 60 = true
  · have ec : cmpOp t = 17 := by unfold cmpOp; rw [if_pos c1]
    rw [if_neg (by omega)] at hp
    have c1' : isSr 60 (.inr t) = true := c1
    simp +decide only [qX2_takeComparison, lx hL, s1, c1', b01, am_w1_i, am_w1_r, am_w1_x, am_w1_l, am_w1_w, va_rf_s, am_push_n, am_push_s, am_cs_0, am_cs_i, am_cs_l, am_cs_r, m_uI_K, m_uI_N, m_uI_R, m_uI_L, m_uI_I, m_uL_K, m_uL_N, m_uL_R, m_uL_I, m_uL_L, m_uR_K, m_uR_N, m_uR_I, m_uR_L, m_uR_R, true_and, and_true, true_implies, false_implies, not_true_eq_false, not_false_eq_true, if_true, if_false, false_and, and_false]
    refine g_step (d + 1) t k res a c vs M _ hz hG (by have := isS_1 c1; omega) hp (fun M1 e he g1 F1 => ?_) (fun M1 t1 g1 G1 hs1 hk1 => ?_)
    · have h0 := hF M1 e (-13) he g1 F1
      simp +decide only [qX2_takeComparison, am_w1_i, am_w1_r, am_w1_x, am_w1_l, am_w1_w, va_rf_s, am_push_n, am_push_s, am_cs_0, am_cs_i, am_cs_l, am_cs_r, m_uI_K, m_uI_N, m_uI_R, m_uI_L, m_uI_I, m_uL_K, m_uL_N, m_uL_R, m_uL_I, m_uL_L, m_uR_K, m_uR_N, m_uR_I, m_uR_L, m_uR_R, true_and, and_true, true_implies, false_implies, not_true_eq_false, not_false_eq_true, if_true, if_false, false_and, and_false]
      exact h0
    · have h0 := hN M1 t1 (-13) g1 G1 hs1 hk1 (by omega) (by rw [ec]; decide)
      simp +decide only [qX2_takeComparison, am_w1_i, am_w1_r, am_w1_x, am_w1_l, am_w1_w, va_rf_s, am_push_n, am_push_s, am_cs_0, am_cs_i, am_cs_l, am_cs_r, m_uI_K, m_uI_N, m_uI_R, m_uI_L, m_uI_I, m_uL_K, m_uL_N, m_uL_R, m_uL_I, m_uL_L, m_uR_K, m_uR_N, m_uR_I, m_uR_L, m_uR_R, true_and, and_true, true_implies, false_implies, not_true_eq_false, not_false_eq_true, if_true, if_false, false_and, and_false]
      exact h0
  · have c1' : isSr 60 (.inr t) = false := by show isS t 60 = false; simpa using c1
    by_cases c2 : isS t 62 = true
    · have ec : cmpOp t = 18 := by unfold cmpOp; rw [if_neg c1, if_pos c2]
      rw [if_neg (by omega)] at hp
      have c2' : isSr 62 (.inr t) = true := c2
      simp +decide only [qX2_takeComparison, lx hL, s1, c1', s2, c2', b01, am_w1_i, am_w1_r, am_w1_x, am_w1_l, am_w1_w, va_rf_s, am_push_n, am_push_s, am_cs_0, am_cs_i, am_cs_l, am_cs_r, m_uI_K, m_uI_N, m_uI_R, m_uI_L, m_uI_I, m_uL_K, m_uL_N, m_uL_R, m_uL_I, m_uL_L, m_uR_K, m_uR_N, m_uR_I, m_uR_L, m_uR_R, true_and, and_true, true_implies, false_implies, not_true_eq_false, not_false_eq_true, if_true, if_false, false_and, and_false]
      refine g_step (d + 1) t k res a c vs M _ hz hG (by have := isS_1 c2; omega) hp (fun M1 e he g1 F1 => ?_) (fun M1 t1 g1 G1 hs1 hk1 => ?_)
      · have h0 := hF M1 e (-14) he g1 F1
        simp +decide only [qX2_takeComparison, am_w1_i, am_w1_r, am_w1_x, am_w1_l, am_w1_w, va_rf_s, am_push_n, am_push_s, am_cs_0, am_cs_i, am_cs_l, am_cs_r, m_uI_K, m_uI_N, m_uI_R, m_uI_L, m_uI_I, m_uL_K, m_uL_N, m_uL_R, m_uL_I, m_uL_L, m_uR_K, m_uR_N, m_uR_I, m_uR_L, m_uR_R, true_and, and_true, true_implies, false_implies, not_true_eq_false, not_false_eq_true, if_true, if_false, false_and, and_false]
        exact h0
      · have h0 := hN M1 t1 (-14) g1 G1 hs1 hk1 (by omega) (by rw [ec]; decide)
        simp +decide only [qX2_takeComparison, am_w1_i, am_w1_r, am_w1_x, am_w1_l, am_w1_w, va_rf_s, am_push_n, am_push_s, am_cs_0, am_cs_i, am_cs_l, am_cs_r, m_uI_K, m_uI_N, m_uI_R, m_uI_L, m_uI_I, m_uL_K, m_uL_N, m_uL_R, m_uL_I, m_uL_L, m_uR_K, m_uR_N, m_uR_I, m_uR_L, m_uR_R, true_and, and_true, true_implies, false_implies, not_true_eq_false, not_false_eq_true, if_true, if_false, false_and, and_false]
        exact h0
    · have c2' : isSr 62 (.inr t) = false := by show isS t 62 = false; simpa using c2
      simp +decide only [qX2_takeComparison, lx hL, s1, c1', s2, c2', b01, am_w1_i, am_w1_r, am_w1_x, am_w1_l, am_w1_w, va_rf_s, am_push_n, am_push_s, am_cs_0, am_cs_i, am_cs_l, am_cs_r, m_uI_K, m_uI_N, m_uI_R, m_uI_L, m_uI_I, m_uL_K, m_uL_N, m_uL_R, m_uL_I, m_uL_L, m_uR_K, m_uR_N, m_uR_I, m_uR_L, m_uR_R, true_and, and_true, true_implies, false_implies, not_true_eq_false, not_false_eq_true, if_true, if_false, false_and, and_false]
      rw [show (61 : Int32) = nI 61 from rfl]
      unfold cmpOp at hp
      rw [if_neg c1, if_neg c2] at hp
      by_cases c3 : isS t 61 = true
      · rw [if_pos c3, if_neg (by omega)] at hp
        have hp' : tks T n 61 t k = some res := by unfold tks; rw [if_pos c3]; exact hp
        have ec : cmpOp t = 19 := by unfold cmpOp; rw [if_neg c1, if_neg c2, if_pos c3]
        refine g_sign d 61 t k res a c vs M _ hz (by omega) hG hp' (fun M1 e he g1 F1 => ?_) (fun M1 t1 g1 G1 hs1 hk1 => ?_)
        · have h0 := hF M1 e (-15) he g1 F1
          simp +decide only [qX2_takeComparison, am_w1_i, am_w1_r, am_w1_x, am_w1_l, am_w1_w, va_rf_s, am_push_n, am_push_s, am_cs_0, am_cs_i, am_cs_l, am_cs_r, m_uI_K, m_uI_N, m_uI_R, m_uI_L, m_uI_I, m_uL_K, m_uL_N, m_uL_R, m_uL_I, m_uL_L, m_uR_K, m_uR_N, m_uR_I, m_uR_L, m_uR_R, true_and, and_true, true_implies, false_implies, not_true_eq_false, not_false_eq_true, if_true, if_false, false_and, and_false]
          exact h0
        · have h0 := hN M1 t1 (-15) g1 G1 hs1 hk1 (by omega) (by rw [ec]; decide)
          simp +decide only [qX2_takeComparison, am_w1_i, am_w1_r, am_w1_x, am_w1_l, am_w1_w, va_rf_s, am_push_n, am_push_s, am_cs_0, am_cs_i, am_cs_l, am_cs_r, m_uI_K, m_uI_N, m_uI_R, m_uI_L, m_uI_I, m_uL_K, m_uL_N, m_uL_R, m_uL_I, m_uL_L, m_uR_K, m_uR_N, m_uR_I, m_uR_L, m_uR_R, true_and, and_true, true_implies, false_implies, not_true_eq_false, not_false_eq_true, if_true, if_false, false_and, and_false]
          exact h0
      · rw [if_neg c3, if_pos rfl] at hp
        cases hp
        refine c_x_takeSign d n 61 T (.inr t) M _ hL (by omega) hst (fun M1 g1 h1 => ?_)
        have h1' : StR M1 T n (if isS t 61 = true then advR T n t else .inl (1, tS t)) := h1
        rw [if_neg c3] at h1'
        have h0 := hF M1 _ (-15) rfl g1 ⟨h1', by rw [g1.2.2.1 _ _ (fun q => q)]; exact hpa, c, FmX_g hf g1 (fun q => by unfold sRd at q; omega)⟩
        simp +decide only [qX2_takeComparison, am_w1_i, am_w1_r, am_w1_x, am_w1_l, am_w1_w, va_rf_s, am_push_n, am_push_s, am_cs_0, am_cs_i, am_cs_l, am_cs_r, m_uI_K, m_uI_N, m_uI_R, m_uI_L, m_uI_I, m_uL_K, m_uL_N, m_uL_R, m_uL_I, m_uL_L, m_uR_K, m_uR_N, m_uR_I, m_uR_L, m_uR_R, true_and, and_true, true_implies, false_implies, not_true_eq_false, not_false_eq_true, if_true, if_false, false_and, and_false]
        exact h0
theorem op_not {v : Den} {r : List Den} (hv : bdT v) : opOK 64 (inX (-5)) (v :: r) ∧ stD (inX (-5)) (v :: r) = ntD v :: r := by
  have hx : inX (-5) = (22, 0) := by decide
  rw [hx]
  exact ⟨⟨fun q => by dsimp only at q; omega, fun _ => ⟨v, r, rfl, hv⟩, fun _ q => by dsimp only at q; omega, fun q => by dsimp only at q; omega, by decide⟩, rfl⟩
theorem f_146 (d : Nat) (o x3 : Int32) (b : Bool) (e : Nat × Nat) (M : am_M) (Q : Option Value → am_M → Prop) (hL : Lay M) (hz : z = 2 ∨ z = 83) (hF : FaX M z T n e) (hQ : ∀ M', gF (sFz z) nT M M' → FaX M' z T n e → Q none M') : am_P am_P0 (d + 1) (am_look tX2_readFact) 146 [.ref 164, .int o, .int (b01 b), .int x3] [] M Q := by
  cases b with
  | false =>
    have h0 := hQ M (gF_refl _ _ _) hF
    simp +decide only [qX2_readFact_0, qX2_readFact_1, b01, am_w1_i, am_w1_r, am_w1_x, am_w1_l, am_w1_w, va_rf_s, am_push_n, am_push_s, am_cs_0, am_cs_i, am_cs_l, am_cs_r, m_uI_K, m_uI_N, m_uI_R, m_uI_L, m_uI_I, m_uL_K, m_uL_N, m_uL_R, m_uL_I, m_uL_L, m_uR_K, m_uR_N, m_uR_I, m_uR_L, m_uR_R, true_and, and_true, true_implies, false_implies, not_true_eq_false, not_false_eq_true, if_true, if_false, false_and, and_false]
    exact h0
  | true =>
    simp +decide only [qX2_readFact_0, qX2_readFact_1, lx hL, lz hL hz, hF.2.1, b01, am_w1_i, am_w1_r, am_w1_x, am_w1_l, am_w1_w, va_rf_s, am_push_n, am_push_s, am_cs_0, am_cs_i, am_cs_l, am_cs_r, m_uI_K, m_uI_N, m_uI_R, m_uI_L, m_uI_I, m_uL_K, m_uL_N, m_uL_R, m_uL_I, m_uL_L, m_uR_K, m_uR_N, m_uR_I, m_uR_L, m_uR_R, true_and, and_true, true_implies, false_implies, not_true_eq_false, not_false_eq_true, if_true, if_false, false_and, and_false]
    refine f_emit d e (-5) M _ hL hz hF (fun M5 g5 h5 => ?_)
    have h0 := hQ M5 g5 h5
    simp +decide only [qX2_readFact_0, qX2_readFact_1, am_w1_i, am_w1_r, am_w1_x, am_w1_l, am_w1_w, va_rf_s, am_push_n, am_push_s, am_cs_0, am_cs_i, am_cs_l, am_cs_r, m_uI_K, m_uI_N, m_uI_R, m_uI_L, m_uI_I, m_uL_K, m_uL_N, m_uL_R, m_uL_I, m_uL_L, m_uR_K, m_uR_N, m_uR_I, m_uR_L, m_uR_R, true_and, and_true, true_implies, false_implies, not_true_eq_false, not_false_eq_true, if_true, if_false, false_and, and_false]
    exact h0
theorem g_146 (d : Nat) (o x3 : Int32) (b : Bool) (t : Tok) (v : Den) (a c : Nat) (vs : List Den) (M : am_M) (Q : Option Value → am_M → Prop) (hz : z = 2 ∨ z = 83) (hn : n ≤ 1800) (hG : GoX T n z M a c (v :: vs) t) (hb : b = true → c + 1 ≤ tS t) (hv : bdT v)
    (hQ : ∀ M' c', gF (sPz z c) nT M M' → GoX T n z M' a c' (dnD b v :: vs) t → c ≤ c' → c' ≤ c + (if b = true then 1 else 0) → Q none M') : am_P am_P0 (d + 1) (am_look tX2_readFact) 146 [.ref 164, .int o, .int (b01 b), .int x3] [] M Q := by
  have hL := hG.1
  cases b with
  | false =>
    have h0 := hQ M c (gF_refl _ _ _) hG (Nat.le_refl _) (by omega)
    simp +decide only [qX2_readFact_0, qX2_readFact_1, b01, am_w1_i, am_w1_r, am_w1_x, am_w1_l, am_w1_w, va_rf_s, am_push_n, am_push_s, am_cs_0, am_cs_i, am_cs_l, am_cs_r, m_uI_K, m_uI_N, m_uI_R, m_uI_L, m_uI_I, m_uL_K, m_uL_N, m_uL_R, m_uL_I, m_uL_L, m_uR_K, m_uR_N, m_uR_I, m_uR_L, m_uR_R, true_and, and_true, true_implies, false_implies, not_true_eq_false, not_false_eq_true, if_true, if_false, false_and, and_false]
    exact h0
  | true =>
    have hop := op_not (r := vs) hv
    simp +decide only [qX2_readFact_0, qX2_readFact_1, lx hL, lz hL hz, hG.2.1, b01, am_w1_i, am_w1_r, am_w1_x, am_w1_l, am_w1_w, va_rf_s, am_push_n, am_push_s, am_cs_0, am_cs_i, am_cs_l, am_cs_r, m_uI_K, m_uI_N, m_uI_R, m_uI_L, m_uI_I, m_uL_K, m_uL_N, m_uL_R, m_uL_I, m_uL_L, m_uR_K, m_uR_N, m_uR_I, m_uR_L, m_uR_R, true_and, and_true, true_implies, false_implies, not_true_eq_false, not_false_eq_true, if_true, if_false, false_and, and_false]
    refine g_emit d (-5) t a c (v :: vs) M _ hz hn hG (hb rfl) hop.1 (fun M3 g3 G3 => ?_)
    rw [hop.2] at G3
    have h0 := hQ M3 (c + 1) g3 G3 (by omega) (by rw [if_pos rfl]; omega)
    simp +decide only [qX2_readFact_0, qX2_readFact_1, am_w1_i, am_w1_r, am_w1_x, am_w1_l, am_w1_w, va_rf_s, am_push_n, am_push_s, am_cs_0, am_cs_i, am_cs_l, am_cs_r, m_uI_K, m_uI_N, m_uI_R, m_uI_L, m_uI_I, m_uL_K, m_uL_N, m_uL_R, m_uL_I, m_uL_L, m_uR_K, m_uR_N, m_uR_I, m_uR_L, m_uR_R, true_and, and_true, true_implies, false_implies, not_true_eq_false, not_false_eq_true, if_true, if_false, false_and, and_false]
    exact h0
/-- a fact, its denials counted -/
theorem g_factL (hz : z = 2 ∨ z = 83) (hn : n ≤ 1800) (f : Nat) (h5 : ∀ f', f' < f → HP T n z 5 22 0 5 f') (h0 : ∀ f', f' < f → HP T n z 0 26 3 2 f') : ∀ (f1 : Nat), f1 ≤ f → ∀ (D o : Nat) (t : Tok) (v0 : Den) (a c : Nat) (vs : List Den) (M : am_M) (Q : Option Value → am_M → Prop) (res : Sum (Nat × Nat) (Tok × Den)) (turn : Nat) (b : Bool), o ≤ 8 → 12 * (9 - o) + 3 ≤ D → GoX T n z M a c vs t → vs.length ≤ 3 * o + 2 → turn ≤ tS t → (b = true → c + 1 ≤ tS t) → ps T n f1 9 o t v0 = some res → (∀ M', (match dnR b res with | .inl e => gF (sFz z) nT M M' ∧ FaX M' z T n e | .inr q => gF (sPz z c) nT M M' ∧ ∃ c', GoX T n z M' a c' (q.2 :: vs) q.1 ∧ c ≤ c' ∧ c' + tS t ≤ c + tS q.1 + (if b = true then 1 else 0)) → Q none M') → am_P am_P0 D (am_look tX2_readFact) 4 [.ref 164, .int (nI o), .int (b01 b), .int (nI turn)] [] M Q := by
  intro f1
  induction f1 with
  | zero => intro _ D o t v0 a c vs M Q res turn b _ _ _ _ _ _ h; cases h
  | succ f1 ih =>
    intro hf1 D o t v0 a c vs M Q res turn b ho hD hG hl htu hbt hp hQ
    obtain ⟨d, rfl⟩ : ∃ d, D = d + 12 := ⟨D - 12, by omega⟩
    obtain ⟨hL, hpa, hR, hf, hc, hct⟩ := id hG
    have hst : StR M T n (.inr t) := hR
    have hsz := GoX_t hG
    have hnt : tS t ≤ n := by have := hsz.1; have := hsz.2.1; omega
    have hw := fun k (hk : k < 27) => wr_is hst hk
    have hw21 : mI M 165 6 = 21 ↔ isW t wNot = true := hw 21 (by omega)
    have hw22 : mI M 165 6 = 22 ↔ isW t wAll = true := hw 22 (by omega)
    have s91 := fun Q => c_x_isSign (d + 11) n 91 T (.inr t) M Q hL (by omega) hst
    rw [show nI 91 = (91 : Int32) from rfl] at s91
    have bad : ∀ M' e, res = .inl e → gF (sFz z) nT M M' → FaX M' z T n e → Q none M' := fun M' e he g F => hQ M' (by rw [he]; exact ⟨g, F⟩)
    rw [ps_9] at hp
    by_cases cn : isW t wNot = true
    · rw [if_pos cn] at hp
      have ht0 : ¬ t.1 = 0 := by have := (isW_1 cn).1; omega
      have hz0 := tkG_0 hsz ht0
      have hlt : ¬ (1800 : Int32) ≤ nI turn := by rw [show (1800 : Int32) = nI 1800 from rfl, ni_le (by omega) (by omega)]; omega
      have h6 := hw21.mpr cn
      have tog : ∀ M2 Q', am_P am_P0 (d + 12) (am_look tX2_readFact) 4 [.ref 164, .int (nI o), .int (b01 (!b)), .int (nI (turn + 1))] [] M2 Q' → am_P am_P0 (d + 12) (am_look tX2_readFact) 30 [.ref 164, .int (nI o), .int (b01 b), .int (nI turn)] [] M2 Q' := fun M2 Q' h => by
        cases b with
        | false =>
          simp +decide only [qX2_readFact_0, qX2_readFact_1, ni_add1, b01, am_w1_i, am_w1_r, am_w1_x, am_w1_l, am_w1_w, va_rf_s, am_push_n, am_push_s, am_cs_0, am_cs_i, am_cs_l, am_cs_r, m_uI_K, m_uI_N, m_uI_R, m_uI_L, m_uI_I, m_uL_K, m_uL_N, m_uL_R, m_uL_I, m_uL_L, m_uR_K, m_uR_N, m_uR_I, m_uR_L, m_uR_R, true_and, and_true, true_implies, false_implies, not_true_eq_false, not_false_eq_true, if_true, if_false, false_and, and_false] at h ⊢
          exact h
        | true =>
          simp +decide only [qX2_readFact_0, qX2_readFact_1, ni_add1, b01, am_w1_i, am_w1_r, am_w1_x, am_w1_l, am_w1_w, va_rf_s, am_push_n, am_push_s, am_cs_0, am_cs_i, am_cs_l, am_cs_r, m_uI_K, m_uI_N, m_uI_R, m_uI_L, m_uI_I, m_uL_K, m_uL_N, m_uL_R, m_uL_I, m_uL_L, m_uR_K, m_uR_N, m_uR_I, m_uR_L, m_uR_R, true_and, and_true, true_implies, false_implies, not_true_eq_false, not_false_eq_true, if_true, if_false, false_and, and_false] at h ⊢
          exact h
      rw [hX2_readFact_4]
      simp +decide only [qX2_readFact_0, qX2_readFact_1, lx hL, h6, am_w1_i, am_w1_r, am_w1_x, am_w1_l, am_w1_w, va_rf_s, am_push_n, am_push_s, am_cs_0, am_cs_i, am_cs_l, am_cs_r, m_uI_K, m_uI_N, m_uI_R, m_uI_L, m_uI_I, m_uL_K, m_uL_N, m_uL_R, m_uL_I, m_uL_L, m_uR_K, m_uR_N, m_uR_I, m_uR_L, m_uR_R, true_and, and_true, true_implies, false_implies, not_true_eq_false, not_false_eq_true, if_true, if_false, false_and, and_false]
      rw [br_n hlt]
      refine g_step (d + 10) t _ res a c vs M _ hz hG ht0 hp (fun M1 e he g1 F1 => ?_) (fun M1 t1 g1 G1 hs1 hk1 => ?_)
      · have h9 := tog M1 Q (f_fact (d + 7) (nI o) e M1 Q (!b) (nI (turn + 1)) (gF_LayN g1 hL) hz F1 (fun M' g' F' => bad M' e he (gF_trans (sRd_F g1) g') F'))
        simp +decide only [qX2_readFact_0, qX2_readFact_1, am_w1_i, am_w1_r, am_w1_x, am_w1_l, am_w1_w, va_rf_s, am_push_n, am_push_s, am_cs_0, am_cs_i, am_cs_l, am_cs_r, m_uI_K, m_uI_N, m_uI_R, m_uI_L, m_uI_I, m_uL_K, m_uL_N, m_uL_R, m_uL_I, m_uL_L, m_uR_K, m_uR_N, m_uR_I, m_uR_L, m_uR_R, true_and, and_true, true_implies, false_implies, not_true_eq_false, not_false_eq_true, if_true, if_false, false_and, and_false] at h9 ⊢
        exact h9
      · have key : am_P am_P0 (d + 12) (am_look tX2_readFact) 4 [.ref 164, .int (nI o), .int (b01 (!b)), .int (nI (turn + 1))] [] M1 Q := by
          rcases bnd_some hk1 with ⟨e, he1, he2⟩ | ⟨t2, v2, he1, he2⟩
          · refine ih (by omega) (d + 12) o t1 v0 a c vs M1 Q _ (turn + 1) (!b) ho hD G1 hl (by omega) (fun _ => by omega) he1 (fun M2 P2 => ?_)
            obtain ⟨g2, F2⟩ : gF (sFz z) nT M1 M2 ∧ FaX M2 z T n e := P2
            exact bad M2 e he2 (gF_trans (sRd_F g1) g2) F2
          · cases he2
            refine ih (by omega) (d + 12) o t1 v0 a c vs M1 Q _ (turn + 1) (!b) ho hD G1 hl (by omega) (fun _ => by omega) he1 (fun M2 P2 => ?_)
            obtain ⟨g2, c2, G2, hc2, hc2'⟩ : gF (sPz z c) nT M1 M2 ∧ ∃ c', GoX T n z M2 a c' (dnD (!b) v2 :: vs) t2 ∧ c ≤ c' ∧ c' + tS t1 ≤ c + tS t2 + (if (!b) = true then 1 else 0) := P2
            rw [dnD_n] at G2
            refine hQ M2 ⟨gF_trans (sRd_P g1) g2, c2, G2, hc2, ?_⟩
            show c2 + tS t ≤ c + tS t2 + _
            have : (if (!b) = true then 1 else 0) ≤ 1 := by split <;> omega
            omega
        have h9 := tog M1 Q key
        simp +decide only [qX2_readFact_0, qX2_readFact_1, am_w1_i, am_w1_r, am_w1_x, am_w1_l, am_w1_w, va_rf_s, am_push_n, am_push_s, am_cs_0, am_cs_i, am_cs_l, am_cs_r, m_uI_K, m_uI_N, m_uI_R, m_uI_L, m_uI_I, m_uL_K, m_uL_N, m_uL_R, m_uL_I, m_uL_L, m_uR_K, m_uR_N, m_uR_I, m_uR_L, m_uR_R, true_and, and_true, true_implies, false_implies, not_true_eq_false, not_false_eq_true, if_true, if_false, false_and, and_false] at h9 ⊢
        exact h9
    · rw [if_neg cn] at hp
      have h21 : ¬ mI M 165 6 = 21 := fun q => cn (hw21.mp q)
      -- from the place behind the denials
      have main : am_P am_P0 (d + 12) (am_look tX2_readFact) 46 [.ref 164, .int (nI o), .int (b01 b), .int (nI turn)] [] M Q := by
        have good : ∀ (M' : am_M) (t' : Tok) (v : Den) (c' : Nat) (x3 : Int32), res = .inr (t', v) → gF (sPz z c) nT M M' → GoX T n z M' a c' (v :: vs) t' → bdT v → c ≤ c' → c' + tS t ≤ c + tS t' → am_P am_P0 (d + 12) (am_look tX2_readFact) 146 [.ref 164, .int (nI o), .int (b01 b), .int x3] [] M' Q := by
          intro M' t' v c' x3 hr hg hG' hv hcc hcc'
          subst hr
          refine g_146 (d + 11) (nI o) x3 b t' v a c' vs M' Q hz hn hG' (fun q => by have := hbt q; omega) hv (fun M2 c2 g2 G2 h1 h2 => hQ M2 ⟨gF_trans hg (sPz_le g2 hcc), c2, G2, by omega, ?_⟩)
          show c2 + tS t ≤ c + tS t' + _
          omega
        by_cases c91 : isS t 91 = true
        · rw [if_pos c91] at hp
          have c91' : isSr 91 (.inr t) = true := c91
          simp +decide only [qX2_readFact_0, qX2_readFact_1, lx hL, s91, c91', b01, am_w1_i, am_w1_r, am_w1_x, am_w1_l, am_w1_w, va_rf_s, am_push_n, am_push_s, am_cs_0, am_cs_i, am_cs_l, am_cs_r, m_uI_K, m_uI_N, m_uI_R, m_uI_L, m_uI_I, m_uL_K, m_uL_N, m_uL_R, m_uL_I, m_uL_L, m_uR_K, m_uR_N, m_uR_I, m_uR_L, m_uR_R, true_and, and_true, true_implies, false_implies, not_true_eq_false, not_false_eq_true, if_true, if_false, false_and, and_false]
          rw [show (91 : Int32) = nI 91 from rfl]
          refine g_open (d + 9) 91 o t _ res a c vs M _ hz (by omega) ho hG hp (fun M2 e he g2 F2 => ?_) (fun M2 e he g2 F2 => ?_) (fun M2 t1 ho8 g2 G2 hs2 hk2 => ?_)
          · have h9 := f_146 (d + 11) (nI o) (nI turn) b e M2 Q (gF_LayN g2 hL) hz F2 (fun M' g' F' => bad M' e he (gF_trans (sRd_F g2) g') F')
            simp +decide only [qX2_readFact_0, qX2_readFact_1, lx (gF_LayN g2 hL), lz (gF_LayN g2 hL) hz, F2.2.1, b01, am_w1_i, am_w1_r, am_w1_x, am_w1_l, am_w1_w, va_rf_s, am_push_n, am_push_s, am_cs_0, am_cs_i, am_cs_l, am_cs_r, m_uI_K, m_uI_N, m_uI_R, m_uI_L, m_uI_I, m_uL_K, m_uL_N, m_uL_R, m_uL_I, m_uL_L, m_uR_K, m_uR_N, m_uR_I, m_uR_L, m_uR_R, true_and, and_true, true_implies, false_implies, not_true_eq_false, not_false_eq_true, if_true, if_false, false_and, and_false] at h9 ⊢
            exact h9
          · have L2 := gF_LayN g2 hL
            simp +decide only [qX2_readFact_0, qX2_readFact_1, lx L2, am_w1_i, am_w1_r, am_w1_x, am_w1_l, am_w1_w, va_rf_s, am_push_n, am_push_s, am_cs_0, am_cs_i, am_cs_l, am_cs_r, m_uI_K, m_uI_N, m_uI_R, m_uI_L, m_uI_I, m_uL_K, m_uL_N, m_uL_R, m_uL_I, m_uL_L, m_uR_K, m_uR_N, m_uR_I, m_uR_L, m_uR_R, true_and, and_true, true_implies, false_implies, not_true_eq_false, not_false_eq_true, if_true, if_false, false_and, and_false]
            refine f_test (d + 4) (nI o + 1) e M2 _ L2 hz F2 (fun M3 g3 F3 => ?_)
            have L3 := gF_LayN g3 L2
            simp +decide only [qX2_readFact_0, qX2_readFact_1, lx L3, am_w1_i, am_w1_r, am_w1_x, am_w1_l, am_w1_w, va_rf_s, am_push_n, am_push_s, am_cs_0, am_cs_i, am_cs_l, am_cs_r, m_uI_K, m_uI_N, m_uI_R, m_uI_L, m_uI_I, m_uL_K, m_uL_N, m_uL_R, m_uL_I, m_uL_L, m_uR_K, m_uR_N, m_uR_I, m_uR_L, m_uR_R, true_and, and_true, true_implies, false_implies, not_true_eq_false, not_false_eq_true, if_true, if_false, false_and, and_false]
            rw [show (93 : Int32) = nI 93 from rfl]
            refine f_sign (d + 9) 93 e M3 _ L3 hz (by omega) F3 (fun M4 g4 F4 => ?_)
            have L4 := gF_LayN g4 L3
            have h9 := f_146 (d + 11) (nI o) (nI turn) b e M4 Q L4 hz F4 (fun M' g' F' => bad M' e he (gF_trans (sRd_F g2) (gF_trans g3 (gF_trans g4 g'))) F')
            simp +decide only [qX2_readFact_0, qX2_readFact_1, lx L4, lz L4 hz, F4.2.1, b01, am_w1_i, am_w1_r, am_w1_x, am_w1_l, am_w1_w, va_rf_s, am_push_n, am_push_s, am_cs_0, am_cs_i, am_cs_l, am_cs_r, m_uI_K, m_uI_N, m_uI_R, m_uI_L, m_uI_I, m_uL_K, m_uL_N, m_uL_R, m_uL_I, m_uL_L, m_uR_K, m_uR_N, m_uR_I, m_uR_L, m_uR_R, true_and, and_true, true_implies, false_implies, not_true_eq_false, not_false_eq_true, if_true, if_false, false_and, and_false] at h9 ⊢
            exact h9
          · have L2 := G2.1
            simp +decide only [qX2_readFact_0, qX2_readFact_1, lx L2, ni_add1, am_w1_i, am_w1_r, am_w1_x, am_w1_l, am_w1_w, va_rf_s, am_push_n, am_push_s, am_cs_0, am_cs_i, am_cs_l, am_cs_r, m_uI_K, m_uI_N, m_uI_R, m_uI_L, m_uI_I, m_uL_K, m_uL_N, m_uL_R, m_uL_I, m_uL_L, m_uR_K, m_uR_N, m_uR_I, m_uR_L, m_uR_R, true_and, and_true, true_implies, false_implies, not_true_eq_false, not_false_eq_true, if_true, if_false, false_and, and_false]
            rcases bnd_some hk2 with ⟨e, he1, he2⟩ | ⟨t2, u, he1, he2⟩
            · refine h5 f1 (by omega) (d + 11) (o + 1) t1 v0 a c vs M2 _ _ (by omega) (by omega) G2 (by omega) he1 (fun M3 P3 => ?_)
              obtain ⟨g3, F3⟩ : gF (sFz z) nT M2 M3 ∧ FaX M3 z T n e := P3
              have L3 := gF_LayN g3 L2
              simp +decide only [qX2_readFact_0, qX2_readFact_1, lx L3, am_w1_i, am_w1_r, am_w1_x, am_w1_l, am_w1_w, va_rf_s, am_push_n, am_push_s, am_cs_0, am_cs_i, am_cs_l, am_cs_r, m_uI_K, m_uI_N, m_uI_R, m_uI_L, m_uI_I, m_uL_K, m_uL_N, m_uL_R, m_uL_I, m_uL_L, m_uR_K, m_uR_N, m_uR_I, m_uR_L, m_uR_R, true_and, and_true, true_implies, false_implies, not_true_eq_false, not_false_eq_true, if_true, if_false, false_and, and_false]
              rw [show (93 : Int32) = nI 93 from rfl]
              refine f_sign (d + 9) 93 e M3 _ L3 hz (by omega) F3 (fun M4 g4 F4 => ?_)
              have L4 := gF_LayN g4 L3
              have h9 := f_146 (d + 11) (nI o) (nI turn) b e M4 Q L4 hz F4 (fun M' g' F' => bad M' e he2 (gF_trans (sRd_F g2) (gF_trans g3 (gF_trans g4 g'))) F')
              simp +decide only [qX2_readFact_0, qX2_readFact_1, lx L4, lz L4 hz, F4.2.1, b01, am_w1_i, am_w1_r, am_w1_x, am_w1_l, am_w1_w, va_rf_s, am_push_n, am_push_s, am_cs_0, am_cs_i, am_cs_l, am_cs_r, m_uI_K, m_uI_N, m_uI_R, m_uI_L, m_uI_I, m_uL_K, m_uL_N, m_uL_R, m_uL_I, m_uL_L, m_uR_K, m_uR_N, m_uR_I, m_uR_L, m_uR_R, true_and, and_true, true_implies, false_implies, not_true_eq_false, not_false_eq_true, if_true, if_false, false_and, and_false] at h9 ⊢
              exact h9
            · refine h5 f1 (by omega) (d + 11) (o + 1) t1 v0 a c vs M2 _ _ (by omega) (by omega) G2 (by omega) he1 (fun M3 P3 => ?_)
              obtain ⟨g3, c3, G3, hc3, hc3'⟩ : gF (sPz z c) nT M2 M3 ∧ ∃ c', GoX T n z M3 a c' (u :: vs) t2 ∧ c ≤ c' ∧ c' + tS t1 ≤ c + tS t2 := P3
              have L3 := G3.1
              have hbu := ((ps_typ (T := T) (n := n) f1).2.2.2.2.2.1 (o + 1) t1 v0 (tkG_OK (GoX_t G2)) t2 u he1).2
              simp +decide only [qX2_readFact_0, qX2_readFact_1, lx L3, am_w1_i, am_w1_r, am_w1_x, am_w1_l, am_w1_w, va_rf_s, am_push_n, am_push_s, am_cs_0, am_cs_i, am_cs_l, am_cs_r, m_uI_K, m_uI_N, m_uI_R, m_uI_L, m_uI_I, m_uL_K, m_uL_N, m_uL_R, m_uL_I, m_uL_L, m_uR_K, m_uR_N, m_uR_I, m_uR_L, m_uR_R, true_and, and_true, true_implies, false_implies, not_true_eq_false, not_false_eq_true, if_true, if_false, false_and, and_false]
              rw [show (93 : Int32) = nI 93 from rfl]
              refine g_sign (d + 9) 93 t2 _ res a c3 (u :: vs) M3 _ hz (by omega) G3 he2 (fun M4 e he g4 F4 => ?_) (fun M4 t3 g4 G4 hs4 hk4 => ?_)
              · have L4 := gF_LayN g4 L3
                have h9 := f_146 (d + 11) (nI o) (nI turn) b e M4 Q L4 hz F4 (fun M' g' F' => bad M' e he (gF_trans (sRd_F g2) (gF_trans (sPz_F g3) (gF_trans (sRd_F g4) g'))) F')
                simp +decide only [qX2_readFact_0, qX2_readFact_1, lx L4, lz L4 hz, F4.2.1, b01, am_w1_i, am_w1_r, am_w1_x, am_w1_l, am_w1_w, va_rf_s, am_push_n, am_push_s, am_cs_0, am_cs_i, am_cs_l, am_cs_r, m_uI_K, m_uI_N, m_uI_R, m_uI_L, m_uI_I, m_uL_K, m_uL_N, m_uL_R, m_uL_I, m_uL_L, m_uR_K, m_uR_N, m_uR_I, m_uR_L, m_uR_R, true_and, and_true, true_implies, false_implies, not_true_eq_false, not_false_eq_true, if_true, if_false, false_and, and_false] at h9 ⊢
                exact h9
              · have hk4' : res = .inr (t3, u) := by cases hk4; rfl
                have h9 := good M4 t3 u c3 (nI turn) hk4' (gF_trans (sRd_P g2) (gF_trans g3 (sRd_P g4))) G4 hbu hc3 (by omega)
                simp +decide only [qX2_readFact_0, qX2_readFact_1, lx G4.1, lz G4.1 hz, G4.2.1, b01, am_w1_i, am_w1_r, am_w1_x, am_w1_l, am_w1_w, va_rf_s, am_push_n, am_push_s, am_cs_0, am_cs_i, am_cs_l, am_cs_r, m_uI_K, m_uI_N, m_uI_R, m_uI_L, m_uI_I, m_uL_K, m_uL_N, m_uL_R, m_uL_I, m_uL_L, m_uR_K, m_uR_N, m_uR_I, m_uR_L, m_uR_R, true_and, and_true, true_implies, false_implies, not_true_eq_false, not_false_eq_true, if_true, if_false, false_and, and_false] at h9 ⊢
                exact h9
        · rw [if_neg c91] at hp
          have c91' : isSr 91 (.inr t) = false := by show isS t 91 = false; simpa using c91
          by_cases ca : isW t wAll = true
          · rw [if_pos ca] at hp
            have h6 := hw22.mpr ca
            have ht0 : ¬ t.1 = 0 := by have := (isW_1 ca).1; omega
            simp +decide only [qX2_readFact_0, qX2_readFact_1, lx hL, s91, c91', h6, b01, am_w1_i, am_w1_r, am_w1_x, am_w1_l, am_w1_w, va_rf_s, am_push_n, am_push_s, am_cs_0, am_cs_i, am_cs_l, am_cs_r, m_uI_K, m_uI_N, m_uI_R, m_uI_L, m_uI_I, m_uL_K, m_uL_N, m_uL_R, m_uL_I, m_uL_L, m_uR_K, m_uR_N, m_uR_I, m_uR_L, m_uR_R, true_and, and_true, true_implies, false_implies, not_true_eq_false, not_false_eq_true, if_true, if_false, false_and, and_false]
            refine g_step (d + 10) t _ res a c vs M _ hz hG ht0 hp (fun M1 e he g1 F1 => ?_) (fun M1 t1 g1 G1 hs1 hk1 => ?_)
            · have L1 := gF_LayN g1 hL
              simp +decide only [qX2_readFact_0, qX2_readFact_1, lx L1, lz L1 hz, F1.2.1, am_w1_i, am_w1_r, am_w1_x, am_w1_l, am_w1_w, va_rf_s, am_push_n, am_push_s, am_cs_0, am_cs_i, am_cs_l, am_cs_r, m_uI_K, m_uI_N, m_uI_R, m_uI_L, m_uI_I, m_uL_K, m_uL_N, m_uL_R, m_uL_I, m_uL_L, m_uR_K, m_uR_N, m_uR_I, m_uR_L, m_uR_R, true_and, and_true, true_implies, false_implies, not_true_eq_false, not_false_eq_true, if_true, if_false, false_and, and_false]
              refine f_emit (d + 11) e 1 M1 _ L1 hz F1 (fun M2 g2 F2 => ?_)
              have L2 := gF_LayN g2 L1
              have h9 := f_146 (d + 11) (nI o) (nI turn) b e M2 Q L2 hz F2 (fun M' g' F' => bad M' e he (gF_trans (sRd_F g1) (gF_trans g2 g')) F')
              simp +decide only [qX2_readFact_0, qX2_readFact_1, lx L2, lz L2 hz, F2.2.1, b01, am_w1_i, am_w1_r, am_w1_x, am_w1_l, am_w1_w, va_rf_s, am_push_n, am_push_s, am_cs_0, am_cs_i, am_cs_l, am_cs_r, m_uI_K, m_uI_N, m_uI_R, m_uI_L, m_uI_I, m_uL_K, m_uL_N, m_uL_R, m_uL_I, m_uL_L, m_uR_K, m_uR_N, m_uR_I, m_uR_L, m_uR_R, true_and, and_true, true_implies, false_implies, not_true_eq_false, not_false_eq_true, if_true, if_false, false_and, and_false] at h9 ⊢
              exact h9
            · have L1 := G1.1
              have hk1' : res = .inr (t1, fun _ => 1) := by cases hk1; rfl
              have hb1 : bdT (fun _ => (1 : Int)) := fun _ => Or.inr rfl
              have hop : opOK 64 (inX 1) vs ∧ stD (inX 1) vs = (fun _ => (1 : Int)) :: vs := op_leaf (by decide) rfl (bdT_S hb1) (by omega)
              simp +decide only [qX2_readFact_0, qX2_readFact_1, lx L1, lz L1 hz, G1.2.1, am_w1_i, am_w1_r, am_w1_x, am_w1_l, am_w1_w, va_rf_s, am_push_n, am_push_s, am_cs_0, am_cs_i, am_cs_l, am_cs_r, m_uI_K, m_uI_N, m_uI_R, m_uI_L, m_uI_I, m_uL_K, m_uL_N, m_uL_R, m_uL_I, m_uL_L, m_uR_K, m_uR_N, m_uR_I, m_uR_L, m_uR_R, true_and, and_true, true_implies, false_implies, not_true_eq_false, not_false_eq_true, if_true, if_false, false_and, and_false]
              refine g_emit (d + 11) 1 t1 a c vs M1 _ hz hn G1 (by omega) hop.1 (fun M2 g2 G2 => ?_)
              rw [hop.2] at G2
              have h9 := good M2 t1 _ (c + 1) (nI turn) hk1' (gF_trans (sRd_P g1) g2) G2 hb1 (by omega) (by omega)
              simp +decide only [qX2_readFact_0, qX2_readFact_1, lx G2.1, lz G2.1 hz, G2.2.1, b01, am_w1_i, am_w1_r, am_w1_x, am_w1_l, am_w1_w, va_rf_s, am_push_n, am_push_s, am_cs_0, am_cs_i, am_cs_l, am_cs_r, m_uI_K, m_uI_N, m_uI_R, m_uI_L, m_uI_I, m_uL_K, m_uL_N, m_uL_R, m_uL_I, m_uL_L, m_uR_K, m_uR_N, m_uR_I, m_uR_L, m_uR_R, true_and, and_true, true_implies, false_implies, not_true_eq_false, not_false_eq_true, if_true, if_false, false_and, and_false] at h9 ⊢
              exact h9
          · rw [if_neg ca] at hp
            have h22 : ¬ mI M 165 6 = 22 := fun q => ca (hw22.mp q)
            simp +decide only [qX2_readFact_0, qX2_readFact_1, lx hL, s91, c91', b01, am_w1_i, am_w1_r, am_w1_x, am_w1_l, am_w1_w, va_rf_s, am_push_n, am_push_s, am_cs_0, am_cs_i, am_cs_l, am_cs_r, m_uI_K, m_uI_N, m_uI_R, m_uI_L, m_uI_I, m_uL_K, m_uL_N, m_uL_R, m_uL_I, m_uL_L, m_uR_K, m_uR_N, m_uR_I, m_uR_L, m_uR_R, true_and, and_true, true_implies, false_implies, not_true_eq_false, not_false_eq_true, if_true, if_false, false_and, and_false]
            rw [br_p h22]
            -- after the first sum has failed
            have tailF : ∀ M1 e, res = .inl e → gF (sFz z) nT M M1 → FaX M1 z T n e → am_P am_P0 (d + 12) (am_look tX2_readFact) 125 [.ref 164, .int (nI o), .int (b01 b), .int (nI turn)] [] M1 Q := fun M1 e he g1 F1 => by
              have L1 := gF_LayN g1 hL
              simp +decide only [qX2_readFact_0, qX2_readFact_1, lx L1, am_w1_i, am_w1_r, am_w1_x, am_w1_l, am_w1_w, va_rf_s, am_push_n, am_push_s, am_cs_0, am_cs_i, am_cs_l, am_cs_r, m_uI_K, m_uI_N, m_uI_R, m_uI_L, m_uI_I, m_uL_K, m_uL_N, m_uL_R, m_uL_I, m_uL_L, m_uR_K, m_uR_N, m_uR_I, m_uR_L, m_uR_R, true_and, and_true, true_implies, false_implies, not_true_eq_false, not_false_eq_true, if_true, if_false, false_and, and_false]
              refine f_cmp (d + 8) e M1 _ L1 hz F1 (fun M2 g2 F2 => ?_)
              have L2 := gF_LayN g2 L1
              simp +decide only [qX2_readFact_0, qX2_readFact_1, lx L2, am_w1_i, am_w1_r, am_w1_x, am_w1_l, am_w1_w, va_rf_s, am_push_n, am_push_s, am_cs_0, am_cs_i, am_cs_l, am_cs_r, m_uI_K, m_uI_N, m_uI_R, m_uI_L, m_uI_I, m_uL_K, m_uL_N, m_uL_R, m_uL_I, m_uL_L, m_uR_K, m_uR_N, m_uR_I, m_uR_L, m_uR_R, true_and, and_true, true_implies, false_implies, not_true_eq_false, not_false_eq_true, if_true, if_false, false_and, and_false]
              refine f_sum (d + 7) (nI o) e M2 _ L2 hz F2 (fun M3 g3 F3 => ?_)
              have L3 := gF_LayN g3 L2
              simp +decide only [qX2_readFact_0, qX2_readFact_1, lx L3, lz L3 hz, F3.2.1, am_w1_i, am_w1_r, am_w1_x, am_w1_l, am_w1_w, va_rf_s, am_push_n, am_push_s, am_cs_0, am_cs_i, am_cs_l, am_cs_r, m_uI_K, m_uI_N, m_uI_R, m_uI_L, m_uI_I, m_uL_K, m_uL_N, m_uL_R, m_uL_I, m_uL_L, m_uR_K, m_uR_N, m_uR_I, m_uR_L, m_uR_R, true_and, and_true, true_implies, false_implies, not_true_eq_false, not_false_eq_true, if_true, if_false, false_and, and_false]
              refine f_emit (d + 11) e (-15) M3 _ L3 hz F3 (fun M4 g4 F4 => ?_)
              have L4 := gF_LayN g4 L3
              have h9 := f_146 (d + 11) (nI o) (-15) b e M4 Q L4 hz F4 (fun M' g' F' => bad M' e he (gF_trans g1 (gF_trans g2 (gF_trans g3 (gF_trans g4 g')))) F')
              simp +decide only [qX2_readFact_0, qX2_readFact_1, lx L4, lz L4 hz, F4.2.1, b01, am_w1_i, am_w1_r, am_w1_x, am_w1_l, am_w1_w, va_rf_s, am_push_n, am_push_s, am_cs_0, am_cs_i, am_cs_l, am_cs_r, m_uI_K, m_uI_N, m_uI_R, m_uI_L, m_uI_I, m_uL_K, m_uL_N, m_uL_R, m_uL_I, m_uL_L, m_uR_K, m_uR_N, m_uR_I, m_uR_L, m_uR_R, true_and, and_true, true_implies, false_implies, not_true_eq_false, not_false_eq_true, if_true, if_false, false_and, and_false] at h9 ⊢
              exact h9
            rcases bnd_some hp with ⟨e, he1, he2⟩ | ⟨t1, u, he1, he2⟩
            · refine h0 f1 (by omega) (d + 11) o t v0 a c vs M _ _ ho (by omega) hG (by omega) he1 (fun M1 P1 => ?_)
              obtain ⟨g1, F1⟩ : gF (sFz z) nT M M1 ∧ FaX M1 z T n e := P1
              have h9 := tailF M1 e he2 g1 F1
              simp +decide only [qX2_readFact_0, qX2_readFact_1, lx (gF_LayN g1 hL), am_w1_i, am_w1_r, am_w1_x, am_w1_l, am_w1_w, va_rf_s, am_push_n, am_push_s, am_cs_0, am_cs_i, am_cs_l, am_cs_r, m_uI_K, m_uI_N, m_uI_R, m_uI_L, m_uI_I, m_uL_K, m_uL_N, m_uL_R, m_uL_I, m_uL_L, m_uR_K, m_uR_N, m_uR_I, m_uR_L, m_uR_R, true_and, and_true, true_implies, false_implies, not_true_eq_false, not_false_eq_true, if_true, if_false, false_and, and_false] at h9 ⊢
              exact h9
            · refine h0 f1 (by omega) (d + 11) o t v0 a c vs M _ _ ho (by omega) hG (by omega) he1 (fun M1 P1 => ?_)
              obtain ⟨g1, c1, G1, hc1, hc1'⟩ : gF (sPz z c) nT M M1 ∧ ∃ c', GoX T n z M1 a c' (u :: vs) t1 ∧ c ≤ c' ∧ c' + tS t ≤ c + tS t1 := P1
              have L1 := G1.1
              have hbu := ((ps_typ (T := T) (n := n) f1).1 o t v0 (tkG_OK hsz) t1 u he1).2
              simp +decide only [qX2_readFact_0, qX2_readFact_1, lx L1, am_w1_i, am_w1_r, am_w1_x, am_w1_l, am_w1_w, va_rf_s, am_push_n, am_push_s, am_cs_0, am_cs_i, am_cs_l, am_cs_r, m_uI_K, m_uI_N, m_uI_R, m_uI_L, m_uI_I, m_uL_K, m_uL_N, m_uL_R, m_uL_I, m_uL_L, m_uR_K, m_uR_N, m_uR_I, m_uR_L, m_uR_R, true_and, and_true, true_implies, false_implies, not_true_eq_false, not_false_eq_true, if_true, if_false, false_and, and_false]
              refine g_cmp (d + 8) t1 _ res a c1 (u :: vs) M1 _ hz G1 he2 (fun M2 e x he g2 F2 => ?_) (fun M2 t2 x g2 G2 hs2 hk2 hcz hx => ?_)
              · have L2 := gF_LayN g2 L1
                simp +decide only [qX2_readFact_0, qX2_readFact_1, lx L2, am_w1_i, am_w1_r, am_w1_x, am_w1_l, am_w1_w, va_rf_s, am_push_n, am_push_s, am_cs_0, am_cs_i, am_cs_l, am_cs_r, m_uI_K, m_uI_N, m_uI_R, m_uI_L, m_uI_I, m_uL_K, m_uL_N, m_uL_R, m_uL_I, m_uL_L, m_uR_K, m_uR_N, m_uR_I, m_uR_L, m_uR_R, true_and, and_true, true_implies, false_implies, not_true_eq_false, not_false_eq_true, if_true, if_false, false_and, and_false]
                refine f_sum (d + 7) (nI o) e M2 _ L2 hz F2 (fun M3 g3 F3 => ?_)
                have L3 := gF_LayN g3 L2
                simp +decide only [qX2_readFact_0, qX2_readFact_1, lx L3, lz L3 hz, F3.2.1, am_w1_i, am_w1_r, am_w1_x, am_w1_l, am_w1_w, va_rf_s, am_push_n, am_push_s, am_cs_0, am_cs_i, am_cs_l, am_cs_r, m_uI_K, m_uI_N, m_uI_R, m_uI_L, m_uI_I, m_uL_K, m_uL_N, m_uL_R, m_uL_I, m_uL_L, m_uR_K, m_uR_N, m_uR_I, m_uR_L, m_uR_R, true_and, and_true, true_implies, false_implies, not_true_eq_false, not_false_eq_true, if_true, if_false, false_and, and_false]
                refine f_emit (d + 11) e x M3 _ L3 hz F3 (fun M4 g4 F4 => ?_)
                have L4 := gF_LayN g4 L3
                have h9 := f_146 (d + 11) (nI o) x b e M4 Q L4 hz F4 (fun M' g' F' => bad M' e he (gF_trans (sPz_F g1) (gF_trans (sRd_F g2) (gF_trans g3 (gF_trans g4 g')))) F')
                simp +decide only [qX2_readFact_0, qX2_readFact_1, lx L4, lz L4 hz, F4.2.1, b01, am_w1_i, am_w1_r, am_w1_x, am_w1_l, am_w1_w, va_rf_s, am_push_n, am_push_s, am_cs_0, am_cs_i, am_cs_l, am_cs_r, m_uI_K, m_uI_N, m_uI_R, m_uI_L, m_uI_I, m_uL_K, m_uL_N, m_uL_R, m_uL_I, m_uL_L, m_uR_K, m_uR_N, m_uR_I, m_uR_L, m_uR_R, true_and, and_true, true_implies, false_implies, not_true_eq_false, not_false_eq_true, if_true, if_false, false_and, and_false] at h9 ⊢
                exact h9
              · have L2 := G2.1
                have hc3 := cmp_3 hcz
                simp +decide only [qX2_readFact_0, qX2_readFact_1, lx L2, am_w1_i, am_w1_r, am_w1_x, am_w1_l, am_w1_w, va_rf_s, am_push_n, am_push_s, am_cs_0, am_cs_i, am_cs_l, am_cs_r, m_uI_K, m_uI_N, m_uI_R, m_uI_L, m_uI_I, m_uL_K, m_uL_N, m_uL_R, m_uL_I, m_uL_L, m_uR_K, m_uR_N, m_uR_I, m_uR_L, m_uR_R, true_and, and_true, true_implies, false_implies, not_true_eq_false, not_false_eq_true, if_true, if_false, false_and, and_false]
                rcases bnd_some hk2 with ⟨e, hf1', hf2⟩ | ⟨t3, u', hf1', hf2⟩
                · refine h0 f1 (by omega) (d + 11) o t2 v0 a c1 (u :: vs) M2 _ _ ho (by omega) G2 (by rw [List.length_cons]; omega) hf1' (fun M3 P3 => ?_)
                  obtain ⟨g3, F3⟩ : gF (sFz z) nT M2 M3 ∧ FaX M3 z T n e := P3
                  have L3 := gF_LayN g3 L2
                  simp +decide only [qX2_readFact_0, qX2_readFact_1, lx L3, lz L3 hz, F3.2.1, am_w1_i, am_w1_r, am_w1_x, am_w1_l, am_w1_w, va_rf_s, am_push_n, am_push_s, am_cs_0, am_cs_i, am_cs_l, am_cs_r, m_uI_K, m_uI_N, m_uI_R, m_uI_L, m_uI_I, m_uL_K, m_uL_N, m_uL_R, m_uL_I, m_uL_L, m_uR_K, m_uR_N, m_uR_I, m_uR_L, m_uR_R, true_and, and_true, true_implies, false_implies, not_true_eq_false, not_false_eq_true, if_true, if_false, false_and, and_false]
                  refine f_emit (d + 11) e x M3 _ L3 hz F3 (fun M4 g4 F4 => ?_)
                  have L4 := gF_LayN g4 L3
                  have h9 := f_146 (d + 11) (nI o) x b e M4 Q L4 hz F4 (fun M' g' F' => bad M' e hf2 (gF_trans (sPz_F g1) (gF_trans (sRd_F g2) (gF_trans g3 (gF_trans g4 g')))) F')
                  simp +decide only [qX2_readFact_0, qX2_readFact_1, lx L4, lz L4 hz, F4.2.1, b01, am_w1_i, am_w1_r, am_w1_x, am_w1_l, am_w1_w, va_rf_s, am_push_n, am_push_s, am_cs_0, am_cs_i, am_cs_l, am_cs_r, m_uI_K, m_uI_N, m_uI_R, m_uI_L, m_uI_I, m_uL_K, m_uL_N, m_uL_R, m_uL_I, m_uL_L, m_uR_K, m_uR_N, m_uR_I, m_uR_L, m_uR_R, true_and, and_true, true_implies, false_implies, not_true_eq_false, not_false_eq_true, if_true, if_false, false_and, and_false] at h9 ⊢
                  exact h9
                · refine h0 f1 (by omega) (d + 11) o t2 v0 a c1 (u :: vs) M2 _ _ ho (by omega) G2 (by rw [List.length_cons]; omega) hf1' (fun M3 P3 => ?_)
                  obtain ⟨g3, c3, G3, hc3a, hc3b⟩ : gF (sPz z c1) nT M2 M3 ∧ ∃ c', GoX T n z M3 a c' (u' :: u :: vs) t3 ∧ c1 ≤ c' ∧ c' + tS t2 ≤ c1 + tS t3 := P3
                  have L3 := G3.1
                  have hbu' := ((ps_typ (T := T) (n := n) f1).1 o t2 v0 (tkG_OK (GoX_t G2)) t3 u' hf1').2
                  have hop := op_bin (r := vs) hx (by omega) (by omega) hbu hbu'
                  have hf2' : res = .inr (t3, jnD (cmpOp t1) u u') := by cases hf2; rfl
                  simp +decide only [qX2_readFact_0, qX2_readFact_1, lx L3, lz L3 hz, G3.2.1, am_w1_i, am_w1_r, am_w1_x, am_w1_l, am_w1_w, va_rf_s, am_push_n, am_push_s, am_cs_0, am_cs_i, am_cs_l, am_cs_r, m_uI_K, m_uI_N, m_uI_R, m_uI_L, m_uI_I, m_uL_K, m_uL_N, m_uL_R, m_uL_I, m_uL_L, m_uR_K, m_uR_N, m_uR_I, m_uR_L, m_uR_R, true_and, and_true, true_implies, false_implies, not_true_eq_false, not_false_eq_true, if_true, if_false, false_and, and_false]
                  refine g_emit (d + 11) x t3 a c3 (u' :: u :: vs) M3 _ hz hn G3 (by omega) hop.1 (fun M4 g4 G4 => ?_)
                  rw [hop.2] at G4
                  have h9 := good M4 t3 _ (c3 + 1) x hf2' (gF_trans g1 (gF_trans (sRd_P g2) (gF_trans (sPz_le g3 hc1) (sPz_le g4 (by omega))))) G4 (fun e => jn_01 hc3) (by omega) (by omega)
                  simp +decide only [qX2_readFact_0, qX2_readFact_1, lx G4.1, lz G4.1 hz, G4.2.1, b01, am_w1_i, am_w1_r, am_w1_x, am_w1_l, am_w1_w, va_rf_s, am_push_n, am_push_s, am_cs_0, am_cs_i, am_cs_l, am_cs_r, m_uI_K, m_uI_N, m_uI_R, m_uI_L, m_uI_I, m_uL_K, m_uL_N, m_uL_R, m_uL_I, m_uL_L, m_uR_K, m_uR_N, m_uR_I, m_uR_L, m_uR_R, true_and, and_true, true_implies, false_implies, not_true_eq_false, not_false_eq_true, if_true, if_false, false_and, and_false] at h9 ⊢
                  exact h9
      rw [hX2_readFact_4]
      simp +decide only [qX2_readFact_0, qX2_readFact_1, lx hL, s91, am_w1_i, am_w1_r, am_w1_x, am_w1_l, am_w1_w, va_rf_s, am_push_n, am_push_s, am_cs_0, am_cs_i, am_cs_l, am_cs_r, m_uI_K, m_uI_N, m_uI_R, m_uI_L, m_uI_I, m_uL_K, m_uL_N, m_uL_R, m_uL_I, m_uL_L, m_uR_K, m_uR_N, m_uR_I, m_uR_L, m_uR_R, true_and, and_true, true_implies, false_implies, not_true_eq_false, not_false_eq_true, if_true, if_false, false_and, and_false] at main ⊢
      by_cases c18 : (1800 : Int32) ≤ nI turn
      · rw [br_p c18]
        exact main
      · rw [br_n c18, br_p h21]
        exact main
theorem g_fact (hz : z = 2 ∨ z = 83) (hn : n ≤ 1800) (f : Nat) (h5 : ∀ f', f' < f → HP T n z 5 22 0 5 f') (h0 : ∀ f', f' < f → HP T n z 0 26 3 2 f') : HP T n z 9 24 2 3 f := by
  intro D o t v0 a c vs M Q res ho hD hG hl hp hQ
  rw [eX2_readFact]
  simp +decide only [qX2_readFact_0, qX2_readFact_1, am_w1_i, am_w1_r, am_w1_x, am_w1_l, am_w1_w, va_rf_s, am_push_n, am_push_s, am_cs_0, am_cs_i, am_cs_l, am_cs_r, m_uI_K, m_uI_N, m_uI_R, m_uI_L, m_uI_I, m_uL_K, m_uL_N, m_uL_R, m_uL_I, m_uL_L, m_uR_K, m_uR_N, m_uR_I, m_uR_L, m_uR_R, true_and, and_true, true_implies, false_implies, not_true_eq_false, not_false_eq_true, if_true, if_false, false_and, and_false]
  refine g_factL hz hn f h5 h0 f (Nat.le_refl _) D o t v0 a c vs M Q res 0 false ho hD hG hl (Nat.zero_le _) (fun q => by cases q) hp (fun M1 P1 => hQ M1 ?_)
  cases res with
  | inl e => exact P1
  | inr q =>
    obtain ⟨g1, c1, G1, hc1, hc1'⟩ : gF (sPz z c) nT M M1 ∧ ∃ c', GoX T n z M1 a c' (q.2 :: vs) q.1 ∧ c ≤ c' ∧ c' + tS t ≤ c + tS q.1 + 0 := P1
    exact ⟨g1, c1, G1, hc1, hc1'⟩
end
end
section
/-! the class's parser: both, tests, all -/
section
variable {T : Nat → Nat} {n z : Nat}
/-- the rest of both -/
theorem g_bothL (hz : z = 2 ∨ z = 83) (hn : n ≤ 1800) (f : Nat) (h9 : ∀ f', f' < f → HP T n z 9 24 2 3 f') : ∀ (f1 : Nat), f1 ≤ f → ∀ (D o : Nat) (t : Tok) (v : Den) (a c : Nat) (vs : List Den) (M : am_M) (Q : Option Value → am_M → Prop) (res : Sum (Nat × Nat) (Tok × Den)) (turn : Nat), o ≤ 8 → 12 * (9 - o) + 4 ≤ D → GoX T n z M a c (v :: vs) t → vs.length ≤ 3 * o + 1 → bdT v → turn ≤ tS t → ps T n f1 8 o t v = some res → (∀ M', PoX T n z a c vs t M M' res → Q none M') → am_P am_P0 D (am_look tX2_readBoth) 7 [.ref 164, .int (nI o), .int (nI turn)] [] M Q := by
  intro f1
  induction f1 with
  | zero => intro _ D o t v a c vs M Q res turn _ _ _ _ _ _ h; cases h
  | succ f1 ih =>
    intro hf1 D o t v a c vs M Q res turn ho hD hG hl hv htu hp hQ
    obtain ⟨d, rfl⟩ : ∃ d, D = d + 12 := ⟨D - 12, by omega⟩
    obtain ⟨hL, hpa, hR, hf, hc, hct⟩ := id hG
    have hst : StR M T n (.inr t) := hR
    have hsz := GoX_t hG
    rw [ps_8] at hp
    have hnt : tS t ≤ n := by have := hsz.1; have := hsz.2.1; omega
    have hw : mI M 165 6 = 20 ↔ isW t wAnd = true := wr_is (k := 20) hst (by omega)
    by_cases ha : isW t wAnd = true
    · rw [if_pos ha] at hp
      have h6 := hw.mpr ha
      have ht0 : ¬ t.1 = 0 := by have := (isW_1 ha).1; omega
      have hz0 := tkG_0 hsz ht0
      have hlt : ¬ (1800 : Int32) ≤ nI turn := by rw [show (1800 : Int32) = nI 1800 from rfl, ni_le (by omega) (by omega)]; omega
      rw [hX2_readBoth_7]
      simp +decide only [qX2_readBoth, lx hL, h6, am_w1_i, am_w1_r, am_w1_x, am_w1_l, am_w1_w, va_rf_s, am_push_n, am_push_s, am_cs_0, am_cs_i, am_cs_l, am_cs_r, m_uI_K, m_uI_N, m_uI_R, m_uI_L, m_uI_I, m_uL_K, m_uL_N, m_uL_R, m_uL_I, m_uL_L, m_uR_K, m_uR_N, m_uR_I, m_uR_L, m_uR_R, true_and, and_true, true_implies, false_implies, not_true_eq_false, not_false_eq_true, if_true, if_false, false_and, and_false]
      rw [br_n hlt]
      refine g_step (d + 10) t _ res a c (v :: vs) M _ hz hG ht0 hp (fun M1 e he g1 F1 => ?_) (fun M1 t1 g1 G1 hs1 hk1 => ?_)
      · have L1 := gF_LayN g1 hL
        simp +decide only [qX2_readBoth, lx L1, am_w1_i, am_w1_r, am_w1_x, am_w1_l, am_w1_w, va_rf_s, am_push_n, am_push_s, am_cs_0, am_cs_i, am_cs_l, am_cs_r, m_uI_K, m_uI_N, m_uI_R, m_uI_L, m_uI_I, m_uL_K, m_uL_N, m_uL_R, m_uL_I, m_uL_L, m_uR_K, m_uR_N, m_uR_I, m_uR_L, m_uR_R, true_and, and_true, true_implies, false_implies, not_true_eq_false, not_false_eq_true, if_true, if_false, false_and, and_false]
        refine f_factE (d + 6) (nI o) e M1 _ L1 hz F1 (fun M2 g2 F2 => ?_)
        have L2 := gF_LayN g2 L1
        simp +decide only [qX2_readBoth, lx L2, lz L2 hz, F2.2.1, am_w1_i, am_w1_r, am_w1_x, am_w1_l, am_w1_w, va_rf_s, am_push_n, am_push_s, am_cs_0, am_cs_i, am_cs_l, am_cs_r, m_uI_K, m_uI_N, m_uI_R, m_uI_L, m_uI_I, m_uL_K, m_uL_N, m_uL_R, m_uL_I, m_uL_L, m_uR_K, m_uR_N, m_uR_I, m_uR_L, m_uR_R, true_and, and_true, true_implies, false_implies, not_true_eq_false, not_false_eq_true, if_true, if_false, false_and, and_false]
        refine f_emit (d + 11) e (-16) M2 _ L2 hz F2 (fun M3 g3 F3 => ?_)
        simp +decide only [qX2_readBoth, am_w1_i, am_w1_r, am_w1_x, am_w1_l, am_w1_w, va_rf_s, am_push_n, am_push_s, am_cs_0, am_cs_i, am_cs_l, am_cs_r, m_uI_K, m_uI_N, m_uI_R, m_uI_L, m_uI_I, m_uL_K, m_uL_N, m_uL_R, m_uL_I, m_uL_L, m_uR_K, m_uR_N, m_uR_I, m_uR_L, m_uR_R, true_and, and_true, true_implies, false_implies, not_true_eq_false, not_false_eq_true, if_true, if_false, false_and, and_false]
        exact f_bothL (d + 12) _ _ e M3 Q (gF_LayN g3 L2) F3 (hQ M3 (by rw [he]; exact ⟨gF_trans (sRd_F g1) (gF_trans g2 g3), F3⟩))
      · have L1 := G1.1
        have typ2 := (ps_typ (T := T) (n := n) f1).2.2.2.2.2.2.2.2.2 o t1 v (tkG_OK (GoX_t G1))
        simp +decide only [qX2_readBoth, lx L1, am_w1_i, am_w1_r, am_w1_x, am_w1_l, am_w1_w, va_rf_s, am_push_n, am_push_s, am_cs_0, am_cs_i, am_cs_l, am_cs_r, m_uI_K, m_uI_N, m_uI_R, m_uI_L, m_uI_I, m_uL_K, m_uL_N, m_uL_R, m_uL_I, m_uL_L, m_uR_K, m_uR_N, m_uR_I, m_uR_L, m_uR_R, true_and, and_true, true_implies, false_implies, not_true_eq_false, not_false_eq_true, if_true, if_false, false_and, and_false]
        rcases bnd_some hk1 with ⟨e, he1, he2⟩ | ⟨t2, v2, he1, he2⟩
        · refine h9 f1 (by omega) (d + 11) o t1 v a c (v :: vs) M1 _ _ ho (by omega) G1 (by rw [List.length_cons]; omega) he1 (fun M2 P2 => ?_)
          obtain ⟨g2, F2⟩ : gF (sFz z) nT M1 M2 ∧ FaX M2 z T n e := P2
          have L2 := gF_LayN g2 L1
          simp +decide only [qX2_readBoth, lx L2, lz L2 hz, F2.2.1, am_w1_i, am_w1_r, am_w1_x, am_w1_l, am_w1_w, va_rf_s, am_push_n, am_push_s, am_cs_0, am_cs_i, am_cs_l, am_cs_r, m_uI_K, m_uI_N, m_uI_R, m_uI_L, m_uI_I, m_uL_K, m_uL_N, m_uL_R, m_uL_I, m_uL_L, m_uR_K, m_uR_N, m_uR_I, m_uR_L, m_uR_R, true_and, and_true, true_implies, false_implies, not_true_eq_false, not_false_eq_true, if_true, if_false, false_and, and_false]
          refine f_emit (d + 11) e (-16) M2 _ L2 hz F2 (fun M3 g3 F3 => ?_)
          simp +decide only [qX2_readBoth, am_w1_i, am_w1_r, am_w1_x, am_w1_l, am_w1_w, va_rf_s, am_push_n, am_push_s, am_cs_0, am_cs_i, am_cs_l, am_cs_r, m_uI_K, m_uI_N, m_uI_R, m_uI_L, m_uI_I, m_uL_K, m_uL_N, m_uL_R, m_uL_I, m_uL_L, m_uR_K, m_uR_N, m_uR_I, m_uR_L, m_uR_R, true_and, and_true, true_implies, false_implies, not_true_eq_false, not_false_eq_true, if_true, if_false, false_and, and_false]
          exact f_bothL (d + 12) _ _ e M3 Q (gF_LayN g3 L2) F3 (hQ M3 (by rw [he2]; exact ⟨gF_trans (sRd_F g1) (gF_trans g2 g3), F3⟩))
        · refine h9 f1 (by omega) (d + 11) o t1 v a c (v :: vs) M1 _ _ ho (by omega) G1 (by rw [List.length_cons]; omega) he1 (fun M2 P2 => ?_)
          obtain ⟨g2, c2, G2, hc2, hc2'⟩ : gF (sPz z c) nT M1 M2 ∧ ∃ c', GoX T n z M2 a c' (v2 :: v :: vs) t2 ∧ c ≤ c' ∧ c' + tS t1 ≤ c + tS t2 := P2
          have L2 := G2.1
          have hb2 := (typ2 t2 v2 he1).2
          have hop := op_log (r := vs) (x := -16) (op := 20) (by decide) (by omega) hv hb2
          have hbj : bdT (jnD 20 v v2) := fun x => jn_20 (hv x) (hb2 x)
          simp +decide only [qX2_readBoth, lx L2, lz L2 hz, G2.2.1, am_w1_i, am_w1_r, am_w1_x, am_w1_l, am_w1_w, va_rf_s, am_push_n, am_push_s, am_cs_0, am_cs_i, am_cs_l, am_cs_r, m_uI_K, m_uI_N, m_uI_R, m_uI_L, m_uI_I, m_uL_K, m_uL_N, m_uL_R, m_uL_I, m_uL_L, m_uR_K, m_uR_N, m_uR_I, m_uR_L, m_uR_R, true_and, and_true, true_implies, false_implies, not_true_eq_false, not_false_eq_true, if_true, if_false, false_and, and_false]
          refine g_emit (d + 11) (-16) t2 a c2 (v2 :: v :: vs) M2 _ hz hn G2 (by omega) hop.1 (fun M3 g3 G3 => ?_)
          rw [hop.2] at G3
          simp +decide only [qX2_readBoth, ni_add1, am_w1_i, am_w1_r, am_w1_x, am_w1_l, am_w1_w, va_rf_s, am_push_n, am_push_s, am_cs_0, am_cs_i, am_cs_l, am_cs_r, m_uI_K, m_uI_N, m_uI_R, m_uI_L, m_uI_I, m_uL_K, m_uL_N, m_uL_R, m_uL_I, m_uL_L, m_uR_K, m_uR_N, m_uR_I, m_uR_L, m_uR_R, true_and, and_true, true_implies, false_implies, not_true_eq_false, not_false_eq_true, if_true, if_false, false_and, and_false]
          refine ih (by omega) (d + 12) o t2 _ a (c2 + 1) vs M3 Q res (turn + 1) ho hD G3 hl hbj (by omega) he2 (fun M4 P4 => hQ M4 ?_)
          have G13 : gF (sPz z c) nT M M3 := gF_trans (sRd_P g1) (gF_trans g2 (sPz_le g3 hc2))
          cases res with
          | inl e => exact ⟨gF_trans (sPz_F G13) P4.1, P4.2⟩
          | inr q =>
            obtain ⟨g4, c4, G4, hc4, hc4'⟩ : gF (sPz z (c2 + 1)) nT M3 M4 ∧ ∃ c', GoX T n z M4 a c' (q.2 :: vs) q.1 ∧ c2 + 1 ≤ c' ∧ c' + tS t2 ≤ c2 + 1 + tS q.1 := P4
            exact ⟨gF_trans G13 (sPz_le g4 (by omega)), c4, G4, by omega, by omega⟩
    · rw [if_neg ha] at hp
      cases hp
      have h0 := hQ M ⟨gF_refl _ _ _, c, hG, Nat.le_refl _, Nat.le_refl _⟩
      have h6 : ¬ mI M 165 6 = 20 := fun q => ha (hw.mp q)
      rw [hX2_readBoth_7]
      simp +decide only [qX2_readBoth, lx hL, am_w1_i, am_w1_r, am_w1_x, am_w1_l, am_w1_w, va_rf_s, am_push_n, am_push_s, am_cs_0, am_cs_i, am_cs_l, am_cs_r, m_uI_K, m_uI_N, m_uI_R, m_uI_L, m_uI_I, m_uL_K, m_uL_N, m_uL_R, m_uL_I, m_uL_L, m_uR_K, m_uR_N, m_uR_I, m_uR_L, m_uR_R, true_and, and_true, true_implies, false_implies, not_true_eq_false, not_false_eq_true, if_true, if_false, false_and, and_false]
      exact ⟨fun _ => h0, fun _ => by rw [br_p h6]; exact h0⟩
theorem g_both (hz : z = 2 ∨ z = 83) (hn : n ≤ 1800) (f : Nat) (h9 : ∀ f', f' < f → HP T n z 9 24 2 3 f') : HP T n z 7 23 1 4 f := by
  intro D o t v0 a c vs M Q res ho hD hG hl hp hQ
  cases f with
  | zero => cases hp
  | succ f =>
    obtain ⟨d, rfl⟩ : ∃ d, D = d + 12 := ⟨D - 12, by omega⟩
    rw [ps_7] at hp
    have hL := hG.1
    rw [eX2_readBoth]
    simp +decide only [qX2_readBoth, lx hL, am_w1_i, am_w1_r, am_w1_x, am_w1_l, am_w1_w, va_rf_s, am_push_n, am_push_s, am_cs_0, am_cs_i, am_cs_l, am_cs_r, m_uI_K, m_uI_N, m_uI_R, m_uI_L, m_uI_I, m_uL_K, m_uL_N, m_uL_R, m_uL_I, m_uL_L, m_uR_K, m_uR_N, m_uR_I, m_uR_L, m_uR_R, true_and, and_true, true_implies, false_implies, not_true_eq_false, not_false_eq_true, if_true, if_false, false_and, and_false]
    rcases bnd_some hp with ⟨e, he1, he2⟩ | ⟨t1, v1, he1, he2⟩
    · refine h9 f (by omega) (d + 11) o t v0 a c vs M _ _ ho (by omega) hG (by omega) he1 (fun M1 P1 => ?_)
      obtain ⟨g1, F1⟩ : gF (sFz z) nT M M1 ∧ FaX M1 z T n e := P1
      simp +decide only [qX2_readBoth, am_w1_i, am_w1_r, am_w1_x, am_w1_l, am_w1_w, va_rf_s, am_push_n, am_push_s, am_cs_0, am_cs_i, am_cs_l, am_cs_r, m_uI_K, m_uI_N, m_uI_R, m_uI_L, m_uI_I, m_uL_K, m_uL_N, m_uL_R, m_uL_I, m_uL_L, m_uR_K, m_uR_N, m_uR_I, m_uR_L, m_uR_R, true_and, and_true, true_implies, false_implies, not_true_eq_false, not_false_eq_true, if_true, if_false, false_and, and_false]
      exact f_bothL (d + 12) _ _ e M1 Q (gF_LayN g1 hL) F1 (hQ M1 (by rw [he2]; exact ⟨g1, F1⟩))
    · refine h9 f (by omega) (d + 11) o t v0 a c vs M _ _ ho (by omega) hG (by omega) he1 (fun M1 P1 => ?_)
      obtain ⟨g1, c1, G1, hc1, hc1'⟩ : gF (sPz z c) nT M M1 ∧ ∃ c', GoX T n z M1 a c' (v1 :: vs) t1 ∧ c ≤ c' ∧ c' + tS t ≤ c + tS t1 := P1
      have hb1 := ((ps_typ (T := T) (n := n) f).2.2.2.2.2.2.2.2.2 o t v0 (tkG_OK (GoX_t hG)) t1 v1 he1).2
      simp +decide only [qX2_readBoth, am_w1_i, am_w1_r, am_w1_x, am_w1_l, am_w1_w, va_rf_s, am_push_n, am_push_s, am_cs_0, am_cs_i, am_cs_l, am_cs_r, m_uI_K, m_uI_N, m_uI_R, m_uI_L, m_uI_I, m_uL_K, m_uL_N, m_uL_R, m_uL_I, m_uL_L, m_uR_K, m_uR_N, m_uR_I, m_uR_L, m_uR_R, true_and, and_true, true_implies, false_implies, not_true_eq_false, not_false_eq_true, if_true, if_false, false_and, and_false]
      rw [show (0 : Int32) = nI 0 from rfl]
      refine g_bothL hz hn f (fun f' hf' => h9 f' (by omega)) f (Nat.le_refl _) (d + 12) o t1 v1 a c1 vs M1 Q res 0 ho hD G1 hl hb1 (Nat.zero_le _) he2 (fun M2 P2 => hQ M2 ?_)
      cases res with
      | inl e => exact ⟨gF_trans (sPz_F g1) P2.1, P2.2⟩
      | inr q =>
        obtain ⟨g4, c4, G4, hc4, hc4'⟩ : gF (sPz z c1) nT M1 M2 ∧ ∃ c', GoX T n z M2 a c' (q.2 :: vs) q.1 ∧ c1 ≤ c' ∧ c' + tS t1 ≤ c1 + tS q.1 := P2
        exact ⟨gF_trans g1 (sPz_le g4 hc1), c4, G4, by omega, by omega⟩
/-- the rest of test -/
theorem g_testL (hz : z = 2 ∨ z = 83) (hn : n ≤ 1800) (f : Nat) (h9 : ∀ f', f' < f → HP T n z 7 23 1 4 f') : ∀ (f1 : Nat), f1 ≤ f → ∀ (D o : Nat) (t : Tok) (v : Den) (a c : Nat) (vs : List Den) (M : am_M) (Q : Option Value → am_M → Prop) (res : Sum (Nat × Nat) (Tok × Den)) (turn : Nat), o ≤ 8 → 12 * (9 - o) + 5 ≤ D → GoX T n z M a c (v :: vs) t → vs.length ≤ 3 * o + 0 → bdT v → turn ≤ tS t → ps T n f1 6 o t v = some res → (∀ M', PoX T n z a c vs t M M' res → Q none M') → am_P am_P0 D (am_look tX2_readTest) 7 [.ref 164, .int (nI o), .int (nI turn)] [] M Q := by
  intro f1
  induction f1 with
  | zero => intro _ D o t v a c vs M Q res turn _ _ _ _ _ _ h; cases h
  | succ f1 ih =>
    intro hf1 D o t v a c vs M Q res turn ho hD hG hl hv htu hp hQ
    obtain ⟨d, rfl⟩ : ∃ d, D = d + 12 := ⟨D - 12, by omega⟩
    obtain ⟨hL, hpa, hR, hf, hc, hct⟩ := id hG
    have hst : StR M T n (.inr t) := hR
    have hsz := GoX_t hG
    rw [ps_6] at hp
    have hnt : tS t ≤ n := by have := hsz.1; have := hsz.2.1; omega
    have hw : mI M 165 6 = 19 ↔ isW t wOr = true := wr_is (k := 19) hst (by omega)
    by_cases ha : isW t wOr = true
    · rw [if_pos ha] at hp
      have h6 := hw.mpr ha
      have ht0 : ¬ t.1 = 0 := by have := (isW_1 ha).1; omega
      have hz0 := tkG_0 hsz ht0
      have hlt : ¬ (1800 : Int32) ≤ nI turn := by rw [show (1800 : Int32) = nI 1800 from rfl, ni_le (by omega) (by omega)]; omega
      rw [hX2_readTest_7]
      simp +decide only [qX2_readTest, lx hL, h6, am_w1_i, am_w1_r, am_w1_x, am_w1_l, am_w1_w, va_rf_s, am_push_n, am_push_s, am_cs_0, am_cs_i, am_cs_l, am_cs_r, m_uI_K, m_uI_N, m_uI_R, m_uI_L, m_uI_I, m_uL_K, m_uL_N, m_uL_R, m_uL_I, m_uL_L, m_uR_K, m_uR_N, m_uR_I, m_uR_L, m_uR_R, true_and, and_true, true_implies, false_implies, not_true_eq_false, not_false_eq_true, if_true, if_false, false_and, and_false]
      rw [br_n hlt]
      refine g_step (d + 10) t _ res a c (v :: vs) M _ hz hG ht0 hp (fun M1 e he g1 F1 => ?_) (fun M1 t1 g1 G1 hs1 hk1 => ?_)
      · have L1 := gF_LayN g1 hL
        simp +decide only [qX2_readTest, lx L1, am_w1_i, am_w1_r, am_w1_x, am_w1_l, am_w1_w, va_rf_s, am_push_n, am_push_s, am_cs_0, am_cs_i, am_cs_l, am_cs_r, m_uI_K, m_uI_N, m_uI_R, m_uI_L, m_uI_I, m_uL_K, m_uL_N, m_uL_R, m_uL_I, m_uL_L, m_uR_K, m_uR_N, m_uR_I, m_uR_L, m_uR_R, true_and, and_true, true_implies, false_implies, not_true_eq_false, not_false_eq_true, if_true, if_false, false_and, and_false]
        refine f_both (d + 5) (nI o) e M1 _ L1 hz F1 (fun M2 g2 F2 => ?_)
        have L2 := gF_LayN g2 L1
        simp +decide only [qX2_readTest, lx L2, lz L2 hz, F2.2.1, am_w1_i, am_w1_r, am_w1_x, am_w1_l, am_w1_w, va_rf_s, am_push_n, am_push_s, am_cs_0, am_cs_i, am_cs_l, am_cs_r, m_uI_K, m_uI_N, m_uI_R, m_uI_L, m_uI_I, m_uL_K, m_uL_N, m_uL_R, m_uL_I, m_uL_L, m_uR_K, m_uR_N, m_uR_I, m_uR_L, m_uR_R, true_and, and_true, true_implies, false_implies, not_true_eq_false, not_false_eq_true, if_true, if_false, false_and, and_false]
        refine f_emit (d + 11) e (-17) M2 _ L2 hz F2 (fun M3 g3 F3 => ?_)
        simp +decide only [qX2_readTest, am_w1_i, am_w1_r, am_w1_x, am_w1_l, am_w1_w, va_rf_s, am_push_n, am_push_s, am_cs_0, am_cs_i, am_cs_l, am_cs_r, m_uI_K, m_uI_N, m_uI_R, m_uI_L, m_uI_I, m_uL_K, m_uL_N, m_uL_R, m_uL_I, m_uL_L, m_uR_K, m_uR_N, m_uR_I, m_uR_L, m_uR_R, true_and, and_true, true_implies, false_implies, not_true_eq_false, not_false_eq_true, if_true, if_false, false_and, and_false]
        exact f_testL (d + 12) _ _ e M3 Q (gF_LayN g3 L2) F3 (hQ M3 (by rw [he]; exact ⟨gF_trans (sRd_F g1) (gF_trans g2 g3), F3⟩))
      · have L1 := G1.1
        have typ2 := (ps_typ (T := T) (n := n) f1).2.2.2.2.2.2.2.1 o t1 v (tkG_OK (GoX_t G1))
        simp +decide only [qX2_readTest, lx L1, am_w1_i, am_w1_r, am_w1_x, am_w1_l, am_w1_w, va_rf_s, am_push_n, am_push_s, am_cs_0, am_cs_i, am_cs_l, am_cs_r, m_uI_K, m_uI_N, m_uI_R, m_uI_L, m_uI_I, m_uL_K, m_uL_N, m_uL_R, m_uL_I, m_uL_L, m_uR_K, m_uR_N, m_uR_I, m_uR_L, m_uR_R, true_and, and_true, true_implies, false_implies, not_true_eq_false, not_false_eq_true, if_true, if_false, false_and, and_false]
        rcases bnd_some hk1 with ⟨e, he1, he2⟩ | ⟨t2, v2, he1, he2⟩
        · refine h9 f1 (by omega) (d + 11) o t1 v a c (v :: vs) M1 _ _ ho (by omega) G1 (by rw [List.length_cons]; omega) he1 (fun M2 P2 => ?_)
          obtain ⟨g2, F2⟩ : gF (sFz z) nT M1 M2 ∧ FaX M2 z T n e := P2
          have L2 := gF_LayN g2 L1
          simp +decide only [qX2_readTest, lx L2, lz L2 hz, F2.2.1, am_w1_i, am_w1_r, am_w1_x, am_w1_l, am_w1_w, va_rf_s, am_push_n, am_push_s, am_cs_0, am_cs_i, am_cs_l, am_cs_r, m_uI_K, m_uI_N, m_uI_R, m_uI_L, m_uI_I, m_uL_K, m_uL_N, m_uL_R, m_uL_I, m_uL_L, m_uR_K, m_uR_N, m_uR_I, m_uR_L, m_uR_R, true_and, and_true, true_implies, false_implies, not_true_eq_false, not_false_eq_true, if_true, if_false, false_and, and_false]
          refine f_emit (d + 11) e (-17) M2 _ L2 hz F2 (fun M3 g3 F3 => ?_)
          simp +decide only [qX2_readTest, am_w1_i, am_w1_r, am_w1_x, am_w1_l, am_w1_w, va_rf_s, am_push_n, am_push_s, am_cs_0, am_cs_i, am_cs_l, am_cs_r, m_uI_K, m_uI_N, m_uI_R, m_uI_L, m_uI_I, m_uL_K, m_uL_N, m_uL_R, m_uL_I, m_uL_L, m_uR_K, m_uR_N, m_uR_I, m_uR_L, m_uR_R, true_and, and_true, true_implies, false_implies, not_true_eq_false, not_false_eq_true, if_true, if_false, false_and, and_false]
          exact f_testL (d + 12) _ _ e M3 Q (gF_LayN g3 L2) F3 (hQ M3 (by rw [he2]; exact ⟨gF_trans (sRd_F g1) (gF_trans g2 g3), F3⟩))
        · refine h9 f1 (by omega) (d + 11) o t1 v a c (v :: vs) M1 _ _ ho (by omega) G1 (by rw [List.length_cons]; omega) he1 (fun M2 P2 => ?_)
          obtain ⟨g2, c2, G2, hc2, hc2'⟩ : gF (sPz z c) nT M1 M2 ∧ ∃ c', GoX T n z M2 a c' (v2 :: v :: vs) t2 ∧ c ≤ c' ∧ c' + tS t1 ≤ c + tS t2 := P2
          have L2 := G2.1
          have hb2 := (typ2 t2 v2 he1).2
          have hop := op_log (r := vs) (x := -17) (op := 21) (by decide) (by omega) hv hb2
          have hbj : bdT (jnD 21 v v2) := fun x => jn_21 (v x) (v2 x)
          simp +decide only [qX2_readTest, lx L2, lz L2 hz, G2.2.1, am_w1_i, am_w1_r, am_w1_x, am_w1_l, am_w1_w, va_rf_s, am_push_n, am_push_s, am_cs_0, am_cs_i, am_cs_l, am_cs_r, m_uI_K, m_uI_N, m_uI_R, m_uI_L, m_uI_I, m_uL_K, m_uL_N, m_uL_R, m_uL_I, m_uL_L, m_uR_K, m_uR_N, m_uR_I, m_uR_L, m_uR_R, true_and, and_true, true_implies, false_implies, not_true_eq_false, not_false_eq_true, if_true, if_false, false_and, and_false]
          refine g_emit (d + 11) (-17) t2 a c2 (v2 :: v :: vs) M2 _ hz hn G2 (by omega) hop.1 (fun M3 g3 G3 => ?_)
          rw [hop.2] at G3
          simp +decide only [qX2_readTest, ni_add1, am_w1_i, am_w1_r, am_w1_x, am_w1_l, am_w1_w, va_rf_s, am_push_n, am_push_s, am_cs_0, am_cs_i, am_cs_l, am_cs_r, m_uI_K, m_uI_N, m_uI_R, m_uI_L, m_uI_I, m_uL_K, m_uL_N, m_uL_R, m_uL_I, m_uL_L, m_uR_K, m_uR_N, m_uR_I, m_uR_L, m_uR_R, true_and, and_true, true_implies, false_implies, not_true_eq_false, not_false_eq_true, if_true, if_false, false_and, and_false]
          refine ih (by omega) (d + 12) o t2 _ a (c2 + 1) vs M3 Q res (turn + 1) ho hD G3 hl hbj (by omega) he2 (fun M4 P4 => hQ M4 ?_)
          have G13 : gF (sPz z c) nT M M3 := gF_trans (sRd_P g1) (gF_trans g2 (sPz_le g3 hc2))
          cases res with
          | inl e => exact ⟨gF_trans (sPz_F G13) P4.1, P4.2⟩
          | inr q =>
            obtain ⟨g4, c4, G4, hc4, hc4'⟩ : gF (sPz z (c2 + 1)) nT M3 M4 ∧ ∃ c', GoX T n z M4 a c' (q.2 :: vs) q.1 ∧ c2 + 1 ≤ c' ∧ c' + tS t2 ≤ c2 + 1 + tS q.1 := P4
            exact ⟨gF_trans G13 (sPz_le g4 (by omega)), c4, G4, by omega, by omega⟩
    · rw [if_neg ha] at hp
      cases hp
      have h0 := hQ M ⟨gF_refl _ _ _, c, hG, Nat.le_refl _, Nat.le_refl _⟩
      have h6 : ¬ mI M 165 6 = 19 := fun q => ha (hw.mp q)
      rw [hX2_readTest_7]
      simp +decide only [qX2_readTest, lx hL, am_w1_i, am_w1_r, am_w1_x, am_w1_l, am_w1_w, va_rf_s, am_push_n, am_push_s, am_cs_0, am_cs_i, am_cs_l, am_cs_r, m_uI_K, m_uI_N, m_uI_R, m_uI_L, m_uI_I, m_uL_K, m_uL_N, m_uL_R, m_uL_I, m_uL_L, m_uR_K, m_uR_N, m_uR_I, m_uR_L, m_uR_R, true_and, and_true, true_implies, false_implies, not_true_eq_false, not_false_eq_true, if_true, if_false, false_and, and_false]
      exact ⟨fun _ => h0, fun _ => by rw [br_p h6]; exact h0⟩
theorem g_test (hz : z = 2 ∨ z = 83) (hn : n ≤ 1800) (f : Nat) (h9 : ∀ f', f' < f → HP T n z 7 23 1 4 f') : HP T n z 5 22 0 5 f := by
  intro D o t v0 a c vs M Q res ho hD hG hl hp hQ
  cases f with
  | zero => cases hp
  | succ f =>
    obtain ⟨d, rfl⟩ : ∃ d, D = d + 12 := ⟨D - 12, by omega⟩
    rw [ps_5] at hp
    have hL := hG.1
    rw [eX2_readTest]
    simp +decide only [qX2_readTest, lx hL, am_w1_i, am_w1_r, am_w1_x, am_w1_l, am_w1_w, va_rf_s, am_push_n, am_push_s, am_cs_0, am_cs_i, am_cs_l, am_cs_r, m_uI_K, m_uI_N, m_uI_R, m_uI_L, m_uI_I, m_uL_K, m_uL_N, m_uL_R, m_uL_I, m_uL_L, m_uR_K, m_uR_N, m_uR_I, m_uR_L, m_uR_R, true_and, and_true, true_implies, false_implies, not_true_eq_false, not_false_eq_true, if_true, if_false, false_and, and_false]
    rcases bnd_some hp with ⟨e, he1, he2⟩ | ⟨t1, v1, he1, he2⟩
    · refine h9 f (by omega) (d + 11) o t v0 a c vs M _ _ ho (by omega) hG (by omega) he1 (fun M1 P1 => ?_)
      obtain ⟨g1, F1⟩ : gF (sFz z) nT M M1 ∧ FaX M1 z T n e := P1
      simp +decide only [qX2_readTest, am_w1_i, am_w1_r, am_w1_x, am_w1_l, am_w1_w, va_rf_s, am_push_n, am_push_s, am_cs_0, am_cs_i, am_cs_l, am_cs_r, m_uI_K, m_uI_N, m_uI_R, m_uI_L, m_uI_I, m_uL_K, m_uL_N, m_uL_R, m_uL_I, m_uL_L, m_uR_K, m_uR_N, m_uR_I, m_uR_L, m_uR_R, true_and, and_true, true_implies, false_implies, not_true_eq_false, not_false_eq_true, if_true, if_false, false_and, and_false]
      exact f_testL (d + 12) _ _ e M1 Q (gF_LayN g1 hL) F1 (hQ M1 (by rw [he2]; exact ⟨g1, F1⟩))
    · refine h9 f (by omega) (d + 11) o t v0 a c vs M _ _ ho (by omega) hG (by omega) he1 (fun M1 P1 => ?_)
      obtain ⟨g1, c1, G1, hc1, hc1'⟩ : gF (sPz z c) nT M M1 ∧ ∃ c', GoX T n z M1 a c' (v1 :: vs) t1 ∧ c ≤ c' ∧ c' + tS t ≤ c + tS t1 := P1
      have hb1 := ((ps_typ (T := T) (n := n) f).2.2.2.2.2.2.2.1 o t v0 (tkG_OK (GoX_t hG)) t1 v1 he1).2
      simp +decide only [qX2_readTest, am_w1_i, am_w1_r, am_w1_x, am_w1_l, am_w1_w, va_rf_s, am_push_n, am_push_s, am_cs_0, am_cs_i, am_cs_l, am_cs_r, m_uI_K, m_uI_N, m_uI_R, m_uI_L, m_uI_I, m_uL_K, m_uL_N, m_uL_R, m_uL_I, m_uL_L, m_uR_K, m_uR_N, m_uR_I, m_uR_L, m_uR_R, true_and, and_true, true_implies, false_implies, not_true_eq_false, not_false_eq_true, if_true, if_false, false_and, and_false]
      rw [show (0 : Int32) = nI 0 from rfl]
      refine g_testL hz hn f (fun f' hf' => h9 f' (by omega)) f (Nat.le_refl _) (d + 12) o t1 v1 a c1 vs M1 Q res 0 ho hD G1 hl hb1 (Nat.zero_le _) he2 (fun M2 P2 => hQ M2 ?_)
      cases res with
      | inl e => exact ⟨gF_trans (sPz_F g1) P2.1, P2.2⟩
      | inr q =>
        obtain ⟨g4, c4, G4, hc4, hc4'⟩ : gF (sPz z c1) nT M1 M2 ∧ ∃ c', GoX T n z M2 a c' (q.2 :: vs) q.1 ∧ c1 ≤ c' ∧ c' + tS t1 ≤ c1 + tS q.1 := P2
        exact ⟨gF_trans g1 (sPz_le g4 hc1), c4, G4, by omega, by omega⟩
theorem g_all (hz : z = 2 ∨ z = 83) (hn : n ≤ 1800) : ∀ f, (HP T n z 0 26 3 2 f ∧ HP T n z 2 27 4 1 f ∧ HP T n z 4 29 5 0 f) ∧ HP T n z 5 22 0 5 f ∧ HP T n z 7 23 1 4 f ∧ HP T n z 9 24 2 3 f := by
  intro f
  induction f using Nat.strongRecOn with
  | ind f ih =>
    exact ⟨⟨g_sum hz hn f (fun f' h => (ih f' h).1.2.1), g_prod hz hn f (fun f' h => (ih f' h).1.2.2), g_part hz hn f (fun f' h => (ih f' h).1.1)⟩, g_test hz hn f (fun f' h => (ih f' h).2.2.1), g_both hz hn f (fun f' h => (ih f' h).2.2.2), g_fact hz hn f (fun f' h => (ih f' h).2.1) (fun f' h => (ih f' h).1.1)⟩
end
end
