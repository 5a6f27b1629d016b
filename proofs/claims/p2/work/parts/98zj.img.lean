/-! image: what is written, the class -/
def sIx (a j : Nat) : Prop := a = 170 ∨ (a = 0 ∧ j = 10)
def sIo (a j : Nat) : Prop := a = 335 ∨ (a = 277 ∧ j = 82)
def ImX (M : am_M) (L : List Nat) : Prop := L.length ≤ 507 ∧ mI M 0 10 = nI L.length ∧ ∀ j v, L[j]? = some v → mI M 170 j = nI v
def ImO (M : am_M) (L : List Nat) : Prop := L.length ≤ 507 ∧ mI M 277 82 = nI L.length ∧ ∀ j v, L[j]? = some v → mI M 335 j = nI v
theorem an_v (v : Nat) (h : v < 256) : nI v &&& 255 = nI v := by
  have e : (nI v &&& 255).toBitVec.toNat = v % 4294967296 &&& 255 := by
    show ((nI v).toBitVec &&& (255 : Int32).toBitVec).toNat = _
    rw [BitVec.toNat_and]
    rfl
  apply Int32.toBitVec_inj.mp
  apply BitVec.eq_of_toNat_eq
  rw [e, show (255 : Nat) = 2 ^ 8 - 1 from rfl, Nat.and_two_pow_sub_one_eq_mod]
  show v % 4294967296 % 256 = v % 4294967296
  omega
theorem x_wr (d v : Nat) (L : List Nat) (M : am_M) (Q : Option Value → am_M → Prop) (hL : Lay M) (hI : ImX M L) (hn : L.length < 507) (hQ : ∀ M', gF sIx nT M M' → ImX M' (L ++ [v]) → Q none M') : am_E am_P0 d 162 [.ref 0, .int (nI v)] M Q := by
  rw [c_x_write d (nI v) M Q hL L.length hI.2.1 hn]
  refine hQ _ (gF_trans (gF_i _ (Or.inl rfl)) (gF_i _ (Or.inr ⟨rfl, rfl⟩))) ⟨by rw [List.length_append]; show L.length + 1 ≤ 507; omega, by rw [m_uI_I, if_pos ⟨rfl, rfl⟩, List.length_append]; rfl, fun j u hu => ?_⟩
  rw [m_uI_I, if_neg (by omega), m_uI_I]
  by_cases e : j < L.length
  · rw [List.getElem?_append_left e] at hu
    rw [if_neg (by omega)]
    exact hI.2.2 j u hu
  · rw [List.getElem?_append_right (by omega)] at hu
    have hl := (List.getElem?_eq_some_iff.mp hu).1
    have e1 : ([v] : List Nat).length = 1 := rfl
    have e2 : j = L.length := by omega
    subst e2
    rw [Nat.sub_self] at hu
    cases hu
    rw [if_pos ⟨rfl, rfl⟩]
theorem m_wr (d v : Nat) (L : List Nat) (M : am_M) (Q : Option Value → am_M → Prop) (hL : Lay M) (hI : ImO M L) (hn : L.length < 507) (hv : v < 256) (hQ : ∀ M', gF sIo nT M M' → ImO M' (L ++ [v]) → Q none M') : am_E am_P0 d 298 [.ref 277, .int (nI v)] M Q := by
  rw [c_m_writes d (nI v) M Q hL L.length hI.2.1 (by omega), an_v v hv]
  refine hQ _ (gF_trans (gF_i _ (Or.inl rfl)) (gF_i _ (Or.inr ⟨rfl, rfl⟩))) ⟨by rw [List.length_append]; show L.length + 1 ≤ 507; omega, by rw [m_uI_I, if_pos ⟨rfl, rfl⟩, List.length_append]; rfl, fun j u hu => ?_⟩
  rw [m_uI_I, if_neg (by omega), m_uI_I]
  by_cases e : j < L.length
  · rw [List.getElem?_append_left e] at hu
    rw [if_neg (by omega)]
    exact hI.2.2 j u hu
  · rw [List.getElem?_append_right (by omega)] at hu
    have hl := (List.getElem?_eq_some_iff.mp hu).1
    have e1 : ([v] : List Nat).length = 1 := rfl
    have e2 : j = L.length := by omega
    subst e2
    rw [Nat.sub_self] at hu
    cases hu
    rw [if_pos ⟨rfl, rfl⟩]
def n01 (l : Bool) : Nat := if l = true then 1 else 0
theorem n01_b (l : Bool) : nI (n01 l) = b01 l := by cases l <;> rfl
/-- the sayings of a ship, written -/
def syL (C s : Nat) : List Sy → List Nat
  | [] => []
  | y :: r => [s, y.1, cel C y.2.1, n01 y.2.2] ++ syL C s r
def imS (D : Dat) : Nat → List Nat
  | 0 => []
  | k + 1 => imS D k ++ syL (dC D) k (dY D k)
def sgL (C : Nat) : List (Nat × Nat × Nat) → List Nat
  | [] => []
  | g :: r => [g.1, cel C g.2.1, g.2.2] ++ sgL C r
def ckS : List Nat → Nat → Nat
  | [], c => c
  | v :: r, c => ckS r ((3 * c + v) % 241)
def imA (D : Dat) : List Nat := (([dTot D] ++ imS D (dN D)) ++ [(dSg D).length]) ++ sgL (dC D) (dSg D)
def imD (D : Dat) : List Nat := imA D ++ [ckS (imA D) 29]
theorem syL_app (C s : Nat) : ∀ (A B : List Sy), syL C s (A ++ B) = syL C s A ++ syL C s B := by
  intro A B
  induction A with
  | nil => rfl
  | cons y r ih => show [s, y.1, cel C y.2.1, n01 y.2.2] ++ syL C s (r ++ B) = _; rw [ih]; rfl
theorem sgL_app (C : Nat) : ∀ (A B : List (Nat × Nat × Nat)), sgL C (A ++ B) = sgL C A ++ sgL C B := by
  intro A B
  induction A with
  | nil => rfl
  | cons y r ih => show [y.1, cel C y.2.1, y.2.2] ++ sgL C (r ++ B) = _; rw [ih]; rfl
theorem ckS_app : ∀ (A B : List Nat) (c : Nat), ckS (A ++ B) c = ckS B (ckS A c) := by
  intro A
  induction A with
  | nil => intro B c; rfl
  | cons v r ih => intro B c; exact ih B _
theorem syL_len (C s : Nat) (Y : List Sy) : (syL C s Y).length = 4 * Y.length := by
  induction Y with
  | nil => rfl
  | cons y r ih => show (syL C s r).length + 1 + 1 + 1 + 1 = 4 * (r.length + 1); rw [ih]; omega
theorem sgL_len (C : Nat) (Y : List (Nat × Nat × Nat)) : (sgL C Y).length = 3 * Y.length := by
  induction Y with
  | nil => rfl
  | cons y r ih => show (sgL C r).length + 1 + 1 + 1 = 3 * (r.length + 1); rw [ih]; omega
theorem imS_len (D : Dat) : ∀ k, (imS D k).length = 4 * sumF (fun s => (dY D s).length) k := by
  intro k
  induction k with
  | zero => rfl
  | succ k ih => show (imS D k ++ syL (dC D) k (dY D k)).length = 4 * (sumF _ k + (dY D k).length); rw [List.length_append, ih, syL_len]; omega
theorem sumF_mono (f : Nat → Nat) : ∀ n k, k ≤ n → sumF f k ≤ sumF f n := by
  intro n
  induction n with
  | zero => intro k hk; rw [show k = 0 by omega]; exact Nat.le_refl _
  | succ n ih =>
    intro k hk
    by_cases e : k = n + 1
    · rw [e]; exact Nat.le_refl _
    · have := ih k (by omega)
      show sumF f k ≤ sumF f n + f n
      omega
theorem ckS_lt : ∀ (L : List Nat) (c : Nat), c < 241 → ckS L c < 241 := by
  intro L
  induction L with
  | nil => intro c h; exact h
  | cons v r ih => intro c h; exact ih _ (Nat.mod_lt _ (by omega))
theorem tk_s {α : Type} {L : List α} {i : Nat} {y : α} (h : L[i]? = some y) : L.take (i + 1) = L.take i ++ [y] := by
  have := (List.getElem?_eq_some_iff.mp h).1
  rw [List.take_add_one, h]; rfl
theorem dSp_t {D : Dat} {s : Nat} (hD : dOK D) (hs : s < dN D) : sumF (fun s => (dY D s).length) s + (dY D s).length ≤ 96 := by
  have h1 := sumF_mono (fun s => (dY D s).length) (dSh D).length (s + 1) hs
  have h2 : dTot D ≤ 96 := hD.1.2.2.2.2.2.1
  have h3 : sumF (fun s => (dY D s).length) (s + 1) = sumF (fun s => (dY D s).length) s + (dY D s).length := rfl
  unfold dTot at h2
  omega
/-- the sum over octets -/
theorem ck_step {c v : Nat} (hc : c < 241) (hv : v < 256) : (3 * nI c + nI v) - (3 * nI c + nI v) / 241 * 241 = nI ((3 * c + v) % 241) := by
  rw [show (3 : Int32) = nI 3 from rfl, ni_mul, ni_add, show (241 : Int32) = nI 241 from rfl, ni_div (by omega) (by omega), ni_mul, ni_sub (by have := Nat.div_mul_le_self (3 * c + v) 241; omega)]
  congr 1
  have := Nat.div_add_mod (3 * c + v) 241
  omega
theorem l_x_check (d a n N : Nat) (L : List Nat) (M : am_M) (Q : Option Value → am_M → Prop) (hk : mK M a = 0) (hN : mN M a = N) (hnN : n ≤ N) (hN2 : N ≤ 2000) (hn : L.length = n) (hv : ∀ j v, L[j]? = some v → v < 256 ∧ mI M a j = nI v) : ∀ (m i c : Nat), i + m = n → c < 241 → c = ckS (L.take i) 29 → (am_P am_P0 d (am_look tX10_checkOf) 5 [.ref a, .int (nI n), .int (nI c), .int (nI i)] [] M Q ↔ Q (some (.int (nI (ckS L 29)))) M) := by
  intro m
  induction m with
  | zero =>
    intro i c hi hc he
    have hle : nI n ≤ nI i := (ni_le (by omega) (by omega)).mpr (by omega)
    rw [List.take_of_length_le (by omega)] at he
    rw [hX10_checkOf_5]
    simp +decide (disch := omega) only [qX10_checkOf, am_w1_i, am_w1_r, am_w1_x, am_w1_l, am_w1_w, va_rf_s, am_push_n, am_push_s, am_cs_0, am_cs_i, am_cs_l, am_cs_r, m_uI_K, m_uI_N, m_uI_R, m_uI_L, m_uI_I, m_uL_K, m_uL_N, m_uL_R, m_uL_I, m_uL_L, m_uR_K, m_uR_N, m_uR_I, m_uR_L, m_uR_R, true_and, and_true, true_implies, false_implies, not_true_eq_false, not_false_eq_true, if_true, if_false, false_and, and_false]
    rw [br_p hle, he]
  | succ m ih =>
    intro i c hi hc he
    have hlt : ¬ nI n ≤ nI i := by rw [ni_le (by omega) (by omega)]; omega
    obtain ⟨v, hv1⟩ : ∃ v, L[i]? = some v := ⟨L[i]'(by omega), List.getElem?_eq_getElem (by omega)⟩
    obtain ⟨v2, v3⟩ := hv i v hv1
    have h0 := ih (i + 1) ((3 * c + v) % 241) (by omega) (Nat.mod_lt _ (by omega)) (by rw [tk_s hv1, ckS_app, ← he]; rfl)
    have eck := ck_step (v := v) hc v2
    rw [hX10_checkOf_5]
    simp +decide (disch := omega) only [qX10_checkOf, hk, hN, v3, eck, ni_in_t, ni_tn, ni_add1, am_w1_i, am_w1_r, am_w1_x, am_w1_l, am_w1_w, va_rf_s, am_push_n, am_push_s, am_cs_0, am_cs_i, am_cs_l, am_cs_r, m_uI_K, m_uI_N, m_uI_R, m_uI_L, m_uI_I, m_uL_K, m_uL_N, m_uL_R, m_uL_I, m_uL_L, m_uR_K, m_uR_N, m_uR_I, m_uR_L, m_uR_R, true_and, and_true, true_implies, false_implies, not_true_eq_false, not_false_eq_true, if_true, if_false, false_and, and_false]
    rw [br_n hlt]
    exact h0
theorem c_x_check (d a n N : Nat) (L : List Nat) (M : am_M) (Q : Option Value → am_M → Prop) (hk : mK M a = 0) (hN : mN M a = N) (hnN : n ≤ N) (hN2 : N ≤ 2000) (hn : L.length = n) (hv : ∀ j v, L[j]? = some v → v < 256 ∧ mI M a j = nI v) : am_E am_P0 d 163 [.ref a, .int (nI n)] M Q ↔ Q (some (.int (nI (ckS L 29)))) M := by
  have h0 := l_x_check d a n N L M Q hk hN hnN hN2 hn hv n 0 29 (by omega) (by omega) rfl
  rw [eX10_checkOf]
  simp +decide (disch := omega) only [qX10_checkOf, am_w1_i, am_w1_r, am_w1_x, am_w1_l, am_w1_w, va_rf_s, am_push_n, am_push_s, am_cs_0, am_cs_i, am_cs_l, am_cs_r, m_uI_K, m_uI_N, m_uI_R, m_uI_L, m_uI_I, m_uL_K, m_uL_N, m_uL_R, m_uL_I, m_uL_L, m_uR_K, m_uR_N, m_uR_I, m_uR_L, m_uR_R, true_and, and_true, true_implies, false_implies, not_true_eq_false, not_false_eq_true, if_true, if_false, false_and, and_false]
  exact h0
