/-! 98zj.img 98zk.img2 98zl.img3 98zm.img4 98zn.on 98zo.on2 98zp.on3 98zq.on4 98zr.on5 -/
section
/-! image: what is written, the class -/
def sIx (a j : Nat) : Prop := a = 170 ∨ (a = 0 ∧ j = 10)
def sIo (a j : Nat) : Prop := a = 335 ∨ (a = 277 ∧ j = 82)
def ImX (M : am_M) (L : List Nat) : Prop := L.length ≤ 507 ∧ mI M 0 10 = nI L.length ∧ ∀ j v, L[j]? = some v → mI M 170 j = nI v
def ImO (M : am_M) (L : List Nat) : Prop := L.length ≤ 507 ∧ mI M 277 82 = nI L.length ∧ ∀ j v, L[j]? = some v → mI M 335 j = nI v
theorem an_v (v : Nat) (h : v < 256) : nI v &&& 255 = nI v := by
  have e : (nI v &&& 255).toBitVec.toNat = v % 4294967296 &&& 255 := by
    show ((nI v).toBitVec &&& (255 : Int32).toBitVec).toNat = _
    rw [BitVec.toNat_and]
    rfl
  apply Int32.toBitVec_inj.mp
  apply BitVec.eq_of_toNat_eq
  rw [e, show (255 : Nat) = 2 ^ 8 - 1 from rfl, Nat.and_two_pow_sub_one_eq_mod]
  show v % 4294967296 % 256 = v % 4294967296
  omega
theorem x_wr (d v : Nat) (L : List Nat) (M : am_M) (Q : Option Value → am_M → Prop) (hL : Lay M) (hI : ImX M L) (hn : L.length < 507) (hQ : ∀ M', gF sIx nT M M' → ImX M' (L ++ [v]) → Q none M') : am_E am_P0 d 162 [.ref 0, .int (nI v)] M Q := by
  rw [c_x_write d (nI v) M Q hL L.length hI.2.1 hn]
  refine hQ _ (gF_trans (gF_i _ (Or.inl rfl)) (gF_i _ (Or.inr ⟨rfl, rfl⟩))) ⟨by rw [List.length_append]; show L.length + 1 ≤ 507; omega, by rw [m_uI_I, if_pos ⟨rfl, rfl⟩, List.length_append]; rfl, fun j u hu => ?_⟩
  rw [m_uI_I, if_neg (by omega), m_uI_I]
  by_cases e : j < L.length
  · rw [List.getElem?_append_left e] at hu
    rw [if_neg (by omega)]
    exact hI.2.2 j u hu
  · rw [List.getElem?_append_right (by omega)] at hu
    have hl := (List.getElem?_eq_some_iff.mp hu).1
    have e1 : ([v] : List Nat).length = 1 := rfl
    have e2 : j = L.length := by omega
    subst e2
    rw [Nat.sub_self] at hu
    cases hu
    rw [if_pos ⟨rfl, rfl⟩]
theorem m_wr (d v : Nat) (L : List Nat) (M : am_M) (Q : Option Value → am_M → Prop) (hL : Lay M) (hI : ImO M L) (hn : L.length < 507) (hv : v < 256) (hQ : ∀ M', gF sIo nT M M' → ImO M' (L ++ [v]) → Q none M') : am_E am_P0 d 298 [.ref 277, .int (nI v)] M Q := by
  rw [c_m_writes d (nI v) M Q hL L.length hI.2.1 (by omega), an_v v hv]
  refine hQ _ (gF_trans (gF_i _ (Or.inl rfl)) (gF_i _ (Or.inr ⟨rfl, rfl⟩))) ⟨by rw [List.length_append]; show L.length + 1 ≤ 507; omega, by rw [m_uI_I, if_pos ⟨rfl, rfl⟩, List.length_append]; rfl, fun j u hu => ?_⟩
  rw [m_uI_I, if_neg (by omega), m_uI_I]
  by_cases e : j < L.length
  · rw [List.getElem?_append_left e] at hu
    rw [if_neg (by omega)]
    exact hI.2.2 j u hu
  · rw [List.getElem?_append_right (by omega)] at hu
    have hl := (List.getElem?_eq_some_iff.mp hu).1
    have e1 : ([v] : List Nat).length = 1 := rfl
    have e2 : j = L.length := by omega
    subst e2
    rw [Nat.sub_self] at hu
    cases hu
    rw [if_pos ⟨rfl, rfl⟩]
def n01 (l : Bool) : Nat := if l = true then 1 else 0
theorem n01_b (l : Bool) : nI (n01 l) = b01 l := by cases l <;> rfl
/-- the sayings of a ship, written -/
def syL (C s : Nat) : List Sy → List Nat
  | [] => []
  | y :: r => [s, y.1, cel C y.2.1, n01 y.2.2] ++ syL C s r
def imS (D : Dat) : Nat → List Nat
  | 0 => []
  | k + 1 => imS D k ++ syL (dC D) k (dY D k)
def sgL (C : Nat) : List (Nat × Nat × Nat) → List Nat
  | [] => []
  | g :: r => [g.1, cel C g.2.1, g.2.2] ++ sgL C r
def ckS : List Nat → Nat → Nat
  | [], c => c
  | v :: r, c => ckS r ((3 * c + v) % 241)
def imA (D : Dat) : List Nat := (([dTot D] ++ imS D (dN D)) ++ [(dSg D).length]) ++ sgL (dC D) (dSg D)
def imD (D : Dat) : List Nat := imA D ++ [ckS (imA D) 29]
theorem syL_app (C s : Nat) : ∀ (A B : List Sy), syL C s (A ++ B) = syL C s A ++ syL C s B := by
  intro A B
  induction A with
  | nil => rfl
  | cons y r ih => show [s, y.1, cel C y.2.1, n01 y.2.2] ++ syL C s (r ++ B) = _; rw [ih]; rfl
theorem sgL_app (C : Nat) : ∀ (A B : List (Nat × Nat × Nat)), sgL C (A ++ B) = sgL C A ++ sgL C B := by
  intro A B
  induction A with
  | nil => rfl
  | cons y r ih => show [y.1, cel C y.2.1, y.2.2] ++ sgL C (r ++ B) = _; rw [ih]; rfl
theorem ckS_app : ∀ (A B : List Nat) (c : Nat), ckS (A ++ B) c = ckS B (ckS A c) := by
  intro A
  induction A with
  | nil => intro B c; rfl
  | cons v r ih => intro B c; exact ih B _
theorem syL_len (C s : Nat) (Y : List Sy) : (syL C s Y).length = 4 * Y.length := by
  induction Y with
  | nil => rfl
  | cons y r ih => show (syL C s r).length + 1 + 1 + 1 + 1 = 4 * (r.length + 1); rw [ih]; omega
theorem sgL_len (C : Nat) (Y : List (Nat × Nat × Nat)) : (sgL C Y).length = 3 * Y.length := by
  induction Y with
  | nil => rfl
  | cons y r ih => show (sgL C r).length + 1 + 1 + 1 = 3 * (r.length + 1); rw [ih]; omega
theorem imS_len (D : Dat) : ∀ k, (imS D k).length = 4 * sumF (fun s => (dY D s).length) k := by
  intro k
  induction k with
  | zero => rfl
  | succ k ih => show (imS D k ++ syL (dC D) k (dY D k)).length = 4 * (sumF _ k + (dY D k).length); rw [List.length_append, ih, syL_len]; omega
theorem sumF_mono (f : Nat → Nat) : ∀ n k, k ≤ n → sumF f k ≤ sumF f n := by
  intro n
  induction n with
  | zero => intro k hk; rw [show k = 0 by omega]; exact Nat.le_refl _
  | succ n ih =>
    intro k hk
    by_cases e : k = n + 1
    · rw [e]; exact Nat.le_refl _
    · have := ih k (by omega)
      show sumF f k ≤ sumF f n + f n
      omega
theorem ckS_lt : ∀ (L : List Nat) (c : Nat), c < 241 → ckS L c < 241 := by
  intro L
  induction L with
  | nil => intro c h; exact h
  | cons v r ih => intro c h; exact ih _ (Nat.mod_lt _ (by omega))
theorem tk_s {α : Type} {L : List α} {i : Nat} {y : α} (h : L[i]? = some y) : L.take (i + 1) = L.take i ++ [y] := by
  have := (List.getElem?_eq_some_iff.mp h).1
  rw [List.take_add_one, h]; rfl
theorem dSp_t {D : Dat} {s : Nat} (hD : dOK D) (hs : s < dN D) : sumF (fun s => (dY D s).length) s + (dY D s).length ≤ 96 := by
  have h1 := sumF_mono (fun s => (dY D s).length) (dSh D).length (s + 1) hs
  have h2 : dTot D ≤ 96 := hD.1.2.2.2.2.2.1
  have h3 : sumF (fun s => (dY D s).length) (s + 1) = sumF (fun s => (dY D s).length) s + (dY D s).length := rfl
  unfold dTot at h2
  omega
/-- the sum over octets -/
theorem ck_step {c v : Nat} (hc : c < 241) (hv : v < 256) : (3 * nI c + nI v) - (3 * nI c + nI v) / 241 * 241 = nI ((3 * c + v) % 241) := by
  rw [show (3 : Int32) = nI 3 from rfl, ni_mul, ni_add, show (241 : Int32) = nI 241 from rfl, ni_div (by omega) (by omega), ni_mul, ni_sub (by have := Nat.div_mul_le_self (3 * c + v) 241; omega)]
  congr 1
  have := Nat.div_add_mod (3 * c + v) 241
  omega
theorem l_x_check (d a n N : Nat) (L : List Nat) (M : am_M) (Q : Option Value → am_M → Prop) (hk : mK M a = 0) (hN : mN M a = N) (hnN : n ≤ N) (hN2 : N ≤ 2000) (hn : L.length = n) (hv : ∀ j v, L[j]? = some v → v < 256 ∧ mI M a j = nI v) : ∀ (m i c : Nat), i + m = n → c < 241 → c = ckS (L.take i) 29 → (am_P am_P0 d (am_look tX10_checkOf) 5 [.ref a, .int (nI n), .int (nI c), .int (nI i)] [] M Q ↔ Q (some (.int (nI (ckS L 29)))) M) := by
  intro m
  induction m with
  | zero =>
    intro i c hi hc he
    have hle : nI n ≤ nI i := (ni_le (by omega) (by omega)).mpr (by omega)
    rw [List.take_of_length_le (by omega)] at he
    rw [hX10_checkOf_5]
    simp +decide (disch := omega) only [qX10_checkOf, am_w1_i, am_w1_r, am_w1_x, am_w1_l, am_w1_w, va_rf_s, am_push_n, am_push_s, am_cs_0, am_cs_i, am_cs_l, am_cs_r, m_uI_K, m_uI_N, m_uI_R, m_uI_L, m_uI_I, m_uL_K, m_uL_N, m_uL_R, m_uL_I, m_uL_L, m_uR_K, m_uR_N, m_uR_I, m_uR_L, m_uR_R, true_and, and_true, true_implies, false_implies, not_true_eq_false, not_false_eq_true, if_true, if_false, false_and, and_false]
    rw [br_p hle, he]
  | succ m ih =>
    intro i c hi hc he
    have hlt : ¬ nI n ≤ nI i := by rw [ni_le (by omega) (by omega)]; omega
    obtain ⟨v, hv1⟩ : ∃ v, L[i]? = some v := ⟨L[i]'(by omega), List.getElem?_eq_getElem (by omega)⟩
    obtain ⟨v2, v3⟩ := hv i v hv1
    have h0 := ih (i + 1) ((3 * c + v) % 241) (by omega) (Nat.mod_lt _ (by omega)) (by rw [tk_s hv1, ckS_app, ← he]; rfl)
    have eck := ck_step (v := v) hc v2
    rw [hX10_checkOf_5]
    simp +decide (disch := omega) only [qX10_checkOf, hk, hN, v3, eck, ni_in_t, ni_tn, ni_add1, am_w1_i, am_w1_r, am_w1_x, am_w1_l, am_w1_w, va_rf_s, am_push_n, am_push_s, am_cs_0, am_cs_i, am_cs_l, am_cs_r, m_uI_K, m_uI_N, m_uI_R, m_uI_L, m_uI_I, m_uL_K, m_uL_N, m_uL_R, m_uL_I, m_uL_L, m_uR_K, m_uR_N, m_uR_I, m_uR_L, m_uR_R, true_and, and_true, true_implies, false_implies, not_true_eq_false, not_false_eq_true, if_true, if_false, false_and, and_false]
    rw [br_n hlt]
    exact h0
theorem c_x_check (d a n N : Nat) (L : List Nat) (M : am_M) (Q : Option Value → am_M → Prop) (hk : mK M a = 0) (hN : mN M a = N) (hnN : n ≤ N) (hN2 : N ≤ 2000) (hn : L.length = n) (hv : ∀ j v, L[j]? = some v → v < 256 ∧ mI M a j = nI v) : am_E am_P0 d 163 [.ref a, .int (nI n)] M Q ↔ Q (some (.int (nI (ckS L 29)))) M := by
  have h0 := l_x_check d a n N L M Q hk hN hnN hN2 hn hv n 0 29 (by omega) (by omega) rfl
  rw [eX10_checkOf]
  simp +decide (disch := omega) only [qX10_checkOf, am_w1_i, am_w1_r, am_w1_x, am_w1_l, am_w1_w, va_rf_s, am_push_n, am_push_s, am_cs_0, am_cs_i, am_cs_l, am_cs_r, m_uI_K, m_uI_N, m_uI_R, m_uI_L, m_uI_I, m_uL_K, m_uL_N, m_uL_R, m_uL_I, m_uL_L, m_uR_K, m_uR_N, m_uR_I, m_uR_L, m_uR_R, true_and, and_true, true_implies, false_implies, not_true_eq_false, not_false_eq_true, if_true, if_false, false_and, and_false]
  exact h0
end
section
/-! image: the class's loops -/
theorem sIx_t {a j : Nat} (q : sIx a j) : (a = 0 ∧ j < 13) ∨ a = 1 ∨ a = 169 ∨ a = 170 := by unfold sIx at q; omega
theorem l_x_img41 (d z s : Nat) (D : Dat) (L0 : List Nat) (M0 : am_M) (Q : Option Value → am_M → Prop) (hD : dOK D) (hs : s < dN D) (hl0 : L0.length + 4 * (dY D s).length ≤ 386)
    (hQ : ∀ M' v3, gF sIx nT M0 M' → XR M' z D → ImX M' (L0 ++ syL (dC D) s (dY D s)) → am_P am_P0 (d + 1) (am_look tX10_image) 18 [.ref 0, .int (nI (s + 1)), .ref (z + 25 + 7 * s), v3] [] M' Q) :
    ∀ (m i : Nat), i + m = (dY D s).length → ∀ (M : am_M), gF sIx nT M0 M → XR M z D → ImX M (L0 ++ syL (dC D) s ((dY D s).take i)) → am_P am_P0 (d + 1) (am_look tX10_image) 41 [.ref 0, .int (nI s), .ref (z + 25 + 7 * s), .int (nI i)] [] M Q := by
  have n8 := dN_8 hD
  have h48 := dY_len hD s
  intro m
  induction m with
  | zero =>
    intro i hi M g hX hI
    have hz := hX.1.2.2.1
    have hL := hX.1.1
    have hg := isSh_z (z := z) (s := s) hz (by omega)
    have hle : nI (dY D s).length ≤ nI i := (ni_le (by omega) (by omega)).mpr (by omega)
    rw [List.take_of_length_le (by omega)] at hI
    have h0 := hQ M (.int (nI i)) g hX hI
    rw [hX10_image_41]
    simp +decide (disch := omega) only [qX10_image_0, qX10_image_1, qX10_image_2, lx hL, lw_ hL hg, (x_ship hX hs).2.1.1, ni_in_t, ni_tn, ni_add1, am_w1_i, am_w1_r, am_w1_x, am_w1_l, am_w1_w, va_rf_s, am_push_n, am_push_s, am_cs_0, am_cs_i, am_cs_l, am_cs_r, m_uI_K, m_uI_N, m_uI_R, m_uI_L, m_uI_I, m_uL_K, m_uL_N, m_uL_R, m_uL_I, m_uL_L, m_uR_K, m_uR_N, m_uR_I, m_uR_L, m_uR_R, true_and, and_true, true_implies, false_implies, not_true_eq_false, not_false_eq_true, if_true, if_false, false_and, and_false]
    rw [br_p hle]
    exact h0
  | succ m ih =>
    intro i hi M g hX hI
    have hz := hX.1.2.2.1
    have hL := hX.1.1
    have hg := isSh_z (z := z) (s := s) hz (by omega)
    have hlt : ¬ nI (dY D s).length ≤ nI i := by rw [ni_le (by omega) (by omega)]; omega
    obtain ⟨y, hy⟩ : ∃ y, (dY D s)[i]? = some y := ⟨(dY D s)[i]'(by omega), List.getElem?_eq_getElem (by omega)⟩
    have hlen : (L0 ++ syL (dC D) s ((dY D s).take i)).length + 4 ≤ 386 := by rw [List.length_append, syL_len, List.length_take]; omega
    obtain ⟨L, eL⟩ : ∃ L, L = L0 ++ syL (dC D) s ((dY D s).take i) := ⟨_, rfl⟩
    have eN : L0 ++ syL (dC D) s ((dY D s).take (i + 1)) = (((L ++ [s]) ++ [y.1]) ++ [cel (dC D) y.2.1]) ++ [n01 y.2.2] := by rw [tk_s hy, syL_app, eL]; simp [syL]
    rw [← eL] at hI hlen
    rw [hX10_image_41]
    simp +decide (disch := omega) only [qX10_image_0, qX10_image_1, qX10_image_2, lx hL, lw_ hL hg, (x_ship hX hs).2.1.1, ni_in_t, ni_tn, am_w1_i, am_w1_r, am_w1_x, am_w1_l, am_w1_w, va_rf_s, am_push_n, am_push_s, am_cs_0, am_cs_i, am_cs_l, am_cs_r, m_uI_K, m_uI_N, m_uI_R, m_uI_L, m_uI_I, m_uL_K, m_uL_N, m_uL_R, m_uL_I, m_uL_L, m_uR_K, m_uR_N, m_uR_I, m_uR_L, m_uR_R, true_and, and_true, true_implies, false_implies, not_true_eq_false, not_false_eq_true, if_true, if_false, false_and, and_false]
    rw [br_n hlt]
    refine x_wr d s L M _ hL hI (by omega) (fun M1 g1 i1 => ?_)
    have X1 := XR_t hD hX g1 (fun a j q => sIx_t q)
    have L1 := X1.1.1
    obtain ⟨⟨y48, y256⟩, a1, -⟩ := (x_ship X1 hs).2.1.2.2 i y hy
    simp +decide (disch := omega) only [qX10_image_0, qX10_image_1, qX10_image_2, lx L1, lw_ L1 hg, a1, ni_in_t, ni_tn, am_w1_i, am_w1_r, am_w1_x, am_w1_l, am_w1_w, va_rf_s, am_push_n, am_push_s, am_cs_0, am_cs_i, am_cs_l, am_cs_r, m_uI_K, m_uI_N, m_uI_R, m_uI_L, m_uI_I, m_uL_K, m_uL_N, m_uL_R, m_uL_I, m_uL_L, m_uR_K, m_uR_N, m_uR_I, m_uR_L, m_uR_R, true_and, and_true, true_implies, false_implies, not_true_eq_false, not_false_eq_true, if_true, if_false, false_and, and_false]
    refine x_wr d y.1 _ M1 _ L1 i1 (by rw [List.length_append]; show L.length + 1 < 507; omega) (fun M2 g2 i2 => ?_)
    have X2 := XR_t hD X1 g2 (fun a j q => sIx_t q)
    have L2 := X2.1.1
    have r2 := X2.1.2.2.2.1
    obtain ⟨-, -, a2, -⟩ := (x_ship X2 hs).2.1.2.2 i y hy
    have eP := fun Q => x_numberOf X2 d y.2.1 Q y256
    simp +decide (disch := omega) only [qX10_image_0, qX10_image_1, qX10_image_2, lx L2, lz L2 hz, lw_ L2 hg, r2, a2, eP, ni_in_t, ni_tn, am_w1_i, am_w1_r, am_w1_x, am_w1_l, am_w1_w, va_rf_s, am_push_n, am_push_s, am_cs_0, am_cs_i, am_cs_l, am_cs_r, m_uI_K, m_uI_N, m_uI_R, m_uI_L, m_uI_I, m_uL_K, m_uL_N, m_uL_R, m_uL_I, m_uL_L, m_uR_K, m_uR_N, m_uR_I, m_uR_L, m_uR_R, true_and, and_true, true_implies, false_implies, not_true_eq_false, not_false_eq_true, if_true, if_false, false_and, and_false]
    refine x_wr d (cel (dC D) y.2.1) _ M2 _ L2 i2 (by rw [List.length_append, List.length_append]; show L.length + 1 + 1 < 507; omega) (fun M3 g3 i3 => ?_)
    have X3 := XR_t hD X2 g3 (fun a j q => sIx_t q)
    have L3 := X3.1.1
    obtain ⟨-, -, -, a3⟩ := (x_ship X3 hs).2.1.2.2 i y hy
    have eb := fun Q => c_x_bit d (b01 y.2.2) M3 Q (b01_c _)
    have b01c := b01_c y.2.2
    simp +decide (disch := omega) only [qX10_image_0, qX10_image_1, qX10_image_2, lx L3, lw_ L3 hg, a3, eb, b01c, ni_in_t, ni_tn, am_w1_i, am_w1_r, am_w1_x, am_w1_l, am_w1_w, va_rf_s, am_push_n, am_push_s, am_cs_0, am_cs_i, am_cs_l, am_cs_r, m_uI_K, m_uI_N, m_uI_R, m_uI_L, m_uI_I, m_uL_K, m_uL_N, m_uL_R, m_uL_I, m_uL_L, m_uR_K, m_uR_N, m_uR_I, m_uR_L, m_uR_R, true_and, and_true, true_implies, false_implies, not_true_eq_false, not_false_eq_true, if_true, if_false, false_and, and_false]
    rw [← n01_b]
    refine x_wr d (n01 y.2.2) _ M3 _ L3 i3 (by rw [List.length_append, List.length_append, List.length_append]; show L.length + 1 + 1 + 1 < 507; omega) (fun M4 g4 i4 => ?_)
    have X4 := XR_t hD X3 g4 (fun a j q => sIx_t q)
    have h0 := ih (i + 1) (by omega) M4 (gF_trans g (gF_trans g1 (gF_trans g2 (gF_trans g3 g4)))) X4 (by rw [eN]; exact i4)
    simp +decide (disch := omega) only [qX10_image_0, qX10_image_1, qX10_image_2, ni_add1, am_w1_i, am_w1_r, am_w1_x, am_w1_l, am_w1_w, va_rf_s, am_push_n, am_push_s, am_cs_0, am_cs_i, am_cs_l, am_cs_r, m_uI_K, m_uI_N, m_uI_R, m_uI_L, m_uI_I, m_uL_K, m_uL_N, m_uL_R, m_uL_I, m_uL_L, m_uR_K, m_uR_N, m_uR_I, m_uR_L, m_uR_R, true_and, and_true, true_implies, false_implies, not_true_eq_false, not_false_eq_true, if_true, if_false, false_and, and_false]
    exact h0
theorem l_x_img18 (d z : Nat) (D : Dat) (M0 : am_M) (Q : Option Value → am_M → Prop) (hD : dOK D)
    (hQ : ∀ M' x v2 v3, gF sIx nT M0 M' → XR M' z D → ImX M' ([dTot D] ++ imS D (dN D)) → am_P am_P0 (d + 1) (am_look tX10_image) 106 [.ref 0, .int x, v2, v3] [] M' Q) :
    ∀ (m s : Nat), s + m = dN D → ∀ (M : am_M) (v2 v3 : Value), gF sIx nT M0 M → XR M z D → ImX M ([dTot D] ++ imS D s) → am_P am_P0 (d + 1) (am_look tX10_image) 18 [.ref 0, .int (nI s), v2, v3] [] M Q := by
  have n8 := dN_8 hD
  intro m
  induction m with
  | zero =>
    intro s hs M v2 v3 g hX hI
    have hz := hX.1.2.2.1
    have hL := hX.1.1
    have hr := hX.1.2.2.2.1
    have e : s = dN D := by omega
    subst e
    have hle : nI (dN D) ≤ nI (dN D) := (ni_le (by omega) (by omega)).mpr (Nat.le_refl _)
    have h0 := hQ M (nI (dN D)) v2 v3 g hX hI
    rw [hX10_image_18]
    simp +decide (disch := omega) only [qX10_image_0, qX10_image_1, qX10_image_2, lx hL, lz hL hz, hr, (x_n hX).1, am_w1_i, am_w1_r, am_w1_x, am_w1_l, am_w1_w, va_rf_s, am_push_n, am_push_s, am_cs_0, am_cs_i, am_cs_l, am_cs_r, m_uI_K, m_uI_N, m_uI_R, m_uI_L, m_uI_I, m_uL_K, m_uL_N, m_uL_R, m_uL_I, m_uL_L, m_uR_K, m_uR_N, m_uR_I, m_uR_L, m_uR_R, true_and, and_true, true_implies, false_implies, not_true_eq_false, not_false_eq_true, if_true, if_false, false_and, and_false] at h0 ⊢
    rw [br_p hle]
    exact h0
  | succ m ih =>
    intro s hs M v2 v3 g hX hI
    have hz := hX.1.2.2.1
    have hL := hX.1.1
    have hr := hX.1.2.2.2.1
    have hsl : s < dN D := by omega
    have hlt : ¬ nI (dN D) ≤ nI s := by rw [ni_le (by omega) (by omega)]; omega
    have hsh := lsh hL hz (s := s) (by omega)
    have hg := isSh_z (z := z) (s := s) hz (by omega)
    have hb := dSp_t hD hsl
    have h0 := l_x_img41 d z s D ([dTot D] ++ imS D s) M0 Q hD hsl (by rw [List.length_append, imS_len]; show 1 + _ + _ ≤ 386; omega) (fun M' v3' g' X' i' => ih (s + 1) (by omega) M' _ v3' g' X' (by rw [List.append_assoc] at i'; exact i')) (dY D s).length 0 (by omega) M g hX (by rw [List.take_zero]; show ImX M (_ ++ []); rw [List.append_nil]; exact hI)
    rw [hX10_image_18]
    simp +decide (disch := omega) only [qX10_image_0, qX10_image_1, qX10_image_2, lx hL, lz hL hz, lw_ hL hg, hr, hsh, (x_n hX).1, ni_in_t, ni_tn, am_w1_i, am_w1_r, am_w1_x, am_w1_l, am_w1_w, va_rf_s, am_push_n, am_push_s, am_cs_0, am_cs_i, am_cs_l, am_cs_r, m_uI_K, m_uI_N, m_uI_R, m_uI_L, m_uI_I, m_uL_K, m_uL_N, m_uL_R, m_uL_I, m_uL_L, m_uR_K, m_uR_N, m_uR_I, m_uR_L, m_uR_R, true_and, and_true, true_implies, false_implies, not_true_eq_false, not_false_eq_true, if_true, if_false, false_and, and_false]
    rw [br_n hlt]
    exact h0
theorem l_x_img122 (d z : Nat) (D : Dat) (L0 : List Nat) (M0 : am_M) (v2 v3 : Value) (Q : Option Value → am_M → Prop) (hD : dOK D) (hl0 : L0.length ≤ 386)
    (hQ : ∀ M' x, gF sIx nT M0 M' → XR M' z D → ImX M' (L0 ++ sgL (dC D) (dSg D)) → am_P am_P0 (d + 1) (am_look tX10_image) 197 [.ref 0, .int x, v2, v3] [] M' Q) :
    ∀ (m i : Nat), i + m = (dSg D).length → ∀ (M : am_M), gF sIx nT M0 M → XR M z D → ImX M (L0 ++ sgL (dC D) ((dSg D).take i)) → am_P am_P0 (d + 1) (am_look tX10_image) 122 [.ref 0, .int (nI i), v2, v3] [] M Q := by
  have l40 := hD.1.2.2.2.2.2.2.2.1.1
  intro m
  induction m with
  | zero =>
    intro i hi M g hX hI
    have hz := hX.1.2.2.1
    have hL := hX.1.1
    have hr := hX.1.2.2.2.1
    have hle : nI (dSg D).length ≤ nI i := (ni_le (by omega) (by omega)).mpr (by omega)
    rw [List.take_of_length_le (by omega)] at hI
    have h0 := hQ M (nI i) g hX hI
    rw [hX10_image_122]
    simp +decide (disch := omega) only [qX10_image_0, qX10_image_1, qX10_image_2, lx hL, lz hL hz, hr, (x_sg hX).1, am_w1_i, am_w1_r, am_w1_x, am_w1_l, am_w1_w, va_rf_s, am_push_n, am_push_s, am_cs_0, am_cs_i, am_cs_l, am_cs_r, m_uI_K, m_uI_N, m_uI_R, m_uI_L, m_uI_I, m_uL_K, m_uL_N, m_uL_R, m_uL_I, m_uL_L, m_uR_K, m_uR_N, m_uR_I, m_uR_L, m_uR_R, true_and, and_true, true_implies, false_implies, not_true_eq_false, not_false_eq_true, if_true, if_false, false_and, and_false] at h0 ⊢
    rw [br_p hle]
    exact h0
  | succ m ih =>
    intro i hi M g hX hI
    have hz := hX.1.2.2.1
    have hL := hX.1.1
    have hr := hX.1.2.2.2.1
    have hlt : ¬ nI (dSg D).length ≤ nI i := by rw [ni_le (by omega) (by omega)]; omega
    obtain ⟨y, hy⟩ : ∃ y, (dSg D)[i]? = some y := ⟨(dSg D)[i]'(by omega), List.getElem?_eq_getElem (by omega)⟩
    have hyo := hD.1.2.2.2.2.2.2.2.1.2 y (List.mem_of_getElem? hy)
    have y256 := (cel_lt hD.1.1.1 hD.1.1.2 hyo.2.1).2.2
    have hlen : (L0 ++ sgL (dC D) ((dSg D).take i)).length + 3 ≤ 506 := by rw [List.length_append, sgL_len, List.length_take]; omega
    obtain ⟨L, eL⟩ : ∃ L, L = L0 ++ sgL (dC D) ((dSg D).take i) := ⟨_, rfl⟩
    have eN : L0 ++ sgL (dC D) ((dSg D).take (i + 1)) = ((L ++ [y.1]) ++ [cel (dC D) y.2.1]) ++ [y.2.2] := by rw [tk_s hy, sgL_app, eL]; simp [sgL]
    rw [← eL] at hI hlen
    rw [hX10_image_122]
    simp +decide (disch := omega) only [qX10_image_0, qX10_image_1, qX10_image_2, lx hL, lz hL hz, hr, (x_sg hX).1, ((x_sg hX).2 i y hy).1, ni_in_t, ni_tn, am_w1_i, am_w1_r, am_w1_x, am_w1_l, am_w1_w, va_rf_s, am_push_n, am_push_s, am_cs_0, am_cs_i, am_cs_l, am_cs_r, m_uI_K, m_uI_N, m_uI_R, m_uI_L, m_uI_I, m_uL_K, m_uL_N, m_uL_R, m_uL_I, m_uL_L, m_uR_K, m_uR_N, m_uR_I, m_uR_L, m_uR_R, true_and, and_true, true_implies, false_implies, not_true_eq_false, not_false_eq_true, if_true, if_false, false_and, and_false]
    rw [br_n hlt]
    refine x_wr d y.1 L M _ hL hI (by omega) (fun M1 g1 i1 => ?_)
    have X1 := XR_t hD hX g1 (fun a j q => sIx_t q)
    have L1 := X1.1.1
    have r1 := X1.1.2.2.2.1
    have eP := fun Q => x_numberOf X1 d y.2.1 Q y256
    simp +decide (disch := omega) only [qX10_image_0, qX10_image_1, qX10_image_2, lx L1, lz L1 hz, r1, ((x_sg X1).2 i y hy).2.1, eP, ni_in_t, ni_tn, am_w1_i, am_w1_r, am_w1_x, am_w1_l, am_w1_w, va_rf_s, am_push_n, am_push_s, am_cs_0, am_cs_i, am_cs_l, am_cs_r, m_uI_K, m_uI_N, m_uI_R, m_uI_L, m_uI_I, m_uL_K, m_uL_N, m_uL_R, m_uL_I, m_uL_L, m_uR_K, m_uR_N, m_uR_I, m_uR_L, m_uR_R, true_and, and_true, true_implies, false_implies, not_true_eq_false, not_false_eq_true, if_true, if_false, false_and, and_false]
    refine x_wr d (cel (dC D) y.2.1) _ M1 _ L1 i1 (by rw [List.length_append]; show L.length + 1 < 507; omega) (fun M2 g2 i2 => ?_)
    have X2 := XR_t hD X1 g2 (fun a j q => sIx_t q)
    have L2 := X2.1.1
    have r2 := X2.1.2.2.2.1
    simp +decide (disch := omega) only [qX10_image_0, qX10_image_1, qX10_image_2, lx L2, lz L2 hz, r2, ((x_sg X2).2 i y hy).2.2, ni_in_t, ni_tn, am_w1_i, am_w1_r, am_w1_x, am_w1_l, am_w1_w, va_rf_s, am_push_n, am_push_s, am_cs_0, am_cs_i, am_cs_l, am_cs_r, m_uI_K, m_uI_N, m_uI_R, m_uI_L, m_uI_I, m_uL_K, m_uL_N, m_uL_R, m_uL_I, m_uL_L, m_uR_K, m_uR_N, m_uR_I, m_uR_L, m_uR_R, true_and, and_true, true_implies, false_implies, not_true_eq_false, not_false_eq_true, if_true, if_false, false_and, and_false]
    refine x_wr d y.2.2 _ M2 _ L2 i2 (by rw [List.length_append, List.length_append]; show L.length + 1 + 1 < 507; omega) (fun M3 g3 i3 => ?_)
    have X3 := XR_t hD X2 g3 (fun a j q => sIx_t q)
    have h0 := ih (i + 1) (by omega) M3 (gF_trans g (gF_trans g1 (gF_trans g2 g3))) X3 (by rw [eN]; exact i3)
    simp +decide (disch := omega) only [qX10_image_0, qX10_image_1, qX10_image_2, ni_add1, am_w1_i, am_w1_r, am_w1_x, am_w1_l, am_w1_w, va_rf_s, am_push_n, am_push_s, am_cs_0, am_cs_i, am_cs_l, am_cs_r, m_uI_K, m_uI_N, m_uI_R, m_uI_L, m_uI_I, m_uL_K, m_uL_N, m_uL_R, m_uL_I, m_uL_L, m_uR_K, m_uR_N, m_uR_I, m_uR_L, m_uR_R, true_and, and_true, true_implies, false_implies, not_true_eq_false, not_false_eq_true, if_true, if_false, false_and, and_false]
    exact h0
end
section
/-! image: the class; the model's loops -/
theorem syL_v {C R s : Nat} (hC : C ≤ 16) (hR : R ≤ 16) (hs : s < 8) : ∀ (Y : List Sy), (∀ y, y ∈ Y → y.1 < 48 ∧ vld C R y.2.1) → ∀ v, v ∈ syL C s Y → v < 256 := by
  intro Y
  induction Y with
  | nil => intro _ v hv; cases hv
  | cons y r ih =>
    intro h v hv
    have h1 := h y (List.mem_cons_self ..)
    have h2 := (cel_lt hC hR h1.2).2.1
    have h3 : n01 y.2.2 ≤ 1 := by unfold n01; split <;> omega
    have hv' : v ∈ [s, y.1, cel C y.2.1, n01 y.2.2] ++ syL C s r := hv
    rcases List.mem_append.mp hv' with q | q
    · simp only [List.mem_cons, List.not_mem_nil, or_false] at q
      omega
    · exact ih (fun y' hy' => h y' (List.mem_cons_of_mem _ hy')) v q
theorem sgL_v {C R : Nat} (hC : C ≤ 16) (hR : R ≤ 16) : ∀ (Y : List (Nat × Nat × Nat)), (∀ y, y ∈ Y → y.1 ≤ 3 ∧ vld C R y.2.1 ∧ y.2.2 < 48) → ∀ v, v ∈ sgL C Y → v < 256 := by
  intro Y
  induction Y with
  | nil => intro _ v hv; cases hv
  | cons y r ih =>
    intro h v hv
    have h1 := h y (List.mem_cons_self ..)
    have h2 := (cel_lt hC hR h1.2.1).2.1
    have hv' : v ∈ [y.1, cel C y.2.1, y.2.2] ++ sgL C r := hv
    rcases List.mem_append.mp hv' with q | q
    · simp only [List.mem_cons, List.not_mem_nil, or_false] at q
      omega
    · exact ih (fun y' hy' => h y' (List.mem_cons_of_mem _ hy')) v q
theorem imS_v {D : Dat} (hD : dOK D) : ∀ k, k ≤ dN D → ∀ v, v ∈ imS D k → v < 256 := by
  have n8 := dN_8 hD
  intro k
  induction k with
  | zero => intro _ v hv; cases hv
  | succ k ih =>
    intro hk v hv
    have hv' : v ∈ imS D k ++ syL (dC D) k (dY D k) := hv
    rcases List.mem_append.mp hv' with q | q
    · exact ih (by omega) v q
    · exact syL_v hD.1.1.1 hD.1.1.2 (by omega) _ (hD.1.2.2.2.1 k) v q
theorem imA_v {D : Dat} (hD : dOK D) : ∀ v, v ∈ imA D → v < 256 := by
  intro v hv
  have t96 : dTot D ≤ 96 := hD.1.2.2.2.2.2.1
  have sg := hD.1.2.2.2.2.2.2.2.1
  unfold imA at hv
  rcases List.mem_append.mp hv with q | q
  · rcases List.mem_append.mp q with q | q
    · rcases List.mem_append.mp q with q | q
      · rw [List.mem_singleton] at q; omega
      · exact imS_v hD _ (Nat.le_refl _) v q
    · rw [List.mem_singleton] at q; have := sg.1; omega
  · exact sgL_v hD.1.1.1 hD.1.1.2 _ sg.2 v q
theorem imB_len {D : Dat} (hD : dOK D) : ([dTot D] ++ imS D (dN D)).length ≤ 385 := by
  have t96 : dTot D ≤ 96 := hD.1.2.2.2.2.2.1
  unfold dTot at t96
  rw [List.length_append, imS_len]
  show 1 + _ ≤ 385
  have e : dN D = (dSh D).length := rfl
  rw [e]
  omega
theorem imA_len {D : Dat} (hD : dOK D) : (imA D).length ≤ 506 := by
  have h1 := imB_len hD
  have sg := hD.1.2.2.2.2.2.2.2.1.1
  unfold imA
  rw [List.length_append, List.length_append, sgL_len]
  show _ + 1 + _ ≤ 506
  omega
theorem ImX_0 {M : am_M} (h : mI M 0 10 = nI 0) : ImX M [] := ⟨by show 0 ≤ 507; omega, h, fun j v hv => by simp at hv⟩
theorem ImO_0 {M : am_M} (h : mI M 277 82 = nI 0) : ImO M [] := ⟨by show 0 ≤ 507; omega, h, fun j v hv => by simp at hv⟩
theorem x_image {M : am_M} {z : Nat} {D : Dat} (hD : dOK D) (h : XR M z D) (d : Nat) (Q : Option Value → am_M → Prop) (hQ : ∀ M', gF sIx nT M M' → ImX M' (imD D) → Q (some (.int (nI (imD D).length))) M') : am_E am_P0 (d + 1) 144 [.ref 0] M Q := by
  have hz := h.1.2.2.1
  have hL := h.1.1
  have hr := h.1.2.2.2.1
  have l385 := imB_len hD
  have l506 := imA_len hD
  have t96 : dTot D ≤ 96 := hD.1.2.2.2.2.2.1
  obtain ⟨A, hA⟩ : ∃ A, A = uI M 0 10 0 := ⟨_, rfl⟩
  have gA : gF sIx nT M A := by rw [hA]; exact gF_i _ (Or.inr ⟨rfl, rfl⟩)
  have XA := XR_t hD h gA (fun a j q => sIx_t q)
  have LA := XA.1.1
  have rA := XA.1.2.2.2.1
  obtain ⟨c, hP⟩ := XA.2.1
  have eT := fun Q => c_x_tot d z c D A Q LA hz hP hD.1
  have iA : ImX A [] := ImX_0 (by rw [hA, m_uI_I, if_pos ⟨rfl, rfl⟩]; rfl)
  rw [eX10_image]
  simp +decide (disch := omega) only [qX10_image_0, qX10_image_1, qX10_image_2, lx hL, lz hL hz, hr, am_w1_i, am_w1_r, am_w1_x, am_w1_l, am_w1_w, va_rf_s, am_push_n, am_push_s, am_cs_0, am_cs_i, am_cs_l, am_cs_r, m_uI_K, m_uI_N, m_uI_R, m_uI_L, m_uI_I, m_uL_K, m_uL_N, m_uL_R, m_uL_I, m_uL_L, m_uR_K, m_uR_N, m_uR_I, m_uR_L, m_uR_R, true_and, and_true, true_implies, false_implies, not_true_eq_false, not_false_eq_true, if_true, if_false, false_and, and_false, ← hA, lx LA, lz LA hz, rA, eT]
  refine x_wr d (dTot D) [] A _ LA iA (by show 0 < 507; omega) (fun M1 g1 i1 => ?_)
  have X1 := XR_t hD XA g1 (fun a j q => sIx_t q)
  have G1 := gF_trans gA g1
  simp +decide (disch := omega) only [qX10_image_0, qX10_image_1, qX10_image_2, am_w1_i, am_w1_r, am_w1_x, am_w1_l, am_w1_w, va_rf_s, am_push_n, am_push_s, am_cs_0, am_cs_i, am_cs_l, am_cs_r, m_uI_K, m_uI_N, m_uI_R, m_uI_L, m_uI_I, m_uL_K, m_uL_N, m_uL_R, m_uL_I, m_uL_L, m_uR_K, m_uR_N, m_uR_I, m_uR_L, m_uR_R, true_and, and_true, true_implies, false_implies, not_true_eq_false, not_false_eq_true, if_true, if_false, false_and, and_false]
  refine l_x_img18 d z D M Q hD (fun M2 x2 v2 v3 G2 X2 i2 => ?_) (dN D) 0 (by omega) M1 am_x am_x G1 X1 i1
  have L2 := X2.1.1
  have r2 := X2.1.2.2.2.1
  simp +decide (disch := omega) only [qX10_image_0, qX10_image_1, qX10_image_2, lx L2, lz L2 hz, r2, (x_sg X2).1, am_w1_i, am_w1_r, am_w1_x, am_w1_l, am_w1_w, va_rf_s, am_push_n, am_push_s, am_cs_0, am_cs_i, am_cs_l, am_cs_r, m_uI_K, m_uI_N, m_uI_R, m_uI_L, m_uI_I, m_uL_K, m_uL_N, m_uL_R, m_uL_I, m_uL_L, m_uR_K, m_uR_N, m_uR_I, m_uR_L, m_uR_R, true_and, and_true, true_implies, false_implies, not_true_eq_false, not_false_eq_true, if_true, if_false, false_and, and_false]
  refine x_wr d (dSg D).length _ M2 _ L2 i2 (by omega) (fun M3 g3 i3 => ?_)
  have X3 := XR_t hD X2 g3 (fun a j q => sIx_t q)
  simp +decide (disch := omega) only [qX10_image_0, qX10_image_1, qX10_image_2, am_w1_i, am_w1_r, am_w1_x, am_w1_l, am_w1_w, va_rf_s, am_push_n, am_push_s, am_cs_0, am_cs_i, am_cs_l, am_cs_r, m_uI_K, m_uI_N, m_uI_R, m_uI_L, m_uI_I, m_uL_K, m_uL_N, m_uL_R, m_uL_I, m_uL_L, m_uR_K, m_uR_N, m_uR_I, m_uR_L, m_uR_R, true_and, and_true, true_implies, false_implies, not_true_eq_false, not_false_eq_true, if_true, if_false, false_and, and_false]
  refine l_x_img122 d z D (([dTot D] ++ imS D (dN D)) ++ [(dSg D).length]) M v2 v3 Q hD (by rw [List.length_append]; show _ + 1 ≤ 386; omega) (fun M4 x4 G4 X4 i4 => ?_) (dSg D).length 0 (by omega) M3 (gF_trans G2 g3) X3 (by rw [List.take_zero]; show ImX M3 (_ ++ []); rw [List.append_nil]; exact i3)
  have i4' : ImX M4 (imA D) := i4
  have L4 := X4.1.1
  have eK := fun Q => c_x_check d 170 (imA D).length 507 (imA D) M4 Q (by simp only [lx L4]) (by simp only [lx L4]) (by omega) (by omega) rfl (fun j v hv => ⟨imA_v hD v (List.mem_of_getElem? hv), i4'.2.2 j v hv⟩)
  simp +decide (disch := omega) only [qX10_image_0, qX10_image_1, qX10_image_2, lx L4, i4'.2.1, eK, am_w1_i, am_w1_r, am_w1_x, am_w1_l, am_w1_w, va_rf_s, am_push_n, am_push_s, am_cs_0, am_cs_i, am_cs_l, am_cs_r, m_uI_K, m_uI_N, m_uI_R, m_uI_L, m_uI_I, m_uL_K, m_uL_N, m_uL_R, m_uL_I, m_uL_L, m_uR_K, m_uR_N, m_uR_I, m_uR_L, m_uR_R, true_and, and_true, true_implies, false_implies, not_true_eq_false, not_false_eq_true, if_true, if_false, false_and, and_false]
  refine x_wr d (ckS (imA D) 29) _ M4 _ L4 i4' (by omega) (fun M5 g5 i5 => ?_)
  have X5 := XR_t hD X4 g5 (fun a j q => sIx_t q)
  have i5' : ImX M5 (imD D) := i5
  have h0 := hQ M5 (gF_trans G4 g5) i5'
  simp +decide (disch := omega) only [qX10_image_0, qX10_image_1, qX10_image_2, lx X5.1.1, i5'.2.1, am_w1_i, am_w1_r, am_w1_x, am_w1_l, am_w1_w, va_rf_s, am_push_n, am_push_s, am_cs_0, am_cs_i, am_cs_l, am_cs_r, m_uI_K, m_uI_N, m_uI_R, m_uI_L, m_uI_I, m_uL_K, m_uL_N, m_uL_R, m_uL_I, m_uL_L, m_uR_K, m_uR_N, m_uR_I, m_uR_L, m_uR_R, true_and, and_true, true_implies, false_implies, not_true_eq_false, not_false_eq_true, if_true, if_false, false_and, and_false]
  exact h0
theorem MdM_io {M M' : am_M} {b : Nat} {D : Dat} (h : MdM M b D) (g : gF sIo nT M M') : MdM M' b D := MdM_g h g (fun a j q w => by unfold tlM at q; unfold sIo at w; omega)
theorem l_m_img35 (d b s : Nat) (D : Dat) (L0 : List Nat) (M0 : am_M) (Q : Option Value → am_M → Prop) (hL0 : Lay M0) (hD : dOK D) (hs : s < dN D) (hl0 : L0.length + 4 * (dY D s).length ≤ 386)
    (hQ : ∀ M' v2, gF sIo nT M0 M' → MdM M' b D → ImO M' (L0 ++ syL (dC D) s (dY D s)) → am_P am_P0 (d + 1) (am_look tX11_image) 20 [.ref 277, .int (nI (s + 1)), v2] [] M' Q) :
    ∀ (m t : Nat), t + m = 48 → ∀ (M : am_M), gF sIo nT M0 M → MdM M b D → ImO M (L0 ++ syL (dC D) s (bef (dY D s) t)) → am_P am_P0 (d + 1) (am_look tX11_image) 35 [.ref 277, .int (nI s), .int (nI t)] [] M Q := by
  have n8 := dN_8 hD
  have hsr := hD.1.2.2.2.2.1 s
  have hall := hD.1.2.2.2.1 s
  intro m
  induction m with
  | zero =>
    intro t ht M g hM hI
    have hL := gF_LayN g hL0
    have e : t = 48 := by omega
    subst e
    rw [bef_all (fun y hy => (hall y hy).1)] at hI
    have hle : (48 : Int32) ≤ nI 48 := by decide
    have h0 := hQ M (.int (nI 48)) g hM hI
    rw [hX11_image_35]
    simp +decide (disch := omega) only [qX11_image_0, qX11_image_1, qX11_image_2, qX11_image_3, lm hL, ni_add1, am_w1_i, am_w1_r, am_w1_x, am_w1_l, am_w1_w, va_rf_s, am_push_n, am_push_s, am_cs_0, am_cs_i, am_cs_l, am_cs_r, m_uI_K, m_uI_N, m_uI_R, m_uI_L, m_uI_I, m_uL_K, m_uL_N, m_uL_R, m_uL_I, m_uL_L, m_uR_K, m_uR_N, m_uR_I, m_uR_L, m_uR_R, true_and, and_true, true_implies, false_implies, not_true_eq_false, not_false_eq_true, if_true, if_false, false_and, and_false]
    first | exact h0 | (rw [br_p hle]; exact h0)
  | succ m ih =>
    intro t ht M g hM hI
    have hL := gF_LayN g hL0
    have hb := hM.1.1
    have hb2 := hM.1.2
    have hlt : ¬ (48 : Int32) ≤ nI t := by rw [show (48 : Int32) = nI 48 from rfl, ni_le (by omega) (by omega)]; omega
    have eD := fun Q => c_m_said d s t M Q hL b hb hb2 (by omega) (by omega)
    rw [hX11_image_35]
    simp +decide (disch := omega) only [qX11_image_0, qX11_image_1, qX11_image_2, qX11_image_3, lm hL, eD, Classical.not_not, am_w1_i, am_w1_r, am_w1_x, am_w1_l, am_w1_w, va_rf_s, am_push_n, am_push_s, am_cs_0, am_cs_i, am_cs_l, am_cs_r, m_uI_K, m_uI_N, m_uI_R, m_uI_L, m_uI_I, m_uL_K, m_uL_N, m_uL_R, m_uL_I, m_uL_L, m_uR_K, m_uR_N, m_uR_I, m_uR_L, m_uR_R, true_and, and_true, true_implies, false_implies, not_true_eq_false, not_false_eq_true, if_true, if_false, false_and, and_false]
    rw [br_n hlt]
    rcases (hM.2.2.2.2.1.2 s (by omega)).2.2 t (by omega) with ⟨y, q1, q2, q3, q4⟩ | ⟨q1, q2⟩
    · have hv := (hall y q1).2
      have hc := (cel_lt hD.1.1.1 hD.1.1.2 hv).2.1
      have hne : ¬ nI (cel (dC D) y.2.1) = -1 := nI_m1 (by omega)
      have ebf := bef_t hsr q1 q2
      have hbl := bef_le (dY D s) (t + 1)
      rw [ebf, List.length_append] at hbl
      have hbl' : (bef (dY D s) t).length + 1 ≤ (dY D s).length := hbl
      have hlen : (L0 ++ syL (dC D) s (bef (dY D s) t)).length + 4 ≤ 386 := by rw [List.length_append, syL_len]; omega
      obtain ⟨L, eL⟩ : ∃ L, L = L0 ++ syL (dC D) s (bef (dY D s) t) := ⟨_, rfl⟩
      have eN : L0 ++ syL (dC D) s (bef (dY D s) (t + 1)) = (((L ++ [s]) ++ [t]) ++ [cel (dC D) y.2.1]) ++ [n01 y.2.2] := by rw [ebf, syL_app, eL, ← q2]; simp [syL]
      rw [← eL] at hI hlen
      rw [q3]
      first | rw [br_n (hne)] | rw [br_q (hne)] | rw [br_u (hne)]
      refine m_wr d s L M _ hL hI (by omega) (by omega) (fun M1 g1 i1 => ?_)
      have m1 := MdM_io hM g1
      have L1 := gF_LayN g1 hL
      simp +decide (disch := omega) only [qX11_image_0, qX11_image_1, qX11_image_2, qX11_image_3, lm L1, am_w1_i, am_w1_r, am_w1_x, am_w1_l, am_w1_w, va_rf_s, am_push_n, am_push_s, am_cs_0, am_cs_i, am_cs_l, am_cs_r, m_uI_K, m_uI_N, m_uI_R, m_uI_L, m_uI_I, m_uL_K, m_uL_N, m_uL_R, m_uL_I, m_uL_L, m_uR_K, m_uR_N, m_uR_I, m_uR_L, m_uR_R, true_and, and_true, true_implies, false_implies, not_true_eq_false, not_false_eq_true, if_true, if_false, false_and, and_false]
      refine m_wr d t _ M1 _ L1 i1 (by rw [List.length_append]; show L.length + 1 < 507; omega) (by omega) (fun M2 g2 i2 => ?_)
      have m2 := MdM_io m1 g2
      have L2 := gF_LayN g2 L1
      have eD2 := fun Q => c_m_said d s t M2 Q L2 b m2.1.1 hb2 (by omega) (by omega)
      have v2 : mI M2 292 (384 * b + 48 * s + t) = nI (cel (dC D) y.2.1) := by rw [g2.1 _ _ (by unfold sIo; omega), g1.1 _ _ (by unfold sIo; omega)]; exact q3
      simp +decide (disch := omega) only [qX11_image_0, qX11_image_1, qX11_image_2, qX11_image_3, lm L2, eD2, v2, am_w1_i, am_w1_r, am_w1_x, am_w1_l, am_w1_w, va_rf_s, am_push_n, am_push_s, am_cs_0, am_cs_i, am_cs_l, am_cs_r, m_uI_K, m_uI_N, m_uI_R, m_uI_L, m_uI_I, m_uL_K, m_uL_N, m_uL_R, m_uL_I, m_uL_L, m_uR_K, m_uR_N, m_uR_I, m_uR_L, m_uR_R, true_and, and_true, true_implies, false_implies, not_true_eq_false, not_false_eq_true, if_true, if_false, false_and, and_false]
      refine m_wr d (cel (dC D) y.2.1) _ M2 _ L2 i2 (by rw [List.length_append, List.length_append]; show L.length + 1 + 1 < 507; omega) (by omega) (fun M3 g3 i3 => ?_)
      have m3 := MdM_io m2 g3
      have L3 := gF_LayN g3 L2
      have v3 : mI M3 293 (384 * b + 48 * s + t) = b01 y.2.2 := by rw [g3.1 _ _ (by unfold sIo; omega), g2.1 _ _ (by unfold sIo; omega), g1.1 _ _ (by unfold sIo; omega)]; exact q4
      have eD3 := fun Q => c_m_laden d s t M3 Q L3 b m3.1.1 hb2 (by omega) (by omega) (by rw [v3]; exact b01_c _)
      have fin : ∀ (w : Int32), w = nI (n01 y.2.2) → am_E am_P0 d 298 [.ref 277, .int w] M3 (fun r M4 => am_P am_P0 (d + 1) (am_look tX11_image) 35 [.ref 277, .int (nI s), .int (nI (t + 1))] (am_push r []) M4 Q) := fun w hw => by
        rw [hw]
        refine m_wr d (n01 y.2.2) _ M3 _ L3 i3 (by rw [List.length_append, List.length_append, List.length_append]; show L.length + 1 + 1 + 1 < 507; omega) (by unfold n01; split <;> omega) (fun M4 g4 i4 => ?_)
        have h0 := ih (t + 1) (by omega) M4 (gF_trans g (gF_trans g1 (gF_trans g2 (gF_trans g3 g4)))) (MdM_io m3 g4) (by rw [eN]; exact i4)
        exact h0
      simp +decide (disch := omega) only [qX11_image_0, qX11_image_1, qX11_image_2, qX11_image_3, lm L3, eD3, v3, am_w1_i, am_w1_r, am_w1_x, am_w1_l, am_w1_w, va_rf_s, am_push_n, am_push_s, am_cs_0, am_cs_i, am_cs_l, am_cs_r, m_uI_K, m_uI_N, m_uI_R, m_uI_L, m_uI_I, m_uL_K, m_uL_N, m_uL_R, m_uL_I, m_uL_L, m_uR_K, m_uR_N, m_uR_I, m_uR_L, m_uR_R, true_and, and_true, true_implies, false_implies, not_true_eq_false, not_false_eq_true, if_true, if_false, false_and, and_false]
      cases hb9 : y.2.2 with
      | false =>
        have := fin 0 (by rw [hb9]; rfl)
        simp +decide only [b01, ni_add1, am_w1_i, am_w1_r, am_w1_x, am_w1_l, am_w1_w, va_rf_s, am_push_n, am_push_s, am_cs_0, am_cs_i, am_cs_l, am_cs_r, m_uI_K, m_uI_N, m_uI_R, m_uI_L, m_uI_I, m_uL_K, m_uL_N, m_uL_R, m_uL_I, m_uL_L, m_uR_K, m_uR_N, m_uR_I, m_uR_L, m_uR_R, true_and, and_true, true_implies, false_implies, not_true_eq_false, not_false_eq_true, if_true, if_false, false_and, and_false]
        exact this
      | true =>
        have := fin 1 (by rw [hb9]; rfl)
        simp +decide only [b01, ni_add1, am_w1_i, am_w1_r, am_w1_x, am_w1_l, am_w1_w, va_rf_s, am_push_n, am_push_s, am_cs_0, am_cs_i, am_cs_l, am_cs_r, m_uI_K, m_uI_N, m_uI_R, m_uI_L, m_uI_I, m_uL_K, m_uL_N, m_uL_R, m_uL_I, m_uL_L, m_uR_K, m_uR_N, m_uR_I, m_uR_L, m_uR_R, true_and, and_true, true_implies, false_implies, not_true_eq_false, not_false_eq_true, if_true, if_false, false_and, and_false]
        exact this
    · rw [q2]
      have h0 := ih (t + 1) (by omega) M g hM (by rw [bef_f q1]; exact hI)
      simp +decide (disch := omega) only [qX11_image_0, qX11_image_1, qX11_image_2, qX11_image_3, ni_add1, am_w1_i, am_w1_r, am_w1_x, am_w1_l, am_w1_w, va_rf_s, am_push_n, am_push_s, am_cs_0, am_cs_i, am_cs_l, am_cs_r, m_uI_K, m_uI_N, m_uI_R, m_uI_L, m_uI_I, m_uL_K, m_uL_N, m_uL_R, m_uL_I, m_uL_L, m_uR_K, m_uR_N, m_uR_I, m_uR_L, m_uR_R, true_and, and_true, true_implies, false_implies, not_true_eq_false, not_false_eq_true, if_true, if_false, false_and, and_false]
      exact h0
end
section
/-! image: the model; together -/
theorem l_m_img20 (d b : Nat) (D : Dat) (M0 : am_M) (Q : Option Value → am_M → Prop) (hL0 : Lay M0) (hD : dOK D)
    (hQ : ∀ M' x v2, gF sIo nT M0 M' → MdM M' b D → ImO M' ([dTot D] ++ imS D (dN D)) → am_P am_P0 (d + 1) (am_look tX11_image) 104 [.ref 277, .int x, v2] [] M' Q) :
    ∀ (m s : Nat), s + m = dN D → ∀ (M : am_M) (v2 : Value), gF sIo nT M0 M → MdM M b D → ImO M ([dTot D] ++ imS D s) → am_P am_P0 (d + 1) (am_look tX11_image) 20 [.ref 277, .int (nI s), v2] [] M Q := by
  have n8 := dN_8 hD
  intro m
  induction m with
  | zero =>
    intro s hs M v2 g hM hI
    have hL := gF_LayN g hL0
    have hb := hM.1.1
    have hb2 := hM.1.2
    have hn : mI M 285 b = nI (dN D) := hM.2.2.2.1.1
    have e : s = dN D := by omega
    subst e
    have hle : nI (dN D) ≤ nI (dN D) := (ni_le (by omega) (by omega)).mpr (Nat.le_refl _)
    have h0 := hQ M (nI (dN D)) v2 g hM hI
    rw [hX11_image_20]
    simp +decide (disch := omega) only [qX11_image_0, qX11_image_1, qX11_image_2, qX11_image_3, lm hL, hb, hn, ni_in_t, ni_tn, am_w1_i, am_w1_r, am_w1_x, am_w1_l, am_w1_w, va_rf_s, am_push_n, am_push_s, am_cs_0, am_cs_i, am_cs_l, am_cs_r, m_uI_K, m_uI_N, m_uI_R, m_uI_L, m_uI_I, m_uL_K, m_uL_N, m_uL_R, m_uL_I, m_uL_L, m_uR_K, m_uR_N, m_uR_I, m_uR_L, m_uR_R, true_and, and_true, true_implies, false_implies, not_true_eq_false, not_false_eq_true, if_true, if_false, false_and, and_false] at h0 ⊢
    rw [br_p hle]
    exact h0
  | succ m ih =>
    intro s hs M v2 g hM hI
    have hL := gF_LayN g hL0
    have hb := hM.1.1
    have hb2 := hM.1.2
    have hn : mI M 285 b = nI (dN D) := hM.2.2.2.1.1
    have hsl : s < dN D := by omega
    have hlt : ¬ nI (dN D) ≤ nI s := by rw [ni_le (by omega) (by omega)]; omega
    have hbd := dSp_t hD hsl
    have h0 := l_m_img35 d b s D ([dTot D] ++ imS D s) M0 Q hL0 hD hsl (by rw [List.length_append, imS_len]; show 1 + _ + _ ≤ 386; omega) (fun M' v' g' X' i' => ih (s + 1) (by omega) M' v' g' X' (by rw [List.append_assoc] at i'; exact i')) 48 0 (by omega) M g hM (by rw [bef_0]; show ImO M (_ ++ []); rw [List.append_nil]; exact hI)
    rw [hX11_image_20]
    simp +decide (disch := omega) only [qX11_image_0, qX11_image_1, qX11_image_2, qX11_image_3, lm hL, hb, hn, ni_in_t, ni_tn, am_w1_i, am_w1_r, am_w1_x, am_w1_l, am_w1_w, va_rf_s, am_push_n, am_push_s, am_cs_0, am_cs_i, am_cs_l, am_cs_r, m_uI_K, m_uI_N, m_uI_R, m_uI_L, m_uI_I, m_uL_K, m_uL_N, m_uL_R, m_uL_I, m_uL_L, m_uR_K, m_uR_N, m_uR_I, m_uR_L, m_uR_R, true_and, and_true, true_implies, false_implies, not_true_eq_false, not_false_eq_true, if_true, if_false, false_and, and_false]
    rw [br_n hlt]
    exact h0
theorem l_m_img125 (d b : Nat) (D : Dat) (L0 : List Nat) (M0 : am_M) (v2 : Value) (Q : Option Value → am_M → Prop) (hL0 : Lay M0) (hD : dOK D) (hl0 : L0.length ≤ 386)
    (hQ : ∀ M' x, gF sIo nT M0 M' → MdM M' b D → ImO M' (L0 ++ sgL (dC D) (dSg D)) → am_P am_P0 (d + 1) (am_look tX11_image) 182 [.ref 277, .int x, v2] [] M' Q) :
    ∀ (m i : Nat), i + m = (dSg D).length → ∀ (M : am_M), gF sIo nT M0 M → MdM M b D → ImO M (L0 ++ sgL (dC D) ((dSg D).take i)) → am_P am_P0 (d + 1) (am_look tX11_image) 125 [.ref 277, .int (nI (40 * b + i)), v2] [] M Q := by
  have l40 := hD.1.2.2.2.2.2.2.2.1.1
  intro m
  induction m with
  | zero =>
    intro i hi M g hM hI
    have hL := gF_LayN g hL0
    have hb := hM.1.1
    have hb2 := hM.1.2
    have hn : mI M 299 b = nI (dSg D).length := hM.2.2.2.2.2.2.1.1
    have e40 : (40 : Int32) * nI b + nI (dSg D).length = nI (40 * b + (dSg D).length) := by rw [show (40 : Int32) = nI 40 from rfl, ni_mul, ni_add]
    have hle : nI (40 * b + (dSg D).length) ≤ nI (40 * b + i) := (ni_le (by omega) (by omega)).mpr (by omega)
    rw [List.take_of_length_le (by omega)] at hI
    have h0 := hQ M (nI (40 * b + i)) g hM hI
    rw [hX11_image_125]
    simp +decide (disch := omega) only [qX11_image_0, qX11_image_1, qX11_image_2, qX11_image_3, lm hL, hb, hn, e40, ni_in_t, ni_tn, am_w1_i, am_w1_r, am_w1_x, am_w1_l, am_w1_w, va_rf_s, am_push_n, am_push_s, am_cs_0, am_cs_i, am_cs_l, am_cs_r, m_uI_K, m_uI_N, m_uI_R, m_uI_L, m_uI_I, m_uL_K, m_uL_N, m_uL_R, m_uL_I, m_uL_L, m_uR_K, m_uR_N, m_uR_I, m_uR_L, m_uR_R, true_and, and_true, true_implies, false_implies, not_true_eq_false, not_false_eq_true, if_true, if_false, false_and, and_false] at h0 ⊢
    rw [br_p hle]
    exact h0
  | succ m ih =>
    intro i hi M g hM hI
    have hL := gF_LayN g hL0
    have hb := hM.1.1
    have hb2 := hM.1.2
    have hn : mI M 299 b = nI (dSg D).length := hM.2.2.2.2.2.2.1.1
    have e40 : (40 : Int32) * nI b + nI (dSg D).length = nI (40 * b + (dSg D).length) := by rw [show (40 : Int32) = nI 40 from rfl, ni_mul, ni_add]
    have hlt : ¬ nI (40 * b + (dSg D).length) ≤ nI (40 * b + i) := by rw [ni_le (by omega) (by omega)]; omega
    obtain ⟨y, hy⟩ : ∃ y, (dSg D)[i]? = some y := ⟨(dSg D)[i]'(by omega), List.getElem?_eq_getElem (by omega)⟩
    have hyo := hD.1.2.2.2.2.2.2.2.1.2 y (List.mem_of_getElem? hy)
    have y256 := (cel_lt hD.1.1.1 hD.1.1.2 hyo.2.1).2.1
    have hlen : (L0 ++ sgL (dC D) ((dSg D).take i)).length + 3 ≤ 506 := by rw [List.length_append, sgL_len, List.length_take]; omega
    obtain ⟨L, eL⟩ : ∃ L, L = L0 ++ sgL (dC D) ((dSg D).take i) := ⟨_, rfl⟩
    have eN : L0 ++ sgL (dC D) ((dSg D).take (i + 1)) = ((L ++ [y.1]) ++ [cel (dC D) y.2.1]) ++ [y.2.2] := by rw [tk_s hy, sgL_app, eL]; simp [sgL]
    rw [← eL] at hI hlen
    rw [hX11_image_125]
    simp +decide (disch := omega) only [qX11_image_0, qX11_image_1, qX11_image_2, qX11_image_3, lm hL, hb, hn, e40, (hM.2.2.2.2.2.2.1.2 i y hy).1, ni_in_t, ni_tn, am_w1_i, am_w1_r, am_w1_x, am_w1_l, am_w1_w, va_rf_s, am_push_n, am_push_s, am_cs_0, am_cs_i, am_cs_l, am_cs_r, m_uI_K, m_uI_N, m_uI_R, m_uI_L, m_uI_I, m_uL_K, m_uL_N, m_uL_R, m_uL_I, m_uL_L, m_uR_K, m_uR_N, m_uR_I, m_uR_L, m_uR_R, true_and, and_true, true_implies, false_implies, not_true_eq_false, not_false_eq_true, if_true, if_false, false_and, and_false]
    rw [br_n hlt]
    refine m_wr d y.1 L M _ hL hI (by omega) (by omega) (fun M1 g1 i1 => ?_)
    have m1 := MdM_io hM g1
    have L1 := gF_LayN g1 hL
    simp +decide (disch := omega) only [qX11_image_0, qX11_image_1, qX11_image_2, qX11_image_3, lm L1, (m1.2.2.2.2.2.2.1.2 i y hy).2.1, ni_in_t, ni_tn, am_w1_i, am_w1_r, am_w1_x, am_w1_l, am_w1_w, va_rf_s, am_push_n, am_push_s, am_cs_0, am_cs_i, am_cs_l, am_cs_r, m_uI_K, m_uI_N, m_uI_R, m_uI_L, m_uI_I, m_uL_K, m_uL_N, m_uL_R, m_uL_I, m_uL_L, m_uR_K, m_uR_N, m_uR_I, m_uR_L, m_uR_R, true_and, and_true, true_implies, false_implies, not_true_eq_false, not_false_eq_true, if_true, if_false, false_and, and_false]
    refine m_wr d (cel (dC D) y.2.1) _ M1 _ L1 i1 (by rw [List.length_append]; show L.length + 1 < 507; omega) (by omega) (fun M2 g2 i2 => ?_)
    have m2 := MdM_io m1 g2
    have L2 := gF_LayN g2 L1
    simp +decide (disch := omega) only [qX11_image_0, qX11_image_1, qX11_image_2, qX11_image_3, lm L2, (m2.2.2.2.2.2.2.1.2 i y hy).2.2, ni_in_t, ni_tn, am_w1_i, am_w1_r, am_w1_x, am_w1_l, am_w1_w, va_rf_s, am_push_n, am_push_s, am_cs_0, am_cs_i, am_cs_l, am_cs_r, m_uI_K, m_uI_N, m_uI_R, m_uI_L, m_uI_I, m_uL_K, m_uL_N, m_uL_R, m_uL_I, m_uL_L, m_uR_K, m_uR_N, m_uR_I, m_uR_L, m_uR_R, true_and, and_true, true_implies, false_implies, not_true_eq_false, not_false_eq_true, if_true, if_false, false_and, and_false]
    refine m_wr d y.2.2 _ M2 _ L2 i2 (by rw [List.length_append, List.length_append]; show L.length + 1 + 1 < 507; omega) (by omega) (fun M3 g3 i3 => ?_)
    have h0 := ih (i + 1) (by omega) M3 (gF_trans g (gF_trans g1 (gF_trans g2 g3))) (MdM_io m2 g3) (by rw [eN]; exact i3)
    simp +decide (disch := omega) only [qX11_image_0, qX11_image_1, qX11_image_2, qX11_image_3, ni_add1, am_w1_i, am_w1_r, am_w1_x, am_w1_l, am_w1_w, va_rf_s, am_push_n, am_push_s, am_cs_0, am_cs_i, am_cs_l, am_cs_r, m_uI_K, m_uI_N, m_uI_R, m_uI_L, m_uI_I, m_uL_K, m_uL_N, m_uL_R, m_uL_I, m_uL_L, m_uR_K, m_uR_N, m_uR_I, m_uR_L, m_uR_R, true_and, and_true, true_implies, false_implies, not_true_eq_false, not_false_eq_true, if_true, if_false, false_and, and_false]
    exact h0
theorem l_m_img187 (d : Nat) (L : List Nat) (M : am_M) (Q : Option Value → am_M → Prop) (hL : Lay M) (hI : ImO M L) (h506 : L.length ≤ 506) (hv : ∀ v, v ∈ L → v < 256)
    (hQ : ∀ M', gF sIo nT M M' → ImO M' (L ++ [ckS L 29]) → Q (some (.int (nI (L ++ [ckS L 29]).length))) M') : ∀ (m i c : Nat), i + m = L.length → c < 241 → c = ckS (L.take i) 29 → am_P am_P0 (d + 1) (am_look tX11_image) 187 [.ref 277, .int (nI c), .int (nI i)] [] M Q := by
  intro m
  induction m with
  | zero =>
    intro i c hi hc he
    have hle : nI L.length ≤ nI i := (ni_le (by omega) (by omega)).mpr (by omega)
    rw [List.take_of_length_le (by omega)] at he
    rw [hX11_image_187]
    simp +decide (disch := omega) only [qX11_image_0, qX11_image_1, qX11_image_2, qX11_image_3, lm hL, hI.2.1, am_w1_i, am_w1_r, am_w1_x, am_w1_l, am_w1_w, va_rf_s, am_push_n, am_push_s, am_cs_0, am_cs_i, am_cs_l, am_cs_r, m_uI_K, m_uI_N, m_uI_R, m_uI_L, m_uI_I, m_uL_K, m_uL_N, m_uL_R, m_uL_I, m_uL_L, m_uR_K, m_uR_N, m_uR_I, m_uR_L, m_uR_R, true_and, and_true, true_implies, false_implies, not_true_eq_false, not_false_eq_true, if_true, if_false, false_and, and_false]
    rw [br_p hle]
    refine m_wr d c L M _ hL hI (by omega) (by omega) (fun M1 g1 i1 => ?_)
    rw [he] at i1
    have h0 := hQ M1 g1 i1
    simp +decide (disch := omega) only [qX11_image_0, qX11_image_1, qX11_image_2, qX11_image_3, lm (gF_LayN g1 hL), i1.2.1, am_w1_i, am_w1_r, am_w1_x, am_w1_l, am_w1_w, va_rf_s, am_push_n, am_push_s, am_cs_0, am_cs_i, am_cs_l, am_cs_r, m_uI_K, m_uI_N, m_uI_R, m_uI_L, m_uI_I, m_uL_K, m_uL_N, m_uL_R, m_uL_I, m_uL_L, m_uR_K, m_uR_N, m_uR_I, m_uR_L, m_uR_R, true_and, and_true, true_implies, false_implies, not_true_eq_false, not_false_eq_true, if_true, if_false, false_and, and_false]
    exact h0
  | succ m ih =>
    intro i c hi hc he
    have hlt : ¬ nI L.length ≤ nI i := by rw [ni_le (by omega) (by omega)]; omega
    obtain ⟨v, hv1⟩ : ∃ v, L[i]? = some v := ⟨L[i]'(by omega), List.getElem?_eq_getElem (by omega)⟩
    have v2 := hv v (List.mem_of_getElem? hv1)
    have v3 := hI.2.2 i v hv1
    have h0 := ih (i + 1) ((3 * c + v) % 241) (by omega) (Nat.mod_lt _ (by omega)) (by rw [tk_s hv1, ckS_app, ← he]; rfl)
    have eck := ck_step (v := v) hc v2
    rw [hX11_image_187]
    simp +decide (disch := omega) only [qX11_image_0, qX11_image_1, qX11_image_2, qX11_image_3, lm hL, hI.2.1, v3, eck, ni_in_t, ni_tn, ni_add1, am_w1_i, am_w1_r, am_w1_x, am_w1_l, am_w1_w, va_rf_s, am_push_n, am_push_s, am_cs_0, am_cs_i, am_cs_l, am_cs_r, m_uI_K, m_uI_N, m_uI_R, m_uI_L, m_uI_I, m_uL_K, m_uL_N, m_uL_R, m_uL_I, m_uL_L, m_uR_K, m_uR_N, m_uR_I, m_uR_L, m_uR_R, true_and, and_true, true_implies, false_implies, not_true_eq_false, not_false_eq_true, if_true, if_false, false_and, and_false]
    rw [br_n hlt]
    exact h0
theorem m_image {M : am_M} {b : Nat} {D : Dat} (hD : dOK D) (hL : Lay M) (h : MdM M b D) (d : Nat) (Q : Option Value → am_M → Prop) (hQ : ∀ M', gF sIo nT M M' → ImO M' (imD D) → Q (some (.int (nI (imD D).length))) M') : am_E am_P0 (d + 1) 299 [.ref 277] M Q := by
  have l385 := imB_len hD
  have l506 := imA_len hD
  have t96 : dTot D ≤ 96 := hD.1.2.2.2.2.2.1
  have l40 := hD.1.2.2.2.2.2.2.2.1.1
  have hb2 := h.1.2
  obtain ⟨A, hA⟩ : ∃ A, A = uI M 277 82 0 := ⟨_, rfl⟩
  have gA : gF sIo nT M A := by rw [hA]; exact gF_i _ (Or.inr ⟨rfl, rfl⟩)
  have mA := MdM_io h gA
  have LA := gF_LayN gA hL
  have iA : ImO A [] := ImO_0 (by rw [hA, m_uI_I, if_pos ⟨rfl, rfl⟩]; rfl)
  have n291 : mI A 291 b = nI (dTot D) := mA.2.2.2.2.1.1
  rw [eX11_image]
  simp +decide (disch := omega) only [qX11_image_0, qX11_image_1, qX11_image_2, qX11_image_3, lm hL, h.1.1, am_w1_i, am_w1_r, am_w1_x, am_w1_l, am_w1_w, va_rf_s, am_push_n, am_push_s, am_cs_0, am_cs_i, am_cs_l, am_cs_r, m_uI_K, m_uI_N, m_uI_R, m_uI_L, m_uI_I, m_uL_K, m_uL_N, m_uL_R, m_uL_I, m_uL_L, m_uR_K, m_uR_N, m_uR_I, m_uR_L, m_uR_R, true_and, and_true, true_implies, false_implies, not_true_eq_false, not_false_eq_true, if_true, if_false, false_and, and_false, ← hA, lm LA, mA.1.1, n291, ni_in_t, ni_tn]
  refine m_wr d (dTot D) [] A _ LA iA (by show 0 < 507; omega) (by omega) (fun M1 g1 i1 => ?_)
  have m1 := MdM_io mA g1
  simp +decide (disch := omega) only [qX11_image_0, qX11_image_1, qX11_image_2, qX11_image_3, am_w1_i, am_w1_r, am_w1_x, am_w1_l, am_w1_w, va_rf_s, am_push_n, am_push_s, am_cs_0, am_cs_i, am_cs_l, am_cs_r, m_uI_K, m_uI_N, m_uI_R, m_uI_L, m_uI_I, m_uL_K, m_uL_N, m_uL_R, m_uL_I, m_uL_L, m_uR_K, m_uR_N, m_uR_I, m_uR_L, m_uR_R, true_and, and_true, true_implies, false_implies, not_true_eq_false, not_false_eq_true, if_true, if_false, false_and, and_false]
  refine l_m_img20 d b D M Q hL hD (fun M2 x2 v2 G2 m2 i2 => ?_) (dN D) 0 (by omega) M1 am_x (gF_trans gA g1) m1 i1
  have L2 := gF_LayN G2 hL
  have n299 : mI M2 299 b = nI (dSg D).length := m2.2.2.2.2.2.2.1.1
  simp +decide (disch := omega) only [qX11_image_0, qX11_image_1, qX11_image_2, qX11_image_3, lm L2, m2.1.1, n299, ni_in_t, ni_tn, am_w1_i, am_w1_r, am_w1_x, am_w1_l, am_w1_w, va_rf_s, am_push_n, am_push_s, am_cs_0, am_cs_i, am_cs_l, am_cs_r, m_uI_K, m_uI_N, m_uI_R, m_uI_L, m_uI_I, m_uL_K, m_uL_N, m_uL_R, m_uL_I, m_uL_L, m_uR_K, m_uR_N, m_uR_I, m_uR_L, m_uR_R, true_and, and_true, true_implies, false_implies, not_true_eq_false, not_false_eq_true, if_true, if_false, false_and, and_false]
  refine m_wr d (dSg D).length _ M2 _ L2 i2 (by omega) (by omega) (fun M3 g3 i3 => ?_)
  have m3 := MdM_io m2 g3
  have L3 := gF_LayN g3 L2
  have e40 : (40 : Int32) * nI b = nI (40 * b + 0) := by rw [show (40 : Int32) = nI 40 from rfl, ni_mul]; rfl
  simp +decide (disch := omega) only [qX11_image_0, qX11_image_1, qX11_image_2, qX11_image_3, lm L3, m3.1.1, e40, am_w1_i, am_w1_r, am_w1_x, am_w1_l, am_w1_w, va_rf_s, am_push_n, am_push_s, am_cs_0, am_cs_i, am_cs_l, am_cs_r, m_uI_K, m_uI_N, m_uI_R, m_uI_L, m_uI_I, m_uL_K, m_uL_N, m_uL_R, m_uL_I, m_uL_L, m_uR_K, m_uR_N, m_uR_I, m_uR_L, m_uR_R, true_and, and_true, true_implies, false_implies, not_true_eq_false, not_false_eq_true, if_true, if_false, false_and, and_false]
  refine l_m_img125 d b D (([dTot D] ++ imS D (dN D)) ++ [(dSg D).length]) M v2 Q hL hD (by rw [List.length_append]; show _ + 1 ≤ 386; omega) (fun M4 x4 G4 m4 i4 => ?_) (dSg D).length 0 (by omega) M3 (gF_trans G2 g3) m3 (by rw [List.take_zero]; show ImO M3 (_ ++ []); rw [List.append_nil]; exact i3)
  have i4' : ImO M4 (imA D) := i4
  have L4 := gF_LayN G4 hL
  simp +decide (disch := omega) only [qX11_image_0, qX11_image_1, qX11_image_2, qX11_image_3, am_w1_i, am_w1_r, am_w1_x, am_w1_l, am_w1_w, va_rf_s, am_push_n, am_push_s, am_cs_0, am_cs_i, am_cs_l, am_cs_r, m_uI_K, m_uI_N, m_uI_R, m_uI_L, m_uI_I, m_uL_K, m_uL_N, m_uL_R, m_uL_I, m_uL_L, m_uR_K, m_uR_N, m_uR_I, m_uR_L, m_uR_R, true_and, and_true, true_implies, false_implies, not_true_eq_false, not_false_eq_true, if_true, if_false, false_and, and_false]
  exact l_m_img187 d (imA D) M4 Q L4 i4' l506 (imA_v hD) (fun M5 g5 i5 => hQ M5 (gF_trans G4 g5) i5) (imA D).length 0 29 (by omega) (by omega) rfl
theorem op_image : OpI 144 299 [] isI := by
  intro M hI d hd
  obtain ⟨z, b, D, hD, hX, hM, ⟨T, n, t1, t2, t3, t4⟩, hRf, hFt, hIm⟩ := id hI
  obtain ⟨d', rfl⟩ : ∃ d', d = d' + 1 := ⟨d - 1, by omega⟩
  refine x_image hD hX d' _ (fun M1 g1 i1 => ⟨_, rfl, ⟨_, rfl⟩, gF_LayN g1 hX.1.1, ?_⟩)
  have X1 := XR_t hD hX g1 (fun a j q => sIx_t q)
  have m1 := MdM_g hM g1 (fun a j q w => by unfold tlM at q; unfold sIx at w; omega)
  refine m_image hD X1.1.1 m1 d' _ (fun M2 g2 i2 => ⟨rfl, ?_⟩)
  have kp : ∀ a j, ¬ sIx a j → ¬ sIo a j → mI M2 a j = mI M a j := fun a j q1 q2 => by rw [g2.1 _ _ q2, g1.1 _ _ q1]
  refine Inv_t hD hX hM (gF_up g1 (fun a j q => by unfold sXt; have := sIx_t q; omega) (fun _ _ q => q)) (gF_up g2 (fun a j q => by unfold sIo at q; unfold sMt; omega) (fun _ _ q => q)) ⟨T, n, t1, ?_, ?_, fun j hj => ⟨(t4 j hj).1, ?_, ?_⟩⟩ (fun j hj => ?_) ⟨?_, ?_⟩ ⟨(imD D).length, i1.1, ?_, i2.2.1, fun j hj => ?_⟩
  · rw [kp _ _ (by unfold sIx; omega) (by unfold sIo; omega)]; exact t2
  · rw [kp _ _ (by unfold sIx; omega) (by unfold sIo; omega)]; exact t3
  · rw [kp _ _ (by unfold sIx; omega) (by unfold sIo; omega)]; exact (t4 j hj).2.1
  · rw [kp _ _ (by unfold sIx; omega) (by unfold sIo; omega)]; exact (t4 j hj).2.2
  · rw [kp _ _ (by unfold sIx; omega) (by unfold sIo; omega), kp _ _ (by unfold sIx; omega) (by unfold sIo; omega)]; exact hRf j hj
  · rw [kp _ _ (by unfold sIx; omega) (by unfold sIo; omega), kp _ _ (by unfold sIx; omega) (by unfold sIo; omega)]; exact hFt.1
  · trivial
  · rw [g2.1 _ _ (by unfold sIo; omega)]; exact i1.2.1
  · rw [g2.1 _ _ (by unfold sIo; omega), i1.2.2 j _ (List.getElem?_eq_getElem hj), i2.2.2 j _ (List.getElem?_eq_getElem hj)]
end
section
/-! on: what an image is; the class finds it good -/
theorem ni_a2 (n : Nat) : nI n + 2 = nI (n + 2) := ni_add n 2
theorem ni_a3 (n : Nat) : nI n + 3 = nI (n + 3) := ni_add n 3
theorem ni_a4 (n : Nat) : nI n + 4 = nI (n + 4) := ni_add n 4
theorem ni_m1 {n : Nat} (h : 1 ≤ n) : nI n - 1 = nI (n - 1) := by rw [show (1 : Int32) = nI 1 from rfl, ni_sub h]
def ordT (T : Nat → Nat) (i : Nat) : Nat := T (1 + 4 * i) * 48 + T (1 + 4 * i + 1)
def lstI (T : Nat → Nat) (i : Nat) : Int32 := if i = 0 then -1 else nI (ordT T (i - 1))
def rowOK (N CR : Nat) (T : Nat → Nat) (i : Nat) : Prop := T (1 + 4 * i) < N ∧ T (1 + 4 * i + 1) < 48 ∧ T (1 + 4 * i + 2) < CR ∧ T (1 + 4 * i + 3) ≤ 1 ∧ (i = 0 ∨ ordT T (i - 1) < ordT T i)
def sgrOK (CR : Nat) (T : Nat → Nat) (k j : Nat) : Prop := T (k + 1 + 3 * j) ≤ 3 ∧ T (k + 1 + 3 * j + 1) < CR ∧ T (k + 1 + 3 * j + 2) < 48
def tpL (T : Nat → Nat) (n : Nat) : List Nat := (List.range n).map T
theorem tpL_len (T : Nat → Nat) (n : Nat) : (tpL T n).length = n := by unfold tpL; rw [List.length_map, List.length_range]
theorem tpL_at {T : Nat → Nat} {n j v : Nat} (h : (tpL T n)[j]? = some v) : j < n ∧ v = T j := by
  have hl := (List.getElem?_eq_some_iff.mp h).1
  rw [tpL_len] at hl
  unfold tpL at h
  rw [List.getElem?_map, List.getElem?_range hl] at h
  cases h
  exact ⟨hl, rfl⟩
def imOK (N CR : Nat) (T : Nat → Nat) (n : Nat) : Prop := (3 ≤ n ∧ T 0 ≤ 96) ∧ (1 + 4 * T 0 < n ∧ T (1 + 4 * T 0) ≤ 40 ∧ n = 1 + 4 * T 0 + 2 + 3 * T (1 + 4 * T 0)) ∧ T (n - 1) = ckS (tpL T (n - 1)) 29 ∧ (∀ i, i < T 0 → rowOK N CR T i) ∧ ∀ j, j < T (1 + 4 * T 0) → sgrOK CR T (1 + 4 * T 0) j
theorem lst_lt {T : Nat → Nat} {i : Nat} (h : ordT T i < 100000) (h2 : ordT T (i - 1) < 100000) : lstI T i < nI (ordT T i) ↔ (i = 0 ∨ ordT T (i - 1) < ordT T i) := by
  unfold lstI
  by_cases c : i = 0
  · rw [if_pos c, lt32, ni_ti (by omega), show (-1 : Int32).toInt = -1 from rfl]
    exact ⟨fun _ => Or.inl c, fun _ => by omega⟩
  · rw [if_neg c, ni_lt (by omega) (by omega)]
    exact ⟨fun q => Or.inr q, fun q => by omega⟩
theorem c_x_placeOf (d v z C R : Nat) (M : am_M) (Q : Option Value → am_M → Prop) (hL : Lay M) (hz : z = 2 ∨ z = 83) (h0 : mI M z 0 = nI C) (h1 : mI M z 1 = nI R) (hC : C ≤ 16) (hR : R ≤ 16) (hv : v < 256) : am_E am_P0 d 57 [.ref z, .int (nI v)] M Q ↔ Q (some (.int (if v < C * R then nI (plc C v) else -1))) M := by
  have hCR : C * R ≤ 16 * 16 := Nat.mul_le_mul hC hR
  rw [eX5_placeOf]
  by_cases c0 : C = 0
  · subst c0
    have h0' : mI M z 0 = 0 := h0
    rw [if_neg (by omega)]
    simp +decide (disch := omega) only [qX5_placeOf, lz hL hz, h0', am_w1_i, am_w1_r, am_w1_x, am_w1_l, am_w1_w, va_rf_s, am_push_n, am_push_s, am_cs_0, am_cs_i, am_cs_l, am_cs_r, m_uI_K, m_uI_N, m_uI_R, m_uI_L, m_uI_I, m_uL_K, m_uL_N, m_uL_R, m_uL_I, m_uL_L, m_uR_K, m_uR_N, m_uR_I, m_uR_L, m_uR_R, true_and, and_true, true_implies, false_implies, not_true_eq_false, not_false_eq_true, if_true, if_false, false_and, and_false]
  · have hc0 : ¬ nI C = 0 := fun q => c0 ((ni_eq (b := 0) (by omega) (by omega)).mp q)
    have hv0 : ¬ nI v < 0 := by rw [show (0 : Int32) = nI 0 from rfl, ni_lt (by omega) (by omega)]; omega
    have em : nI C * nI R = nI (C * R) := ni_mul C R
    by_cases c1 : v < C * R
    · have c1' : nI v < nI (C * R) := (ni_lt (by omega) (by omega)).mpr c1
      rw [if_pos c1]
      have ed : nI v / nI C = nI (v / C) := ni_div (by omega) (by omega)
      have er : nI v - nI (v / C) * nI C = nI (v % C) := by
        rw [ni_mul, ni_sub (Nat.div_mul_le_self v C)]
        congr 1
        have := Nat.div_add_mod v C
        rw [Nat.mul_comm] at this
        omega
      have ep : nI (v / C) * 16 + nI (v % C) = nI (plc C v) := by
        rw [show (16 : Int32) = nI 16 from rfl, ni_mul, ni_add, Nat.mul_comm]; rfl
      simp +decide (disch := omega) only [qX5_placeOf, lz hL hz, h0, h1, hc0, em, ed, er, ep, am_w1_i, am_w1_r, am_w1_x, am_w1_l, am_w1_w, va_rf_s, am_push_n, am_push_s, am_cs_0, am_cs_i, am_cs_l, am_cs_r, m_uI_K, m_uI_N, m_uI_R, m_uI_L, m_uI_I, m_uL_K, m_uL_N, m_uL_R, m_uL_I, m_uL_L, m_uR_K, m_uR_N, m_uR_I, m_uR_L, m_uR_R, true_and, and_true, true_implies, false_implies, not_true_eq_false, not_false_eq_true, if_true, if_false, false_and, and_false]
      rw [br_n hv0]
      first | rw [br_p (c1')] | rw [br_r (c1')] | rw [br_s (c1')]
    · have c1' : ¬ nI v < nI (C * R) := by rw [ni_lt (by omega) (by omega)]; exact c1
      rw [if_neg c1]
      simp +decide (disch := omega) only [qX5_placeOf, lz hL hz, h0, h1, hc0, em, am_w1_i, am_w1_r, am_w1_x, am_w1_l, am_w1_w, va_rf_s, am_push_n, am_push_s, am_cs_0, am_cs_i, am_cs_l, am_cs_r, m_uI_K, m_uI_N, m_uI_R, m_uI_L, m_uI_I, m_uL_K, m_uL_N, m_uL_R, m_uL_I, m_uL_L, m_uR_K, m_uR_N, m_uR_I, m_uR_L, m_uR_R, true_and, and_true, true_implies, false_implies, not_true_eq_false, not_false_eq_true, if_true, if_false, false_and, and_false]
      rw [br_n hv0]
      first | rw [br_n (c1')] | rw [br_q (c1')] | rw [br_u (c1')]
theorem x_plcOf {M : am_M} {z : Nat} {D : Dat} (hD : dOK D) (h : XR M z D) (d v : Nat) (Q : Option Value → am_M → Prop) (hv : v < 256) : am_E am_P0 d 57 [.ref z, .int (nI v)] M Q ↔ Q (some (.int (if v < dC D * dR D then nI (plc (dC D) v) else -1))) M := c_x_placeOf d v z (dC D) (dR D) M Q h.1.1 h.1.2.2.1 (x_n h).2.1 (x_n h).2.2.1 hD.1.1.1 hD.1.1.2 hv
theorem bI_n1 {t N : Nat} (ht : t < 256) : bI (0 ≤ (nI t).toInt ∧ (nI t).toInt < (N : Int)) = bI (t < N) := bI_c (by rw [ni_ti (by omega)]; omega)
theorem bI_n2 {t : Nat} (ht : t < 256) : bI (0 ≤ (nI t).toInt ∧ (nI t).toInt < 48) = bI (t < 48) := bI_c (by rw [ni_ti (by omega)]; omega)
def TpT (T : Nat → Nat) (M : am_M) : Prop := ∀ j, j < 1800 → T j < 256 ∧ mI M 1 j = nI (T j)
theorem l_x_im91 (d z n : Nat) (D : Dat) (T : Nat → Nat) (M : am_M) (Q : Option Value → am_M → Prop) (hD : dOK D) (hX : XR M z D) (hT : TpT T M) (h96 : T 0 ≤ 96)
    (hQ : (∀ i, i < T 0 → rowOK (dN D) (dC D * dR D) T i) → ∀ x3 v5, am_P am_P0 (d + 1) (am_look tX10_isImage) 203 [.ref 0, .int (nI n), .int (nI (1 + 4 * T 0)), .int x3, .int (nI (1 + 4 * T 0 + 1)), v5] [] M Q) (hF : ¬ (∀ i, i < T 0 → rowOK (dN D) (dC D * dR D) T i) → Q (some (.int 0)) M) :
    ∀ (m i : Nat), i + m = T 0 → (∀ j, j < i → rowOK (dN D) (dC D * dR D) T j) → ∀ v5, am_P am_P0 (d + 1) (am_look tX10_isImage) 91 [.ref 0, .int (nI n), .int (nI (1 + 4 * T 0)), .int (lstI T i), .int (nI (1 + 4 * i)), v5] [] M Q := by
  have hz := hX.1.2.2.1
  have hL := hX.1.1
  have hr := hX.1.2.2.2.1
  have n8 := dN_8 hD
  intro m
  induction m with
  | zero =>
    intro i hi hok v5
    have e : i = T 0 := by omega
    subst e
    have hle : nI (1 + 4 * T 0) ≤ nI (1 + 4 * T 0) := (ni_le (by omega) (by omega)).mpr (Nat.le_refl _)
    have h0 := hQ hok (lstI T (T 0)) v5
    rw [hX10_isImage_91]
    simp +decide (disch := omega) only [qX10_isImage_0, qX10_isImage_1, qX10_isImage_2, qX10_isImage_3, ni_add1, am_w1_i, am_w1_r, am_w1_x, am_w1_l, am_w1_w, va_rf_s, am_push_n, am_push_s, am_cs_0, am_cs_i, am_cs_l, am_cs_r, m_uI_K, m_uI_N, m_uI_R, m_uI_L, m_uI_I, m_uL_K, m_uL_N, m_uL_R, m_uL_I, m_uL_L, m_uR_K, m_uR_N, m_uR_I, m_uR_L, m_uR_R, true_and, and_true, true_implies, false_implies, not_true_eq_false, not_false_eq_true, if_true, if_false, false_and, and_false]
    rw [br_p hle]
    exact h0
  | succ m ih =>
    intro i hi hok v5
    have hlt : ¬ nI (1 + 4 * T 0) ≤ nI (1 + 4 * i) := by rw [ni_le (by omega) (by omega)]; omega
    obtain ⟨p, hp⟩ : ∃ p, p = 1 + 4 * i := ⟨_, rfl⟩
    obtain ⟨u0, a0⟩ := hT p (by omega)
    obtain ⟨u1, a1⟩ := hT (p + 1) (by omega)
    obtain ⟨u2, a2⟩ := hT (p + 2) (by omega)
    obtain ⟨u3, a3⟩ := hT (p + 3) (by omega)
    have eS : ∀ Q, am_E am_P0 d 150 [.ref 0, .int (nI (T p))] M Q ↔ Q (some (.int (bI (T p < dN D)))) M := fun Q => by
      rw [x_isShip hD hX d _ Q, bI_n1 u0]
    have eH : ∀ Q, am_E am_P0 d 149 [.int (nI (T (p + 1)))] M Q ↔ Q (some (.int (bI (T (p + 1) < 48)))) M := fun Q => by
      rw [c_x_isHour d _ M Q, bI_n2 u1]
    have eP := fun Q => x_plcOf hD hX d (T (p + 2)) Q u2
    have eo : nI (T p) * 48 + nI (T (p + 1)) = nI (ordT T i) := by rw [show (48 : Int32) = nI 48 from rfl, ni_mul, ni_add]; unfold ordT; rw [hp]
    have o1 : ordT T i < 100000 := by unfold ordT; rw [← hp]; omega
    have o2 : ordT T (i - 1) < 100000 := by
      have v0 := (hT (1 + 4 * (i - 1)) (by omega)).1
      have v1 := (hT (1 + 4 * (i - 1) + 1) (by omega)).1
      unfold ordT; omega
    have hlst := lst_lt o1 o2
    have hno : ¬ rowOK (dN D) (dC D * dR D) T i → Q (some (.int 0)) M := fun q => hF (fun w => q (w i (by omega)))
    rw [hX10_isImage_91, ← hp]
    simp +decide (disch := omega) only [qX10_isImage_0, qX10_isImage_1, qX10_isImage_2, qX10_isImage_3, lx hL, lz hL hz, hr, a0, a1, a2, a3, eS, eH, eP, eo, bI_0, Classical.not_not, ni_in_t, ni_tn, ni_add1, ni_a2, ni_a3, ni_a4, am_w1_i, am_w1_r, am_w1_x, am_w1_l, am_w1_w, va_rf_s, am_push_n, am_push_s, am_cs_0, am_cs_i, am_cs_l, am_cs_r, m_uI_K, m_uI_N, m_uI_R, m_uI_L, m_uI_I, m_uL_K, m_uL_N, m_uL_R, m_uL_I, m_uL_L, m_uR_K, m_uR_N, m_uR_I, m_uR_L, m_uR_R, true_and, and_true, true_implies, false_implies, not_true_eq_false, not_false_eq_true, if_true, if_false, false_and, and_false]
    rw [← hp] at hlt
    rw [br_n hlt]
    by_cases r1 : T p < dN D
    · first | rw [br_p (r1)] | rw [br_r (r1)] | rw [br_s (r1)]
      by_cases r2 : T (p + 1) < 48
      · first | rw [br_p (r2)] | rw [br_r (r2)] | rw [br_s (r2)]
        by_cases r3 : T (p + 2) < dC D * dR D
        · rw [if_pos r3]
          have hne : ¬ nI (plc (dC D) (T (p + 2))) = -1 := nI_m1 (by
            have hC1 : 1 ≤ dC D := by
              rcases Nat.eq_zero_or_pos (dC D) with q | q
              · rw [q] at r3; omega
              · exact q
            have := (cel_lt hD.1.1.1 hD.1.1.2 (plc_v (R := dR D) hD.1.1.1 hC1 r3).1).2.2
            omega)
          first | rw [br_n (hne)] | rw [br_q (hne)] | rw [br_u (hne)]
          by_cases r4 : (1 : Int32) < nI (T (p + 3))
          · first | rw [br_p (r4)] | rw [br_r (r4)] | rw [br_s (r4)]
            rw [show (1 : Int32) = nI 1 from rfl, ni_lt (by omega) (by omega)] at r4
            exact hno (fun q => by have := q.2.2.2.1; rw [← hp] at this; omega)
          · first | rw [br_n (r4)] | rw [br_q (r4)] | rw [br_u (r4)]
            rw [show (1 : Int32) = nI 1 from rfl, ni_lt (by omega) (by omega)] at r4
            by_cases r5 : lstI T i < nI (ordT T i)
            · first | rw [br_p (r5)] | rw [br_r (r5)] | rw [br_s (r5)]
              have hrow : rowOK (dN D) (dC D * dR D) T i := by unfold rowOK; rw [← hp]; exact ⟨r1, r2, r3, by omega, hlst.mp r5⟩
              have h0 := ih (i + 1) (by omega) (fun j hj => by
                by_cases e : j = i
                · rw [e]; exact hrow
                · exact hok j (by omega)) (.int (nI (ordT T i)))
              have e1 : lstI T (i + 1) = nI (ordT T i) := by unfold lstI; rw [if_neg (by omega)]; rfl
              rw [e1, show 1 + 4 * (i + 1) = p + 4 by omega] at h0
              exact h0
            · first | rw [br_n (r5)] | rw [br_q (r5)] | rw [br_u (r5)]
              exact hno (fun q => r5 (hlst.mpr q.2.2.2.2))
        · rw [if_neg r3]
          simp +decide only [am_w1_i, am_w1_r, am_w1_x, am_w1_l, am_w1_w, va_rf_s, am_push_n, am_push_s, am_cs_0, am_cs_i, am_cs_l, am_cs_r, m_uI_K, m_uI_N, m_uI_R, m_uI_L, m_uI_I, m_uL_K, m_uL_N, m_uL_R, m_uL_I, m_uL_L, m_uR_K, m_uR_N, m_uR_I, m_uR_L, m_uR_R, true_and, and_true, true_implies, false_implies, not_true_eq_false, not_false_eq_true, if_true, if_false, false_and, and_false]
          exact hno (fun q => by have := q.2.2.1; rw [← hp] at this; exact r3 this)
      · first | rw [br_n (r2)] | rw [br_q (r2)] | rw [br_u (r2)]
        exact hno (fun q => by have := q.2.1; rw [← hp] at this; exact r2 this)
    · first | rw [br_n (r1)] | rw [br_q (r1)] | rw [br_u (r1)]
      exact hno (fun q => by have := q.1; rw [← hp] at this; exact r1 this)
theorem pl_n1 {D : Dat} (hD : dOK D) {c : Nat} (h : c < dC D * dR D) : 1 ≤ dC D ∧ vld (dC D) (dR D) (plc (dC D) c) ∧ cel (dC D) (plc (dC D) c) = c ∧ plc (dC D) c < 256 ∧ ¬ nI (plc (dC D) c) = -1 := by
  have hC1 : 1 ≤ dC D := by
    rcases Nat.eq_zero_or_pos (dC D) with q | q
    · rw [q] at h; omega
    · exact q
  have h1 := plc_v (R := dR D) hD.1.1.1 hC1 h
  have h2 := (cel_lt hD.1.1.1 hD.1.1.2 h1.1).2.2
  exact ⟨hC1, h1.1, h1.2, h2, nI_m1 (by omega)⟩
theorem l_x_im203 (d z n k : Nat) (D : Dat) (T : Nat → Nat) (M : am_M) (Q : Option Value → am_M → Prop) (hD : dOK D) (hX : XR M z D) (hT : TpT T M) (hk : k ≤ 385) (h40 : T k ≤ 40) (hn : n = k + 2 + 3 * T k) (x3 : Int32) (v5 : Value)
    (hQ : (∀ j, j < T k → sgrOK (dC D * dR D) T k j) → Q (some (.int 1)) M) (hF : ¬ (∀ j, j < T k → sgrOK (dC D * dR D) T k j) → Q (some (.int 0)) M) :
    ∀ (m j : Nat), j + m = T k → (∀ i, i < j → sgrOK (dC D * dR D) T k i) → am_P am_P0 (d + 1) (am_look tX10_isImage) 203 [.ref 0, .int (nI n), .int (nI k), .int x3, .int (nI (k + 1 + 3 * j)), v5] [] M Q := by
  have hz := hX.1.2.2.1
  have hL := hX.1.1
  have hr := hX.1.2.2.2.1
  have em : nI n - 1 = nI (n - 1) := ni_m1 (by omega)
  intro m
  induction m with
  | zero =>
    intro j hj hok
    have hle : nI (n - 1) ≤ nI (k + 1 + 3 * j) := (ni_le (by omega) (by omega)).mpr (by omega)
    have e : j = T k := by omega
    subst e
    have h0 := hQ hok
    rw [hX10_isImage_203]
    simp +decide (disch := omega) only [qX10_isImage_0, qX10_isImage_1, qX10_isImage_2, qX10_isImage_3, em, am_w1_i, am_w1_r, am_w1_x, am_w1_l, am_w1_w, va_rf_s, am_push_n, am_push_s, am_cs_0, am_cs_i, am_cs_l, am_cs_r, m_uI_K, m_uI_N, m_uI_R, m_uI_L, m_uI_I, m_uL_K, m_uL_N, m_uL_R, m_uL_I, m_uL_L, m_uR_K, m_uR_N, m_uR_I, m_uR_L, m_uR_R, true_and, and_true, true_implies, false_implies, not_true_eq_false, not_false_eq_true, if_true, if_false, false_and, and_false]
    rw [br_p hle]
    exact h0
  | succ m ih =>
    intro j hj hok
    have hlt : ¬ nI (n - 1) ≤ nI (k + 1 + 3 * j) := by rw [ni_le (by omega) (by omega)]; omega
    obtain ⟨p, hp⟩ : ∃ p, p = k + 1 + 3 * j := ⟨_, rfl⟩
    obtain ⟨u0, a0⟩ := hT p (by omega)
    obtain ⟨u1, a1⟩ := hT (p + 1) (by omega)
    obtain ⟨u2, a2⟩ := hT (p + 2) (by omega)
    have eH : ∀ Q, am_E am_P0 d 149 [.int (nI (T (p + 2)))] M Q ↔ Q (some (.int (bI (T (p + 2) < 48)))) M := fun Q => by
      rw [c_x_isHour d _ M Q, bI_n2 u2]
    have eP := fun Q => x_plcOf hD hX d (T (p + 1)) Q u1
    have hno : ¬ sgrOK (dC D * dR D) T k j → Q (some (.int 0)) M := fun q => hF (fun w => q (w j (by omega)))
    rw [hX10_isImage_203, ← hp]
    simp +decide (disch := omega) only [qX10_isImage_0, qX10_isImage_1, qX10_isImage_2, qX10_isImage_3, lx hL, lz hL hz, hr, em, a0, a1, a2, eH, eP, bI_0, Classical.not_not, ni_in_t, ni_tn, ni_add1, ni_a2, ni_a3, am_w1_i, am_w1_r, am_w1_x, am_w1_l, am_w1_w, va_rf_s, am_push_n, am_push_s, am_cs_0, am_cs_i, am_cs_l, am_cs_r, m_uI_K, m_uI_N, m_uI_R, m_uI_L, m_uI_I, m_uL_K, m_uL_N, m_uL_R, m_uL_I, m_uL_L, m_uR_K, m_uR_N, m_uR_I, m_uR_L, m_uR_R, true_and, and_true, true_implies, false_implies, not_true_eq_false, not_false_eq_true, if_true, if_false, false_and, and_false]
    rw [← hp] at hlt
    rw [br_n hlt]
    by_cases r1 : (4 : Int32) ≤ nI (T p)
    · first | rw [br_p (r1)] | rw [br_r (r1)] | rw [br_s (r1)]
      rw [show (4 : Int32) = nI 4 from rfl, ni_le (by omega) (by omega)] at r1
      exact hno (fun q => by have := q.1; rw [← hp] at this; omega)
    · first | rw [br_n (r1)] | rw [br_q (r1)] | rw [br_u (r1)]
      rw [show (4 : Int32) = nI 4 from rfl, ni_le (by omega) (by omega)] at r1
      by_cases r3 : T (p + 1) < dC D * dR D
      · rw [if_pos r3]
        have hne := (pl_n1 hD r3).2.2.2.2
        first | rw [br_n (hne)] | rw [br_q (hne)] | rw [br_u (hne)]
        by_cases r2 : T (p + 2) < 48
        · first | rw [br_p (r2)] | rw [br_r (r2)] | rw [br_s (r2)]
          have h0 := ih (j + 1) (by omega) (fun i hi => by
            by_cases e : i = j
            · rw [e]; unfold sgrOK; rw [← hp]; exact ⟨by omega, r3, r2⟩
            · exact hok i (by omega))
          rw [show k + 1 + 3 * (j + 1) = p + 3 by omega] at h0
          exact h0
        · first | rw [br_n (r2)] | rw [br_q (r2)] | rw [br_u (r2)]
          exact hno (fun q => by have := q.2.2; rw [← hp] at this; exact r2 this)
      · rw [if_neg r3]
        simp +decide only [am_w1_i, am_w1_r, am_w1_x, am_w1_l, am_w1_w, va_rf_s, am_push_n, am_push_s, am_cs_0, am_cs_i, am_cs_l, am_cs_r, m_uI_K, m_uI_N, m_uI_R, m_uI_L, m_uI_I, m_uL_K, m_uL_N, m_uL_R, m_uL_I, m_uL_L, m_uR_K, m_uR_N, m_uR_I, m_uR_L, m_uR_R, true_and, and_true, true_implies, false_implies, not_true_eq_false, not_false_eq_true, if_true, if_false, false_and, and_false]
        exact hno (fun q => by have := q.2.1; rw [← hp] at this; exact r3 this)
theorem c_x_isImage (d z n : Nat) (D : Dat) (T : Nat → Nat) (M : am_M) (Q : Option Value → am_M → Prop) (hD : dOK D) (hX : XR M z D) (hT : TpT T M) (hn : n ≤ 1800)
    (hY : imOK (dN D) (dC D * dR D) T n → Q (some (.int 1)) M) (hN : ¬ imOK (dN D) (dC D * dR D) T n → Q (some (.int 0)) M) : am_E am_P0 (d + 1) 164 [.ref 0, .int (nI n)] M Q := by
  have hL := hX.1.1
  obtain ⟨u0, a0⟩ := hT 0 (by omega)
  have hin : (0 : Int32).toInt.toNat = 0 := rfl
  obtain ⟨k, hk⟩ : ∃ k, k = 1 + 4 * T 0 := ⟨_, rfl⟩
  have ek : (1 : Int32) + 4 * nI (T 0) = nI k := by rw [show (1 : Int32) = nI 1 from rfl, show (4 : Int32) = nI 4 from rfl, ni_mul, ni_add, hk]
  obtain ⟨uk, ak⟩ := hT k (by omega)
  have e3 : nI k + 1 + 3 * nI (T k) + 1 = nI (k + 2 + 3 * T k) := by rw [show (1 : Int32) = nI 1 from rfl, show (3 : Int32) = nI 3 from rfl, ni_mul, ni_add, ni_add, ni_add]; congr 1; omega
  rw [eX10_isImage]
  simp +decide (disch := omega) only [qX10_isImage_0, qX10_isImage_1, qX10_isImage_2, qX10_isImage_3, lx hL, a0, ek, ak, hin, ni_in_t, ni_tn, am_w1_i, am_w1_r, am_w1_x, am_w1_l, am_w1_w, va_rf_s, am_push_n, am_push_s, am_cs_0, am_cs_i, am_cs_l, am_cs_r, m_uI_K, m_uI_N, m_uI_R, m_uI_L, m_uI_I, m_uL_K, m_uL_N, m_uL_R, m_uL_I, m_uL_L, m_uR_K, m_uR_N, m_uR_I, m_uR_L, m_uR_R, true_and, and_true, true_implies, false_implies, not_true_eq_false, not_false_eq_true, if_true, if_false, false_and, and_false]
  by_cases b1 : nI n < 3
  · first | rw [br_p (b1)] | rw [br_r (b1)] | rw [br_s (b1)]
    rw [show (3 : Int32) = nI 3 from rfl, ni_lt (by omega) (by omega)] at b1
    exact hN (fun q => by have := q.1.1; omega)
  · first | rw [br_n (b1)] | rw [br_q (b1)] | rw [br_u (b1)]
    rw [show (3 : Int32) = nI 3 from rfl, ni_lt (by omega) (by omega)] at b1
    by_cases b2 : nI (T 0) ≤ 96
    · first | rw [br_p (b2)] | rw [br_r (b2)] | rw [br_s (b2)]
      rw [show (96 : Int32) = nI 96 from rfl, ni_le (by omega) (by omega)] at b2
      by_cases b3 : nI n ≤ nI k
      · first | rw [br_p (b3)] | rw [br_r (b3)] | rw [br_s (b3)]
        rw [ni_le (by omega) (by omega)] at b3
        exact hN (fun q => by have := q.2.1.1; omega)
      · first | rw [br_n (b3)] | rw [br_q (b3)] | rw [br_u (b3)]
        rw [ni_le (by omega) (by omega)] at b3
        by_cases b4 : (40 : Int32) < nI (T k)
        · first | rw [br_p (b4)] | rw [br_r (b4)] | rw [br_s (b4)]
          rw [show (40 : Int32) = nI 40 from rfl, ni_lt (by omega) (by omega)] at b4
          exact hN (fun q => by have := q.2.1.2.1; rw [← hk] at this; omega)
        · first | rw [br_n (b4)] | rw [br_q (b4)] | rw [br_u (b4)]
          rw [show (40 : Int32) = nI 40 from rfl, ni_lt (by omega) (by omega)] at b4
          have em : nI n - 1 = nI (n - 1) := ni_m1 (by omega)
          obtain ⟨ue, ae⟩ := hT (n - 1) (by omega)
          have eK := fun Q => c_x_check d 1 (n - 1) 1800 (tpL T (n - 1)) M Q (by simp only [lx hL]) (by simp only [lx hL]) (by omega) (by omega) (tpL_len T (n - 1)) (fun j v hv => by
            obtain ⟨q1, q2⟩ := tpL_at hv
            rw [q2]; exact hT j (by omega))
          have ck241 := ckS_lt (tpL T (n - 1)) 29 (by omega)
          simp +decide (disch := omega) only [qX10_isImage_0, qX10_isImage_1, qX10_isImage_2, qX10_isImage_3, lx hL, e3, em, ae, eK, Classical.not_not, ni_in_t, ni_tn, am_w1_i, am_w1_r, am_w1_x, am_w1_l, am_w1_w, va_rf_s, am_push_n, am_push_s, am_cs_0, am_cs_i, am_cs_l, am_cs_r, m_uI_K, m_uI_N, m_uI_R, m_uI_L, m_uI_I, m_uL_K, m_uL_N, m_uL_R, m_uL_I, m_uL_L, m_uR_K, m_uR_N, m_uR_I, m_uR_L, m_uR_R, true_and, and_true, true_implies, false_implies, not_true_eq_false, not_false_eq_true, if_true, if_false, false_and, and_false]
          by_cases b5 : nI n = nI (k + 2 + 3 * T k)
          · first | rw [br_p (b5)] | rw [br_r (b5)] | rw [br_s (b5)]
            rw [ni_eq (by omega) (by omega)] at b5
            by_cases b6 : nI (T (n - 1)) = nI (ckS (tpL T (n - 1)) 29)
            · first | rw [br_p (b6)] | rw [br_r (b6)] | rw [br_s (b6)]
              rw [ni_eq (by omega) (by omega)] at b6
              have h0 := l_x_im91 d z n D T M Q hD hX hT b2 (fun hrows x3 v5 => by
                rw [← hk]
                exact l_x_im203 d z n k D T M Q hD hX hT (by omega) (by omega) b5 x3 v5 (fun hsg => hY (by unfold imOK; rw [← hk]; exact ⟨⟨by omega, b2⟩, ⟨by omega, by omega, b5⟩, b6, hrows, hsg⟩)) (fun hsg => hN (fun q => hsg (by have := q.2.2.2.2; rw [← hk] at this; exact this))) (T k) 0 (by omega) (fun i hi => by omega)) (fun hrows => hN (fun q => hrows q.2.2.2.1)) (T 0) 0 (by omega) (fun j hj => by omega) am_x
              rw [← hk] at h0
              exact h0
            · first | rw [br_n (b6)] | rw [br_q (b6)] | rw [br_u (b6)]
              rw [ni_eq (by omega) (by omega)] at b6
              exact hN (fun q => b6 q.2.2.1)
          · first | rw [br_n (b5)] | rw [br_q (b5)] | rw [br_u (b5)]
            rw [ni_eq (by omega) (by omega)] at b5
            exact hN (fun q => b5 (by have := q.2.1.2.2; rw [← hk] at this; exact this))
    · first | rw [br_n (b2)] | rw [br_q (b2)] | rw [br_u (b2)]
      rw [show (96 : Int32) = nI 96 from rfl, ni_le (by omega) (by omega)] at b2
      exact hN (fun q => b2 q.1.2)
end
section
/-! on: what an image tells -/
def onR (C : Nat) (T : Nat → Nat) (i : Nat) : Sy := (T (1 + 4 * i + 1), plc C (T (1 + 4 * i + 2)), T (1 + 4 * i + 3) == 1)
def onY (C : Nat) (T : Nat → Nat) : Nat → Nat → List Sy
  | 0, _ => []
  | i + 1, s => if T (1 + 4 * i) = s then inY (onY C T i s) (onR C T i) else onY C T i s
def onG (C : Nat) (T : Nat → Nat) (k : Nat) : Nat → List (Nat × Nat × Nat)
  | 0 => []
  | j + 1 => onG C T k j ++ [(T (k + 1 + 3 * j), plc C (T (k + 1 + 3 * j + 1)), T (k + 1 + 3 * j + 2))]
theorem onY_t {C : Nat} {T : Nat → Nat} {i s : Nat} (h : T (1 + 4 * i) = s) : onY C T (i + 1) s = inY (onY C T i s) (onR C T i) := by
  show (if T (1 + 4 * i) = s then _ else _) = _
  rw [if_pos h]
theorem onY_f {C : Nat} {T : Nat → Nat} {i s : Nat} (h : ¬ T (1 + 4 * i) = s) : onY C T (i + 1) s = onY C T i s := by
  show (if T (1 + 4 * i) = s then _ else _) = _
  rw [if_neg h]
theorem onY_mem {C : Nat} {T : Nat → Nat} {s : Nat} : ∀ (i : Nat) (y : Sy), y ∈ onY C T i s → ∃ j, j < i ∧ T (1 + 4 * j) = s ∧ y = onR C T j := by
  intro i
  induction i with
  | zero => intro y hy; cases hy
  | succ i ih =>
    intro y hy
    by_cases c : T (1 + 4 * i) = s
    · rw [onY_t c] at hy
      rcases inY_mem.mp hy with q | q
      · exact ⟨i, by omega, c, q⟩
      · obtain ⟨j, h1, h2⟩ := ih y q
        exact ⟨j, by omega, h2⟩
    · rw [onY_f c] at hy
      obtain ⟨j, h1, h2⟩ := ih y hy
      exact ⟨j, by omega, h2⟩
theorem ord_mono {N CR n : Nat} {T : Nat → Nat} (h : ∀ i, i < n → rowOK N CR T i) : ∀ (i j : Nat), j < i → i < n → ordT T j < ordT T i := by
  intro i
  induction i with
  | zero => intro j hj; omega
  | succ i ih =>
    intro j hj hi
    have h1 := (h (i + 1) hi).2.2.2.2
    have h2 : ordT T i < ordT T (i + 1) := by
      rcases h1 with q | q
      · omega
      · exact q
    by_cases e : j = i
    · rw [e]; exact h2
    · have := ih j (by omega) (by omega); omega
theorem onY_no {N CR n C : Nat} {T : Nat → Nat} (h : ∀ i, i < n → rowOK N CR T i) {i : Nat} (hi : i < n) : ∀ y, y ∈ onY C T i (T (1 + 4 * i)) → ¬ y.1 = (onR C T i).1 := by
  intro y hy q
  obtain ⟨j, h1, h2, h3⟩ := onY_mem i y hy
  have := ord_mono h i j h1 hi
  subst h3
  have e1 : (onR C T j).1 = T (1 + 4 * j + 1) := rfl
  have e2 : (onR C T i).1 = T (1 + 4 * i + 1) := rfl
  rw [e1, e2] at q
  unfold ordT at this
  rw [h2, q] at this
  omega
theorem onY_srt {N CR n C : Nat} {T : Nat → Nat} (h : ∀ i, i < n → rowOK N CR T i) (s : Nat) : ∀ (i : Nat), i ≤ n → srtY (onY C T i s) := by
  intro i
  induction i with
  | zero => intro _; exact List.Pairwise.nil
  | succ i ih =>
    intro hi
    by_cases c : T (1 + 4 * i) = s
    · rw [onY_t c]
      exact inY_srt (ih (by omega)) (by rw [← c]; exact onY_no h (by omega))
    · rw [onY_f c]; exact ih (by omega)
theorem onY_ok {n : Nat} {D : Dat} {T : Nat → Nat} (hD : dOK D) (h : ∀ i, i < n → rowOK (dN D) (dC D * dR D) T i) {i s : Nat} (hi : i ≤ n) : ∀ y, y ∈ onY (dC D) T i s → y.1 < 48 ∧ vld (dC D) (dR D) y.2.1 := by
  intro y hy
  obtain ⟨j, h1, h2, h3⟩ := onY_mem i y hy
  have hr := h j (by omega)
  subst h3
  exact ⟨hr.2.1, (pl_n1 hD hr.2.2.1).2.1⟩
theorem onY_out {N CR n C : Nat} {T : Nat → Nat} (h : ∀ i, i < n → rowOK N CR T i) {s : Nat} (hs : N ≤ s) : ∀ (i : Nat), i ≤ n → onY C T i s = [] := by
  intro i
  induction i with
  | zero => intro _; rfl
  | succ i ih =>
    intro hi
    have := (h i (by omega)).1
    rw [onY_f (by omega)]
    exact ih (by omega)
theorem sumF_0 (N : Nat) : sumF (fun _ => 0) N = 0 := by
  induction N with
  | zero => rfl
  | succ N ih => show sumF _ N + 0 = 0; rw [ih]
theorem onY_tot {N CR n C : Nat} {T : Nat → Nat} (h : ∀ i, i < n → rowOK N CR T i) : ∀ (i : Nat), i ≤ n → sumF (fun s => (onY C T i s).length) N = i := by
  intro i
  induction i with
  | zero => intro _; exact sumF_0 N
  | succ i ih =>
    intro hi
    have hN := (h i (by omega)).1
    have := sumF_one (f := fun s => (onY C T i s).length) (g := fun s => (onY C T (i + 1) s).length) (s := T (1 + 4 * i)) (by rw [onY_t rfl, inY_len]) (fun s hs => by rw [onY_f (fun q => hs q.symm)]) N
    rw [this, ih (by omega), if_pos hN]
theorem onG_len (C : Nat) (T : Nat → Nat) (k : Nat) : ∀ j, (onG C T k j).length = j := by
  intro j
  induction j with
  | zero => rfl
  | succ j ih => show (onG C T k j ++ [_]).length = j + 1; rw [List.length_append, ih]; rfl
theorem onG_ok {D : Dat} {T : Nat → Nat} {k n : Nat} (hD : dOK D) (h : ∀ j, j < n → sgrOK (dC D * dR D) T k j) : ∀ j, j ≤ n → ∀ g, g ∈ onG (dC D) T k j → g.1 ≤ 3 ∧ vld (dC D) (dR D) g.2.1 ∧ g.2.2 < 48 := by
  intro j
  induction j with
  | zero => intro _ g hg; cases hg
  | succ j ih =>
    intro hj g hg
    have hg' : g ∈ onG (dC D) T k j ++ [(T (k + 1 + 3 * j), plc (dC D) (T (k + 1 + 3 * j + 1)), T (k + 1 + 3 * j + 2))] := hg
    rcases List.mem_append.mp hg' with q | q
    · exact ih (by omega) g q
    · rw [List.mem_singleton] at q
      subst q
      have := h j (by omega)
      exact ⟨this.1, (pl_n1 hD this.2.1).2.1, this.2.2⟩
abbrev datOn (D : Dat) (T : Nat → Nat) : Dat := datY D ((List.range (dN D)).map (onY (dC D) T (T 0))) (onG (dC D) T (1 + 4 * T 0) (T (1 + 4 * T 0)))
theorem dY_on {D : Dat} {T : Nat → Nat} (h : ∀ i, i < T 0 → rowOK (dN D) (dC D * dR D) T i) (s : Nat) : dY (datOn D T) s = onY (dC D) T (T 0) s := by
  show ((List.range (dN D)).map (onY (dC D) T (T 0))).getD s [] = _
  rw [List.getD_eq_getElem?_getD, List.getElem?_map]
  by_cases c : s < dN D
  · rw [List.getElem?_range c]; rfl
  · rw [List.getElem?_eq_none (by rw [List.length_range]; omega), onY_out h (by omega) (T 0) (Nat.le_refl _)]; rfl
theorem tot_on {D : Dat} {T : Nat → Nat} (h : ∀ i, i < T 0 → rowOK (dN D) (dC D * dR D) T i) : dTot (datOn D T) = T 0 := by
  unfold dTot
  rw [sumF_ext (g := fun s => (onY (dC D) T (T 0) s).length) _ (fun i _ => by rw [dY_on h])]
  exact onY_tot h (T 0) (Nat.le_refl _)
theorem dOK_on {D : Dat} {T : Nat → Nat} {n : Nat} (hD : dOK D) (h : imOK (dN D) (dC D * dR D) T n) : dOK (datOn D T) := by
  obtain ⟨⟨o1, o2, ⟨o3, o3', o3''⟩, o4, o5, o6, o7, ⟨o8, o9⟩, o10⟩, hs⟩ := id hD
  obtain ⟨⟨h1, h2⟩, ⟨h3, h4, h5⟩, h6, h7, h8⟩ := h
  refine ⟨⟨o1, o2, ⟨o3, ?_, o3''⟩, fun s y hy => ?_, fun s => ?_, ?_, o7, ⟨?_, fun g hg => ?_⟩, o10⟩, ?_⟩
  · show ((List.range (dN D)).map _).length = (dSh D).length
    rw [List.length_map, List.length_range]
  · rw [dY_on h7] at hy
    exact onY_ok hD h7 (Nat.le_refl _) y hy
  · rw [dY_on h7]
    exact onY_srt h7 s _ (Nat.le_refl _)
  · rw [tot_on h7]; exact h2
  · show (onG _ _ _ _).length ≤ 40
    rw [onG_len]; exact h4
  · exact onG_ok hD h8 _ (Nat.le_refl _) g hg
  · rcases hs with q | q
    · exact Or.inl q
    · refine Or.inr ⟨q.1, q.2.1, q.2.2.1, ?_⟩
      show onG (dC D) T (1 + 4 * T 0) (T (1 + 4 * T 0)) = []
      have hT0 : T (1 + 4 * T 0) = 0 := by
        apply Classical.byContradiction
        intro w
        have := (h8 0 (by omega)).2.1
        rw [q.1, Nat.zero_mul] at this
        omega
      rw [hT0]; rfl
theorem SgX_app {M : am_M} {z a p t : Nat} {L : List (Nat × Nat × Nat)} (h : SgX M z L) : SgX (spX M z L.length (nI a) (nI p) (nI t)) z (L ++ [(a, p, t)]) := by
  refine ⟨by rw [m_uI_I, if_pos ⟨rfl, rfl⟩, List.length_append]; rfl, fun i g hi => ?_⟩
  by_cases e : i < L.length
  · rw [List.getElem?_append_left e] at hi
    obtain ⟨q1, q2, q3⟩ := h.2 i g hi
    refine ⟨?_, ?_, ?_⟩
    · rw [m_uI_I, if_neg (by omega), m_uI_I, if_neg (by omega), m_uI_I, if_neg (by omega), m_uI_I, if_neg (by omega)]; exact q1
    · rw [m_uI_I, if_neg (by omega), m_uI_I, if_neg (by omega), m_uI_I, if_neg (by omega), m_uI_I, if_neg (by omega)]; exact q2
    · rw [m_uI_I, if_neg (by omega), m_uI_I, if_neg (by omega), m_uI_I, if_neg (by omega), m_uI_I, if_neg (by omega)]; exact q3
  · rw [List.getElem?_append_right (by omega)] at hi
    have hl := (List.getElem?_eq_some_iff.mp hi).1
    have e1 : ([(a, p, t)] : List (Nat × Nat × Nat)).length = 1 := rfl
    have e2 : i = L.length := by omega
    subst e2
    rw [Nat.sub_self] at hi
    cases hi
    refine ⟨?_, ?_, ?_⟩
    · rw [m_uI_I, if_neg (by omega), m_uI_I, if_neg (by omega), m_uI_I, if_neg (by omega), m_uI_I, if_pos ⟨rfl, rfl⟩]
    · rw [m_uI_I, if_neg (by omega), m_uI_I, if_neg (by omega), m_uI_I, if_pos ⟨rfl, rfl⟩]
    · rw [m_uI_I, if_neg (by omega), m_uI_I, if_pos ⟨rfl, rfl⟩]
theorem SgM_app {M : am_M} {b C a p t : Nat} {L : List (Nat × Nat × Nat)} (h : SgM M b C L) : SgM (spM M b L.length (nI a) (nI (cel C p)) (nI t)) b C (L ++ [(a, p, t)]) := by
  refine ⟨by rw [m_uI_I, if_pos ⟨rfl, rfl⟩, List.length_append]; rfl, fun i g hi => ?_⟩
  by_cases e : i < L.length
  · rw [List.getElem?_append_left e] at hi
    obtain ⟨q1, q2, q3⟩ := h.2 i g hi
    refine ⟨?_, ?_, ?_⟩
    · rw [m_uI_I, if_neg (by omega), m_uI_I, if_neg (by omega), m_uI_I, if_neg (by omega), m_uI_I, if_neg (by omega)]; exact q1
    · rw [m_uI_I, if_neg (by omega), m_uI_I, if_neg (by omega), m_uI_I, if_neg (by omega), m_uI_I, if_neg (by omega)]; exact q2
    · rw [m_uI_I, if_neg (by omega), m_uI_I, if_neg (by omega), m_uI_I, if_neg (by omega), m_uI_I, if_neg (by omega)]; exact q3
  · rw [List.getElem?_append_right (by omega)] at hi
    have hl := (List.getElem?_eq_some_iff.mp hi).1
    have e1 : ([(a, p, t)] : List (Nat × Nat × Nat)).length = 1 := rfl
    have e2 : i = L.length := by omega
    subst e2
    rw [Nat.sub_self] at hi
    cases hi
    refine ⟨?_, ?_, ?_⟩
    · rw [m_uI_I, if_neg (by omega), m_uI_I, if_neg (by omega), m_uI_I, if_neg (by omega), m_uI_I, if_pos ⟨rfl, rfl⟩]
    · rw [m_uI_I, if_neg (by omega), m_uI_I, if_neg (by omega), m_uI_I, if_pos ⟨rfl, rfl⟩]
    · rw [m_uI_I, if_neg (by omega), m_uI_I, if_pos ⟨rfl, rfl⟩]
end
section
/-! on: the class takes an image -/
def sTi (z a j : Nat) : Prop := (z + 2 ≤ a ∧ a ≤ z + 5) ∨ ∃ s, s < 8 ∧ sIn (z + 25 + 7 * s) a j
theorem sTi_no {z a j : Nat} (h : sTi z a j) : z + 2 ≤ a ∧ a ≤ z + 80 ∧ ¬ (z + 6 ≤ a ∧ a ≤ z + 24) := by
  rcases h with q | ⟨s, hs, q⟩
  · omega
  · unfold sIn at q; omega
theorem gF_in {z s : Nat} {M M' : am_M} (hs : s < 8) (g : gF (sIn (z + 25 + 7 * s)) nT M M') : gF (sTi z) nT M M' := gF_up g (fun a j q => Or.inr ⟨s, hs, q⟩) (fun _ _ q => q)
theorem gF_sg {z : Nat} {M M' : am_M} (g : gF (fun a j => z + 2 ≤ a ∧ a ≤ z + 5) nT M M') : gF (sTi z) nT M M' := gF_up g (fun a j q => Or.inl q) (fun _ _ q => q)
/-- what is read while an image is taken -/
def TiR (M : am_M) (z : Nat) (D : Dat) (T : Nat → Nat) : Prop := Lay M ∧ mR M 0 2 = some z ∧ mI M z 0 = nI (dC D) ∧ mI M z 1 = nI (dR D) ∧ mI M z 3 = nI (dN D) ∧ TpT T M
theorem TiR_g {M M' : am_M} {z : Nat} {D : Dat} {T : Nat → Nat} (hz : z = 2 ∨ z = 83) (h : TiR M z D T) (g : gF (sTi z) nT M M') : TiR M' z D T := by
  obtain ⟨h1, h2, h3, h4, h5, h6⟩ := h
  have k : ∀ a j, ¬ (z + 2 ≤ a ∧ a ≤ z + 80) → mI M' a j = mI M a j := fun a j q => g.1 a j (fun w => by have := sTi_no w; omega)
  exact ⟨gF_LayN g h1, by rw [g.2.2.1 _ _ (fun w => w)]; exact h2, by rw [k _ _ (by omega)]; exact h3, by rw [k _ _ (by omega)]; exact h4, by rw [k _ _ (by omega)]; exact h5, fun j hj => ⟨(h6 j hj).1, by rw [k _ _ (by omega)]; exact (h6 j hj).2⟩⟩
theorem l_x_ti2 (d z : Nat) (D : Dat) (T : Nat → Nat) (M0 : am_M) (Q : Option Value → am_M → Prop) (hD : dOK D) (hz : z = 2 ∨ z = 83) (hR0 : TiR M0 z D T) (h96 : T 0 ≤ 96)
    (hQ : ∀ M', gF (sTi z) nT M0 M' → (∀ t, t < dN D → mI M' (z + 25 + 7 * t) 5 = 0) → am_P am_P0 (d + 1) (am_look tX10_takeImage) 45 [.ref 0, .int (nI (1 + 4 * T 0)), .int (nI 1), am_x] [] M' Q) :
    ∀ (m s : Nat), s + m = dN D → ∀ (M : am_M), gF (sTi z) nT M0 M → (∀ t, t < s → mI M (z + 25 + 7 * t) 5 = 0) → am_P am_P0 (d + 1) (am_look tX10_takeImage) 2 [.ref 0, .int (nI s), am_x, am_x] [] M Q := by
  have n8 := dN_8 hD
  intro m
  induction m with
  | zero =>
    intro s hs M g h5
    obtain ⟨hL, r2, c0, c1, c3, hT⟩ := TiR_g hz hR0 g
    have e : s = dN D := by omega
    subst e
    have hle : nI (dN D) ≤ nI (dN D) := (ni_le (by omega) (by omega)).mpr (Nat.le_refl _)
    have h0 := hQ M g h5
    obtain ⟨u0, a0⟩ := hT 0 (by omega)
    have hin : (0 : Int32).toInt.toNat = 0 := rfl
    have ek : (1 : Int32) + 4 * nI (T 0) = nI (1 + 4 * T 0) := by rw [show (1 : Int32) = nI 1 from rfl, show (4 : Int32) = nI 4 from rfl, ni_mul, ni_add]
    rw [hX10_takeImage_2]
    simp +decide (disch := omega) only [qX10_takeImage_0, qX10_takeImage_1, qX10_takeImage_2, lx hL, lz hL hz, r2, c3, a0, ek, hin, ni_in_t, ni_tn, am_w1_i, am_w1_r, am_w1_x, am_w1_l, am_w1_w, va_rf_s, am_push_n, am_push_s, am_cs_0, am_cs_i, am_cs_l, am_cs_r, m_uI_K, m_uI_N, m_uI_R, m_uI_L, m_uI_I, m_uL_K, m_uL_N, m_uL_R, m_uL_I, m_uL_L, m_uR_K, m_uR_N, m_uR_I, m_uR_L, m_uR_R, true_and, and_true, true_implies, false_implies, not_true_eq_false, not_false_eq_true, if_true, if_false, false_and, and_false]
    rw [br_p hle]
    exact h0
  | succ m ih =>
    intro s hs M g h5
    obtain ⟨hL, r2, c0, c1, c3, hT⟩ := TiR_g hz hR0 g
    have hlt : ¬ nI (dN D) ≤ nI s := by rw [ni_le (by omega) (by omega)]; omega
    have hsh := lsh hL hz (s := s) (by omega)
    have hg := isSh_z (z := z) (s := s) hz (by omega)
    have h0 := ih (s + 1) (by omega) (uI M (z + 25 + 7 * s) 5 0) (gF_trans g (gF_in (s := s) (by omega) (gF_i _ (Or.inl ⟨rfl, rfl⟩)))) (fun t ht => by
      by_cases e : t = s
      · rw [e, m_uI_I, if_pos ⟨rfl, rfl⟩]
      · rw [m_uI_I, if_neg (by omega)]; exact h5 t (by omega))
    rw [hX10_takeImage_2]
    simp +decide (disch := omega) only [qX10_takeImage_0, qX10_takeImage_1, qX10_takeImage_2, lx hL, lz hL hz, lw_ hL hg, r2, c3, hsh, ni_in_t, ni_tn, ni_add1, am_w1_i, am_w1_r, am_w1_x, am_w1_l, am_w1_w, va_rf_s, am_push_n, am_push_s, am_cs_0, am_cs_i, am_cs_l, am_cs_r, m_uI_K, m_uI_N, m_uI_R, m_uI_L, m_uI_I, m_uL_K, m_uL_N, m_uL_R, m_uL_I, m_uL_L, m_uR_K, m_uR_N, m_uR_I, m_uR_L, m_uR_R, true_and, and_true, true_implies, false_implies, not_true_eq_false, not_false_eq_true, if_true, if_false, false_and, and_false]
    rw [br_n hlt]
    exact h0
theorem l_x_ti45 (d z : Nat) (D : Dat) (T : Nat → Nat) (M0 : am_M) (Q : Option Value → am_M → Prop) (hD : dOK D) (hz : z = 2 ∨ z = 83) (hR0 : TiR M0 z D T) (h96 : T 0 ≤ 96) (hrow : ∀ i, i < T 0 → rowOK (dN D) (dC D * dR D) T i) (h40 : T (1 + 4 * T 0) ≤ 40)
    (hQ : ∀ M', gF (sTi z) nT M0 M' → (∀ t, t < dN D → SyX M' (z + 25 + 7 * t) (onY (dC D) T (T 0) t)) → mI M' (z + 2) 0 = 0 → am_P am_P0 (d + 1) (am_look tX10_takeImage) 142 [.ref 0, .int (nI (1 + 4 * T 0)), .int (nI (1 + 4 * T 0 + 1 + 3 * T (1 + 4 * T 0))), .int (nI (1 + 4 * T 0 + 1))] [] M' Q) :
    ∀ (m i : Nat), i + m = T 0 → ∀ (M : am_M), gF (sTi z) nT M0 M → (∀ t, t < dN D → SyX M (z + 25 + 7 * t) (onY (dC D) T i t)) → am_P am_P0 (d + 1) (am_look tX10_takeImage) 45 [.ref 0, .int (nI (1 + 4 * T 0)), .int (nI (1 + 4 * i)), am_x] [] M Q := by
  have n8 := dN_8 hD
  intro m
  induction m with
  | zero =>
    intro i hi M g hY
    obtain ⟨hL, r2, c0, c1, c3, hT⟩ := TiR_g hz hR0 g
    have e : i = T 0 := by omega
    subst e
    obtain ⟨k, hk⟩ : ∃ k, k = 1 + 4 * T 0 := ⟨_, rfl⟩
    rw [← hk] at hQ h40 ⊢
    obtain ⟨uk, ak⟩ := hT k (by omega)
    have hle : nI k ≤ nI k := (ni_le (by omega) (by omega)).mpr (Nat.le_refl _)
    have g2 : gF (fun a j => z + 2 ≤ a ∧ a ≤ z + 5) nT M (uI M (z + 2) 0 0) := gF_i _ (by omega)
    have h0 := hQ (uI M (z + 2) 0 0) (gF_trans g (gF_sg g2)) (fun t ht => SyX_gF (hY t ht) g2 (fun a j q1 q2 q3 => by omega)) (by rw [m_uI_I, if_pos ⟨rfl, rfl⟩])
    have e3 : nI (k + 1) + 3 * nI (T k) = nI (k + 1 + 3 * T k) := by rw [show (3 : Int32) = nI 3 from rfl, ni_mul, ni_add]
    have n1 : ¬ (1 = z + 2) := by omega
    rw [hX10_takeImage_45]
    simp +decide (disch := omega) only [qX10_takeImage_0, qX10_takeImage_1, qX10_takeImage_2, lx hL, lz hL hz, r2, ak, e3, n1, false_and, if_false, ni_in_t, ni_tn, ni_add1, am_w1_i, am_w1_r, am_w1_x, am_w1_l, am_w1_w, va_rf_s, am_push_n, am_push_s, am_cs_0, am_cs_i, am_cs_l, am_cs_r, m_uI_K, m_uI_N, m_uI_R, m_uI_L, m_uI_I, m_uL_K, m_uL_N, m_uL_R, m_uL_I, m_uL_L, m_uR_K, m_uR_N, m_uR_I, m_uR_L, m_uR_R, true_and, and_true, true_implies, false_implies, not_true_eq_false, not_false_eq_true, if_true, if_false, false_and, and_false]
    rw [br_p hle]
    exact h0
  | succ m ih =>
    intro i hi M g hY
    obtain ⟨hL, r2, c0, c1, c3, hT⟩ := TiR_g hz hR0 g
    have hlt : ¬ nI (1 + 4 * T 0) ≤ nI (1 + 4 * i) := by rw [ni_le (by omega) (by omega)]; omega
    obtain ⟨q1, q2, q3, q4, q5⟩ := hrow i (by omega)
    have hno := onY_no (C := dC D) hrow (i := i) (by omega)
    have hsr := onY_srt (C := dC D) hrow (T (1 + 4 * i)) i (by omega)
    have hok := onY_ok hD hrow (i := i) (s := T (1 + 4 * i)) (by omega)
    have hall' : ∀ u, u ∈ inY (onY (dC D) T i (T (1 + 4 * i))) (onR (dC D) T i) → u.1 < 48 := fun u hu => by
      rcases inY_mem.mp hu with rfl | w
      · exact q2
      · exact (hok u w).1
    have hl48 := len_48 (inY_srt hsr hno) hall'
    rw [inY_len] at hl48
    have hpl := pl_n1 hD q3
    have key := fun (M1 : am_M) (g1 : gF (sIn (z + 25 + 7 * T (1 + 4 * i))) nT M M1) (y1 : SyX M1 (z + 25 + 7 * T (1 + 4 * i)) (inY (onY (dC D) T i (T (1 + 4 * i))) (onR (dC D) T i))) => ih (i + 1) (by omega) M1 (gF_trans g (gF_in (s := T (1 + 4 * i)) (by omega) g1)) (fun t ht => by
      by_cases e : T (1 + 4 * i) = t
      · rw [onY_t e, ← e]; exact y1
      · rw [onY_f e]
        exact SyX_gF (hY t ht) g1 (fun a j w1 w2 w3 => by unfold sIn at w3; omega))
    obtain ⟨p, hp⟩ : ∃ p, p = 1 + 4 * i := ⟨_, rfl⟩
    have eR : onR (dC D) T i = (T (p + 1), plc (dC D) (T (p + 2)), T (p + 3) == 1) := by unfold onR; rw [hp]
    rw [← hp] at q1 q2 q3 q4 hlt hsr hno hl48 key hpl ⊢
    rw [eR] at key hno
    rw [show 1 + 4 * (i + 1) = p + 4 by omega] at key
    obtain ⟨s, es⟩ : ∃ s, s = T p := ⟨_, rfl⟩
    obtain ⟨u0, a0⟩ := hT p (by omega)
    obtain ⟨u1, a1⟩ := hT (p + 1) (by omega)
    obtain ⟨u2, a2⟩ := hT (p + 2) (by omega)
    obtain ⟨u3, a3⟩ := hT (p + 3) (by omega)
    rw [← es] at key hsr hno hl48 q1 a0
    have hS := hY s q1
    have hsh := lsh hL hz (s := s) (by omega)
    have hg := isSh_z (z := z) (s := s) hz (by omega)
    have eP := fun Q => c_x_placeOf d (T (p + 2)) z (dC D) (dR D) M Q hL hz c0 c1 hD.1.1.1 hD.1.1.2 u2
    rw [if_pos q3] at eP
    have fin : ∀ (w : Int32), w = b01 (T (p + 3) == 1) → am_E am_P0 d 66 [.ref (z + 25 + 7 * s), .int (nI (T (p + 1))), .int (nI (plc (dC D) (T (p + 2)))), .int w] M (fun r M1 => am_P am_P0 (d + 1) (am_look tX10_takeImage) 107 [.ref 0, .int (nI (1 + 4 * T 0)), .int (nI p), am_x] (am_push r []) M1 Q) := fun w hw => by
      rw [hw]
      refine c_x_insert d (z + 25 + 7 * s) (onY (dC D) T i s) (T (p + 1), plc (dC D) (T (p + 2)), T (p + 3) == 1) M _ hL hg hS (by omega) q2 hpl.2.2.2.1 hsr hno (fun M1 g1 y1 => ?_)
      have h0 := key M1 g1 y1
      simp +decide (disch := omega) only [qX10_takeImage_0, qX10_takeImage_1, qX10_takeImage_2, ni_a4, am_w1_i, am_w1_r, am_w1_x, am_w1_l, am_w1_w, va_rf_s, am_push_n, am_push_s, am_cs_0, am_cs_i, am_cs_l, am_cs_r, m_uI_K, m_uI_N, m_uI_R, m_uI_L, m_uI_I, m_uL_K, m_uL_N, m_uL_R, m_uL_I, m_uL_L, m_uR_K, m_uR_N, m_uR_I, m_uR_L, m_uR_R, true_and, and_true, true_implies, false_implies, not_true_eq_false, not_false_eq_true, if_true, if_false, false_and, and_false]
      exact h0
    rw [hX10_takeImage_45]
    by_cases cl : T (p + 3) = 1
    · have h0 := fin 1 (by rw [cl]; rfl)
      have a3' : mI M 1 (p + 3) = 1 := by rw [a3, cl]; rfl
      simp +decide (disch := omega) only [qX10_takeImage_0, qX10_takeImage_1, qX10_takeImage_2, lx hL, lz hL hz, lw_ hL hg, r2, a0, a1, a2, a3', hsh, eP, ni_in_t, ni_tn, ni_add1, ni_a2, ni_a3, ni_a4, am_w1_i, am_w1_r, am_w1_x, am_w1_l, am_w1_w, va_rf_s, am_push_n, am_push_s, am_cs_0, am_cs_i, am_cs_l, am_cs_r, m_uI_K, m_uI_N, m_uI_R, m_uI_L, m_uI_I, m_uL_K, m_uL_N, m_uL_R, m_uL_I, m_uL_L, m_uR_K, m_uR_N, m_uR_I, m_uR_L, m_uR_R, true_and, and_true, true_implies, false_implies, not_true_eq_false, not_false_eq_true, if_true, if_false, false_and, and_false] at h0 ⊢
      rw [br_n hlt]
      exact h0
    · have h0 := fin 0 (by rw [show (T (p + 3) == 1) = false from beq_false_of_ne cl]; rfl)
      have a3' : mI M 1 (p + 3) = 0 := by rw [a3, show T (p + 3) = 0 by omega]; rfl
      simp +decide (disch := omega) only [qX10_takeImage_0, qX10_takeImage_1, qX10_takeImage_2, lx hL, lz hL hz, lw_ hL hg, r2, a0, a1, a2, a3', hsh, eP, ni_in_t, ni_tn, ni_add1, ni_a2, ni_a3, ni_a4, am_w1_i, am_w1_r, am_w1_x, am_w1_l, am_w1_w, va_rf_s, am_push_n, am_push_s, am_cs_0, am_cs_i, am_cs_l, am_cs_r, m_uI_K, m_uI_N, m_uI_R, m_uI_L, m_uI_I, m_uL_K, m_uL_N, m_uL_R, m_uL_I, m_uL_L, m_uR_K, m_uR_N, m_uR_I, m_uR_L, m_uR_R, true_and, and_true, true_implies, false_implies, not_true_eq_false, not_false_eq_true, if_true, if_false, false_and, and_false] at h0 ⊢
      rw [br_n hlt]
      exact h0
theorem l_x_ti142 (d z k : Nat) (D : Dat) (T : Nat → Nat) (M0 : am_M) (Q : Option Value → am_M → Prop) (hD : dOK D) (hz : z = 2 ∨ z = 83) (hR0 : TiR M0 z D T) (hk : k ≤ 385) (h40 : T k ≤ 40) (hsg : ∀ j, j < T k → sgrOK (dC D * dR D) T k j)
    (hQ : ∀ M', gF (fun a j => z + 2 ≤ a ∧ a ≤ z + 5) nT M0 M' → SgX M' z (onG (dC D) T k (T k)) → Q none M') :
    ∀ (m j : Nat), j + m = T k → ∀ (M : am_M), gF (fun a j => z + 2 ≤ a ∧ a ≤ z + 5) nT M0 M → SgX M z (onG (dC D) T k j) → am_P am_P0 (d + 1) (am_look tX10_takeImage) 142 [.ref 0, .int (nI k), .int (nI (k + 1 + 3 * T k)), .int (nI (k + 1 + 3 * j))] [] M Q := by
  intro m
  induction m with
  | zero =>
    intro j hj M g hS
    have e : j = T k := by omega
    subst e
    have hle : nI (k + 1 + 3 * T k) ≤ nI (k + 1 + 3 * T k) := (ni_le (by omega) (by omega)).mpr (Nat.le_refl _)
    have h0 := hQ M g hS
    rw [hX10_takeImage_142]
    simp +decide (disch := omega) only [qX10_takeImage_0, qX10_takeImage_1, qX10_takeImage_2, am_w1_i, am_w1_r, am_w1_x, am_w1_l, am_w1_w, va_rf_s, am_push_n, am_push_s, am_cs_0, am_cs_i, am_cs_l, am_cs_r, m_uI_K, m_uI_N, m_uI_R, m_uI_L, m_uI_I, m_uL_K, m_uL_N, m_uL_R, m_uL_I, m_uL_L, m_uR_K, m_uR_N, m_uR_I, m_uR_L, m_uR_R, true_and, and_true, true_implies, false_implies, not_true_eq_false, not_false_eq_true, if_true, if_false, false_and, and_false]
    rw [br_p hle]
    exact h0
  | succ m ih =>
    intro j hj M g hS
    obtain ⟨hL, r2, c0, c1, c3, hT⟩ := TiR_g hz hR0 (gF_sg g)
    have hlt : ¬ nI (k + 1 + 3 * T k) ≤ nI (k + 1 + 3 * j) := by rw [ni_le (by omega) (by omega)]; omega
    obtain ⟨q1, q2, q3⟩ := hsg j (by omega)
    have hln := onG_len (dC D) T k j
    have hS1 := SgX_app (a := T (k + 1 + 3 * j)) (p := plc (dC D) (T (k + 1 + 3 * j + 1))) (t := T (k + 1 + 3 * j + 2)) hS
    have hn := hS.1
    rw [hln] at hS1 hn
    have g2 : gF (fun a j => z + 2 ≤ a ∧ a ≤ z + 5) nT M (spX M z j (nI (T (k + 1 + 3 * j))) (nI (plc (dC D) (T (k + 1 + 3 * j + 1)))) (nI (T (k + 1 + 3 * j + 2)))) := gF_trans (gF_trans (gF_trans (gF_i _ (by omega)) (gF_i _ (by omega))) (gF_i _ (by omega))) (gF_i _ (by omega))
    have h0 := ih (j + 1) (by omega) _ (gF_trans g g2) hS1
    obtain ⟨p, hp⟩ : ∃ p, p = k + 1 + 3 * j := ⟨_, rfl⟩
    rw [show k + 1 + 3 * (j + 1) = p + 3 by omega, ← hp] at h0
    rw [← hp] at hlt q1 q2 q3 ⊢
    obtain ⟨u0, a0⟩ := hT p (by omega)
    obtain ⟨u1, a1⟩ := hT (p + 1) (by omega)
    obtain ⟨u2, a2⟩ := hT (p + 2) (by omega)
    have eP := fun Q => c_x_placeOf d (T (p + 1)) z (dC D) (dR D) M Q hL hz c0 c1 hD.1.1.1 hD.1.1.2 u1
    rw [if_pos q2] at eP
    have eA := fun Q => c_x_append d (nI (T p)) (nI (plc (dC D) (T (p + 1)))) (nI (T (p + 2))) M Q hL z j hz hn (by omega)
    rw [hX10_takeImage_142]
    simp +decide (disch := omega) only [qX10_takeImage_0, qX10_takeImage_1, qX10_takeImage_2, lx hL, lz hL hz, r2, a0, a1, a2, eP, eA, ni_in_t, ni_tn, ni_add1, ni_a2, ni_a3, am_w1_i, am_w1_r, am_w1_x, am_w1_l, am_w1_w, va_rf_s, am_push_n, am_push_s, am_cs_0, am_cs_i, am_cs_l, am_cs_r, m_uI_K, m_uI_N, m_uI_R, m_uI_L, m_uI_I, m_uL_K, m_uL_N, m_uL_R, m_uL_I, m_uL_L, m_uR_K, m_uR_N, m_uR_I, m_uR_L, m_uR_R, true_and, and_true, true_implies, false_implies, not_true_eq_false, not_false_eq_true, if_true, if_false, false_and, and_false]
    rw [br_n hlt]
    exact h0
theorem c_x_takeImage (d z n : Nat) (D : Dat) (T : Nat → Nat) (M : am_M) (Q : Option Value → am_M → Prop) (hD : dOK D) (hz : z = 2 ∨ z = 83) (hR0 : TiR M z D T) (h : imOK (dN D) (dC D * dR D) T n)
    (hQ : ∀ M', gF (sTi z) nT M M' → (∀ t, t < dN D → SyX M' (z + 25 + 7 * t) (onY (dC D) T (T 0) t)) → SgX M' z (onG (dC D) T (1 + 4 * T 0) (T (1 + 4 * T 0))) → Q none M') : am_E am_P0 (d + 1) 165 [.ref 0] M Q := by
  obtain ⟨⟨h1, h2⟩, ⟨h3, h4, h5⟩, h6, h7, h8⟩ := h
  rw [eX10_takeImage]
  simp +decide (disch := omega) only [qX10_takeImage_0, qX10_takeImage_1, qX10_takeImage_2, am_w1_i, am_w1_r, am_w1_x, am_w1_l, am_w1_w, va_rf_s, am_push_n, am_push_s, am_cs_0, am_cs_i, am_cs_l, am_cs_r, m_uI_K, m_uI_N, m_uI_R, m_uI_L, m_uI_I, m_uL_K, m_uL_N, m_uL_R, m_uL_I, m_uL_L, m_uR_K, m_uR_N, m_uR_I, m_uR_L, m_uR_R, true_and, and_true, true_implies, false_implies, not_true_eq_false, not_false_eq_true, if_true, if_false, false_and, and_false]
  refine l_x_ti2 d z D T M Q hD hz hR0 h2 (fun M1 g1 k1 => ?_) (dN D) 0 (by omega) M (gF_refl _ _ _) (fun t ht => by omega)
  refine l_x_ti45 d z D T M Q hD hz hR0 h2 h7 h4 (fun M2 g2 k2 k2' => ?_) (T 0) 0 (by omega) M1 g1 (fun t ht => ⟨k1 t ht, by show 0 ≤ 48; omega, fun i y hy => by simp [onY] at hy⟩)
  exact l_x_ti142 d z (1 + 4 * T 0) D T M2 Q hD hz (TiR_g hz hR0 g2) (by omega) h4 h8 (fun M3 g3 k3 => hQ M3 (gF_trans g2 (gF_sg g3)) (fun t ht => SyX_gF (k2 t ht) g3 (fun a j q1 q2 q3 => by omega)) k3) (T (1 + 4 * T 0)) 0 (by omega) M2 (gF_refl _ _ _) ⟨k2', fun i g hi => by simp [onG] at hi⟩
end
section
/-! on: the class -/
def sFa (a j : Nat) : Prop := (173 ≤ a ∧ a < 277 ∧ (a - 173) % 13 = 0 ∧ (j = 4 ∨ j = 5 ∨ j = 6)) ∨ (a = 0 ∧ j = 13)
theorem l_x_on36 (d z n : Nat) (x1 : Int32) (M0 : am_M) (Q : Option Value → am_M → Prop) (hz : z = 2 ∨ z = 83) (hL0 : Lay M0) (hr : mR M0 0 2 = some z) (hn : mI M0 z 3 = nI n) (n8 : n ≤ 8)
    (hQ : ∀ M', gF sFa nT M0 M' → (∀ t, t < n → mI M' (173 + 13 * t) 4 = 0 ∧ mI M' (173 + 13 * t) 5 = 0 ∧ mI M' (173 + 13 * t) 6 = 0) → (0 < n → mI M' 0 13 = 0) → (n = 0 → M' = M0) → Q (some (.int 1)) M') :
    ∀ (m s : Nat), s + m = n → ∀ (M : am_M), gF sFa nT M0 M → (∀ t, t < s → mI M (173 + 13 * t) 4 = 0 ∧ mI M (173 + 13 * t) 5 = 0) → (0 < s → mI M 0 13 = 0 ∧ ∀ t, t < n → mI M (173 + 13 * t) 6 = 0) → (s = 0 → M = M0) → am_P am_P0 (d + 2) (am_look tX10_on) 36 [.ref 0, .int x1, .int (nI s)] [] M Q := by
  intro m
  induction m with
  | zero =>
    intro s hs M g h4 h6 h0
    have hL := gF_LayN g hL0
    have r2 : mR M 0 2 = some z := by rw [g.2.2.1 _ _ (fun w => w)]; exact hr
    have c3 : mI M z 3 = nI n := by rw [g.1 _ _ (by unfold sFa; omega)]; exact hn
    have e : s = n := by omega
    subst e
    have hle : nI s ≤ nI s := (ni_le (by omega) (by omega)).mpr (Nat.le_refl _)
    have h9 := hQ M g (fun t ht => ⟨(h4 t ht).1, (h4 t ht).2, (h6 (by omega)).2 t ht⟩) (fun q => (h6 q).1) h0
    rw [hX10_on_36]
    simp +decide (disch := omega) only [qX10_on, lx hL, lz hL hz, r2, c3, am_w1_i, am_w1_r, am_w1_x, am_w1_l, am_w1_w, va_rf_s, am_push_n, am_push_s, am_cs_0, am_cs_i, am_cs_l, am_cs_r, m_uI_K, m_uI_N, m_uI_R, m_uI_L, m_uI_I, m_uL_K, m_uL_N, m_uL_R, m_uL_I, m_uL_L, m_uR_K, m_uR_N, m_uR_I, m_uR_L, m_uR_R, true_and, and_true, true_implies, false_implies, not_true_eq_false, not_false_eq_true, if_true, if_false, false_and, and_false]
    rw [br_p hle]
    exact h9
  | succ m ih =>
    intro s hs M g h4 h6 h0
    have hL := gF_LayN g hL0
    have r2 : mR M 0 2 = some z := by rw [g.2.2.1 _ _ (fun w => w)]; exact hr
    have c3 : mI M z 3 = nI n := by rw [g.1 _ _ (by unfold sFa; omega)]; exact hn
    have hlt : ¬ nI n ≤ nI s := by rw [ni_le (by omega) (by omega)]; omega
    rw [hX10_on_36]
    simp +decide (disch := omega) only [qX10_on, lx hL, lz hL hz, r2, c3, am_w1_i, am_w1_r, am_w1_x, am_w1_l, am_w1_w, va_rf_s, am_push_n, am_push_s, am_cs_0, am_cs_i, am_cs_l, am_cs_r, m_uI_K, m_uI_N, m_uI_R, m_uI_L, m_uI_I, m_uL_K, m_uL_N, m_uL_R, m_uL_I, m_uL_L, m_uR_K, m_uR_N, m_uR_I, m_uR_L, m_uR_R, true_and, and_true, true_implies, false_implies, not_true_eq_false, not_false_eq_true, if_true, if_false, false_and, and_false]
    rw [br_n hlt]
    refine c_x_forget d s n z M _ hL hz (by omega) r2 c3 n8 (fun M1 g1 k4 k5 k6 k13 => ?_)
    have h9 := ih (s + 1) (by omega) M1 (gF_trans g (gF_up g1 (fun a j q => by unfold sFg at q; unfold sFa; omega) (fun _ _ q => q))) (fun t ht => by
      by_cases e : t = s
      · rw [e]; exact ⟨k4, k5⟩
      · rw [g1.1 _ _ (by unfold sFg; omega), g1.1 _ _ (by unfold sFg; omega)]; exact h4 t (by omega)) (fun _ => ⟨k13, k6⟩) (fun q => by omega)
    simp +decide (disch := omega) only [qX10_on, ni_add1, am_w1_i, am_w1_r, am_w1_x, am_w1_l, am_w1_w, va_rf_s, am_push_n, am_push_s, am_cs_0, am_cs_i, am_cs_l, am_cs_r, m_uI_K, m_uI_N, m_uI_R, m_uI_L, m_uI_I, m_uL_K, m_uL_N, m_uL_R, m_uL_I, m_uL_L, m_uR_K, m_uR_N, m_uR_I, m_uR_L, m_uR_R, true_and, and_true, true_implies, false_implies, not_true_eq_false, not_false_eq_true, if_true, if_false, false_and, and_false]
    exact h9
theorem x_on {M : am_M} {z n : Nat} {D : Dat} {T : Nat → Nat} (hD : dOK D) (hX : XR M z D) (hT : TpT T M) (h1 : mI M 0 1 = nI n) (hn : n ≤ 1800) (d : Nat) (Q : Option Value → am_M → Prop)
    (hY : imOK (dN D) (dC D * dR D) T n → ∀ M', gF (fun a j => sCh z a j ∨ (a = 0 ∧ j = 1)) nT M M' → mI M' 0 1 = 0 → XR M' z (datOn D T) → Q (some (.int 1)) M') (hN : ¬ imOK (dN D) (dC D * dR D) T n → Q (some (.int 0)) (rfX (uI M 0 1 0) 4)) : am_E am_P0 (d + 2) 146 [.ref 0] M Q := by
  have hz := hX.1.2.2.1
  have hL := hX.1.1
  have n8 := dN_8 hD
  obtain ⟨A, hA⟩ : ∃ A, A = uI M 0 1 0 := ⟨_, rfl⟩
  have gA : gF (fun a j => a = 0 ∧ j = 1) nT M A := by rw [hA]; exact gF_i _ ⟨rfl, rfl⟩
  have XA := XR_t hD hX gA (fun a j q => by omega)
  have LA := XA.1.1
  have rA := XA.1.2.2.2.1
  have TA : TpT T A := fun j hj => ⟨(hT j hj).1, by rw [gA.1 _ _ (by omega)]; exact (hT j hj).2⟩
  have hin : (4 : Int32).toInt.toNat = 4 := rfl
  rw [← hA] at hN
  rw [eX10_on]
  simp +decide (disch := omega) only [qX10_on, lx hL, h1, am_w1_i, am_w1_r, am_w1_x, am_w1_l, am_w1_w, va_rf_s, am_push_n, am_push_s, am_cs_0, am_cs_i, am_cs_l, am_cs_r, m_uI_K, m_uI_N, m_uI_R, m_uI_L, m_uI_I, m_uL_K, m_uL_N, m_uL_R, m_uL_I, m_uL_L, m_uR_K, m_uR_N, m_uR_I, m_uR_L, m_uR_R, true_and, and_true, true_implies, false_implies, not_true_eq_false, not_false_eq_true, if_true, if_false, false_and, and_false, ← hA, lx LA]
  refine c_x_isImage d z n D T A _ hD XA TA hn (fun hk => ?_) (fun hk => ?_)
  · simp +decide (disch := omega) only [qX10_on, lx LA, am_w1_i, am_w1_r, am_w1_x, am_w1_l, am_w1_w, va_rf_s, am_push_n, am_push_s, am_cs_0, am_cs_i, am_cs_l, am_cs_r, m_uI_K, m_uI_N, m_uI_R, m_uI_L, m_uI_I, m_uL_K, m_uL_N, m_uL_R, m_uL_I, m_uL_L, m_uR_K, m_uR_N, m_uR_I, m_uR_L, m_uR_R, true_and, and_true, true_implies, false_implies, not_true_eq_false, not_false_eq_true, if_true, if_false, false_and, and_false]
    have RA : TiR A z D T := ⟨LA, rA, (x_n XA).2.1, (x_n XA).2.2.1, (x_n XA).1, TA⟩
    refine c_x_takeImage d z n D T A _ hD hz RA hk (fun M2 g2 y2 s2 => ?_)
    have R2 := TiR_g hz RA g2
    simp +decide (disch := omega) only [qX10_on, am_w1_i, am_w1_r, am_w1_x, am_w1_l, am_w1_w, va_rf_s, am_push_n, am_push_s, am_cs_0, am_cs_i, am_cs_l, am_cs_r, m_uI_K, m_uI_N, m_uI_R, m_uI_L, m_uI_I, m_uL_K, m_uL_N, m_uL_R, m_uL_I, m_uL_L, m_uR_K, m_uR_N, m_uR_I, m_uR_L, m_uR_R, true_and, and_true, true_implies, false_implies, not_true_eq_false, not_false_eq_true, if_true, if_false, false_and, and_false]
    refine l_x_on36 d z (dN D) (nI n) M2 Q hz R2.1 R2.2.1 R2.2.2.2.2.1 n8 (fun M3 g3 k3 k13 k0 => ?_) (dN D) 0 (by omega) M2 (gF_refl _ _ _) (fun t ht => by omega) (fun q => by omega) (fun _ => rfl)
    have g2c : gF (sCh z) nT A M2 := gF_up g2 (fun a j q => by
      rcases q with q | q
      · exact Or.inl q
      · exact Or.inr (Or.inl q)) (fun _ _ q => q)
    have g3c : gF (sCh z) nT M2 M3 := gF_up g3 (fun a j q => by
      rcases q with q | q
      · exact Or.inr (Or.inr (Or.inl ⟨(a - 173) / 13, by omega, by omega, q.2.2.2⟩))
      · exact Or.inr (Or.inr (Or.inr q))) (fun _ _ q => q)
    have gc := gF_trans g2c g3c
    have hrow := hk.2.2.2.1
    have e01 : mI M3 0 1 = 0 := by rw [gc.1 _ _ (fun w => by have := (sCh_no hz w).2.2.2.1; omega), hA, m_uI_I, if_pos ⟨rfl, rfl⟩]
    refine hY hk M3 (gF_trans (gF_up gA (fun a j q => Or.inr q) (fun _ _ q => q)) (gF_up gc (fun a j q => Or.inl q) (fun _ _ q => q))) e01 (XR_D hD XA gc (SgX_g s2 g3 (fun a j q1 q2 w => by unfold sFa at w; omega)) (fun s hs => ?_) (fun s hs => Or.inl ⟨(k3 s hs).1, (k3 s hs).2.1⟩) (fun s hs => Or.inl (k3 s hs).2.2) ?_)
    · rw [dY_on hrow]
      exact SyX_gF (y2 s hs) g3 (fun a j q1 q2 w => by unfold sFa at w; omega)
    · by_cases d0 : dN D = 0
      · have e3 := k0 d0
        have st0 : ∀ D' h p, dN D' = 0 → stN D' h p = 0 := fun D' h p q => by unfold stN; rw [q]; rfl
        have kk : ∀ j, 13 ≤ j → mI M3 0 j = mI A 0 j := fun j hj => by rw [e3]; exact g2.1 _ _ (fun w => by have := sTi_no w; omega)
        rcases XA.2.2.2.2 with q | ⟨q1, q | ⟨h', p', q, -⟩⟩
        · exact Or.inl (by rw [kk 13 (by omega)]; exact q)
        · exact Or.inr ⟨by rw [kk 13 (by omega)]; exact q1, Or.inl ⟨by rw [kk 16 (by omega)]; exact q.1, fun h p _ _ => st0 _ h p d0⟩⟩
        · have := q.2.2.1
          rw [st0 D h' p' d0] at this
          omega
      · exact Or.inl (k13 (by omega))
  · have h0 := hN hk
    simp +decide (disch := omega) only [qX10_on, lx LA, hin, ni_in_t, ni_tn, am_w1_i, am_w1_r, am_w1_x, am_w1_l, am_w1_w, va_rf_s, am_push_n, am_push_s, am_cs_0, am_cs_i, am_cs_l, am_cs_r, m_uI_K, m_uI_N, m_uI_R, m_uI_L, m_uI_I, m_uL_K, m_uL_N, m_uL_R, m_uL_I, m_uL_L, m_uR_K, m_uR_N, m_uR_I, m_uR_L, m_uR_R, true_and, and_true, true_implies, false_implies, not_true_eq_false, not_false_eq_true, if_true, if_false, false_and, and_false]
    exact h0
end
section
/-! on: the model finds an image whole -/
def TpO (T : Nat → Nat) (M : am_M) : Prop := ∀ j, j < 1800 → T j < 256 ∧ mI M 278 j = nI (T j)
theorem ge32 {a b : Int32} : b ≤ a ↔ ¬ a < b := by rw [le32, lt32]; omega
theorem l_m_iw71 (d n k : Nat) (T : Nat → Nat) (M : am_M) (Q : Option Value → am_M → Prop) (hL : Lay M) (hT : TpO T M) (hn : n ≤ 1800) (hn1 : 1 ≤ n)
    (hQ : T (n - 1) = ckS (tpL T (n - 1)) 29 → ∀ x3, am_P am_P0 (d + 2) (am_look tX11_isWhole) 121 [.ref 277, .int (nI n), .int (nI k), .int x3, .int (-1), .int (nI 1), am_x] [] M Q) (hF : ¬ T (n - 1) = ckS (tpL T (n - 1)) 29 → Q (some (.int 0)) M) :
    ∀ (m i c : Nat), i + m = n - 1 → c < 241 → c = ckS ((tpL T (n - 1)).take i) 29 → am_P am_P0 (d + 2) (am_look tX11_isWhole) 71 [.ref 277, .int (nI n), .int (nI k), .int (nI c), .int (nI i), am_x, am_x] [] M Q := by
  have em : nI n - 1 = nI (n - 1) := ni_m1 hn1
  intro m
  induction m with
  | zero =>
    intro i c hi hc he
    have hle : nI (n - 1) ≤ nI i := (ni_le (by omega) (by omega)).mpr (by omega)
    rw [List.take_of_length_le (by rw [tpL_len]; omega)] at he
    obtain ⟨ue, ae⟩ := hT (n - 1) (by omega)
    rw [hX11_isWhole_71]
    simp +decide (disch := omega) only [qX11_isWhole_0, qX11_isWhole_1, qX11_isWhole_2, qX11_isWhole_3, qX11_isWhole_4, lm hL, em, ae, ni_in_t, ni_tn, am_w1_i, am_w1_r, am_w1_x, am_w1_l, am_w1_w, va_rf_s, am_push_n, am_push_s, am_cs_0, am_cs_i, am_cs_l, am_cs_r, m_uI_K, m_uI_N, m_uI_R, m_uI_L, m_uI_I, m_uL_K, m_uL_N, m_uL_R, m_uL_I, m_uL_L, m_uR_K, m_uR_N, m_uR_I, m_uR_L, m_uR_R, true_and, and_true, true_implies, false_implies, not_true_eq_false, not_false_eq_true, if_true, if_false, false_and, and_false]
    rw [br_p hle]
    by_cases b : nI (T (n - 1)) = nI c
    · first | rw [br_p (b)] | rw [br_r (b)] | rw [br_s (b)]
      rw [ni_eq (by omega) (by omega)] at b
      exact hQ (by rw [b, he]) _
    · first | rw [br_n (b)] | rw [br_q (b)] | rw [br_u (b)]
      rw [ni_eq (by omega) (by omega)] at b
      exact hF (by rw [← he]; exact b)
  | succ m ih =>
    intro i c hi hc he
    have hlt : ¬ nI (n - 1) ≤ nI i := by rw [ni_le (by omega) (by omega)]; omega
    obtain ⟨v2, v3⟩ := hT i (by omega)
    have hv1 : (tpL T (n - 1))[i]? = some (T i) := by unfold tpL; rw [List.getElem?_map, List.getElem?_range (by omega)]; rfl
    have h0 := ih (i + 1) ((3 * c + T i) % 241) (by omega) (Nat.mod_lt _ (by omega)) (by rw [tk_s hv1, ckS_app, ← he]; rfl)
    have eck := ck_step (v := T i) hc v2
    rw [hX11_isWhole_71]
    simp +decide (disch := omega) only [qX11_isWhole_0, qX11_isWhole_1, qX11_isWhole_2, qX11_isWhole_3, qX11_isWhole_4, lm hL, em, v3, eck, ni_in_t, ni_tn, ni_add1, am_w1_i, am_w1_r, am_w1_x, am_w1_l, am_w1_w, va_rf_s, am_push_n, am_push_s, am_cs_0, am_cs_i, am_cs_l, am_cs_r, m_uI_K, m_uI_N, m_uI_R, m_uI_L, m_uI_I, m_uL_K, m_uL_N, m_uL_R, m_uL_I, m_uL_L, m_uR_K, m_uR_N, m_uR_I, m_uR_L, m_uR_R, true_and, and_true, true_implies, false_implies, not_true_eq_false, not_false_eq_true, if_true, if_false, false_and, and_false]
    rw [br_n hlt]
    exact h0
theorem l_m_iw121 (d b n : Nat) (D : Dat) (T : Nat → Nat) (M : am_M) (Q : Option Value → am_M → Prop) (hD : dOK D) (hL : Lay M) (hM : MdM M b D) (hT : TpO T M) (h96 : T 0 ≤ 96) (x3 : Int32)
    (hQ : (∀ i, i < T 0 → rowOK (dN D) (dC D * dR D) T i) → ∀ x4 v6, am_P am_P0 (d + 2) (am_look tX11_isWhole) 231 [.ref 277, .int (nI n), .int (nI (1 + 4 * T 0)), .int x3, .int x4, .int (nI (1 + 4 * T 0 + 1)), v6] [] M Q) (hF : ¬ (∀ i, i < T 0 → rowOK (dN D) (dC D * dR D) T i) → Q (some (.int 0)) M) :
    ∀ (m i : Nat), i + m = T 0 → (∀ j, j < i → rowOK (dN D) (dC D * dR D) T j) → ∀ v6, am_P am_P0 (d + 2) (am_look tX11_isWhole) 121 [.ref 277, .int (nI n), .int (nI (1 + 4 * T 0)), .int x3, .int (lstI T i), .int (nI (1 + 4 * i)), v6] [] M Q := by
  have n8 := dN_8 hD
  have hCR : dC D * dR D ≤ 16 * 16 := Nat.mul_le_mul hD.1.1.1 hD.1.1.2
  have eC := fun Q => c_m_cells (d + 1) M Q hL b (dC D) (dR D) hM.1.1 hM.1.2 hM.2.1.1 hM.2.1.2
  intro m
  induction m with
  | zero =>
    intro i hi hok v6
    have e : i = T 0 := by omega
    subst e
    have hle : nI (1 + 4 * T 0) ≤ nI (1 + 4 * T 0) := (ni_le (by omega) (by omega)).mpr (Nat.le_refl _)
    have h0 := hQ hok (lstI T (T 0)) v6
    rw [hX11_isWhole_121]
    simp +decide (disch := omega) only [qX11_isWhole_0, qX11_isWhole_1, qX11_isWhole_2, qX11_isWhole_3, qX11_isWhole_4, ni_add1, am_w1_i, am_w1_r, am_w1_x, am_w1_l, am_w1_w, va_rf_s, am_push_n, am_push_s, am_cs_0, am_cs_i, am_cs_l, am_cs_r, m_uI_K, m_uI_N, m_uI_R, m_uI_L, m_uI_I, m_uL_K, m_uL_N, m_uL_R, m_uL_I, m_uL_L, m_uR_K, m_uR_N, m_uR_I, m_uR_L, m_uR_R, true_and, and_true, true_implies, false_implies, not_true_eq_false, not_false_eq_true, if_true, if_false, false_and, and_false]
    rw [br_p hle]
    exact h0
  | succ m ih =>
    intro i hi hok v6
    have hlt : ¬ nI (1 + 4 * T 0) ≤ nI (1 + 4 * i) := by rw [ni_le (by omega) (by omega)]; omega
    obtain ⟨p, hp⟩ : ∃ p, p = 1 + 4 * i := ⟨_, rfl⟩
    obtain ⟨u0, a0⟩ := hT p (by omega)
    obtain ⟨u1, a1⟩ := hT (p + 1) (by omega)
    obtain ⟨u2, a2⟩ := hT (p + 2) (by omega)
    obtain ⟨u3, a3⟩ := hT (p + 3) (by omega)
    have eS : ∀ Q, am_E am_P0 (d + 1) 220 [.ref 277, .int (nI (T p))] M Q ↔ Q (some (.int (bI (T p < dN D)))) M := fun Q => by
      rw [m_isShip hD hL hM d _ Q, bI_n1 u0]
    have eH : ∀ Q, am_E am_P0 (d + 1) 219 [.int (nI (T (p + 1)))] M Q ↔ Q (some (.int (bI (T (p + 1) < 48)))) M := fun Q => by
      rw [c_m_isHour d _ M Q, bI_n2 u1]
    have eo : (48 : Int32) * nI (T p) + nI (T (p + 1)) = nI (ordT T i) := by rw [show (48 : Int32) = nI 48 from rfl, ni_mul, ni_add]; unfold ordT; rw [hp, Nat.mul_comm]
    have o1 : ordT T i < 100000 := by unfold ordT; rw [← hp]; omega
    have o2 : ordT T (i - 1) < 100000 := by
      have v0 := (hT (1 + 4 * (i - 1)) (by omega)).1
      have v1 := (hT (1 + 4 * (i - 1) + 1) (by omega)).1
      unfold ordT; omega
    have hlst := lst_lt o1 o2
    have hno : ¬ rowOK (dN D) (dC D * dR D) T i → Q (some (.int 0)) M := fun q => hF (fun w => q (w i (by omega)))
    rw [hX11_isWhole_121, ← hp]
    simp +decide (disch := omega) only [qX11_isWhole_0, qX11_isWhole_1, qX11_isWhole_2, qX11_isWhole_3, qX11_isWhole_4, lm hL, a0, a1, a2, a3, eS, eH, eC, eo, bI_0, Classical.not_not, ni_in_t, ni_tn, ni_add1, ni_a2, ni_a3, ni_a4, am_w1_i, am_w1_r, am_w1_x, am_w1_l, am_w1_w, va_rf_s, am_push_n, am_push_s, am_cs_0, am_cs_i, am_cs_l, am_cs_r, m_uI_K, m_uI_N, m_uI_R, m_uI_L, m_uI_I, m_uL_K, m_uL_N, m_uL_R, m_uL_I, m_uL_L, m_uR_K, m_uR_N, m_uR_I, m_uR_L, m_uR_R, true_and, and_true, true_implies, false_implies, not_true_eq_false, not_false_eq_true, if_true, if_false, false_and, and_false]
    rw [← hp] at hlt
    rw [br_n hlt]
    by_cases r1 : T p < dN D
    · first | rw [br_p (r1)] | rw [br_r (r1)] | rw [br_s (r1)]
      by_cases r2 : T (p + 1) < 48
      · first | rw [br_p (r2)] | rw [br_r (r2)] | rw [br_s (r2)]
        by_cases r5 : nI (ordT T i) ≤ lstI T i
        · first | rw [br_p (r5)] | rw [br_r (r5)] | rw [br_s (r5)]
          rw [ge32] at r5
          exact hno (fun q => r5 (hlst.mpr q.2.2.2.2))
        · first | rw [br_n (r5)] | rw [br_q (r5)] | rw [br_u (r5)]
          rw [ge32, Classical.not_not] at r5
          by_cases r3 : nI (dC D * dR D) ≤ nI (T (p + 2))
          · first | rw [br_p (r3)] | rw [br_r (r3)] | rw [br_s (r3)]
            rw [ni_le (by omega) (by omega)] at r3
            exact hno (fun q => by have := q.2.2.1; rw [← hp] at this; omega)
          · first | rw [br_n (r3)] | rw [br_q (r3)] | rw [br_u (r3)]
            rw [ni_le (by omega) (by omega)] at r3
            by_cases r4 : nI (T (p + 3)) ≤ (1 : Int32)
            · first | rw [br_p (r4)] | rw [br_r (r4)] | rw [br_s (r4)]
              rw [show (1 : Int32) = nI 1 from rfl, ni_le (by omega) (by omega)] at r4
              have hrow : rowOK (dN D) (dC D * dR D) T i := by unfold rowOK; rw [← hp]; exact ⟨r1, r2, by omega, by omega, hlst.mp r5⟩
              have h0 := ih (i + 1) (by omega) (fun j hj => by
                by_cases e : j = i
                · rw [e]; exact hrow
                · exact hok j (by omega)) (.int (nI (ordT T i)))
              have e1 : lstI T (i + 1) = nI (ordT T i) := by unfold lstI; rw [if_neg (by omega)]; rfl
              rw [e1, show 1 + 4 * (i + 1) = p + 4 by omega] at h0
              exact h0
            · first | rw [br_n (r4)] | rw [br_q (r4)] | rw [br_u (r4)]
              rw [show (1 : Int32) = nI 1 from rfl, ni_le (by omega) (by omega)] at r4
              exact hno (fun q => by have := q.2.2.2.1; rw [← hp] at this; omega)
      · first | rw [br_n (r2)] | rw [br_q (r2)] | rw [br_u (r2)]
        exact hno (fun q => by have := q.2.1; rw [← hp] at this; exact r2 this)
    · first | rw [br_n (r1)] | rw [br_q (r1)] | rw [br_u (r1)]
      exact hno (fun q => by have := q.1; rw [← hp] at this; exact r1 this)
theorem l_m_iw231 (d b n k : Nat) (D : Dat) (T : Nat → Nat) (M : am_M) (Q : Option Value → am_M → Prop) (hD : dOK D) (hL : Lay M) (hM : MdM M b D) (hT : TpO T M) (hk : k ≤ 385) (h40 : T k ≤ 40) (hn : n = k + 2 + 3 * T k) (x3 x4 : Int32) (v6 : Value)
    (hQ : (∀ j, j < T k → sgrOK (dC D * dR D) T k j) → Q (some (.int 1)) M) (hF : ¬ (∀ j, j < T k → sgrOK (dC D * dR D) T k j) → Q (some (.int 0)) M) :
    ∀ (m j : Nat), j + m = T k → (∀ i, i < j → sgrOK (dC D * dR D) T k i) → am_P am_P0 (d + 2) (am_look tX11_isWhole) 231 [.ref 277, .int (nI n), .int (nI k), .int x3, .int x4, .int (nI (k + 1 + 3 * j)), v6] [] M Q := by
  have hCR : dC D * dR D ≤ 16 * 16 := Nat.mul_le_mul hD.1.1.1 hD.1.1.2
  have eC := fun Q => c_m_cells (d + 1) M Q hL b (dC D) (dR D) hM.1.1 hM.1.2 hM.2.1.1 hM.2.1.2
  have em : nI n - 1 = nI (n - 1) := ni_m1 (by omega)
  intro m
  induction m with
  | zero =>
    intro j hj hok
    have hle : nI (n - 1) ≤ nI (k + 1 + 3 * j) := (ni_le (by omega) (by omega)).mpr (by omega)
    have e : j = T k := by omega
    subst e
    have h0 := hQ hok
    rw [hX11_isWhole_231]
    simp +decide (disch := omega) only [qX11_isWhole_0, qX11_isWhole_1, qX11_isWhole_2, qX11_isWhole_3, qX11_isWhole_4, em, am_w1_i, am_w1_r, am_w1_x, am_w1_l, am_w1_w, va_rf_s, am_push_n, am_push_s, am_cs_0, am_cs_i, am_cs_l, am_cs_r, m_uI_K, m_uI_N, m_uI_R, m_uI_L, m_uI_I, m_uL_K, m_uL_N, m_uL_R, m_uL_I, m_uL_L, m_uR_K, m_uR_N, m_uR_I, m_uR_L, m_uR_R, true_and, and_true, true_implies, false_implies, not_true_eq_false, not_false_eq_true, if_true, if_false, false_and, and_false]
    rw [br_p hle]
    exact h0
  | succ m ih =>
    intro j hj hok
    have hlt : ¬ nI (n - 1) ≤ nI (k + 1 + 3 * j) := by rw [ni_le (by omega) (by omega)]; omega
    obtain ⟨p, hp⟩ : ∃ p, p = k + 1 + 3 * j := ⟨_, rfl⟩
    obtain ⟨u0, a0⟩ := hT p (by omega)
    obtain ⟨u1, a1⟩ := hT (p + 1) (by omega)
    obtain ⟨u2, a2⟩ := hT (p + 2) (by omega)
    have eH : ∀ Q, am_E am_P0 (d + 1) 219 [.int (nI (T (p + 2)))] M Q ↔ Q (some (.int (bI (T (p + 2) < 48)))) M := fun Q => by
      rw [c_m_isHour d _ M Q, bI_n2 u2]
    have hno : ¬ sgrOK (dC D * dR D) T k j → Q (some (.int 0)) M := fun q => hF (fun w => q (w j (by omega)))
    rw [hX11_isWhole_231, ← hp]
    simp +decide (disch := omega) only [qX11_isWhole_0, qX11_isWhole_1, qX11_isWhole_2, qX11_isWhole_3, qX11_isWhole_4, lm hL, em, a0, a1, a2, eH, eC, bI_0, Classical.not_not, ni_in_t, ni_tn, ni_add1, ni_a2, ni_a3, am_w1_i, am_w1_r, am_w1_x, am_w1_l, am_w1_w, va_rf_s, am_push_n, am_push_s, am_cs_0, am_cs_i, am_cs_l, am_cs_r, m_uI_K, m_uI_N, m_uI_R, m_uI_L, m_uI_I, m_uL_K, m_uL_N, m_uL_R, m_uL_I, m_uL_L, m_uR_K, m_uR_N, m_uR_I, m_uR_L, m_uR_R, true_and, and_true, true_implies, false_implies, not_true_eq_false, not_false_eq_true, if_true, if_false, false_and, and_false]
    rw [← hp] at hlt
    rw [br_n hlt]
    by_cases r1 : (3 : Int32) < nI (T p)
    · first | rw [br_p (r1)] | rw [br_r (r1)] | rw [br_s (r1)]
      rw [show (3 : Int32) = nI 3 from rfl, ni_lt (by omega) (by omega)] at r1
      exact hno (fun q => by have := q.1; rw [← hp] at this; omega)
    · first | rw [br_n (r1)] | rw [br_q (r1)] | rw [br_u (r1)]
      rw [show (3 : Int32) = nI 3 from rfl, ni_lt (by omega) (by omega)] at r1
      by_cases r3 : nI (dC D * dR D) ≤ nI (T (p + 1))
      · first | rw [br_p (r3)] | rw [br_r (r3)] | rw [br_s (r3)]
        rw [ni_le (by omega) (by omega)] at r3
        exact hno (fun q => by have := q.2.1; rw [← hp] at this; omega)
      · first | rw [br_n (r3)] | rw [br_q (r3)] | rw [br_u (r3)]
        rw [ni_le (by omega) (by omega)] at r3
        by_cases r2 : T (p + 2) < 48
        · first | rw [br_p (r2)] | rw [br_r (r2)] | rw [br_s (r2)]
          have h0 := ih (j + 1) (by omega) (fun i hi => by
            by_cases e : i = j
            · rw [e]; unfold sgrOK; rw [← hp]; exact ⟨by omega, by omega, r2⟩
            · exact hok i (by omega))
          rw [show k + 1 + 3 * (j + 1) = p + 3 by omega] at h0
          exact h0
        · first | rw [br_n (r2)] | rw [br_q (r2)] | rw [br_u (r2)]
          exact hno (fun q => by have := q.2.2; rw [← hp] at this; exact r2 this)
theorem c_m_isWhole (d b n : Nat) (D : Dat) (T : Nat → Nat) (M : am_M) (Q : Option Value → am_M → Prop) (hD : dOK D) (hL : Lay M) (hM : MdM M b D) (hT : TpO T M) (hn : n ≤ 1800)
    (hY : imOK (dN D) (dC D * dR D) T n → Q (some (.int 1)) M) (hN : ¬ imOK (dN D) (dC D * dR D) T n → Q (some (.int 0)) M) : am_E am_P0 (d + 2) 301 [.ref 277, .int (nI n)] M Q := by
  obtain ⟨u0, a0⟩ := hT 0 (by omega)
  have hin : (0 : Int32).toInt.toNat = 0 := rfl
  obtain ⟨k, hk⟩ : ∃ k, k = 1 + 4 * T 0 := ⟨_, rfl⟩
  have ek : (1 : Int32) + 4 * nI (T 0) = nI k := by rw [show (1 : Int32) = nI 1 from rfl, show (4 : Int32) = nI 4 from rfl, ni_mul, ni_add, hk]
  obtain ⟨uk, ak⟩ := hT k (by omega)
  have e3 : nI k + 2 + 3 * nI (T k) = nI (k + 2 + 3 * T k) := by rw [show (2 : Int32) = nI 2 from rfl, show (3 : Int32) = nI 3 from rfl, ni_mul, ni_add, ni_add]
  rw [eX11_isWhole]
  simp +decide (disch := omega) only [qX11_isWhole_0, qX11_isWhole_1, qX11_isWhole_2, qX11_isWhole_3, qX11_isWhole_4, lm hL, a0, ek, ak, e3, hin, ni_in_t, ni_tn, am_w1_i, am_w1_r, am_w1_x, am_w1_l, am_w1_w, va_rf_s, am_push_n, am_push_s, am_cs_0, am_cs_i, am_cs_l, am_cs_r, m_uI_K, m_uI_N, m_uI_R, m_uI_L, m_uI_I, m_uL_K, m_uL_N, m_uL_R, m_uL_I, m_uL_L, m_uR_K, m_uR_N, m_uR_I, m_uR_L, m_uR_R, true_and, and_true, true_implies, false_implies, not_true_eq_false, not_false_eq_true, if_true, if_false, false_and, and_false]
  by_cases b1 : nI n < 3
  · first | rw [br_p (b1)] | rw [br_r (b1)] | rw [br_s (b1)]
    rw [show (3 : Int32) = nI 3 from rfl, ni_lt (by omega) (by omega)] at b1
    exact hN (fun q => by have := q.1.1; omega)
  · first | rw [br_n (b1)] | rw [br_q (b1)] | rw [br_u (b1)]
    rw [show (3 : Int32) = nI 3 from rfl, ni_lt (by omega) (by omega)] at b1
    have em : nI n - 1 = nI (n - 1) := ni_m1 (by omega)
    rw [em]
    by_cases b2 : nI (T 0) ≤ 96
    · first | rw [br_p (b2)] | rw [br_r (b2)] | rw [br_s (b2)]
      rw [show (96 : Int32) = nI 96 from rfl, ni_le (by omega) (by omega)] at b2
      by_cases b3 : nI (n - 1) ≤ nI k
      · first | rw [br_p (b3)] | rw [br_r (b3)] | rw [br_s (b3)]
        rw [ni_le (by omega) (by omega)] at b3
        exact hN (fun q => by have h1 := q.2.1.1; have h2 := q.2.1.2.2; omega)
      · first | rw [br_n (b3)] | rw [br_q (b3)] | rw [br_u (b3)]
        rw [ni_le (by omega) (by omega)] at b3
        by_cases b4 : (40 : Int32) < nI (T k)
        · first | rw [br_p (b4)] | rw [br_r (b4)] | rw [br_s (b4)]
          rw [show (40 : Int32) = nI 40 from rfl, ni_lt (by omega) (by omega)] at b4
          exact hN (fun q => by have := q.2.1.2.1; rw [← hk] at this; omega)
        · first | rw [br_n (b4)] | rw [br_q (b4)] | rw [br_u (b4)]
          rw [show (40 : Int32) = nI 40 from rfl, ni_lt (by omega) (by omega)] at b4
          by_cases b5 : nI n = nI (k + 2 + 3 * T k)
          · first | rw [br_p (b5)] | rw [br_r (b5)] | rw [br_s (b5)]
            rw [ni_eq (by omega) (by omega)] at b5
            refine l_m_iw71 d n k T M Q hL hT hn (by omega) (fun b6 x3 => ?_) (fun b6 => hN (fun q => b6 q.2.2.1)) (n - 1) 0 29 (by omega) (by omega) rfl
            have h0 := l_m_iw121 d b n D T M Q hD hL hM hT b2 x3 (fun hrows x4 v6 => by
              rw [← hk]
              exact l_m_iw231 d b n k D T M Q hD hL hM hT (by omega) (by omega) b5 x3 x4 v6 (fun hsg => hY (by unfold imOK; rw [← hk]; exact ⟨⟨by omega, b2⟩, ⟨by omega, by omega, b5⟩, b6, hrows, hsg⟩)) (fun hsg => hN (fun q => hsg (by have := q.2.2.2.2; rw [← hk] at this; exact this))) (T k) 0 (by omega) (fun i hi => by omega)) (fun hrows => hN (fun q => hrows q.2.2.2.1)) (T 0) 0 (by omega) (fun j hj => by omega) am_x
            rw [← hk] at h0
            exact h0
          · first | rw [br_n (b5)] | rw [br_q (b5)] | rw [br_u (b5)]
            rw [ni_eq (by omega) (by omega)] at b5
            exact hN (fun q => b5 (by have := q.2.1.2.2; rw [← hk] at this; exact this))
    · first | rw [br_n (b2)] | rw [br_q (b2)] | rw [br_u (b2)]
      rw [show (96 : Int32) = nI 96 from rfl, ni_le (by omega) (by omega)] at b2
      exact hN (fun q => b2 q.1.2)
end
