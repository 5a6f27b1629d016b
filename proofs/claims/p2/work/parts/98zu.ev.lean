/-! making: what constructors do, as a row of events -/
abbrev Ev : Type := Sum am_S (Sum (Nat × Nat × Nat) (Nat × Nat × Int32))
def ev1 (M : am_M) : Ev → am_M
  | .inl sh => uN M sh
  | .inr (.inl q) => uR M q.1 q.2.1 (some q.2.2)
  | .inr (.inr q) => uI M q.1 q.2.1 q.2.2
def pa : List Ev → am_M → am_M
  | [], M => M
  | e :: r, M => ev1 (pa r M) e
theorem pa_app : ∀ (A B : List Ev) (M : am_M), pa (A ++ B) M = pa A (pa B M) := by
  intro A B M
  induction A with
  | nil => rfl
  | cons e r ih => show ev1 (pa (r ++ B) M) e = ev1 (pa r (pa B M)) e; rw [ih]
theorem uN_C (M : am_M) (sh : am_S) : mC (uN M sh) = mC M + 1 := by
  unfold mC mS uN
  dsimp only
  rw [List.length_append]
  rfl
theorem uR_C (M : am_M) (a j : Nat) (v : Option Nat) : mC (uR M a j v) = mC M := rfl
theorem uI_C (M : am_M) (a j : Nat) (v : Int32) : mC (uI M a j v) = mC M := rfl
theorem uN_K {M : am_M} {sh : am_S} {a : Nat} (h : a < mC M) : mK (uN M sh) a = mK M a := by
  unfold mK mS uN
  dsimp only
  rw [List.getD_eq_getElem?_getD, List.getD_eq_getElem?_getD, List.getElem?_append_left (by exact h)]
theorem uN_N {M : am_M} {sh : am_S} {a : Nat} (h : a < mC M) : mN (uN M sh) a = mN M a := by
  unfold mN mS uN
  dsimp only
  rw [List.getD_eq_getElem?_getD, List.getD_eq_getElem?_getD, List.getElem?_append_left (by exact h)]
theorem uN_K0 (M : am_M) (sh : am_S) : mK (uN M sh) (mC M) = sh.1 := by
  unfold mK mS uN
  dsimp only
  rw [List.getD_eq_getElem?_getD, List.getElem?_append_right (by exact Nat.le_refl _)]
  unfold mC mS
  rw [Nat.sub_self]
  rfl
theorem uN_N0 (M : am_M) (sh : am_S) : mN (uN M sh) (mC M) = sh.2 := by
  unfold mN mS uN
  dsimp only
  rw [List.getD_eq_getElem?_getD, List.getElem?_append_right (by exact Nat.le_refl _)]
  unfold mC mS
  rw [Nat.sub_self]
  rfl
/-- how many cells are made -/
def evC : List Ev → Nat
  | [] => 0
  | .inl _ :: r => evC r + 1
  | .inr _ :: r => evC r
theorem pa_C : ∀ (E : List Ev) (M : am_M), mC (pa E M) = mC M + evC E := by
  intro E M
  induction E with
  | nil => rfl
  | cons e r ih =>
    match e with
    | .inl sh => show mC (uN (pa r M) sh) = mC M + (evC r + 1); rw [uN_C, ih]; omega
    | .inr (.inl q) => exact ih
    | .inr (.inr q) => exact ih
theorem pa_K : ∀ (E : List Ev) (M : am_M) (a : Nat), a < mC M → mK (pa E M) a = mK M a ∧ mN (pa E M) a = mN M a := by
  intro E M a h
  induction E with
  | nil => exact ⟨rfl, rfl⟩
  | cons e r ih =>
    match e with
    | .inl sh =>
      have hc : a < mC (pa r M) := by rw [pa_C]; omega
      exact ⟨(uN_K hc).trans ih.1, (uN_N hc).trans ih.2⟩
    | .inr (.inl q) => exact ih
    | .inr (.inr q) => exact ih
/-- the kind of the i-th new cell -/
def kdE : List Ev → Nat → am_S
  | [], _ => (99, 0)
  | .inl s :: r, i => if i = evC r then s else kdE r i
  | .inr _ :: r, i => kdE r i
theorem pa_K2 : ∀ (E : List Ev) (M : am_M) (i : Nat), i < evC E → mK (pa E M) (mC M + i) = (kdE E i).1 ∧ mN (pa E M) (mC M + i) = (kdE E i).2 := by
  intro E M i
  induction E with
  | nil => intro h; exact absurd h (Nat.not_lt_zero _)
  | cons e r ih =>
    intro h
    match e with
    | .inl sh =>
      have hC := pa_C r M
      by_cases c : i = evC r
      · have e1 := uN_K0 (pa r M) sh
        have e2 := uN_N0 (pa r M) sh
        rw [hC] at e1 e2
        show mK (uN (pa r M) sh) (mC M + i) = (if i = evC r then sh else kdE r i).1 ∧ mN (uN (pa r M) sh) (mC M + i) = (if i = evC r then sh else kdE r i).2
        rw [if_pos c, c]
        exact ⟨e1, e2⟩
      · have h' : i < evC r + 1 := h
        have ih' := ih (by omega)
        show mK (uN (pa r M) sh) (mC M + i) = (if i = evC r then sh else kdE r i).1 ∧ mN (uN (pa r M) sh) (mC M + i) = (if i = evC r then sh else kdE r i).2
        rw [if_neg c, uN_K (by rw [hC]; omega), uN_N (by rw [hC]; omega)]
        exact ih'
    | .inr (.inl q) => exact ih h
    | .inr (.inr q) => exact ih h
/-- the cells' kinds, the last first -/
def evS : List Ev → List am_S
  | [] => []
  | .inl sh :: r => sh :: evS r
  | .inr _ :: r => evS r
theorem pa_S : ∀ (E : List Ev) (M : am_M), mS (pa E M) = mS M ++ (evS E).reverse := by
  intro E M
  induction E with
  | nil => show mS M = mS M ++ []; rw [List.append_nil]
  | cons e r ih =>
    match e with
    | .inl sh => show mS (pa r M) ++ [sh] = mS M ++ (sh :: evS r).reverse; rw [ih, List.reverse_cons, List.append_assoc]
    | .inr (.inl q) => exact ih
    | .inr (.inr q) => exact ih
/-- a reference, an int after events -/
def rvR (a j c : Nat) (v : Option Nat) : List Ev → Option Nat
  | [] => v
  | .inl _ :: r => if a = c + evC r then none else rvR a j c v r
  | .inr (.inl q) :: r => if a = q.1 ∧ j = q.2.1 then some q.2.2 else rvR a j c v r
  | .inr (.inr _) :: r => rvR a j c v r
theorem pa_R (a j : Nat) : ∀ (E : List Ev) (M : am_M), mR (pa E M) a j = rvR a j (mC M) (mR M a j) E := by
  intro E M
  induction E with
  | nil => rfl
  | cons e r ih =>
    match e with
    | .inl sh =>
      show (if a = mC (pa r M) then none else mR (pa r M) a j) = (if a = mC M + evC r then none else rvR a j (mC M) (mR M a j) r)
      rw [pa_C, ih]
    | .inr (.inl q) =>
      show (if a = q.1 ∧ j = q.2.1 then some q.2.2 else mR (pa r M) a j) = (if a = q.1 ∧ j = q.2.1 then some q.2.2 else rvR a j (mC M) (mR M a j) r)
      rw [ih]
    | .inr (.inr q) => exact ih
def rvI (a j c : Nat) (v : Int32) : List Ev → Int32
  | [] => v
  | .inl _ :: r => if a = c + evC r then 0 else rvI a j c v r
  | .inr (.inl _) :: r => rvI a j c v r
  | .inr (.inr q) :: r => if a = q.1 ∧ j = q.2.1 then q.2.2 else rvI a j c v r
theorem pa_I (a j : Nat) : ∀ (E : List Ev) (M : am_M), mI (pa E M) a j = rvI a j (mC M) (mI M a j) E := by
  intro E M
  induction E with
  | nil => rfl
  | cons e r ih =>
    match e with
    | .inl sh =>
      show (if a = mC (pa r M) then 0 else mI (pa r M) a j) = (if a = mC M + evC r then 0 else rvI a j (mC M) (mI M a j) r)
      rw [pa_C, ih]
    | .inr (.inl q) => exact ih
    | .inr (.inr q) =>
      show (if a = q.1 ∧ j = q.2.1 then q.2.2 else mI (pa r M) a j) = (if a = q.1 ∧ j = q.2.1 then q.2.2 else rvI a j (mC M) (mI M a j) r)
      rw [ih]
theorem pa_L (a j : Nat) : ∀ (E : List Ev) (M : am_M), mL M a j = 0 → mL (pa E M) a j = 0 := by
  intro E M h
  induction E with
  | nil => exact h
  | cons e r ih =>
    match e with
    | .inl sh =>
      show (if a = mC (pa r M) then (0 : Int64) else mL (pa r M) a j) = 0
      rw [ih]
      exact ite_self _
    | .inr (.inl q) => exact ih
    | .inr (.inr q) => exact ih
/-- no int of the cell is set -/
def evN (a : Nat) : List Ev → Bool
  | [] => true
  | .inl _ :: r => evN a r
  | .inr (.inl _) :: r => evN a r
  | .inr (.inr q) :: r => !(a == q.1) && evN a r
theorem rvI_0 (a j c : Nat) : ∀ (E : List Ev), evN a E = true → rvI a j c 0 E = 0 := by
  intro E
  induction E with
  | nil => intro _; rfl
  | cons e r ih =>
    intro h
    match e with
    | .inl sh => show (if a = c + evC r then 0 else rvI a j c 0 r) = 0; rw [ih h]; exact ite_self _
    | .inr (.inl q) => exact ih h
    | .inr (.inr q) =>
      have h' : (!(a == q.1) && evN a r) = true := h
      rw [Bool.and_eq_true] at h'
      have hn : ¬ a = q.1 := fun w => by rw [w] at h'; simp at h'
      show (if a = q.1 ∧ j = q.2.1 then q.2.2 else rvI a j c 0 r) = 0
      rw [if_neg (fun w => hn w.1)]
      exact ih h'.2
/-- no reference of the cell is set -/
def evM (a : Nat) : List Ev → Bool
  | [] => true
  | .inl _ :: r => evM a r
  | .inr (.inl q) :: r => !(a == q.1) && evM a r
  | .inr (.inr _) :: r => evM a r
theorem rvR_0 (a j c : Nat) : ∀ (E : List Ev), evM a E = true → rvR a j c none E = none := by
  intro E
  induction E with
  | nil => intro _; rfl
  | cons e r ih =>
    intro h
    match e with
    | .inl sh => show (if a = c + evC r then none else rvR a j c none r) = none; rw [ih h]; exact ite_self _
    | .inr (.inr q) => exact ih h
    | .inr (.inl q) =>
      have h' : (!(a == q.1) && evM a r) = true := h
      rw [Bool.and_eq_true] at h'
      have hn : ¬ a = q.1 := fun w => by rw [w] at h'; simp at h'
      show (if a = q.1 ∧ j = q.2.1 then some q.2.2 else rvR a j c none r) = none
      rw [if_neg (fun w => hn w.1)]
      exact ih h'.2
abbrev nw (k n : Nat) : Ev := .inl (k, n)
abbrev pR (a j t : Nat) : Ev := .inr (.inl (a, j, t))
abbrev pI (a j : Nat) (v : Int32) : Ev := .inr (.inr (a, j, v))
/-- a row of arrays of ints and such, each put into a field -/
def frmE (a n : Nat) : List Ev := [pR a 2 (n + 1), nw 0 64, pR a 0 n, nw 0 1800]
def linE (a n : Nat) : List Ev := [pR a 0 n, nw 0 48]
def rulE (a n m : Nat) : List Ev := [pR a 3 (n + 2), nw 0 m, pR a 2 (n + 1), nw 0 m, pR a 1 n, nw 0 m]
def shpE (a n : Nat) : List Ev := [pR a 12 (n + 5), nw 0 12, pR a 11 (n + 4), nw 0 12, pR a 10 (n + 3), nw 0 12, pR a 8 (n + 2), nw 2 48, pR a 7 (n + 1), nw 0 48, pR a 6 n, nw 0 48]
def sgtE (a n : Nat) : List Ev := [pR a 3 (n + 2), nw 0 40, pR a 2 (n + 1), nw 0 40, pR a 1 n, nw 0 40]
def watE (a n : Nat) : List Ev := [pR a 4 (n + 3), nw 1 4, pR a 3 (n + 2), nw 2 256, pR a 2 (n + 1), nw 5 256, pI a 1 1, pR a 0 n, nw 1 4]
theorem c_frm (d a : Nat) (M : am_M) (Q : Option Value → am_M → Prop) (hk : mK M a = 10) (ha : a < mC M) : am_E am_P0 d 0 [.ref a] M Q ↔ Q none (pa (frmE a (mC M)) M) := by
  rw [eX0_init]
  simp +decide (disch := first | omega | (simp only [uN_C, uR_C, uI_C]; omega)) only [qX0_init, uN_K, uN_C, uR_C, uI_C, hk, am_w1_i, am_w1_r, am_w1_x, am_w1_l, am_w1_w, va_rf_s, am_push_n, am_push_s, am_cs_0, am_cs_i, am_cs_l, am_cs_r, m_uI_K, m_uI_N, m_uI_R, m_uI_L, m_uI_I, m_uL_K, m_uL_N, m_uL_R, m_uL_I, m_uL_L, m_uR_K, m_uR_N, m_uR_I, m_uR_L, m_uR_R, true_and, and_true, true_implies, false_implies, not_true_eq_false, not_false_eq_true, if_true, if_false, false_and, and_false]
  exact Iff.rfl
theorem c_lin (d a : Nat) (M : am_M) (Q : Option Value → am_M → Prop) (hk : mK M a = 11) (ha : a < mC M) : am_E am_P0 d 5 [.ref a] M Q ↔ Q none (pa (linE a (mC M)) M) := by
  rw [eX1_init]
  simp +decide (disch := first | omega | (simp only [uN_C, uR_C, uI_C]; omega)) only [qX1_init, uN_K, uN_C, uR_C, uI_C, hk, am_w1_i, am_w1_r, am_w1_x, am_w1_l, am_w1_w, va_rf_s, am_push_n, am_push_s, am_cs_0, am_cs_i, am_cs_l, am_cs_r, m_uI_K, m_uI_N, m_uI_R, m_uI_L, m_uI_I, m_uL_K, m_uL_N, m_uL_R, m_uL_I, m_uL_L, m_uR_K, m_uR_N, m_uR_I, m_uR_L, m_uR_R, true_and, and_true, true_implies, false_implies, not_true_eq_false, not_false_eq_true, if_true, if_false, false_and, and_false]
  exact Iff.rfl
theorem c_rul (d a m : Nat) (M : am_M) (Q : Option Value → am_M → Prop) (hk : mK M a = 14) (ha : a < mC M) (hm : m ≤ 12) : am_E am_P0 d 46 [.ref a, .int (nI m)] M Q ↔ Q none (pa (rulE a (mC M) m) M) := by
  have e1 : (nI m).toInt.toNat = m := ni_tn (by omega)
  have e2 : 0 ≤ (nI m).toInt ∧ (nI m).toInt ≤ 60000 := by rw [ni_ti (by omega)]; omega
  rw [eX4_init]
  simp +decide (disch := first | omega | (simp only [uN_C, uR_C, uI_C]; omega)) only [qX4_init, uN_K, uN_C, uR_C, uI_C, hk, e1, e2, am_w1_i, am_w1_r, am_w1_x, am_w1_l, am_w1_w, va_rf_s, am_push_n, am_push_s, am_cs_0, am_cs_i, am_cs_l, am_cs_r, m_uI_K, m_uI_N, m_uI_R, m_uI_L, m_uI_I, m_uL_K, m_uL_N, m_uL_R, m_uL_I, m_uL_L, m_uR_K, m_uR_N, m_uR_I, m_uR_L, m_uR_R, true_and, and_true, true_implies, false_implies, not_true_eq_false, not_false_eq_true, if_true, if_false, false_and, and_false]
  exact Iff.rfl
theorem c_shp (d a : Nat) (M : am_M) (Q : Option Value → am_M → Prop) (hk : mK M a = 16) (ha : a < mC M) : am_E am_P0 d 64 [.ref a] M Q ↔ Q none (pa (shpE a (mC M)) M) := by
  rw [eX6_init]
  simp +decide (disch := first | omega | (simp only [uN_C, uR_C, uI_C]; omega)) only [qX6_init, uN_K, uN_C, uR_C, uI_C, hk, am_w1_i, am_w1_r, am_w1_x, am_w1_l, am_w1_w, va_rf_s, am_push_n, am_push_s, am_cs_0, am_cs_i, am_cs_l, am_cs_r, m_uI_K, m_uI_N, m_uI_R, m_uI_L, m_uI_I, m_uL_K, m_uL_N, m_uL_R, m_uL_I, m_uL_L, m_uR_K, m_uR_N, m_uR_I, m_uR_L, m_uR_R, true_and, and_true, true_implies, false_implies, not_true_eq_false, not_false_eq_true, if_true, if_false, false_and, and_false]
  exact Iff.rfl
theorem c_sgt (d a : Nat) (M : am_M) (Q : Option Value → am_M → Prop) (hk : mK M a = 17) (ha : a < mC M) : am_E am_P0 d 70 [.ref a] M Q ↔ Q none (pa (sgtE a (mC M)) M) := by
  rw [eX7_init]
  simp +decide (disch := first | omega | (simp only [uN_C, uR_C, uI_C]; omega)) only [qX7_init, uN_K, uN_C, uR_C, uI_C, hk, am_w1_i, am_w1_r, am_w1_x, am_w1_l, am_w1_w, va_rf_s, am_push_n, am_push_s, am_cs_0, am_cs_i, am_cs_l, am_cs_r, m_uI_K, m_uI_N, m_uI_R, m_uI_L, m_uI_I, m_uL_K, m_uL_N, m_uL_R, m_uL_I, m_uL_L, m_uR_K, m_uR_N, m_uR_I, m_uR_L, m_uR_R, true_and, and_true, true_implies, false_implies, not_true_eq_false, not_false_eq_true, if_true, if_false, false_and, and_false]
  exact Iff.rfl
theorem c_wat (d a : Nat) (M : am_M) (Q : Option Value → am_M → Prop) (hk : mK M a = 19) (ha : a < mC M) : am_E am_P0 d 101 [.ref a] M Q ↔ Q none (pa (watE a (mC M)) M) := by
  rw [eX9_init]
  simp +decide (disch := first | omega | (simp only [uN_C, uR_C, uI_C]; omega)) only [qX9_init, uN_K, uN_C, uR_C, uI_C, hk, am_w1_i, am_w1_r, am_w1_x, am_w1_l, am_w1_w, va_rf_s, am_push_n, am_push_s, am_cs_0, am_cs_i, am_cs_l, am_cs_r, m_uI_K, m_uI_N, m_uI_R, m_uI_L, m_uI_I, m_uL_K, m_uL_N, m_uL_R, m_uL_I, m_uL_L, m_uR_K, m_uR_N, m_uR_I, m_uR_L, m_uR_R, true_and, and_true, true_implies, false_implies, not_true_eq_false, not_false_eq_true, if_true, if_false, false_and, and_false]
  exact Iff.rfl
