/-! numbers: Int32 as small naturals; memories that agree -/
theorem ni_ti {n : Nat} (h : n < 2147483648) : (nI n).toInt = (n : Int) := by
  unfold nI
  rw [Int32.toInt_ofNat']
  have e : (Int32.size : Nat) = 4294967296 := rfl
  rw [e]
  simp only [Int.bmod]
  omega
theorem ni_tn {n : Nat} (h : n < 2147483648) : (nI n).toInt.toNat = n := by rw [ni_ti h]; omega
theorem ni_add (a b : Nat) : nI a + nI b = nI (a + b) := by unfold nI; rw [Int32.ofNat_add]
theorem ni_mul (a b : Nat) : nI a * nI b = nI (a * b) := by unfold nI; rw [Int32.ofNat_mul]
theorem ni_sub {a b : Nat} (h : b ≤ a) : nI a - nI b = nI (a - b) := by
  have e : nI a = nI (a - b) + nI b := by rw [ni_add]; congr 1; omega
  rw [e, Int32.add_sub_cancel]
theorem ni_lt {a b : Nat} (ha : a < 2147483648) (hb : b < 2147483648) : nI a < nI b ↔ a < b := by
  rw [Int32.lt_iff_toInt_lt, ni_ti ha, ni_ti hb]; omega
theorem ni_le {a b : Nat} (ha : a < 2147483648) (hb : b < 2147483648) : nI a ≤ nI b ↔ a ≤ b := by
  rw [Int32.le_iff_toInt_le, ni_ti ha, ni_ti hb]; omega
theorem ni_eq {a b : Nat} (ha : a < 2147483648) (hb : b < 2147483648) : nI a = nI b ↔ a = b := by
  rw [← Int32.toInt_inj, ni_ti ha, ni_ti hb]; omega
theorem ni_in {n N : Nat} (h : n < 2147483648) : am_in (nI n) N ↔ n < N := by
  show (0 ≤ (nI n).toInt ∧ (nI n).toInt < (N : Int)) ↔ _
  rw [ni_ti h]; omega
theorem am_in_of {i : Int32} {N n : Nat} (e : i = nI n) (h : n < N) (hN : N ≤ 2147483648) : am_in i N := by rw [e, ni_in (by omega)]; exact h
theorem am_ext {M M' : am_M} (h1 : ∀ a j, mI M a j = mI M' a j) (h2 : ∀ a j, mL M a j = mL M' a j) (h3 : ∀ a j, mR M a j = mR M' a j) (h4 : mS M = mS M') : M = M' := by
  obtain ⟨f, g, r, s⟩ := M
  obtain ⟨f', g', r', s'⟩ := M'
  have e1 : f = f' := funext fun a => funext fun j => h1 a j
  have e2 : g = g' := funext fun a => funext fun j => h2 a j
  have e3 : r = r' := funext fun a => funext fun j => h3 a j
  have e4 : s = s' := h4
  rw [e1, e2, e3, e4]
/-- four bytes of v into the cell t from n on; the field f of the cell o counts them -/
def put4 (M : am_M) (t o f n : Nat) (v : Int32) : am_M := uI (uI (uI (uI (uI M t n (v >>> 24 &&& 255)) t (n + 1) (v >>> 16 &&& 255)) t (n + 2) (v >>> 8 &&& 255)) t (n + 3) (v >>> 0 &&& 255)) o f (nI (n + 4))
theorem ni_in_t {n N : Nat} (h : n < 2147483648) (h2 : n < N) : am_in (nI n) N = True := eq_true ((ni_in h).mpr h2)
theorem ni_add1 (n : Nat) : nI n + 1 = nI (n + 1) := ni_add n 1
theorem ni_lt_t {a b : Nat} (ha : a < 2147483648) (hb : b < 2147483648) (h : a < b) : (nI a < nI b) = True := eq_true ((ni_lt ha hb).mpr h)
theorem ni_lt_f {a b : Nat} (ha : a < 2147483648) (hb : b < 2147483648) (h : b ≤ a) : (nI a < nI b) = False := eq_false (fun q => by rw [ni_lt ha hb] at q; omega)
theorem ni_le_t {a b : Nat} (ha : a < 2147483648) (hb : b < 2147483648) (h : a ≤ b) : (nI a ≤ nI b) = True := eq_true ((ni_le ha hb).mpr h)
theorem ni_le_f {a b : Nat} (ha : a < 2147483648) (hb : b < 2147483648) (h : b < a) : (nI a ≤ nI b) = False := eq_false (fun q => by rw [ni_le ha hb] at q; omega)
/-- a number written out -/
theorem ni_0 : (0 : Int32) = nI 0 := rfl
theorem ni_1 : (1 : Int32) = nI 1 := rfl
theorem put4_I (M : am_M) (t o f n : Nat) (v : Int32) (a j : Nat) : mI (put4 M t o f n v) a j = if a = o ∧ j = f then nI (n + 4) else if a = t ∧ j = n + 3 then v >>> 0 &&& 255 else if a = t ∧ j = n + 2 then v >>> 8 &&& 255 else if a = t ∧ j = n + 1 then v >>> 16 &&& 255 else if a = t ∧ j = n then v >>> 24 &&& 255 else mI M a j := rfl
theorem br_p {c A B : Prop} (h : c) : ((c → A) ∧ (¬ c → B)) ↔ A := ⟨fun q => q.1 h, fun a => ⟨fun _ => a, fun n => absurd h n⟩⟩
theorem br_n {c A B : Prop} (h : ¬ c) : ((c → A) ∧ (¬ c → B)) ↔ B := ⟨fun q => q.2 h, fun b => ⟨fun n => absurd n h, fun _ => b⟩⟩
theorem br_q {c A B : Prop} (h : ¬ c) : ((¬ c → A) ∧ (¬ ¬ c → B)) ↔ A := ⟨fun q => q.1 h, fun b => ⟨fun _ => b, fun n => absurd h n⟩⟩
theorem br_r {c A B : Prop} (h : c) : ((¬ c → A) ∧ (¬ ¬ c → B)) ↔ B := ⟨fun q => q.2 (fun n => n h), fun b => ⟨fun n => absurd h n, fun _ => b⟩⟩
theorem z32 : (0 : Int32).toInt = 0 := rfl
theorem lt32 {a b : Int32} : a < b ↔ a.toInt < b.toInt := Int32.lt_iff_toInt_lt
theorem le32 {a b : Int32} : a ≤ b ↔ a.toInt ≤ b.toInt := Int32.le_iff_toInt_le
