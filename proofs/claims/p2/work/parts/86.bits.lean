/-! how many bits are set -/
theorem land_split (p q m n : Nat) (hp : p < 256) (hm : m < 256) : (p + 256 * q) &&& (m + 256 * n) = (p &&& m) + 256 * (q &&& n) := by
  have e : ∀ a b : Nat, a < 256 → a + 256 * b = 2 ^ 8 * b + a := fun a b _ => by omega
  have hpm : p &&& m < 2 ^ 8 := Nat.lt_of_le_of_lt Nat.and_le_left hp
  rw [e p q hp, e m n hm, e (p &&& m) (q &&& n) hpm]
  refine Nat.eq_of_testBit_eq (fun i => ?_)
  rw [Nat.testBit_and, Nat.testBit_two_pow_mul_add _ (show p < 2 ^ 8 from hp), Nat.testBit_two_pow_mul_add _ (show m < 2 ^ 8 from hm), Nat.testBit_two_pow_mul_add _ hpm]
  split
  · rw [Nat.testBit_and]
  · rw [Nat.testBit_and]
def mkA (c : Nat) : Nat → Nat
  | 0 => 0
  | k + 1 => c + 256 * mkA c k
def pS1 (k x : Nat) : Nat := x - ((x / 2) &&& mkA 85 k)
def pS2 (k x : Nat) : Nat := (x &&& mkA 51 k) + ((x / 4) &&& mkA 51 k)
def pS3 (k x : Nat) : Nat := (x + x / 16) &&& mkA 15 k
theorem pb1 : ∀ b, b < 256 → ∀ c, c < 2 → (b / 2 + 128 * c) &&& 85 = (b / 2) &&& 85 ∧ (b / 2) &&& 85 ≤ b := by decide +kernel
theorem pS1_s (k b y : Nat) (hb : b < 256) : pS1 (k + 1) (b + 256 * y) = (b - ((b / 2) &&& 85)) + 256 * pS1 k y := by
  unfold pS1
  have e : (b + 256 * y) / 2 = (b / 2 + 128 * (y % 2)) + 256 * (y / 2) := by omega
  have h1 := pb1 b hb (y % 2) (by omega)
  have e2 : mkA 85 (k + 1) = 85 + 256 * mkA 85 k := rfl
  rw [e, e2, land_split _ _ _ _ (by omega) (by decide), h1.1]
  have h2 : (y / 2) &&& mkA 85 k ≤ y / 2 := Nat.and_le_left
  omega
theorem pb2 : ∀ b, b < 256 → ∀ c, c < 4 → (b / 4 + 64 * c) &&& 51 = (b / 4) &&& 51 ∧ (b &&& 51) + ((b / 4) &&& 51) < 256 := by decide +kernel
theorem pS2_s (k b y : Nat) (hb : b < 256) : pS2 (k + 1) (b + 256 * y) = ((b &&& 51) + ((b / 4) &&& 51)) + 256 * pS2 k y := by
  unfold pS2
  have e : (b + 256 * y) / 4 = (b / 4 + 64 * (y % 4)) + 256 * (y / 4) := by omega
  have h1 := pb2 b hb (y % 4) (by omega)
  have e2 : mkA 51 (k + 1) = 51 + 256 * mkA 51 k := rfl
  rw [e, e2, land_split b _ _ _ hb (by decide), land_split _ _ _ _ (by omega) (by decide), h1.1]
  omega
theorem pb3 : ∀ b, b < 69 → ∀ c, c < 5 → (b + (b / 16 + 16 * c)) &&& 15 = (b + b / 16) &&& 15 := by decide +kernel
theorem pS3_s (k b y : Nat) (hb : b < 69) (hy : y % 16 < 5) : pS3 (k + 1) (b + 256 * y) = ((b + b / 16) &&& 15) + 256 * pS3 k y := by
  unfold pS3
  have e : (b + 256 * y) + (b + 256 * y) / 16 = (b + (b / 16 + 16 * (y % 16))) + 256 * (y + y / 16) := by omega
  have h1 := pb3 b hb (y % 16) hy
  have e2 : mkA 15 (k + 1) = 15 + 256 * mkA 15 k := rfl
  rw [e, e2, land_split _ _ _ _ (by omega) (by decide), h1]
/-- the bits of a byte -/
def bc8 (b : Nat) : Nat := ((((b - ((b / 2) &&& 85)) &&& 51) + (((b - ((b / 2) &&& 85)) / 4) &&& 51)) + (((b - ((b / 2) &&& 85)) &&& 51) + (((b - ((b / 2) &&& 85)) / 4) &&& 51)) / 16) &&& 15
theorem bc8_ok : ∀ b, b < 256 → bc8 b = cnt (fun i => b.testBit i) 8 ∧ ((b - ((b / 2) &&& 85)) &&& 51) + (((b - ((b / 2) &&& 85)) / 4) &&& 51) < 69 ∧ (((b - ((b / 2) &&& 85)) &&& 51) + (((b - ((b / 2) &&& 85)) / 4) &&& 51)) % 16 < 5 := by decide +kernel
theorem pS_low (k b y : Nat) (hb : b < 256) : pS2 (k + 1) (pS1 (k + 1) (b + 256 * y)) = (((b - ((b / 2) &&& 85)) &&& 51) + (((b - ((b / 2) &&& 85)) / 4) &&& 51)) + 256 * pS2 k (pS1 k y) := by
  rw [pS1_s k b y hb, pS2_s k _ _ (by omega)]
theorem pS_16 (k x : Nat) : pS2 k (pS1 k x) % 16 < 5 := by
  cases k with
  | zero =>
    simp [pS2, pS1, mkA]
  | succ k =>
    have e : x = x % 256 + 256 * (x / 256) := by omega
    have h := bc8_ok (x % 256) (by omega)
    rw [e, pS_low k _ _ (by omega)]
    omega
theorem pS_all (k b y : Nat) (hb : b < 256) : pS3 (k + 1) (pS2 (k + 1) (pS1 (k + 1) (b + 256 * y))) = bc8 b + 256 * pS3 k (pS2 k (pS1 k y)) := by
  have h := bc8_ok b hb
  rw [pS_low k b y hb, pS3_s k _ _ h.2.1 (pS_16 k y)]
  rfl
theorem cnt_add (g : Nat → Bool) (m : Nat) : ∀ n, cnt g (m + n) = cnt g m + cnt (fun i => g (m + i)) n := by
  intro n
  induction n with
  | zero => rfl
  | succ n ih =>
    rw [← Nat.add_assoc, cnt_s, cnt_s, ih]
    omega
theorem cnt_byte (x n : Nat) : cnt (fun i => x.testBit i) (8 + n) = bc8 (x % 256) + cnt (fun i => (x / 256).testBit i) n := by
  rw [cnt_add, (bc8_ok (x % 256) (by omega)).1]
  congr 1
  · refine cnt_ext (fun t ht => ?_)
    show x.testBit t = (x % 2 ^ 8).testBit t
    rw [Nat.testBit_mod_two_pow]
    simp [ht]
  · refine cnt_ext (fun t ht => ?_)
    show x.testBit (8 + t) = (x / 2 ^ 8).testBit t
    rw [Nat.testBit_div_two_pow, Nat.add_comm]
theorem bc8_le (b : Nat) (hb : b < 256) : bc8 b ≤ 8 := by
  rw [(bc8_ok b hb).1]
  exact cnt_le _ _
theorem sw_dv (a k y : Nat) (h : a < k) : (a + k * y) / k = y := by
  rw [Nat.add_mul_div_left _ _ (by omega), Nat.div_eq_of_lt h, Nat.zero_add]
theorem sw_md (a k y : Nat) (h : a < k) : (a + k * y) % k = a := by
  rw [Nat.add_mul_mod_self_left, Nat.mod_eq_of_lt h]
theorem sw1 (c0 c1 c2 c3 c4 c5 c6 c7 t : Nat) (b0 : c0 ≤ 8) (b1 : c1 ≤ 8) (b2 : c2 ≤ 8) (b3 : c3 ≤ 8) (b4 : c4 ≤ 8) (b5 : c5 ≤ 8) (b6 : c6 ≤ 8) (b7 : c7 ≤ 8) (ht : t = c0 + 256 * (c1 + 256 * (c2 + 256 * (c3 + 256 * (c4 + 256 * (c5 + 256 * (c6 + 256 * (c7 + 256 * 0)))))))) :
   t + t / 256 < 2 ^ 62 ∧ (t + t / 256) + (t + t / 256) / 65536 < 2 ^ 63 ∧ ((t + t / 256) + (t + t / 256) / 65536) + ((t + t / 256) + (t + t / 256) / 65536) / 4294967296 < 2 ^ 64 ∧ (((t + t / 256) + (t + t / 256) / 65536) + ((t + t / 256) + (t + t / 256) / 65536) / 4294967296) % 128 = c0 + (c1 + (c2 + (c3 + (c4 + (c5 + (c6 + (c7 + 0))))))) := by
  rw [Nat.mul_zero, Nat.add_zero] at ht
  have q1 : t / 256 = c1 + 256 * (c2 + 256 * (c3 + 256 * (c4 + 256 * (c5 + 256 * (c6 + 256 * c7))))) := by
    rw [ht, sw_dv _ _ _ (by omega)]
  have u1 : t + t / 256 = ((c0 + c1) + 256 * (c1 + c2)) + 65536 * ((c2 + c3) + 256 * ((c3 + c4) + 256 * ((c4 + c5) + 256 * ((c5 + c6) + 256 * ((c6 + c7) + 256 * c7))))) := by
    rw [q1, ht]; clear ht q1; omega
  rw [u1]
  have u2 : (((c0 + c1) + 256 * (c1 + c2)) + 65536 * ((c2 + c3) + 256 * ((c3 + c4) + 256 * ((c4 + c5) + 256 * ((c5 + c6) + 256 * ((c6 + c7) + 256 * c7)))))) / 65536 = ((c2 + c3) + 256 * ((c3 + c4) + 256 * ((c4 + c5) + 256 * ((c5 + c6) + 256 * ((c6 + c7) + 256 * c7))))) := sw_dv _ _ _ (by clear ht q1 u1; omega)
  rw [u2]
  have u3 : ((c0 + c1) + 256 * (c1 + c2)) + 65536 * ((c2 + c3) + 256 * ((c3 + c4) + 256 * ((c4 + c5) + 256 * ((c5 + c6) + 256 * ((c6 + c7) + 256 * c7))))) + ((c2 + c3) + 256 * ((c3 + c4) + 256 * ((c4 + c5) + 256 * ((c5 + c6) + 256 * ((c6 + c7) + 256 * c7))))) = ((c0 + c1 + c2 + c3) + 256 * (c1 + c2 + c3 + c4) + 65536 * (c2 + c3 + c4 + c5) + 16777216 * (c3 + c4 + c5 + c6)) + 4294967296 * ((c4 + c5 + c6 + c7) + 256 * ((c5 + c6 + c7) + 256 * ((c6 + c7) + 256 * c7))) := by
    clear ht q1 u1 u2; omega
  rw [u3, sw_dv _ 4294967296 _ (by clear ht q1 u1 u2 u3; omega)]
  clear ht q1 u1 u2 u3
  refine ⟨by omega, by omega, by omega, ?_⟩
  have e : ((c0 + c1 + c2 + c3) + 256 * (c1 + c2 + c3 + c4) + 65536 * (c2 + c3 + c4 + c5) + 16777216 * (c3 + c4 + c5 + c6)) + 4294967296 * ((c4 + c5 + c6 + c7) + 256 * ((c5 + c6 + c7) + 256 * ((c6 + c7) + 256 * c7))) + ((c4 + c5 + c6 + c7) + 256 * ((c5 + c6 + c7) + 256 * ((c6 + c7) + 256 * c7))) = (c0 + (c1 + (c2 + (c3 + (c4 + (c5 + (c6 + (c7 + 0)))))))) + 128 * (2 * ((c1 + c2 + c3 + c4) + (c5 + c6 + c7) + 256 * ((c2 + c3 + c4 + c5) + (c6 + c7) + 256 * ((c3 + c4 + c5 + c6) + c7 + 256 * ((c4 + c5 + c6 + c7) + 256 * ((c5 + c6 + c7) + 256 * ((c6 + c7) + 256 * c7))))))) := by omega
  rw [e, sw_md _ _ _ (by clear e; omega)]
theorem pc_all (x : Nat) (t : Nat) (ht : t = pS3 8 (pS2 8 (pS1 8 x))) : t + t / 256 < 2 ^ 62 ∧ (t + t / 256) + (t + t / 256) / 65536 < 2 ^ 63 ∧ ((t + t / 256) + (t + t / 256) / 65536) + ((t + t / 256) + (t + t / 256) / 65536) / 4294967296 < 2 ^ 64 ∧ (((t + t / 256) + (t + t / 256) / 65536) + ((t + t / 256) + (t + t / 256) / 65536) / 4294967296) % 128 = cnt (fun i => x.testBit i) 64 := by
  have go : ∀ k y, pS3 (k + 1) (pS2 (k + 1) (pS1 (k + 1) y)) = bc8 (y % 256) + 256 * pS3 k (pS2 k (pS1 k (y / 256))) := fun k y => by
    have e : y = y % 256 + 256 * (y / 256) := by omega
    rw [← pS_all k (y % 256) (y / 256) (by omega), ← e]
  have z0 : ∀ y, pS3 0 y = 0 := fun y => by unfold pS3 mkA; rw [Nat.and_zero]
  have hb : ∀ y, bc8 (y % 256) ≤ 8 := fun y => bc8_le _ (by omega)
  have k0 : cnt (fun i => (x).testBit i) 64 = bc8 ((x) % 256) + cnt (fun i => (x / 256).testBit i) 56 := cnt_byte (x) 56
  have g0 : pS3 8 (pS2 8 (pS1 8 (x))) = bc8 ((x) % 256) + 256 * pS3 7 (pS2 7 (pS1 7 (x / 256))) := go 7 (x)
  have k1 : cnt (fun i => (x / 256).testBit i) 56 = bc8 ((x / 256) % 256) + cnt (fun i => (x / 256 / 256).testBit i) 48 := cnt_byte (x / 256) 48
  have g1 : pS3 7 (pS2 7 (pS1 7 (x / 256))) = bc8 ((x / 256) % 256) + 256 * pS3 6 (pS2 6 (pS1 6 (x / 256 / 256))) := go 6 (x / 256)
  have k2 : cnt (fun i => (x / 256 / 256).testBit i) 48 = bc8 ((x / 256 / 256) % 256) + cnt (fun i => (x / 256 / 256 / 256).testBit i) 40 := cnt_byte (x / 256 / 256) 40
  have g2 : pS3 6 (pS2 6 (pS1 6 (x / 256 / 256))) = bc8 ((x / 256 / 256) % 256) + 256 * pS3 5 (pS2 5 (pS1 5 (x / 256 / 256 / 256))) := go 5 (x / 256 / 256)
  have k3 : cnt (fun i => (x / 256 / 256 / 256).testBit i) 40 = bc8 ((x / 256 / 256 / 256) % 256) + cnt (fun i => (x / 256 / 256 / 256 / 256).testBit i) 32 := cnt_byte (x / 256 / 256 / 256) 32
  have g3 : pS3 5 (pS2 5 (pS1 5 (x / 256 / 256 / 256))) = bc8 ((x / 256 / 256 / 256) % 256) + 256 * pS3 4 (pS2 4 (pS1 4 (x / 256 / 256 / 256 / 256))) := go 4 (x / 256 / 256 / 256)
  have k4 : cnt (fun i => (x / 256 / 256 / 256 / 256).testBit i) 32 = bc8 ((x / 256 / 256 / 256 / 256) % 256) + cnt (fun i => (x / 256 / 256 / 256 / 256 / 256).testBit i) 24 := cnt_byte (x / 256 / 256 / 256 / 256) 24
  have g4 : pS3 4 (pS2 4 (pS1 4 (x / 256 / 256 / 256 / 256))) = bc8 ((x / 256 / 256 / 256 / 256) % 256) + 256 * pS3 3 (pS2 3 (pS1 3 (x / 256 / 256 / 256 / 256 / 256))) := go 3 (x / 256 / 256 / 256 / 256)
  have k5 : cnt (fun i => (x / 256 / 256 / 256 / 256 / 256).testBit i) 24 = bc8 ((x / 256 / 256 / 256 / 256 / 256) % 256) + cnt (fun i => (x / 256 / 256 / 256 / 256 / 256 / 256).testBit i) 16 := cnt_byte (x / 256 / 256 / 256 / 256 / 256) 16
  have g5 : pS3 3 (pS2 3 (pS1 3 (x / 256 / 256 / 256 / 256 / 256))) = bc8 ((x / 256 / 256 / 256 / 256 / 256) % 256) + 256 * pS3 2 (pS2 2 (pS1 2 (x / 256 / 256 / 256 / 256 / 256 / 256))) := go 2 (x / 256 / 256 / 256 / 256 / 256)
  have k6 : cnt (fun i => (x / 256 / 256 / 256 / 256 / 256 / 256).testBit i) 16 = bc8 ((x / 256 / 256 / 256 / 256 / 256 / 256) % 256) + cnt (fun i => (x / 256 / 256 / 256 / 256 / 256 / 256 / 256).testBit i) 8 := cnt_byte (x / 256 / 256 / 256 / 256 / 256 / 256) 8
  have g6 : pS3 2 (pS2 2 (pS1 2 (x / 256 / 256 / 256 / 256 / 256 / 256))) = bc8 ((x / 256 / 256 / 256 / 256 / 256 / 256) % 256) + 256 * pS3 1 (pS2 1 (pS1 1 (x / 256 / 256 / 256 / 256 / 256 / 256 / 256))) := go 1 (x / 256 / 256 / 256 / 256 / 256 / 256)
  have k7 : cnt (fun i => (x / 256 / 256 / 256 / 256 / 256 / 256 / 256).testBit i) 8 = bc8 ((x / 256 / 256 / 256 / 256 / 256 / 256 / 256) % 256) + cnt (fun i => (x / 256 / 256 / 256 / 256 / 256 / 256 / 256 / 256).testBit i) 0 := cnt_byte (x / 256 / 256 / 256 / 256 / 256 / 256 / 256) 0
  have g7 : pS3 1 (pS2 1 (pS1 1 (x / 256 / 256 / 256 / 256 / 256 / 256 / 256))) = bc8 ((x / 256 / 256 / 256 / 256 / 256 / 256 / 256) % 256) + 256 * pS3 0 (pS2 0 (pS1 0 (x / 256 / 256 / 256 / 256 / 256 / 256 / 256 / 256))) := go 0 (x / 256 / 256 / 256 / 256 / 256 / 256 / 256)
  have e0 : ∀ g : Nat → Bool, cnt g 0 = 0 := fun _ => rfl
  rw [g0, g1, g2, g3, g4, g5, g6, g7, z0] at ht
  rw [k0, k1, k2, k3, k4, k5, k6, k7, e0]
  exact sw1 _ _ _ _ _ _ _ _ t (hb _) (hb _) (hb _) (hb _) (hb _) (hb _) (hb _) (hb _) ht
def jN (x : Int64) : Nat := x.toBitVec.toNat
theorem jN_lt (x : Int64) : jN x < 2 ^ 64 := x.toBitVec.isLt
theorem jN_and (x y : Int64) : jN (x &&& y) = jN x &&& jN y := by unfold jN; rw [Int64.toBitVec_and, BitVec.toNat_and]
theorem jN_add (x y : Int64) (h : jN x + jN y < 2 ^ 64) : jN (x + y) = jN x + jN y := by
  unfold jN at *; rw [Int64.toBitVec_add, BitVec.toNat_add, Nat.mod_eq_of_lt h]
theorem jN_sub (x y : Int64) (h : jN y ≤ jN x) : jN (x - y) = jN x - jN y := by
  unfold jN at *
  have h1 := x.toBitVec.isLt
  have h2 := y.toBitVec.isLt
  rw [Int64.toBitVec_sub, BitVec.toNat_sub]
  omega
theorem jN_shr (x : Int64) (y : UInt64) (k : Nat) (hy : y.toNat % 64 = k) : jN (x.toUInt64 >>> y).toInt64 = jN x / 2 ^ k := by
  subst hy
  rw [← Nat.shiftRight_eq_div_pow]
  show (x.toUInt64 >>> y).toNat = _
  rw [UInt64.toNat_shiftRight]
  rfl
theorem jN_127 (x : Int64) : x.toInt32 &&& 127 = nI (jN x % 128) := by
  apply Int32.toBitVec_inj.mp
  apply BitVec.eq_of_toNat_eq
  have h1 : x.toInt32.toBitVec = x.toBitVec.setWidth 32 := by rw [Int64.toBitVec_toInt32, BitVec.signExtend_eq_setWidth_of_le _ (by decide)]
  have h2 : (nI (jN x % 128)).toBitVec.toNat = jN x % 128 := by
    show (Int32.ofNat (jN x % 128)).toBitVec.toNat = _
    rw [Int32.toBitVec_ofNat', BitVec.toNat_ofNat]
    omega
  rw [Int32.toBitVec_and, BitVec.toNat_and, h1, BitVec.toNat_setWidth, h2]
  show (jN x % 2 ^ 32) &&& (2 ^ 7 - 1) = _
  rw [Nat.and_two_pow_sub_one_eq_mod]
  omega
theorem bt_count (x x1 x2 x3 x4 x5 x6 : Int64) (h1 : x1 = x - ((x.toUInt64 >>> ((1 : Int32).toInt64 &&& 63).toUInt64).toInt64 &&& 6148914691236517205)) (h2 : x2 = (x1 &&& 3689348814741910323) + ((x1.toUInt64 >>> ((2 : Int32).toInt64 &&& 63).toUInt64).toInt64 &&& 3689348814741910323)) (h3 : x3 = (x2 + (x2.toUInt64 >>> ((4 : Int32).toInt64 &&& 63).toUInt64).toInt64) &&& 1085102592571150095)
    (h4 : x4 = x3 + (x3.toUInt64 >>> ((8 : Int32).toInt64 &&& 63).toUInt64).toInt64) (h5 : x5 = x4 + (x4.toUInt64 >>> ((16 : Int32).toInt64 &&& 63).toUInt64).toInt64) (h6 : x6 = x5 + (x5.toUInt64 >>> ((32 : Int32).toInt64 &&& 63).toUInt64).toInt64) : x6.toInt32 &&& 127 = nI (cnt (fun i => sbit x i) 64) := by
  have hc := pc_all (jN x) _ rfl
  have m1 : jN 6148914691236517205 = mkA 85 8 := by decide +kernel
  have m2 : jN 3689348814741910323 = mkA 51 8 := by decide +kernel
  have m3 : jN 1085102592571150095 = mkA 15 8 := by decide +kernel
  have n1 : jN x1 = pS1 8 (jN x) := by
    rw [h1, jN_sub]
    · rw [jN_and, jN_shr x _ 1 (by decide +kernel), m1]; rfl
    · rw [jN_and, jN_shr x _ 1 (by decide +kernel)]
      exact Nat.le_trans Nat.and_le_left (Nat.div_le_self _ _)
  have b51 : mkA 51 8 < 2 ^ 62 := by decide +kernel
  have n2 : jN x2 = pS2 8 (pS1 8 (jN x)) := by
    rw [h2, jN_add]
    · rw [jN_and, jN_and, jN_shr x1 _ 2 (by decide +kernel), m2, n1]; rfl
    · rw [jN_and, jN_and, m2]
      have a1 : jN x1 &&& mkA 51 8 ≤ mkA 51 8 := Nat.and_le_right
      have a2 : jN (x1.toUInt64 >>> ((2 : Int32).toInt64 &&& 63).toUInt64).toInt64 &&& mkA 51 8 ≤ mkA 51 8 := Nat.and_le_right
      omega
  have l2 : jN x2 < 2 ^ 63 := by
    rw [n2]
    unfold pS2
    have a1 : pS1 8 (jN x) &&& mkA 51 8 ≤ mkA 51 8 := Nat.and_le_right
    have a2 : pS1 8 (jN x) / 4 &&& mkA 51 8 ≤ mkA 51 8 := Nat.and_le_right
    omega
  have n3 : jN x3 = pS3 8 (pS2 8 (pS1 8 (jN x))) := by
    rw [h3, jN_and, m3, jN_add]
    · rw [jN_shr x2 _ 4 (by decide +kernel), n2]; rfl
    · rw [jN_shr x2 _ 4 (by decide +kernel)]
      omega
  rw [← n3] at hc
  have n4 : jN x4 = jN x3 + jN x3 / 256 := by
    rw [h4, jN_add]
    · rw [jN_shr x3 _ 8 (by decide +kernel)]
    · rw [jN_shr x3 _ 8 (by decide +kernel)]
      have := hc.1
      omega
  rw [← n4] at hc
  have n5 : jN x5 = jN x4 + jN x4 / 65536 := by
    rw [h5, jN_add]
    · rw [jN_shr x4 _ 16 (by decide +kernel)]
    · rw [jN_shr x4 _ 16 (by decide +kernel)]
      have := hc.2.1
      omega
  rw [← n5] at hc
  have n6 : jN x6 = jN x5 + jN x5 / 4294967296 := by
    rw [h6, jN_add]
    · rw [jN_shr x5 _ 32 (by decide +kernel)]
    · rw [jN_shr x5 _ 32 (by decide +kernel)]
      have := hc.2.2.1
      omega
  rw [← n6] at hc
  rw [jN_127, hc.2.2.2]
  rfl
theorem c_bitCount (d : Nat) (x : Int64) (M : am_M) (Q : Option Value → am_M → Prop) : am_E am_P0 d 303 [.long x] M Q ↔ Q (some (.int (nI (cnt (fun i => sbit x i) 64)))) M := by
  rw [eJ13_bitCount_95d88]
  simp only [qJ13_bitCount_95d88_0, qJ13_bitCount_95d88_1, am_w1_i, am_w1_r, am_w1_x, am_w1_l, am_w1_w, va_rf_s, am_push_n, am_push_s, am_cs_0, am_cs_i, am_cs_l, am_cs_r, m_uI_K, m_uI_N, m_uI_R, m_uI_L, m_uI_I, m_uL_K, m_uL_N, m_uL_R, m_uL_I, m_uL_L, m_uR_K, m_uR_N, m_uR_I, m_uR_L, m_uR_R, true_and, and_true]
  rw [bt_count x _ _ _ _ _ _ rfl rfl rfl rfl rfl rfl]
