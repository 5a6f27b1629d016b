/-! letter -/
theorem sra {x j : Nat} (hx : x < 2147483648) (hj : j < 32) : nI x >>> nI j = nI (x / 2 ^ j) := by
  apply Int32.toBitVec_inj.mp
  rw [Int32.toBitVec_shiftRight]
  have e1 : (nI j).toBitVec.smod 32 = BitVec.ofNat 32 j := by
    have : ∀ j, j < 32 → (nI j).toBitVec.smod 32 = BitVec.ofNat 32 j := by decide
    exact this j hj
  rw [e1]
  have e2 : (nI x).toBitVec = BitVec.ofNat 32 x := rfl
  have e3 : (nI (x / 2 ^ j)).toBitVec = BitVec.ofNat 32 (x / 2 ^ j) := rfl
  rw [e2, e3, BitVec.sshiftRight_eq', BitVec.sshiftRight_eq_of_msb_false]
  · apply BitVec.eq_of_toNat_eq
    rw [BitVec.toNat_ushiftRight, BitVec.toNat_ofNat, BitVec.toNat_ofNat, BitVec.toNat_ofNat, Nat.shiftRight_eq_div_pow, Nat.mod_eq_of_lt (a := x) (by omega), Nat.mod_eq_of_lt (a := j) (by omega)]
    have : x / 2 ^ j ≤ x := Nat.div_le_self _ _
    rw [Nat.mod_eq_of_lt (by omega)]
  · rw [BitVec.msb_eq_decide]
    simp
    omega
theorem an31 {x : Nat} (hx : x < 2147483648) : nI x &&& 31 = nI (x % 32) := by
  apply Int32.toBitVec_inj.mp
  apply BitVec.eq_of_toNat_eq
  show ((nI x).toBitVec &&& (31 : Int32).toBitVec).toNat = _
  have e2 : (nI x).toBitVec = BitVec.ofNat 32 x := rfl
  have e3 : (nI (x % 32)).toBitVec = BitVec.ofNat 32 (x % 32) := rfl
  rw [BitVec.toNat_and, e2, e3, BitVec.toNat_ofNat, BitVec.toNat_ofNat, Nat.mod_eq_of_lt (a := x) (by omega), Nat.mod_eq_of_lt (a := x % 32) (by omega)]
  exact Nat.and_two_pow_sub_one_eq_mod x 5
theorem i64_l2i {n : Nat} : (Int64.ofNat n).toInt32 = nI n := by
  simp [nI]
theorem jN_inj {x y : Int64} (h : jN x = jN y) : x = y := Int64.toBitVec_inj.mp (BitVec.eq_of_toNat_eq h)
theorem jN_of {n : Nat} (h : n < 2 ^ 64) : jN (Int64.ofNat n) = n := by
  show (BitVec.ofNat 64 n).toNat = n
  rw [BitVec.toNat_ofNat, Nat.mod_eq_of_lt h]
theorem pkL_dig : ∀ (l : List Nat), isWd l → ∀ k, pkL l / 32 ^ k % 32 = (match l[k]? with | some c => c - 96 | none => 0) := by
  intro l
  induction l with
  | nil => intro _ k; simp [pkL]
  | cons c r ih =>
    intro hl k
    have hc := hl c (List.mem_cons_self ..)
    cases k with
    | zero =>
      show ((c - 96) + 32 * pkL r) / 32 ^ 0 % 32 = c - 96
      rw [Nat.pow_zero, Nat.div_one]
      omega
    | succ k =>
      show ((c - 96) + 32 * pkL r) / 32 ^ (k + 1) % 32 = _
      rw [Nat.pow_succ, Nat.mul_comm (32 ^ k) 32, ← Nat.div_div_eq_div_mul, show ((c - 96) + 32 * pkL r) / 32 = pkL r by omega, ih (fun x hx => hl x (List.mem_cons_of_mem _ hx)) k]
      rfl
theorem wdN_dig : ∀ (l : List Nat), isWd l → ∀ a k c, l[k]? = some c → wdN l a / 256 ^ (l.length - 1 - k) % 256 = c := by
  intro l
  induction l with
  | nil => intro _ a k c h; cases h
  | cons x r ih =>
    intro hl a k c h
    have hx := hl x (List.mem_cons_self ..)
    have hr : isWd r := fun y hy => hl y (List.mem_cons_of_mem _ hy)
    cases k with
    | zero =>
      have e : x = c := Option.some.inj h
      subst e
      show wdN r (a * 256 + x) / 256 ^ (r.length + 1 - 1 - 0) % 256 = x
      obtain ⟨b1, b2⟩ := wdN_bd r hr (a * 256 + x)
      have e1 : wdN r (a * 256 + x) / 256 ^ (r.length + 1 - 1 - 0) = a * 256 + x := by
        rw [show r.length + 1 - 1 - 0 = r.length by omega]
        have hp : 0 < 256 ^ r.length := Nat.pow_pos (by omega)
        apply Nat.le_antisymm
        · exact Nat.le_of_lt_succ ((Nat.div_lt_iff_lt_mul hp).mpr b2)
        · exact (Nat.le_div_iff_mul_le hp).mpr b1
      rw [e1]
      omega
    | succ k =>
      have h' : r[k]? = some c := h
      have hk := (List.getElem?_eq_some_iff.mp h').1
      have := ih hr (a * 256 + x) k c h'
      show wdN r (a * 256 + x) / 256 ^ (r.length + 1 - 1 - (k + 1)) % 256 = c
      rw [show r.length + 1 - 1 - (k + 1) = r.length - 1 - k by omega]
      exact this
/-- the k-th letter of a name -/
def ltI (l : List Nat) (k : Int32) : Int32 := if 0 ≤ k.toInt then (match l[k.toInt.toNat]? with | some c => nI c | none => -1) else -1
def aLet (v k : Int32) (D : Dat) : Value := .int (if 0 ≤ v.toInt ∧ v.toInt < dN D then ltI (dSp D v.toInt.toNat).1 k else -1)
theorem x_letter (v k : Int32) : XqO 114 [.int v, .int k] (aLet v k) := by
  intro d M z D Q hD h hQ
  have h0 := hQ M (XR_2 h) h
  have hz := h.1.2.2.1
  have hL := h.1.1
  have hr := h.1.2.2.2.1
  have n8 := dN_8 hD
  have eS := fun v Q => x_isShip hD h (d + 19) v Q
  unfold aLet at h0
  rw [eX10_letter]
  simp +decide only [qX10_letter, lx hL, lz hL hz, hr, eS, bI_0, am_w1_i, am_w1_r, am_w1_x, am_w1_l, am_w1_w, va_rf_s, am_push_n, am_push_s, am_cs_0, am_cs_i, am_cs_l, am_cs_r, m_uI_K, m_uI_N, m_uI_R, m_uI_L, m_uI_I, m_uL_K, m_uL_N, m_uL_R, m_uL_I, m_uL_L, m_uR_K, m_uR_N, m_uR_I, m_uR_L, m_uR_R, true_and, and_true, true_implies, false_implies, not_true_eq_false, not_false_eq_true, if_true, if_false, false_and, and_false]
  by_cases hv : 0 ≤ v.toInt ∧ v.toInt < dN D
  · rw [if_pos hv] at h0
    rw [br_r hv]
    obtain ⟨s, s1, s2, s3⟩ := sh_of (by omega) hv
    rw [s3] at h0
    by_cases k0 : k < 0
    · rw [br_p k0]
      unfold ltI at h0
      rw [if_neg (by rw [lt32, z32] at k0; omega)] at h0
      exact h0
    · rw [br_n k0]
      have k0' : 0 ≤ k.toInt := by rw [lt32, z32] at k0; omega
      have c6 : (6 : Int32).toInt = 6 := rfl
      unfold ltI at h0
      rw [if_pos k0'] at h0
      have hok := dSp_ok hD.1 s1
      by_cases k6 : k < 6
      · have k6' : k.toInt < 6 := by rw [lt32, c6] at k6; exact k6
        rw [br_p k6, s2]
        obtain ⟨n, hn⟩ : ∃ n, k.toInt.toNat = n := ⟨_, rfl⟩
        have hn6 : n < 6 := by omega
        have ek : k = nI n := i32_of (by omega) (by omega)
        rw [hn] at h0
        rw [ek]
        have e5 : (5 : Int32) * nI n = nI (5 * n) := by rw [show (5 : Int32) = nI 5 from rfl, ni_mul]
        have e31 : nI (5 * n) &&& 31 = nI (5 * n) := by rw [an31 (by omega), Nat.mod_eq_of_lt (by omega)]
        have hpl := pkL_lt _ hok.1
        have h30 : pkL (dSp D s).1 < 2 ^ 30 := by
          refine Nat.lt_of_lt_of_le hpl ?_
          rw [show (2 : Nat) ^ 30 = 32 ^ 6 from by decide]
          exact Nat.pow_le_pow_right (by omega) hok.2.2.1
        have hsr : nI (pkL (dSp D s).1) >>> nI (5 * n) = nI (pkL (dSp D s).1 / 2 ^ (5 * n)) := sra (by omega) (by omega)
        have hdl : pkL (dSp D s).1 / 2 ^ (5 * n) ≤ pkL (dSp D s).1 := Nat.div_le_self _ _
        have h31 : nI (pkL (dSp D s).1 / 2 ^ (5 * n)) &&& 31 = nI (pkL (dSp D s).1 / 2 ^ (5 * n) % 32) := an31 (by omega)
        have hdg := pkL_dig _ hok.1 n
        rw [show (32 : Nat) ^ n = 2 ^ (5 * n) from by rw [Nat.pow_mul]] at hdg
        have hsh := lsh hL hz (s := s) (by omega)
        have hk16 : mK M (z + 25 + 7 * s) = 16 := (lw_ hL (isSh_z hz (by omega))).1
        have h00 := (x_ship h s1).1.1
        simp +decide (disch := omega) only [qX10_letter, lx hL, lz hL hz, hr, hsh, hk16, h00, ni_in_t, ni_tn, e5, e31, hsr, h31, hdg, am_w1_i, am_w1_r, am_w1_x, am_w1_l, am_w1_w, va_rf_s, am_push_n, am_push_s, am_cs_0, am_cs_i, am_cs_l, am_cs_r, m_uI_K, m_uI_N, m_uI_R, m_uI_L, m_uI_I, m_uL_K, m_uL_N, m_uL_R, m_uL_I, m_uL_L, m_uR_K, m_uR_N, m_uR_I, m_uR_L, m_uR_R, true_and, and_true, true_implies, false_implies, not_true_eq_false, not_false_eq_true, if_true, if_false, false_and, and_false]
        cases hc : (dSp D s).1[n]? with
        | none =>
          rw [hc] at h0
          simp +decide only [show nI 0 = (0 : Int32) from rfl, am_w1_i, am_w1_r, am_w1_x, am_w1_l, am_w1_w, va_rf_s, am_push_n, am_push_s, am_cs_0, am_cs_i, am_cs_l, am_cs_r, m_uI_K, m_uI_N, m_uI_R, m_uI_L, m_uI_I, m_uL_K, m_uL_N, m_uL_R, m_uL_I, m_uL_L, m_uR_K, m_uR_N, m_uR_I, m_uR_L, m_uR_R, true_and, and_true, true_implies, false_implies, not_true_eq_false, not_false_eq_true, if_true, if_false, false_and, and_false]
          exact h0
        | some c =>
          rw [hc] at h0
          have hcw := hok.1 c (List.mem_of_getElem? hc)
          have hne : ¬ nI (c - 96) = 0 := by rw [show (0 : Int32) = nI 0 from rfl, ni_eq (by omega) (by omega)]; omega
          have e96 : nI (c - 96) + 96 = nI c := by rw [show (96 : Int32) = nI 96 from rfl, ni_add]; congr 1; omega
          dsimp only
          rw [br_q hne, e96]
          exact h0
      · rw [br_n k6]
        have k6' : 6 ≤ k.toInt := by rw [lt32, c6] at k6; omega
        rw [List.getElem?_eq_none (by have := hok.2.2.1; omega)] at h0
        exact h0
  · rw [if_neg hv] at h0
    rw [br_q hv]
    exact h0
theorem l_m_letter (d : Nat) (v k : Int32) (l : List Nat) (hl : isWd l) (h1 : 1 ≤ l.length) (h6 : l.length ≤ 6) (M : am_M) (Q : Option Value → am_M → Prop) (h0 : Q (some (.int (ltI l k))) M) :
    ∀ (m i : Nat), i + m = l.length → am_P am_P0 d (am_look tX11_letter) 31 [.ref 277, .int v, .int k, .long (wdL l), am_x, .int (nI i), .long (Int64.ofNat (wdN l 0 / 256 ^ i)), am_x] [] M Q := by
  obtain ⟨b1, b2⟩ := wdN_bd l hl 0
  have hge := wdN_ge hl h1
  have hlt : wdN l 0 < 2 ^ 48 := by
    refine Nat.lt_of_lt_of_le b2 ?_
    rw [Nat.zero_add, Nat.one_mul, show (2 : Nat) ^ 48 = 256 ^ 6 from by decide]
    exact Nat.pow_le_pow_right (by omega) h6
  intro m
  induction m with
  | zero =>
    intro i hi
    have ei : i = l.length := by omega
    have e0 : wdN l 0 / 256 ^ i = 0 := by rw [ei]; exact Nat.div_eq_of_lt (by rw [Nat.zero_add, Nat.one_mul] at b2; exact b2)
    have c0 : lg_cmp (Int64.ofNat 0) 0 = 0 := by decide
    rw [hX11_letter_31, e0]
    simp +decide only [qX11_letter_0, qX11_letter_1, c0, am_w1_i, am_w1_r, am_w1_x, am_w1_l, am_w1_w, va_rf_s, am_push_n, am_push_s, am_cs_0, am_cs_i, am_cs_l, am_cs_r, m_uI_K, m_uI_N, m_uI_R, m_uI_L, m_uI_I, m_uL_K, m_uL_N, m_uL_R, m_uL_I, m_uL_L, m_uR_K, m_uR_N, m_uR_I, m_uR_L, m_uR_R, true_and, and_true, true_implies, false_implies, not_true_eq_false, not_false_eq_true, if_true, if_false, false_and, and_false]
    unfold ltI at h0
    by_cases k0 : k < 0
    · rw [br_p k0]
      rw [if_neg (by rw [lt32, z32] at k0; omega)] at h0
      exact h0
    · rw [br_n k0]
      have k0' : 0 ≤ k.toInt := by rw [lt32, z32] at k0; omega
      rw [if_pos k0'] at h0
      by_cases kl : k < nI i
      · rw [br_p kl]
        have kl' : k.toInt < i := by rw [lt32, ni_ti (by omega)] at kl; exact kl
        obtain ⟨n, hn⟩ : ∃ n, k.toInt.toNat = n := ⟨_, rfl⟩
        have ek : k = nI n := i32_of (by omega) (by omega)
        rw [hn] at h0
        have hnl : n < l.length := by omega
        rw [List.getElem?_eq_getElem hnl] at h0
        have hdg := wdN_dig l hl 0 n l[n] (List.getElem?_eq_getElem hnl)
        have e8 : (8 : Int32) * (nI i - 1 - nI n) = nI (8 * (l.length - 1 - n)) := by
          rw [show (1 : Int32) = nI 1 from rfl, ni_sub (by omega), ni_sub (by omega), show (8 : Int32) = nI 8 from rfl, ni_mul, ei]
        have hy : ((nI (8 * (l.length - 1 - n))).toInt64 &&& 63).toUInt64.toNat % 64 = 8 * (l.length - 1 - n) := sh_u _ (by omega)
        have hj := jN_shr (wdL l) ((nI (8 * (l.length - 1 - n))).toInt64 &&& 63).toUInt64 _ hy
        rw [show jN (wdL l) = wdN l 0 from jN_of (by omega), show (2 : Nat) ^ (8 * (l.length - 1 - n)) = 256 ^ (l.length - 1 - n) from by rw [Nat.pow_mul]] at hj
        have hlc := hl l[n] (List.getElem_mem hnl)
        have hf : ((wdL l).toUInt64 >>> ((nI (8 * (l.length - 1 - n))).toInt64 &&& 63).toUInt64).toInt64 &&& 255 = Int64.ofNat l[n] := by
          apply jN_inj
          rw [jN_and, hj, jN_of (by omega), show jN (255 : Int64) = 2 ^ 8 - 1 from rfl, Nat.and_two_pow_sub_one_eq_mod]
          exact hdg
        rw [ek]
        simp +decide only [qX11_letter_0, qX11_letter_1, e8, hf, i64_l2i, am_w1_i, am_w1_r, am_w1_x, am_w1_l, am_w1_w, va_rf_s, am_push_n, am_push_s, am_cs_0, am_cs_i, am_cs_l, am_cs_r, m_uI_K, m_uI_N, m_uI_R, m_uI_L, m_uI_I, m_uL_K, m_uL_N, m_uL_R, m_uL_I, m_uL_L, m_uR_K, m_uR_N, m_uR_I, m_uR_L, m_uR_R, true_and, and_true, true_implies, false_implies, not_true_eq_false, not_false_eq_true, if_true, if_false, false_and, and_false]
        exact h0
      · rw [br_n kl]
        have kl' : (i : Int) ≤ k.toInt := by rw [lt32, ni_ti (by omega)] at kl; omega
        rw [List.getElem?_eq_none (by omega)] at h0
        exact h0
  | succ m ih =>
    intro i hi
    have h9 := ih (i + 1) (by omega)
    have hp : 0 < 256 ^ i := Nat.pow_pos (by omega)
    have hne : 1 ≤ wdN l 0 / 256 ^ i := by
      rw [Nat.le_div_iff_mul_le hp, Nat.one_mul]
      exact Nat.le_trans (Nat.pow_le_pow_right (by omega) (by omega)) hge
    have hdl : wdN l 0 / 256 ^ i ≤ wdN l 0 := Nat.div_le_self _ _
    have c1 : ¬ lg_cmp (Int64.ofNat (wdN l 0 / 256 ^ i)) 0 = 0 := by
      rw [lgc_0]
      intro w
      have := congrArg jN w
      rw [jN_of (by omega), show jN (0 : Int64) = 0 from rfl] at this
      omega
    have hs : ((Int64.ofNat (wdN l 0 / 256 ^ i)).toUInt64 >>> ((8 : Int32).toInt64 &&& 63).toUInt64).toInt64 = Int64.ofNat (wdN l 0 / 256 ^ (i + 1)) := by
      apply jN_inj
      rw [jN_shr _ _ 8 (by decide), jN_of (by omega), jN_of (by have := Nat.div_le_self (wdN l 0) (256 ^ (i + 1)); omega), Nat.div_div_eq_div_mul, show (256 : Nat) ^ (i + 1) = 256 ^ i * 2 ^ 8 from by rw [Nat.pow_succ]]
    rw [hX11_letter_31]
    simp +decide only [qX11_letter_0, qX11_letter_1, hs, ni_add1, am_w1_i, am_w1_r, am_w1_x, am_w1_l, am_w1_w, va_rf_s, am_push_n, am_push_s, am_cs_0, am_cs_i, am_cs_l, am_cs_r, m_uI_K, m_uI_N, m_uI_R, m_uI_L, m_uI_I, m_uL_K, m_uL_N, m_uL_R, m_uL_I, m_uL_L, m_uR_K, m_uR_N, m_uR_I, m_uR_L, m_uR_R, true_and, and_true, true_implies, false_implies, not_true_eq_false, not_false_eq_true, if_true, if_false, false_and, and_false]
    rw [br_n c1]
    exact h9
theorem m_letter (v k : Int32) : MqO 233 [.int v, .int k] (aLet v k) := by
  intro d M b D Q hD hL h hQ
  have h0 := hQ M (gF_refl _ _ _)
  obtain ⟨⟨hb, hb2⟩, ⟨n0, n1⟩, n6, hsh, hsy, hbk, hsg, -, -⟩ := id h
  have n8 := dN_8 hD
  have eS := fun v Q => m_isShip hD hL h (d + 18) v Q
  unfold aLet at h0
  rw [eX11_letter]
  simp +decide only [qX11_letter_0, qX11_letter_1, lm hL, eS, bI_0, Classical.not_not, am_w1_i, am_w1_r, am_w1_x, am_w1_l, am_w1_w, va_rf_s, am_push_n, am_push_s, am_cs_0, am_cs_i, am_cs_l, am_cs_r, m_uI_K, m_uI_N, m_uI_R, m_uI_L, m_uI_I, m_uL_K, m_uL_N, m_uL_R, m_uL_I, m_uL_L, m_uR_K, m_uR_N, m_uR_I, m_uR_L, m_uR_R, true_and, and_true, true_implies, false_implies, not_true_eq_false, not_false_eq_true, if_true, if_false, false_and, and_false]
  by_cases hv : 0 ≤ v.toInt ∧ v.toInt < dN D
  · rw [if_pos hv] at h0
    rw [br_p hv]
    obtain ⟨s, s1, s2, s3⟩ := sh_of (by omega) hv
    rw [s3] at h0
    have hok := dSp_ok hD.1 s1
    have e8 : (8 : Int32) * nI b + nI s = nI (8 * b + s) := by rw [show (8 : Int32) = nI 8 from rfl, ni_mul, ni_add]
    have hnm := (hsh.2 s _ (dSp_at s1)).1
    have h9 := l_m_letter (d + 20) (nI s) k _ hok.1 hok.2.1 hok.2.2.1 M Q h0 (dSp D s).1.length 0 (by omega)
    rw [Nat.pow_zero, Nat.div_one, show Int64.ofNat (wdN (dSp D s).1 0) = wdL (dSp D s).1 from rfl] at h9
    rw [s2]
    simp +decide (disch := omega) only [qX11_letter_0, qX11_letter_1, lm hL, hb, e8, hnm, ni_in_t, ni_tn, am_w1_i, am_w1_r, am_w1_x, am_w1_l, am_w1_w, va_rf_s, am_push_n, am_push_s, am_cs_0, am_cs_i, am_cs_l, am_cs_r, m_uI_K, m_uI_N, m_uI_R, m_uI_L, m_uI_I, m_uL_K, m_uL_N, m_uL_R, m_uL_I, m_uL_L, m_uR_K, m_uR_N, m_uR_I, m_uR_L, m_uR_R, true_and, and_true, true_implies, false_implies, not_true_eq_false, not_false_eq_true, if_true, if_false, false_and, and_false]
    exact h9
  · rw [if_neg hv] at h0
    rw [br_n hv]
    exact h0
theorem op_letter (v k : Int32) : OpI 114 233 [.int v, .int k] isI := op_q (fun D => ⟨_, rfl⟩) (x_letter v k) (m_letter v k)
