/-! the class: pileUp -/
def s172 (a _j : Nat) : Prop := a = 172
theorem l_fillR (d a : Nat) (v : Int64) (M : am_M) (Q : Option Value → am_M → Prop) (hK : mK M a = 1) (hN : mN M a = 36) : ∀ (m k : Nat), k + m = 4 → (am_P am_P0 (d + 1) (am_look tJ7_fill_bad5a) 10 [.ref a, .int 0, .int 4, .long v, am_x, .int (nI k)] [] (uB M a (fun j => if j < k then v else mL M a j)) Q ↔ Q none (uB M a (fun j => if j < 4 then v else mL M a j))) := by
  intro m
  induction m with
  | zero =>
    intro k hk
    have ek : k = 4 := by omega
    subst ek
    rw [hJ7_fill_bad5a_10]
    simp +decide only [qJ7_fill_bad5a, show nI 4 = (4 : Int32) from rfl, am_w1_i, am_w1_r, am_w1_x, am_w1_l, am_w1_w, va_rf_s, am_push_n, am_push_s, am_cs_0, am_cs_i, am_cs_l, am_cs_r, m_uI_K, m_uI_N, m_uI_R, m_uI_L, m_uI_I, m_uL_K, m_uL_N, m_uL_R, m_uL_I, m_uL_L, m_uR_K, m_uR_N, m_uR_I, m_uR_L, m_uR_R, true_and, and_true, true_implies, false_implies, not_true_eq_false, not_false_eq_true, if_true, if_false, false_and, and_false]
  | succ m ih =>
    intro k hk
    have hlt : ¬ (4 : Int32) ≤ nI k := by rw [show (4 : Int32) = nI 4 from rfl, ni_le (by omega) (by omega)]; omega
    have h0 := ih (k + 1) (by omega)
    have e : uL (uB M a (fun j => if j < k then v else mL M a j)) a k v = uB M a (fun j => if j < k + 1 then v else mL M a j) := by
      rw [uL_B]
      congr 1
      funext j
      by_cases c : j = k
      · rw [if_pos c, if_pos (by omega)]
      · rw [if_neg c]
        by_cases c2 : j < k
        · rw [if_pos c2, if_pos (by omega)]
        · rw [if_neg c2, if_neg (by omega)]
    rw [hJ7_fill_bad5a_10]
    simp +decide (disch := omega) only [qJ7_fill_bad5a, uB_K, uB_N, hK, hN, ni_in_t, ni_tn, ni_add1, e, am_w1_i, am_w1_r, am_w1_x, am_w1_l, am_w1_w, va_rf_s, am_push_n, am_push_s, am_cs_0, am_cs_i, am_cs_l, am_cs_r, m_uI_K, m_uI_N, m_uI_R, m_uI_L, m_uI_I, m_uL_K, m_uL_N, m_uL_R, m_uL_I, m_uL_L, m_uR_K, m_uR_N, m_uR_I, m_uR_L, m_uR_R, true_and, and_true, true_implies, false_implies, not_true_eq_false, not_false_eq_true, if_true, if_false, false_and, and_false]
    rw [br_n hlt]
    exact h0
theorem c_fillR (d a : Nat) (v : Int64) (M : am_M) (Q : Option Value → am_M → Prop) (hK : mK M a = 1) (hN : mN M a = 36) : am_E am_P0 (d + 1) 323 [.ref a, .int 0, .int 4, .long v] M Q ↔ Q none (uB M a (fun j => if j < 4 then v else mL M a j)) := by
  have h0 := l_fillR d a v M Q hK hN 4 0 (by omega)
  have e0 : uB M a (fun j => if j < 0 then v else mL M a j) = M := by
    have : (fun j => if j < 0 then v else mL M a j) = fun k => mL M a k := by
      funext j
      rw [if_neg (by omega)]
    rw [this, uB_id]
  rw [e0] at h0
  rw [eJ7_fill_bad5a]
  simp +decide only [qJ7_fill_bad5a, eJ7_rangeCheck_23922, qJ7_rangeCheck_23922, hK, hN, show Int32.ofNat 36 = (36 : Int32) from rfl, am_w1_i, am_w1_r, am_w1_x, am_w1_l, am_w1_w, va_rf_s, am_push_n, am_push_s, am_cs_0, am_cs_i, am_cs_l, am_cs_r, m_uI_K, m_uI_N, m_uI_R, m_uI_L, m_uI_I, m_uL_K, m_uL_N, m_uL_R, m_uL_I, m_uL_L, m_uR_K, m_uR_N, m_uR_I, m_uR_L, m_uR_R, true_and, and_true, true_implies, false_implies, not_true_eq_false, not_false_eq_true, if_true, if_false, false_and, and_false]
  exact h0
theorem sb_nz {x : Int64} : ¬ x = 0 ↔ ∃ i, i < 64 ∧ sbit x i = true := by
  constructor
  · intro h
    apply Classical.byContradiction
    intro q
    apply h
    apply sb_ext
    intro i hi
    rw [sb_0]
    cases hb : sbit x i with
    | false => rfl
    | true => exact absurd ⟨i, hi, hb⟩ q
  · rintro ⟨i, hi, hb⟩ e
    rw [e, sb_0] at hb
    cases hb
/-- bit p of the row m -/
def lvB (M : am_M) (m p : Nat) : Prop := sbit (mL M 172 (4 * m + p / 64)) (p % 64) = true
def LvP (M : am_M) (D : Dat) (s t : Nat) : Prop := ∀ m p, m ≤ 8 → p < 256 → (lvB M m p ↔ m ≤ stK D s t p)
def LvQ (M : am_M) (D : Dat) (s t n w : Nat) : Prop := ∀ m p, m ≤ 8 → p < 256 → (lvB M m p ↔ (if n < m ∨ (m = n ∧ p / 64 < w) then m ≤ stK D (s + 1) t p else m ≤ stK D s t p))
def MxP (D : Dat) (s t mo : Nat) : Prop := (∀ p, p < 256 → stK D s t p ≤ mo) ∧ (mo = 0 ∨ ∃ p, p < 256 ∧ stK D s t p = mo) ∧ mo ≤ s
def MoP (D : Dat) (s t m0 mo n w : Nat) : Prop := (mo = m0 ∧ ∀ p, p < 256 → (n < m0 + 1 ∨ (n = m0 + 1 ∧ p / 64 < w)) → ¬ m0 + 1 ≤ stK D (s + 1) t p) ∨ (mo = m0 + 1 ∧ ∃ p, p < 256 ∧ m0 + 1 ≤ stK D (s + 1) t p)
def AllS (M : am_M) (D : Dat) : Prop := ∀ s, s < dN D → dSX M D s
theorem AllS_g {M M' : am_M} {D : Dat} (hD : dOK D) (h : AllS M D) (hL : Lay M) (hI : RInv M) (hg : gF s172 nT M M') : AllS M' D := fun s hs => SetX_z (by have := dN_8 hD; omega) (h s hs) (zF_g hL hI hg (fun a j s' q w => by unfold s172 at w; omega) (fun a j w => by unfold s172 at w; omega)) (fun a j q w => by unfold s172 at w; omega)
theorem XR_172 {M M' : am_M} {z : Nat} {D : Dat} (hD : dOK D) (h : XR M z D) (hg : gF s172 nT M M') : XR M' z D := XR_k (s0 := 0) hD (by omega) h (zF_g h.1.1 h.1.2.1 hg (fun a j s' q w => by unfold s172 at w; omega) (fun a j w => by unfold s172 at w; omega)) (fun a j q => by unfold s172 at q; omega)
section
variable (d z s t : Nat) (D : Dat) (M0 : am_M) (Q : Option Value → am_M → Prop)
theorem l_x_pile3 (hD : dOK D) (hX0 : XR M0 z D) (hA0 : AllS M0 D) (ht : t < 48) (hs : s < dN D) (hact : 0 < (dY D s).length ∧ 2 ≤ dMc D s t) (m0 n : Nat) (hn1 : 1 ≤ n) (hn : n ≤ m0 + 1) (hm0 : m0 ≤ s)
    (hN : ∀ M' mo v6, gF s172 nT M0 M' → jk v6 → LvQ M' D s t (n - 1) 0 → MoP D s t m0 mo (n - 1) 0 → am_P am_P0 (d + 1) (am_look tX10_pileUp) 77 [.ref 0, .int (nI t), .int (nI mo), .int (nI s), .int (nI (n - 1)), .int (nI 4), v6] [] M' Q) :
    ∀ (m w : Nat), w + m = 4 → ∀ (M : am_M) (mo : Nat) (v6 : Value), jk v6 → gF s172 nT M0 M → LvQ M D s t n w → MoP D s t m0 mo n w → am_P am_P0 (d + 1) (am_look tX10_pileUp) 85 [.ref 0, .int (nI t), .int (nI mo), .int (nI s), .int (nI n), .int (nI w), v6] [] M Q := by
  have n8 := dN_8 hD
  have hz := hX0.1.2.2.1
  intro m
  induction m with
  | zero =>
    intro w hw M mo v6 j6 hM hQ' hMo
    have ew : w = 4 := by omega
    subst ew
    obtain ⟨k, rfl⟩ : ∃ k, n = k + 1 := ⟨n - 1, by omega⟩
    have h0 := hN M mo v6 hM j6 (fun m p a1 a2 => by
      rw [hQ' m p a1 a2]
      by_cases q : k + 1 < m ∨ (m = k + 1 ∧ p / 64 < 4)
      · rw [if_pos q, if_pos (by omega)]
      · rw [if_neg q, if_neg (by omega)]) (by
      rcases hMo with ⟨q1, q2⟩ | q
      · exact Or.inl ⟨q1, fun p a1 a2 => q2 p a1 (by omega)⟩
      · exact Or.inr q)
    rw [hX10_pileUp_85]
    simp +decide only [qX10_pileUp_0, qX10_pileUp_1, qX10_pileUp_2, show nI 4 = (4 : Int32) from rfl, ni_dec, jk_w j6, am_w1_i, am_w1_r, am_w1_x, am_w1_l, am_w1_w, va_rf_s, am_push_n, am_push_s, am_cs_0, am_cs_i, am_cs_l, am_cs_r, m_uI_K, m_uI_N, m_uI_R, m_uI_L, m_uI_I, m_uL_K, m_uL_N, m_uL_R, m_uL_I, m_uL_L, m_uR_K, m_uR_N, m_uR_I, m_uR_L, m_uR_R, true_and, and_true, true_implies, false_implies, not_true_eq_false, not_false_eq_true, if_true, if_false, false_and, and_false] at h0 ⊢
    exact h0
  | succ m ih =>
    intro w hw M mo v6 j6 hM hQ' hMo
    have hX := XR_172 hD hX0 hM
    have hA := AllS_g hD hA0 hX0.1.1 hX0.1.2.1 hM
    have hL := hX.1.1
    have hlt : ¬ (4 : Int32) ≤ nI w := by rw [show (4 : Int32) = nI 4 from rfl, ni_le (by omega) (by omega)]; omega
    have htr := ltr hL (show s < 8 by omega)
    have hst := lt_ hL (isTr_of (show s < 8 by omega))
    have e4 : nI n * 4 + nI w = nI (4 * n + w) := by rw [show (4 : Int32) = nI 4 from rfl, ni_mul, ni_add]; congr 1; omega
    have e4' : nI (4 * n + w) - 4 = nI (4 * (n - 1) + w) := by rw [show (4 : Int32) = nI 4 from rfl, ni_sub (by omega)]; congr 1; omega
    have e4t : nI t * 4 + nI w = nI (4 * t + w) := by rw [show (4 : Int32) = nI 4 from rfl, ni_mul, ni_add]; congr 1; omega
    obtain ⟨nv, hnv⟩ : ∃ nv, nv = mL M 172 (4 * n + w) ||| (mL M 172 (4 * (n - 1) + w) &&& mL M (173 + 13 * s + 10) (4 * t + w)) := ⟨_, rfl⟩
    have hbit : ∀ i, i < 64 → (sbit nv i = true ↔ n ≤ stK D (s + 1) t (64 * w + i)) := fun i hi => by
      have p1 : (64 * w + i) / 64 = w := by omega
      have p2 : (64 * w + i) % 64 = i := by omega
      have b1 := hQ' n (64 * w + i) (by omega) (by omega)
      have b2 := hQ' (n - 1) (64 * w + i) (by omega) (by omega)
      have b3 := (hA s hs).2.2.2.2 t ht (64 * w + i)
      unfold lvB at b1 b2
      rw [p1, p2, if_neg (by omega)] at b1 b2
      unfold inS at b3
      rw [p1, p2] at b3
      have b4 : sbit (mL M (173 + 13 * s + 10) (4 * t + w)) i = true ↔ dMy D s t (64 * w + i) := by
        rw [show 173 + 13 * s + 10 = 183 + 13 * s by omega]
        exact ⟨fun q => b3.mp ⟨by omega, q⟩, fun q => (b3.mpr q).2⟩
      rw [hnv, sb_or, sb_and, Bool.or_eq_true, Bool.and_eq_true, b1, b2, b4]
      by_cases c : dMy D s t (64 * w + i)
      · rw [stK_t ⟨hact.1, hact.2, c⟩]
        constructor
        · rintro (q | q) <;> omega
        · intro q; exact Or.inr ⟨by omega, c⟩
      · rw [stK_f (fun q => c q.2.2)]
        constructor
        · rintro (q | q)
          · exact q
          · exact absurd q.2 c
        · intro q; exact Or.inl q
    have w1 : gF s172 nT M (uL M 172 (4 * n + w) nv) := gF_l _ rfl
    have hQ2 : LvQ (uL M 172 (4 * n + w) nv) D s t n (w + 1) := fun m' p a1 a2 => by
      by_cases e : m' = n ∧ p / 64 = w
      · obtain ⟨rfl, e2⟩ := e
        unfold lvB
        rw [e2, m_uL_L, if_pos ⟨rfl, rfl⟩, hbit _ (by omega), if_pos (by omega), show 64 * w + p % 64 = p by omega]
      · have e5 : lvB (uL M 172 (4 * n + w) nv) m' p ↔ lvB M m' p := by
          unfold lvB
          rw [m_uL_L, if_neg (by omega)]
        rw [e5, hQ' m' p a1 a2]
        by_cases q : n < m' ∨ (m' = n ∧ p / 64 < w)
        · rw [if_pos q, if_pos (by omega)]
        · rw [if_neg q, if_neg (by omega)]
    have mob : mo ≤ m0 + 1 ∧ m0 ≤ mo := by rcases hMo with q | q <;> omega
    have ema := fun M Q => c_max d mo n M Q (by omega) (by omega)
    rw [hX10_pileUp_85]
    simp +decide (disch := omega) only [qX10_pileUp_0, qX10_pileUp_1, qX10_pileUp_2, lx hL, htr, hst, e4, e4', e4t, ← hnv, lgc_0, ema, jk_w j6, ni_in_t, ni_tn, ni_add1, am_w1_i, am_w1_r, am_w1_x, am_w1_l, am_w1_w, va_rf_s, am_push_n, am_push_s, am_cs_0, am_cs_i, am_cs_l, am_cs_r, m_uI_K, m_uI_N, m_uI_R, m_uI_L, m_uI_I, m_uL_K, m_uL_N, m_uL_R, m_uL_I, m_uL_L, m_uR_K, m_uR_N, m_uR_I, m_uR_L, m_uR_R, true_and, and_true, true_implies, false_implies, not_true_eq_false, not_false_eq_true, if_true, if_false, false_and, and_false]
    first | rw [br_n (hlt)] | rw [br_q (hlt)] | rw [br_u (hlt)]
    by_cases c : nv = 0
    · first | rw [br_p (c)] | rw [br_r (c)] | rw [br_s (c)]
      refine ih (w + 1) (by omega) _ mo _ (Or.inr ⟨_, rfl⟩) (gF_trans hM w1) hQ2 ?_
      rcases hMo with ⟨q1, q2⟩ | q
      · refine Or.inl ⟨q1, fun p a1 a2 a3 => ?_⟩
        by_cases e : n = m0 + 1 ∧ p / 64 = w
        · have hz0 : ¬ ∃ i, i < 64 ∧ sbit nv i = true := fun z => sb_nz.mpr z c
          exact hz0 ⟨p % 64, by omega, (hbit _ (by omega)).mpr (by rw [show 64 * w + p % 64 = p by omega]; omega)⟩
        · exact q2 p a1 (by omega) a3
      · exact Or.inr q
    · first | rw [br_n (c)] | rw [br_q (c)] | rw [br_u (c)]
      obtain ⟨i, hi, hb⟩ := sb_nz.mp c
      have hge := (hbit i hi).mp hb
      refine ih (w + 1) (by omega) _ (max mo n) _ (Or.inr ⟨_, rfl⟩) (gF_trans hM w1) hQ2 ?_
      by_cases e : n = m0 + 1
      · exact Or.inr ⟨by omega, 64 * w + i, by omega, by omega⟩
      · rw [show max mo n = mo by omega]
        rcases hMo with ⟨q1, q2⟩ | q
        · exact Or.inl ⟨q1, fun p a1 a2 => q2 p a1 (by omega)⟩
        · exact Or.inr q
theorem l_x_pile2 (hD : dOK D) (hX0 : XR M0 z D) (hA0 : AllS M0 D) (ht : t < 48) (hs : s < dN D) (hact : 0 < (dY D s).length ∧ 2 ≤ dMc D s t) (m0 : Nat) (hm0 : m0 ≤ s)
    (hN : ∀ M' mo v4 v5 v6, gF s172 nT M0 M' → jk v4 → jk v5 → jk v6 → LvQ M' D s t 0 0 → MoP D s t m0 mo 0 0 → am_P am_P0 (d + 1) (am_look tX10_pileUp) 24 [.ref 0, .int (nI t), .int (nI mo), .int (nI (s + 1)), v4, v5, v6] [] M' Q) :
    ∀ (n : Nat), n ≤ m0 + 1 → ∀ (M : am_M) (mo : Nat) (v5 v6 : Value), jk v5 → jk v6 → gF s172 nT M0 M → LvQ M D s t n 0 → MoP D s t m0 mo n 0 → am_P am_P0 (d + 1) (am_look tX10_pileUp) 77 [.ref 0, .int (nI t), .int (nI mo), .int (nI s), .int (nI n), v5, v6] [] M Q := by
  have n8 := dN_8 hD
  intro n
  induction n with
  | zero =>
    intro hn M mo v5 v6 j5 j6 hM hQ' hMo
    have h0 := hN M mo (.int (nI 0)) v5 v6 hM (Or.inr ⟨_, rfl⟩) j5 j6 hQ' hMo
    rw [hX10_pileUp_77]
    simp +decide only [qX10_pileUp_0, qX10_pileUp_1, qX10_pileUp_2, show nI 0 = (0 : Int32) from rfl, ni_add1, jk_w j5, jk_w j6, am_w1_i, am_w1_r, am_w1_x, am_w1_l, am_w1_w, va_rf_s, am_push_n, am_push_s, am_cs_0, am_cs_i, am_cs_l, am_cs_r, m_uI_K, m_uI_N, m_uI_R, m_uI_L, m_uI_I, m_uL_K, m_uL_N, m_uL_R, m_uL_I, m_uL_L, m_uR_K, m_uR_N, m_uR_I, m_uR_L, m_uR_R, true_and, and_true, true_implies, false_implies, not_true_eq_false, not_false_eq_true, if_true, if_false, false_and, and_false] at h0 ⊢
    exact h0
  | succ n ih =>
    intro hn M mo v5 v6 j5 j6 hM hQ' hMo
    have hnp : ¬ nI (n + 1) ≤ 0 := by rw [ni_pos (by omega)]; omega
    have h9 := l_x_pile3 d z s t D M0 Q hD hX0 hA0 ht hs hact m0 (n + 1) (by omega) hn hm0 (fun M' mo' v6' g' j6' q1 q2 => ih (by omega) M' mo' (.int (nI 4)) v6' (Or.inr ⟨_, rfl⟩) j6' g' q1 q2) 4 0 (by omega) M mo v6 j6 hM hQ' hMo
    rw [hX10_pileUp_77]
    simp +decide only [qX10_pileUp_0, qX10_pileUp_1, qX10_pileUp_2, jk_w j5, jk_w j6, am_w1_i, am_w1_r, am_w1_x, am_w1_l, am_w1_w, va_rf_s, am_push_n, am_push_s, am_cs_0, am_cs_i, am_cs_l, am_cs_r, m_uI_K, m_uI_N, m_uI_R, m_uI_L, m_uI_I, m_uL_K, m_uL_N, m_uL_R, m_uL_I, m_uL_L, m_uR_K, m_uR_N, m_uR_I, m_uR_L, m_uR_R, true_and, and_true, true_implies, false_implies, not_true_eq_false, not_false_eq_true, if_true, if_false, false_and, and_false]
    first | rw [br_n (hnp)] | rw [br_q (hnp)] | rw [br_u (hnp)]
    exact h9
end
theorem l_x_pile1 (d z t : Nat) (D : Dat) (M0 : am_M) (Q : Option Value → am_M → Prop) (hD : dOK D) (hX0 : XR M0 z D) (hA0 : AllS M0 D) (ht : t < 48)
    (hQ : ∀ M' mo, gF s172 nT M0 M' → MxP D (dN D) t mo → LvP M' D (dN D) t → Q (some (.int (nI mo))) M') :
    ∀ (m s : Nat), s + m = dN D → ∀ (M : am_M) (mo : Nat) (v4 v5 v6 : Value), jk v4 → jk v5 → jk v6 → gF s172 nT M0 M → MxP D s t mo → LvP M D s t → am_P am_P0 (d + 3) (am_look tX10_pileUp) 24 [.ref 0, .int (nI t), .int (nI mo), .int (nI s), v4, v5, v6] [] M Q := by
  have n8 := dN_8 hD
  intro m
  induction m with
  | zero =>
    intro s hs M mo v4 v5 v6 j4 j5 j6 hM hMx hLv
    have hX := XR_172 hD hX0 hM
    have hz := hX.1.2.2.1
    have hL := hX.1.1
    have hr := hX.1.2.2.2.1
    have hle : nI (dN D) ≤ nI s := (ni_le (by omega) (by omega)).mpr (by omega)
    rw [show s = dN D by omega] at hMx hLv
    have h0 := hQ M mo hM hMx hLv
    rw [hX10_pileUp_24]
    simp +decide only [qX10_pileUp_0, qX10_pileUp_1, qX10_pileUp_2, lx hL, lz hL hz, hr, (x_n hX).1, am_w1_i, am_w1_r, am_w1_x, am_w1_l, am_w1_w, va_rf_s, am_push_n, am_push_s, am_cs_0, am_cs_i, am_cs_l, am_cs_r, m_uI_K, m_uI_N, m_uI_R, m_uI_L, m_uI_I, m_uL_K, m_uL_N, m_uL_R, m_uL_I, m_uL_L, m_uR_K, m_uR_N, m_uR_I, m_uR_L, m_uR_R, true_and, and_true, true_implies, false_implies, not_true_eq_false, not_false_eq_true, if_true, if_false, false_and, and_false]
    first | rw [br_p (hle)] | rw [br_r (hle)] | rw [br_s (hle)]
    exact h0
  | succ m ih =>
    intro s hs M mo v4 v5 v6 j4 j5 j6 hM hMx hLv
    have hX := XR_172 hD hX0 hM
    have hA := AllS_g hD hA0 hX0.1.1 hX0.1.2.1 hM
    have hz := hX.1.2.2.1
    have hL := hX.1.1
    have hr := hX.1.2.2.2.1
    have hlt : ¬ nI (dN D) ≤ nI s := by rw [ni_le (by omega) (by omega)]; omega
    have h48 := dY_len hD s
    have hmc : dMc D s t ≤ 256 := cnt_le _ _
    have hsh := lsh hL hz (s := s) (by omega)
    have hw_ := lw_ hL (isSh_z (z := z) (s := s) hz (by omega))
    have hc := (x_ship hX (s := s) (by omega)).2.1.1
    have htr := ltr hL (show s < 8 by omega)
    have hst := lt_ hL (isTr_of (show s < 8 by omega))
    have ec := fun Q => x_countMay (D := D) (t := t) hL (show s < 8 by omega) ht (hA s (by omega)) d Q
    have ez : nI (dY D s).length = 0 ↔ (dY D s).length = 0 := by rw [show (0 : Int32) = nI 0 from rfl, ni_eq (by omega) (by omega)]
    have hmo := hMx.2.2
    have em := fun M Q => c_minI (d + 2) (nI (mo + 1)) 8 M Q
    have h8 : ¬ (8 : Int32) < nI (mo + 1) := by rw [show (8 : Int32) = nI 8 from rfl, ni_lt (by omega) (by omega)]; omega
    have skip : (∀ p, stK D (s + 1) t p = stK D s t p) → am_P am_P0 (d + 3) (am_look tX10_pileUp) 24 [.ref 0, .int (nI t), .int (nI mo), .int (nI (s + 1)), v4, v5, v6] [] M Q := fun he => ih (s + 1) (by omega) M mo v4 v5 v6 j4 j5 j6 hM ⟨fun p hp => by rw [he]; exact hMx.1 p hp, by
      rcases hMx.2.1 with q | ⟨p, p1, p2⟩
      · exact Or.inl q
      · exact Or.inr ⟨p, p1, by rw [he]; exact p2⟩, by omega⟩ (fun m' p a1 a2 => by rw [he]; exact hLv m' p a1 a2)
    rw [hX10_pileUp_24]
    simp +decide (disch := omega) only [qX10_pileUp_0, qX10_pileUp_1, qX10_pileUp_2, lx hL, lz hL hz, hr, (x_n hX).1, hsh, hw_, hc, htr, hst, ec, ez, em, h8, if_false, jk_w j4, jk_w j5, jk_w j6, ni_in_t, ni_tn, ni_add1, am_w1_i, am_w1_r, am_w1_x, am_w1_l, am_w1_w, va_rf_s, am_push_n, am_push_s, am_cs_0, am_cs_i, am_cs_l, am_cs_r, m_uI_K, m_uI_N, m_uI_R, m_uI_L, m_uI_I, m_uL_K, m_uL_N, m_uL_R, m_uL_I, m_uL_L, m_uR_K, m_uR_N, m_uR_I, m_uR_L, m_uR_R, true_and, and_true, true_implies, false_implies, not_true_eq_false, not_false_eq_true, if_true, if_false, false_and, and_false]
    first | rw [br_n (hlt)] | rw [br_q (hlt)] | rw [br_u (hlt)]
    by_cases c0 : (dY D s).length = 0
    · first | rw [br_p (c0)] | rw [br_r (c0)] | rw [br_s (c0)]
      exact skip (fun p => stK_f (fun q => by omega))
    · first | rw [br_n (c0)] | rw [br_q (c0)] | rw [br_u (c0)]
      rw [show (2 : Int32) = nI 2 from rfl, ni_le (by omega) (by omega)]
      by_cases c1 : 2 ≤ dMc D s t
      · first | rw [br_p (c1)] | rw [br_r (c1)] | rw [br_s (c1)]
        have hst1 : ∀ p, stK D s t p ≤ stK D (s + 1) t p ∧ stK D (s + 1) t p ≤ stK D s t p + 1 := fun p => by
          by_cases q : 0 < (dY D s).length ∧ 2 ≤ dMc D s t ∧ dMy D s t p
          · rw [stK_t q]; omega
          · rw [stK_f q]; omega
        refine l_x_pile2 (d + 2) z s t D M Q hD hX hA ht (by omega) ⟨by omega, c1⟩ mo hmo (fun M' mo' v4' v5' v6' g' j4' j5' j6' q1 q2 => ih (s + 1) (by omega) M' mo' v4' v5' v6' j4' j5' j6' (gF_trans hM g') ?_ (fun m' p a1 a2 => ?_)) (mo + 1) (Nat.le_refl _) M mo v5 v6 j5 j6 (gF_refl _ _ _) (fun m' p a1 a2 => ?_) (Or.inl ⟨rfl, fun p a1 a2 => by omega⟩)
        · rcases q2 with ⟨rfl, q⟩ | ⟨rfl, p, p1, p2⟩
          · refine ⟨fun p hp => ?_, ?_, by omega⟩
            · have := q p hp (by omega); omega
            · rcases hMx.2.1 with z | ⟨p, p1, p2⟩
              · exact Or.inl z
              · exact Or.inr ⟨p, p1, by have := q p p1 (by omega); have := hst1 p; omega⟩
          · refine ⟨fun p' hp' => by have := hMx.1 p' hp'; have := hst1 p'; omega, Or.inr ⟨p, p1, ?_⟩, by omega⟩
            have := hMx.1 p p1; have := hst1 p; omega
        · rw [q1 m' p a1 a2]
          by_cases e : 0 < m'
          · rw [if_pos (by omega)]
          · rw [if_neg (by omega)]; omega
        · rw [hLv m' p a1 a2]
          by_cases q : mo + 1 < m' ∨ (m' = mo + 1 ∧ p / 64 < 0)
          · rw [if_pos q]
            have := hMx.1 p a2; have := hst1 p; omega
          · rw [if_neg q]
      · first | rw [br_n (c1)] | rw [br_q (c1)] | rw [br_u (c1)]
        exact skip (fun p => stK_f (fun q => c1 q.2.1))
theorem x_pileUp {M : am_M} {z t : Nat} {D : Dat} (hD : dOK D) (hX : XR M z D) (hA : AllS M D) (ht : t < 48) (d : Nat) (Q : Option Value → am_M → Prop) (hQ : ∀ M' mo, gF s172 nT M M' → MxP D (dN D) t mo → LvP M' D (dN D) t → Q (some (.int (nI mo))) M') : am_E am_P0 (d + 3) 161 [.ref 0, .int (nI t)] M Q := by
  have hL := hX.1.1
  have n172 : mN M 172 = 36 := (ly_sh hL 172 rfl).2
  have k172 : mK M 172 = 1 := (ly_sh hL 172 rfl).1
  have ef := fun Q => c_fillJ (d + 2) 172 0 M Q k172 (by rw [n172]; omega)
  rw [n172] at ef
  obtain ⟨A, hA'⟩ : ∃ A, A = uB M 172 (fun j => if j < 36 then 0 else mL M 172 j) := ⟨_, rfl⟩
  have gA : gF s172 nT M A := by rw [hA']; exact gF_B _ (fun _ => rfl)
  have LA := gF_LayN gA hL
  have er := fun Q => c_fillR (d + 1) 172 (-1) A Q (ly_sh LA 172 rfl).1 (ly_sh LA 172 rfl).2
  obtain ⟨E, hE⟩ : ∃ E, E = uB A 172 (fun j => if j < 4 then -1 else mL A 172 j) := ⟨_, rfl⟩
  have gE : gF s172 nT M E := by rw [hE]; exact gF_trans gA (gF_B _ (fun _ => rfl))
  have LE := gF_LayN gE hL
  have em1 : ∀ i, i < 64 → sbit (-1 : Int64) i = true := by decide
  have h0 := l_x_pile1 d z t D M Q hD hX hA ht hQ (dN D) 0 (by omega) E 0 am_x am_x am_x (Or.inl rfl) (Or.inl rfl) (Or.inl rfl) gE ⟨fun p hp => Nat.le_refl _, Or.inl rfl, Nat.le_refl _⟩ (fun m p a1 a2 => by
    unfold lvB
    rw [hE, uB_L, if_pos rfl]
    show _ ↔ m ≤ 0
    by_cases c : m = 0
    · rw [if_pos (by omega), em1 _ (by omega)]
      exact ⟨fun _ => by omega, fun _ => rfl⟩
    · rw [if_neg (by omega), hA', uB_L, if_pos rfl, if_pos (by omega), sb_0]
      constructor
      · intro q; cases q
      · intro q; omega)
  rw [eX10_pileUp]
  simp +decide only [qX10_pileUp_0, qX10_pileUp_1, qX10_pileUp_2, lx hL, ef, ← hA', lx LA, er, ← hE, am_w1_i, am_w1_r, am_w1_x, am_w1_l, am_w1_w, va_rf_s, am_push_n, am_push_s, am_cs_0, am_cs_i, am_cs_l, am_cs_r, m_uI_K, m_uI_N, m_uI_R, m_uI_L, m_uI_I, m_uL_K, m_uL_N, m_uL_R, m_uL_I, m_uL_L, m_uR_K, m_uR_N, m_uR_I, m_uR_L, m_uR_R, true_and, and_true, true_implies, false_implies, not_true_eq_false, not_false_eq_true, if_true, if_false, false_and, and_false]
  exact h0
