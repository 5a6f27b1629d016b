/-! the class: the first rule that holds; cost; quiet -/
theorem c_x_firstHolding (d z q p h dp : Nat) (sm : Bool) (R : List (Den × Den)) (M : am_M) (Q : Option Value → am_M → Prop) (hL : Lay M) (hz : z = 2 ∨ z = 83) (hq : q = z + 9 ∨ q = z + 13 ∨ q = z + 17) (hN : q = z + 17 → R.length ≤ 6) (hp : p < 256) (hh : h ≤ 1000) (hdp : dp ≤ 1000) (hR : RlX M z q sm R)
    (hY : ∀ M' k r, oS (sPl z) M M' → R[k]? = some r → fstR R (p % 16, p / 16, h, dp) = some r → Q (some (.int (nI k))) M')
    (hNo : ∀ M', oS (sPl z) M M' → fstR R (p % 16, p / 16, h, dp) = none → Q (some (.int (-1))) M') : am_E am_P0 (d + 3) 49 [.ref q, .ref (z + 6), .int (nI p), .int (nI h), .int (nI dp)] M Q := by
  rw [eX4_firstHolding]
  simp +decide only [qX4_firstHolding, am_w1_i, am_w1_r, am_w1_x, am_w1_l, am_w1_w, va_rf_s, am_push_n, am_push_s, am_cs_0, am_cs_i, am_cs_l, am_cs_r, m_uI_K, m_uI_N, m_uI_R, m_uI_L, m_uI_I, m_uL_K, m_uL_N, m_uL_R, m_uL_I, m_uL_L, m_uR_K, m_uR_N, m_uR_I, m_uR_L, m_uR_R, true_and, and_true, true_implies, false_implies, not_true_eq_false, not_false_eq_true, if_true, if_false, false_and, and_false]
  rw [show (0 : Int32) = nI 0 from rfl]
  refine l_x_first d z q p h dp (if q = z + 17 then 6 else 12) sm R M Q hL hz hq ?_ rfl hp hh hdp hY hNo R.length 0 (by omega) M (oS_refl _ _) hR (fun j r' hj => by omega)
  split
  · rename_i e; exact hN e
  · exact hR.2.1
theorem mm99 {s : Int} (h1 : -1000000 ≤ s) (h2 : s ≤ 1000000) : (if (0 : Int32) < (if zI s < 99 then zI s else 99) then (if zI s < 99 then zI s else 99) else 0) = nI (max 0 (min 99 s)).toNat := by
  have e : zI s < 99 ↔ s < 99 := by rw [lt32, zI_ti (by omega) (by omega)]; exact Iff.rfl
  have e0 : (0 : Int32) < zI s ↔ 0 < s := by rw [lt32, zI_ti (by omega) (by omega)]; exact Iff.rfl
  by_cases c : s < 99
  · rw [if_pos (e.mpr c)]
    by_cases c0 : 0 < s
    · rw [if_pos (e0.mpr c0), ← zI_n]
      congr 1
      omega
    · rw [if_neg (fun q => c0 (e0.mp q)), show (max 0 (min 99 s)).toNat = 0 by omega]
      rfl
  · rw [if_neg (fun q => c (e.mp q)), if_pos (by decide), show (max 0 (min 99 s)).toNat = 99 by omega]
    rfl
theorem c_x_firstSum (d z q p dp : Nat) (R : List (Den × Den)) (M : am_M) (Q : Option Value → am_M → Prop) (hL : Lay M) (hz : z = 2 ∨ z = 83) (hq : q = z + 9 ∨ q = z + 13) (hp : p < 256) (hdp : dp ≤ 1000) (hR : RlX M z q true R)
    (hQ : ∀ M', oS (sPl z) M M' → Q (some (.int (nI (sumR R (p % 16, p / 16, 0, dp)).toNat))) M') : am_E am_P0 (d + 4) 50 [.ref q, .ref (z + 6), .int (nI p), .int (nI dp)] M Q := by
  have h12 := hR.2.1
  rw [eX4_firstSum]
  have kq : mK M q = 14 := by rcases hq with rfl | rfl <;> simp only [lz hL hz]
  simp +decide only [qX4_firstSum, kq, am_w1_i, am_w1_r, am_w1_x, am_w1_l, am_w1_w, va_rf_s, am_push_n, am_push_s, am_cs_0, am_cs_i, am_cs_l, am_cs_r, m_uI_K, m_uI_N, m_uI_R, m_uI_L, m_uI_I, m_uL_K, m_uL_N, m_uL_R, m_uL_I, m_uL_L, m_uR_K, m_uR_N, m_uR_I, m_uR_L, m_uR_R, true_and, and_true, true_implies, false_implies, not_true_eq_false, not_false_eq_true, if_true, if_false, false_and, and_false]
  rw [show (0 : Int32) = nI 0 from rfl]
  refine c_x_firstHolding d z q p 0 dp true R M _ hL hz (by omega) (fun e => by omega) hp (by omega) hdp hR (fun M1 k r g1 hk hf => ?_) (fun M1 g1 hf => ?_)
  · have hkl := (List.getElem?_eq_some_iff.mp hk).1
    have L1 := oS_Lay g1 hL
    have hR1 : RlX M1 z q true R := RlX_u hR (fun j => g1.1 _ _ (by unfold sPl; omega)) (fun j => g1.1 _ _ (by unfold sPl; omega)) (fun j => g1.1 _ _ (by unfold sPl; omega)) (fun j => g1.1 _ _ (by unfold sPl; omega)) (fun j => g1.1 _ _ (by unfold sPl; omega))
    obtain ⟨s0, s1, s2, b1, b2, b3, b4, b5, b6, b7, b8, b9, b10⟩ := hR1.2.2 k r hk
    obtain ⟨b11, b12, b13⟩ := b10 rfl
    have hk1 : ¬ nI k = -1 := nI_m1 (by omega)
    have heok : eOK (p % 16, p / 16, 0, dp) := ⟨by show p % 16 ≤ 1000; omega, by show p / 16 ≤ 1000; omega, by show 0 ≤ 1000; omega, hdp⟩
    have goal : am_E am_P0 (d + 3) 2 [.ref (z + 6), .int (nI s0), .int (nI s1), .int (nI p), .int (nI 0), .int (nI dp)] M1 (fun r M2 => am_P am_P0 (d + 4) (am_look tX4_firstSum) 39 [.ref q, .ref (z + 6), .int (nI p), .int (nI dp), .int (nI k), am_x] (am_push r []) M2 Q) := by
      refine c_x_valueOf (d + 1) z s0 s1 p 0 dp r.1 M1 _ L1 hz b1 (by omega) hp (by omega) hdp b11 b12 (fun M2 g2 => ?_)
      have h0 := hQ M2 (oS_trans g1 g2)
      have hbd := b13 _ heok
      have hs : sumR R (p % 16, p / 16, 0, dp) = max 0 (min 99 (r.1 (p % 16, p / 16, 0, dp))) := by unfold sumR; rw [hf]
      have hmi := fun Q => c_minI (d + 3) 99 (zI (r.1 (p % 16, p / 16, 0, dp))) M2 Q
      have hma := fun b Q => c_maxI (d + 3) 0 b M2 Q
      rw [hs] at h0
      simp +decide only [qX4_firstSum, hmi, hma, mm99 hbd.1 hbd.2, am_w1_i, am_w1_r, am_w1_x, am_w1_l, am_w1_w, va_rf_s, am_push_n, am_push_s, am_cs_0, am_cs_i, am_cs_l, am_cs_r, m_uI_K, m_uI_N, m_uI_R, m_uI_L, m_uI_I, m_uL_K, m_uL_N, m_uL_R, m_uL_I, m_uL_L, m_uR_K, m_uR_N, m_uR_I, m_uR_L, m_uR_R, true_and, and_true, true_implies, false_implies, not_true_eq_false, not_false_eq_true, if_true, if_false, false_and, and_false]
      exact h0
    have kq1 : mK M1 q = 14 ∧ mR M1 q 1 = some (q + 1) ∧ mR M1 q 2 = some (q + 2) ∧ mK M1 (q + 1) = 0 ∧ mN M1 (q + 1) = 12 ∧ mK M1 (q + 2) = 0 ∧ mN M1 (q + 2) = 12 := by
      rcases hq with rfl | rfl <;> simp only [lz L1 hz, Nat.add_assoc, and_self]
    simp +decide (disch := omega) only [qX4_firstSum, lz L1 hz, kq1, b4, b5, ni_in_t, ni_tn, am_w1_i, am_w1_r, am_w1_x, am_w1_l, am_w1_w, va_rf_s, am_push_n, am_push_s, am_cs_0, am_cs_i, am_cs_l, am_cs_r, m_uI_K, m_uI_N, m_uI_R, m_uI_L, m_uI_I, m_uL_K, m_uL_N, m_uL_R, m_uL_I, m_uL_L, m_uR_K, m_uR_N, m_uR_I, m_uR_L, m_uR_R, true_and, and_true, true_implies, false_implies, not_true_eq_false, not_false_eq_true, if_true, if_false, false_and, and_false]
    rw [br_p hk1]
    exact goal
  · have h0 := hQ M1 g1
    have hs : sumR R (p % 16, p / 16, 0, dp) = 0 := by unfold sumR; rw [hf]
    rw [hs] at h0
    simp +decide only [qX4_firstSum, am_w1_i, am_w1_r, am_w1_x, am_w1_l, am_w1_w, va_rf_s, am_push_n, am_push_s, am_cs_0, am_cs_i, am_cs_l, am_cs_r, m_uI_K, m_uI_N, m_uI_R, m_uI_L, m_uI_I, m_uL_K, m_uL_N, m_uL_R, m_uL_I, m_uL_L, m_uR_K, m_uR_N, m_uR_I, m_uR_L, m_uR_R, true_and, and_true, true_implies, false_implies, not_true_eq_false, not_false_eq_true, if_true, if_false, false_and, and_false]
    exact h0
/-- what a sea tells of depths, costs and quiet hours -/
def SqX (M : am_M) (z : Nat) (dep cst : Nat → Nat) (qut : Nat → Nat → Prop) : Prop :=
  (∃ Rc, RlX M z (z + 13) true Rc ∧ ∀ p, p < 256 → cst p = (sumR Rc (p % 16, p / 16, 0, dep p)).toNat) ∧ (∃ Rq, RlX M z (z + 17) false Rq ∧ Rq.length ≤ 6 ∧ ∀ p h, p < 256 → h < 48 → (qut p h ↔ ¬ fstR Rq (p % 16, p / 16, h, dep p) = none)) ∧
  (∀ p, p < 256 → dep p ≤ 99 ∧ mI M (z + 21) p = nI (dep p)) ∧ (∀ p, p < 256 → mI M (z + 22) p = -1 ∨ mI M (z + 22) p = nI (cst p)) ∧
  ∀ h p, h < 48 → p < 256 → (sbit (mL M (z + 23) (4 * h + p / 64)) (p % 64) = true → (sbit (mL M (z + 24) (4 * h + p / 64)) (p % 64) = true ↔ qut p h)) ∧ (sbit (mL M (z + 24) (4 * h + p / 64)) (p % 64) = true → sbit (mL M (z + 23) (4 * h + p / 64)) (p % 64) = true)
theorem SqX_u {M M' : am_M} {z : Nat} {dep cst : Nat → Nat} {qut : Nat → Nat → Prop} (h : SqX M z dep cst qut) (h1 : ∀ a j, z + 7 ≤ a → a ≤ z + 22 → ¬ a = z + 8 → mI M' a j = mI M a j) (h2 : ∀ a j, a = z + 23 ∨ a = z + 24 → mL M' a j = mL M a j) : SqX M' z dep cst qut := by
  obtain ⟨⟨Rc, c1, c2⟩, ⟨Rq, q1, q2, q3⟩, a3, a4, a5⟩ := h
  refine ⟨⟨Rc, RlX_u c1 (fun j => h1 _ _ (by omega) (by omega) (by omega)) (fun j => h1 _ _ (by omega) (by omega) (by omega)) (fun j => h1 _ _ (by omega) (by omega) (by omega)) (fun j => h1 _ _ (by omega) (by omega) (by omega)) (fun j => h1 _ _ (by omega) (by omega) (by omega)), c2⟩, ⟨Rq, RlX_u q1 (fun j => h1 _ _ (by omega) (by omega) (by omega)) (fun j => h1 _ _ (by omega) (by omega) (by omega)) (fun j => h1 _ _ (by omega) (by omega) (by omega)) (fun j => h1 _ _ (by omega) (by omega) (by omega)) (fun j => h1 _ _ (by omega) (by omega) (by omega)), q2, q3⟩, fun p hp => ⟨(a3 p hp).1, by rw [h1 _ _ (by omega) (by omega) (by omega)]; exact (a3 p hp).2⟩, fun p hp => by rw [h1 _ _ (by omega) (by omega) (by omega)]; exact a4 p hp, fun h p hh hp => ?_⟩
  rw [h2 _ _ (Or.inl rfl), h2 _ _ (Or.inr rfl)]
  exact a5 h p hh hp
def sMm (z a _j : Nat) : Prop := a = z + 8 ∨ a = z + 22 ∨ a = z + 23 ∨ a = z + 24
theorem zF_o {S : Nat → Nat → Prop} {M M' : am_M} (hL : Lay M) (hI : RInv M) (h : oS S M M') (h1 : ∀ a j s', s' < 8 → S a j → ¬ a = 174 + 13 * s' ∧ ¬ a = 177 + 13 * s') : zF S M M' := by
  refine ⟨oS_Lay h hL, RInv_S hI h.2.2.1 h.2.2.2, by unfold mC; rw [h.2.2.2]; exact Nat.le_refl _, fun a' j' _ _ q => h.1 a' j' q, fun a j _ _ => h.2.1 a j, fun a j _ _ => h.2.2.1 a j, fun s' v wt hs' hT => TrW_S hT (fun k => ?_) (fun k => ?_) (fun a j => h.2.1 a j) (fun a j => h.2.2.1 a j)⟩
  · exact h.1 _ _ (fun q => (h1 _ _ s' hs' q).1 rfl)
  · exact h.1 _ _ (fun q => (h1 _ _ s' hs' q).2 rfl)
theorem c_x_costAt (d z p : Nat) (dep cst : Nat → Nat) (qut : Nat → Nat → Prop) (M : am_M) (Q : Option Value → am_M → Prop) (hL : Lay M) (hI : RInv M) (hz : z = 2 ∨ z = 83) (hp : p < 256) (hS : SqX M z dep cst qut)
    (hQ : ∀ M', zF (sMm z) M M' → SqX M' z dep cst qut → Q (some (.int (nI (cst p)))) M') : am_E am_P0 (d + 5) 54 [.ref z, .int (nI p)] M Q := by
  obtain ⟨⟨Rc, c1, c2⟩, q1, a3, a4, a5⟩ := id hS
  have c3 : cst p ≤ 99 := by rw [c2 p hp]; have := sumR_bd Rc (p % 16, p / 16, 0, dep p); omega
  rw [eX5_costAt]
  rcases a4 p hp with hm | hm
  · simp +decide (disch := omega) only [qX5_costAt, lz hL hz, hm, (a3 p hp).2, ni_in_t, ni_tn, am_w1_i, am_w1_r, am_w1_x, am_w1_l, am_w1_w, va_rf_s, am_push_n, am_push_s, am_cs_0, am_cs_i, am_cs_l, am_cs_r, m_uI_K, m_uI_N, m_uI_R, m_uI_L, m_uI_I, m_uL_K, m_uL_N, m_uL_R, m_uL_I, m_uL_L, m_uR_K, m_uR_N, m_uR_I, m_uR_L, m_uR_R, true_and, and_true, true_implies, false_implies, not_true_eq_false, not_false_eq_true, if_true, if_false, false_and, and_false]
    refine c_x_firstSum d z (z + 13) p (dep p) Rc M _ hL hz (Or.inr rfl) hp (by have := (a3 p hp).1; omega) c1 (fun M1 g1 => ?_)
    rw [← c2 p hp]
    have L1 := oS_Lay g1 hL
    have z1 : zF (sMm z) M M1 := zF_o hL hI (oS_up g1 (fun a j q => Or.inl q)) (fun a j s' hs' q => by unfold sMm at q; omega)
    have z2 : zF (sMm z) M1 (uI M1 (z + 22) p (nI (cst p))) := zF_i z1.1 z1.2.1 _ (Or.inr (Or.inl rfl)) (fun s' hs' => by omega)
    have S1 : SqX M1 z dep cst qut := SqX_u hS (fun a j q1 q2 q3 => g1.1 _ _ (by unfold sPl; omega)) (fun a j q => g1.2.1 _ _)
    have h0 := hQ _ (zF_trans z1 z2) ⟨by
      obtain ⟨Rc', d1, d2⟩ := S1.1
      exact ⟨Rc', RlX_u d1 (fun j => by rw [m_uI_I, if_neg (by omega)]) (fun j => by rw [m_uI_I, if_neg (by omega)]) (fun j => by rw [m_uI_I, if_neg (by omega)]) (fun j => by rw [m_uI_I, if_neg (by omega)]) (fun j => by rw [m_uI_I, if_neg (by omega)]), d2⟩, by
      obtain ⟨Rc', d1, d2⟩ := S1.2.1
      exact ⟨Rc', RlX_u d1 (fun j => by rw [m_uI_I, if_neg (by omega)]) (fun j => by rw [m_uI_I, if_neg (by omega)]) (fun j => by rw [m_uI_I, if_neg (by omega)]) (fun j => by rw [m_uI_I, if_neg (by omega)]) (fun j => by rw [m_uI_I, if_neg (by omega)]), d2⟩, fun p' hp' => ⟨(S1.2.2.1 p' hp').1, by rw [m_uI_I, if_neg (by omega)]; exact (S1.2.2.1 p' hp').2⟩, fun p' hp' => by
        rw [m_uI_I]
        by_cases e : p' = p
        · rw [if_pos ⟨rfl, e⟩, e]; exact Or.inr rfl
        · rw [if_neg (fun q => e q.2)]; exact S1.2.2.2.1 p' hp', fun h p' => S1.2.2.2.2 h p'⟩
    simp +decide (disch := omega) only [qX5_costAt, lz L1 hz, ni_in_t, ni_tn, am_w1_i, am_w1_r, am_w1_x, am_w1_l, am_w1_w, va_rf_s, am_push_n, am_push_s, am_cs_0, am_cs_i, am_cs_l, am_cs_r, m_uI_K, m_uI_N, m_uI_R, m_uI_L, m_uI_I, m_uL_K, m_uL_N, m_uL_R, m_uL_I, m_uL_L, m_uR_K, m_uR_N, m_uR_I, m_uR_L, m_uR_R, true_and, and_true, true_implies, false_implies, not_true_eq_false, not_false_eq_true, if_true, if_false, false_and, and_false]
    exact h0
  · have h0 := hQ M (zF_refl hL hI) hS
    have hm1 : ¬ nI (cst p) = -1 := nI_m1 (by omega)
    simp +decide (disch := omega) only [qX5_costAt, lz hL hz, hm, ni_in_t, ni_tn, am_w1_i, am_w1_r, am_w1_x, am_w1_l, am_w1_w, va_rf_s, am_push_n, am_push_s, am_cs_0, am_cs_i, am_cs_l, am_cs_r, m_uI_K, m_uI_N, m_uI_R, m_uI_L, m_uI_I, m_uL_K, m_uL_N, m_uL_R, m_uL_I, m_uL_L, m_uR_K, m_uR_N, m_uR_I, m_uR_L, m_uR_R, true_and, and_true, true_implies, false_implies, not_true_eq_false, not_false_eq_true, if_true, if_false, false_and, and_false]
    rw [br_p hm1]
    exact h0
theorem sb_mask {x m : Int64} {i : Nat} (hm : ∀ j, sbit m j = decide (j = i)) (hi : i < 64) : x &&& m = 0 ↔ ¬ sbit x i = true := by
  constructor
  · intro h q
    have : sbit (x &&& m) i = sbit 0 i := by rw [h]
    rw [sb_and, q, hm i, sb_0, decide_eq_true rfl] at this
    cases this
  · intro h
    refine sb_ext (fun j hj => ?_)
    rw [sb_and, hm j, sb_0]
    by_cases e : j = i
    · subst e
      rw [Bool.not_eq_true] at h
      rw [h]; rfl
    · rw [decide_eq_false e, Bool.and_false]
theorem l_x_quiet2 (d z p h : Nat) (dep cst : Nat → Nat) (qut : Nat → Nat → Prop) (M : am_M) (Q : Option Value → am_M → Prop) (m : Int64) (hL : Lay M) (hz : z = 2 ∨ z = 83) (hp : p < 256) (hh : h < 48) (hm : ∀ j, sbit m j = decide (j = p % 64)) (hS : SqX M z dep cst qut) (hk : sbit (mL M (z + 23) (4 * h + p / 64)) (p % 64) = true)
    (hQ : Q (some (.int (tI (qut p h)))) M) : am_P am_P0 d (am_look tX5_isQuiet) 76 [.ref z, .int (nI p), .int (nI h), .int (nI (4 * h + p / 64)), .long m, am_x] [] M Q := by
  have e := (hS.2.2.2.2 h p hh hp).1 hk
  have hb := sb_mask (x := mL M (z + 24) (4 * h + p / 64)) hm (by omega)
  simp +decide (disch := omega) only [qX5_isQuiet_0, qX5_isQuiet_1, lz hL hz, lgc_0, hb, ni_in_t, ni_tn, am_w1_i, am_w1_r, am_w1_x, am_w1_l, am_w1_w, va_rf_s, am_push_n, am_push_s, am_cs_0, am_cs_i, am_cs_l, am_cs_r, m_uI_K, m_uI_N, m_uI_R, m_uI_L, m_uI_I, m_uL_K, m_uL_N, m_uL_R, m_uL_I, m_uL_L, m_uR_K, m_uR_N, m_uR_I, m_uR_L, m_uR_R, true_and, and_true, true_implies, false_implies, not_true_eq_false, not_false_eq_true, if_true, if_false, false_and, and_false]
  by_cases c : qut p h
  · rw [br_n (fun q => q (e.mpr c))]
    rw [tI_t c] at hQ
    exact hQ
  · rw [br_p (fun q => c (e.mp q))]
    rw [tI_f c] at hQ
    exact hQ
theorem c_x_isQuiet (d z p h : Nat) (dep cst : Nat → Nat) (qut : Nat → Nat → Prop) (M : am_M) (Q : Option Value → am_M → Prop) (hL : Lay M) (hI : RInv M) (hz : z = 2 ∨ z = 83) (hp : p < 256) (hh : h < 48) (hS : SqX M z dep cst qut)
    (hQ : ∀ M', zF (sMm z) M M' → SqX M' z dep cst qut → Q (some (.int (tI (qut p h)))) M') : am_E am_P0 (d + 4) 55 [.ref z, .int (nI p), .int (nI h)] M Q := by
  obtain ⟨⟨Rc, c1, c2⟩, ⟨Rq, q1, q2, q3⟩, a3, a4, a5⟩ := id hS
  have e1 : nI h * 4 + nI (p / 64) = nI (4 * h + p / 64) := by rw [show (4 : Int32) = nI 4 from rfl, ni_mul, ni_add, Nat.mul_comm]
  obtain ⟨m, hme⟩ : ∃ m, m = (1 : Int64) <<< ((nI (p % 64)).toInt64 &&& 63) := ⟨_, rfl⟩
  have hm : ∀ j, sbit m j = decide (j = p % 64) := fun j => by rw [hme]; exact bt_one (by omega) j
  have hb := sb_mask (x := mL M (z + 23) (4 * h + p / 64)) hm (by omega)
  rw [eX5_isQuiet]
  simp +decide (disch := omega) only [qX5_isQuiet_0, qX5_isQuiet_1, lz hL hz, sr6 p hp, an63 p hp, e1, ← hme, lgc_0, hb, (a3 p hp).2, ni_in_t, ni_tn, am_w1_i, am_w1_r, am_w1_x, am_w1_l, am_w1_w, va_rf_s, am_push_n, am_push_s, am_cs_0, am_cs_i, am_cs_l, am_cs_r, m_uI_K, m_uI_N, m_uI_R, m_uI_L, m_uI_I, m_uL_K, m_uL_N, m_uL_R, m_uL_I, m_uL_L, m_uR_K, m_uR_N, m_uR_I, m_uR_L, m_uR_R, true_and, and_true, true_implies, false_implies, not_true_eq_false, not_false_eq_true, if_true, if_false, false_and, and_false]
  by_cases ck : sbit (mL M (z + 23) (4 * h + p / 64)) (p % 64) = true
  · rw [br_p (fun q => q ck)]
    have h0 := l_x_quiet2 (d + 4) z p h dep cst qut M Q m hL hz hp hh hm hS ck (hQ M (zF_refl hL hI) hS)
    simp +decide (disch := omega) only [qX5_isQuiet_0, qX5_isQuiet_1, lz hL hz, lgc_0, ni_in_t, ni_tn, am_w1_i, am_w1_r, am_w1_x, am_w1_l, am_w1_w, va_rf_s, am_push_n, am_push_s, am_cs_0, am_cs_i, am_cs_l, am_cs_r, m_uI_K, m_uI_N, m_uI_R, m_uI_L, m_uI_I, m_uL_K, m_uL_N, m_uL_R, m_uL_I, m_uL_L, m_uR_K, m_uR_N, m_uR_I, m_uR_L, m_uR_R, true_and, and_true, true_implies, false_implies, not_true_eq_false, not_false_eq_true, if_true, if_false, false_and, and_false] at h0
    exact h0
  · rw [br_n (fun q => q ck)]
    have l1 : onlyL M (uL M (z + 23) (4 * h + p / 64) (mL M (z + 23) (4 * h + p / 64) ||| m)) (z + 23) := ⟨fun _ _ => rfl, fun _ _ => rfl, rfl, fun a j q => by rw [m_uL_L, if_neg (fun w => q w.1)]⟩
    have z1 : zF (sMm z) M (uL M (z + 23) (4 * h + p / 64) (mL M (z + 23) (4 * h + p / 64) ||| m)) := zF_l hL hI l1 (by omega) (fun j => Or.inr (Or.inr (Or.inl rfl))) (fun s' hs' => by omega)
    refine c_x_firstHolding d z (z + 17) p h (dep p) false Rq _ _ z1.1 hz (by omega) (fun _ => q2) hp (by omega) (by have := (a3 p hp).1; omega) (RlX_u q1 (fun _ => rfl) (fun _ => rfl) (fun _ => rfl) (fun _ => rfl) (fun _ => rfl)) (fun M2 k r g2 hk hf => ?_) (fun M2 g2 hf => ?_)
    · have L2 := oS_Lay g2 z1.1
      have z2 : zF (sMm z) _ M2 := zF_o z1.1 z1.2.1 (oS_up g2 (fun a j q => Or.inl q)) (fun a j s' hs' q => by unfold sMm at q; omega)
      have hk1 : ¬ nI k = -1 := nI_m1 (by have := (List.getElem?_eq_some_iff.mp hk).1; omega)
      have l3 : onlyL M2 (uL M2 (z + 24) (4 * h + p / 64) (mL M2 (z + 24) (4 * h + p / 64) ||| m)) (z + 24) := ⟨fun _ _ => rfl, fun _ _ => rfl, rfl, fun a j q => by rw [m_uL_L, if_neg (fun w => q w.1)]⟩
      have z3 : zF (sMm z) M2 (uL M2 (z + 24) (4 * h + p / 64) (mL M2 (z + 24) (4 * h + p / 64) ||| m)) := zF_l z2.1 z2.2.1 l3 (by omega) (fun j => Or.inr (Or.inr (Or.inr rfl))) (fun s' hs' => by omega)
      have hqt : qut p h := (q3 p h hp hh).mpr (by rw [hf]; simp)
      have S3 : SqX (uL M2 (z + 24) (4 * h + p / 64) (mL M2 (z + 24) (4 * h + p / 64) ||| m)) z dep cst qut := by
        have S0 : SqX (uL M (z + 23) (4 * h + p / 64) (mL M (z + 23) (4 * h + p / 64) ||| m)) z dep cst qut ∨ True := Or.inr trivial
        refine ⟨⟨Rc, RlX_u c1 (fun j => ?_) (fun j => ?_) (fun j => ?_) (fun j => ?_) (fun j => ?_), c2⟩, ⟨Rq, RlX_u q1 (fun j => ?_) (fun j => ?_) (fun j => ?_) (fun j => ?_) (fun j => ?_), q2, q3⟩, fun p' hp' => ⟨(a3 p' hp').1, ?_⟩, fun p' hp' => ?_, fun h' p' hh' hp' => ?_⟩
        · exact g2.1 _ _ (by unfold sPl; omega)
        · exact g2.1 _ _ (by unfold sPl; omega)
        · exact g2.1 _ _ (by unfold sPl; omega)
        · exact g2.1 _ _ (by unfold sPl; omega)
        · exact g2.1 _ _ (by unfold sPl; omega)
        · exact g2.1 _ _ (by unfold sPl; omega)
        · exact g2.1 _ _ (by unfold sPl; omega)
        · exact g2.1 _ _ (by unfold sPl; omega)
        · exact g2.1 _ _ (by unfold sPl; omega)
        · exact g2.1 _ _ (by unfold sPl; omega)
        · exact (g2.1 _ _ (by unfold sPl; omega)).trans (a3 p' hp').2
        · have e2 := g2.1 (z + 22) p' (by unfold sPl; omega)
          have e3 : mI (uL M (z + 23) (4 * h + p / 64) (mL M (z + 23) (4 * h + p / 64) ||| m)) (z + 22) p' = mI M (z + 22) p' := rfl
          show mI M2 (z + 22) p' = -1 ∨ mI M2 (z + 22) p' = _
          rw [e2, e3]; exact a4 p' hp'
        · have r23 : mL (uL M2 (z + 24) (4 * h + p / 64) (mL M2 (z + 24) (4 * h + p / 64) ||| m)) (z + 23) (4 * h' + p' / 64) = if 4 * h' + p' / 64 = 4 * h + p / 64 then mL M (z + 23) (4 * h + p / 64) ||| m else mL M (z + 23) (4 * h' + p' / 64) := by
            rw [m_uL_L, if_neg (by omega), g2.2.1, m_uL_L]
            by_cases e : 4 * h' + p' / 64 = 4 * h + p / 64
            · rw [if_pos ⟨rfl, e⟩, if_pos e]
            · rw [if_neg (fun q => e q.2), if_neg e]
          have r24 : mL (uL M2 (z + 24) (4 * h + p / 64) (mL M2 (z + 24) (4 * h + p / 64) ||| m)) (z + 24) (4 * h' + p' / 64) = if 4 * h' + p' / 64 = 4 * h + p / 64 then mL M (z + 24) (4 * h + p / 64) ||| m else mL M (z + 24) (4 * h' + p' / 64) := by
            have k : ∀ j, mL M2 (z + 24) j = mL M (z + 24) j := fun j => by rw [g2.2.1, m_uL_L, if_neg (by omega)]
            rw [m_uL_L, k, k]
            by_cases e : 4 * h' + p' / 64 = 4 * h + p / 64
            · rw [if_pos ⟨rfl, e⟩, if_pos e]
            · rw [if_neg (fun q => e q.2), if_neg e]
          rw [r23, r24]
          by_cases e : 4 * h' + p' / 64 = 4 * h + p / 64
          · rw [if_pos e, if_pos e, ← e, sb_or, sb_or, hm, Bool.or_eq_true, Bool.or_eq_true, decide_eq_true_iff]
            have := a5 h' p' hh' hp'
            by_cases e2 : p' % 64 = p % 64
            · have ep : p' = p ∧ h' = h := by omega
              rw [ep.1, ep.2]
              exact ⟨fun _ => ⟨fun _ => hqt, fun _ => Or.inr rfl⟩, fun _ => Or.inr rfl⟩
            · refine ⟨fun q => ⟨fun w => (this.1 (q.resolve_right e2)).mp (w.resolve_right e2), fun w => Or.inl ((this.1 (q.resolve_right e2)).mpr w)⟩, fun w => Or.inl (this.2 (w.resolve_right e2))⟩
          · rw [if_neg e, if_neg e]; exact a5 h' p' hh' hp'
      have h0 := l_x_quiet2 (d + 4) z p h dep cst qut _ Q m z3.1 hz hp hh hm S3 (by rw [m_uL_L, if_neg (by omega), g2.2.1, m_uL_L, if_pos ⟨rfl, rfl⟩, sb_or, hm, decide_eq_true rfl, Bool.or_true]) (hQ _ (zF_trans z1 (zF_trans z2 z3)) S3)
      simp +decide (disch := omega) only [qX5_isQuiet_0, qX5_isQuiet_1, lz L2 hz, ni_in_t, ni_tn, am_w1_i, am_w1_r, am_w1_x, am_w1_l, am_w1_w, va_rf_s, am_push_n, am_push_s, am_cs_0, am_cs_i, am_cs_l, am_cs_r, m_uI_K, m_uI_N, m_uI_R, m_uI_L, m_uI_I, m_uL_K, m_uL_N, m_uL_R, m_uL_I, m_uL_L, m_uR_K, m_uR_N, m_uR_I, m_uR_L, m_uR_R, true_and, and_true, true_implies, false_implies, not_true_eq_false, not_false_eq_true, if_true, if_false, false_and, and_false] at h0 ⊢
      rw [br_n hk1]
      exact h0
    · have L2 := oS_Lay g2 z1.1
      have z2 : zF (sMm z) _ M2 := zF_o z1.1 z1.2.1 (oS_up g2 (fun a j q => Or.inl q)) (fun a j s' hs' q => by unfold sMm at q; omega)
      have hqt : ¬ qut p h := fun q => (q3 p h hp hh).mp q hf
      have S3 : SqX M2 z dep cst qut := by
        refine ⟨⟨Rc, RlX_u c1 (fun j => ?_) (fun j => ?_) (fun j => ?_) (fun j => ?_) (fun j => ?_), c2⟩, ⟨Rq, RlX_u q1 (fun j => ?_) (fun j => ?_) (fun j => ?_) (fun j => ?_) (fun j => ?_), q2, q3⟩, fun p' hp' => ⟨(a3 p' hp').1, ?_⟩, fun p' hp' => ?_, fun h' p' hh' hp' => ?_⟩
        · exact g2.1 _ _ (by unfold sPl; omega)
        · exact g2.1 _ _ (by unfold sPl; omega)
        · exact g2.1 _ _ (by unfold sPl; omega)
        · exact g2.1 _ _ (by unfold sPl; omega)
        · exact g2.1 _ _ (by unfold sPl; omega)
        · exact g2.1 _ _ (by unfold sPl; omega)
        · exact g2.1 _ _ (by unfold sPl; omega)
        · exact g2.1 _ _ (by unfold sPl; omega)
        · exact g2.1 _ _ (by unfold sPl; omega)
        · exact g2.1 _ _ (by unfold sPl; omega)
        · exact (g2.1 _ _ (by unfold sPl; omega)).trans (a3 p' hp').2
        · have e2 := g2.1 (z + 22) p' (by unfold sPl; omega)
          have e3 : mI (uL M (z + 23) (4 * h + p / 64) (mL M (z + 23) (4 * h + p / 64) ||| m)) (z + 22) p' = mI M (z + 22) p' := rfl
          rw [e2, e3]; exact a4 p' hp'
        · have r23 : mL M2 (z + 23) (4 * h' + p' / 64) = if 4 * h' + p' / 64 = 4 * h + p / 64 then mL M (z + 23) (4 * h + p / 64) ||| m else mL M (z + 23) (4 * h' + p' / 64) := by
            rw [g2.2.1, m_uL_L]
            by_cases e : 4 * h' + p' / 64 = 4 * h + p / 64
            · rw [if_pos ⟨rfl, e⟩, if_pos e]
            · rw [if_neg (fun q => e q.2), if_neg e]
          have r24 : mL M2 (z + 24) (4 * h' + p' / 64) = mL M (z + 24) (4 * h' + p' / 64) := by rw [g2.2.1, m_uL_L, if_neg (by omega)]
          rw [r23, r24]
          by_cases e : 4 * h' + p' / 64 = 4 * h + p / 64
          · rw [if_pos e, ← e, sb_or, hm, Bool.or_eq_true, decide_eq_true_iff]
            have := a5 h' p' hh' hp'
            by_cases e2 : p' % 64 = p % 64
            · have ep : p' = p ∧ h' = h := by omega
              rw [ep.1, ep.2] at this ⊢
              exact ⟨fun _ => ⟨fun w => absurd (this.2 w) ck, fun w => absurd w hqt⟩, fun _ => Or.inr rfl⟩
            · exact ⟨fun q => this.1 (q.resolve_right e2), fun w => Or.inl (this.2 w)⟩
          · rw [if_neg e]; exact a5 h' p' hh' hp'
      have h0 := l_x_quiet2 (d + 4) z p h dep cst qut _ Q m z2.1 hz hp hh hm S3 (by rw [g2.2.1, m_uL_L, if_pos ⟨rfl, rfl⟩, sb_or, hm, decide_eq_true rfl, Bool.or_true]) (hQ _ (zF_trans z1 z2) S3)
      simp +decide (disch := omega) only [qX5_isQuiet_0, qX5_isQuiet_1, lz L2 hz, ni_in_t, ni_tn, am_w1_i, am_w1_r, am_w1_x, am_w1_l, am_w1_w, va_rf_s, am_push_n, am_push_s, am_cs_0, am_cs_i, am_cs_l, am_cs_r, m_uI_K, m_uI_N, m_uI_R, m_uI_L, m_uI_I, m_uL_K, m_uL_N, m_uL_R, m_uL_I, m_uL_L, m_uR_K, m_uR_N, m_uR_I, m_uR_L, m_uR_R, true_and, and_true, true_implies, false_implies, not_true_eq_false, not_false_eq_true, if_true, if_false, false_and, and_false] at h0 ⊢
      exact h0
