/-! the class: gaps -/
theorem TkX_zz {M M' : am_M} {s g z v : Nat} {wt : Nat → Prop} {dep : Nat → Nat} {dr ld : Nat} {B : List Fct} {Y : List Sy} {S : Nat → Nat → Prop} (hs : s < 8) (hg : isSh g) (hz : z = 2 ∨ z = 83) (h : TkX M s g z v wt dep dr ld B Y) (hS : zF S M M') (hd : ∀ a j, (g ≤ a ∧ a ≤ g + 6) ∨ a = z + 21 → ¬ S a j) : TkX M' s g z v wt dep dr ld B Y := by
  have hgl := isSh_lt hg
  have ri : ∀ a j, (g ≤ a ∧ a ≤ g + 6) ∨ a = z + 21 → mI M' a j = mI M a j := fun a j ha => hS.2.2.2.1 a j (by omega) (fun s' hs' => by omega) (hd a j ha)
  have rr : ∀ j, mR M' (173 + 13 * s) j = mR M (173 + 13 * s) j := fun j => hS.2.2.2.2.2.1 _ j (by omega) (fun s' hs' => by omega)
  obtain ⟨h1, ⟨a1, a2, a3, a4, a5, a6, a7⟩, ⟨b1, b2, b3⟩, ⟨c1, c2, c3⟩⟩ := h
  refine ⟨hS.2.2.2.2.2.2 s v wt hs h1, ⟨by rw [rr]; exact a1, by rw [rr]; exact a2, by rw [ri _ _ (by omega)]; exact a3, by rw [ri _ _ (by omega)]; exact a4, a5, a6, fun p hp => ⟨(a7 p hp).1, by rw [ri _ _ (by omega)]; exact (a7 p hp).2⟩⟩, ⟨by rw [ri _ _ (by omega)]; exact b1, b2, fun i f hf => ?_⟩, ⟨by rw [ri _ _ (by omega)]; exact c1, c2, fun i f hf => ?_⟩⟩
  · obtain ⟨q1, q2, q3, q4⟩ := b3 i f hf
    exact ⟨q1, by rw [ri _ _ (by omega)]; exact q2, by rw [ri _ _ (by omega)]; exact q3, by rw [ri _ _ (by omega)]; exact q4⟩
  · obtain ⟨q1, q2, q3, q4⟩ := c3 i f hf
    exact ⟨q1, by rw [ri _ _ (by omega)]; exact q2, by rw [ri _ _ (by omega)]; exact q3, by rw [ri _ _ (by omega)]; exact q4⟩
theorem sMm_g {g z a j : Nat} (hg : isSh g) (hz : z = 2 ∨ z = 83) (h : (g ≤ a ∧ a ≤ g + 6) ∨ a = z + 21) : ¬ sMm z a j := by
  obtain ⟨s, h1, h2⟩ := hg
  unfold sMm
  omega
theorem SetX_z {M M' : am_M} {s v : Nat} {wt : Nat → Prop} {snd : Nat → Bool → Prop} {B : List Fct} {Y : List Sy} {S : Nat → Nat → Prop} (hs : s < 8) (h : SetX M s v wt snd B Y) (hz : zF S M M') (hd : ∀ a j, (a = 173 + 13 * s ∧ (j = 8 ∨ j = 11)) ∨ (181 + 13 * s ≤ a ∧ a ≤ 183 + 13 * s) → ¬ S a j) : SetX M' s v wt snd B Y := by
  obtain ⟨h1, h2, h3, h4, h5⟩ := h
  have ri : ∀ a j, (a = 173 + 13 * s ∧ (j = 8 ∨ j = 11)) ∨ (181 + 13 * s ≤ a ∧ a ≤ 183 + 13 * s) → mI M' a j = mI M a j := fun a j ha => hz.2.2.2.1 a j (by omega) (fun s' hs' => by omega) (hd a j ha)
  refine ⟨by rw [ri _ _ (by omega)]; exact h1, fun k y hy => by rw [ri _ _ (by omega)]; exact h2 k y hy, by rw [ri _ _ (by omega)]; exact h3, fun k hk => by rw [ri _ _ (by omega)]; exact h4 k hk, fun h hh q => ?_⟩
  exact (inS_ext (fun i _ => hz.2.2.2.2.1 _ _ (by omega) (hd _ _ (by omega))) q).trans (h5 h hh q)
section
variable (wt : Nat → Prop) (v : Nat) (snd : Nat → Bool → Prop) (B : List Fct) (Y : List Sy) (qut : Nat → Nat → Prop)
/-- an honest hour -/
def hnY (h : Nat) : Prop := ∃ q, mayY wt v snd B Y q h ∧ qut q h
/-- an hour between sayings, in which nothing is said -/
def usY (t : Nat) : Prop := (∃ y, y ∈ Y ∧ y.1 < t) ∧ (∃ y, y ∈ Y ∧ t < y.1) ∧ ∀ y, y ∈ Y → ¬ y.1 = t
noncomputable def unN (n : Nat) : Nat := cnt (fun t => dB (usY Y t)) n
noncomputable def gpN (n : Nat) : Nat := cnt (fun t => dB (usY Y t ∧ ¬ hnY wt v snd B Y qut t)) n
end
theorem l_x_hon2 (d s z h i : Nat) (may : Nat → Prop) (dep cst : Nat → Nat) (qut : Nat → Nat → Prop) (M0 : am_M) (Q : Option Value → am_M → Prop) (hs : s < 8) (hz : z = 2 ∨ z = 83) (hh : h < 48) (hi : i < 4) (hR : mR M0 (173 + 13 * s) 1 = some z) (hm : ∀ q, inS (my4 M0 s h) q ↔ may q)
    (hY : ∀ M', zF (sMm z) M0 M' → SqX M' z dep cst qut → (∃ q, may q ∧ qut q h) → Q (some (.int 1)) M')
    (hN : ∀ M' x v5, zF (sMm z) M0 M' → SqX M' z dep cst qut → (∀ q, q < 64 * (i + 1) → may q → ¬ qut q h) → am_P am_P0 (d + 5) (am_look tX8_isHonest) 2 [.ref (173 + 13 * s), .int (nI h), .int (nI (i + 1)), .long x, am_x, .int v5] [] M' Q) :
    ∀ (r k : Nat), k + r = 64 → ∀ (M : am_M) (x : Int64), zF (sMm z) M0 M → SqX M z dep cst qut → (∀ j, sbit x j = sbit (mL M0 (183 + 13 * s) (4 * h + i)) (k + j)) → (∀ q, q < 64 * i + k → may q → ¬ qut q h) → am_P am_P0 (d + 5) (am_look tX8_isHonest) 24 [.ref (173 + 13 * s), .int (nI h), .int (nI i), .long x, am_x, .int (nI (64 * i + k))] [] M Q := by
  have e64 : nI i * 64 + 64 = nI (64 * i + 64) := by rw [show (64 : Int32) = nI 64 from rfl, ni_mul, ni_add, Nat.mul_comm]
  have hq : ∀ q, q < 256 → q / 64 = i → (may q ↔ sbit (mL M0 (183 + 13 * s) (4 * h + i)) (q % 64) = true) := fun q h1 h2 => by
    rw [← hm q]
    unfold inS my4
    rw [h2]
    exact ⟨fun q => q.2, fun q => ⟨h1, q⟩⟩
  intro r
  induction r with
  | zero =>
    intro k hk M x hM hS hx hno
    have e : k = 64 := by omega
    subst e
    have hle : nI (64 * i + 64) ≤ nI (64 * i + 64) := (ni_le (by omega) (by omega)).mpr (Nat.le_refl _)
    have h0 := hN M x (nI (64 * i + 64)) hM hS (fun q hq => hno q (by omega))
    rw [hX8_isHonest_24]
    simp +decide only [qX8_isHonest_0, qX8_isHonest_1, e64, lgc_0, ni_add1, am_w1_i, am_w1_r, am_w1_x, am_w1_l, am_w1_w, va_rf_s, am_push_n, am_push_s, am_cs_0, am_cs_i, am_cs_l, am_cs_r, m_uI_K, m_uI_N, m_uI_R, m_uI_L, m_uI_I, m_uL_K, m_uL_N, m_uL_R, m_uL_I, m_uL_L, m_uR_K, m_uR_N, m_uR_I, m_uR_L, m_uR_R, true_and, and_true, true_implies, false_implies, not_true_eq_false, not_false_eq_true, if_true, if_false, false_and, and_false]
    by_cases c : x = 0
    · rw [br_p c]; exact h0
    · rw [br_n c, br_p hle]; exact h0
  | succ r ih =>
    intro k hk M x hM hS hx hno
    have hlt : ¬ nI (64 * i + 64) ≤ nI (64 * i + k) := by rw [ni_le (by omega) (by omega)]; omega
    have hRM : mR M (173 + 13 * s) 1 = some z := by rw [hM.2.2.2.2.2.1 _ _ (by omega) (fun s' hs' => by omega)]; exact hR
    have hb0 := sb_bit0 x
    have hx0 := hx 0
    have hmk := hq (64 * i + k) (by omega) (by omega)
    have ek : (64 * i + k) % 64 = k := by omega
    rw [ek] at hmk
    rw [Nat.add_zero] at hx0
    have hsh : ∀ j, sbit (x.toUInt64 >>> ((1 : Int32).toInt64 &&& 63).toUInt64).toInt64 j = sbit (mL M0 (183 + 13 * s) (4 * h + i)) (k + 1 + j) := fun j => by
      rw [sb_shr x (k := 1) (by decide), hx, Nat.add_assoc]
    rw [hX8_isHonest_24]
    simp +decide only [qX8_isHonest_0, qX8_isHonest_1, lt_ hM.1 (isTr_of hs), hRM, lz hM.1 hz, e64, lgc_0, ni_add1, am_w1_i, am_w1_r, am_w1_x, am_w1_l, am_w1_w, va_rf_s, am_push_n, am_push_s, am_cs_0, am_cs_i, am_cs_l, am_cs_r, m_uI_K, m_uI_N, m_uI_R, m_uI_L, m_uI_I, m_uL_K, m_uL_N, m_uL_R, m_uL_I, m_uL_L, m_uR_K, m_uR_N, m_uR_I, m_uR_L, m_uR_R, true_and, and_true, true_implies, false_implies, not_true_eq_false, not_false_eq_true, if_true, if_false, false_and, and_false]
    by_cases c : x = 0
    · have h0 := hN M x (nI (64 * i + k)) hM hS (fun q hql hmq => by
        by_cases e : q < 64 * i + k
        · exact hno q e hmq
        · have := (hq q (by omega) (by omega)).mp hmq
          have h2 := hx (q % 64 - k)
          rw [c, sb_0, show k + (q % 64 - k) = q % 64 by omega, this] at h2
          cases h2)
      rw [br_p c]
      exact h0
    · rw [br_n c, br_n hlt]
      by_cases c0 : x &&& 1 = 0
      · have hf := hb0.mp c0
        rw [hx0] at hf
        rw [br_p c0]
        exact ih (k + 1) (by omega) M _ hM hS hsh (fun q hql hmq => by
          by_cases e : q = 64 * i + k
          · subst e; rw [hmk, hf] at hmq; cases hmq
          · exact hno q (by omega) hmq)
      · have hf : sbit x 0 = true := by
          rw [← Bool.not_eq_false]; exact fun q => c0 (hb0.mpr q)
        rw [hx0] at hf
        rw [br_n c0]
        refine c_x_isQuiet d z (64 * i + k) h dep cst qut M _ hM.1 hM.2.1 hz (by omega) hh hS (fun M1 g1 S1 => ?_)
        have hM1 := zF_trans hM g1
        simp +decide only [qX8_isHonest_0, qX8_isHonest_1, ni_add1, am_w1_i, am_w1_r, am_w1_x, am_w1_l, am_w1_w, va_rf_s, am_push_n, am_push_s, am_cs_0, am_cs_i, am_cs_l, am_cs_r, m_uI_K, m_uI_N, m_uI_R, m_uI_L, m_uI_I, m_uL_K, m_uL_N, m_uL_R, m_uL_I, m_uL_L, m_uR_K, m_uR_N, m_uR_I, m_uR_L, m_uR_R, true_and, and_true, true_implies, false_implies, not_true_eq_false, not_false_eq_true, if_true, if_false, false_and, and_false]
        by_cases cq : qut (64 * i + k) h
        · rw [tI_t cq, br_n (by decide)]
          exact hY M1 hM1 S1 ⟨_, hmk.mpr hf, cq⟩
        · rw [tI_f cq, br_p rfl]
          exact ih (k + 1) (by omega) M1 _ hM1 S1 hsh (fun q hql hmq => by
            by_cases e : q = 64 * i + k
            · subst e; exact cq
            · exact hno q (by omega) hmq)
theorem l_x_hon1 (d s z h : Nat) (may : Nat → Prop) (dep cst : Nat → Nat) (qut : Nat → Nat → Prop) (M0 : am_M) (Q : Option Value → am_M → Prop) (hs : s < 8) (hz : z = 2 ∨ z = 83) (hh : h < 48) (hR : mR M0 (173 + 13 * s) 1 = some z) (hm : ∀ q, inS (my4 M0 s h) q ↔ may q)
    (hY : ∀ M', zF (sMm z) M0 M' → SqX M' z dep cst qut → (∃ q, may q ∧ qut q h) → Q (some (.int 1)) M')
    (hN : ∀ M', zF (sMm z) M0 M' → SqX M' z dep cst qut → ¬ (∃ q, may q ∧ qut q h) → Q (some (.int 0)) M') :
    ∀ (r i : Nat), i + r = 4 → ∀ (M : am_M) (v3 v4 v5 : Value), zF (sMm z) M0 M → SqX M z dep cst qut → (∀ q, q < 64 * i → may q → ¬ qut q h) → am_P am_P0 (d + 5) (am_look tX8_isHonest) 2 [.ref (173 + 13 * s), .int (nI h), .int (nI i), v3, v4, v5] [] M Q := by
  obtain ⟨w, hwe⟩ : ∃ w, w = 173 + 13 * s := ⟨_, rfl⟩
  have hw : isTr w := ⟨s, hs, hwe⟩
  have e10 : 183 + 13 * s = w + 10 := by omega
  intro r
  induction r with
  | zero =>
    intro i hi M v3 v4 v5 hM hS hno
    have e : i = 4 := by omega
    subst e
    have h0 := hN M hM hS (fun ⟨q, q1, q2⟩ => hno q ((hm q).mpr q1).1 q1 q2)
    rw [hX8_isHonest_2]
    simp +decide only [qX8_isHonest_0, qX8_isHonest_1, am_w1_i, am_w1_r, am_w1_x, am_w1_l, am_w1_w, va_rf_s, am_push_n, am_push_s, am_cs_0, am_cs_i, am_cs_l, am_cs_r, m_uI_K, m_uI_N, m_uI_R, m_uI_L, m_uI_I, m_uL_K, m_uL_N, m_uL_R, m_uL_I, m_uL_L, m_uR_K, m_uR_N, m_uR_I, m_uR_L, m_uR_R, true_and, and_true, true_implies, false_implies, not_true_eq_false, not_false_eq_true, if_true, if_false, false_and, and_false]
    exact h0
  | succ r ih =>
    intro i hi M v3 v4 v5 hM hS hno
    have hlt : ¬ (4 : Int32) ≤ nI i := by rw [show (4 : Int32) = nI 4 from rfl, ni_le (by omega) (by omega)]; omega
    have e1 : nI h * 4 + nI i = nI (4 * h + i) := by rw [show (4 : Int32) = nI 4 from rfl, ni_mul, ni_add, Nat.mul_comm]
    have e2 : nI i * 64 = nI (64 * i + 0) := by rw [show (64 : Int32) = nI 64 from rfl, ni_mul, Nat.mul_comm]; rfl
    have hl : mL M (w + 10) (4 * h + i) = mL M0 (w + 10) (4 * h + i) := hM.2.2.2.2.1 _ _ (by omega) (by unfold sMm; omega)
    have h0 := l_x_hon2 d s z h i may dep cst qut M0 Q hs hz hh (by omega) hR hm hY (fun M' x v5 a1 a2 a3 => ih (i + 1) (by omega) M' _ _ _ a1 a2 a3) 64 0 (by omega) M (mL M0 (w + 10) (4 * h + i)) hM hS (fun j => by rw [e10, Nat.zero_add]) hno
    rw [← hwe] at h0 ⊢
    rw [hX8_isHonest_2]
    simp +decide (disch := omega) only [qX8_isHonest_0, qX8_isHonest_1, lt_ hM.1 hw, e1, e2, hl, ni_in_t, ni_tn, am_w1_i, am_w1_r, am_w1_x, am_w1_l, am_w1_w, va_rf_s, am_push_n, am_push_s, am_cs_0, am_cs_i, am_cs_l, am_cs_r, m_uI_K, m_uI_N, m_uI_R, m_uI_L, m_uI_I, m_uL_K, m_uL_N, m_uL_R, m_uL_I, m_uL_L, m_uR_K, m_uR_N, m_uR_I, m_uR_L, m_uR_R, true_and, and_true, true_implies, false_implies, not_true_eq_false, not_false_eq_true, if_true, if_false, false_and, and_false]
    rw [br_n hlt]
    exact h0
theorem c_x_isHonest (d s z h : Nat) (may : Nat → Prop) (dep cst : Nat → Nat) (qut : Nat → Nat → Prop) (M : am_M) (Q : Option Value → am_M → Prop) (hL : Lay M) (hI : RInv M) (hs : s < 8) (hz : z = 2 ∨ z = 83) (hh : h < 48) (hR : mR M (173 + 13 * s) 1 = some z) (hm : ∀ q, inS (my4 M s h) q ↔ may q) (hS : SqX M z dep cst qut)
    (hQ : ∀ M', zF (sMm z) M M' → SqX M' z dep cst qut → Q (some (.int (tI (∃ q, may q ∧ qut q h)))) M') : am_E am_P0 (d + 5) 99 [.ref (173 + 13 * s), .int (nI h)] M Q := by
  rw [eX8_isHonest]
  simp +decide only [qX8_isHonest_0, qX8_isHonest_1, am_w1_i, am_w1_r, am_w1_x, am_w1_l, am_w1_w, va_rf_s, am_push_n, am_push_s, am_cs_0, am_cs_i, am_cs_l, am_cs_r, m_uI_K, m_uI_N, m_uI_R, m_uI_L, m_uI_I, m_uL_K, m_uL_N, m_uL_R, m_uL_I, m_uL_L, m_uR_K, m_uR_N, m_uR_I, m_uR_L, m_uR_R, true_and, and_true, true_implies, false_implies, not_true_eq_false, not_false_eq_true, if_true, if_false, false_and, and_false]
  rw [show (0 : Int32) = nI 0 from rfl]
  exact l_x_hon1 d s z h may dep cst qut M Q hs hz hh hR hm (fun M1 g1 s1 c => by have := hQ M1 g1 s1; rw [tI_t c] at this; exact this) (fun M1 g1 s1 c => by have := hQ M1 g1 s1; rw [tI_f c] at this; exact this) 4 0 (by omega) M _ _ _ (zF_refl hL hI) hS (fun q hq => by omega)
