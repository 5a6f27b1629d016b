/-! the class: a new sea is measured, tracks begin -/
/-- nothing is changed but S, and references T -/
def gF (S T : Nat → Nat → Prop) (M M' : am_M) : Prop := (∀ a j, ¬ S a j → mI M' a j = mI M a j) ∧ (∀ a j, ¬ S a j → mL M' a j = mL M a j) ∧ (∀ a j, ¬ T a j → mR M' a j = mR M a j) ∧ mS M' = mS M
def nT (_a _j : Nat) : Prop := False
theorem gF_refl (S T : Nat → Nat → Prop) (M : am_M) : gF S T M M := ⟨fun _ _ _ => rfl, fun _ _ _ => rfl, fun _ _ _ => rfl, rfl⟩
theorem gF_trans {S T : Nat → Nat → Prop} {M M' M'' : am_M} (h1 : gF S T M M') (h2 : gF S T M' M'') : gF S T M M'' := ⟨fun a j q => (h2.1 a j q).trans (h1.1 a j q), fun a j q => (h2.2.1 a j q).trans (h1.2.1 a j q), fun a j q => (h2.2.2.1 a j q).trans (h1.2.2.1 a j q), h2.2.2.2.trans h1.2.2.2⟩
theorem gF_up {S T S' T' : Nat → Nat → Prop} {M M' : am_M} (h : gF S T M M') (hs : ∀ a j, S a j → S' a j) (ht : ∀ a j, T a j → T' a j) : gF S' T' M M' := ⟨fun a j q => h.1 a j (fun z => q (hs a j z)), fun a j q => h.2.1 a j (fun z => q (hs a j z)), fun a j q => h.2.2.1 a j (fun z => q (ht a j z)), h.2.2.2⟩
theorem gF_i {S T : Nat → Nat → Prop} {M : am_M} {a j : Nat} (x : Int32) (h : S a j) : gF S T M (uI M a j x) := ⟨fun a' j' q => by rw [m_uI_I, if_neg (fun z => q (by rw [z.1, z.2]; exact h))], fun _ _ _ => rfl, fun _ _ _ => rfl, rfl⟩
theorem gF_l {S T : Nat → Nat → Prop} {M : am_M} {a j : Nat} (x : Int64) (h : S a j) : gF S T M (uL M a j x) := ⟨fun _ _ _ => rfl, fun a' j' q => by rw [m_uL_L, if_neg (fun z => q (by rw [z.1, z.2]; exact h))], fun _ _ _ => rfl, rfl⟩
theorem gF_r {S T : Nat → Nat → Prop} {M : am_M} {a j : Nat} (x : Option Nat) (h : T a j) : gF S T M (uR M a j x) := ⟨fun _ _ _ => rfl, fun _ _ _ => rfl, fun a' j' q => by rw [m_uR_R, if_neg (fun z => q (by rw [z.1, z.2]; exact h))], rfl⟩
theorem gF_A {S T : Nat → Nat → Prop} {M : am_M} {a : Nat} (f : Nat → Int32) (h : ∀ j, S a j) : gF S T M (uA M a f) := ⟨fun a' j' q => by rw [uA_I, if_neg (fun z => q (by rw [z]; exact h j'))], fun _ _ _ => rfl, fun _ _ _ => rfl, rfl⟩
theorem gF_B {S T : Nat → Nat → Prop} {M : am_M} {a : Nat} (f : Nat → Int64) (h : ∀ j, S a j) : gF S T M (uB M a f) := ⟨fun _ _ _ => rfl, fun a' j' q => by rw [uB_L, if_neg (fun z => q (by rw [z]; exact h j'))], fun _ _ _ => rfl, rfl⟩
theorem gF_o {S T : Nat → Nat → Prop} {M M' : am_M} (h : oS S M M') : gF S T M M' := ⟨h.1, fun a j _ => h.2.1 a j, fun a j _ => h.2.2.1 a j, h.2.2.2⟩
theorem gF_Lay {S T : Nat → Nat → Prop} {M M' : am_M} (h : gF S T M M') (hL : Lay M) (hT : ∀ q ∈ ly_F, ¬ T q.1 q.2.1) : Lay M' := by
  obtain ⟨⟨n, h1, h2⟩, h3⟩ := hL
  exact ⟨⟨n, h1, by rw [h.2.2.2]; exact h2⟩, fun q hq => by rw [h.2.2.1 _ _ (hT q hq)]; exact h3 q hq⟩
theorem gF_LayN {S : Nat → Nat → Prop} {M M' : am_M} (h : gF S nT M M') (hL : Lay M) : Lay M' := gF_Lay h hL (fun _ _ q => q)
theorem gF_RInv {S T : Nat → Nat → Prop} {M M' : am_M} (h : gF S T M M') (hI : RInv M) (hT : ∀ a j s, s < 8 → T a j → ¬ a = 176 + 13 * s) : RInv M' := by
  have hR : ∀ s j, s < 8 → mR M' (176 + 13 * s) j = mR M (176 + 13 * s) j := fun s j hs => h.2.2.1 _ _ (fun q => hT _ _ s hs q rfl)
  have eC : mC M' = mC M := by unfold mC; rw [h.2.2.2]
  have ec : cnt (rgC M') 2048 = cnt (rgC M) 2048 := cnt_ext (fun t ht => by unfold rgC; rw [hR _ _ (by omega)])
  exact ⟨fun s p r q1 q2 q3 => by rw [eC]; exact hI.1 s p r q1 q2 (by rw [← hR s p q1]; exact q3), fun s p s' p' r q1 q2 q3 q4 q5 q6 => hI.2.1 s p s' p' r q1 q2 q3 q4 (by rw [← hR s p q1]; exact q5) (by rw [← hR s' p' q3]; exact q6), by rw [eC, ec]; exact hI.2.2⟩
def sWb (s a j : Nat) : Prop := (a = 174 + 13 * s ∧ j = 1) ∨ a = 175 + 13 * s ∨ a = 177 + 13 * s
theorem l_x_Wbeg (d s g z v dr : Nat) (dep : Nat → Nat) (M0 : am_M) (Q : Option Value → am_M → Prop) (hL : Lay M0) (hs : s < 8) (hg : isSh g) (hz : z = 2 ∨ z = 83) (hv2 : v ≤ 4) (hdr : mI M0 g 3 = nI dr) (hd2 : dr ≤ 40) (hdep : ∀ p, p < 256 → dep p ≤ 99 ∧ mI M0 (z + 21) p = nI (dep p))
    (hQ : ∀ M', gF (sWb s) nT M0 M' → TrW M' s v (fun p => p < 256 ∧ dr ≤ dep p) → Q none M') :
    ∀ (r k : Nat), k + r = 256 → ∀ (M : am_M), gF (sWb s) nT M0 M → mI M (174 + 13 * s) 1 = nI v → (∀ p, p < k → mI M (177 + 13 * s) p = 0) → (∀ q, inS (fun i => mL M (175 + 13 * s) i) q ↔ q < k ∧ dr ≤ dep q) → am_P am_P0 (d + 1) (am_look tX9_begin) 22 [.ref (174 + 13 * s), .ref z, .ref g, .int (nI k)] [] M Q := by
  obtain ⟨w, hwe⟩ : ∃ w, w = 173 + 13 * s := ⟨_, rfl⟩
  have hw : isTr w := ⟨s, hs, hwe⟩
  have e1 : 174 + 13 * s = w + 1 := by omega
  have e2 : 175 + 13 * s = w + 2 := by omega
  have e4 : 177 + 13 * s = w + 4 := by omega
  have hgl := isSh_lt hg
  intro r
  induction r with
  | zero =>
    intro k hk M hM h1 h4 h2
    have e : k = 256 := by omega
    subst e
    have h0 := hQ M hM ⟨h1, hv2, h2, fun p hp => ⟨Or.inl (h4 p hp), fun q => by rw [h4 p hp] at q; cases q⟩⟩
    rw [hX9_begin_22]
    simp +decide only [qX9_begin_0, qX9_begin_1, am_w1_i, am_w1_r, am_w1_x, am_w1_l, am_w1_w, va_rf_s, am_push_n, am_push_s, am_cs_0, am_cs_i, am_cs_l, am_cs_r, m_uI_K, m_uI_N, m_uI_R, m_uI_L, m_uI_I, m_uL_K, m_uL_N, m_uL_R, m_uL_I, m_uL_L, m_uR_K, m_uR_N, m_uR_I, m_uR_L, m_uR_R, true_and, and_true, true_implies, false_implies, not_true_eq_false, not_false_eq_true, if_true, if_false, false_and, and_false]
    exact h0
  | succ r ih =>
    intro k hk M hM h1 h4 h2
    have hLM := gF_LayN hM hL
    have hlt : ¬ (256 : Int32) ≤ nI k := by rw [show (256 : Int32) = nI 256 from rfl, ni_le (by omega) (by omega)]; omega
    have hdk : mI M (z + 21) k = nI (dep k) := by rw [hM.1 _ _ (by unfold sWb; omega)]; exact (hdep k (by omega)).2
    have hdrM : mI M g 3 = nI dr := by rw [hM.1 _ _ (by unfold sWb; omega)]; exact hdr
    have hdk9 := (hdep k (by omega)).1
    have g1 : gF (sWb s) nT M (uI M (w + 4) k 0) := gF_i _ (Or.inr (Or.inr e4.symm))
    have n1 : ¬ (w + 4 = z + 21) := by omega
    have n2 : ¬ (w + 4 = g) := by omega
    have n1' : ¬ (z + 21 = w + 4) := by omega
    have n2' : ¬ (g = w + 4) := by omega
    have h4' : ∀ x M', (∀ p, mI M' (177 + 13 * s) p = mI (uI M (w + 4) k 0) (177 + 13 * s) p) → ∀ p, p < k + 1 → mI M' (177 + 13 * s) p = (if x = 0 then 0 else 0 : Int32) := fun x M' h p hp => by
      rw [h p, m_uI_I]
      by_cases e : p = k
      · rw [if_pos ⟨e4, e⟩]; split <;> rfl
      · rw [if_neg (fun q => e q.2), h4 p (by omega)]; split <;> rfl
    rw [e1, hX9_begin_22]
    simp +decide (disch := omega) only [qX9_begin_0, qX9_begin_1, lt_ hLM hw, lz hLM hz, lw_ hLM hg, sr6 k (by omega), an63 k (by omega), hdk, hdrM, n1', n2', ni_in_t, ni_tn, ni_add1, am_w1_i, am_w1_r, am_w1_x, am_w1_l, am_w1_w, va_rf_s, am_push_n, am_push_s, am_cs_0, am_cs_i, am_cs_l, am_cs_r, m_uI_K, m_uI_N, m_uI_R, m_uI_L, m_uI_I, m_uL_K, m_uL_N, m_uL_R, m_uL_I, m_uL_L, m_uR_K, m_uR_N, m_uR_I, m_uR_L, m_uR_R, true_and, and_true, true_implies, false_implies, not_true_eq_false, not_false_eq_true, if_true, if_false, false_and, and_false]
    rw [br_n hlt]
    by_cases c : dr ≤ dep k
    · have g2 : gF (sWb s) nT (uI M (w + 4) k 0) (uL (uI M (w + 4) k 0) (w + 2) (k / 64) (mL M (w + 2) (k / 64) ||| (1 : Int64) <<< ((nI (k % 64)).toInt64 &&& 63))) := gF_l _ (Or.inr (Or.inl e2.symm))
      have h0 := ih (k + 1) (by omega) _ (gF_trans hM (gF_trans g1 g2)) (by
        show mI (uI M (w + 4) k 0) (174 + 13 * s) 1 = _
        rw [m_uI_I, if_neg (by omega)]; exact h1) (fun p hp => h4' 0 _ (fun p => rfl) p hp) (fun q => ?_)
      · rw [br_n (by rw [ni_lt (by omega) (by omega)]; omega)]
        rw [e1] at h0
        exact h0
      · have hq := h2 q
        unfold inS at hq ⊢
        dsimp only at hq ⊢
        rw [m_uL_L, e2]
        by_cases e : q / 64 = k / 64
        · rw [if_pos ⟨rfl, e⟩, sb_or, bt_one (by omega), Bool.or_eq_true, decide_eq_true_iff]
          rw [e2, e] at hq
          constructor
          · rintro ⟨q1, q2 | q2⟩
            · have := hq.mp ⟨q1, q2⟩; omega
            · have : q = k := by omega
              subst this; omega
          · rintro ⟨q1, q2⟩
            by_cases e3 : q = k
            · subst e3; exact ⟨by omega, Or.inr rfl⟩
            · have := hq.mpr ⟨by omega, q2⟩; exact ⟨this.1, Or.inl this.2⟩
        · rw [if_neg (fun q => e q.2)]
          rw [e2] at hq
          show q < 256 ∧ sbit (mL M (w + 2) (q / 64)) (q % 64) = true ↔ _
          rw [hq]
          constructor
          · rintro ⟨q1, q2⟩; exact ⟨by omega, q2⟩
          · rintro ⟨q1, q2⟩; exact ⟨by have : ¬ q = k := fun e3 => e (by rw [e3]); omega, q2⟩
    · have h0 := ih (k + 1) (by omega) _ (gF_trans hM g1) (by rw [m_uI_I, if_neg (by omega)]; exact h1) (fun p hp => h4' 0 _ (fun p => rfl) p hp) (fun q => ?_)
      · rw [br_p (by rw [ni_lt (by omega) (by omega)]; omega)]
        rw [e1] at h0
        exact h0
      · refine (h2 q).trans ⟨fun ⟨q1, q2⟩ => ⟨by omega, q2⟩, fun ⟨q1, q2⟩ => ⟨?_, q2⟩⟩
        have : ¬ q = k := fun e3 => c (by rw [← e3]; exact q2)
        omega
theorem c_x_Wbegin (d s g z v dr : Nat) (dep : Nat → Nat) (M : am_M) (Q : Option Value → am_M → Prop) (hL : Lay M) (hs : s < 8) (hg : isSh g) (hz : z = 2 ∨ z = 83) (hv : mI M g 2 = nI v) (hv1 : 1 ≤ v) (hv2 : v ≤ 4) (hdr : mI M g 3 = nI dr) (hd2 : dr ≤ 40) (hdep : ∀ p, p < 256 → dep p ≤ 99 ∧ mI M (z + 21) p = nI (dep p))
    (hQ : ∀ M', gF (sWb s) nT M M' → TrW M' s v (fun p => p < 256 ∧ dr ≤ dep p) → Q none M') : am_E am_P0 (d + 1) 102 [.ref (174 + 13 * s), .ref z, .ref g] M Q := by
  obtain ⟨w, hwe⟩ : ∃ w, w = 173 + 13 * s := ⟨_, rfl⟩
  have hw : isTr w := ⟨s, hs, hwe⟩
  have e1 : 174 + 13 * s = w + 1 := by omega
  have e2 : 175 + 13 * s = w + 2 := by omega
  have hgl := isSh_lt hg
  have hma := fun Q => c_maxI d 1 (nI v) M Q
  have em : (if (1 : Int32) < nI v then nI v else 1) = nI v := by
    by_cases c : (1 : Int32) < nI v
    · rw [if_pos c]
    · rw [if_neg c]
      rw [show (1 : Int32) = nI 1 from rfl, ni_lt (by omega) (by omega)] at c
      rw [show v = 1 by omega]; rfl
  rw [em] at hma
  rw [e1, eX9_begin]
  simp +decide (disch := omega) only [qX9_begin_0, qX9_begin_1, lw_ hL hg, lt_ hL hw, hv, hma, am_w1_i, am_w1_r, am_w1_x, am_w1_l, am_w1_w, va_rf_s, am_push_n, am_push_s, am_cs_0, am_cs_i, am_cs_l, am_cs_r, m_uI_K, m_uI_N, m_uI_R, m_uI_L, m_uI_I, m_uL_K, m_uL_N, m_uL_R, m_uL_I, m_uL_L, m_uR_K, m_uR_N, m_uR_I, m_uR_L, m_uR_R, true_and, and_true, true_implies, false_implies, not_true_eq_false, not_false_eq_true, if_true, if_false, false_and, and_false]
  have hk := lt_ hL hw
  rw [c_fillJ d (w + 2) 0 (uI M (w + 1) 1 (nI v)) _ (by show mK M (w + 2) = 1; simp only [hk]) (by show mN M (w + 2) ≤ 60000; simp +decide only [hk])]
  have hn : mN (uI M (w + 1) 1 (nI v)) (w + 2) = 4 := by show mN M (w + 2) = 4; simp only [hk]
  rw [hn]
  have g1 : gF (sWb s) nT M (uI M (w + 1) 1 (nI v)) := gF_i _ (Or.inl ⟨e1.symm, rfl⟩)
  have g2 : gF (sWb s) nT (uI M (w + 1) 1 (nI v)) (uB (uI M (w + 1) 1 (nI v)) (w + 2) (fun j => if j < 4 then 0 else mL (uI M (w + 1) 1 (nI v)) (w + 2) j)) := gF_B _ (fun j => Or.inr (Or.inl e2.symm))
  have h0 := l_x_Wbeg d s g z v dr dep M Q hL hs hg hz hv2 hdr hd2 hdep hQ 256 0 (by omega) _ (gF_trans g1 g2) (by
    show mI (uI M (w + 1) 1 (nI v)) (174 + 13 * s) 1 = _
    rw [m_uI_I, if_pos ⟨e1, rfl⟩]) (fun p hp => by omega) (fun q => by
    refine ⟨fun z => absurd ((inS_ext (g := fun _ => 0) (fun i hi => ?_) q).mp z) (inS_0 q), fun z => by omega⟩
    rw [uB_L, if_pos e2, if_pos hi])
  rw [e1] at h0
  simp +decide (disch := omega) only [qX9_begin_0, qX9_begin_1, am_w1_i, am_w1_r, am_w1_x, am_w1_l, am_w1_w, va_rf_s, am_push_n, am_push_s, am_cs_0, am_cs_i, am_cs_l, am_cs_r, m_uI_K, m_uI_N, m_uI_R, m_uI_L, m_uI_I, m_uL_K, m_uL_N, m_uL_R, m_uL_I, m_uL_L, m_uR_K, m_uR_N, m_uR_I, m_uR_L, m_uR_R, true_and, and_true, true_implies, false_implies, not_true_eq_false, not_false_eq_true, if_true, if_false, false_and, and_false]
  exact h0
theorem c_x_Tforget (d s : Nat) (M : am_M) (Q : Option Value → am_M → Prop) (hL : Lay M) (hs : s < 8) : am_E am_P0 d 74 [.ref (173 + 13 * s)] M Q ↔ Q none (uI (uI M (173 + 13 * s) 4 0) (173 + 13 * s) 5 0) := by
  rw [eX8_forget]
  simp +decide only [qX8_forget, lt_ hL (isTr_of hs), am_w1_i, am_w1_r, am_w1_x, am_w1_l, am_w1_w, va_rf_s, am_push_n, am_push_s, am_cs_0, am_cs_i, am_cs_l, am_cs_r, m_uI_K, m_uI_N, m_uI_R, m_uI_L, m_uI_I, m_uL_K, m_uL_N, m_uL_R, m_uL_I, m_uL_L, m_uR_K, m_uR_N, m_uR_I, m_uR_L, m_uR_R, true_and, and_true, true_implies, false_implies, not_true_eq_false, not_false_eq_true, if_true, if_false, false_and, and_false]
def sTb (s a j : Nat) : Prop := sWb s a j ∨ (a = 173 + 13 * s ∧ (j = 4 ∨ j = 5 ∨ j = 6))
def tTb (s a j : Nat) : Prop := a = 173 + 13 * s ∧ (j = 0 ∨ j = 1)
set_option maxRecDepth 100000 in
theorem lyF_free : ∀ q ∈ ly_F, ¬ (q.1 = 0 ∧ (q.2.1 = 1 ∨ q.2.1 = 2)) ∧ ¬ (q.1 = 164 ∧ q.2.1 = 1) ∧ ¬ (q.1 = 165 ∧ q.2.1 = 1) ∧ (173 ≤ q.1 → q.1 ≤ 264 → (q.1 - 173) % 13 = 0 → ¬ (q.2.1 = 0 ∨ q.2.1 = 1)) := by decide +kernel
theorem tTb_free {s : Nat} (hs : s < 8) : ∀ q ∈ ly_F, ¬ tTb s q.1 q.2.1 := fun q hq z => (lyF_free q hq).2.2.2 (by have := z.1; omega) (by have := z.1; omega) (by have := z.1; omega) z.2
theorem c_x_Tbegin (d s g z v dr : Nat) (dep : Nat → Nat) (M : am_M) (Q : Option Value → am_M → Prop) (hL : Lay M) (hs : s < 8) (hg : isSh g) (hz : z = 2 ∨ z = 83) (hv : mI M g 2 = nI v) (hv1 : 1 ≤ v) (hv2 : v ≤ 4) (hdr : mI M g 3 = nI dr) (hd2 : dr ≤ 40) (hdep : ∀ p, p < 256 → dep p ≤ 99 ∧ mI M (z + 21) p = nI (dep p))
    (hQ : ∀ M', gF (sTb s) (tTb s) M M' → Lay M' → TrW M' s v (fun p => p < 256 ∧ dr ≤ dep p) → mR M' (173 + 13 * s) 0 = some g → mR M' (173 + 13 * s) 1 = some z → mI M' (173 + 13 * s) 4 = 0 → mI M' (173 + 13 * s) 5 = 0 → mI M' (173 + 13 * s) 6 = 0 → Q none M') : am_E am_P0 (d + 2) 73 [.ref (173 + 13 * s), .ref z, .ref g] M Q := by
  obtain ⟨w, hwe⟩ : ∃ w, w = 173 + 13 * s := ⟨_, rfl⟩
  have hw : isTr w := ⟨s, hs, hwe⟩
  have hgl := isSh_lt hg
  have e1 : w + 1 = 174 + 13 * s := by omega
  have g1 : gF (sTb s) (tTb s) M (uR M w 1 (some z)) := gF_r _ ⟨hwe, Or.inr rfl⟩
  have g2 : gF (sTb s) (tTb s) (uR M w 1 (some z)) (uR (uR M w 1 (some z)) w 0 (some g)) := gF_r _ ⟨hwe, Or.inl rfl⟩
  have G2 := gF_trans g1 g2
  have L2 := gF_Lay G2 hL (tTb_free hs)
  rw [← hwe, eX8_begin]
  simp +decide (disch := omega) only [qX8_begin, lt_ hL hw, lw_ hL hg, lz hL hz, am_w1_i, am_w1_r, am_w1_x, am_w1_l, am_w1_w, va_rf_s, am_push_n, am_push_s, am_cs_0, am_cs_i, am_cs_l, am_cs_r, m_uI_K, m_uI_N, m_uI_R, m_uI_L, m_uI_I, m_uL_K, m_uL_N, m_uL_R, m_uL_I, m_uL_L, m_uR_K, m_uR_N, m_uR_I, m_uR_L, m_uR_R, true_and, and_true, true_implies, false_implies, not_true_eq_false, not_false_eq_true, if_true, if_false, false_and, and_false]
  obtain ⟨M2, hM2⟩ : ∃ M2, M2 = uR (uR M w 1 (some z)) w 0 (some g) := ⟨_, rfl⟩
  rw [← hM2] at G2 L2 ⊢
  have r0 : mR M2 w 0 = some g := by rw [hM2, m_uR_R, if_pos ⟨rfl, rfl⟩]
  have r1 : mR M2 w 1 = some z := by rw [hM2, m_uR_R, if_neg (by omega), m_uR_R, if_pos ⟨rfl, rfl⟩]
  have ki : ∀ a j, mI M2 a j = mI M a j := fun a j => by rw [hM2]; rfl
  rw [e1]
  refine c_x_Wbegin d s g z v dr dep M2 _ L2 hs hg hz (by rw [ki]; exact hv) hv1 hv2 (by rw [ki]; exact hdr) hd2 (fun p hp => by rw [ki]; exact hdep p hp) (fun M3 g3 T3 => ?_)
  have G3 : gF (sTb s) (tTb s) M2 M3 := gF_up g3 (fun a j q => Or.inl q) (fun a j q => q.elim)
  have L3 := gF_LayN g3 L2
  have hfo := fun M Q hL => c_x_Tforget (d + 1) s M Q hL hs
  have L4 : Lay (uI M3 w 6 0) := L3
  rw [← hwe] at hfo
  simp +decide (disch := omega) only [qX8_begin, lt_ L3 hw, hfo _ _ L4, am_w1_i, am_w1_r, am_w1_x, am_w1_l, am_w1_w, va_rf_s, am_push_n, am_push_s, am_cs_0, am_cs_i, am_cs_l, am_cs_r, m_uI_K, m_uI_N, m_uI_R, m_uI_L, m_uI_I, m_uL_K, m_uL_N, m_uL_R, m_uL_I, m_uL_L, m_uR_K, m_uR_N, m_uR_I, m_uR_L, m_uR_R, true_and, and_true, true_implies, false_implies, not_true_eq_false, not_false_eq_true, if_true, if_false, false_and, and_false]
  have ti : ∀ x j, TrW (uI x w j 0) s v (fun p => p < 256 ∧ dr ≤ dep p) ↔ TrW x s v (fun p => p < 256 ∧ dr ≤ dep p) := fun x j => ⟨fun q => TrW_S q (fun k => by rw [m_uI_I, if_neg (by omega)]) (fun k => by rw [m_uI_I, if_neg (by omega)]) (fun _ _ => rfl) (fun _ _ => rfl), fun q => TrW_S q (fun k => by rw [m_uI_I, if_neg (by omega)]) (fun k => by rw [m_uI_I, if_neg (by omega)]) (fun _ _ => rfl) (fun _ _ => rfl)⟩
  refine hQ _ (gF_trans G2 (gF_trans G3 (gF_trans (gF_i (a := w) (j := 6) 0 (Or.inr ⟨hwe, by omega⟩)) (gF_trans (gF_i (a := w) (j := 4) 0 (Or.inr ⟨hwe, by omega⟩)) (gF_i (a := w) (j := 5) 0 (Or.inr ⟨hwe, by omega⟩)))))) L3 ?_ ?_ ?_ ?_ ?_ ?_
  · rw [ti, ti, ti]; exact T3
  · show mR M3 _ 0 = _
    rw [g3.2.2.1 _ _ (fun q => q), ← hwe]; exact r0
  · show mR M3 _ 1 = _
    rw [g3.2.2.1 _ _ (fun q => q), ← hwe]; exact r1
  · rw [m_uI_I, if_neg (by omega), m_uI_I, if_pos ⟨hwe.symm, rfl⟩]
  · rw [m_uI_I, if_pos ⟨hwe.symm, rfl⟩]
  · rw [m_uI_I, if_neg (by omega), m_uI_I, if_neg (by omega), m_uI_I, if_pos ⟨hwe.symm, rfl⟩]
