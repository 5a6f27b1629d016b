/-! the class: findClock -/
def stP (wt : Nat → Prop) (v : Nat) (snd : Nat → Bool → Prop) (B : List Fct) (Y : List Sy) (x : Int) : Prop := (∃ y, y ∈ Y ∧ ¬ hrOf y.1 x = none) ∧ syS Y x snd ∧ fitP wt v (B ++ syF Y x)
theorem c_x_staysWith (d s g z v : Nat) (wt : Nat → Prop) (dep : Nat → Nat) (dr ld : Nat) (B : List Fct) (Y : List Sy) (sh : Int32) (M : am_M) (Q : Option Value → am_M → Prop) (hL : Lay M) (hI : RInv M) (hs : s < 8) (hg : isSh g) (hz : z = 2 ∨ z = 83) (hsr : srtY Y) (hT : TkX M s g z v wt dep dr ld B Y) (h1 : -40 ≤ sh.toInt) (h2 : sh.toInt ≤ 40)
    (hQ : ∀ M', xF s M M' → Q (some (.int (tI (stP wt v (sndP dep dr ld) B Y sh.toInt)))) M') : am_E am_P0 (d + 5) 82 [.ref (173 + 13 * s), .int sh] M Q := by
  obtain ⟨w, hwe⟩ : ∃ w, w = 173 + 13 * s := ⟨_, rfl⟩
  have hw : isTr w := ⟨s, hs, hwe⟩
  have h48 := hT.2.2.2.2.1
  have hR := hT.2.1.1
  have no : ¬ (∃ y, y ∈ Y ∧ ¬ hrOf y.1 sh.toInt = none) → Q (some (.int 0)) M := fun hn => by
    have h0 := hQ M (xF_refl hL hI)
    rw [tI_f (fun q => hn q.1)] at h0
    exact h0
  rw [← hwe] at hR ⊢
  rw [eX8_staysWith]
  by_cases c0 : Y.length = 0
  · have h0 := no (fun ⟨y, hy, _⟩ => by rw [List.length_eq_zero_iff.mp c0] at hy; cases hy)
    have e : mI M g 5 = 0 := by rw [hT.2.2.2.1, c0]; rfl
    simp +decide only [qX8_staysWith_0, qX8_staysWith_1, lt_ hL hw, lw_ hL hg, hR, e, am_w1_i, am_w1_r, am_w1_x, am_w1_l, am_w1_w, va_rf_s, am_push_n, am_push_s, am_cs_0, am_cs_i, am_cs_l, am_cs_r, m_uI_K, m_uI_N, m_uI_R, m_uI_L, m_uI_I, m_uL_K, m_uL_N, m_uL_R, m_uL_I, m_uL_L, m_uR_K, m_uR_N, m_uR_I, m_uR_L, m_uR_R, true_and, and_true, true_implies, false_implies]
    exact h0
  · have hn0 : ¬ nI Y.length ≤ 0 := by rw [show (0 : Int32) = nI 0 from rfl, ni_le (by omega) (by omega)]; omega
    obtain ⟨a, ha⟩ : ∃ y, Y[0]? = some y := ⟨Y[0]'(by omega), List.getElem?_eq_getElem (by omega)⟩
    obtain ⟨b, hb⟩ : ∃ y, Y[Y.length - 1]? = some y := ⟨Y[Y.length - 1]'(by omega), List.getElem?_eq_getElem (by omega)⟩
    obtain ⟨⟨a1, a2⟩, a3, a4, a5⟩ := hT.2.2.2.2.2 0 a ha
    obtain ⟨⟨b1, b2⟩, b3, b4, b5⟩ := hT.2.2.2.2.2 (Y.length - 1) b hb
    have el : nI Y.length - 1 = nI (Y.length - 1) := by rw [show (1 : Int32) = nI 1 from rfl, ni_sub (by omega)]
    have ea := i32_add (sh := sh) a1 (by omega) (by omega)
    have eb := i32_add (sh := sh) b1 (by omega) (by omega)
    have t0 : (0 : Int32).toInt.toNat = 0 := rfl
    have i0 : (0 : Int) ≤ (0 : Int32).toInt := by decide
    have a3' : mI M (g + 1) 0 = nI a.1 := a3
    have l1 : (nI b.1 + sh < 0) ↔ ((b.1 : Int) + sh.toInt < 0) := by rw [Int32.lt_iff_toInt_lt, eb]; exact Iff.rfl
    have l2 : ((48 : Int32) ≤ nI a.1 + sh) ↔ (48 ≤ (a.1 : Int) + sh.toInt) := by rw [Int32.le_iff_toInt_le, ea]; exact Iff.rfl
    have hab : a.1 ≤ b.1 := by
      by_cases e : Y.length - 1 = 0
      · rw [e] at hb; cases ha.symm.trans hb; exact Nat.le_refl _
      · exact Nat.le_of_lt (srtY_lt hsr ha hb (by omega))
    have hmid : ∀ y, y ∈ Y → a.1 ≤ y.1 ∧ y.1 ≤ b.1 := fun y hy => by
      obtain ⟨k, hk⟩ := List.mem_iff_getElem?.mp hy
      have hkl := (List.getElem?_eq_some_iff.mp hk).1
      constructor
      · by_cases e : k = 0
        · subst e; cases ha.symm.trans hk; exact Nat.le_refl _
        · exact Nat.le_of_lt (srtY_lt hsr ha hk (by omega))
      · by_cases e : k = Y.length - 1
        · subst e; cases hb.symm.trans hk; exact Nat.le_refl _
        · exact Nat.le_of_lt (srtY_lt hsr hk hb (by omega))
    have hleft : (∃ y, y ∈ Y ∧ ¬ hrOf y.1 sh.toInt = none) ↔ (0 ≤ (b.1 : Int) + sh.toInt ∧ (a.1 : Int) + sh.toInt < 48) := by
      constructor
      · rintro ⟨y, hy, hh⟩
        have hm := hmid y hy
        by_cases q : 0 ≤ (y.1 : Int) + sh.toInt ∧ (y.1 : Int) + sh.toInt < 48
        · omega
        · exact absurd (if_neg q) hh
      · rintro ⟨q1, q2⟩
        by_cases q : 0 ≤ (a.1 : Int) + sh.toInt
        · refine ⟨a, List.mem_of_getElem? ha, fun hh => ?_⟩
          unfold hrOf at hh
          rw [if_pos ⟨q, q2⟩] at hh
          cases hh
        · refine ⟨b, List.mem_of_getElem? hb, fun hh => ?_⟩
          unfold hrOf at hh
          rw [if_pos ⟨q1, by omega⟩] at hh
          cases hh
    simp +decide (disch := omega) only [qX8_staysWith_0, qX8_staysWith_1, lt_ hL hw, lw_ hL hg, hR, hT.2.2.2.1, el, b3, a3', t0, i0, ni_in_t, ni_tn, am_w1_i, am_w1_r, am_w1_x, am_w1_l, am_w1_w, va_rf_s, am_push_n, am_push_s, am_cs_0, am_cs_i, am_cs_l, am_cs_r, m_uI_K, m_uI_N, m_uI_R, m_uI_L, m_uI_I, m_uL_K, m_uL_N, m_uL_R, m_uL_I, m_uL_L, m_uR_K, m_uR_N, m_uR_I, m_uR_L, m_uR_R, true_and, and_true, true_implies, false_implies]
    rw [br_n hn0]
    by_cases c1 : nI b.1 + sh < 0
    · rw [br_p c1]
      refine no (fun q => ?_)
      have := hleft.mp q
      have := l1.mp c1
      omega
    · rw [br_n c1]
      by_cases c2 : (48 : Int32) ≤ nI a.1 + sh
      · rw [br_p c2]
        refine no (fun q => ?_)
        have := hleft.mp q
        have := l2.mp c2
        omega
      · rw [br_n c2]
        have hl : ∃ y, y ∈ Y ∧ ¬ hrOf y.1 sh.toInt = none := hleft.mpr ⟨by have := mt l1.mpr c1; omega, by have := mt l2.mpr c2; omega⟩
        rw [hwe]
        refine c_x_fits d s g z g v wt dep dr ld B Y Y sh false M _ hL hI hs hg hg hz (by omega) (by omega) hT.2.1 hT.2.2.1 hT.2.2.2 hT.2.2.2 hT.1 (fun M1 g1 => ?_)
        have h0 := hQ M1 g1
        have e : ownS false Y (sndP dep dr ld) ∧ syS Y sh.toInt (sndP dep dr ld) ∧ fitP wt v (B ++ ownF false Y ++ syF Y sh.toInt) ↔ stP wt v (sndP dep dr ld) B Y sh.toInt := by
          have e2 : B ++ ownF false Y = B := List.append_nil B
          rw [e2]
          exact ⟨fun q => ⟨hl, q.2⟩, fun q => ⟨fun h => (by cases h), q.2⟩⟩
        rw [tI_i e]
        simp +decide only [qX8_staysWith_0, qX8_staysWith_1, am_w1_i, am_w1_r, am_w1_x, am_w1_l, am_w1_w, va_rf_s, am_push_n, am_push_s, am_cs_0, am_cs_i, am_cs_l, am_cs_r, m_uI_K, m_uI_N, m_uI_R, m_uI_L, m_uI_I, m_uL_K, m_uL_N, m_uL_R, m_uL_I, m_uL_L, m_uR_K, m_uR_N, m_uR_I, m_uR_L, m_uR_R, true_and, and_true]
        by_cases c3 : stP wt v (sndP dep dr ld) B Y sh.toInt
        · rw [tI_t c3] at h0 ⊢
          rw [br_n (by decide)]
          exact h0
        · rw [tI_f c3] at h0 ⊢
          rw [br_p rfl]
          exact h0
/-- the k-th clock that is tried -/
def dI (k : Nat) : Int32 := if k % 2 = 0 then nI (k / 2) else -nI ((k + 1) / 2)
noncomputable def ckN (wt : Nat → Prop) (v : Nat) (snd : Nat → Bool → Prop) (B : List Fct) (Y : List Sy) : Nat := fs (fun k => dB (stP wt v snd B Y (dI k).toInt)) 13
noncomputable def ckY (wt : Nat → Prop) (v : Nat) (snd : Nat → Bool → Prop) (B : List Fct) (Y : List Sy) : Int32 := if ckN wt v snd B Y < 13 then dI (ckN wt v snd B Y) else 100
theorem dI_b : ∀ k, k < 13 → -40 ≤ (dI k).toInt ∧ (dI k).toInt ≤ 40 := by decide +kernel
theorem l_x_clock (d s g z v : Nat) (wt : Nat → Prop) (dep : Nat → Nat) (dr ld : Nat) (B : List Fct) (Y : List Sy) (M0 : am_M) (Q : Option Value → am_M → Prop) (hs : s < 8) (hg : isSh g) (hz : z = 2 ∨ z = 83) (hsr : srtY Y)
    (hQ : ∀ M', xF s M0 M' → Q (some (.int (ckY wt v (sndP dep dr ld) B Y))) M') :
    ∀ (m n : Nat), n + m = 7 → ∀ (M : am_M), xF s M0 M → TkX M s g z v wt dep dr ld B Y → (∀ k, k + 1 < 2 * n → dB (stP wt v (sndP dep dr ld) B Y (dI k).toInt) = false) → am_P am_P0 (d + 6) (am_look tX8_findClock) 2 [.ref (173 + 13 * s), .int (nI n)] [] M Q := by
  intro m
  induction m with
  | zero =>
    intro n hn M hM hT hno
    have e : n = 7 := by omega
    subst e
    have hf : ckN wt v (sndP dep dr ld) B Y = 13 := fs_all (fun k hk => hno k (by omega))
    have h0 := hQ M hM
    unfold ckY at h0
    rw [hf, if_neg (by omega)] at h0
    rw [hX8_findClock_2]
    simp +decide only [qX8_findClock, am_w1_i, am_w1_r, am_w1_x, am_w1_l, am_w1_w, va_rf_s, am_push_n, am_push_s, am_cs_0, am_cs_i, am_cs_l, am_cs_r, m_uI_K, m_uI_N, m_uI_R, m_uI_L, m_uI_I, m_uL_K, m_uL_N, m_uL_R, m_uL_I, m_uL_L, m_uR_K, m_uR_N, m_uR_I, m_uR_L, m_uR_R, true_and, and_true, true_implies, false_implies]
    exact h0
  | succ m ih =>
    intro n hn M hM hT hno
    have hlt : ¬ (6 : Int32) < nI n := by rw [show (6 : Int32) = nI 6 from rfl, ni_lt (by omega) (by omega)]; omega
    have hk1 : 2 * n - 1 < 13 := by omega
    have e1 : -nI n = dI (2 * n - 1) := by
      unfold dI
      by_cases e0 : n = 0
      · subst e0; rfl
      · rw [if_neg (by omega), show (2 * n - 1 + 1) / 2 = n by omega]
    have e2 : nI n = dI (2 * n) := by
      unfold dI
      rw [if_pos (by omega), show 2 * n / 2 = n by omega]
    have b1 := dI_b (2 * n - 1) hk1
    have b2 := dI_b (2 * n) (by omega)
    have hit : ∀ k, k < 13 → (∀ j, j < k → dB (stP wt v (sndP dep dr ld) B Y (dI j).toInt) = false) → stP wt v (sndP dep dr ld) B Y (dI k).toInt → ∀ M', xF s M0 M' → Q (some (.int (dI k))) M' := fun k hk hj hst M' g => by
      have hf : ckN wt v (sndP dep dr ld) B Y = k := fs_is hj hk (dB_t.mpr hst)
      have h0 := hQ M' g
      unfold ckY at h0
      rw [hf, if_pos hk] at h0
      exact h0
    rw [hX8_findClock_2]
    simp +decide only [qX8_findClock, lt_ hM.1 (isTr_of hs), am_w1_i, am_w1_r, am_w1_x, am_w1_l, am_w1_w, va_rf_s, am_push_n, am_push_s, am_cs_0, am_cs_i, am_cs_l, am_cs_r, m_uI_K, m_uI_N, m_uI_R, m_uI_L, m_uI_I, m_uL_K, m_uL_N, m_uL_R, m_uL_I, m_uL_L, m_uR_K, m_uR_N, m_uR_I, m_uR_L, m_uR_R, true_and, and_true]
    rw [br_n hlt, e1]
    refine c_x_staysWith d s g z v wt dep dr ld B Y (dI (2 * n - 1)) M _ hM.1 hM.2.1 hs hg hz hsr hT b1.1 b1.2 (fun M1 g1 => ?_)
    have hT1 := TkX_z hs hg hz hT (zF_x g1) (fun a j ha q => by omega)
    by_cases c1 : stP wt v (sndP dep dr ld) B Y (dI (2 * n - 1)).toInt
    · have h0 := hit (2 * n - 1) hk1 (fun j hj => hno j (by omega)) c1 M1 (xF_trans hM g1)
      rw [tI_t c1]
      simp +decide only [qX8_findClock, e1, am_w1_i, am_w1_r, am_w1_x, am_w1_l, am_w1_w, va_rf_s, am_push_n, am_push_s, am_cs_0, am_cs_i, am_cs_l, am_cs_r, m_uI_K, m_uI_N, m_uI_R, m_uI_L, m_uI_I, m_uL_K, m_uL_N, m_uL_R, m_uL_I, m_uL_L, m_uR_K, m_uR_N, m_uR_I, m_uR_L, m_uR_R, true_and, and_true, true_implies, false_implies]
      exact h0
    · rw [tI_f c1]
      simp +decide only [qX8_findClock, lt_ g1.1 (isTr_of hs), am_w1_i, am_w1_r, am_w1_x, am_w1_l, am_w1_w, va_rf_s, am_push_n, am_push_s, am_cs_0, am_cs_i, am_cs_l, am_cs_r, m_uI_K, m_uI_N, m_uI_R, m_uI_L, m_uI_I, m_uL_K, m_uL_N, m_uL_R, m_uL_I, m_uL_L, m_uR_K, m_uR_N, m_uR_I, m_uR_L, m_uR_R, true_and, and_true, true_implies, false_implies]
      rw [e2]
      refine c_x_staysWith d s g z v wt dep dr ld B Y (dI (2 * n)) M1 _ g1.1 g1.2.1 hs hg hz hsr hT1 b2.1 b2.2 (fun M2 g2 => ?_)
      have hno2 : ∀ j, j < 2 * n → dB (stP wt v (sndP dep dr ld) B Y (dI j).toInt) = false := fun j hj => by
        by_cases e : j = 2 * n - 1
        · rw [e]; exact dB_f.mpr c1
        · exact hno j (by omega)
      by_cases c2 : stP wt v (sndP dep dr ld) B Y (dI (2 * n)).toInt
      · have h0 := hit (2 * n) (by omega) hno2 c2 M2 (xF_trans hM (xF_trans g1 g2))
        rw [tI_t c2]
        simp +decide only [qX8_findClock, am_w1_i, am_w1_r, am_w1_x, am_w1_l, am_w1_w, va_rf_s, am_push_n, am_push_s, am_cs_0, am_cs_i, am_cs_l, am_cs_r, m_uI_K, m_uI_N, m_uI_R, m_uI_L, m_uI_I, m_uL_K, m_uL_N, m_uL_R, m_uL_I, m_uL_L, m_uR_K, m_uR_N, m_uR_I, m_uR_L, m_uR_R, true_and, and_true, true_implies, false_implies]
        exact h0
      · have h0 := ih (n + 1) (by omega) M2 (xF_trans hM (xF_trans g1 g2)) (TkX_z hs hg hz hT1 (zF_x g2) (fun a j ha q => by omega)) (fun k hk => by
          by_cases e : k = 2 * n
          · rw [e]; exact dB_f.mpr c2
          · exact hno2 k (by omega))
        rw [tI_f c2, ← e2]
        simp +decide only [qX8_findClock, ni_add1, am_w1_i, am_w1_r, am_w1_x, am_w1_l, am_w1_w, va_rf_s, am_push_n, am_push_s, am_cs_0, am_cs_i, am_cs_l, am_cs_r, m_uI_K, m_uI_N, m_uI_R, m_uI_L, m_uI_I, m_uL_K, m_uL_N, m_uL_R, m_uL_I, m_uL_L, m_uR_K, m_uR_N, m_uR_I, m_uR_L, m_uR_R, true_and, and_true, true_implies, false_implies]
        exact h0
theorem c_x_findClock (d s g z v : Nat) (wt : Nat → Prop) (dep : Nat → Nat) (dr ld : Nat) (B : List Fct) (Y : List Sy) (M : am_M) (Q : Option Value → am_M → Prop) (hL : Lay M) (hI : RInv M) (hs : s < 8) (hg : isSh g) (hz : z = 2 ∨ z = 83) (hsr : srtY Y) (hT : TkX M s g z v wt dep dr ld B Y)
    (hQ : ∀ M', xF s M M' → Q (some (.int (ckY wt v (sndP dep dr ld) B Y))) M') : am_E am_P0 (d + 6) 81 [.ref (173 + 13 * s)] M Q := by
  rw [eX8_findClock]
  simp +decide only [qX8_findClock, am_w1_i, am_w1_r, am_w1_x, am_w1_l, am_w1_w, va_rf_s, am_push_n, am_push_s, am_cs_0, am_cs_i, am_cs_l, am_cs_r, m_uI_K, m_uI_N, m_uI_R, m_uI_L, m_uI_I, m_uL_K, m_uL_N, m_uL_R, m_uL_I, m_uL_L, m_uR_K, m_uR_N, m_uR_I, m_uR_L, m_uR_R, true_and, and_true]
  rw [show (0 : Int32) = nI 0 from rfl]
  exact l_x_clock d s g z v wt dep dr ld B Y M Q hs hg hz hsr hQ 7 0 rfl M (xF_refl hL hI) hT (fun k hk => by omega)
