/-! the class: which sayings stand by themselves -/
/-- nothing is changed but S, rows, and what is known of them -/
def zF (S : Nat → Nat → Prop) (M M' : am_M) : Prop := Lay M' ∧ RInv M' ∧ mC M ≤ mC M' ∧ (∀ a j, a < 336 → (∀ s', s' < 8 → ¬ a = 177 + 13 * s') → ¬ S a j → mI M' a j = mI M a j) ∧ (∀ a j, a < 336 → ¬ S a j → mL M' a j = mL M a j) ∧ (∀ a j, a < 336 → (∀ s', s' < 8 → ¬ a = 176 + 13 * s') → mR M' a j = mR M a j) ∧ ∀ s' v wt, s' < 8 → TrW M s' v wt → TrW M' s' v wt
theorem zF_refl {S : Nat → Nat → Prop} {M : am_M} (h : Lay M) (hI : RInv M) : zF S M M := ⟨h, hI, Nat.le_refl _, fun _ _ _ _ _ => rfl, fun _ _ _ _ => rfl, fun _ _ _ _ => rfl, fun _ _ _ _ h => h⟩
theorem zF_trans {S : Nat → Nat → Prop} {M M' M'' : am_M} (h1 : zF S M M') (h2 : zF S M' M'') : zF S M M'' :=
  ⟨h2.1, h2.2.1, Nat.le_trans h1.2.2.1 h2.2.2.1, fun a j q1 q2 q3 => (h2.2.2.2.1 a j q1 q2 q3).trans (h1.2.2.2.1 a j q1 q2 q3), fun a j q1 q2 => (h2.2.2.2.2.1 a j q1 q2).trans (h1.2.2.2.2.1 a j q1 q2), fun a j q1 q2 => (h2.2.2.2.2.2.1 a j q1 q2).trans (h1.2.2.2.2.2.1 a j q1 q2), fun s v wt q1 q2 => h2.2.2.2.2.2.2 s v wt q1 (h1.2.2.2.2.2.2 s v wt q1 q2)⟩
theorem zF_up {S S' : Nat → Nat → Prop} {M M' : am_M} (h : zF S M M') (hs : ∀ a j, S a j → S' a j) : zF S' M M' := ⟨h.1, h.2.1, h.2.2.1, fun a j q1 q2 q3 => h.2.2.2.1 a j q1 q2 (fun z => q3 (hs a j z)), fun a j q1 q2 => h.2.2.2.2.1 a j q1 (fun z => q2 (hs a j z)), h.2.2.2.2.2.1, h.2.2.2.2.2.2⟩
theorem zF_r {S : Nat → Nat → Prop} {M M' : am_M} (h : rgF M M') : zF S M M' := ⟨h.1, h.2.1, h.2.2.1, fun a j q1 q2 _ => h.2.2.2.1 a j q1 q2, fun a j q1 _ => h.2.2.2.2.1 a j q1, h.2.2.2.2.2.1, h.2.2.2.2.2.2⟩
theorem zF_x {s : Nat} {M M' : am_M} (h : xF s M M') : zF (fun a _ => a = 180 + 13 * s) M M' := ⟨h.1, h.2.1, h.2.2.1, h.2.2.2.1, fun a j q1 _ => h.2.2.2.2.1 a j q1, h.2.2.2.2.2.1, h.2.2.2.2.2.2⟩
theorem zF_i {S : Nat → Nat → Prop} {M : am_M} (hL : Lay M) (hI : RInv M) {a j : Nat} (x : Int32) (hS : S a j) (h1 : ∀ s', s' < 8 → ¬ a = 174 + 13 * s' ∧ ¬ a = 177 + 13 * s') : zF S M (uI M a j x) := by
  refine ⟨hL, RInv_S hI (fun _ _ => rfl) rfl, Nat.le_refl _, fun a' j' _ _ q => ?_, fun _ _ _ _ => rfl, fun _ _ _ _ => rfl, fun s' v wt hs' hT => TrW_S hT (fun k => ?_) (fun k => ?_) (fun _ _ => rfl) (fun _ _ => rfl)⟩
  · rw [m_uI_I, if_neg (fun z => q (by rw [z.1, z.2]; exact hS))]
  · rw [m_uI_I, if_neg (fun z => (h1 s' hs').1 z.1.symm)]
  · rw [m_uI_I, if_neg (fun z => (h1 s' hs').2 z.1.symm)]
/-- a track with its ship and sea, as it is asked about -/
def TkX (M : am_M) (s g z : Nat) (v : Nat) (wt : Nat → Prop) (dep : Nat → Nat) (dr ld : Nat) (B : List Fct) (Y : List Sy) : Prop := TrW M s v wt ∧ DpX M (173 + 13 * s) g z dep dr ld ∧ BkX M g B ∧ SyX M g Y
theorem TkX_z {M M' : am_M} {s g z v : Nat} {wt : Nat → Prop} {dep : Nat → Nat} {dr ld : Nat} {B : List Fct} {Y : List Sy} {S : Nat → Nat → Prop} (hs : s < 8) (hg : isSh g) (hz : z = 2 ∨ z = 83) (h : TkX M s g z v wt dep dr ld B Y) (hS : zF S M M') (hd : ∀ a j, a < 164 → ¬ S a j) : TkX M' s g z v wt dep dr ld B Y := by
  have hgl := isSh_lt hg
  have ri : ∀ a j, a < 164 → mI M' a j = mI M a j := fun a j ha => hS.2.2.2.1 a j (by omega) (fun s' hs' => by omega) (hd a j ha)
  have rr : ∀ j, mR M' (173 + 13 * s) j = mR M (173 + 13 * s) j := fun j => hS.2.2.2.2.2.1 _ j (by omega) (fun s' hs' => by omega)
  obtain ⟨h1, ⟨a1, a2, a3, a4, a5, a6, a7⟩, ⟨b1, b2, b3⟩, ⟨c1, c2, c3⟩⟩ := h
  refine ⟨hS.2.2.2.2.2.2 s v wt hs h1, ⟨by rw [rr]; exact a1, by rw [rr]; exact a2, by rw [ri _ _ (by omega)]; exact a3, by rw [ri _ _ (by omega)]; exact a4, a5, a6, fun p hp => ⟨(a7 p hp).1, by rw [ri _ _ (by omega)]; exact (a7 p hp).2⟩⟩, ⟨by rw [ri _ _ (by omega)]; exact b1, b2, fun i f hf => ?_⟩, ⟨by rw [ri _ _ (by omega)]; exact c1, c2, fun i f hf => ?_⟩⟩
  · obtain ⟨q1, q2, q3, q4⟩ := b3 i f hf
    exact ⟨q1, by rw [ri _ _ (by omega)]; exact q2, by rw [ri _ _ (by omega)]; exact q3, by rw [ri _ _ (by omega)]; exact q4⟩
  · obtain ⟨q1, q2, q3, q4⟩ := c3 i f hf
    exact ⟨q1, by rw [ri _ _ (by omega)]; exact q2, by rw [ri _ _ (by omega)]; exact q3, by rw [ri _ _ (by omega)]; exact q4⟩
theorem c_x_hoursToBook (d g i t : Nat) (B : List Fct) (f : Fct) (M : am_M) (Q : Option Value → am_M → Prop) (hL : Lay M) (hg : isSh g) (hB : BkX M g B) (hf : B[i]? = some f) (ht : t < 48) : am_E am_P0 d 69 [.ref g, .int (nI t), .int (nI i)] M Q ↔ Q (some (.int (nI (btw t t f.2.1 f.2.2)))) M := by
  obtain ⟨⟨q1, q2, q3⟩, q4, q5, q6⟩ := hB.2.2 i f hf
  have hil := (List.getElem?_eq_some_iff.mp hf).1
  have h12 := hB.2.1
  rw [eX6_hoursToBook]
  simp +decide (disch := omega) only [qX6_hoursToBook, lw_ hL hg, q5, q6, ni_in_t, ni_tn, am_w1_i, am_w1_r, am_w1_x, am_w1_l, am_w1_w, va_rf_s, am_push_n, am_push_s, am_cs_0, am_cs_i, am_cs_l, am_cs_r, m_uI_K, m_uI_N, m_uI_R, m_uI_L, m_uI_I, m_uL_K, m_uL_N, m_uL_R, m_uL_I, m_uL_L, m_uR_K, m_uR_N, m_uR_I, m_uR_L, m_uR_R, true_and, and_true]
  unfold btw
  by_cases c1 : t < f.2.1
  · rw [br_n (fun z => by rw [ni_le (by omega) (by omega)] at z; omega), if_pos c1, ni_sub (by omega)]
  · rw [br_p ((ni_le (by omega) (by omega)).mpr (by omega)), if_neg c1]
    by_cases c2 : f.2.2 < t
    · rw [br_n (fun z => by rw [ni_le (by omega) (by omega)] at z; omega), if_pos c2, ni_sub (by omega)]
    · rw [br_p ((ni_le (by omega) (by omega)).mpr (by omega)), if_neg c2]
      exact Iff.rfl
def jk (v : Value) : Prop := v = am_x ∨ ∃ x, v = .int x
theorem jk_w {v : Value} (h : jk v) : am_w1 v = v := by rcases h with rfl | ⟨x, rfl⟩ <;> rfl
def sA (s a _j : Nat) : Prop := a = 181 + 13 * s ∨ a = 182 + 13 * s
theorem l_x_alone2 (d s g z v i : Nat) (wt : Nat → Prop) (dep : Nat → Nat) (dr ld : Nat) (B : List Fct) (Y : List Sy) (y : Sy) (M0 : am_M) (Q : Option Value → am_M → Prop) (hs : s < 8) (hg : isSh g) (hz : z = 2 ∨ z = 83) (hy : Y[i]? = some y)
    (hQ : ∀ M' x3 x4, jk x4 → zF (sA s) M0 M' → TkX M' s g z v wt dep dr ld B Y → (∀ a j, a < 336 → (∀ s', s' < 8 → ¬ a = 177 + 13 * s') → ¬ (a = 181 + 13 * s ∧ j = i) → mI M' a j = mI M0 a j) → mI M' (181 + 13 * s) i = tI (goodY wt v (sndP dep dr ld) B y) → am_P am_P0 (d + 3) (am_look tX8_markAlone) 2 [.ref (173 + 13 * s), .int (nI i + 1), .int (nI y.2.1), .int x3, x4] [] M' Q) :
    ∀ (m k : Nat), k + m = B.length → ∀ (M : am_M) (v4 : Value), (v4 = am_x ∨ ∃ x, v4 = .int x) → zF (sA s) M0 M → TkX M s g z v wt dep dr ld B Y → (∀ a j, a < 336 → (∀ s', s' < 8 → ¬ a = 177 + 13 * s') → ¬ (a = 181 + 13 * s ∧ j = i) → mI M a j = mI M0 a j) → mI M (181 + 13 * s) i = tI (sndP dep dr ld y.2.1 y.2.2 ∧ ∀ k' f, k' < k → B[k']? = some f → wit wt v y.2.1 f.1 (btw y.1 y.1 f.2.1 f.2.2)) → am_P am_P0 (d + 3) (am_look tX8_markAlone) 52 [.ref (173 + 13 * s), .int (nI i), .int (nI y.2.1), .int (nI k), v4] [] M Q := by
  obtain ⟨w, hwe⟩ : ∃ w, w = 173 + 13 * s := ⟨_, rfl⟩
  have hw : isTr w := ⟨s, hs, hwe⟩
  have hgl := isSh_lt hg
  have e1 : 174 + 13 * s = w + 1 := by omega
  have e8 : 181 + 13 * s = w + 8 := by omega
  have hlast : ∀ (M : am_M), zF (sA s) M0 M → TkX M s g z v wt dep dr ld B Y → (∀ a j, a < 336 → (∀ s', s' < 8 → ¬ a = 177 + 13 * s') → ¬ (a = 181 + 13 * s ∧ j = i) → mI M a j = mI M0 a j) → mI M (181 + 13 * s) i = tI (goodY wt v (sndP dep dr ld) B y) → ∀ x3 x4, jk x4 → am_P am_P0 (d + 3) (am_look tX8_markAlone) 2 [.ref (173 + 13 * s), .int (nI i + 1), .int (nI y.2.1), .int x3, x4] [] M Q := fun M h1 h2 h3 h4 x3 x4 h5 => hQ M x3 x4 h5 h1 h2 h3 h4
  intro m
  induction m with
  | zero =>
    intro k hk M v4 hv4 hM hT hk2 hm
    have e : k = B.length := by omega
    subst e
    have hL := hM.1
    have h12 := hT.2.2.1.2.1
    have h48 := hT.2.2.2.2.1
    have hil := (List.getElem?_eq_some_iff.mp hy).1
    have hle : nI B.length ≤ nI B.length := (ni_le (by omega) (by omega)).mpr (Nat.le_refl _)
    have hgood : mI M (181 + 13 * s) i = tI (goodY wt v (sndP dep dr ld) B y) := by
      rw [hm]
      refine tI_i ⟨fun q => ⟨q.1, fun f hf => ?_⟩, fun q => ⟨q.1, fun k' f _ hf => q.2 f (List.mem_of_getElem? hf)⟩⟩
      obtain ⟨k', hk'⟩ := List.mem_iff_getElem?.mp hf
      exact q.2 k' f (List.getElem?_eq_some_iff.mp hk').1 hk'
    have h0 := hlast M hM hT hk2 hgood (nI B.length) v4 hv4
    obtain ⟨x, hx⟩ : ∃ x, x = mI M (181 + 13 * s) i := ⟨_, rfl⟩
    rw [e8] at hx
    have hR := hT.2.1.1
    rw [← hwe] at h0 hR ⊢
    rw [hX8_markAlone_52]
    simp +decide (disch := omega) only [qX8_markAlone_0, qX8_markAlone_1, lt_ hL hw, lw_ hL hg, hR, hT.2.2.1.1, ← hx, ni_in_t, ni_tn, am_w1_i, am_w1_r, am_w1_x, am_w1_l, am_w1_w, va_rf_s, am_push_n, am_push_s, am_cs_0, am_cs_i, am_cs_l, am_cs_r, m_uI_K, m_uI_N, m_uI_R, m_uI_L, m_uI_I, m_uL_K, m_uL_N, m_uL_R, m_uL_I, m_uL_L, m_uR_K, m_uR_N, m_uR_I, m_uR_L, m_uR_R, true_and, and_true]
    by_cases c : x = 0
    · rw [br_p c]; exact h0
    · rw [br_n c, br_p hle]; exact h0
  | succ m ih =>
    intro k hk M v4 hv4 hM hT hk2 hm
    have hL := hM.1
    have h12 := hT.2.2.1.2.1
    have h48 := hT.2.2.2.2.1
    have hil := (List.getElem?_eq_some_iff.mp hy).1
    have hlt : ¬ nI B.length ≤ nI k := by rw [ni_le (by omega) (by omega)]; omega
    obtain ⟨f, hf⟩ : ∃ f, B[k]? = some f := ⟨B[k]'(by omega), List.getElem?_eq_getElem (by omega)⟩
    obtain ⟨⟨f1, f2, f3⟩, f4, f5, f6⟩ := hT.2.2.1.2.2 k f hf
    obtain ⟨⟨y1, y2⟩, y3, y4, y5⟩ := hT.2.2.2.2.2 i y hy
    have hhb := fun Q => c_x_hoursToBook (d + 2) g k y.1 B f M Q hL hg hT.2.2.1 hf y1
    have hR := hT.2.1.1
    have hbl := btw_lt (f := y.1) y1 f3 (Nat.le_refl _) f2
    by_cases c : sndP dep dr ld y.2.1 y.2.2 ∧ ∀ k' f, k' < k → B[k']? = some f → wit wt v y.2.1 f.1 (btw y.1 y.1 f.2.1 f.2.2)
    · rw [tI_t c] at hm
      have hm' := hm
      rw [e8] at hm'
      have hw4 : am_w1 v4 = v4 := by rcases hv4 with rfl | ⟨x, rfl⟩ <;> rfl
      rw [← hwe] at hR ⊢
      rw [hX8_markAlone_52]
      simp +decide (disch := omega) only [qX8_markAlone_0, qX8_markAlone_1, lt_ hL hw, lw_ hL hg, hR, hT.2.2.1.1, hm', y3, f4, hhb, ni_in_t, ni_tn, ni_add1, am_w1_i, am_w1_r, am_w1_x, am_w1_l, am_w1_w, va_rf_s, am_push_n, am_push_s, am_cs_0, am_cs_i, am_cs_l, am_cs_r, m_uI_K, m_uI_N, m_uI_R, m_uI_L, m_uI_I, m_uL_K, m_uL_N, m_uL_R, m_uL_I, m_uL_L, m_uR_K, m_uR_N, m_uR_I, m_uR_L, m_uR_R, true_and, and_true, true_implies, false_implies]
      rw [br_n hlt, ← e1]
      refine c_x_isWithin d s y.2.1 f.1 (btw y.1 y.1 f.2.1 f.2.2) v wt M _ hL hM.2.1 hs y2 f1 hbl hT.1 (fun M1 g1 => ?_)
      have hM1 : zF (sA s) M0 M1 := zF_trans hM (zF_r g1)
      have L1 := hM1.1
      have z2 : zF (sA s) M1 (uI M1 (w + 8) i (tI (wit wt v y.2.1 f.1 (btw y.1 y.1 f.2.1 f.2.2)))) := zF_i L1 hM1.2.1 _ (Or.inl e8.symm) (fun s' hs' => by omega)
      have hT1 := TkX_z hs hg hz (TkX_z hs hg hz hT (zF_r g1 : zF (sA s) M M1) (fun a j ha q => by unfold sA at q; omega)) z2 (fun a j ha q => by unfold sA at q; omega)
      simp +decide (disch := omega) only [qX8_markAlone_0, qX8_markAlone_1, lt_ L1 hw, ni_in_t, ni_tn, ni_add1, am_w1_i, am_w1_r, am_w1_x, am_w1_l, am_w1_w, va_rf_s, am_push_n, am_push_s, am_cs_0, am_cs_i, am_cs_l, am_cs_r, m_uI_K, m_uI_N, m_uI_R, m_uI_L, m_uI_I, m_uL_K, m_uL_N, m_uL_R, m_uL_I, m_uL_L, m_uR_K, m_uR_N, m_uR_I, m_uR_L, m_uR_R, true_and, and_true]
      refine ⟨tI_01 _, ?_⟩
      rw [hwe]
      rw [← hwe]
      have h0 := ih (k + 1) (by omega) (uI M1 (w + 8) i (tI (wit wt v y.2.1 f.1 (btw y.1 y.1 f.2.1 f.2.2)))) (.int (nI (btw y.1 y.1 f.2.1 f.2.2))) (Or.inr ⟨_, rfl⟩) (zF_trans hM1 z2) hT1 (fun a j q1 q2 q3 => ?_) ?_
      · rw [← hwe] at h0
        exact h0
      · rw [m_uI_I, if_neg (fun q => q3 ⟨by omega, q.2⟩), g1.2.2.2.1 a j q1 q2]
        exact hk2 a j q1 q2 q3
      · rw [m_uI_I, if_pos ⟨e8, rfl⟩]
        refine tI_i ⟨fun q => ⟨c.1, fun k' f' hk' hf' => ?_⟩, fun q => q.2 k f (by omega) hf⟩
        by_cases ek : k' = k
        · subst ek; cases hf.symm.trans hf'; exact q
        · exact c.2 k' f' (by omega) hf'
    · rw [tI_f c] at hm
      have hgood : mI M (181 + 13 * s) i = tI (goodY wt v (sndP dep dr ld) B y) := by
        rw [hm, tI_f (fun q : goodY wt v (sndP dep dr ld) B y => c ⟨q.1, fun k' f' _ hf' => q.2 f' (List.mem_of_getElem? hf')⟩)]
      have h0 := hlast M hM hT hk2 hgood (nI k) v4 hv4
      have hm' := hm
      rw [e8] at hm'
      rw [← hwe] at h0 hR ⊢
      rw [hX8_markAlone_52]
      simp +decide (disch := omega) only [qX8_markAlone_0, qX8_markAlone_1, lt_ hL hw, hm', ni_in_t, ni_tn, am_w1_i, am_w1_r, am_w1_x, am_w1_l, am_w1_w, va_rf_s, am_push_n, am_push_s, am_cs_0, am_cs_i, am_cs_l, am_cs_r, m_uI_K, m_uI_N, m_uI_R, m_uI_L, m_uI_I, m_uL_K, m_uL_N, m_uL_R, m_uL_I, m_uL_L, m_uR_K, m_uR_N, m_uR_I, m_uR_L, m_uR_R, true_and, and_true, true_implies, false_implies]
      exact h0
