/-! the model: which sayings are kept -/
noncomputable def dB (p : Prop) : Bool := @decide p (Classical.propDecidable p)
theorem dB_t {p : Prop} : dB p = true ↔ p := by
  unfold dB
  exact @decide_eq_true_iff p (Classical.propDecidable p)
theorem dB_f {p : Prop} : dB p = false ↔ ¬ p := by
  have h := dB_t (p := p)
  constructor
  · intro e q
    rw [h.mpr q] at e
    cases e
  · intro q
    cases e : dB p with
    | false => rfl
    | true => exact absurd (h.mp e) q
section
variable (w : Nat → Prop) (v : Nat) (snd : Nat → Bool → Prop) (B : List Fct) (Y : List Sy)
noncomputable def gdF (i : Nat) : Bool := dB (∃ y, Y[i]? = some y ∧ goodY w v snd B y)
noncomputable def goF (i j : Nat) : Bool := dB (∃ y y', Y[i]? = some y ∧ Y[j]? = some y' ∧ gowY w v y y')
noncomputable def lgY (i : Nat) : Nat := lg Y.length (gdF w v snd B Y) (goF w v Y) i
/-- the longest chain -/
noncomputable def mostY : Nat := lgM (lgY w v snd B Y) Y.length
def keptY (i : Nat) : Prop := i < Y.length ∧ kpT (mostY w v snd B Y) (lgY w v snd B Y) (goF w v Y) i
end
theorem gdF_y {w : Nat → Prop} {v : Nat} {snd : Nat → Bool → Prop} {B : List Fct} {Y : List Sy} {i : Nat} {y : Sy} (h : Y[i]? = some y) : gdF w v snd B Y i = true ↔ goodY w v snd B y := by
  unfold gdF
  rw [dB_t]
  constructor
  · rintro ⟨z, h1, h2⟩; cases h.symm.trans h1; exact h2
  · intro h1; exact ⟨y, h, h1⟩
theorem goF_y {w : Nat → Prop} {v : Nat} {Y : List Sy} {i j : Nat} {y y' : Sy} (h : Y[i]? = some y) (h' : Y[j]? = some y') : goF w v Y i j = true ↔ gowY w v y y' := by
  unfold goF
  rw [dB_t]
  constructor
  · rintro ⟨z, z', h1, h2, h3⟩; cases h.symm.trans h1; cases h'.symm.trans h2; exact h3
  · intro h1; exact ⟨y, y', h, h', h1⟩
def sK (a j : Nat) : Prop := sP a j ∨ a = 324 ∨ a = 326 ∨ (a = 277 ∧ (j = 64 ∨ j = 66))
theorem tld_K (a j : Nat) (h : tld a j) : ¬ sK a j := fun z => by
  rcases z with z | z
  · exact tld_P a j h z
  · unfold tld at h; omega
theorem PrM_S {w : Nat → Prop} {v : Nat} {snd : Nat → Bool → Prop} {B : List Fct} {Y : List Sy} {M M' : am_M} {n : Nat} (h : PrM w v snd B Y M n) (h1 : mI M' 277 65 = mI M 277 65) (h2 : ∀ j, mI M' 322 j = mI M 322 j) (h3 : ∀ j, mI M' 323 j = mI M 323 j) (h4 : ∀ j, mI M' 325 j = mI M 325 j) : PrM w v snd B Y M' n :=
  ⟨⟨by rw [h1]; exact h.1.1, fun i y hy => by rw [h2]; exact h.1.2 i y hy⟩, fun k y hk hy => by rw [h3]; exact h.2.1 k y hk hy, fun k j y y' hk hy hy' => by rw [h4]; exact h.2.2 k j y y' hk hy hy'⟩
theorem mx1_all (f : Nat → Nat) : ∀ n, mx1 f (fun _ => true) 0 n = lgM f n := by
  intro n
  induction n with
  | zero => rfl
  | succ n ih =>
    show max _ (if true = true then f (0 + n) else 0) = max _ _
    rw [ih, if_pos rfl, Nat.zero_add]
theorem mx1_dn (f : Nat → Nat) (g : Nat → Bool) (a : Nat) : ∀ m, mx1 f g a (m + 1) = max (if g a = true then f a else 0) (mx1 f g (a + 1) m) := by
  intro m
  induction m with
  | zero =>
    show max 0 (if g (a + 0) = true then f (a + 0) else 0) = max _ 0
    rw [Nat.max_comm]
    rfl
  | succ m ih =>
    show max (mx1 f g a (m + 1)) (if g (a + (m + 1)) = true then f (a + (m + 1)) else 0) = max _ (max (mx1 f g (a + 1) m) (if g (a + 1 + m) = true then f (a + 1 + m) else 0))
    rw [ih, Nat.max_assoc, show a + (m + 1) = a + 1 + m by omega]
/-- reading the isKept row, the fields -/
theorem l_m_keeps2 (d s : Nat) (w : Nat → Prop) (v : Nat) (snd : Nat → Bool → Prop) (B : List Fct) (Y : List Sy) (M0 : am_M) (Q : Option Value → am_M → Prop) (i : Nat) (hi : i < Y.length) (hl : Y.length ≤ 48) (x2 : Int32) (f : Nat → Nat) (hf : f = lgY w v snd B Y)
    (hgi : gdF w v snd B Y i = true)
    (hQ : ∀ M' v4, oS sK M0 M' → (∀ a j, ¬ (a = 326 ∧ j = i) → mI M' a j = mI M0 a j) → mI M' 326 i = nI (f i) → am_P am_P0 d (am_look tX11_keeps) 170 [.ref 277, .int (nI s), .int x2, .int (nI i), .int v4] [] M' Q)
    (hL : Lay M0) (hP : PrM w v snd B Y M0 Y.length) (hlg : ∀ k, i < k → k < Y.length → mI M0 326 k = nI (f k)) :
    ∀ (m j : Nat), j + m = Y.length → i + 1 ≤ j → ∀ (M : am_M), oS sK M0 M → (∀ a k, ¬ (a = 326 ∧ k = i) → mI M a k = mI M0 a k) → mI M 326 i = nI (1 + mx1 f (goF w v Y i) (i + 1) (j - (i + 1))) → am_P am_P0 d (am_look tX11_keeps) 88 [.ref 277, .int (nI s), .int x2, .int (nI i), .int (nI j)] [] M Q := by
  have hfb : ∀ k, f k ≤ 48 := fun k => by
    rw [hf]
    have := lg_le (n := Y.length) (gd := gdF w v snd B Y) (go := goF w v Y) Y.length k (by omega)
    unfold lgY
    omega
  have hmb : ∀ m, mx1 f (goF w v Y i) (i + 1) m ≤ 48 := fun m => by
    rcases mx1_at (f := f) (g := goF w v Y i) (a := i + 1) (m := m) with e | ⟨j, -, -, -, e⟩
    · omega
    · rw [← e]; exact hfb j
  obtain ⟨y, hy⟩ : ∃ y, Y[i]? = some y := ⟨Y[i]'hi, List.getElem?_eq_getElem hi⟩
  intro m
  induction m with
  | zero =>
    intro j hj hij M hM hk hm
    have e : j = Y.length := by omega
    subst e
    have hLM := oS_Lay hM hL
    have hPM := PrM_S (M' := M) hP (hk _ _ (by omega)) (fun j => hk _ _ (by omega)) (fun j => hk _ _ (by omega)) (fun j => hk _ _ (by omega))
    have hle : nI Y.length ≤ nI Y.length := (ni_le (by omega) (by omega)).mpr (Nat.le_refl _)
    have h0 := hQ M (nI Y.length) hM hk (by rw [hm, hf]; unfold lgY; rw [lg_eq hi, if_pos hgi])
    rw [hX11_keeps_88]
    simp +decide (disch := omega) only [qX11_keeps_0, qX11_keeps_1, qX11_keeps_2, qX11_keeps_3, lm hLM, hPM.1.1, ni_in_t, ni_tn, am_w1_i, am_w1_r, am_w1_x, am_w1_l, am_w1_w, va_rf_s, am_push_n, am_push_s, am_cs_0, am_cs_i, am_cs_l, am_cs_r, m_uI_K, m_uI_N, m_uI_R, m_uI_L, m_uI_I, m_uL_K, m_uL_N, m_uL_R, m_uL_I, m_uL_L, m_uR_K, m_uR_N, m_uR_I, m_uR_L, m_uR_R, true_and, and_true] at h0 ⊢
    rw [br_p hle]
    exact h0
  | succ m ih =>
    intro j hj hij M hM hk hm
    have hLM := oS_Lay hM hL
    have hPM := PrM_S (M' := M) hP (hk _ _ (by omega)) (fun j => hk _ _ (by omega)) (fun j => hk _ _ (by omega)) (fun j => hk _ _ (by omega))
    have hlt : ¬ nI Y.length ≤ nI j := by rw [ni_le (by omega) (by omega)]; omega
    obtain ⟨z, hz⟩ : ∃ z, Y[j]? = some z := ⟨Y[j]'(by omega), List.getElem?_eq_getElem (by omega)⟩
    have e48 : 48 * nI i + nI j = nI (48 * i + j) := by rw [show (48 : Int32) = nI 48 from rfl, ni_mul, ni_add]
    have r1 := hPM.2.1 i y hi hy
    have r2 := hPM.2.1 j z (by omega) hz
    have r3 := hPM.2.2 i j y z hi hy hz
    have r4 : mI M 326 j = nI (f j) := by rw [hk _ _ (by omega)]; exact hlg j (by omega) (by omega)
    rw [tI_t ((gdF_y hy).mp hgi)] at r1
    have hgo := goF_y (w := w) (v := v) hy hz
    have hgd := gdF_y (w := w) (v := v) (snd := snd) (B := B) hz
    have hstep : mx1 f (goF w v Y i) (i + 1) (j + 1 - (i + 1)) = max (mx1 f (goF w v Y i) (i + 1) (j - (i + 1))) (if goF w v Y i j = true then f j else 0) := by
      rw [show j + 1 - (i + 1) = (j - (i + 1)) + 1 by omega]
      show max _ _ = _
      rw [show i + 1 + (j - (i + 1)) = j by omega]
    have b1 := hfb j
    have b2 := hmb (j - (i + 1))
    rw [hX11_keeps_88]
    simp +decide (disch := omega) only [qX11_keeps_0, qX11_keeps_1, qX11_keeps_2, qX11_keeps_3, lm hLM, hPM.1.1, r1, r2, r3, r4, hm, e48, ni_in_t, ni_tn, ni_add1, am_w1_i, am_w1_r, am_w1_x, am_w1_l, am_w1_w, va_rf_s, am_push_n, am_push_s, am_cs_0, am_cs_i, am_cs_l, am_cs_r, m_uI_K, m_uI_N, m_uI_R, m_uI_L, m_uI_I, m_uL_K, m_uL_N, m_uL_R, m_uL_I, m_uL_L, m_uR_K, m_uR_N, m_uR_I, m_uR_L, m_uR_R, true_and, and_true, true_implies, false_implies]
    rw [br_n hlt]
    by_cases c1 : gowY w v y z
    · rw [tI_t c1, br_n (by decide)]
      rw [if_pos (hgo.mpr c1)] at hstep
      by_cases c2 : goodY w v snd B z
      · rw [tI_t c2, br_n (by decide)]
        by_cases c3 : f j + 1 ≤ 1 + mx1 f (goF w v Y i) (i + 1) (j - (i + 1))
        · rw [br_p ((ni_le (by omega) (by omega)).mpr c3)]
          refine ih (j + 1) (by omega) (by omega) M hM hk ?_
          rw [hm, hstep, Nat.max_eq_left (by omega)]
        · rw [br_n (fun q => c3 ((ni_le (by omega) (by omega)).mp q))]
          have g1 : oS sK M (uI M 326 i (nI (f j + 1))) := ⟨fun a k h => by rw [m_uI_I, if_neg (fun q => h (Or.inr (Or.inr (Or.inl q.1))))], fun _ _ => rfl, fun _ _ => rfl, rfl⟩
          refine ih (j + 1) (by omega) (by omega) _ (oS_trans hM g1) (fun a k h => by rw [m_uI_I, if_neg h]; exact hk a k h) ?_
          rw [m_uI_I, if_pos ⟨rfl, rfl⟩, hstep, Nat.max_eq_right (by omega), Nat.add_comm]
      · rw [tI_f c2, br_p rfl]
        refine ih (j + 1) (by omega) (by omega) M hM hk ?_
        have hz0 : f j = 0 := by rw [hf]; unfold lgY; exact lg_0 (fun q => c2 (hgd.mp q))
        rw [hm, hstep, hz0, Nat.max_zero]
    · rw [tI_f c1, br_p rfl]
      refine ih (j + 1) (by omega) (by omega) M hM hk ?_
      rw [if_neg (fun q => c1 (hgo.mp q)), Nat.max_zero] at hstep
      rw [hm, hstep]
