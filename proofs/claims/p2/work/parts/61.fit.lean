/-! the model's facts, and whether they fit -/
/-- hours out of steps -/
def hrT (x : Int32) (v : Nat) : Int32 := if x = -1 then 1000 else (x + nI v - 1) / nI v
theorem c_m_hoursTo (d s b v c : Nat) (M : am_M) (Q : Option Value → am_M → Prop) (hL : Lay M) (hb : mI M 277 12 = nI b) (hb2 : b < 2) (hs : s < 8) (hv : mI M 288 (8 * b + s) = nI v) (hv1 : 1 ≤ v) (hv2 : v ≤ 4) (hc : c < 256) : am_E am_P0 d 238 [.ref 277, .int (nI s), .int (nI c)] M Q ↔ Q (some (.int (hrT (mI M 317 c) v))) M := by
  have e : 8 * nI b + nI s = nI (8 * b + s) := by rw [show (8 : Int32) = nI 8 from rfl, ni_mul, ni_add]
  have hv0 : ¬ nI v = 0 := by rw [show (0 : Int32) = nI 0 from rfl, ni_eq (by omega) (by omega)]; omega
  rw [eX11_hoursTo]
  simp +decide (disch := omega) only [qX11_hoursTo, lm hL, hb, e, hv, hv0, ni_in_t, ni_tn, am_w1_i, am_w1_r, am_w1_x, am_w1_l, am_w1_w, va_rf_s, am_push_n, am_push_s, am_cs_0, am_cs_i, am_cs_l, am_cs_r, m_uI_K, m_uI_N, m_uI_R, m_uI_L, m_uI_I, m_uL_K, m_uL_N, m_uL_R, m_uL_I, m_uL_L, m_uR_K, m_uR_N, m_uR_I, m_uR_L, m_uR_R, true_and, and_true]
  unfold hrT
  by_cases h1 : mI M 317 c = -1
  · rw [br_r h1, if_pos h1]
  · rw [br_q h1, if_neg h1]
theorem hrT_wit {w : Nat → Prop} {v p q h : Nat} {x : Int32} (hv1 : 1 ≤ v) (hv2 : v ≤ 4) (hh : h < 1000) (hx : (∃ k, k ≤ 256 ∧ dst w p q k ∧ x = nI k) ∨ ((∀ k, ¬ ball w p k q) ∧ x = -1)) : hrT x v ≤ nI h ↔ wit w v p q h := by
  unfold hrT wit
  rcases hx with ⟨k, hk, hd, rfl⟩ | ⟨hd, rfl⟩
  · rw [if_neg (nI_m1 (by omega)), ni_add, show (1 : Int32) = nI 1 from rfl, ni_sub (by omega), ni_div (by omega) (by omega)]
    have hq : (k + v - 1) / v ≤ k + v - 1 := Nat.div_le_self _ _
    rw [ni_le (by omega) (by omega)]
    have e : (k + v - 1) / v ≤ h ↔ k ≤ h * v := by
      constructor
      · intro h1
        have h2 := Nat.lt_mul_div_succ (k + v - 1) (show 0 < v by omega)
        have h3 : v * ((k + v - 1) / v + 1) ≤ v * (h + 1) := Nat.mul_le_mul_left v (by omega)
        rw [Nat.mul_add v h 1, Nat.mul_one, Nat.mul_comm v h] at h3
        omega
      · intro h1
        refine Nat.le_of_lt_succ ((Nat.div_lt_iff_lt_mul (show 0 < v by omega)).mpr ?_)
        rw [Nat.succ_mul]
        omega
    rw [e]
    constructor
    · intro h1; exact ball_mono hd.1 h1
    · intro h1
      rcases Nat.lt_or_ge (h * v) k with h2 | h2
      · exact absurd h1 (hd.2 _ h2)
      · exact h2
  · rw [if_pos rfl]
    constructor
    · intro h1
      rw [show (1000 : Int32) = nI 1000 from rfl, ni_le (by omega) (by omega)] at h1
      omega
    · intro h1; exact absurd h1 (hd _)
/-- nothing but S is changed -/
def oS (S : Nat → Nat → Prop) (M M' : am_M) : Prop := (∀ a j, ¬ S a j → mI M' a j = mI M a j) ∧ (∀ a j, mL M' a j = mL M a j) ∧ (∀ a j, mR M' a j = mR M a j) ∧ mS M' = mS M
theorem oS_refl (S : Nat → Nat → Prop) (M : am_M) : oS S M M := ⟨fun _ _ _ => rfl, fun _ _ => rfl, fun _ _ => rfl, rfl⟩
theorem oS_trans {S : Nat → Nat → Prop} {M M' M'' : am_M} (h1 : oS S M M') (h2 : oS S M' M'') : oS S M M'' := ⟨fun a j q => (h2.1 a j q).trans (h1.1 a j q), fun a j => (h2.2.1 a j).trans (h1.2.1 a j), fun a j => (h2.2.2.1 a j).trans (h1.2.2.1 a j), h2.2.2.2.trans h1.2.2.2⟩
theorem oS_up {S S' : Nat → Nat → Prop} {M M' : am_M} (h : oS S M M') (hs : ∀ a j, S a j → S' a j) : oS S' M M' := ⟨fun a j q => h.1 a j (fun z => q (hs a j z)), h.2.1, h.2.2.1, h.2.2.2⟩
theorem oS_Lay {S : Nat → Nat → Prop} {M M' : am_M} (h : oS S M M') (hL : Lay M) : Lay M' := Lay_S hL h.2.2.2 h.2.2.1
def sG (a j : Nat) : Prop := a = 317 ∨ a = 318 ∨ (a = 277 ∧ j = 59)
def sF (a j : Nat) : Prop := a = 319 ∨ a = 320 ∨ a = 321 ∨ (a = 277 ∧ j = 60)
theorem onlyG_S {M M' : am_M} (h : onlyG M M') : oS sG M M' := ⟨fun a j q => h.1 a j (fun z => q (Or.inl z)) (fun z => q (Or.inr (Or.inl z))) (fun z => q (Or.inr (Or.inr z))), h.2.1, h.2.2.1, h.2.2.2⟩
theorem oS_G {M M' : am_M} (h : oS sG M M') : onlyG M M' := ⟨fun a j q1 q2 q3 => h.1 a j (fun z => by rcases z with z | z | z; exact q1 z; exact q2 z; exact q3 z), h.2.1, h.2.2.1, h.2.2.2⟩
/-- the facts as they lie in the model's rows -/
def FcM (M : am_M) (C R : Nat) (F : List Fct) : Prop := mI M 277 60 = nI F.length ∧ F.length ≤ 120 ∧ ∀ i f, F[i]? = some f → (vld C R f.1 ∧ f.2.1 ≤ f.2.2 ∧ f.2.2 < 48) ∧ mI M 319 i = nI (cel C f.1) ∧ mI M 320 i = nI f.2.1 ∧ mI M 321 i = nI f.2.2
theorem FcM_S {M M' : am_M} {C R : Nat} {F : List Fct} {S : Nat → Nat → Prop} (h : FcM M C R F) (hS : oS S M M') (hd : ∀ a j, sF a j → ¬ S a j) : FcM M' C R F := by
  obtain ⟨h1, h2, h3⟩ := h
  refine ⟨by rw [hS.1 _ _ (hd _ _ (Or.inr (Or.inr (Or.inr ⟨rfl, rfl⟩))))]; exact h1, h2, fun i f hf => ?_⟩
  obtain ⟨q1, q2, q3, q4⟩ := h3 i f hf
  exact ⟨q1, by rw [hS.1 _ _ (hd _ _ (Or.inl rfl))]; exact q2, by rw [hS.1 _ _ (hd _ _ (Or.inr (Or.inl rfl)))]; exact q3, by rw [hS.1 _ _ (hd _ _ (Or.inr (Or.inr (Or.inl rfl))))]; exact q4⟩
theorem btw_I {f t f' t' : Nat} (h1 : t < 48) (h2 : t' < 48) (h3 : f ≤ t) (h4 : f' ≤ t') : (if nI t < nI f' then nI f' - nI t else if nI t' < nI f then nI f - nI t' else 0) = nI (btw f t f' t') := by
  unfold btw
  by_cases c1 : t < f'
  · rw [if_pos ((ni_lt (by omega) (by omega)).mpr c1), if_pos c1, ni_sub (by omega)]
  · rw [if_neg (fun z => c1 ((ni_lt (by omega) (by omega)).mp z)), if_neg c1]
    by_cases c2 : t' < f
    · rw [if_pos ((ni_lt (by omega) (by omega)).mpr c2), if_pos c2, ni_sub (by omega)]
    · rw [if_neg (fun z => c2 ((ni_lt (by omega) (by omega)).mp z)), if_neg c2]
      rfl
theorem btw_lt {f t f' t' : Nat} (h1 : t < 48) (h2 : t' < 48) (h3 : f ≤ t) (h4 : f' ≤ t') : btw f t f' t' < 48 := by
  unfold btw
  split
  · omega
  · split <;> omega
theorem onlyG_I {M M' : am_M} (h : onlyG M M') (a j : Nat) (h1 : ¬ a = 317) (h2 : ¬ a = 318) (h3 : ¬ (a = 277 ∧ j = 59)) : mI M' a j = mI M a j := h.1 a j h1 h2 h3
theorem l_m_fit2 (d s b C R v i : Nat) (F : List Fct) (M : am_M) (Q : Option Value → am_M → Prop) (hL : Lay M) (hB : MB M b C R) (hs : s < 8) (hv : mI M 288 (8 * b + s) = nI v) (hv1 : 1 ≤ v) (hv2 : v ≤ 4) (hF : FcM M C R F) (w : Nat → Prop) (f : Fct) (hf : F[i]? = some f) (hG : GoesP M C R w f.1)
    (hN : (¬ ∀ g, g ∈ F → wit w v f.1 g.1 (btw f.2.1 f.2.2 g.2.1 g.2.2)) → Q (some (.int 0)) M)
    (hY : (∀ g, g ∈ F → wit w v f.1 g.1 (btw f.2.1 f.2.2 g.2.1 g.2.2)) → ∀ v3, am_P am_P0 (d + 4) (am_look tX11_fit) 2 [.ref 277, .int (nI s), .int (nI i + 1), v3] [] M Q) :
    ∀ (m j : Nat), j + m = F.length → (∀ k g, k < j → F[k]? = some g → wit w v f.1 g.1 (btw f.2.1 f.2.2 g.2.1 g.2.2)) → am_P am_P0 (d + 4) (am_look tX11_fit) 23 [.ref 277, .int (nI s), .int (nI i), .int (nI j)] [] M Q := by
  obtain ⟨f1, f2, f3⟩ := hF
  obtain ⟨b1, b2, b3, b4, b5, b6, b7, b8⟩ := hB
  have hil : i < F.length := (List.getElem?_eq_some_iff.mp hf).1
  obtain ⟨⟨fv, fo, ft⟩, fc, ff, fg⟩ := f3 i f hf
  intro m
  induction m with
  | zero =>
    intro j hj hall
    have e : j = F.length := by omega
    subst e
    have hle : nI F.length ≤ nI F.length := (ni_le (by omega) (by omega)).mpr (Nat.le_refl _)
    rw [hX11_fit_23]
    simp +decide only [qX11_fit_0, qX11_fit_1, lm hL, f1, am_w1_i, am_w1_r, am_w1_x, am_w1_l, am_w1_w, va_rf_s, am_push_n, am_push_s, am_cs_0, am_cs_i, am_cs_l, am_cs_r, m_uI_K, m_uI_N, m_uI_R, m_uI_L, m_uI_I, m_uL_K, m_uL_N, m_uL_R, m_uL_I, m_uL_L, m_uR_K, m_uR_N, m_uR_I, m_uR_L, m_uR_R, true_and, and_true]
    rw [br_p hle]
    refine hY (fun g hg => ?_) _
    obtain ⟨k, hk⟩ := List.mem_iff_getElem?.mp hg
    exact hall k g (List.getElem?_eq_some_iff.mp hk).1 hk
  | succ m ih =>
    intro j hj hall
    have hlt : ¬ nI F.length ≤ nI j := by rw [ni_le (by omega) (by omega)]; omega
    obtain ⟨g, hg⟩ : ∃ g, F[j]? = some g := ⟨F[j]'(by omega), List.getElem?_eq_getElem (by omega)⟩
    obtain ⟨⟨gv, go, gt⟩, gc, gf, gg⟩ := f3 j g hg
    have gl := cel_lt b6 b8 gv
    have hh := fun Q => c_m_hoursTo (d + 3) s b v (cel C g.1) M Q hL b1 b2 hs hv hv1 hv2 gl.2.1
    have hbt := fun Q => c_m_between (d + 3) (nI f.2.1) (nI f.2.2) (nI g.2.1) (nI g.2.2) M Q
    have hw := hrT_wit (w := w) (v := v) (p := f.1) (q := g.1) (h := btw f.2.1 f.2.2 g.2.1 g.2.2) (x := mI M 317 (cel C g.1)) hv1 hv2 (by have := btw_lt ft gt fo go; omega) (hG g.1 gv)
    rw [hX11_fit_23]
    simp +decide (disch := omega) only [qX11_fit_0, qX11_fit_1, lm hL, f1, fc, ff, fg, gc, gf, gg, hh, hbt, btw_I ft gt fo go, ni_in_t, ni_tn, ni_add1, am_w1_i, am_w1_r, am_w1_x, am_w1_l, am_w1_w, va_rf_s, am_push_n, am_push_s, am_cs_0, am_cs_i, am_cs_l, am_cs_r, m_uI_K, m_uI_N, m_uI_R, m_uI_L, m_uI_I, m_uL_K, m_uL_N, m_uL_R, m_uL_I, m_uL_L, m_uR_K, m_uR_N, m_uR_I, m_uR_L, m_uR_R, true_and, and_true]
    rw [br_n hlt]
    by_cases hc : wit w v f.1 g.1 (btw f.2.1 f.2.2 g.2.1 g.2.2)
    · rw [br_p (hw.mpr hc)]
      refine ih (j + 1) (by omega) (fun k g' hk hg' => ?_)
      by_cases ek : k = j
      · subst ek
        cases hg.symm.trans hg'
        exact hc
      · exact hall k g' (by omega) hg'
    · rw [br_n (fun z => hc (hw.mp z))]
      exact hN (fun z => hc (z g (List.mem_of_getElem? hg)))
theorem l_m_fit (d s b C R v : Nat) (F : List Fct) (M0 : am_M) (Q : Option Value → am_M → Prop) (hL : Lay M0) (hB : MB M0 b C R) (hs : s < 8) (hv : mI M0 288 (8 * b + s) = nI v) (hv1 : 1 ≤ v) (hv2 : v ≤ 4) (hF : FcM M0 C R F)
    (hQ : ∀ M', onlyG M0 M' → Q (some (.int (tI (fitP (mW_ M0 b C R s) v F)))) M') :
    ∀ (m i : Nat), i + m = F.length → ∀ (M : am_M) (v3 : Value), onlyG M0 M → (∀ k f, k < i → F[k]? = some f → ∀ g, g ∈ F → wit (mW_ M0 b C R s) v f.1 g.1 (btw f.2.1 f.2.2 g.2.1 g.2.2)) → am_P am_P0 (d + 4) (am_look tX11_fit) 2 [.ref 277, .int (nI s), .int (nI i), v3] [] M Q := by
  have hd : ∀ a j, sF a j → ¬ sG a j := fun a j h1 h2 => by unfold sF sG at *; omega
  intro m
  induction m with
  | zero =>
    intro i hi M v3 hM hall
    have e : i = F.length := by omega
    subst e
    have hFM := FcM_S hF (onlyG_S hM) hd
    have hle : nI F.length ≤ nI F.length := (ni_le (by have := hF.2.1; omega) (by have := hF.2.1; omega)).mpr (Nat.le_refl _)
    rw [hX11_fit_2]
    simp +decide only [qX11_fit_0, qX11_fit_1, lm (onlyG_Lay hM hL), hFM.1, am_w1_i, am_w1_r, am_w1_x, am_w1_l, am_w1_w, va_rf_s, am_push_n, am_push_s, am_cs_0, am_cs_i, am_cs_l, am_cs_r, m_uI_K, m_uI_N, m_uI_R, m_uI_L, m_uI_I, m_uL_K, m_uL_N, m_uL_R, m_uL_I, m_uL_L, m_uR_K, m_uR_N, m_uR_I, m_uR_L, m_uR_R, true_and, and_true]
    rw [br_p hle]
    have h0 := hQ M hM
    have hfit : fitP (mW_ M0 b C R s) v F := fun a ha c hc => by
      obtain ⟨k, hk⟩ := List.mem_iff_getElem?.mp ha
      exact hall k a (List.getElem?_eq_some_iff.mp hk).1 hk c hc
    rw [tI_t hfit] at h0
    exact h0
  | succ m ih =>
    intro i hi M v3 hM hall
    have hFM := FcM_S hF (onlyG_S hM) hd
    have hLM := onlyG_Lay hM hL
    have h120 := hF.2.1
    have hlt : ¬ nI F.length ≤ nI i := by rw [ni_le (by omega) (by omega)]; omega
    obtain ⟨f, hf⟩ : ∃ f, F[i]? = some f := ⟨F[i]'(by omega), List.getElem?_eq_getElem (by omega)⟩
    obtain ⟨⟨fv, fo, ft⟩, fc, ff, fg⟩ := hFM.2.2 i f hf
    rw [hX11_fit_2]
    simp +decide (disch := omega) only [qX11_fit_0, qX11_fit_1, lm hLM, hFM.1, fc, ni_in_t, ni_tn, am_w1_i, am_w1_r, am_w1_x, am_w1_l, am_w1_w, va_rf_s, am_push_n, am_push_s, am_cs_0, am_cs_i, am_cs_l, am_cs_r, m_uI_K, m_uI_N, m_uI_R, m_uI_L, m_uI_I, m_uL_K, m_uL_N, m_uL_R, m_uL_I, m_uL_L, m_uR_K, m_uR_N, m_uR_I, m_uR_L, m_uR_R, true_and, and_true]
    rw [br_n hlt]
    refine c_m_goes (d) s b C R f.1 M _ hLM (MB_G hB hM) hs fv (fun M' g1 g2 => ?_)
    rw [mW_G hM] at g2
    have hM' := onlyG_trans hM g1
    simp +decide only [qX11_fit_0, qX11_fit_1, am_w1_i, am_w1_r, am_w1_x, am_w1_l, am_w1_w, va_rf_s, am_push_n, am_push_s, am_cs_0, am_cs_i, am_cs_l, am_cs_r, m_uI_K, m_uI_N, m_uI_R, m_uI_L, m_uI_I, m_uL_K, m_uL_N, m_uL_R, m_uL_I, m_uL_L, m_uR_K, m_uR_N, m_uR_I, m_uR_L, m_uR_R, true_and, and_true]
    rw [show (0 : Int32) = nI 0 from rfl]
    refine l_m_fit2 d s b C R v i F M' Q (onlyG_Lay hM' hL) (MB_G hB hM') hs (by rw [onlyG_I hM' _ _ (by decide) (by decide) (by omega)]; exact hv) hv1 hv2 (FcM_S hF (onlyG_S hM') hd) (mW_ M0 b C R s) f hf g2 (fun hn => ?_) (fun hy v3' => ?_) F.length 0 (by omega) (fun k g hk => by omega)
    · have h0 := hQ M' hM'
      have hfit : ¬ fitP (mW_ M0 b C R s) v F := fun z => hn (fun g hg => z f (List.mem_of_getElem? hf) g hg)
      rw [tI_f hfit] at h0
      exact h0
    · rw [ni_add1]
      refine ih (i + 1) (by omega) M' v3' hM' (fun k f' hk hf' => ?_)
      by_cases ek : k = i
      · subst ek
        cases hf.symm.trans hf'
        exact hy
      · exact hall k f' (by omega) hf'
theorem c_m_fit (d s b C R v : Nat) (F : List Fct) (M : am_M) (Q : Option Value → am_M → Prop) (hL : Lay M) (hB : MB M b C R) (hs : s < 8) (hv : mI M 288 (8 * b + s) = nI v) (hv1 : 1 ≤ v) (hv2 : v ≤ 4) (hF : FcM M C R F)
    (hQ : ∀ M', onlyG M M' → Q (some (.int (tI (fitP (mW_ M b C R s) v F)))) M') : am_E am_P0 (d + 4) 244 [.ref 277, .int (nI s)] M Q := by
  rw [eX11_fit]
  simp +decide only [qX11_fit_0, qX11_fit_1, am_w1_i, am_w1_r, am_w1_x, am_w1_l, am_w1_w, va_rf_s, am_push_n, am_push_s, am_cs_0, am_cs_i, am_cs_l, am_cs_r, m_uI_K, m_uI_N, m_uI_R, m_uI_L, m_uI_I, m_uL_K, m_uL_N, m_uL_R, m_uL_I, m_uL_L, m_uR_K, m_uR_N, m_uR_I, m_uR_L, m_uR_R, true_and, and_true]
  rw [show (0 : Int32) = nI 0 from rfl]
  exact l_m_fit d s b C R v F M Q hL hB hs hv hv1 hv2 hF hQ F.length 0 (by omega) M am_x (onlyG_refl M) (fun k f hk => by omega)
