/-! the model: a saying with the books; sayings by twos -/
def wbP (w : Nat → Prop) (v : Nat) (B : List Fct) (p t : Nat) : Prop := ∀ f, f ∈ B → wit w v p f.1 (btw t t f.2.1 f.2.2)
theorem bkOf_mem {L : List Bk} {s : Nat} {f : Fct} : f ∈ bkOf L s ↔ ∃ k, k ∈ L ∧ k.1 = s ∧ k.2 = f := by
  unfold bkOf
  rw [List.mem_map]
  constructor
  · rintro ⟨k, hk, rfl⟩
    rw [List.mem_filter] at hk
    exact ⟨k, hk.1, by simpa using hk.2, rfl⟩
  · rintro ⟨k, h1, h2, rfl⟩
    exact ⟨k, List.mem_filter.mpr ⟨h1, by simpa using h2⟩, rfl⟩
theorem l_m_withB (d s b C R v p t : Nat) (L : List Bk) (M : am_M) (Q : Option Value → am_M → Prop) (w : Nat → Prop) (x2 : Int32) (hL : Lay M) (hB : MB M b C R) (hs : s < 8) (hv : mI M 288 (8 * b + s) = nI v) (hv1 : 1 ≤ v) (hv2 : v ≤ 4) (ht : t < 48) (hK : BkM M b C L) (hO : bkOK C R L) (hG : GoesP M C R w p)
    (hQ : Q (some (.int (tI (wbP w v (bkOf L s) p t)))) M) :
    ∀ (m i : Nat), i + m = L.length → (∀ j k, j < i → L[j]? = some k → k.1 = s → wit w v p k.2.1 (btw t t k.2.2.1 k.2.2.2)) → am_P am_P0 (d + 1) (am_look tX11_withBooks) 15 [.ref 277, .int (nI s), .int x2, .int (nI t), .int (nI (12 * b + i))] [] M Q := by
  obtain ⟨b1, b2, b3, b4, b5, b6, b7, b8⟩ := hB
  have e12 : 12 * nI b = nI (12 * b) := by rw [show (12 : Int32) = nI 12 from rfl, ni_mul]
  have h12 := hO.1
  intro m
  induction m with
  | zero =>
    intro i hi hall
    have e : i = L.length := by omega
    subst e
    have hle : nI (12 * b + L.length) ≤ nI (12 * b + L.length) := (ni_le (by omega) (by omega)).mpr (Nat.le_refl _)
    rw [hX11_withBooks_15]
    simp +decide (disch := omega) only [qX11_withBooks_0, qX11_withBooks_1, lm hL, b1, hK.1, e12, ni_add, ni_in_t, ni_tn, am_w1_i, am_w1_r, am_w1_x, am_w1_l, am_w1_w, va_rf_s, am_push_n, am_push_s, am_cs_0, am_cs_i, am_cs_l, am_cs_r, m_uI_K, m_uI_N, m_uI_R, m_uI_L, m_uI_I, m_uL_K, m_uL_N, m_uL_R, m_uL_I, m_uL_L, m_uR_K, m_uR_N, m_uR_I, m_uR_L, m_uR_R, true_and, and_true]
    rw [br_p hle]
    have hy : wbP w v (bkOf L s) p t := fun f hf => by
      obtain ⟨k, hk, hks, rfl⟩ := bkOf_mem.mp hf
      obtain ⟨j, hj⟩ := List.mem_iff_getElem?.mp hk
      exact hall j k (List.getElem?_eq_some_iff.mp hj).1 hj hks
    rw [tI_t hy] at hQ
    exact hQ
  | succ m ih =>
    intro i hi hall
    have hlt : ¬ nI (12 * b + L.length) ≤ nI (12 * b + i) := by rw [ni_le (by omega) (by omega)]; omega
    obtain ⟨k, hk⟩ : ∃ k, L[i]? = some k := ⟨L[i]'(by omega), List.getElem?_eq_getElem (by omega)⟩
    obtain ⟨q1, q2, q3, q4⟩ := hK.2 i k hk
    have hok := hO.2 k (List.mem_of_getElem? hk)
    have hkl := cel_lt b6 b8 hok.2.1
    have hh := fun Q => c_m_hoursTo d s b v (cel C k.2.1) M Q hL b1 b2 hs hv hv1 hv2 hkl.2.1
    have hbt := fun Q => c_m_between d (nI t) (nI t) (nI k.2.2.1) (nI k.2.2.2) M Q
    have hw := hrT_wit (w := w) (v := v) (p := p) (q := k.2.1) (h := btw t t k.2.2.1 k.2.2.2) (x := mI M 317 (cel C k.2.1)) hv1 hv2 (by have := btw_lt (f := t) ht hok.2.2.2 (Nat.le_refl _) hok.2.2.1; omega) (hG k.2.1 hok.2.1)
    rw [hX11_withBooks_15]
    simp +decide (disch := omega) only [qX11_withBooks_0, qX11_withBooks_1, lm hL, b1, hK.1, e12, q1, q2, q3, q4, hh, hbt, btw_I ht hok.2.2.2 (Nat.le_refl t) hok.2.2.1, ni_add, ni_add1, ni_in_t, ni_tn, am_w1_i, am_w1_r, am_w1_x, am_w1_l, am_w1_w, va_rf_s, am_push_n, am_push_s, am_cs_0, am_cs_i, am_cs_l, am_cs_r, m_uI_K, m_uI_N, m_uI_R, m_uI_L, m_uI_I, m_uL_K, m_uL_N, m_uL_R, m_uL_I, m_uL_L, m_uR_K, m_uR_N, m_uR_I, m_uR_L, m_uR_R, true_and, and_true]
    rw [br_n hlt]
    by_cases c : k.1 = s
    · rw [br_r (by rw [c])]
      by_cases hc : wit w v p k.2.1 (btw t t k.2.2.1 k.2.2.2)
      · rw [br_p (hw.mpr hc)]
        refine ih (i + 1) (by omega) (fun j k' hj hk' hks => ?_)
        by_cases ej : j = i
        · subst ej
          cases hk.symm.trans hk'
          exact hc
        · exact hall j k' (by omega) hk' hks
      · rw [br_n (fun z => hc (hw.mp z))]
        have hn : ¬ wbP w v (bkOf L s) p t := fun z => hc (z k.2 (bkOf_mem.mpr ⟨k, List.mem_of_getElem? hk, c, rfl⟩))
        rw [tI_f hn] at hQ
        exact hQ
    · rw [br_q (by rw [ni_eq (by omega) (by omega)]; exact c)]
      refine ih (i + 1) (by omega) (fun j k' hj hk' hks => ?_)
      by_cases ej : j = i
      · subst ej
        cases hk.symm.trans hk'
        exact absurd hks c
      · exact hall j k' (by omega) hk' hks
theorem c_m_withBooks (d s b C R v p t : Nat) (L : List Bk) (M : am_M) (Q : Option Value → am_M → Prop) (hL : Lay M) (hB : MB M b C R) (hs : s < 8) (hv : mI M 288 (8 * b + s) = nI v) (hv1 : 1 ≤ v) (hv2 : v ≤ 4) (hp : vld C R p) (ht : t < 48) (hK : BkM M b C L) (hO : bkOK C R L)
    (hQ : ∀ M', onlyG M M' → Q (some (.int (tI (wbP (mW_ M b C R s) v (bkOf L s) p t)))) M') : am_E am_P0 (d + 4) 246 [.ref 277, .int (nI s), .int (nI (cel C p)), .int (nI t)] M Q := by
  have e12 : 12 * nI b = nI (12 * b) := by rw [show (12 : Int32) = nI 12 from rfl, ni_mul]
  rw [eX11_withBooks]
  simp +decide only [qX11_withBooks_0, qX11_withBooks_1, lm hL, am_w1_i, am_w1_r, am_w1_x, am_w1_l, am_w1_w, va_rf_s, am_push_n, am_push_s, am_cs_0, am_cs_i, am_cs_l, am_cs_r, m_uI_K, m_uI_N, m_uI_R, m_uI_L, m_uI_I, m_uL_K, m_uL_N, m_uL_R, m_uL_I, m_uL_L, m_uR_K, m_uR_N, m_uR_I, m_uR_L, m_uR_R, true_and, and_true]
  refine c_m_goes d s b C R p M _ hL hB hs hp (fun M1 g1 h1 => ?_)
  have G1 := onlyG_S g1
  have L1 := oS_Lay G1 hL
  have B1 := MB_T hB G1 tld_G
  simp +decide only [qX11_withBooks_0, qX11_withBooks_1, lm L1, B1.1, e12, am_w1_i, am_w1_r, am_w1_x, am_w1_l, am_w1_w, va_rf_s, am_push_n, am_push_s, am_cs_0, am_cs_i, am_cs_l, am_cs_r, m_uI_K, m_uI_N, m_uI_R, m_uI_L, m_uI_I, m_uL_K, m_uL_N, m_uL_R, m_uL_I, m_uL_L, m_uR_K, m_uR_N, m_uR_I, m_uR_L, m_uR_R, true_and, and_true]
  exact l_m_withB (d + 3) s b C R v p t L M1 Q (mW_ M b C R s) _ L1 B1 hs (by rw [G1.1 _ _ (tld_G _ _ (by unfold tld; omega))]; exact hv) hv1 hv2 ht (BkM_T hK G1 tld_G) hO h1 (hQ M1 g1) L.length 0 (by omega) (fun j k hj => by omega)
/-- hours between two hours -/
def hd_ (a b : Nat) : Nat := if a < b then b - a else a - b
def gowY (w : Nat → Prop) (v : Nat) (y y' : Sy) : Prop := wit w v y.2.1 y'.2.1 (hd_ y.1 y'.1)
def goodY (w : Nat → Prop) (v : Nat) (snd : Nat → Bool → Prop) (B : List Fct) (y : Sy) : Prop := snd y.2.1 y.2.2 ∧ wbP w v B y.2.1 y.1
def sP (a j : Nat) : Prop := sFG a j ∨ a = 322 ∨ a = 323 ∨ a = 325 ∨ (a = 277 ∧ j = 65)
theorem tld_P (a j : Nat) (h : tld a j) : ¬ sP a j := fun z => by
  rcases z with z | z
  · exact tld_FG a j h z
  · unfold tld at h; omega
/-- the hours of the sayings -/
def HrM (M : am_M) (Y : List Sy) : Prop := mI M 277 65 = nI Y.length ∧ ∀ i y, Y[i]? = some y → mI M 322 i = nI y.1
theorem l_m_pairs1 (d s b C R : Nat) (Y : List Sy) (M0 : am_M) (Q : Option Value → am_M → Prop) (hL : Lay M0) (hb : mI M0 277 12 = nI b) (hb2 : b < 2) (hC : C ≤ 16) (hR : R ≤ 16) (hs : s < 8) (hY : SyM M0 b C R s Y) (v3 v4 : Value)
    (hQ : ∀ M', oS sP M0 M' → HrM M' Y → am_P am_P0 (d + 1) (am_look tX11_pairs) 52 [.ref 277, .int (nI s), .int (nI 48), v3, v4] [] M' Q) :
    ∀ (m t : Nat), t + m = 48 → ∀ (M : am_M), oS sP M0 M → HrM M (bef Y t) → am_P am_P0 (d + 1) (am_look tX11_pairs) 7 [.ref 277, .int (nI s), .int (nI t), v3, v4] [] M Q := by
  intro m
  induction m with
  | zero =>
    intro t ht M hM hH
    have e : t = 48 := by omega
    subst e
    rw [bef_all (fun y hy => (hY.2.1 y hy).1)] at hH
    have h0 := hQ M hM hH
    rw [hX11_pairs_7]
    simp +decide only [qX11_pairs_0, qX11_pairs_1, qX11_pairs_2, qX11_pairs_3, lm (oS_Lay hM hL), am_w1_i, am_w1_r, am_w1_x, am_w1_l, am_w1_w, va_rf_s, am_push_n, am_push_s, am_cs_0, am_cs_i, am_cs_l, am_cs_r, m_uI_K, m_uI_N, m_uI_R, m_uI_L, m_uI_I, m_uL_K, m_uL_N, m_uL_R, m_uL_I, m_uL_L, m_uR_K, m_uR_N, m_uR_I, m_uR_L, m_uR_R, true_and, and_true, true_implies, false_implies] at h0 ⊢
    exact h0
  | succ m ih =>
    intro t ht M hM hH
    have hLM := oS_Lay hM hL
    have hbM : mI M 277 12 = nI b := by rw [hM.1 _ _ (tld_P _ _ (by unfold tld; omega))]; exact hb
    have hYM := SyM_S hY hM (fun a j q => tld_P a j (by unfold tld; omega))
    have hlt : ¬ (48 : Int32) ≤ nI t := by rw [show (48 : Int32) = nI 48 from rfl, ni_le (by omega) (by omega)]; omega
    have hsa := fun Q => c_m_said d s t M Q hLM b hbM hb2 hs (by omega)
    have hlen := bef_len hYM.1 t
    rw [hX11_pairs_7]
    rcases hYM.2.2 t (by omega) with ⟨y, hy, hyt, hm1, hm2⟩ | ⟨hno, hm1⟩
    · have hv := (hYM.2.1 y hy).2
      have hcl := cel_lt hC hR hv
      have hbt := bef_t hYM.1 hy hyt
      have hn1 : ¬ nI (cel C y.2.1) = -1 := nI_m1 (by omega)
      simp +decide (disch := omega) only [qX11_pairs_0, qX11_pairs_1, qX11_pairs_2, qX11_pairs_3, lm hLM, hsa, hm1, hH.1, ni_in_t, ni_tn, ni_add1, am_w1_i, am_w1_r, am_w1_x, am_w1_l, am_w1_w, va_rf_s, am_push_n, am_push_s, am_cs_0, am_cs_i, am_cs_l, am_cs_r, m_uI_K, m_uI_N, m_uI_R, m_uI_L, m_uI_I, m_uL_K, m_uL_N, m_uL_R, m_uL_I, m_uL_L, m_uR_K, m_uR_N, m_uR_I, m_uR_L, m_uR_R, true_and, and_true, false_and, if_false]
      rw [br_n hlt, br_q hn1]
      have g1 : oS sP M (uI (uI M 322 (bef Y t).length (nI t)) 277 65 (nI ((bef Y t).length + 1))) := ⟨fun a j h => by
        rw [m_uI_I, if_neg (fun z => h (Or.inr (Or.inr (Or.inr (Or.inr z))))), m_uI_I, if_neg (fun z => h (Or.inr (Or.inl z.1)))], fun _ _ => rfl, fun _ _ => rfl, rfl⟩
      refine ih (t + 1) (by omega) _ (oS_trans hM g1) ?_
      rw [hbt]
      refine ⟨?_, fun i y' hi => ?_⟩
      · rw [m_uI_I, if_pos ⟨rfl, rfl⟩, List.length_append]
        rfl
      · have r1 : ∀ x n i, mI (uI (uI M 322 (bef Y t).length x) 277 65 n) 322 i = if i = (bef Y t).length then x else mI M 322 i := fun x n i => by simp [m_uI_I]
        rw [r1]
        by_cases e : i = (bef Y t).length
        · subst e
          rw [List.getElem?_append_right (Nat.le_refl _), Nat.sub_self] at hi
          cases hi
          rw [if_pos rfl, hyt]
        · have hil := (List.getElem?_eq_some_iff.mp hi).1
          rw [List.length_append] at hil
          have hil2 : i < (bef Y t).length := by
            have : [y].length = 1 := rfl
            omega
          rw [List.getElem?_append_left hil2] at hi
          rw [if_neg e]
          exact hH.2 i y' hi
    · simp +decide (disch := omega) only [qX11_pairs_0, qX11_pairs_1, qX11_pairs_2, qX11_pairs_3, lm hLM, hsa, hm1, ni_add1, am_w1_i, am_w1_r, am_w1_x, am_w1_l, am_w1_w, va_rf_s, am_push_n, am_push_s, am_cs_0, am_cs_i, am_cs_l, am_cs_r, m_uI_K, m_uI_N, m_uI_R, m_uI_L, m_uI_I, m_uL_K, m_uL_N, m_uL_R, m_uL_I, m_uL_L, m_uR_K, m_uR_N, m_uR_I, m_uR_L, m_uR_R, true_and, and_true, not_true_eq_false, not_false_eq_true, true_implies, false_implies]
      rw [br_n hlt]
      refine ih (t + 1) (by omega) M hM ?_
      rw [bef_f hno]
      exact hH
