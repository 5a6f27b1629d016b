/-! the model's books as facts -/
/-- ship, place, from, to -/
abbrev Bk := Nat × Nat × Nat × Nat
def bkOf (L : List Bk) (s : Nat) : List Fct := (L.filter (fun k => k.1 == s)).map (fun k => k.2)
def bkOK (C R : Nat) (L : List Bk) : Prop := L.length ≤ 12 ∧ ∀ k, k ∈ L → k.1 < 8 ∧ vld C R k.2.1 ∧ k.2.2.1 ≤ k.2.2.2 ∧ k.2.2.2 < 48
/-- the books as they lie in the model's rows -/
def BkM (M : am_M) (b C : Nat) (L : List Bk) : Prop := mI M 294 b = nI L.length ∧ ∀ i k, L[i]? = some k → mI M 295 (12 * b + i) = nI k.1 ∧ mI M 296 (12 * b + i) = nI (cel C k.2.1) ∧ mI M 297 (12 * b + i) = nI k.2.2.1 ∧ mI M 298 (12 * b + i) = nI k.2.2.2
theorem BkM_S {M M' : am_M} {b C : Nat} {L : List Bk} {S : Nat → Nat → Prop} (h : BkM M b C L) (hS : oS S M M') (hd : ∀ a j, 294 ≤ a → a ≤ 298 → ¬ S a j) : BkM M' b C L := by
  refine ⟨by rw [hS.1 _ _ (hd _ _ (by omega) (by omega))]; exact h.1, fun i k hk => ?_⟩
  obtain ⟨q1, q2, q3, q4⟩ := h.2 i k hk
  exact ⟨by rw [hS.1 _ _ (hd _ _ (by omega) (by omega))]; exact q1, by rw [hS.1 _ _ (hd _ _ (by omega) (by omega))]; exact q2, by rw [hS.1 _ _ (hd _ _ (by omega) (by omega))]; exact q3, by rw [hS.1 _ _ (hd _ _ (by omega) (by omega))]; exact q4⟩
theorem bkOf_take {L : List Bk} {s i : Nat} {k : Bk} (h : L[i]? = some k) : bkOf (L.take (i + 1)) s = if k.1 = s then bkOf (L.take i) s ++ [k.2] else bkOf (L.take i) s := by
  have e : L.take (i + 1) = L.take i ++ [k] := by
    rw [List.take_add_one, h]
    rfl
  unfold bkOf
  rw [e, List.filter_append, List.map_append]
  by_cases c : k.1 = s
  · rw [if_pos c]
    simp [c]
  · rw [if_neg c]
    simp [c]
theorem bkOf_len (L : List Bk) (s : Nat) : (bkOf L s).length ≤ L.length := by
  unfold bkOf
  rw [List.length_map]
  exact List.length_filter_le _ _
/-- one more fact -/
theorem FcM_put {M : am_M} {C R : Nat} {F : List Fct} {f : Fct} (h : FcM M C R F) (hl : F.length < 120) (hf : vld C R f.1 ∧ f.2.1 ≤ f.2.2 ∧ f.2.2 < 48) : FcM (uI (uI (uI (uI M 319 F.length (nI (cel C f.1))) 320 F.length (nI f.2.1)) 321 F.length (nI f.2.2)) 277 60 (nI (F.length + 1))) C R (F ++ [f]) ∧ oS sF M (uI (uI (uI (uI M 319 F.length (nI (cel C f.1))) 320 F.length (nI f.2.1)) 321 F.length (nI f.2.2)) 277 60 (nI (F.length + 1))) := by
  obtain ⟨h1, h2, h3⟩ := h
  refine ⟨⟨?_, by rw [List.length_append]; exact hl, fun i g hg => ?_⟩, fun a j hS => ?_, fun _ _ => rfl, fun _ _ => rfl, rfl⟩
  · rw [m_uI_I, if_pos ⟨rfl, rfl⟩, List.length_append]
    rfl
  · have r1 : ∀ x y z n i, mI (uI (uI (uI (uI M 319 F.length x) 320 F.length y) 321 F.length z) 277 60 n) 319 i = if i = F.length then x else mI M 319 i := fun x y z n i => by simp [m_uI_I]
    have r2 : ∀ x y z n i, mI (uI (uI (uI (uI M 319 F.length x) 320 F.length y) 321 F.length z) 277 60 n) 320 i = if i = F.length then y else mI M 320 i := fun x y z n i => by simp [m_uI_I]
    have r3 : ∀ x y z n i, mI (uI (uI (uI (uI M 319 F.length x) 320 F.length y) 321 F.length z) 277 60 n) 321 i = if i = F.length then z else mI M 321 i := fun x y z n i => by simp [m_uI_I]
    rw [r1, r2, r3]
    by_cases e : i = F.length
    · subst e
      rw [List.getElem?_append_right (Nat.le_refl _), Nat.sub_self] at hg
      cases hg
      rw [if_pos rfl, if_pos rfl, if_pos rfl]
      exact ⟨hf, rfl, rfl, rfl⟩
    · have hil := (List.getElem?_eq_some_iff.mp hg).1
      rw [List.length_append] at hil
      have hil2 : i < F.length := by
        have : [f].length = 1 := rfl
        omega
      rw [List.getElem?_append_left hil2] at hg
      rw [if_neg e, if_neg e, if_neg e]
      exact h3 i g hg
  · unfold sF at hS
    rw [m_uI_I, if_neg (fun z => hS (Or.inr (Or.inr (Or.inr z)))), m_uI_I, if_neg (fun z => hS (Or.inr (Or.inr (Or.inl z.1)))), m_uI_I, if_neg (fun z => hS (Or.inr (Or.inl z.1))), m_uI_I, if_neg (fun z => hS (Or.inl z.1))]
theorem MB_S {M M' : am_M} {b C R : Nat} {S : Nat → Nat → Prop} (h : MB M b C R) (g : oS S M M') (hd : ∀ a j, (a = 277 ∧ j = 12) ∨ a = 279 ∨ a = 280 → ¬ S a j) : MB M' b C R := by
  obtain ⟨h1, h2, h3, h4, h5⟩ := h
  exact ⟨by rw [g.1 _ _ (hd _ _ (Or.inl ⟨rfl, rfl⟩))]; exact h1, h2, by rw [g.1 _ _ (hd _ _ (Or.inr (Or.inl rfl)))]; exact h3, by rw [g.1 _ _ (hd _ _ (Or.inr (Or.inr rfl)))]; exact h4, h5⟩
theorem l_m_addBooks (d s b C R : Nat) (L : List Bk) (F : List Fct) (M0 : am_M) (Q : Option Value → am_M → Prop) (hL : Lay M0) (hb : mI M0 277 12 = nI b) (hb2 : b < 2) (hs : s < 8) (hK : BkM M0 b C L) (hO : bkOK C R L) (hFl : F.length + 12 ≤ 120)
    (hQ : ∀ M', oS sF M0 M' → FcM M' C R (F ++ bkOf L s) → Q none M') :
    ∀ (m i : Nat), i + m = L.length → ∀ (M : am_M), oS sF M0 M → FcM M C R (F ++ bkOf (L.take i) s) → am_P am_P0 (d + 1) (am_look tX11_addBooks) 8 [.ref 277, .int (nI s), .int (nI (12 * b + i))] [] M Q := by
  have e12 : 12 * nI b = nI (12 * b) := by rw [show (12 : Int32) = nI 12 from rfl, ni_mul]
  have hd : ∀ a j, 294 ≤ a → a ≤ 298 → ¬ sF a j := fun a j q1 q2 h => by unfold sF at h; omega
  have h12 := hO.1
  intro m
  induction m with
  | zero =>
    intro i hi M hM hF
    have e : i = L.length := by omega
    subst e
    have hLM := oS_Lay hM hL
    have hb' : mI M 277 12 = nI b := by rw [hM.1 _ _ (by unfold sF; omega)]; exact hb
    have hKM := BkM_S hK hM hd
    have hle : nI (12 * b + L.length) ≤ nI (12 * b + L.length) := (ni_le (by omega) (by omega)).mpr (Nat.le_refl _)
    rw [hX11_addBooks_8]
    simp +decide (disch := omega) only [qX11_addBooks, lm hLM, hb', hKM.1, e12, ni_add, ni_in_t, ni_tn, am_w1_i, am_w1_r, am_w1_x, am_w1_l, am_w1_w, va_rf_s, am_push_n, am_push_s, am_cs_0, am_cs_i, am_cs_l, am_cs_r, m_uI_K, m_uI_N, m_uI_R, m_uI_L, m_uI_I, m_uL_K, m_uL_N, m_uL_R, m_uL_I, m_uL_L, m_uR_K, m_uR_N, m_uR_I, m_uR_L, m_uR_R, true_and, and_true]
    rw [br_p hle]
    rw [List.take_length] at hF
    exact hQ M hM hF
  | succ m ih =>
    intro i hi M hM hF
    have hLM := oS_Lay hM hL
    have hb' : mI M 277 12 = nI b := by rw [hM.1 _ _ (by unfold sF; omega)]; exact hb
    have hKM := BkM_S hK hM hd
    have hlt : ¬ nI (12 * b + L.length) ≤ nI (12 * b + i) := by rw [ni_le (by omega) (by omega)]; omega
    obtain ⟨k, hk⟩ : ∃ k, L[i]? = some k := ⟨L[i]'(by omega), List.getElem?_eq_getElem (by omega)⟩
    obtain ⟨q1, q2, q3, q4⟩ := hKM.2 i k hk
    have hok := hO.2 k (List.mem_of_getElem? hk)
    have hlen := bkOf_len (L.take i) s
    rw [List.length_take] at hlen
    have hFn : (F ++ bkOf (L.take i) s).length < 120 := by rw [List.length_append]; omega
    have hfa := fun Q => c_m_fact d (nI (cel C k.2.1)) (nI k.2.2.1) (nI k.2.2.2) M Q hLM (F ++ bkOf (L.take i) s).length hF.1 hFn
    rw [hX11_addBooks_8]
    simp +decide (disch := omega) only [qX11_addBooks, lm hLM, hb', hKM.1, e12, q1, q2, q3, q4, hfa, ni_add, ni_add1, ni_in_t, ni_tn, am_w1_i, am_w1_r, am_w1_x, am_w1_l, am_w1_w, va_rf_s, am_push_n, am_push_s, am_cs_0, am_cs_i, am_cs_l, am_cs_r, m_uI_K, m_uI_N, m_uI_R, m_uI_L, m_uI_I, m_uL_K, m_uL_N, m_uL_R, m_uL_I, m_uL_L, m_uR_K, m_uR_N, m_uR_I, m_uR_L, m_uR_R, true_and, and_true]
    rw [br_n hlt]
    have ht := bkOf_take (s := s) hk
    by_cases c : k.1 = s
    · rw [br_r (by rw [c])]
      rw [if_pos c] at ht
      obtain ⟨p1, p2⟩ := FcM_put (f := k.2) hF hFn hok.2
      refine ih (i + 1) (by omega) _ (oS_trans hM p2) ?_
      rw [ht, ← List.append_assoc]
      exact p1
    · rw [br_q (by rw [ni_eq (by omega) (by omega)]; exact c)]
      refine ih (i + 1) (by omega) M hM ?_
      rw [ht, if_neg c]
      exact hF
theorem c_m_addBooks (d s b C R : Nat) (L : List Bk) (F : List Fct) (M : am_M) (Q : Option Value → am_M → Prop) (hL : Lay M) (hb : mI M 277 12 = nI b) (hb2 : b < 2) (hs : s < 8) (hK : BkM M b C L) (hO : bkOK C R L) (hFl : F.length + 12 ≤ 120) (hF : FcM M C R F)
    (hQ : ∀ M', oS sF M M' → FcM M' C R (F ++ bkOf L s) → Q none M') : am_E am_P0 (d + 1) 241 [.ref 277, .int (nI s)] M Q := by
  have e12 : 12 * nI b = nI (12 * b) := by rw [show (12 : Int32) = nI 12 from rfl, ni_mul]
  rw [eX11_addBooks]
  simp +decide only [qX11_addBooks, lm hL, hb, e12, am_w1_i, am_w1_r, am_w1_x, am_w1_l, am_w1_w, va_rf_s, am_push_n, am_push_s, am_cs_0, am_cs_i, am_cs_l, am_cs_r, m_uI_K, m_uI_N, m_uI_R, m_uI_L, m_uI_I, m_uL_K, m_uL_N, m_uL_R, m_uL_I, m_uL_L, m_uR_K, m_uR_N, m_uR_I, m_uR_L, m_uR_R, true_and, and_true]
  exact l_m_addBooks d s b C R L F M Q hL hb hb2 hs hK hO hFl hQ L.length 0 (by omega) M (oS_refl _ _) (by rw [List.take_zero]; unfold bkOf; simpa using hF)
theorem c_m_booksFit (d s b C R v : Nat) (L : List Bk) (M : am_M) (Q : Option Value → am_M → Prop) (hL : Lay M) (hB : MB M b C R) (hs : s < 8) (hv : mI M 288 (8 * b + s) = nI v) (hv1 : 1 ≤ v) (hv2 : v ≤ 4) (hK : BkM M b C L) (hO : bkOK C R L)
    (hQ : ∀ M', oS (fun a j => sF a j ∨ sG a j) M M' → Q (some (.int (tI (fitP (mW_ M b C R s) v (bkOf L s))))) M') : am_E am_P0 (d + 5) 245 [.ref 277, .int (nI s)] M Q := by
  rw [eX11_booksFit]
  simp +decide only [qX11_booksFit, lm hL, am_w1_i, am_w1_r, am_w1_x, am_w1_l, am_w1_w, va_rf_s, am_push_n, am_push_s, am_cs_0, am_cs_i, am_cs_l, am_cs_r, m_uI_K, m_uI_N, m_uI_R, m_uI_L, m_uI_I, m_uL_K, m_uL_N, m_uL_R, m_uL_I, m_uL_L, m_uR_K, m_uR_N, m_uR_I, m_uR_L, m_uR_R, true_and, and_true]
  have g0 : oS sF M (uI M 277 60 0) := ⟨fun a j h => by rw [m_uI_I, if_neg (fun z => h (Or.inr (Or.inr (Or.inr z))))], fun _ _ => rfl, fun _ _ => rfl, rfl⟩
  have hF0 : FcM (uI M 277 60 0) C R [] := ⟨by rw [m_uI_I, if_pos ⟨rfl, rfl⟩]; rfl, by decide, fun i f h => by cases h⟩
  have hd1 : ∀ a j, (a = 277 ∧ j = 12) ∨ a = 279 ∨ a = 280 → ¬ sF a j := fun a j h q => by unfold sF at q; omega
  have hd2 : ∀ a j, 294 ≤ a → a ≤ 298 → ¬ sF a j := fun a j q1 q2 h => by unfold sF at h; omega
  have B0 := MB_S hB g0 hd1
  refine c_m_addBooks (d + 3) s b C R L [] (uI M 277 60 0) _ (oS_Lay g0 hL) B0.1 B0.2.1 hs (BkM_S hK g0 hd2) hO (by decide) hF0 (fun M1 g1 h1 => ?_)
  have g2 := oS_trans g0 g1
  rw [List.nil_append] at h1
  simp +decide only [qX11_booksFit, lm (oS_Lay g2 hL), am_w1_i, am_w1_r, am_w1_x, am_w1_l, am_w1_w, va_rf_s, am_push_n, am_push_s, am_cs_0, am_cs_i, am_cs_l, am_cs_r, m_uI_K, m_uI_N, m_uI_R, m_uI_L, m_uI_I, m_uL_K, m_uL_N, m_uL_R, m_uL_I, m_uL_L, m_uR_K, m_uR_N, m_uR_I, m_uR_L, m_uR_R, true_and, and_true]
  refine c_m_fit d s b C R v (bkOf L s) M1 _ (oS_Lay g2 hL) (MB_S hB g2 hd1) hs (by rw [g2.1 _ _ (by unfold sF; omega)]; exact hv) hv1 hv2 h1 (fun M2 g3 => ?_)
  have ew : mW_ M1 b C R s = mW_ M b C R s := by
    funext p
    unfold mW_
    rw [g2.1 _ _ (by unfold sF; omega), g2.1 _ _ (by unfold sF; omega)]
  rw [ew]
  simp +decide only [qX11_booksFit, am_w1_i, am_w1_r, am_w1_x, am_w1_l, am_w1_w, va_rf_s, am_push_n, am_push_s, am_cs_0, am_cs_i, am_cs_l, am_cs_r, m_uI_K, m_uI_N, m_uI_R, m_uI_L, m_uI_I, m_uL_K, m_uL_N, m_uL_R, m_uL_I, m_uL_L, m_uR_K, m_uR_N, m_uR_I, m_uR_L, m_uR_R, true_and, and_true]
  exact ⟨tI_01 _, hQ M2 (oS_trans (oS_up g2 (fun a j h => Or.inl h)) (oS_up (onlyG_S g3) (fun a j h => Or.inr h)))⟩
