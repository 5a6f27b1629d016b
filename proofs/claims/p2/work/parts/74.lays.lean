/-! the model's lays of a ship, and where it may be -/
noncomputable def kpF (K : Nat → Prop) (Y : List Sy) (i : Nat) : List Fct := (List.range i).filterMap (fun k => if dB (K k) = true then (Y[k]?).map (fun y => (y.2.1, y.1, y.1)) else none)
theorem kpF_t {K : Nat → Prop} {Y : List Sy} {i : Nat} {y : Sy} (hy : Y[i]? = some y) (hk : K i) : kpF K Y (i + 1) = kpF K Y i ++ [(y.2.1, y.1, y.1)] := by
  unfold kpF
  rw [List.range_succ, List.filterMap_append]
  simp [dB_t.mpr hk, hy]
theorem kpF_f {K : Nat → Prop} {Y : List Sy} {i : Nat} (hk : ¬ K i) : kpF K Y (i + 1) = kpF K Y i := by
  unfold kpF
  rw [List.range_succ, List.filterMap_append]
  have : dB (K i) = false := dB_f.mpr hk
  simp [this]
theorem kpF_len (K : Nat → Prop) (Y : List Sy) (i : Nat) : (kpF K Y i).length ≤ i := by
  have h := List.length_filterMap_le (fun k => if dB (K k) = true then (Y[k]?).map (fun y => ((y.2.1, y.1, y.1) : Fct)) else none) (List.range i)
  rw [List.length_range] at h
  exact h
theorem kpF_mem {K : Nat → Prop} {Y : List Sy} {n : Nat} {f : Fct} : f ∈ kpF K Y n ↔ ∃ k y, k < n ∧ K k ∧ Y[k]? = some y ∧ f = (y.2.1, y.1, y.1) := by
  unfold kpF
  rw [List.mem_filterMap]
  constructor
  · rintro ⟨k, hk, e⟩
    split at e
    · rename_i h
      rw [Option.map_eq_some_iff] at e
      obtain ⟨y, hy, e⟩ := e
      exact ⟨k, y, List.mem_range.mp hk, dB_t.mp h, hy, e.symm⟩
    · cases e
  · rintro ⟨k, y, h1, h2, h3, rfl⟩
    refine ⟨k, List.mem_range.mpr h1, ?_⟩
    rw [if_pos (dB_t.mpr h2), h3]
    rfl
def sY (a j : Nat) : Prop := sK a j ∨ a = 327
theorem tld_Y (a j : Nat) (h : tld a j) : ¬ sY a j := fun z => by
  rcases z with z | z
  · exact tld_K a j h z
  · unfold tld at h; omega
/-- the facts of a ship that is laid: books and what is kept -/
noncomputable def fcY (w : Nat → Prop) (v : Nat) (snd : Nat → Bool → Prop) (B : List Fct) (Y : List Sy) : List Fct := B ++ kpF (fun k => fitP w v B ∧ keptY w v snd B Y k) Y Y.length
theorem KpM_S {w : Nat → Prop} {v : Nat} {snd : Nat → Bool → Prop} {B : List Fct} {Y : List Sy} {M M' : am_M} (h : KpM w v snd B Y M) (hk : ∀ a j, (a = 277 ∧ (j = 64 ∨ j = 65 ∨ j = 66)) ∨ (322 ≤ a ∧ a ≤ 325) → mI M' a j = mI M a j) : KpM w v snd B Y M' := by
  obtain ⟨h1, h2, h3, h4, h5⟩ := h
  refine ⟨PrM_S h1 (hk _ _ (by omega)) (fun j => hk _ _ (by omega)) (fun j => hk _ _ (by omega)) (fun j => hk _ _ (by omega)), by rw [hk _ _ (by omega)]; exact h2, fun q => by rw [hk _ _ (by omega)]; exact h3 q, fun q => by rw [hk _ _ (by omega)]; exact h4 q, fun k q => by rw [hk _ _ (by omega)]; exact h5 k q⟩
theorem l_m_lays1 (d s b C R v : Nat) (w : Nat → Prop) (snd : Nat → Bool → Prop) (B : List Fct) (Y : List Sy) (M0 : am_M) (Q : Option Value → am_M → Prop) (hL : Lay M0) (hB : MB M0 b C R) (hs : s < 8) (hY : SyM M0 b C R s Y) (hl : Y.length ≤ 48) (hBl : B.length ≤ 12) (hK : KpM w v snd B Y M0) (v3 : Value)
    (hQ : ∀ M', oS sF M0 M' → FcM M' C R (fcY w v snd B Y) → am_P am_P0 (d + 1) (am_look tX11_lays_) 67 [.ref 277, .int (nI s), .int (nI Y.length), v3] [] M' Q) :
    ∀ (m i : Nat), i + m = Y.length → ∀ (M : am_M), oS sF M0 M → FcM M C R (B ++ kpF (fun k => fitP w v B ∧ keptY w v snd B Y k) Y i) → am_P am_P0 (d + 1) (am_look tX11_lays_) 17 [.ref 277, .int (nI s), .int (nI i), v3] [] M Q := by
  intro m
  induction m with
  | zero =>
    intro i hi M hM hF
    have e : i = Y.length := by omega
    subst e
    have hn : mI M 277 65 = nI Y.length := by rw [hM.1 _ _ (by unfold sF; omega)]; exact hK.1.1.1
    have hle : nI Y.length ≤ nI Y.length := (ni_le (by omega) (by omega)).mpr (Nat.le_refl _)
    have h0 := hQ M hM hF
    rw [hX11_lays__17]
    simp +decide only [qX11_lays__0, qX11_lays__1, lm (oS_Lay hM hL), hn, am_w1_i, am_w1_r, am_w1_x, am_w1_l, am_w1_w, va_rf_s, am_push_n, am_push_s, am_cs_0, am_cs_i, am_cs_l, am_cs_r, m_uI_K, m_uI_N, m_uI_R, m_uI_L, m_uI_I, m_uL_K, m_uL_N, m_uL_R, m_uL_I, m_uL_L, m_uR_K, m_uR_N, m_uR_I, m_uR_L, m_uR_R, true_and, and_true] at h0 ⊢
    rw [br_p hle]
    exact h0
  | succ m ih =>
    intro i hi M hM hF
    have hLM := oS_Lay hM hL
    have hBM := MB_T hB hM tld_F
    have hYM := SyM_S hY hM (fun a j q => tld_F a j (by unfold tld; omega))
    have hKM : KpM w v snd B Y M := KpM_S hK (fun a j q => hM.1 _ _ (by unfold sF; omega))
    have hn : mI M 277 65 = nI Y.length := hKM.1.1.1
    have hlt : ¬ nI Y.length ≤ nI i := by rw [ni_le (by omega) (by omega)]; omega
    obtain ⟨y, hy⟩ : ∃ y, Y[i]? = some y := ⟨Y[i]'(by omega), List.getElem?_eq_getElem (by omega)⟩
    obtain ⟨y1, y2, y3, y4⟩ := SyM_at hYM (List.mem_of_getElem? hy)
    have hk := hKM.2.2.2.2 i (by omega)
    have hh := hKM.1.1.2 i y hy
    have hsa := fun Q => c_m_said d s y.1 M Q hLM b hBM.1 hBM.2.1 hs y1
    have hlen : (B ++ kpF (fun k => fitP w v B ∧ keptY w v snd B Y k) Y i).length < 120 := by
      have := kpF_len (fun k => fitP w v B ∧ keptY w v snd B Y k) Y i
      rw [List.length_append]; omega
    have hfa := fun Q => c_m_fact d (nI (cel C y.2.1)) (nI y.1) (nI y.1) M Q hLM (B ++ kpF (fun k => fitP w v B ∧ keptY w v snd B Y k) Y i).length hF.1 hlen
    rw [hX11_lays__17]
    simp +decide (disch := omega) only [qX11_lays__0, qX11_lays__1, lm hLM, hn, hk, hh, hsa, y3, hfa, ni_in_t, ni_tn, ni_add1, am_w1_i, am_w1_r, am_w1_x, am_w1_l, am_w1_w, va_rf_s, am_push_n, am_push_s, am_cs_0, am_cs_i, am_cs_l, am_cs_r, m_uI_K, m_uI_N, m_uI_R, m_uI_L, m_uI_I, m_uL_K, m_uL_N, m_uL_R, m_uL_I, m_uL_L, m_uR_K, m_uR_N, m_uR_I, m_uR_L, m_uR_R, true_and, and_true]
    rw [br_n hlt]
    by_cases c : fitP w v B ∧ keptY w v snd B Y i
    · rw [tI_t c, br_n (by decide)]
      obtain ⟨p1, p2⟩ := FcM_put (f := (y.2.1, y.1, y.1)) hF hlen ⟨y2, Nat.le_refl _, y1⟩
      dsimp only at p1 p2
      refine ih (i + 1) (by omega) _ (oS_trans hM p2) ?_
      rw [kpF_t hy c, ← List.append_assoc]
      exact p1
    · rw [tI_f c, br_p rfl]
      refine ih (i + 1) (by omega) M hM ?_
      rw [kpF_f c]
      exact hF
/-- how far each place is from each fact -/
def FrM (M : am_M) (C R : Nat) (w : Nat → Prop) (v : Nat) (F : List Fct) (n : Nat) : Prop := ∀ k f q, k < n → F[k]? = some f → vld C R q → ∀ h, h < 1000 → (mI M 327 (256 * k + cel C q) ≤ nI h ↔ wit w v f.1 q h)
theorem l_m_lays3 (d s b C R v i : Nat) (w : Nat → Prop) (F : List Fct) (f : Fct) (M0 : am_M) (Q : Option Value → am_M → Prop) (hL : Lay M0) (hB : MB M0 b C R) (hs : s < 8) (hv : mI M0 288 (8 * b + s) = nI v) (hv1 : 1 ≤ v) (hv2 : v ≤ 4) (hi : i < 60) (hf : F[i]? = some f) (hG : GoesP M0 C R w f.1) (hFr : FrM M0 C R w v F i)
    (hQ : ∀ M' v3, oS (fun a _ => a = 327) M0 M' → FrM M' C R w v F (i + 1) → am_P am_P0 (d + 1) (am_look tX11_lays_) 69 [.ref 277, .int (nI s), .int (nI i + 1), .int v3] [] M' Q) :
    ∀ (m c : Nat), c + m = C * R → ∀ (M : am_M), oS (fun a _ => a = 327) M0 M → (∀ j, ¬ (256 * i ≤ j ∧ j < 256 * i + c) → mI M 327 j = mI M0 327 j) → (∀ q, vld C R q → cel C q < c → ∀ h, h < 1000 → (mI M 327 (256 * i + cel C q) ≤ nI h ↔ wit w v f.1 q h)) → am_P am_P0 (d + 1) (am_look tX11_lays_) 90 [.ref 277, .int (nI s), .int (nI i), .int (nI c)] [] M Q := by
  have hB' := hB
  obtain ⟨b1, b2, b3, b4, b5, b6, b7, b8⟩ := hB'
  have hcr : C * R ≤ 16 * 16 := Nat.mul_le_mul b6 b8
  have nT : ∀ a j, tld a j → ¬ (fun a (_ : Nat) => a = 327) a j := fun a j h z => by unfold tld at h; have z' : a = 327 := z; omega
  intro m
  induction m with
  | zero =>
    intro c hc M hM hk hm
    have e : c = C * R := by omega
    subst e
    have hLM := oS_Lay hM hL
    have hBM := MB_T hB hM nT
    have hce := fun Q => c_m_cells d M Q hLM b C R hBM.1 hBM.2.1 hBM.2.2.1 hBM.2.2.2.1
    have hle : nI (C * R) ≤ nI (C * R) := (ni_le (by omega) (by omega)).mpr (Nat.le_refl _)
    rw [hX11_lays__90]
    simp +decide only [qX11_lays__0, qX11_lays__1, lm hLM, hce, am_w1_i, am_w1_r, am_w1_x, am_w1_l, am_w1_w, va_rf_s, am_push_n, am_push_s, am_cs_0, am_cs_i, am_cs_l, am_cs_r, m_uI_K, m_uI_N, m_uI_R, m_uI_L, m_uI_I, m_uL_K, m_uL_N, m_uL_R, m_uL_I, m_uL_L, m_uR_K, m_uR_N, m_uR_I, m_uR_L, m_uR_R, true_and, and_true]
    rw [br_p hle]
    refine hQ M _ hM (fun k f' q hk' hf' hq h hh => ?_)
    have hql := cel_lt b6 b8 hq
    by_cases ek : k = i
    · subst ek
      cases hf.symm.trans hf'
      exact hm q hq hql.1 h hh
    · rw [hk _ (by omega)]
      exact hFr k f' q (by omega) hf' hq h hh
  | succ m ih =>
    intro c hc M hM hk hm
    have hLM := oS_Lay hM hL
    have hBM := MB_T hB hM nT
    have hce := fun Q => c_m_cells d M Q hLM b C R hBM.1 hBM.2.1 hBM.2.2.1 hBM.2.2.2.1
    have hvM : mI M 288 (8 * b + s) = nI v := by rw [hM.1 _ _ (by omega)]; exact hv
    have hlt : ¬ nI (C * R) ≤ nI c := by rw [ni_le (by omega) (by omega)]; omega
    have hh := fun Q => c_m_hoursTo d s b v c M Q hLM hBM.1 hBM.2.1 hs hvM hv1 hv2 (by omega)
    have e256 : 256 * nI i + nI c = nI (256 * i + c) := by rw [show (256 : Int32) = nI 256 from rfl, ni_mul, ni_add]
    rw [hX11_lays__90]
    simp +decide (disch := omega) only [qX11_lays__0, qX11_lays__1, lm hLM, hce, hh, e256, ni_in_t, ni_tn, ni_add1, am_w1_i, am_w1_r, am_w1_x, am_w1_l, am_w1_w, va_rf_s, am_push_n, am_push_s, am_cs_0, am_cs_i, am_cs_l, am_cs_r, m_uI_K, m_uI_N, m_uI_R, m_uI_L, m_uI_I, m_uL_K, m_uL_N, m_uL_R, m_uL_I, m_uL_L, m_uR_K, m_uR_N, m_uR_I, m_uR_L, m_uR_R, true_and, and_true]
    rw [br_n hlt]
    have g1 : oS (fun a _ => a = 327) M (uI M 327 (256 * i + c) (hrT (mI M 317 c) v)) := ⟨fun a k h => by rw [m_uI_I, if_neg (fun q => h q.1)], fun _ _ => rfl, fun _ _ => rfl, rfl⟩
    refine ih (c + 1) (by omega) _ (oS_trans hM g1) (fun j hj => ?_) (fun q hq hqc h hh' => ?_)
    · rw [m_uI_I, if_neg (by omega)]
      exact hk j (by omega)
    · rw [m_uI_I]
      by_cases eq : cel C q = c
      · rw [if_pos ⟨rfl, by omega⟩]
        have h17 : mI M 317 c = mI M0 317 c := hM.1 _ _ (by omega)
        rw [h17, ← eq]
        exact hrT_wit hv1 hv2 hh' (hG q hq)
      · rw [if_neg (by omega)]
        exact hm q hq (by omega) h hh'
