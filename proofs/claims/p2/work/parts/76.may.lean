/-! the model: where a ship may be -/
def mayY (w : Nat → Prop) (v : Nat) (snd : Nat → Bool → Prop) (B : List Fct) (Y : List Sy) (q t : Nat) : Prop := fitP w v B ∧ w q ∧ ∀ f, f ∈ fcY w v snd B Y → wit w v f.1 q (btw t t f.2.1 f.2.2)
theorem l_m_mayBe (d s C R v q t : Nat) (w : Nat → Prop) (F : List Fct) (M : am_M) (Q : Option Value → am_M → Prop) (hL : Lay M) (hF : FcM M C R F) (hFr : FrM M C R w v F F.length) (hl : F.length ≤ 60) (hC : C ≤ 16) (hR : R ≤ 16) (hq : vld C R q) (ht : t < 48) :
    ∀ (m i : Nat), i + m = F.length → (∀ k f, k < i → F[k]? = some f → wit w v f.1 q (btw t t f.2.1 f.2.2)) → (am_P am_P0 (d + 1) (am_look tX11_mayBe) 21 [.ref 277, .int (nI s), .int (nI (cel C q)), .int (nI t), .int (nI i)] [] M Q ↔ Q (some (.int (tI (∀ f, f ∈ F → wit w v f.1 q (btw t t f.2.1 f.2.2))))) M) := by
  have hql := cel_lt hC hR hq
  intro m
  induction m with
  | zero =>
    intro i hi hall
    have e : i = F.length := by omega
    subst e
    have hle : nI F.length ≤ nI F.length := (ni_le (by omega) (by omega)).mpr (Nat.le_refl _)
    rw [hX11_mayBe_21]
    simp +decide only [qX11_mayBe_0, qX11_mayBe_1, lm hL, hF.1, am_w1_i, am_w1_r, am_w1_x, am_w1_l, am_w1_w, va_rf_s, am_push_n, am_push_s, am_cs_0, am_cs_i, am_cs_l, am_cs_r, m_uI_K, m_uI_N, m_uI_R, m_uI_L, m_uI_I, m_uL_K, m_uL_N, m_uL_R, m_uL_I, m_uL_L, m_uR_K, m_uR_N, m_uR_I, m_uR_L, m_uR_R, true_and, and_true]
    rw [br_p hle, tI_t (fun f hf => by
      obtain ⟨k, hk⟩ := List.mem_iff_getElem?.mp hf
      exact hall k f (List.getElem?_eq_some_iff.mp hk).1 hk)]
  | succ m ih =>
    intro i hi hall
    have hlt : ¬ nI F.length ≤ nI i := by rw [ni_le (by omega) (by omega)]; omega
    obtain ⟨f, hf⟩ : ∃ f, F[i]? = some f := ⟨F[i]'(by omega), List.getElem?_eq_getElem (by omega)⟩
    obtain ⟨⟨fv, fo, ft⟩, fc, ff, fg⟩ := hF.2.2 i f hf
    have hbt := fun Q => c_m_between d (nI t) (nI t) (nI f.2.1) (nI f.2.2) M Q
    have e256 : 256 * nI i + nI (cel C q) = nI (256 * i + cel C q) := by rw [show (256 : Int32) = nI 256 from rfl, ni_mul, ni_add]
    have hw := hFr i f q (by omega) hf hq (btw t t f.2.1 f.2.2) (by have := btw_lt (f := t) ht ft (Nat.le_refl _) fo; omega)
    rw [hX11_mayBe_21]
    simp +decide (disch := omega) only [qX11_mayBe_0, qX11_mayBe_1, lm hL, hF.1, ff, fg, hbt, btw_I ht ft (Nat.le_refl t) fo, e256, ni_in_t, ni_tn, ni_add1, am_w1_i, am_w1_r, am_w1_x, am_w1_l, am_w1_w, va_rf_s, am_push_n, am_push_s, am_cs_0, am_cs_i, am_cs_l, am_cs_r, m_uI_K, m_uI_N, m_uI_R, m_uI_L, m_uI_I, m_uL_K, m_uL_N, m_uL_R, m_uL_I, m_uL_L, m_uR_K, m_uR_N, m_uR_I, m_uR_L, m_uR_R, true_and, and_true]
    rw [br_n hlt]
    by_cases c : wit w v f.1 q (btw t t f.2.1 f.2.2)
    · rw [br_p (hw.mpr c)]
      refine ih (i + 1) (by omega) (fun k f' hk hf' => ?_)
      by_cases ek : k = i
      · subst ek
        cases hf.symm.trans hf'
        exact c
      · exact hall k f' (by omega) hf'
    · rw [br_n (fun z => c (hw.mp z)), tI_f (fun z => c (z f (List.mem_of_getElem? hf)))]
theorem fcY_len {w : Nat → Prop} {v : Nat} {snd : Nat → Bool → Prop} {B : List Fct} {Y : List Sy} (h1 : B.length ≤ 12) (h2 : Y.length ≤ 48) : (fcY w v snd B Y).length ≤ 60 := by
  have := kpF_len (fun k => fitP w v B ∧ keptY w v snd B Y k) Y Y.length
  unfold fcY
  rw [List.length_append]; omega
theorem c_m_mayBe (d s b C R v q t : Nat) (w : Nat → Prop) (snd : Nat → Bool → Prop) (B : List Fct) (Y : List Sy) (M : am_M) (Q : Option Value → am_M → Prop) (hL : Lay M) (hB : MB M b C R) (hs : s < 8) (hw : w = mW_ M b C R s) (hY : LyM M C R w v snd B Y) (h1 : B.length ≤ 12) (h2 : Y.length ≤ 48) (hq : vld C R q) (ht : t < 48) : am_E am_P0 (d + 1) 250 [.ref 277, .int (nI s), .int (nI (cel C q)), .int (nI t)] M Q ↔ Q (some (.int (tI (mayY w v snd B Y q t)))) M := by
  have hC := hB.2.2.2.2.2.1
  have hR := hB.2.2.2.2.2.2.2
  have hql := cel_lt hC hR hq
  have hwa := fun Q => c_m_isWater d s (cel C q) M Q hL b hB.1 hB.2.1 hs hql.2.1
  have hwi : (mI M 289 (8 * b + s) ≤ mI M 315 (cel C q)) ↔ w q := by
    rw [hw]
    unfold mW_
    exact ⟨fun z => ⟨hq, z⟩, fun z => z.2⟩
  have hbw := bI_tI hwi
  have hlo := l_m_mayBe d s C R v q t w (fcY w v snd B Y) M Q hL hY.2.1 hY.2.2 (fcY_len h1 h2) hC hR hq ht (fcY w v snd B Y).length 0 (by omega) (fun k f hk => by omega)
  rw [eX11_mayBe]
  simp +decide only [qX11_mayBe_0, qX11_mayBe_1, lm hL, hY.1.2.1, hwa, hbw, am_w1_i, am_w1_r, am_w1_x, am_w1_l, am_w1_w, va_rf_s, am_push_n, am_push_s, am_cs_0, am_cs_i, am_cs_l, am_cs_r, m_uI_K, m_uI_N, m_uI_R, m_uI_L, m_uI_I, m_uL_K, m_uL_N, m_uL_R, m_uL_I, m_uL_L, m_uR_K, m_uR_N, m_uR_I, m_uR_L, m_uR_R, true_and, and_true]
  unfold mayY
  by_cases c1 : fitP w v B
  · rw [tI_t c1, br_n (by decide)]
    by_cases c2 : w q
    · rw [tI_t c2, br_q (by decide), show (0 : Int32) = nI 0 from rfl, hlo]
      rw [tI_i (show (∀ f, f ∈ fcY w v snd B Y → wit w v f.1 q (btw t t f.2.1 f.2.2)) ↔ (fitP w v B ∧ w q ∧ ∀ f, f ∈ fcY w v snd B Y → wit w v f.1 q (btw t t f.2.1 f.2.2)) from ⟨fun z => ⟨c1, c2, z⟩, fun z => z.2.2⟩)]
    · rw [tI_f c2, br_r rfl, tI_f (fun z => c2 z.2.1)]
  · rw [tI_f c1, br_p rfl, tI_f (fun z => c1 z.1)]
/-- the place of the model's cell c -/
def plc (C c : Nat) : Nat := 16 * (c / C) + c % C
theorem plc_v {C R c : Nat} (hC : C ≤ 16) (hC1 : 1 ≤ C) (h : c < C * R) : vld C R (plc C c) ∧ cel C (plc C c) = c := by
  have h1 := Nat.mod_lt c (show 0 < C by omega)
  have h2 : c / C < R := Nat.div_lt_of_lt_mul h
  have e1 : (16 * (c / C) + c % C) / 16 = c / C := by omega
  have e2 : (16 * (c / C) + c % C) % 16 = c % C := by omega
  unfold plc vld cel
  rw [e1, e2]
  exact ⟨⟨h1, h2⟩, Nat.div_add_mod c C⟩
theorem l_m_cellsOf (d s b C R v t : Nat) (w : Nat → Prop) (snd : Nat → Bool → Prop) (B : List Fct) (Y : List Sy) (M : am_M) (Q : Option Value → am_M → Prop) (hL : Lay M) (hB : MB M b C R) (hs : s < 8) (hw : w = mW_ M b C R s) (hY : LyM M C R w v snd B Y) (h1 : B.length ≤ 12) (h2 : Y.length ≤ 48) (ht : t < 48) :
    ∀ (m c : Nat), c + m = C * R → (am_P am_P0 (d + 2) (am_look tX11_cellsOf) 5 [.ref 277, .int (nI s), .int (nI t), .int (nI (cnt (fun c => dB (mayY w v snd B Y (plc C c) t)) c)), .int (nI c)] [] M Q ↔ Q (some (.int (nI (cnt (fun c => dB (mayY w v snd B Y (plc C c) t)) (C * R))))) M) := by
  have hB' := hB
  obtain ⟨b1, b2, b3, b4, b5, b6, b7, b8⟩ := hB'
  have hcr : C * R ≤ 16 * 16 := Nat.mul_le_mul b6 b8
  have hce := fun Q => c_m_cells (d + 1) M Q hL b C R b1 b2 b3 b4
  intro m
  induction m with
  | zero =>
    intro c hc
    have e : c = C * R := by omega
    subst e
    have hle : nI (C * R) ≤ nI (C * R) := (ni_le (by omega) (by omega)).mpr (Nat.le_refl _)
    rw [hX11_cellsOf_5]
    simp +decide only [qX11_cellsOf, lm hL, hce, am_w1_i, am_w1_r, am_w1_x, am_w1_l, am_w1_w, va_rf_s, am_push_n, am_push_s, am_cs_0, am_cs_i, am_cs_l, am_cs_r, m_uI_K, m_uI_N, m_uI_R, m_uI_L, m_uI_I, m_uL_K, m_uL_N, m_uL_R, m_uL_I, m_uL_L, m_uR_K, m_uR_N, m_uR_I, m_uR_L, m_uR_R, true_and, and_true]
    rw [br_p hle]
  | succ m ih =>
    intro c hc
    have hlt : ¬ nI (C * R) ≤ nI c := by rw [ni_le (by omega) (by omega)]; omega
    obtain ⟨pv, pc⟩ := plc_v b6 b5 (show c < C * R by omega)
    have hma := fun Q => c_m_mayBe d s b C R v (plc C c) t w snd B Y M Q hL hB hs hw hY h1 h2 pv ht
    rw [pc] at hma
    have ih2 := ih (c + 1) (by omega)
    rw [hX11_cellsOf_5]
    simp +decide only [qX11_cellsOf, lm hL, hce, hma, ni_add1, am_w1_i, am_w1_r, am_w1_x, am_w1_l, am_w1_w, va_rf_s, am_push_n, am_push_s, am_cs_0, am_cs_i, am_cs_l, am_cs_r, m_uI_K, m_uI_N, m_uI_R, m_uI_L, m_uI_I, m_uL_K, m_uL_N, m_uL_R, m_uL_I, m_uL_L, m_uR_K, m_uR_N, m_uR_I, m_uR_L, m_uR_R, true_and, and_true]
    rw [br_n hlt]
    by_cases cc : mayY w v snd B Y (plc C c) t
    · rw [tI_t cc, br_n (by decide)]
      rw [cnt_t (g := fun c => dB (mayY w v snd B Y (plc C c) t)) (dB_t.mpr cc)] at ih2
      exact ih2
    · rw [tI_f cc, br_p rfl]
      rw [cnt_f (g := fun c => dB (mayY w v snd B Y (plc C c) t)) (fun z => cc (dB_t.mp z))] at ih2
      rw [show ∀ n, nI n + 0 = nI n from fun n => ni_add n 0]
      exact ih2
theorem c_m_cellsOf (d s b C R v t : Nat) (w : Nat → Prop) (snd : Nat → Bool → Prop) (B : List Fct) (Y : List Sy) (M : am_M) (Q : Option Value → am_M → Prop) (hL : Lay M) (hB : MB M b C R) (hs : s < 8) (hw : w = mW_ M b C R s) (hY : LyM M C R w v snd B Y) (h1 : B.length ≤ 12) (h2 : Y.length ≤ 48) (ht : t < 48) : am_E am_P0 (d + 2) 251 [.ref 277, .int (nI s), .int (nI t)] M Q ↔ Q (some (.int (nI (cnt (fun c => dB (mayY w v snd B Y (plc C c) t)) (C * R))))) M := by
  rw [eX11_cellsOf]
  simp +decide only [qX11_cellsOf, am_w1_i, am_w1_r, am_w1_x, am_w1_l, am_w1_w, va_rf_s, am_push_n, am_push_s, am_cs_0, am_cs_i, am_cs_l, am_cs_r, m_uI_K, m_uI_N, m_uI_R, m_uI_L, m_uI_I, m_uL_K, m_uL_N, m_uL_R, m_uL_I, m_uL_L, m_uR_K, m_uR_N, m_uR_I, m_uR_L, m_uR_R, true_and, and_true]
  rw [show (0 : Int32) = nI 0 from rfl]
  exact l_m_cellsOf d s b C R v t w snd B Y M Q hL hB hs hw hY h1 h2 ht (C * R) 0 (by omega)
