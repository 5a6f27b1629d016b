/-! 76.may 77.alone 78.alone2 79.chain 80.chain2 81.keep 82.fmay 83.fmay2 84.fmay3 -/
section
/-! the model: where a ship may be -/
def mayY (w : Nat → Prop) (v : Nat) (snd : Nat → Bool → Prop) (B : List Fct) (Y : List Sy) (q t : Nat) : Prop := fitP w v B ∧ w q ∧ ∀ f, f ∈ fcY w v snd B Y → wit w v f.1 q (btw t t f.2.1 f.2.2)
theorem l_m_mayBe (d s C R v q t : Nat) (w : Nat → Prop) (F : List Fct) (M : am_M) (Q : Option Value → am_M → Prop) (hL : Lay M) (hF : FcM M C R F) (hFr : FrM M C R w v F F.length) (hl : F.length ≤ 60) (hC : C ≤ 16) (hR : R ≤ 16) (hq : vld C R q) (ht : t < 48) :
    ∀ (m i : Nat), i + m = F.length → (∀ k f, k < i → F[k]? = some f → wit w v f.1 q (btw t t f.2.1 f.2.2)) → (am_P am_P0 (d + 1) (am_look tX11_mayBe) 21 [.ref 277, .int (nI s), .int (nI (cel C q)), .int (nI t), .int (nI i)] [] M Q ↔ Q (some (.int (tI (∀ f, f ∈ F → wit w v f.1 q (btw t t f.2.1 f.2.2))))) M) := by
  have hql := cel_lt hC hR hq
  intro m
  induction m with
  | zero =>
    intro i hi hall
    have e : i = F.length := by omega
    subst e
    have hle : nI F.length ≤ nI F.length := (ni_le (by omega) (by omega)).mpr (Nat.le_refl _)
    rw [hX11_mayBe_21]
    simp +decide only [qX11_mayBe_0, qX11_mayBe_1, lm hL, hF.1, am_w1_i, am_w1_r, am_w1_x, am_w1_l, am_w1_w, va_rf_s, am_push_n, am_push_s, am_cs_0, am_cs_i, am_cs_l, am_cs_r, m_uI_K, m_uI_N, m_uI_R, m_uI_L, m_uI_I, m_uL_K, m_uL_N, m_uL_R, m_uL_I, m_uL_L, m_uR_K, m_uR_N, m_uR_I, m_uR_L, m_uR_R, true_and, and_true]
    rw [br_p hle, tI_t (fun f hf => by
      obtain ⟨k, hk⟩ := List.mem_iff_getElem?.mp hf
      exact hall k f (List.getElem?_eq_some_iff.mp hk).1 hk)]
  | succ m ih =>
    intro i hi hall
    have hlt : ¬ nI F.length ≤ nI i := by rw [ni_le (by omega) (by omega)]; omega
    obtain ⟨f, hf⟩ : ∃ f, F[i]? = some f := ⟨F[i]'(by omega), List.getElem?_eq_getElem (by omega)⟩
    obtain ⟨⟨fv, fo, ft⟩, fc, ff, fg⟩ := hF.2.2 i f hf
    have hbt := fun Q => c_m_between d (nI t) (nI t) (nI f.2.1) (nI f.2.2) M Q
    have e256 : 256 * nI i + nI (cel C q) = nI (256 * i + cel C q) := by rw [show (256 : Int32) = nI 256 from rfl, ni_mul, ni_add]
    have hw := hFr i f q (by omega) hf hq (btw t t f.2.1 f.2.2) (by have := btw_lt (f := t) ht ft (Nat.le_refl _) fo; omega)
    rw [hX11_mayBe_21]
    simp +decide (disch := omega) only [qX11_mayBe_0, qX11_mayBe_1, lm hL, hF.1, ff, fg, hbt, btw_I ht ft (Nat.le_refl t) fo, e256, ni_in_t, ni_tn, ni_add1, am_w1_i, am_w1_r, am_w1_x, am_w1_l, am_w1_w, va_rf_s, am_push_n, am_push_s, am_cs_0, am_cs_i, am_cs_l, am_cs_r, m_uI_K, m_uI_N, m_uI_R, m_uI_L, m_uI_I, m_uL_K, m_uL_N, m_uL_R, m_uL_I, m_uL_L, m_uR_K, m_uR_N, m_uR_I, m_uR_L, m_uR_R, true_and, and_true]
    rw [br_n hlt]
    by_cases c : wit w v f.1 q (btw t t f.2.1 f.2.2)
    · rw [br_p (hw.mpr c)]
      refine ih (i + 1) (by omega) (fun k f' hk hf' => ?_)
      by_cases ek : k = i
      · subst ek
        cases hf.symm.trans hf'
        exact c
      · exact hall k f' (by omega) hf'
    · rw [br_n (fun z => c (hw.mp z)), tI_f (fun z => c (z f (List.mem_of_getElem? hf)))]
theorem fcY_len {w : Nat → Prop} {v : Nat} {snd : Nat → Bool → Prop} {B : List Fct} {Y : List Sy} (h1 : B.length ≤ 12) (h2 : Y.length ≤ 48) : (fcY w v snd B Y).length ≤ 60 := by
  have := kpF_len (fun k => fitP w v B ∧ keptY w v snd B Y k) Y Y.length
  unfold fcY
  rw [List.length_append]; omega
theorem c_m_mayBe (d s b C R v q t : Nat) (w : Nat → Prop) (snd : Nat → Bool → Prop) (B : List Fct) (Y : List Sy) (M : am_M) (Q : Option Value → am_M → Prop) (hL : Lay M) (hB : MB M b C R) (hs : s < 8) (hw : w = mW_ M b C R s) (hY : LyM M C R w v snd B Y) (h1 : B.length ≤ 12) (h2 : Y.length ≤ 48) (hq : vld C R q) (ht : t < 48) : am_E am_P0 (d + 1) 250 [.ref 277, .int (nI s), .int (nI (cel C q)), .int (nI t)] M Q ↔ Q (some (.int (tI (mayY w v snd B Y q t)))) M := by
  have hC := hB.2.2.2.2.2.1
  have hR := hB.2.2.2.2.2.2.2
  have hql := cel_lt hC hR hq
  have hwa := fun Q => c_m_isWater d s (cel C q) M Q hL b hB.1 hB.2.1 hs hql.2.1
  have hwi : (mI M 289 (8 * b + s) ≤ mI M 315 (cel C q)) ↔ w q := by
    rw [hw]
    unfold mW_
    exact ⟨fun z => ⟨hq, z⟩, fun z => z.2⟩
  have hbw := bI_tI hwi
  have hlo := l_m_mayBe d s C R v q t w (fcY w v snd B Y) M Q hL hY.2.1 hY.2.2 (fcY_len h1 h2) hC hR hq ht (fcY w v snd B Y).length 0 (by omega) (fun k f hk => by omega)
  rw [eX11_mayBe]
  simp +decide only [qX11_mayBe_0, qX11_mayBe_1, lm hL, hY.1.2.1, hwa, hbw, am_w1_i, am_w1_r, am_w1_x, am_w1_l, am_w1_w, va_rf_s, am_push_n, am_push_s, am_cs_0, am_cs_i, am_cs_l, am_cs_r, m_uI_K, m_uI_N, m_uI_R, m_uI_L, m_uI_I, m_uL_K, m_uL_N, m_uL_R, m_uL_I, m_uL_L, m_uR_K, m_uR_N, m_uR_I, m_uR_L, m_uR_R, true_and, and_true]
  unfold mayY
  by_cases c1 : fitP w v B
  · rw [tI_t c1, br_n (by decide)]
    by_cases c2 : w q
    · rw [tI_t c2, br_q (by decide), show (0 : Int32) = nI 0 from rfl, hlo]
      rw [tI_i (show (∀ f, f ∈ fcY w v snd B Y → wit w v f.1 q (btw t t f.2.1 f.2.2)) ↔ (fitP w v B ∧ w q ∧ ∀ f, f ∈ fcY w v snd B Y → wit w v f.1 q (btw t t f.2.1 f.2.2)) from ⟨fun z => ⟨c1, c2, z⟩, fun z => z.2.2⟩)]
    · rw [tI_f c2, br_r rfl, tI_f (fun z => c2 z.2.1)]
  · rw [tI_f c1, br_p rfl, tI_f (fun z => c1 z.1)]
/-- the place of the model's cell c -/
def plc (C c : Nat) : Nat := 16 * (c / C) + c % C
theorem plc_v {C R c : Nat} (hC : C ≤ 16) (hC1 : 1 ≤ C) (h : c < C * R) : vld C R (plc C c) ∧ cel C (plc C c) = c := by
  have h1 := Nat.mod_lt c (show 0 < C by omega)
  have h2 : c / C < R := Nat.div_lt_of_lt_mul h
  have e1 : (16 * (c / C) + c % C) / 16 = c / C := by omega
  have e2 : (16 * (c / C) + c % C) % 16 = c % C := by omega
  unfold plc vld cel
  rw [e1, e2]
  exact ⟨⟨h1, h2⟩, Nat.div_add_mod c C⟩
theorem l_m_cellsOf (d s b C R v t : Nat) (w : Nat → Prop) (snd : Nat → Bool → Prop) (B : List Fct) (Y : List Sy) (M : am_M) (Q : Option Value → am_M → Prop) (hL : Lay M) (hB : MB M b C R) (hs : s < 8) (hw : w = mW_ M b C R s) (hY : LyM M C R w v snd B Y) (h1 : B.length ≤ 12) (h2 : Y.length ≤ 48) (ht : t < 48) :
    ∀ (m c : Nat), c + m = C * R → (am_P am_P0 (d + 2) (am_look tX11_cellsOf) 5 [.ref 277, .int (nI s), .int (nI t), .int (nI (cnt (fun c => dB (mayY w v snd B Y (plc C c) t)) c)), .int (nI c)] [] M Q ↔ Q (some (.int (nI (cnt (fun c => dB (mayY w v snd B Y (plc C c) t)) (C * R))))) M) := by
  have hB' := hB
  obtain ⟨b1, b2, b3, b4, b5, b6, b7, b8⟩ := hB'
  have hcr : C * R ≤ 16 * 16 := Nat.mul_le_mul b6 b8
  have hce := fun Q => c_m_cells (d + 1) M Q hL b C R b1 b2 b3 b4
  intro m
  induction m with
  | zero =>
    intro c hc
    have e : c = C * R := by omega
    subst e
    have hle : nI (C * R) ≤ nI (C * R) := (ni_le (by omega) (by omega)).mpr (Nat.le_refl _)
    rw [hX11_cellsOf_5]
    simp +decide only [qX11_cellsOf, lm hL, hce, am_w1_i, am_w1_r, am_w1_x, am_w1_l, am_w1_w, va_rf_s, am_push_n, am_push_s, am_cs_0, am_cs_i, am_cs_l, am_cs_r, m_uI_K, m_uI_N, m_uI_R, m_uI_L, m_uI_I, m_uL_K, m_uL_N, m_uL_R, m_uL_I, m_uL_L, m_uR_K, m_uR_N, m_uR_I, m_uR_L, m_uR_R, true_and, and_true]
    rw [br_p hle]
  | succ m ih =>
    intro c hc
    have hlt : ¬ nI (C * R) ≤ nI c := by rw [ni_le (by omega) (by omega)]; omega
    obtain ⟨pv, pc⟩ := plc_v b6 b5 (show c < C * R by omega)
    have hma := fun Q => c_m_mayBe d s b C R v (plc C c) t w snd B Y M Q hL hB hs hw hY h1 h2 pv ht
    rw [pc] at hma
    have ih2 := ih (c + 1) (by omega)
    rw [hX11_cellsOf_5]
    simp +decide only [qX11_cellsOf, lm hL, hce, hma, ni_add1, am_w1_i, am_w1_r, am_w1_x, am_w1_l, am_w1_w, va_rf_s, am_push_n, am_push_s, am_cs_0, am_cs_i, am_cs_l, am_cs_r, m_uI_K, m_uI_N, m_uI_R, m_uI_L, m_uI_I, m_uL_K, m_uL_N, m_uL_R, m_uL_I, m_uL_L, m_uR_K, m_uR_N, m_uR_I, m_uR_L, m_uR_R, true_and, and_true]
    rw [br_n hlt]
    by_cases cc : mayY w v snd B Y (plc C c) t
    · rw [tI_t cc, br_n (by decide)]
      rw [cnt_t (g := fun c => dB (mayY w v snd B Y (plc C c) t)) (dB_t.mpr cc)] at ih2
      exact ih2
    · rw [tI_f cc, br_p rfl]
      rw [cnt_f (g := fun c => dB (mayY w v snd B Y (plc C c) t)) (fun z => cc (dB_t.mp z))] at ih2
      rw [show ∀ n, nI n + 0 = nI n from fun n => ni_add n 0]
      exact ih2
theorem c_m_cellsOf (d s b C R v t : Nat) (w : Nat → Prop) (snd : Nat → Bool → Prop) (B : List Fct) (Y : List Sy) (M : am_M) (Q : Option Value → am_M → Prop) (hL : Lay M) (hB : MB M b C R) (hs : s < 8) (hw : w = mW_ M b C R s) (hY : LyM M C R w v snd B Y) (h1 : B.length ≤ 12) (h2 : Y.length ≤ 48) (ht : t < 48) : am_E am_P0 (d + 2) 251 [.ref 277, .int (nI s), .int (nI t)] M Q ↔ Q (some (.int (nI (cnt (fun c => dB (mayY w v snd B Y (plc C c) t)) (C * R))))) M := by
  rw [eX11_cellsOf]
  simp +decide only [qX11_cellsOf, am_w1_i, am_w1_r, am_w1_x, am_w1_l, am_w1_w, va_rf_s, am_push_n, am_push_s, am_cs_0, am_cs_i, am_cs_l, am_cs_r, m_uI_K, m_uI_N, m_uI_R, m_uI_L, m_uI_I, m_uL_K, m_uL_N, m_uL_R, m_uL_I, m_uL_L, m_uR_K, m_uR_N, m_uR_I, m_uR_L, m_uR_R, true_and, and_true]
  rw [show (0 : Int32) = nI 0 from rfl]
  exact l_m_cellsOf d s b C R v t w snd B Y M Q hL hB hs hw hY h1 h2 ht (C * R) 0 (by omega)
end
section
/-! the class: which sayings stand by themselves -/
/-- nothing is changed but S, rows, and what is known of them -/
def zF (S : Nat → Nat → Prop) (M M' : am_M) : Prop := Lay M' ∧ RInv M' ∧ mC M ≤ mC M' ∧ (∀ a j, a < 336 → (∀ s', s' < 8 → ¬ a = 177 + 13 * s') → ¬ S a j → mI M' a j = mI M a j) ∧ (∀ a j, a < 336 → ¬ S a j → mL M' a j = mL M a j) ∧ (∀ a j, a < 336 → (∀ s', s' < 8 → ¬ a = 176 + 13 * s') → mR M' a j = mR M a j) ∧ ∀ s' v wt, s' < 8 → TrW M s' v wt → TrW M' s' v wt
theorem zF_refl {S : Nat → Nat → Prop} {M : am_M} (h : Lay M) (hI : RInv M) : zF S M M := ⟨h, hI, Nat.le_refl _, fun _ _ _ _ _ => rfl, fun _ _ _ _ => rfl, fun _ _ _ _ => rfl, fun _ _ _ _ h => h⟩
theorem zF_trans {S : Nat → Nat → Prop} {M M' M'' : am_M} (h1 : zF S M M') (h2 : zF S M' M'') : zF S M M'' :=
  ⟨h2.1, h2.2.1, Nat.le_trans h1.2.2.1 h2.2.2.1, fun a j q1 q2 q3 => (h2.2.2.2.1 a j q1 q2 q3).trans (h1.2.2.2.1 a j q1 q2 q3), fun a j q1 q2 => (h2.2.2.2.2.1 a j q1 q2).trans (h1.2.2.2.2.1 a j q1 q2), fun a j q1 q2 => (h2.2.2.2.2.2.1 a j q1 q2).trans (h1.2.2.2.2.2.1 a j q1 q2), fun s v wt q1 q2 => h2.2.2.2.2.2.2 s v wt q1 (h1.2.2.2.2.2.2 s v wt q1 q2)⟩
theorem zF_up {S S' : Nat → Nat → Prop} {M M' : am_M} (h : zF S M M') (hs : ∀ a j, S a j → S' a j) : zF S' M M' := ⟨h.1, h.2.1, h.2.2.1, fun a j q1 q2 q3 => h.2.2.2.1 a j q1 q2 (fun z => q3 (hs a j z)), fun a j q1 q2 => h.2.2.2.2.1 a j q1 (fun z => q2 (hs a j z)), h.2.2.2.2.2.1, h.2.2.2.2.2.2⟩
theorem zF_r {S : Nat → Nat → Prop} {M M' : am_M} (h : rgF M M') : zF S M M' := ⟨h.1, h.2.1, h.2.2.1, fun a j q1 q2 _ => h.2.2.2.1 a j q1 q2, fun a j q1 _ => h.2.2.2.2.1 a j q1, h.2.2.2.2.2.1, h.2.2.2.2.2.2⟩
theorem zF_x {s : Nat} {M M' : am_M} (h : xF s M M') : zF (fun a _ => a = 180 + 13 * s) M M' := ⟨h.1, h.2.1, h.2.2.1, h.2.2.2.1, fun a j q1 _ => h.2.2.2.2.1 a j q1, h.2.2.2.2.2.1, h.2.2.2.2.2.2⟩
theorem zF_i {S : Nat → Nat → Prop} {M : am_M} (hL : Lay M) (hI : RInv M) {a j : Nat} (x : Int32) (hS : S a j) (h1 : ∀ s', s' < 8 → ¬ a = 174 + 13 * s' ∧ ¬ a = 177 + 13 * s') : zF S M (uI M a j x) := by
  refine ⟨hL, RInv_S hI (fun _ _ => rfl) rfl, Nat.le_refl _, fun a' j' _ _ q => ?_, fun _ _ _ _ => rfl, fun _ _ _ _ => rfl, fun s' v wt hs' hT => TrW_S hT (fun k => ?_) (fun k => ?_) (fun _ _ => rfl) (fun _ _ => rfl)⟩
  · rw [m_uI_I, if_neg (fun z => q (by rw [z.1, z.2]; exact hS))]
  · rw [m_uI_I, if_neg (fun z => (h1 s' hs').1 z.1.symm)]
  · rw [m_uI_I, if_neg (fun z => (h1 s' hs').2 z.1.symm)]
/-- a track with its ship and sea, as it is asked about -/
def TkX (M : am_M) (s g z : Nat) (v : Nat) (wt : Nat → Prop) (dep : Nat → Nat) (dr ld : Nat) (B : List Fct) (Y : List Sy) : Prop := TrW M s v wt ∧ DpX M (173 + 13 * s) g z dep dr ld ∧ BkX M g B ∧ SyX M g Y
theorem TkX_z {M M' : am_M} {s g z v : Nat} {wt : Nat → Prop} {dep : Nat → Nat} {dr ld : Nat} {B : List Fct} {Y : List Sy} {S : Nat → Nat → Prop} (hs : s < 8) (hg : isSh g) (hz : z = 2 ∨ z = 83) (h : TkX M s g z v wt dep dr ld B Y) (hS : zF S M M') (hd : ∀ a j, a < 164 → ¬ S a j) : TkX M' s g z v wt dep dr ld B Y := by
  have hgl := isSh_lt hg
  have ri : ∀ a j, a < 164 → mI M' a j = mI M a j := fun a j ha => hS.2.2.2.1 a j (by omega) (fun s' hs' => by omega) (hd a j ha)
  have rr : ∀ j, mR M' (173 + 13 * s) j = mR M (173 + 13 * s) j := fun j => hS.2.2.2.2.2.1 _ j (by omega) (fun s' hs' => by omega)
  obtain ⟨h1, ⟨a1, a2, a3, a4, a5, a6, a7⟩, ⟨b1, b2, b3⟩, ⟨c1, c2, c3⟩⟩ := h
  refine ⟨hS.2.2.2.2.2.2 s v wt hs h1, ⟨by rw [rr]; exact a1, by rw [rr]; exact a2, by rw [ri _ _ (by omega)]; exact a3, by rw [ri _ _ (by omega)]; exact a4, a5, a6, fun p hp => ⟨(a7 p hp).1, by rw [ri _ _ (by omega)]; exact (a7 p hp).2⟩⟩, ⟨by rw [ri _ _ (by omega)]; exact b1, b2, fun i f hf => ?_⟩, ⟨by rw [ri _ _ (by omega)]; exact c1, c2, fun i f hf => ?_⟩⟩
  · obtain ⟨q1, q2, q3, q4⟩ := b3 i f hf
    exact ⟨q1, by rw [ri _ _ (by omega)]; exact q2, by rw [ri _ _ (by omega)]; exact q3, by rw [ri _ _ (by omega)]; exact q4⟩
  · obtain ⟨q1, q2, q3, q4⟩ := c3 i f hf
    exact ⟨q1, by rw [ri _ _ (by omega)]; exact q2, by rw [ri _ _ (by omega)]; exact q3, by rw [ri _ _ (by omega)]; exact q4⟩
theorem c_x_hoursToBook (d g i t : Nat) (B : List Fct) (f : Fct) (M : am_M) (Q : Option Value → am_M → Prop) (hL : Lay M) (hg : isSh g) (hB : BkX M g B) (hf : B[i]? = some f) (ht : t < 48) : am_E am_P0 d 69 [.ref g, .int (nI t), .int (nI i)] M Q ↔ Q (some (.int (nI (btw t t f.2.1 f.2.2)))) M := by
  obtain ⟨⟨q1, q2, q3⟩, q4, q5, q6⟩ := hB.2.2 i f hf
  have hil := (List.getElem?_eq_some_iff.mp hf).1
  have h12 := hB.2.1
  rw [eX6_hoursToBook]
  simp +decide (disch := omega) only [qX6_hoursToBook, lw_ hL hg, q5, q6, ni_in_t, ni_tn, am_w1_i, am_w1_r, am_w1_x, am_w1_l, am_w1_w, va_rf_s, am_push_n, am_push_s, am_cs_0, am_cs_i, am_cs_l, am_cs_r, m_uI_K, m_uI_N, m_uI_R, m_uI_L, m_uI_I, m_uL_K, m_uL_N, m_uL_R, m_uL_I, m_uL_L, m_uR_K, m_uR_N, m_uR_I, m_uR_L, m_uR_R, true_and, and_true]
  unfold btw
  by_cases c1 : t < f.2.1
  · rw [br_n (fun z => by rw [ni_le (by omega) (by omega)] at z; omega), if_pos c1, ni_sub (by omega)]
  · rw [br_p ((ni_le (by omega) (by omega)).mpr (by omega)), if_neg c1]
    by_cases c2 : f.2.2 < t
    · rw [br_n (fun z => by rw [ni_le (by omega) (by omega)] at z; omega), if_pos c2, ni_sub (by omega)]
    · rw [br_p ((ni_le (by omega) (by omega)).mpr (by omega)), if_neg c2]
      exact Iff.rfl
def jk (v : Value) : Prop := v = am_x ∨ ∃ x, v = .int x
theorem jk_w {v : Value} (h : jk v) : am_w1 v = v := by rcases h with rfl | ⟨x, rfl⟩ <;> rfl
def sA (s a _j : Nat) : Prop := a = 181 + 13 * s ∨ a = 182 + 13 * s
theorem l_x_alone2 (d s g z v i : Nat) (wt : Nat → Prop) (dep : Nat → Nat) (dr ld : Nat) (B : List Fct) (Y : List Sy) (y : Sy) (M0 : am_M) (Q : Option Value → am_M → Prop) (hs : s < 8) (hg : isSh g) (hz : z = 2 ∨ z = 83) (hy : Y[i]? = some y)
    (hQ : ∀ M' x3 x4, jk x4 → zF (sA s) M0 M' → TkX M' s g z v wt dep dr ld B Y → (∀ a j, a < 336 → (∀ s', s' < 8 → ¬ a = 177 + 13 * s') → ¬ (a = 181 + 13 * s ∧ j = i) → mI M' a j = mI M0 a j) → mI M' (181 + 13 * s) i = tI (goodY wt v (sndP dep dr ld) B y) → am_P am_P0 (d + 3) (am_look tX8_markAlone) 2 [.ref (173 + 13 * s), .int (nI i + 1), .int (nI y.2.1), .int x3, x4] [] M' Q) :
    ∀ (m k : Nat), k + m = B.length → ∀ (M : am_M) (v4 : Value), (v4 = am_x ∨ ∃ x, v4 = .int x) → zF (sA s) M0 M → TkX M s g z v wt dep dr ld B Y → (∀ a j, a < 336 → (∀ s', s' < 8 → ¬ a = 177 + 13 * s') → ¬ (a = 181 + 13 * s ∧ j = i) → mI M a j = mI M0 a j) → mI M (181 + 13 * s) i = tI (sndP dep dr ld y.2.1 y.2.2 ∧ ∀ k' f, k' < k → B[k']? = some f → wit wt v y.2.1 f.1 (btw y.1 y.1 f.2.1 f.2.2)) → am_P am_P0 (d + 3) (am_look tX8_markAlone) 52 [.ref (173 + 13 * s), .int (nI i), .int (nI y.2.1), .int (nI k), v4] [] M Q := by
  obtain ⟨w, hwe⟩ : ∃ w, w = 173 + 13 * s := ⟨_, rfl⟩
  have hw : isTr w := ⟨s, hs, hwe⟩
  have hgl := isSh_lt hg
  have e1 : 174 + 13 * s = w + 1 := by omega
  have e8 : 181 + 13 * s = w + 8 := by omega
  have hlast : ∀ (M : am_M), zF (sA s) M0 M → TkX M s g z v wt dep dr ld B Y → (∀ a j, a < 336 → (∀ s', s' < 8 → ¬ a = 177 + 13 * s') → ¬ (a = 181 + 13 * s ∧ j = i) → mI M a j = mI M0 a j) → mI M (181 + 13 * s) i = tI (goodY wt v (sndP dep dr ld) B y) → ∀ x3 x4, jk x4 → am_P am_P0 (d + 3) (am_look tX8_markAlone) 2 [.ref (173 + 13 * s), .int (nI i + 1), .int (nI y.2.1), .int x3, x4] [] M Q := fun M h1 h2 h3 h4 x3 x4 h5 => hQ M x3 x4 h5 h1 h2 h3 h4
  intro m
  induction m with
  | zero =>
    intro k hk M v4 hv4 hM hT hk2 hm
    have e : k = B.length := by omega
    subst e
    have hL := hM.1
    have h12 := hT.2.2.1.2.1
    have h48 := hT.2.2.2.2.1
    have hil := (List.getElem?_eq_some_iff.mp hy).1
    have hle : nI B.length ≤ nI B.length := (ni_le (by omega) (by omega)).mpr (Nat.le_refl _)
    have hgood : mI M (181 + 13 * s) i = tI (goodY wt v (sndP dep dr ld) B y) := by
      rw [hm]
      refine tI_i ⟨fun q => ⟨q.1, fun f hf => ?_⟩, fun q => ⟨q.1, fun k' f _ hf => q.2 f (List.mem_of_getElem? hf)⟩⟩
      obtain ⟨k', hk'⟩ := List.mem_iff_getElem?.mp hf
      exact q.2 k' f (List.getElem?_eq_some_iff.mp hk').1 hk'
    have h0 := hlast M hM hT hk2 hgood (nI B.length) v4 hv4
    obtain ⟨x, hx⟩ : ∃ x, x = mI M (181 + 13 * s) i := ⟨_, rfl⟩
    rw [e8] at hx
    have hR := hT.2.1.1
    rw [← hwe] at h0 hR ⊢
    rw [hX8_markAlone_52]
    simp +decide (disch := omega) only [qX8_markAlone_0, qX8_markAlone_1, lt_ hL hw, lw_ hL hg, hR, hT.2.2.1.1, ← hx, ni_in_t, ni_tn, am_w1_i, am_w1_r, am_w1_x, am_w1_l, am_w1_w, va_rf_s, am_push_n, am_push_s, am_cs_0, am_cs_i, am_cs_l, am_cs_r, m_uI_K, m_uI_N, m_uI_R, m_uI_L, m_uI_I, m_uL_K, m_uL_N, m_uL_R, m_uL_I, m_uL_L, m_uR_K, m_uR_N, m_uR_I, m_uR_L, m_uR_R, true_and, and_true]
    by_cases c : x = 0
    · rw [br_p c]; exact h0
    · rw [br_n c, br_p hle]; exact h0
  | succ m ih =>
    intro k hk M v4 hv4 hM hT hk2 hm
    have hL := hM.1
    have h12 := hT.2.2.1.2.1
    have h48 := hT.2.2.2.2.1
    have hil := (List.getElem?_eq_some_iff.mp hy).1
    have hlt : ¬ nI B.length ≤ nI k := by rw [ni_le (by omega) (by omega)]; omega
    obtain ⟨f, hf⟩ : ∃ f, B[k]? = some f := ⟨B[k]'(by omega), List.getElem?_eq_getElem (by omega)⟩
    obtain ⟨⟨f1, f2, f3⟩, f4, f5, f6⟩ := hT.2.2.1.2.2 k f hf
    obtain ⟨⟨y1, y2⟩, y3, y4, y5⟩ := hT.2.2.2.2.2 i y hy
    have hhb := fun Q => c_x_hoursToBook (d + 2) g k y.1 B f M Q hL hg hT.2.2.1 hf y1
    have hR := hT.2.1.1
    have hbl := btw_lt (f := y.1) y1 f3 (Nat.le_refl _) f2
    by_cases c : sndP dep dr ld y.2.1 y.2.2 ∧ ∀ k' f, k' < k → B[k']? = some f → wit wt v y.2.1 f.1 (btw y.1 y.1 f.2.1 f.2.2)
    · rw [tI_t c] at hm
      have hm' := hm
      rw [e8] at hm'
      have hw4 : am_w1 v4 = v4 := by rcases hv4 with rfl | ⟨x, rfl⟩ <;> rfl
      rw [← hwe] at hR ⊢
      rw [hX8_markAlone_52]
      simp +decide (disch := omega) only [qX8_markAlone_0, qX8_markAlone_1, lt_ hL hw, lw_ hL hg, hR, hT.2.2.1.1, hm', y3, f4, hhb, ni_in_t, ni_tn, ni_add1, am_w1_i, am_w1_r, am_w1_x, am_w1_l, am_w1_w, va_rf_s, am_push_n, am_push_s, am_cs_0, am_cs_i, am_cs_l, am_cs_r, m_uI_K, m_uI_N, m_uI_R, m_uI_L, m_uI_I, m_uL_K, m_uL_N, m_uL_R, m_uL_I, m_uL_L, m_uR_K, m_uR_N, m_uR_I, m_uR_L, m_uR_R, true_and, and_true, true_implies, false_implies]
      rw [br_n hlt, ← e1]
      refine c_x_isWithin d s y.2.1 f.1 (btw y.1 y.1 f.2.1 f.2.2) v wt M _ hL hM.2.1 hs y2 f1 hbl hT.1 (fun M1 g1 => ?_)
      have hM1 : zF (sA s) M0 M1 := zF_trans hM (zF_r g1)
      have L1 := hM1.1
      have z2 : zF (sA s) M1 (uI M1 (w + 8) i (tI (wit wt v y.2.1 f.1 (btw y.1 y.1 f.2.1 f.2.2)))) := zF_i L1 hM1.2.1 _ (Or.inl e8.symm) (fun s' hs' => by omega)
      have hT1 := TkX_z hs hg hz (TkX_z hs hg hz hT (zF_r g1 : zF (sA s) M M1) (fun a j ha q => by unfold sA at q; omega)) z2 (fun a j ha q => by unfold sA at q; omega)
      simp +decide (disch := omega) only [qX8_markAlone_0, qX8_markAlone_1, lt_ L1 hw, ni_in_t, ni_tn, ni_add1, am_w1_i, am_w1_r, am_w1_x, am_w1_l, am_w1_w, va_rf_s, am_push_n, am_push_s, am_cs_0, am_cs_i, am_cs_l, am_cs_r, m_uI_K, m_uI_N, m_uI_R, m_uI_L, m_uI_I, m_uL_K, m_uL_N, m_uL_R, m_uL_I, m_uL_L, m_uR_K, m_uR_N, m_uR_I, m_uR_L, m_uR_R, true_and, and_true]
      refine ⟨tI_01 _, ?_⟩
      rw [hwe]
      rw [← hwe]
      have h0 := ih (k + 1) (by omega) (uI M1 (w + 8) i (tI (wit wt v y.2.1 f.1 (btw y.1 y.1 f.2.1 f.2.2)))) (.int (nI (btw y.1 y.1 f.2.1 f.2.2))) (Or.inr ⟨_, rfl⟩) (zF_trans hM1 z2) hT1 (fun a j q1 q2 q3 => ?_) ?_
      · rw [← hwe] at h0
        exact h0
      · rw [m_uI_I, if_neg (fun q => q3 ⟨by omega, q.2⟩), g1.2.2.2.1 a j q1 q2]
        exact hk2 a j q1 q2 q3
      · rw [m_uI_I, if_pos ⟨e8, rfl⟩]
        refine tI_i ⟨fun q => ⟨c.1, fun k' f' hk' hf' => ?_⟩, fun q => q.2 k f (by omega) hf⟩
        by_cases ek : k' = k
        · subst ek; cases hf.symm.trans hf'; exact q
        · exact c.2 k' f' (by omega) hf'
    · rw [tI_f c] at hm
      have hgood : mI M (181 + 13 * s) i = tI (goodY wt v (sndP dep dr ld) B y) := by
        rw [hm, tI_f (fun q : goodY wt v (sndP dep dr ld) B y => c ⟨q.1, fun k' f' _ hf' => q.2 f' (List.mem_of_getElem? hf')⟩)]
      have h0 := hlast M hM hT hk2 hgood (nI k) v4 hv4
      have hm' := hm
      rw [e8] at hm'
      rw [← hwe] at h0 hR ⊢
      rw [hX8_markAlone_52]
      simp +decide (disch := omega) only [qX8_markAlone_0, qX8_markAlone_1, lt_ hL hw, hm', ni_in_t, ni_tn, am_w1_i, am_w1_r, am_w1_x, am_w1_l, am_w1_w, va_rf_s, am_push_n, am_push_s, am_cs_0, am_cs_i, am_cs_l, am_cs_r, m_uI_K, m_uI_N, m_uI_R, m_uI_L, m_uI_I, m_uL_K, m_uL_N, m_uL_R, m_uL_I, m_uL_L, m_uR_K, m_uR_N, m_uR_I, m_uR_L, m_uR_R, true_and, and_true, true_implies, false_implies]
      exact h0
end
section
/-! the class: markAlone -/
theorem l_x_alone1 (d s g z v : Nat) (wt : Nat → Prop) (dep : Nat → Nat) (dr ld : Nat) (B : List Fct) (Y : List Sy) (M0 : am_M) (Q : Option Value → am_M → Prop) (hs : s < 8) (hg : isSh g) (hz : z = 2 ∨ z = 83)
    (hQ : ∀ M', zF (sA s) M0 M' → TkX M' s g z v wt dep dr ld B Y → (∀ k y, Y[k]? = some y → mI M' (181 + 13 * s) k = tI (goodY wt v (sndP dep dr ld) B y) ∧ mI M' (182 + 13 * s) k = 0) → Q none M') :
    ∀ (m i : Nat), i + m = Y.length → ∀ (M : am_M) (v2 v3 v4 : Value), jk v2 → jk v3 → jk v4 → zF (sA s) M0 M → TkX M s g z v wt dep dr ld B Y → (∀ k y, k < i → Y[k]? = some y → mI M (181 + 13 * s) k = tI (goodY wt v (sndP dep dr ld) B y) ∧ mI M (182 + 13 * s) k = 0) → am_P am_P0 (d + 3) (am_look tX8_markAlone) 2 [.ref (173 + 13 * s), .int (nI i), v2, v3, v4] [] M Q := by
  obtain ⟨w, hwe⟩ : ∃ w, w = 173 + 13 * s := ⟨_, rfl⟩
  have hw : isTr w := ⟨s, hs, hwe⟩
  have hgl := isSh_lt hg
  have e8 : 181 + 13 * s = w + 8 := by omega
  have e9 : 182 + 13 * s = w + 9 := by omega
  intro m
  induction m with
  | zero =>
    intro i hi M v2 v3 v4 j2 j3 j4 hM hT hall
    have e : i = Y.length := by omega
    subst e
    have hL := hM.1
    have h48 := hT.2.2.2.2.1
    have hR := hT.2.1.1
    have hle : nI Y.length ≤ nI Y.length := (ni_le (by omega) (by omega)).mpr (Nat.le_refl _)
    rw [← hwe] at hR ⊢
    rw [hX8_markAlone_2]
    simp +decide (disch := omega) only [qX8_markAlone_0, qX8_markAlone_1, lt_ hL hw, lw_ hL hg, hR, hT.2.2.2.1, am_w1_i, am_w1_r, am_w1_x, am_w1_l, am_w1_w, va_rf_s, am_push_n, am_push_s, am_cs_0, am_cs_i, am_cs_l, am_cs_r, m_uI_K, m_uI_N, m_uI_R, m_uI_L, m_uI_I, m_uL_K, m_uL_N, m_uL_R, m_uL_I, m_uL_L, m_uR_K, m_uR_N, m_uR_I, m_uR_L, m_uR_R, true_and, and_true]
    rw [br_p hle]
    exact hQ M hM hT (fun k y hy => hall k y (List.getElem?_eq_some_iff.mp hy).1 hy)
  | succ m ih =>
    intro i hi M v2 v3 v4 j2 j3 j4 hM hT hall
    have hL := hM.1
    have h48 := hT.2.2.2.2.1
    have hR := hT.2.1.1
    have hlt : ¬ nI Y.length ≤ nI i := by rw [ni_le (by omega) (by omega)]; omega
    obtain ⟨y, hy⟩ : ∃ y, Y[i]? = some y := ⟨Y[i]'(by omega), List.getElem?_eq_getElem (by omega)⟩
    obtain ⟨⟨y1, y2⟩, y3, y4, y5⟩ := hT.2.2.2.2.2 i y hy
    have nS : ∀ a j, a < 164 → ¬ sA s a j := fun a j ha q => by unfold sA at q; omega
    have z1 : zF (sA s) M (uI M (w + 9) i 0) := zF_i hL hM.2.1 _ (Or.inr e9.symm) (fun s' hs' => by omega)
    have hT1 := TkX_z hs hg hz hT z1 nS
    have hM1 := zF_trans hM z1
    have hD1 := hT1.2.1
    have hy5 : mI (uI M (w + 9) i 0) (g + 3) i = b01 y.2.2 := by rw [m_uI_I, if_neg (by omega)]; exact y5
    rw [← hwe] at hD1
    have hso := fun Q => c_x_isSound (d + 2) w g z y.2.1 y.2.2 dep dr ld (uI M (w + 9) i 0) Q hM1.1 hw hg hz hD1 y2
    have z2 : zF (sA s) (uI M (w + 9) i 0) (uI (uI M (w + 9) i 0) (w + 8) i (tI (sndP dep dr ld y.2.1 y.2.2))) := zF_i hM1.1 hM1.2.1 _ (Or.inl e8.symm) (fun s' hs' => by omega)
    have hT2 := TkX_z hs hg hz hT1 z2 nS
    have hM2 := zF_trans hM1 z2
    have h5w : ¬ (g + 3 = w + 9 ∧ i = i) := by omega
    have hin := l_x_alone2 d s g z v i wt dep dr ld B Y y (uI (uI M (w + 9) i 0) (w + 8) i (tI (sndP dep dr ld y.2.1 y.2.2))) Q hs hg hz hy (fun M' x3 x4 a0 a1 a2 a3 a4 => ?_) B.length 0 (by omega) _ v4 j4 (zF_refl hM2.1 hM2.2.1) hT2 (fun _ _ _ _ _ => rfl) ?_
    · rw [← hwe] at hR hin ⊢
      rw [hX8_markAlone_2]
      have hg9 : ¬ g + 3 = w + 9 := by omega
      have y5' : ∀ x : Int32, (if g + 3 = w + 9 ∧ i = i then x else mI M (g + 3) i) = b01 y.2.2 := fun x => by rw [if_neg (by omega)]; exact y5
      simp +decide (disch := omega) only [qX8_markAlone_0, qX8_markAlone_1, lt_ hL hw, lw_ hL hg, hR, hT.2.2.2.1, y4, jk_w j2, jk_w j3, ni_in_t, ni_tn, am_w1_i, am_w1_r, am_w1_x, am_w1_l, am_w1_w, va_rf_s, am_push_n, am_push_s, am_cs_0, am_cs_i, am_cs_l, am_cs_r, m_uI_K, m_uI_N, m_uI_R, m_uI_L, m_uI_I, m_uL_K, m_uL_N, m_uL_R, m_uL_I, m_uL_L, m_uR_K, m_uR_N, m_uR_I, m_uR_L, m_uR_R, true_and, and_true, hg9, y5, false_and, if_false, hso]
      rw [br_n hlt]
      refine ⟨tI_01 _, ?_⟩
      exact hin
    · rw [ni_add1]
      refine ih (i + 1) (by omega) M' _ _ _ (Or.inr ⟨_, rfl⟩) (Or.inr ⟨_, rfl⟩) a0 (zF_trans hM2 a1) a2 (fun k y' hk hy' => ?_)
      have r9 : mI M' (182 + 13 * s) k = if k = i then 0 else mI M (182 + 13 * s) k := by
        rw [a3 _ _ (by omega) (fun s' hs' => by omega) (by omega), m_uI_I, if_neg (by omega), m_uI_I]
        by_cases ek : k = i
        · rw [if_pos ⟨e9, ek⟩, if_pos ek]
        · rw [if_neg (fun q => ek q.2), if_neg ek]
      by_cases ek : k = i
      · subst ek
        cases hy.symm.trans hy'
        exact ⟨a4, by rw [r9, if_pos rfl]⟩
      · have hh := hall k y' (by omega) hy'
        refine ⟨?_, by rw [r9, if_neg ek]; exact hh.2⟩
        rw [a3 _ _ (by omega) (fun s' hs' => by omega) (fun q => ek q.2), m_uI_I, if_neg (fun q => ek q.2), m_uI_I, if_neg (by omega)]
        exact hh.1
    · rw [m_uI_I, if_pos ⟨e8, rfl⟩]
      exact tI_i ⟨fun q => ⟨q, fun k' f hk' => by omega⟩, fun q => q.1⟩
theorem c_x_markAlone (d s g z v : Nat) (wt : Nat → Prop) (dep : Nat → Nat) (dr ld : Nat) (B : List Fct) (Y : List Sy) (M : am_M) (Q : Option Value → am_M → Prop) (hL : Lay M) (hI : RInv M) (hs : s < 8) (hg : isSh g) (hz : z = 2 ∨ z = 83) (hT : TkX M s g z v wt dep dr ld B Y)
    (hQ : ∀ M', zF (sA s) M M' → TkX M' s g z v wt dep dr ld B Y → (∀ k y, Y[k]? = some y → mI M' (181 + 13 * s) k = tI (goodY wt v (sndP dep dr ld) B y) ∧ mI M' (182 + 13 * s) k = 0) → Q none M') : am_E am_P0 (d + 3) 84 [.ref (173 + 13 * s)] M Q := by
  rw [eX8_markAlone]
  simp +decide only [qX8_markAlone_0, qX8_markAlone_1, am_w1_i, am_w1_r, am_w1_x, am_w1_l, am_w1_w, va_rf_s, am_push_n, am_push_s, am_cs_0, am_cs_i, am_cs_l, am_cs_r, m_uI_K, m_uI_N, m_uI_R, m_uI_L, m_uI_I, m_uL_K, m_uL_N, m_uL_R, m_uL_I, m_uL_L, m_uR_K, m_uR_N, m_uR_I, m_uR_L, m_uR_R, true_and, and_true]
  rw [show (0 : Int32) = nI 0 from rfl]
  exact l_x_alone1 d s g z v wt dep dr ld B Y M Q hs hg hz hQ Y.length 0 (by omega) M am_x am_x am_x (Or.inl rfl) (Or.inl rfl) (Or.inl rfl) (zF_refl hL hI) hT (fun k y hk => by omega)
end
section
/-! the class: the longest chains -/
theorem c_max (d : Nat) (a b : Nat) (M : am_M) (Q : Option Value → am_M → Prop) (ha : a < 2147483648) (hb : b < 2147483648) : am_E am_P0 d 307 [.int (nI a), .int (nI b)] M Q ↔ Q (some (.int (nI (max a b)))) M := by
  rw [eJ9_max_7cf53]
  simp +decide only [qJ9_max_7cf53, am_w1_i, am_w1_r, am_w1_x, am_w1_l, am_w1_w, va_rf_s, am_push_n, am_push_s, am_cs_0, am_cs_i, am_cs_l, am_cs_r, m_uI_K, m_uI_N, m_uI_R, m_uI_L, m_uI_I, m_uL_K, m_uL_N, m_uL_R, m_uL_I, m_uL_L, m_uR_K, m_uR_N, m_uR_I, m_uR_L, m_uR_R, true_and, and_true]
  by_cases c : a < b
  · rw [br_p ((ni_lt ha hb).mpr c), Nat.max_eq_right (by omega)]
  · rw [br_n (fun z => c ((ni_lt ha hb).mp z)), Nat.max_eq_left (by omega)]
/-- one int is changed and nothing else -/
def onI (M M' : am_M) (a i : Nat) : Prop := (∀ b j, ¬ (b = a ∧ j = i) → mI M' b j = mI M b j) ∧ (∀ b j, mL M' b j = mL M b j) ∧ (∀ b j, mR M' b j = mR M b j) ∧ mS M' = mS M
theorem onI_refl (M : am_M) (a i : Nat) : onI M M a i := ⟨fun _ _ _ => rfl, fun _ _ => rfl, fun _ _ => rfl, rfl⟩
theorem onI_trans {M M' M'' : am_M} {a i : Nat} (h1 : onI M M' a i) (h2 : onI M' M'' a i) : onI M M'' a i := ⟨fun b j q => (h2.1 b j q).trans (h1.1 b j q), fun b j => (h2.2.1 b j).trans (h1.2.1 b j), fun b j => (h2.2.2.1 b j).trans (h1.2.2.1 b j), h2.2.2.2.trans h1.2.2.2⟩
theorem onI_u (M : am_M) (a i : Nat) (x : Int32) : onI M (uI M a i x) a i := ⟨fun b j q => by rw [m_uI_I, if_neg q], fun _ _ => rfl, fun _ _ => rfl, rfl⟩
theorem onI_Lay {M M' : am_M} {a i : Nat} (h : onI M M' a i) (hL : Lay M) : Lay M' := Lay_S hL h.2.2.2 h.2.2.1
theorem onI_z {S : Nat → Nat → Prop} {M M' : am_M} {a i : Nat} (h : onI M M' a i) (hL : Lay M) (hI : RInv M) (hS : S a i) (h1 : ∀ s', s' < 8 → ¬ a = 174 + 13 * s' ∧ ¬ a = 177 + 13 * s') : zF S M M' :=
  ⟨onI_Lay h hL, RInv_S hI h.2.2.1 h.2.2.2, by unfold mC; rw [h.2.2.2]; exact Nat.le_refl _, fun b j _ _ q => h.1 b j (fun z => q (by rw [z.1, z.2]; exact hS)), fun b j _ _ => h.2.1 b j, fun b j _ _ => h.2.2.1 b j, fun s' v wt hs' hT => TrW_S hT (fun k => h.1 _ _ (fun z => (h1 s' hs').1 z.1.symm)) (fun k => h.1 _ _ (fun z => (h1 s' hs').2 z.1.symm)) h.2.1 h.2.2.1⟩
theorem srtY_lt {Y : List Sy} (h : srtY Y) {i j : Nat} {y y' : Sy} (hy : Y[i]? = some y) (hy' : Y[j]? = some y') (hij : i < j) : y.1 < y'.1 := by
  obtain ⟨h1, e1⟩ := List.getElem?_eq_some_iff.mp hy
  obtain ⟨h2, e2⟩ := List.getElem?_eq_some_iff.mp hy'
  rw [← e1, ← e2]
  exact List.pairwise_iff_getElem.mp h i j h1 h2 hij
theorem l_x_chain2 (d s g z v i r : Nat) (wt : Nat → Prop) (dep : Nat → Nat) (dr ld : Nat) (B : List Fct) (Y : List Sy) (y : Sy) (M0 : am_M) (Q : Option Value → am_M → Prop) (x1 : Int32) (f : Nat → Nat) (hfb : ∀ k, f k ≤ 48) (hs : s < 8) (hg : isSh g) (hz : z = 2 ∨ z = 83) (hy : Y[i]? = some y) (hsr : srtY Y) (hL : Lay M0) (hI : RInv M0) (hr : 336 ≤ r ∧ r < mC M0) (hT : TkX M0 s g z v wt dep dr ld B Y)
    (hring : ∀ t, t < 48 → isB wt y.2.1 (t * v) (rw4 M0 r t)) (hlg : ∀ k, i < k → k < Y.length → mI M0 (184 + 13 * s) k = nI (f k))
    (hQ : ∀ M' v5, jk v5 → onI M0 M' (184 + 13 * s) i → mI M' (184 + 13 * s) i = nI (mx1 f (goF wt v Y i) (i + 1) (Y.length - (i + 1))) → am_P am_P0 (d + 3) (am_look tX8_countChains) 167 [.ref (173 + 13 * s), .int x1, .int (nI i), .ref r, .int (nI Y.length), v5] [] M' Q) :
    ∀ (m j : Nat), j + m = Y.length → i + 1 ≤ j → ∀ (M : am_M) (v5 : Value), jk v5 → onI M0 M (184 + 13 * s) i → mI M (184 + 13 * s) i = nI (mx1 f (goF wt v Y i) (i + 1) (j - (i + 1))) → am_P am_P0 (d + 3) (am_look tX8_countChains) 57 [.ref (173 + 13 * s), .int x1, .int (nI i), .ref r, .int (nI j), v5] [] M Q := by
  obtain ⟨w, hwe⟩ : ∃ w, w = 173 + 13 * s := ⟨_, rfl⟩
  have hw : isTr w := ⟨s, hs, hwe⟩
  have hgl := isSh_lt hg
  have e11 : 184 + 13 * s = w + 11 := by omega
  have hil := (List.getElem?_eq_some_iff.mp hy).1
  have h48 := hT.2.2.2.2.1
  have hmb : ∀ m, mx1 f (goF wt v Y i) (i + 1) m ≤ 48 := fun m => by
    rcases mx1_at (f := f) (g := goF wt v Y i) (a := i + 1) (m := m) with e | ⟨j, -, -, -, e⟩
    · omega
    · rw [← e]; exact hfb j
  have nS : ∀ a j, a < 164 → ¬ (fun a (_ : Nat) => a = 184 + 13 * s) a j := fun a j ha q => by have q' : a = 184 + 13 * s := q; omega
  have hrk := lay_ring hL hr.1 hr.2
  rw [e11] at hlg hQ ⊢
  intro m
  induction m with
  | zero =>
    intro j hj hij M v5 j5 hM hm
    have e : j = Y.length := by omega
    subst e
    have hLM := onI_Lay hM hL
    have hz1 : zF (fun a _ => a = 184 + 13 * s) M0 M := onI_z hM hL hI e11.symm (fun s' hs' => by omega)
    have hTM := TkX_z hs hg hz hT hz1 nS
    have hR := hTM.2.1.1
    have hle : nI Y.length ≤ nI Y.length := (ni_le (by omega) (by omega)).mpr (Nat.le_refl _)
    have h0 := hQ M v5 j5 hM hm
    rw [← hwe] at hR h0 ⊢
    rw [hX8_countChains_57]
    simp +decide (disch := omega) only [qX8_countChains_0, qX8_countChains_1, qX8_countChains_2, lt_ hLM hw, lw_ hLM hg, hR, hTM.2.2.2.1, hm, ni_in_t, ni_tn, am_w1_i, am_w1_r, am_w1_x, am_w1_l, am_w1_w, va_rf_s, am_push_n, am_push_s, am_cs_0, am_cs_i, am_cs_l, am_cs_r, m_uI_K, m_uI_N, m_uI_R, m_uI_L, m_uI_I, m_uL_K, m_uL_N, m_uL_R, m_uL_I, m_uL_L, m_uR_K, m_uR_N, m_uR_I, m_uR_L, m_uR_R, true_and, and_true] at h0 ⊢
    rw [br_p hle]
    exact h0
  | succ m ih =>
    intro j hj hij M v5 j5 hM hm
    have hLM := onI_Lay hM hL
    have hz1 : zF (fun a _ => a = 184 + 13 * s) M0 M := onI_z hM hL hI e11.symm (fun s' hs' => by omega)
    have hTM := TkX_z hs hg hz hT hz1 nS
    have hR := hTM.2.1.1
    have hlt : ¬ nI Y.length ≤ nI j := by rw [ni_le (by omega) (by omega)]; omega
    obtain ⟨z', hz'⟩ : ∃ z', Y[j]? = some z' := ⟨Y[j]'(by omega), List.getElem?_eq_getElem (by omega)⟩
    obtain ⟨⟨y1, y2⟩, y3, y4, y5⟩ := hTM.2.2.2.2.2 i y hy
    obtain ⟨⟨z1, z2⟩, z3, z4, z5⟩ := hTM.2.2.2.2.2 j z' hz'
    have hts := srtY_lt hsr hy hz' (by omega)
    have hq6 : z'.2.1 % 64 < 64 := Nat.mod_lt _ (by decide)
    have rj : mI M (w + 11) j = nI (f j) := by rw [hM.1 _ _ (by omega)]; exact hlg j (by omega) (by omega)
    have hrK : mK M r = 1 := by unfold mK; rw [hM.2.2.2]; exact hrk.1
    have hrN : mN M r = 192 := by unfold mN; rw [hM.2.2.2]; exact hrk.2
    have eat : (nI z'.1 - nI y.1) * 4 + nI (z'.2.1 / 64) = nI (4 * (z'.1 - y.1) + z'.2.1 / 64) := by
      rw [ni_sub (by omega), show (4 : Int32) = nI 4 from rfl, ni_mul, ni_add, Nat.mul_comm]
    have hgo := goF_y (w := wt) (v := v) hy hz'
    have hbit : sbit (mL M r (4 * (z'.1 - y.1) + z'.2.1 / 64)) (z'.2.1 % 64) = true ↔ gowY wt v y z' := by
      rw [hM.2.1]
      have hb := hring (z'.1 - y.1) (by omega) z'.2.1
      unfold gowY wit hd_
      rw [if_pos hts]
      rw [← hb]
      exact ⟨fun q => ⟨z2, q⟩, fun q => q.2⟩
    have hstep : mx1 f (goF wt v Y i) (i + 1) (j + 1 - (i + 1)) = max (mx1 f (goF wt v Y i) (i + 1) (j - (i + 1))) (if goF wt v Y i j = true then f j else 0) := by
      rw [show j + 1 - (i + 1) = (j - (i + 1)) + 1 by omega]
      show max _ _ = _
      rw [show i + 1 + (j - (i + 1)) = j by omega]
    have b1 := hfb j
    have b2 := hmb (j - (i + 1))
    have skip : mx1 f (goF wt v Y i) (i + 1) (j + 1 - (i + 1)) = mx1 f (goF wt v Y i) (i + 1) (j - (i + 1)) → ∀ v5', jk v5' → am_P am_P0 (d + 3) (am_look tX8_countChains) 57 [.ref w, .int x1, .int (nI i), .ref r, .int (nI (j + 1)), v5'] [] M Q := fun hsk v5' hj5 => by
      have h0 := ih (j + 1) (by omega) (by omega) M v5' hj5 hM (by rw [hm, hsk])
      rw [← hwe] at h0
      exact h0
    rw [← hwe] at hR ⊢
    rw [hX8_countChains_57]
    simp +decide (disch := omega) only [qX8_countChains_0, qX8_countChains_1, qX8_countChains_2, lt_ hLM hw, lw_ hLM hg, hR, hTM.2.2.2.1, hm, rj, y3, z3, z4, hrK, hrN, sr6 z'.2.1 z2, an63 z'.2.1 z2, eat, lgc_0, bt_test _ hq6, ni_in_t, ni_tn, ni_add1, am_w1_i, am_w1_r, am_w1_x, am_w1_l, am_w1_w, va_rf_s, am_push_n, am_push_s, am_cs_0, am_cs_i, am_cs_l, am_cs_r, m_uI_K, m_uI_N, m_uI_R, m_uI_L, m_uI_I, m_uL_K, m_uL_N, m_uL_R, m_uL_I, m_uL_L, m_uR_K, m_uR_N, m_uR_I, m_uR_L, m_uR_R, true_and, and_true]
    rw [br_n hlt]
    by_cases c1 : f j ≤ mx1 f (goF wt v Y i) (i + 1) (j - (i + 1))
    · rw [br_p ((ni_le (by omega) (by omega)).mpr c1)]
      refine skip ?_ _ (Or.inr ⟨_, rfl⟩)
      rw [hstep]
      split
      · rw [Nat.max_eq_left c1]
      · rw [Nat.max_zero]
    · rw [br_n (fun q => c1 ((ni_le (by omega) (by omega)).mp q))]
      by_cases c2 : sbit (mL M r (4 * (z'.1 - y.1) + z'.2.1 / 64)) (z'.2.1 % 64) = true
      · rw [br_r c2]
        rw [if_pos (hgo.mpr (hbit.mp c2))] at hstep
        have h0 := ih (j + 1) (by omega) (by omega) (uI M (w + 11) i (nI (f j))) (.int (nI (4 * (z'.1 - y.1) + z'.2.1 / 64))) (Or.inr ⟨_, rfl⟩) (onI_trans hM (onI_u M (w + 11) i _)) (by rw [m_uI_I, if_pos ⟨rfl, rfl⟩, hstep, Nat.max_eq_right (by omega)])
        rw [← hwe] at h0
        exact h0
      · rw [br_q c2]
        rw [if_neg (fun q => c2 (hbit.mpr (hgo.mp q))), Nat.max_zero] at hstep
        exact skip hstep _ (Or.inr ⟨_, rfl⟩)
end
section
/-! the class: countChains -/
def sM (s a _j : Nat) : Prop := a = 184 + 13 * s
theorem l_x_chain1 (d s g z v : Nat) (wt : Nat → Prop) (dep : Nat → Nat) (dr ld : Nat) (B : List Fct) (Y : List Sy) (M0 : am_M) (Q : Option Value → am_M → Prop) (hs : s < 8) (hg : isSh g) (hz : z = 2 ∨ z = 83) (hsr : srtY Y) (hal : ∀ k y, Y[k]? = some y → mI M0 (181 + 13 * s) k = tI (goodY wt v (sndP dep dr ld) B y))
    (hQ : ∀ M', zF (sM s) M0 M' → TkX M' s g z v wt dep dr ld B Y → (∀ k, k < Y.length → mI M' (184 + 13 * s) k = nI (lgY wt v (sndP dep dr ld) B Y k)) → Q (some (.int (nI (mostY wt v (sndP dep dr ld) B Y)))) M') :
    ∀ (i : Nat), i ≤ Y.length → ∀ (M : am_M) (v3 v4 v5 : Value), jk v5 → zF (sM s) M0 M → TkX M s g z v wt dep dr ld B Y → (∀ k, i ≤ k → k < Y.length → mI M (184 + 13 * s) k = nI (lgY wt v (sndP dep dr ld) B Y k)) → am_P am_P0 (d + 3) (am_look tX8_countChains) 12 [.ref (173 + 13 * s), .int (nI (mx1 (lgY wt v (sndP dep dr ld) B Y) (fun _ => true) i (Y.length - i))), .int (nI i - 1), v3, v4, v5] [] M Q := by
  obtain ⟨w, hwe⟩ : ∃ w, w = 173 + 13 * s := ⟨_, rfl⟩
  have hw : isTr w := ⟨s, hs, hwe⟩
  have hgl := isSh_lt hg
  have e8 : 181 + 13 * s = w + 8 := by omega
  have e11 : 184 + 13 * s = w + 11 := by omega
  have e1 : 174 + 13 * s = w + 1 := by omega
  have nS : ∀ a j, a < 164 → ¬ sM s a j := fun a j ha q => by unfold sM at q; omega
  intro i
  induction i with
  | zero =>
    intro _ M v3 v4 v5 j5 hM hT hm
    have e : mx1 (lgY wt v (sndP dep dr ld) B Y) (fun _ => true) 0 (Y.length - 0) = mostY wt v (sndP dep dr ld) B Y := mx1_all _ _
    have e0 : nI 0 - 1 = -1 := rfl
    rw [e, e0, hX8_countChains_12]
    simp +decide only [qX8_countChains_0, qX8_countChains_1, qX8_countChains_2, am_w1_i, am_w1_r, am_w1_x, am_w1_l, am_w1_w, va_rf_s, am_push_n, am_push_s, am_cs_0, am_cs_i, am_cs_l, am_cs_r, m_uI_K, m_uI_N, m_uI_R, m_uI_L, m_uI_I, m_uL_K, m_uL_N, m_uL_R, m_uL_I, m_uL_L, m_uR_K, m_uR_N, m_uR_I, m_uR_L, m_uR_R, true_and, and_true, true_implies, false_implies]
    exact hQ M hM hT (fun k hk => hm k (by omega) hk)
  | succ i ih =>
    intro hi M v3 v4 v5 j5 hM hT hm
    have hL := hM.1
    have h48 := hT.2.2.2.2.1
    have hfb := lgY_b wt v (sndP dep dr ld) B Y h48
    have hmb : ∀ a m, mx1 (lgY wt v (sndP dep dr ld) B Y) (fun _ => true) a m ≤ 48 := fun a m => by
      rcases mx1_at (f := lgY wt v (sndP dep dr ld) B Y) (g := fun _ => true) (a := a) (m := m) with e | ⟨j, -, -, -, e⟩
      · omega
      · rw [← e]; exact hfb j
    have hR := hT.2.1.1
    have ei : nI (i + 1) - 1 = nI i := by rw [show (1 : Int32) = nI 1 from rfl, ni_sub (by omega)]; rfl
    have em : nI i + -1 = nI i - 1 := (Int32.sub_eq_add_neg _ _).symm
    have hn0 : ¬ nI i < 0 := by rw [show (0 : Int32) = nI 0 from rfl, ni_lt (by omega) (by omega)]; omega
    obtain ⟨y, hy⟩ : ∃ y, Y[i]? = some y := ⟨Y[i]'(by omega), List.getElem?_eq_getElem (by omega)⟩
    obtain ⟨⟨y1, y2⟩, y3, y4, y5⟩ := hT.2.2.2.2.2 i y hy
    have hgd := gdF_y (w := wt) (v := v) (snd := sndP dep dr ld) (B := B) hy
    have ral : mI M (w + 8) i = tI (goodY wt v (sndP dep dr ld) B y) := by
      rw [hM.2.2.2.1 _ _ (by omega) (fun s' hs' => by omega) (fun q => by unfold sM at q; omega), ← e8]
      exact hal i y hy
    have hstep : mx1 (lgY wt v (sndP dep dr ld) B Y) (fun _ => true) i (Y.length - i) = max (lgY wt v (sndP dep dr ld) B Y i) (mx1 (lgY wt v (sndP dep dr ld) B Y) (fun _ => true) (i + 1) (Y.length - (i + 1))) := by
      rw [show Y.length - i = (Y.length - (i + 1)) + 1 by omega, mx1_dn, if_pos rfl]
    have z1 : zF (sM s) M (uI M (w + 11) i 0) := zF_i hL hM.2.1 _ e11.symm (fun s' hs' => by omega)
    have hM1 := zF_trans hM z1
    have hT1 := TkX_z hs hg hz hT z1 nS
    have b1 := hfb i
    have b2 := hmb (i + 1) (Y.length - (i + 1))
    have n8 : ¬ w + 8 = w + 11 := by omega
    have ng2 : ¬ g + 2 = w + 11 := by omega
    rw [ei]
    by_cases c1 : goodY wt v (sndP dep dr ld) B y
    · rw [tI_t c1] at ral
      have hgi := hgd.mpr c1
      rw [← hwe] at hR ⊢
      rw [hX8_countChains_12]
      simp +decide (disch := omega) only [qX8_countChains_0, qX8_countChains_1, qX8_countChains_2, lt_ hL hw, lw_ hL hg, hR, ral, y4, n8, ng2, ni_in_t, ni_tn, am_w1_i, am_w1_r, am_w1_x, am_w1_l, am_w1_w, va_rf_s, am_push_n, am_push_s, am_cs_0, am_cs_i, am_cs_l, am_cs_r, m_uI_K, m_uI_N, m_uI_R, m_uI_L, m_uI_I, m_uL_K, m_uL_N, m_uL_R, m_uL_I, m_uL_L, m_uR_K, m_uR_N, m_uR_I, m_uR_L, m_uR_R, true_and, and_true, if_false, false_and, not_true_eq_false, not_false_eq_true, true_implies, false_implies]
      rw [br_n hn0, ← e1]
      refine c_x_ringsOf (d + 1) s y.2.1 v wt (uI M (w + 11) i 0) _ hM1.1 hs y2 hT1.1.1 hT1.1.2.1 hT1.1.2.2.1 hM1.2.1 (hT1.1.2.2.2 y.2.1 y2) (fun r M2 h2 => ?_)
      have F2 := rgP_F hM1.1 hM1.2.1 hs y2 hT1.1 h2
      have hM2 : zF (sM s) M0 M2 := zF_trans hM1 (zF_r F2)
      have hT2 := TkX_z hs hg hz hT1 (zF_r F2 : zF (sM s) _ M2) nS
      have r11 : ∀ k, mI M2 (w + 11) k = mI (uI M (w + 11) i 0) (w + 11) k := fun k => F2.2.2.2.1 _ _ (by omega) (fun s' hs' => by omega)
      simp +decide only [qX8_countChains_0, qX8_countChains_1, qX8_countChains_2, ni_add1, am_w1_i, am_w1_r, am_w1_x, am_w1_l, am_w1_w, va_rf_s, am_push_n, am_push_s, am_cs_0, am_cs_i, am_cs_l, am_cs_r, m_uI_K, m_uI_N, m_uI_R, m_uI_L, m_uI_I, m_uL_K, m_uL_N, m_uL_R, m_uL_I, m_uL_L, m_uR_K, m_uR_N, m_uR_I, m_uR_L, m_uR_R, true_and, and_true]
      have h0 := l_x_chain2 d s g z v i r wt dep dr ld B Y y M2 Q (nI (mx1 (lgY wt v (sndP dep dr ld) B Y) (fun _ => true) (i + 1) (Y.length - (i + 1)))) (lgY wt v (sndP dep dr ld) B Y) hfb hs hg hz hy hsr hM2.1 hM2.2.1 ⟨h2.2.2.2.2.2.1.1, h2.2.2.2.2.2.1.2⟩ hT2 h2.2.1 (fun k k1 k2 => ?_) (fun M3 v5' j5' g3 m3 => ?_) (Y.length - (i + 1)) (i + 1) (by omega) (Nat.le_refl _) M2 v5 j5 (onI_refl _ _ _) ?_
      · rw [← hwe] at h0
        exact h0
      · rw [e11, r11, m_uI_I, if_neg (by omega), ← e11]
        exact hm k (by omega) k2
      · have z3 : zF (sM s) M2 M3 := onI_z g3 hM2.1 hM2.2.1 rfl (fun s' hs' => by omega)
        have hM3 := zF_trans hM2 z3
        have hT3 := TkX_z hs hg hz hT2 z3 nS
        have efi : lgY wt v (sndP dep dr ld) B Y i = mx1 (lgY wt v (sndP dep dr ld) B Y) (goF wt v Y i) (i + 1) (Y.length - (i + 1)) + 1 := by
          show lg _ _ _ i = _
          rw [lg_eq (by omega), if_pos hgi, Nat.add_comm]
          rfl
        rw [e11] at m3
        have z4 : zF (sM s) M3 (uI M3 (w + 11) i (nI (lgY wt v (sndP dep dr ld) B Y i))) := zF_i hM3.1 hM3.2.1 _ e11.symm (fun s' hs' => by omega)
        have h9 := ih (by omega) (uI M3 (w + 11) i (nI (lgY wt v (sndP dep dr ld) B Y i))) (.ref r) (.int (nI Y.length)) v5' j5' (zF_trans hM3 z4) (TkX_z hs hg hz hT3 z4 nS) (fun k k1 k2 => ?_)
        · have hmx := fun M' Q => c_max (d + 2) (mx1 (lgY wt v (sndP dep dr ld) B Y) (fun _ => true) (i + 1) (Y.length - (i + 1))) (lgY wt v (sndP dep dr ld) B Y i) M' Q (by omega) (by omega)
          rw [hstep, Nat.max_comm] at h9
          rw [← hwe] at h9 ⊢
          have L3 := hM3.1
          simp +decide (disch := omega) only [qX8_countChains_0, qX8_countChains_1, qX8_countChains_2, lt_ L3 hw, m3, ni_add1, ← efi, hmx, em, ni_in_t, ni_tn, am_w1_i, am_w1_r, am_w1_x, am_w1_l, am_w1_w, va_rf_s, am_push_n, am_push_s, am_cs_0, am_cs_i, am_cs_l, am_cs_r, m_uI_K, m_uI_N, m_uI_R, m_uI_L, m_uI_I, m_uL_K, m_uL_N, m_uL_R, m_uL_I, m_uL_L, m_uR_K, m_uR_N, m_uR_I, m_uR_L, m_uR_R, true_and, and_true, and_self, if_true]
          exact h9
        · rw [e11, m_uI_I]
          by_cases ek : k = i
          · subst ek; rw [if_pos ⟨rfl, rfl⟩]
          · rw [if_neg (fun q => ek q.2), g3.1 _ _ (fun q => ek q.2), r11, m_uI_I, if_neg (fun q => ek q.2), ← e11]
            exact hm k (by omega) k2
      · rw [e11, r11, m_uI_I, if_pos ⟨rfl, rfl⟩, Nat.sub_self]
        rfl
    · rw [tI_f c1] at ral
      have hz0 : lgY wt v (sndP dep dr ld) B Y i = 0 := by unfold lgY; exact lg_0 (fun q => c1 (hgd.mp q))
      have h9 := ih (by omega) (uI M (w + 11) i 0) v3 v4 v5 j5 hM1 hT1 (fun k k1 k2 => ?_)
      · rw [hstep, hz0, Nat.max_eq_right (Nat.zero_le _)] at h9
        rw [← hwe] at h9 ⊢
        rw [hX8_countChains_12]
        simp +decide (disch := omega) only [qX8_countChains_0, qX8_countChains_1, qX8_countChains_2, lt_ hL hw, ral, em, n8, ni_in_t, ni_tn, am_w1_i, am_w1_r, am_w1_x, am_w1_l, am_w1_w, va_rf_s, am_push_n, am_push_s, am_cs_0, am_cs_i, am_cs_l, am_cs_r, m_uI_K, m_uI_N, m_uI_R, m_uI_L, m_uI_I, m_uL_K, m_uL_N, m_uL_R, m_uL_I, m_uL_L, m_uR_K, m_uR_N, m_uR_I, m_uR_L, m_uR_R, true_and, and_true, if_false, false_and, not_true_eq_false, not_false_eq_true, true_implies, false_implies]
        rw [br_n hn0]
        exact h9
      · rw [e11, m_uI_I]
        by_cases ek : k = i
        · subst ek; rw [if_pos ⟨rfl, rfl⟩, hz0]; rfl
        · rw [if_neg (fun q => ek q.2), ← e11]
          exact hm k (by omega) k2
theorem c_x_countChains (d s g z v : Nat) (wt : Nat → Prop) (dep : Nat → Nat) (dr ld : Nat) (B : List Fct) (Y : List Sy) (M : am_M) (Q : Option Value → am_M → Prop) (hL : Lay M) (hI : RInv M) (hs : s < 8) (hg : isSh g) (hz : z = 2 ∨ z = 83) (hsr : srtY Y) (hT : TkX M s g z v wt dep dr ld B Y) (hal : ∀ k y, Y[k]? = some y → mI M (181 + 13 * s) k = tI (goodY wt v (sndP dep dr ld) B y))
    (hQ : ∀ M', zF (sM s) M M' → TkX M' s g z v wt dep dr ld B Y → (∀ k, k < Y.length → mI M' (184 + 13 * s) k = nI (lgY wt v (sndP dep dr ld) B Y k)) → Q (some (.int (nI (mostY wt v (sndP dep dr ld) B Y)))) M') : am_E am_P0 (d + 3) 85 [.ref (173 + 13 * s)] M Q := by
  obtain ⟨w, hwe⟩ : ∃ w, w = 173 + 13 * s := ⟨_, rfl⟩
  have hw : isTr w := ⟨s, hs, hwe⟩
  have h0 := l_x_chain1 d s g z v wt dep dr ld B Y M Q hs hg hz hsr hal hQ Y.length (Nat.le_refl _) M am_x am_x am_x (Or.inl rfl) (zF_refl hL hI) hT (fun k k1 k2 => by omega)
  have hR := hT.2.1.1
  rw [Nat.sub_self] at h0
  have e0 : mx1 (lgY wt v (sndP dep dr ld) B Y) (fun _ => true) Y.length 0 = 0 := rfl
  rw [e0] at h0
  rw [← hwe] at hR h0 ⊢
  rw [eX8_countChains]
  simp +decide only [qX8_countChains_0, qX8_countChains_1, qX8_countChains_2, lt_ hL hw, lw_ hL hg, hR, hT.2.2.2.1, am_w1_i, am_w1_r, am_w1_x, am_w1_l, am_w1_w, va_rf_s, am_push_n, am_push_s, am_cs_0, am_cs_i, am_cs_l, am_cs_r, m_uI_K, m_uI_N, m_uI_R, m_uI_L, m_uI_I, m_uL_K, m_uL_N, m_uL_R, m_uL_I, m_uL_L, m_uR_K, m_uR_N, m_uR_I, m_uR_L, m_uR_R, true_and, and_true]
  exact h0
end
section
/-! the class: keep -/
def sKp (s a j : Nat) : Prop := a = 182 + 13 * s ∨ (a = 173 + 13 * s ∧ j = 11)
theorem l_x_keep (d s g z v : Nat) (wt : Nat → Prop) (dep : Nat → Nat) (dr ld : Nat) (B : List Fct) (Y : List Sy) (M0 : am_M) (Q : Option Value → am_M → Prop) (hs : s < 8) (hg : isSh g) (hz : z = 2 ∨ z = 83) (hsr : srtY Y) (hmk : ∀ k, k < Y.length → mI M0 (184 + 13 * s) k = nI (lgY wt v (sndP dep dr ld) B Y k))
    (hQ : ∀ M', zF (sKp s) M0 M' → TkX M' s g z v wt dep dr ld B Y → mI M' (173 + 13 * s) 11 = nI (mostY wt v (sndP dep dr ld) B Y) → (∀ k, k < Y.length → mI M' (182 + 13 * s) k = tI (keptY wt v (sndP dep dr ld) B Y k)) → Q none M') :
    ∀ (m i : Nat), i + m = Y.length → ∀ (M : am_M), zF (sKp s) M0 M → TkX M s g z v wt dep dr ld B Y → mI M (173 + 13 * s) 11 = nI (kpS (mostY wt v (sndP dep dr ld) B Y) (lgY wt v (sndP dep dr ld) B Y) (goF wt v Y) i).1 → (∀ k, k < Y.length → mI M (182 + 13 * s) k = tI (k < i ∧ keptY wt v (sndP dep dr ld) B Y k)) →
    am_P am_P0 (d + 3) (am_look tX8_keep) 4 [.ref (173 + 13 * s), .int (nI (mostY wt v (sndP dep dr ld) B Y)), .int (match (kpS (mostY wt v (sndP dep dr ld) B Y) (lgY wt v (sndP dep dr ld) B Y) (goF wt v Y) i).2 with | none => -1 | some l => nI l), .int (nI i)] [] M Q := by
  obtain ⟨w, hwe⟩ : ∃ w, w = 173 + 13 * s := ⟨_, rfl⟩
  have hw : isTr w := ⟨s, hs, hwe⟩
  have hgl := isSh_lt hg
  have e9 : 182 + 13 * s = w + 9 := by omega
  have e11 : 184 + 13 * s = w + 11 := by omega
  have e1 : 174 + 13 * s = w + 1 := by omega
  have nS : ∀ a j, a < 164 → ¬ sKp s a j := fun a j ha q => by unfold sKp at q; omega
  have hkA := kp_all (n := Y.length) (gd := gdF wt v (sndP dep dr ld) B Y) (go := goF wt v Y) (L := mostY wt v (sndP dep dr ld) B Y) rfl
  have hkI := fun i hi => (kp_inv (n := Y.length) (gd := gdF wt v (sndP dep dr ld) B Y) (go := goF wt v Y) (L := mostY wt v (sndP dep dr ld) B Y) rfl i hi).1
  obtain ⟨L, hLe⟩ : ∃ L, L = mostY wt v (sndP dep dr ld) B Y := ⟨_, rfl⟩
  obtain ⟨f, hfe⟩ : ∃ f, f = lgY wt v (sndP dep dr ld) B Y := ⟨_, rfl⟩
  obtain ⟨go, hge⟩ : ∃ go, go = goF wt v Y := ⟨_, rfl⟩
  have hkA' : (kpS L f go Y.length).1 = L := by rw [hLe, hfe, hge]; exact hkA
  have hkI' : ∀ i, i ≤ Y.length → (kpS L f go i).1 ≤ L := fun i hi => by rw [hLe, hfe, hge]; exact hkI i hi
  have hkY : ∀ k, keptY wt v (sndP dep dr ld) B Y k ↔ k < Y.length ∧ kpT L f go k := fun k => by rw [hLe, hfe, hge]; exact Iff.rfl
  rw [← hLe] at hQ
  rw [← hLe, ← hfe, ← hge]
  rw [← hfe] at hmk
  intro m
  induction m with
  | zero =>
    intro i hi M hM hT hc hk
    have e : i = Y.length := by omega
    have h48 := hT.2.2.2.2.1
    have hR := hT.2.1.1
    have hle : nI Y.length ≤ nI i := (ni_le (by omega) (by omega)).mpr (by omega)
    have h0 := hQ M hM hT (by rw [hc, e, hkA']) (fun k hk2 => by rw [hk k hk2]; exact tI_i (and_iff_right (by omega)))
    rw [← hwe] at hR ⊢
    rw [hX8_keep_4]
    simp +decide only [qX8_keep_0, qX8_keep_1, lt_ hM.1 hw, lw_ hM.1 hg, hR, hT.2.2.2.1, am_w1_i, am_w1_r, am_w1_x, am_w1_l, am_w1_w, va_rf_s, am_push_n, am_push_s, am_cs_0, am_cs_i, am_cs_l, am_cs_r, m_uI_K, m_uI_N, m_uI_R, m_uI_L, m_uI_I, m_uL_K, m_uL_N, m_uL_R, m_uL_I, m_uL_L, m_uR_K, m_uR_N, m_uR_I, m_uR_L, m_uR_R, true_and, and_true]
    rw [br_p hle]
    exact h0
  | succ m ih =>
    intro i hi M hM hT hc hk
    have hL := hM.1
    have h48 := hT.2.2.2.2.1
    have hfb : ∀ k, f k ≤ 48 := by rw [hfe]; exact lgY_b wt v (sndP dep dr ld) B Y h48
    have hLb : L ≤ 48 := by
      rw [hLe]
      unfold mostY
      rcases lgM_at (f := lgY wt v (sndP dep dr ld) B Y) (k := Y.length) with e | ⟨j, -, e⟩
      · omega
      · rw [← e, ← hfe]; exact hfb j
    have hcl := hkI' i (by omega)
    have hR := hT.2.1.1
    have hlt : ¬ nI Y.length ≤ nI i := by rw [ni_le (by omega) (by omega)]; omega
    obtain ⟨y, hy⟩ : ∃ y, Y[i]? = some y := ⟨Y[i]'(by omega), List.getElem?_eq_getElem (by omega)⟩
    obtain ⟨⟨y1, y2⟩, y3, y4, y5⟩ := hT.2.2.2.2.2 i y hy
    have r11 : mI M (w + 11) i = nI (f i) := by
      rw [hM.2.2.2.1 _ _ (by omega) (fun s' hs' => by omega) (fun q => by unfold sKp at q; omega), ← e11]
      exact hmk i (by omega)
    have b1 := hfb i
    have esub : nI L - nI (kpS L f go i).1 = nI (L - (kpS L f go i).1) := ni_sub hcl
    -- not taken
    have hno : ∀ M1, zF (sKp s) M M1 → TkX M1 s g z v wt dep dr ld B Y → (∀ a j, a = 182 + 13 * s ∨ (a = 173 + 13 * s ∧ j = 11) → mI M1 a j = mI M a j) → ¬ kpT L f go i → am_P am_P0 (d + 3) (am_look tX8_keep) 4 [.ref w, .int (nI L), .int (match (kpS L f go i).2 with | none => -1 | some l => nI l), .int (nI (i + 1))] [] M1 Q := by
      intro M1 g1 hT1 k1 hn
      have h0 := ih (i + 1) (by omega) M1 (zF_trans hM g1) hT1 (by rw [k1 _ _ (Or.inr ⟨rfl, rfl⟩), hc, kpS_f hn]) (fun k hk2 => ?_)
      · rw [kpS_f hn, ← hwe] at h0
        exact h0
      · rw [k1 _ _ (Or.inl rfl), hk k hk2]
        refine tI_i ⟨fun q => ⟨by omega, q.2⟩, fun q => ⟨?_, q.2⟩⟩
        by_cases ek : k = i
        · subst ek; exact absurd ((hkY k).mp q.2).2 hn
        · omega
    -- taken
    have hyes : ∀ M1, zF (sKp s) M M1 → TkX M1 s g z v wt dep dr ld B Y → (∀ a j, a = 182 + 13 * s ∨ (a = 173 + 13 * s ∧ j = 11) → mI M1 a j = mI M a j) → kpT L f go i → am_P am_P0 (d + 3) (am_look tX8_keep) 4 [.ref w, .int (nI L), .int (nI i), .int (nI (i + 1))] [] (uI (uI M1 (w + 9) i 1) w 11 (nI ((kpS L f go i).1 + 1))) Q := by
      intro M1 g1 hT1 k1 ht
      have hM1 := zF_trans hM g1
      have z1 : zF (sKp s) M1 (uI M1 (w + 9) i 1) := zF_i hM1.1 hM1.2.1 _ (Or.inl e9.symm) (fun s' hs' => by omega)
      have z2 : zF (sKp s) (uI M1 (w + 9) i 1) (uI (uI M1 (w + 9) i 1) w 11 (nI ((kpS L f go i).1 + 1))) := zF_i z1.1 z1.2.1 _ (Or.inr ⟨hwe, rfl⟩) (fun s' hs' => by omega)
      have h0 := ih (i + 1) (by omega) _ (zF_trans hM1 (zF_trans z1 z2)) (TkX_z hs hg hz (TkX_z hs hg hz hT1 z1 nS) z2 nS) (by rw [m_uI_I, if_pos ⟨hwe.symm, rfl⟩, kpS_t ht]) (fun k hk2 => ?_)
      · rw [kpS_t ht, ← hwe] at h0
        exact h0
      · rw [m_uI_I, if_neg (by omega), m_uI_I]
        by_cases ek : k = i
        · subst ek
          rw [if_pos ⟨e9, rfl⟩]
          exact (tI_t ⟨by omega, (hkY k).mpr ⟨by omega, ht⟩⟩).symm
        · rw [if_neg (fun q => ek q.2), k1 _ _ (Or.inl rfl), hk k hk2]
          exact tI_i ⟨fun q => ⟨by omega, q.2⟩, fun q => ⟨by omega, q.2⟩⟩
    have hMr := zF_refl (S := sKp s) hL hM.2.1
    have n9 : ¬ (w = w + 9 ∧ 11 = i) := by omega
    have nw9 : ¬ w = w + 9 := by omega
    rw [← hwe] at hR hc ⊢
    rw [hX8_keep_4]
    by_cases c1 : (kpS L f go i).1 < L
    · have hc1 : ¬ nI L ≤ nI (kpS L f go i).1 := by rw [ni_le (by omega) (by omega)]; omega
      cases hls : (kpS L f go i).2 with
      | none =>
        have hno' := hno M hMr hT (fun _ _ _ => rfl)
        have hyes' := hyes M hMr hT (fun _ _ _ => rfl)
        rw [hls] at hno'
        dsimp only at hno' ⊢
        simp +decide (disch := omega) only [qX8_keep_0, qX8_keep_1, lt_ hL hw, lw_ hL hg, hR, hT.2.2.2.1, hc, r11, esub, nw9, ni_in_t, ni_tn, ni_add1, am_w1_i, am_w1_r, am_w1_x, am_w1_l, am_w1_w, va_rf_s, am_push_n, am_push_s, am_cs_0, am_cs_i, am_cs_l, am_cs_r, m_uI_K, m_uI_N, m_uI_R, m_uI_L, m_uI_I, m_uL_K, m_uL_N, m_uL_R, m_uL_I, m_uL_L, m_uR_K, m_uR_N, m_uR_I, m_uR_L, m_uR_R, true_and, and_true, false_and, if_false, true_implies, false_implies]
        rw [br_n hlt, br_n hc1]
        by_cases c2 : f i = L - (kpS L f go i).1
        · rw [br_r (by rw [c2])]
          exact hyes' ⟨c1, c2, fun l h => by rw [hls] at h; cases h⟩
        · rw [br_q (fun q => c2 ((ni_eq (by omega) (by omega)).mp q))]
          exact hno' (fun q => c2 q.2.1)
      | some l =>
        have hli := kpS_lt i l hls
        obtain ⟨x, hx⟩ : ∃ x, Y[l]? = some x := ⟨Y[l]'(by omega), List.getElem?_eq_getElem (by omega)⟩
        obtain ⟨⟨x1, x2⟩, x3, x4, x5⟩ := hT.2.2.2.2.2 l x hx
        have hts := srtY_lt hsr hx hy hli
        have hgo := goF_y (w := wt) (v := v) hx hy
        rw [← hge] at hgo
        have hl1 : ¬ nI l = -1 := nI_m1 (by omega)
        dsimp only
        simp +decide (disch := omega) only [qX8_keep_0, qX8_keep_1, lt_ hL hw, lw_ hL hg, hR, hT.2.2.2.1, hc, r11, x3, x4, y3, y4, esub, ni_in_t, ni_tn, ni_add1, am_w1_i, am_w1_r, am_w1_x, am_w1_l, am_w1_w, va_rf_s, am_push_n, am_push_s, am_cs_0, am_cs_i, am_cs_l, am_cs_r, m_uI_K, m_uI_N, m_uI_R, m_uI_L, m_uI_I, m_uL_K, m_uL_N, m_uL_R, m_uL_I, m_uL_L, m_uR_K, m_uR_N, m_uR_I, m_uR_L, m_uR_R, true_and, and_true]
        rw [br_n hlt, br_n hc1]
        by_cases c2 : f i = L - (kpS L f go i).1
        · rw [br_r (by rw [c2]), br_n hl1, ni_sub (by omega), ← e1]
          refine c_x_isWithin d s x.2.1 y.2.1 (y.1 - x.1) v wt M _ hL hM.2.1 hs x2 y2 (by omega) hT.1 (fun M1 g1 => ?_)
          have hT1 := TkX_z hs hg hz hT (zF_r g1 : zF (sKp s) M M1) nS
          have k1 : ∀ a j, a = 182 + 13 * s ∨ (a = 173 + 13 * s ∧ j = 11) → mI M1 a j = mI M a j := fun a j q => g1.2.2.2.1 a j (by omega) (fun s' hs' => by omega)
          have hno' := hno M1 (zF_r g1) hT1 k1
          have hyes' := hyes M1 (zF_r g1) hT1 k1
          rw [hls] at hno'
          dsimp only at hno'
          have hgw : gowY wt v x y ↔ wit wt v x.2.1 y.2.1 (y.1 - x.1) := by
            unfold gowY hd_
            rw [if_pos hts]
          have hc' : mI M1 w 11 = nI (kpS L f go i).1 := by rw [k1 _ _ (Or.inr ⟨hwe, rfl⟩)]; exact hc
          by_cases c3 : wit wt v x.2.1 y.2.1 (y.1 - x.1)
          · have hk0 := hyes' ⟨c1, c2, fun l' h => by rw [hls] at h; cases h; exact hgo.mpr (hgw.mpr c3)⟩
            simp +decide (disch := omega) only [qX8_keep_0, qX8_keep_1, lt_ g1.1 hw, tI_t c3, hc', nw9, ni_in_t, ni_tn, ni_add1, am_w1_i, am_w1_r, am_w1_x, am_w1_l, am_w1_w, va_rf_s, am_push_n, am_push_s, am_cs_0, am_cs_i, am_cs_l, am_cs_r, m_uI_K, m_uI_N, m_uI_R, m_uI_L, m_uI_I, m_uL_K, m_uL_N, m_uL_R, m_uL_I, m_uL_L, m_uR_K, m_uR_N, m_uR_I, m_uR_L, m_uR_R, true_and, and_true, false_and, if_false, true_implies, false_implies]
            exact hk0
          · have hk0 := hno' (fun q => c3 (hgw.mp (hgo.mp (q.2.2 l hls))))
            simp +decide (disch := omega) only [qX8_keep_0, qX8_keep_1, tI_f c3, ni_add1, am_w1_i, am_w1_r, am_w1_x, am_w1_l, am_w1_w, va_rf_s, am_push_n, am_push_s, am_cs_0, am_cs_i, am_cs_l, am_cs_r, m_uI_K, m_uI_N, m_uI_R, m_uI_L, m_uI_I, m_uL_K, m_uL_N, m_uL_R, m_uL_I, m_uL_L, m_uR_K, m_uR_N, m_uR_I, m_uR_L, m_uR_R, true_and, and_true, true_implies, false_implies]
            exact hk0
        · rw [br_q (fun q => c2 ((ni_eq (by omega) (by omega)).mp q))]
          have hno' := hno M hMr hT (fun _ _ _ => rfl) (fun q => c2 q.2.1)
          rw [hls] at hno'
          exact hno'
    · have hc1 : nI L ≤ nI (kpS L f go i).1 := (ni_le (by omega) (by omega)).mpr (by omega)
      have hno' := hno M hMr hT (fun _ _ _ => rfl) (fun q => c1 q.1)
      simp +decide (disch := omega) only [qX8_keep_0, qX8_keep_1, lt_ hL hw, lw_ hL hg, hR, hT.2.2.2.1, hc, ni_add1, am_w1_i, am_w1_r, am_w1_x, am_w1_l, am_w1_w, va_rf_s, am_push_n, am_push_s, am_cs_0, am_cs_i, am_cs_l, am_cs_r, m_uI_K, m_uI_N, m_uI_R, m_uI_L, m_uI_I, m_uL_K, m_uL_N, m_uL_R, m_uL_I, m_uL_L, m_uR_K, m_uR_N, m_uR_I, m_uR_L, m_uR_R, true_and, and_true]
      rw [br_n hlt, br_p hc1]
      exact hno'
theorem c_x_keep (d s g z v : Nat) (wt : Nat → Prop) (dep : Nat → Nat) (dr ld : Nat) (B : List Fct) (Y : List Sy) (M : am_M) (Q : Option Value → am_M → Prop) (hL : Lay M) (hI : RInv M) (hs : s < 8) (hg : isSh g) (hz : z = 2 ∨ z = 83) (hsr : srtY Y) (hT : TkX M s g z v wt dep dr ld B Y) (hmk : ∀ k, k < Y.length → mI M (184 + 13 * s) k = nI (lgY wt v (sndP dep dr ld) B Y k)) (hk0 : ∀ k, k < Y.length → mI M (182 + 13 * s) k = 0) (hc0 : mI M (173 + 13 * s) 11 = 0)
    (hQ : ∀ M', zF (sKp s) M M' → TkX M' s g z v wt dep dr ld B Y → mI M' (173 + 13 * s) 11 = nI (mostY wt v (sndP dep dr ld) B Y) → (∀ k, k < Y.length → mI M' (182 + 13 * s) k = tI (keptY wt v (sndP dep dr ld) B Y k)) → Q none M') : am_E am_P0 (d + 3) 86 [.ref (173 + 13 * s), .int (nI (mostY wt v (sndP dep dr ld) B Y))] M Q := by
  rw [eX8_keep]
  simp +decide only [qX8_keep_0, qX8_keep_1, am_w1_i, am_w1_r, am_w1_x, am_w1_l, am_w1_w, va_rf_s, am_push_n, am_push_s, am_cs_0, am_cs_i, am_cs_l, am_cs_r, m_uI_K, m_uI_N, m_uI_R, m_uI_L, m_uI_I, m_uL_K, m_uL_N, m_uL_R, m_uL_I, m_uL_L, m_uR_K, m_uR_N, m_uR_I, m_uR_L, m_uR_R, true_and, and_true]
  rw [show (0 : Int32) = nI 0 from rfl]
  exact l_x_keep d s g z v wt dep dr ld B Y M Q hs hg hz hsr hmk hQ Y.length 0 (by omega) M (zF_refl hL hI) hT hc0 (fun k hk => by rw [hk0 k hk]; exact (tI_f (fun q => by omega)).symm)
end
section
/-! the class: findMay, the line with what is kept -/
theorem gow_tr {w : Nat → Prop} {v : Nat} {Y : List Sy} (hs : srtY Y) : ∀ i j k, i < j → j < k → goF w v Y i j = true → goF w v Y j k = true → goF w v Y i k = true := by
  intro i j k hij hjk h1 h2
  have h1' := dB_t.mp h1
  have h2' := dB_t.mp h2
  obtain ⟨a, b, ha, hb, g1⟩ := h1'
  obtain ⟨b', c, hb', hc, g2⟩ := h2'
  cases hb.symm.trans hb'
  refine dB_t.mpr ⟨a, c, ha, hc, ?_⟩
  have q1 := srtY_lt hs ha hb hij
  have q2 := srtY_lt hs hb hc hjk
  unfold gowY hd_ at *
  rw [if_pos q1] at g1
  rw [if_pos q2] at g2
  rw [if_pos (by omega), show c.1 - a.1 = (b.1 - a.1) + (c.1 - b.1) by omega]
  exact wit_comp g1 g2
theorem fcY_fit {w : Nat → Prop} {v : Nat} {snd : Nat → Bool → Prop} {B : List Fct} {Y : List Sy} (hs : srtY Y) (ho : ordF B) (hw : ∀ y, y ∈ Y → snd y.2.1 y.2.2 → w y.2.1) (hB : fitP w v B) : fitP w v (fcY w v snd B Y) ∧ ordF (fcY w v snd B Y) := by
  have hgood : ∀ k y, keptY w v snd B Y k → Y[k]? = some y → goodY w v snd B y := fun k y hk hy => (gdF_y hy).mp (kp_gd hk.2).1
  have hkp : ordF (kpF (fun k => fitP w v B ∧ keptY w v snd B Y k) Y Y.length) := fun a ha => by
    obtain ⟨k, y, -, -, -, rfl⟩ := kpF_mem.mp ha
    exact Nat.le_refl _
  have hord : ordF (fcY w v snd B Y) := ordF_app ho hkp
  refine ⟨(fit_app hord).mpr ⟨hB, fun a ha b hb => ?_, fun a ha b hb => ?_⟩, hord⟩
  · obtain ⟨k, y, k1, k2, k3, rfl⟩ := kpF_mem.mp ha
    obtain ⟨j, z, j1, j2, j3, rfl⟩ := kpF_mem.mp hb
    dsimp only
    rcases Nat.lt_trichotomy k j with q | q | q
    · have hg := (goF_y (w := w) (v := v) k3 j3).mp (kp_go (gow_tr hs) q k2.2.2 j2.2.2)
      have hl := srtY_lt hs k3 j3 q
      unfold gowY hd_ at hg
      rw [if_pos hl] at hg
      unfold btw
      rw [if_pos hl]
      exact hg
    · subst q
      cases k3.symm.trans j3
      unfold btw
      rw [if_neg (by omega), if_neg (by omega), wit_0]
      exact ⟨rfl, hw y (List.mem_of_getElem? k3) (hgood k y k2.2 k3).1⟩
    · have hg := (goF_y (w := w) (v := v) j3 k3).mp (kp_go (gow_tr hs) q j2.2.2 k2.2.2)
      have hl := srtY_lt hs j3 k3 q
      unfold gowY hd_ at hg
      rw [if_pos hl] at hg
      unfold btw
      rw [if_neg (by omega), if_pos hl]
      exact wit_symm hg
  · obtain ⟨j, z, j1, j2, j3, rfl⟩ := kpF_mem.mp hb
    have hg := (hgood j z j2.2 j3).2 a ha
    rw [btw_symm _ _ _ _ (ho a ha) (Nat.le_refl _)]
    exact wit_symm hg
theorem cov_mono {F G : List Fct} (h : ∀ a, a ∈ F → a ∈ G) {t p : Nat} (hc : cov F t p) : cov G t p := by
  obtain ⟨a, ha, q⟩ := hc
  exact ⟨a, h a ha, q⟩
theorem l_x_fm1 (d s g z v : Nat) (wt : Nat → Prop) (dep : Nat → Nat) (dr ld : Nat) (B : List Fct) (Y : List Sy) (M0 : am_M) (Q : Option Value → am_M → Prop) (hs : s < 8) (hg : isSh g) (hz : z = 2 ∨ z = 83) (hL : Lay M0) (hI : RInv M0) (hT : TkX M0 s g z v wt dep dr ld B Y) (hB : fitP wt v B) (hu : uniq (cov (fcY wt v (sndP dep dr ld) B Y))) (hk : ∀ k, k < Y.length → mI M0 (182 + 13 * s) k = tI (keptY wt v (sndP dep dr ld) B Y k)) (v2 v3 v4 : Value)
    (hQ : ∀ M', oS (sL (173 + 13 * s)) M0 M' → LnP M' (173 + 13 * s) (cov (fcY wt v (sndP dep dr ld) B Y)) → am_P am_P0 (d + 1) (am_look tX8_findMay) 54 [.ref (173 + 13 * s), .int (nI Y.length), v2, v3, v4] [] M' Q) :
    ∀ (m i : Nat), i + m = Y.length → ∀ (M : am_M), oS (sL (173 + 13 * s)) M0 M → LnP M (173 + 13 * s) (cov (B ++ kpF (fun k => fitP wt v B ∧ keptY wt v (sndP dep dr ld) B Y k) Y i)) → am_P am_P0 (d + 1) (am_look tX8_findMay) 2 [.ref (173 + 13 * s), .int (nI i), v2, v3, v4] [] M Q := by
  obtain ⟨w, hwe⟩ : ∃ w, w = 173 + 13 * s := ⟨_, rfl⟩
  have hw : isTr w := ⟨s, hs, hwe⟩
  have hgl := isSh_lt hg
  have e9 : 182 + 13 * s = w + 9 := by omega
  have h48 := hT.2.2.2.2.1
  rw [← hwe] at hQ ⊢
  intro m
  induction m with
  | zero =>
    intro i hi M hM hc
    have e : i = Y.length := by omega
    subst e
    have hLM := oS_Lay hM hL
    have hR : mR M w 0 = some g := by rw [hM.2.2.1, hwe]; exact hT.2.1.1
    have hn : mI M g 5 = nI Y.length := by rw [hM.1 _ _ (fun q => by unfold sL at q; omega)]; exact hT.2.2.2.1
    have hle : nI Y.length ≤ nI Y.length := (ni_le (by omega) (by omega)).mpr (Nat.le_refl _)
    have h0 := hQ M hM hc
    rw [hX8_findMay_2]
    simp +decide only [qX8_findMay_0, qX8_findMay_1, qX8_findMay_2, qX8_findMay_3, lt_ hLM hw, lw_ hLM hg, hR, hn, am_w1_i, am_w1_r, am_w1_x, am_w1_l, am_w1_w, va_rf_s, am_push_n, am_push_s, am_cs_0, am_cs_i, am_cs_l, am_cs_r, m_uI_K, m_uI_N, m_uI_R, m_uI_L, m_uI_I, m_uL_K, m_uL_N, m_uL_R, m_uL_I, m_uL_L, m_uR_K, m_uR_N, m_uR_I, m_uR_L, m_uR_R, true_and, and_true] at h0 ⊢
    rw [br_p hle]
    exact h0
  | succ m ih =>
    intro i hi M hM hc
    have hLM := oS_Lay hM hL
    have hR : mR M w 0 = some g := by rw [hM.2.2.1, hwe]; exact hT.2.1.1
    have hn : mI M g 5 = nI Y.length := by rw [hM.1 _ _ (fun q => by unfold sL at q; omega)]; exact hT.2.2.2.1
    have hlt : ¬ nI Y.length ≤ nI i := by rw [ni_le (by omega) (by omega)]; omega
    obtain ⟨y, hy⟩ : ∃ y, Y[i]? = some y := ⟨Y[i]'(by omega), List.getElem?_eq_getElem (by omega)⟩
    obtain ⟨⟨y1, y2⟩, y3, y4, y5⟩ := hT.2.2.2.2.2 i y hy
    have y3' : mI M (g + 1) i = nI y.1 := by rw [hM.1 _ _ (fun q => by unfold sL at q; omega)]; exact y3
    have y4' : mI M (g + 2) i = nI y.2.1 := by rw [hM.1 _ _ (fun q => by unfold sL at q; omega)]; exact y4
    have hk' : mI M (w + 9) i = tI (keptY wt v (sndP dep dr ld) B Y i) := by rw [hM.1 _ _ (fun q => by unfold sL at q; omega), ← e9]; exact hk i (by omega)
    have hput := fun Q => c_x_lput d w y.1 y.2.1 M Q _ hLM hw hc y1 y2
    rw [hX8_findMay_2]
    by_cases c : keptY wt v (sndP dep dr ld) B Y i
    · rw [tI_t c] at hk'
      have hf : ((y.2.1, y.1, y.1) : Fct) ∈ fcY wt v (sndP dep dr ld) B Y := List.mem_append_right _ (kpF_mem.mpr ⟨i, y, by omega, ⟨hB, c⟩, hy, rfl⟩)
      have hnq : ∀ q, cov (B ++ kpF (fun k => fitP wt v B ∧ keptY wt v (sndP dep dr ld) B Y k) Y i) y.1 q → q = y.2.1 := fun q hq => by
        refine hu y.1 q y.2.1 (cov_mono (fun a ha => ?_) hq) ⟨_, hf, rfl, Nat.le_refl _, Nat.le_refl _⟩
        rcases List.mem_append.mp ha with ha | ha
        · exact List.mem_append_left _ ha
        · obtain ⟨k, y', k1, k2, k3, k4⟩ := kpF_mem.mp ha
          exact List.mem_append_right _ (kpF_mem.mpr ⟨k, y', by omega, k2, k3, k4⟩)
      simp +decide (disch := omega) only [qX8_findMay_0, qX8_findMay_1, qX8_findMay_2, qX8_findMay_3, lt_ hLM hw, lw_ hLM hg, hR, hn, hk', y3', y4', hput, ni_in_t, ni_tn, ni_add1, am_w1_i, am_w1_r, am_w1_x, am_w1_l, am_w1_w, va_rf_s, am_push_n, am_push_s, am_cs_0, am_cs_i, am_cs_l, am_cs_r, m_uI_K, m_uI_N, m_uI_R, m_uI_L, m_uI_I, m_uL_K, m_uL_N, m_uL_R, m_uL_I, m_uL_L, m_uR_K, m_uR_N, m_uR_I, m_uR_L, m_uR_R, true_and, and_true, not_true_eq_false, not_false_eq_true, true_implies, false_implies]
      rw [br_n hlt, br_p hnq]
      have g2 : oS (sL w) M (uI M (w + 7) y.1 (nI y.2.1)) := ⟨fun a j h => by rw [m_uI_I, if_neg (fun z => h z.1)], fun _ _ => rfl, fun _ _ => rfl, rfl⟩
      refine ih (i + 1) (by omega) _ (oS_trans hM g2) (LnP_ext (fun t p => ?_) (LnP_put hc y1 y2 hnq))
      rw [kpF_t hy ⟨hB, c⟩, ← List.append_assoc, cov_app (B ++ _), cov_one]
    · rw [tI_f c] at hk'
      simp +decide (disch := omega) only [qX8_findMay_0, qX8_findMay_1, qX8_findMay_2, qX8_findMay_3, lt_ hLM hw, lw_ hLM hg, hR, hn, hk', ni_in_t, ni_tn, ni_add1, am_w1_i, am_w1_r, am_w1_x, am_w1_l, am_w1_w, va_rf_s, am_push_n, am_push_s, am_cs_0, am_cs_i, am_cs_l, am_cs_r, m_uI_K, m_uI_N, m_uI_R, m_uI_L, m_uI_I, m_uL_K, m_uL_N, m_uL_R, m_uL_I, m_uL_L, m_uR_K, m_uR_N, m_uR_I, m_uR_L, m_uR_R, true_and, and_true, not_true_eq_false, not_false_eq_true, true_implies, false_implies]
      rw [br_n hlt]
      refine ih (i + 1) (by omega) M hM ?_
      rw [kpF_f (fun q => c q.2)]
      exact hc
end
section
/-! the class: findMay, forward and back -/
theorem TrW_L {M M' : am_M} {s v : Nat} {wt : Nat → Prop} (hI : RInv M) (hs : s < 8) (h : TrW M s v wt) (hi : ∀ a j, mI M' a j = mI M a j) (hR : ∀ a j, mR M' a j = mR M a j) (h1 : ∀ j, mL M' (175 + 13 * s) j = mL M (175 + 13 * s) j) (h2 : ∀ a j, 336 ≤ a → mL M' a j = mL M a j) : TrW M' s v wt := by
  obtain ⟨a1, a2, a3, a4⟩ := h
  refine ⟨by rw [hi]; exact a1, a2, fun q => (inS_ext (fun i _ => h1 i) q).trans (a3 q), fun p hp => ?_⟩
  obtain ⟨k1, k2⟩ := a4 p hp
  refine ⟨by rw [hi]; exact k1, fun hk => ?_⟩
  rw [hi] at hk
  obtain ⟨r, q1, q2⟩ := k2 hk
  have hr := (hI.1 s p r hs hp q1).1
  exact ⟨r, by rw [hR]; exact q1, fun i hi q => (inS_ext (fun j _ => h2 r _ hr) q).trans (q2 i hi q)⟩
theorem zF_l {S : Nat → Nat → Prop} {M M' : am_M} {a : Nat} (hL : Lay M) (hI : RInv M) (h : onlyL M M' a) (ha : a < 336) (hS : ∀ j, S a j) (h1 : ∀ s', s' < 8 → ¬ a = 175 + 13 * s') : zF S M M' :=
  ⟨onlyL_Lay h hL, RInv_S hI h.2.1 h.2.2.1, by unfold mC; rw [h.2.2.1]; exact Nat.le_refl _, fun b j _ _ _ => h.1 b j, fun b j _ q => h.2.2.2 b j (fun e => q (by rw [e]; exact hS j)), fun b j _ _ => h.2.1 b j, fun s' v wt hs' hT => TrW_L hI hs' hT h.1 h.2.1 (fun j => h.2.2.2 _ _ (fun e => h1 s' hs' e.symm)) (fun b j hb => h.2.2.2 _ _ (by omega))⟩
/-- what the facts up to an hour leave; what those from it on leave -/
def mfP (wt : Nat → Prop) (v : Nat) (c : Nat → Nat → Prop) (h q : Nat) : Prop := wt q ∧ ∀ h1 p1, h1 ≤ h → c h1 p1 → (∀ t, h1 < t → t ≤ h → ∀ p, ¬ c t p) → wit wt v p1 q (h - h1)
def mbP (wt : Nat → Prop) (v : Nat) (c : Nat → Nat → Prop) (h q : Nat) : Prop := ∀ h2 p2, h ≤ h2 → c h2 p2 → (∀ t, h ≤ t → t < h2 → ∀ p, ¬ c t p) → wit wt v p2 q (h2 - h)
/-- the row of the hour h in a track's may -/
abbrev my4 (M : am_M) (s h : Nat) : Nat → Int64 := fun i => mL M (183 + 13 * s) (4 * h + i)
/-- the last hour ahead of h that has a fact -/
def lstP (c : Nat → Nat → Prop) (h : Nat) (x : Int32) : Prop := (x = -1 ∧ ∀ t p, t < h → ¬ c t p) ∨ ∃ l pl, l < h ∧ x = nI l ∧ c l pl ∧ ∀ t p, l < t → t < h → ¬ c t p
def sMy (s a _j : Nat) : Prop := a = 183 + 13 * s
theorem uCL_only (M : am_M) (a i b j n : Nat) : onlyL M (uCL M a i b j n) b := ⟨fun _ _ => rfl, fun _ _ => rfl, rfl, fun a j h => if_neg (fun q => h q.1)⟩
theorem l_x_fm2 (d s v : Nat) (wt : Nat → Prop) (c : Nat → Nat → Prop) (M0 : am_M) (Q : Option Value → am_M → Prop) (hs : s < 8) (hc0 : LnP M0 (173 + 13 * s) c)
    (hQ : ∀ M' x v3 v4, zF (sMy s) M0 M' → TrW M' s v wt → (∀ h, h < 48 → ∀ q, inS (my4 M' s h) q ↔ mfP wt v c h q) → (v3 = am_x ∨ ∃ r, v3 = .ref r) → jk v4 → am_P am_P0 (d + 2) (am_look tX8_findMay) 151 [.ref (173 + 13 * s), .int x, .int (nI 48), v3, v4] [] M' Q) :
    ∀ (m h : Nat), h + m = 48 → ∀ (M : am_M) (x : Int32) (v3 v4 : Value), zF (sMy s) M0 M → TrW M s v wt → lstP c h x → (∀ h', h' < h → ∀ q, inS (my4 M s h') q ↔ mfP wt v c h' q) → (v3 = am_x ∨ ∃ r, v3 = .ref r) → jk v4 → am_P am_P0 (d + 2) (am_look tX8_findMay) 58 [.ref (173 + 13 * s), .int x, .int (nI h), v3, v4] [] M Q := by
  obtain ⟨w, hwe⟩ : ∃ w, w = 173 + 13 * s := ⟨_, rfl⟩
  have hw : isTr w := ⟨s, hs, hwe⟩
  have e1 : 174 + 13 * s = w + 1 := by omega
  have e2 : 175 + 13 * s = w + 2 := by omega
  have e10 : 183 + 13 * s = w + 10 := by omega
  intro m
  induction m with
  | zero =>
    intro h hh M x v3 v4 hM hT hl hr j3 j4
    have e : h = 48 := by omega
    subst e
    have h0 := hQ M x v3 v4 hM hT hr j3 j4
    rw [hX8_findMay_58]
    simp +decide only [qX8_findMay_0, qX8_findMay_1, qX8_findMay_2, qX8_findMay_3, am_w1_i, am_w1_r, am_w1_x, am_w1_l, am_w1_w, va_rf_s, am_push_n, am_push_s, am_cs_0, am_cs_i, am_cs_l, am_cs_r, m_uI_K, m_uI_N, m_uI_R, m_uI_L, m_uI_I, m_uL_K, m_uL_N, m_uL_R, m_uL_I, m_uL_L, m_uR_K, m_uR_N, m_uR_I, m_uR_L, m_uR_R, true_and, and_true, true_implies, false_implies] at h0 ⊢
    exact h0
  | succ m ih =>
    intro h hh M x v3 v4 hM hT hl hr j3 j4
    have hL := hM.1
    have hc : LnP M w c := LnP_I (by rw [hwe]; exact hc0) (fun j => hM.2.2.2.1 _ _ (by omega) (fun s' hs' => by omega) (fun q => by unfold sMy at q; omega))
    have hlt : ¬ (48 : Int32) ≤ nI h := by rw [show (48 : Int32) = nI 48 from rfl, ni_le (by omega) (by omega)]; omega
    have hk := lt_ hL hw
    have k10 : mK M (w + 10) = 1 := by simp only [hk]
    have n10 : mN M (w + 10) = 192 := by simp only [hk]
    have k2 : mK M (w + 2) = 1 := by simp only [hk]
    have n2 : mN M (w + 2) = 4 := by simp only [hk]
    have eh4 : nI h * 4 = nI (4 * h) := by rw [show (4 : Int32) = nI 4 from rfl, ni_mul, Nat.mul_comm]
    have t4 : (4 : Int32).toInt.toNat = 4 := rfl
    have i2 : (0 : Int) ≤ (nI (4 * h)).toInt := by rw [ni_ti (by omega)]; omega
    have w3 : am_w1 v3 = v3 := by rcases j3 with rfl | ⟨r, rfl⟩ <;> rfl
    -- one more row
    have hstep : ∀ (M1 : am_M) (a j0 : Nat) (x' : Int32) (v4' : Value), zF (sMy s) M0 M1 → TrW M1 s v wt → (∀ j, mL M1 (w + 10) j = mL M (w + 10) j) → lstP c (h + 1) x' → (∀ q, inS (fun i => mL M1 a (j0 + i)) q ↔ mfP wt v c h q) → jk v4' → am_P am_P0 (d + 2) (am_look tX8_findMay) 58 [.ref w, .int x', .int (nI (h + 1)), .ref a, v4'] [] (uCL M1 a j0 (w + 10) (4 * h) 4) Q := by
      intro M1 a j0 x' v4' g1 hT1 hm1 hl' hrow j4'
      have z1 : zF (sMy s) M1 (uCL M1 a j0 (w + 10) (4 * h) 4) := zF_l g1.1 g1.2.1 (uCL_only _ _ _ _ _ _) (by omega) (fun j => e10.symm) (fun s' hs' => by omega)
      have eL : ∀ j, mL (uCL M1 a j0 (w + 10) (4 * h) 4) (w + 10) j = if 4 * h ≤ j ∧ j < 4 * h + 4 then mL M1 a (j0 + (j - 4 * h)) else mL M (w + 10) j := by
        intro j
        rw [← hm1 j]
        show (if w + 10 = w + 10 ∧ 4 * h ≤ j ∧ j < 4 * h + 4 then mL M1 a (j0 + (j - 4 * h)) else mL M1 (w + 10) j) = _
        by_cases q : 4 * h ≤ j ∧ j < 4 * h + 4
        · rw [if_pos ⟨rfl, q⟩, if_pos q]
        · rw [if_neg (fun z => q z.2), if_neg q]
      have h0 := ih (h + 1) (by omega) (uCL M1 a j0 (w + 10) (4 * h) 4) x' (.ref a) v4' (zF_trans g1 z1) (z1.2.2.2.2.2.2 s v wt hs hT1) hl' (fun h' hh' q => ?_) (Or.inr ⟨_, rfl⟩) j4'
      · rw [← hwe] at h0
        exact h0
      · by_cases eh : h' = h
        · subst eh
          rw [← hrow q]
          refine inS_ext (fun i hi => ?_) q
          show mL _ (183 + 13 * s) (4 * h' + i) = mL M1 a (j0 + i)
          rw [e10, eL, if_pos (by omega)]
          congr 1
          omega
        · rw [← hr h' (by omega) q]
          refine inS_ext (fun i hi => ?_) q
          show mL _ (183 + 13 * s) (4 * h' + i) = mL M (183 + 13 * s) (4 * h' + i)
          rw [e10, eL, if_neg (by omega)]
    -- with a fact at l
    have hfact : ∀ (l pl : Nat) (v3' v4' : Value), l ≤ h → c l pl → (∀ t p, l < t → t < h + 1 → ¬ c t p) → am_w1 v3' = v3' → jk v4' → am_P am_P0 (d + 2) (am_look tX8_findMay) 98 [.ref w, .int (nI l), .int (nI h), v3', v4'] [] M Q := by
      intro l pl v3' v4' hlh hpl hno w3' j4'
      have hpl2 := hc.2.1 l pl hpl
      have hml : mI M (w + 7) l = nI pl := by
        rcases hc.2.2 l hpl2.1 with ⟨y, y1, y2⟩ | ⟨y1, y2⟩
        · rw [y2, hc.1 l y pl y1 hpl]
        · exact absurd hpl (y1 pl)
      simp +decide (disch := omega) only [qX8_findMay_0, qX8_findMay_1, qX8_findMay_2, qX8_findMay_3, lt_ hL hw, hml, ni_in_t, ni_tn, am_w1_i, am_w1_r, am_w1_x, am_w1_l, am_w1_w, va_rf_s, am_push_n, am_push_s, am_cs_0, am_cs_i, am_cs_l, am_cs_r, m_uI_K, m_uI_N, m_uI_R, m_uI_L, m_uI_I, m_uL_K, m_uL_N, m_uL_R, m_uL_I, m_uL_L, m_uR_K, m_uR_N, m_uR_I, m_uR_L, m_uR_R, true_and, and_true]
      rw [← e1]
      refine c_x_ringsOf d s pl v wt M _ hL hs hpl2.2 hT.1 hT.2.1 hT.2.2.1 hM.2.1 (hT.2.2.2 pl hpl2.2) (fun r M1 g1 => ?_)
      have F1 := rgP_F hL hM.2.1 hs hpl2.2 hT g1
      have hM1 : zF (sMy s) M0 M1 := zF_trans hM (zF_r F1)
      have L1 := hM1.1
      have hrk := lay_ring L1 g1.2.2.2.2.2.1.1 g1.2.2.2.2.2.1.2
      have hk1 := lt_ L1 hw
      have k10' : mK M1 (w + 10) = 1 := by simp only [hk1]
      have n10' : mN M1 (w + 10) = 192 := by simp only [hk1]
      have el : (nI h - nI l) * 4 = nI (4 * (h - l)) := by rw [ni_sub (by omega), show (4 : Int32) = nI 4 from rfl, ni_mul, Nat.mul_comm]
      have i1 : (0 : Int) ≤ (nI (4 * (h - l))).toInt := by rw [ni_ti (by omega)]; omega
      have hl1 : ¬ nI l = -1 := nI_m1 (by omega)
      simp +decide (disch := omega) only [qX8_findMay_0, qX8_findMay_1, qX8_findMay_2, qX8_findMay_3, lt_ L1 hw, hrk, eh4, el, t4, i1, i2, jk_w j4', w3', ni_tn, ni_add1, am_w1_i, am_w1_r, am_w1_x, am_w1_l, am_w1_w, va_rf_s, am_push_n, am_push_s, am_cs_0, am_cs_i, am_cs_l, am_cs_r, m_uI_K, m_uI_N, m_uI_R, m_uI_L, m_uI_I, m_uL_K, m_uL_N, m_uL_R, m_uL_I, m_uL_L, m_uR_K, m_uR_N, m_uR_I, m_uR_L, m_uR_R, true_and, and_true]
      rw [br_q hl1]
      refine ⟨⟨by omega, by omega⟩, ?_⟩
      refine hstep M1 r (4 * (h - l)) (nI l) _ hM1 (F1.2.2.2.2.2.2 s v wt hs hT) (fun j => F1.2.2.2.2.1 _ _ (by omega)) (Or.inr ⟨l, pl, by omega, rfl, hpl, fun t p q1 q2 => hno t p q1 q2⟩) (fun q => ?_) (Or.inr ⟨_, rfl⟩)
      rw [g1.2.1 (h - l) (by omega) q]
      constructor
      · intro hb
        refine ⟨(ball_w hb).2, fun h1 p1 a1 a2 a3 => ?_⟩
        have e : h1 = l := by
          rcases Nat.lt_trichotomy h1 l with z | z | z
          · exact absurd hpl (a3 l z hlh pl)
          · exact z
          · exact absurd a2 (hno h1 p1 z (by omega))
        subst e
        rw [hc.1 _ p1 pl a2 hpl]
        exact hb
      · intro hb
        exact hb.2 l pl hlh hpl (fun t z1 z2 p => hno t p z1 (by omega))
    rw [← hwe]
    rw [hX8_findMay_58]
    rcases hc.2.2 h (by omega) with ⟨p, hp, hm⟩ | ⟨hp, hm⟩
    · have hp2 := (hc.2.1 h p hp).2
      have h9 := hfact h p v3 v4 (Nat.le_refl _) hp (fun t p q1 q2 => by omega) w3 j4
      simp +decide (disch := omega) only [qX8_findMay_0, qX8_findMay_1, qX8_findMay_2, qX8_findMay_3, lt_ hL hw, hm, ni_in_t, ni_tn, am_w1_i, am_w1_r, am_w1_x, am_w1_l, am_w1_w, va_rf_s, am_push_n, am_push_s, am_cs_0, am_cs_i, am_cs_l, am_cs_r, m_uI_K, m_uI_N, m_uI_R, m_uI_L, m_uI_I, m_uL_K, m_uL_N, m_uL_R, m_uL_I, m_uL_L, m_uR_K, m_uR_N, m_uR_I, m_uR_L, m_uR_R, true_and, and_true] at h9 ⊢
      rw [br_n hlt, br_q (nI_m1 (by omega)), br_q (nI_m1 (by omega))]
      exact h9
    · rcases hl with ⟨rfl, hno⟩ | ⟨l, pl, hl1, rfl, hpl, hno⟩
      · simp +decide (disch := omega) only [qX8_findMay_0, qX8_findMay_1, qX8_findMay_2, qX8_findMay_3, lt_ hL hw, hm, eh4, t4, i2, jk_w j4, w3, ni_in_t, ni_tn, ni_add1, am_w1_i, am_w1_r, am_w1_x, am_w1_l, am_w1_w, va_rf_s, am_push_n, am_push_s, am_cs_0, am_cs_i, am_cs_l, am_cs_r, m_uI_K, m_uI_N, m_uI_R, m_uI_L, m_uI_I, m_uL_K, m_uL_N, m_uL_R, m_uL_I, m_uL_L, m_uR_K, m_uR_N, m_uR_I, m_uR_L, m_uR_R, true_and, and_true, not_true_eq_false, not_false_eq_true, true_implies, false_implies]
        rw [br_n hlt]
        refine ⟨by omega, ?_⟩
        refine hstep M (w + 2) 0 (-1) _ hM hT (fun _ => rfl) (Or.inl ⟨rfl, fun t p ht => ?_⟩) (fun q => ?_) (Or.inr ⟨_, rfl⟩)
        · by_cases et : t = h
          · subst et; exact hp p
          · exact hno t p (by omega)
        · have h0 := hT.2.2.1 q
          rw [e2] at h0
          refine Iff.trans (inS_ext (fun i _ => by rw [Nat.zero_add]) q) (h0.trans ?_)
          refine ⟨fun z => ⟨z, fun h1 p1 a1 a2 => ?_⟩, fun z => z.1⟩
          by_cases et : h1 = h
          · subst et; exact absurd a2 (hp p1)
          · exact absurd a2 (hno h1 p1 (by omega))
      · have h9 := hfact l pl v3 v4 (by omega) hpl (fun t p q1 q2 => by
          by_cases et : t = h
          · subst et; exact hp p
          · exact hno t p q1 (by omega)) w3 j4
        simp +decide (disch := omega) only [qX8_findMay_0, qX8_findMay_1, qX8_findMay_2, qX8_findMay_3, lt_ hL hw, hm, ni_in_t, ni_tn, am_w1_i, am_w1_r, am_w1_x, am_w1_l, am_w1_w, va_rf_s, am_push_n, am_push_s, am_cs_0, am_cs_i, am_cs_l, am_cs_r, m_uI_K, m_uI_N, m_uI_R, m_uI_L, m_uI_I, m_uL_K, m_uL_N, m_uL_R, m_uL_I, m_uL_L, m_uR_K, m_uR_N, m_uR_I, m_uR_L, m_uR_R, true_and, and_true, not_true_eq_false, not_false_eq_true, true_implies, false_implies] at h9 ⊢
        rw [br_n hlt, br_q (nI_m1 (by omega))]
        exact h9
end
section
/-! the class: findMay, back -/
def nstP (c : Nat → Nat → Prop) (h : Nat) (x : Int32) : Prop := (x = -1 ∧ ∀ t p, h ≤ t → ¬ c t p) ∨ ∃ l pl, h ≤ l ∧ x = nI l ∧ c l pl ∧ ∀ t p, h ≤ t → t < l → ¬ c t p
theorem l_x_fm4 (d s v h l pl : Nat) (wt : Nat → Prop) (c : Nat → Nat → Prop) (M0 : am_M) (Q : Option Value → am_M → Prop) (hs : s < 8) (hc0 : LnP M0 (173 + 13 * s) c) (hh : h < 48) (hl : h ≤ l) (hpl : c l pl) (v4 : Value)
    (hQ : ∀ M' k, zF (sMy s) M0 M' → TrW M' s v wt → (∀ j, ¬ (4 * h ≤ j ∧ j < 4 * h + 4) → mL M' (183 + 13 * s) j = mL M0 (183 + 13 * s) j) → (∀ q, inS (my4 M' s h) q ↔ inS (my4 M0 s h) q ∧ wit wt v pl q (l - h)) → am_P am_P0 (d + 2) (am_look tX8_findMay) 156 [.ref (173 + 13 * s), .int (nI l), .int (nI h + -1), .int k, v4] [] M' Q) :
    ∀ (m k : Nat), k + m = 4 → ∀ (M : am_M), zF (sMy s) M0 M → TrW M s v wt → (∀ j, ¬ (4 * h ≤ j ∧ j < 4 * h + k) → mL M (183 + 13 * s) j = mL M0 (183 + 13 * s) j) → (∀ i b, i < k → b < 64 → (sbit (mL M (183 + 13 * s) (4 * h + i)) b = true ↔ sbit (mL M0 (183 + 13 * s) (4 * h + i)) b = true ∧ wit wt v pl (64 * i + b) (l - h))) → am_P am_P0 (d + 2) (am_look tX8_findMay) 181 [.ref (173 + 13 * s), .int (nI l), .int (nI h), .int (nI k), v4] [] M Q := by
  obtain ⟨w, hwe⟩ : ∃ w, w = 173 + 13 * s := ⟨_, rfl⟩
  have hw : isTr w := ⟨s, hs, hwe⟩
  have e1 : 174 + 13 * s = w + 1 := by omega
  have e10 : 183 + 13 * s = w + 10 := by omega
  have hpl2 := hc0.2.1 l pl hpl
  have hl1 : ¬ nI l = -1 := nI_m1 (by omega)
  intro m
  induction m with
  | zero =>
    intro k hk M hM hT hn hy
    have e : k = 4 := by omega
    subst e
    have h0 := hQ M (nI 4) hM hT hn (fun q => ?_)
    · rw [hX8_findMay_181]
      have e0 : (4 : Int32) ≤ nI 4 := by decide
      simp +decide only [qX8_findMay_0, qX8_findMay_1, qX8_findMay_2, qX8_findMay_3, am_w1_i, am_w1_r, am_w1_x, am_w1_l, am_w1_w, va_rf_s, am_push_n, am_push_s, am_cs_0, am_cs_i, am_cs_l, am_cs_r, m_uI_K, m_uI_N, m_uI_R, m_uI_L, m_uI_I, m_uL_K, m_uL_N, m_uL_R, m_uL_I, m_uL_L, m_uR_K, m_uR_N, m_uR_I, m_uR_L, m_uR_R, true_and, and_true, true_implies, false_implies] at h0 ⊢
      rw [br_n hl1]
      exact h0
    · unfold inS my4
      constructor
      · rintro ⟨q1, q2⟩
        have h1 := (hy (q / 64) (q % 64) (by omega) (by omega)).mp q2
        rw [show 64 * (q / 64) + q % 64 = q by omega] at h1
        exact ⟨⟨q1, h1.1⟩, h1.2⟩
      · rintro ⟨⟨q1, q2⟩, q3⟩
        refine ⟨q1, (hy (q / 64) (q % 64) (by omega) (by omega)).mpr ⟨q2, ?_⟩⟩
        rw [show 64 * (q / 64) + q % 64 = q by omega]
        exact q3
  | succ m ih =>
    intro k hk M hM hT hn hy
    have hL := hM.1
    have hc : LnP M w c := LnP_I (by rw [hwe]; exact hc0) (fun j => hM.2.2.2.1 _ _ (by omega) (fun s' hs' => by omega) (fun q => by unfold sMy at q; omega))
    have hml : mI M (w + 7) l = nI pl := by
      rcases hc.2.2 l hpl2.1 with ⟨y, y1, y2⟩ | ⟨y1, y2⟩
      · rw [y2, hc.1 l y pl y1 hpl]
      · exact absurd hpl (y1 pl)
    have hlt : ¬ (4 : Int32) ≤ nI k := by rw [show (4 : Int32) = nI 4 from rfl, ni_le (by omega) (by omega)]; omega
    have ea : nI h * 4 + nI k = nI (4 * h + k) := by rw [show (4 : Int32) = nI 4 from rfl, ni_mul, ni_add, Nat.mul_comm]
    have eb : (nI l - nI h) * 4 + nI k = nI (4 * (l - h) + k) := by rw [ni_sub (by omega), show (4 : Int32) = nI 4 from rfl, ni_mul, ni_add, Nat.mul_comm]
    rw [← hwe]
    rw [hX8_findMay_181]
    simp +decide (disch := omega) only [qX8_findMay_0, qX8_findMay_1, qX8_findMay_2, qX8_findMay_3, lt_ hL hw, hml, ea, ni_in_t, ni_tn, am_w1_i, am_w1_r, am_w1_x, am_w1_l, am_w1_w, va_rf_s, am_push_n, am_push_s, am_cs_0, am_cs_i, am_cs_l, am_cs_r, m_uI_K, m_uI_N, m_uI_R, m_uI_L, m_uI_I, m_uL_K, m_uL_N, m_uL_R, m_uL_I, m_uL_L, m_uR_K, m_uR_N, m_uR_I, m_uR_L, m_uR_R, true_and, and_true]
    rw [br_n hl1, br_n hlt, ← e1]
    refine c_x_ringsOf d s pl v wt M _ hL hs hpl2.2 hT.1 hT.2.1 hT.2.2.1 hM.2.1 (hT.2.2.2 pl hpl2.2) (fun r M1 g1 => ?_)
    have F1 := rgP_F hL hM.2.1 hs hpl2.2 hT g1
    have hM1 : zF (sMy s) M0 M1 := zF_trans hM (zF_r F1)
    have L1 := hM1.1
    have hrk := lay_ring L1 g1.2.2.2.2.2.1.1 g1.2.2.2.2.2.1.2
    have hm1 : ∀ j, mL M1 (w + 10) j = mL M (w + 10) j := fun j => F1.2.2.2.2.1 _ _ (by omega)
    simp +decide (disch := omega) only [qX8_findMay_0, qX8_findMay_1, qX8_findMay_2, qX8_findMay_3, lt_ L1 hw, hrk, eb, ni_in_t, ni_tn, ni_add1, am_w1_i, am_w1_r, am_w1_x, am_w1_l, am_w1_w, va_rf_s, am_push_n, am_push_s, am_cs_0, am_cs_i, am_cs_l, am_cs_r, m_uI_K, m_uI_N, m_uI_R, m_uI_L, m_uI_I, m_uL_K, m_uL_N, m_uL_R, m_uL_I, m_uL_L, m_uR_K, m_uR_N, m_uR_I, m_uR_L, m_uR_R, true_and, and_true]
    have z1 : zF (sMy s) M1 (uL M1 (w + 10) (4 * h + k) (mL M (w + 10) (4 * h + k) &&& mL M1 r (4 * (l - h) + k))) := zF_l L1 hM1.2.1 ⟨fun _ _ => rfl, fun _ _ => rfl, rfl, fun a j q => by rw [m_uL_L, if_neg (fun z => q z.1)]⟩ (by omega) (fun j => e10.symm) (fun s' hs' => by omega)
    rw [hwe] at *
    refine ih (k + 1) (by omega) _ (zF_trans hM1 z1) (z1.2.2.2.2.2.2 s v wt hs (F1.2.2.2.2.2.2 s v wt hs hT)) (fun j hj => ?_) (fun i b hi hb => ?_)
    · rw [e10, m_uL_L, if_neg (by omega), hm1, ← e10]
      exact hn j (by omega)
    · rw [e10, m_uL_L]
      by_cases ei : i = k
      · subst ei
        rw [if_pos ⟨rfl, rfl⟩, sb_and, Bool.and_eq_true]
        have hb1 := g1.2.1 (l - h) (by omega) (64 * i + b)
        have q1 : (64 * i + b) / 64 = i := by omega
        have q2 : (64 * i + b) % 64 = b := by omega
        unfold inS rw4 at hb1
        rw [q1, q2] at hb1
        rw [← e10, hn _ (by omega)]
        unfold wit
        rw [← hb1]
        constructor
        · rintro ⟨x1, x2⟩; exact ⟨x1, by omega, x2⟩
        · rintro ⟨x1, -, x2⟩; exact ⟨x1, x2⟩
      · rw [if_neg (by omega), hm1, ← e10]
        exact hy i b (by omega) hb
theorem l_x_fm3 (d s v : Nat) (wt : Nat → Prop) (c : Nat → Nat → Prop) (M0 : am_M) (Q : Option Value → am_M → Prop) (hs : s < 8) (hc0 : LnP M0 (173 + 13 * s) c)
    (hQ : ∀ M', zF (sMy s) M0 M' → TrW M' s v wt → (∀ h, h < 48 → ∀ q, inS (my4 M' s h) q ↔ mfP wt v c h q ∧ mbP wt v c h q) → Q none M') :
    ∀ (h : Nat), h ≤ 48 → ∀ (M : am_M) (x : Int32) (v3 v4 : Value), zF (sMy s) M0 M → TrW M s v wt → nstP c h x → (∀ h', h' < 48 → ∀ q, inS (my4 M s h') q ↔ mfP wt v c h' q ∧ (h ≤ h' → mbP wt v c h' q)) → jk v4 → am_P am_P0 (d + 2) (am_look tX8_findMay) 156 [.ref (173 + 13 * s), .int x, .int (nI h - 1), v3, v4] [] M Q := by
  obtain ⟨w, hwe⟩ : ∃ w, w = 173 + 13 * s := ⟨_, rfl⟩
  have hw : isTr w := ⟨s, hs, hwe⟩
  have e10 : 183 + 13 * s = w + 10 := by omega
  intro h
  induction h with
  | zero =>
    intro _ M x v3 v4 hM hT hl hr j4
    have e0 : nI 0 - 1 = -1 := rfl
    rw [e0, hX8_findMay_156]
    simp +decide only [qX8_findMay_0, qX8_findMay_1, qX8_findMay_2, qX8_findMay_3, am_w1_i, am_w1_r, am_w1_x, am_w1_l, am_w1_w, va_rf_s, am_push_n, am_push_s, am_cs_0, am_cs_i, am_cs_l, am_cs_r, m_uI_K, m_uI_N, m_uI_R, m_uI_L, m_uI_I, m_uL_K, m_uL_N, m_uL_R, m_uL_I, m_uL_L, m_uR_K, m_uR_N, m_uR_I, m_uR_L, m_uR_R, true_and, and_true, true_implies, false_implies]
    exact hQ M hM hT (fun h hh q => (hr h hh q).trans ⟨fun z => ⟨z.1, z.2 (Nat.zero_le _)⟩, fun z => ⟨z.1, fun _ => z.2⟩⟩)
  | succ h ih =>
    intro hh M x v3 v4 hM hT hl hr j4
    have hL := hM.1
    have hc : LnP M (173 + 13 * s) c := LnP_I hc0 (fun j => hM.2.2.2.1 _ _ (by omega) (fun s' hs' => by omega) (fun q => by unfold sMy at q; omega))
    have ei : nI (h + 1) - 1 = nI h := by rw [show (1 : Int32) = nI 1 from rfl, ni_sub (by omega)]; rfl
    have em : nI h + -1 = nI h - 1 := (Int32.sub_eq_add_neg _ _).symm
    have hn0 : ¬ nI h < 0 := by rw [show (0 : Int32) = nI 0 from rfl, ni_lt (by omega) (by omega)]; omega
    have hfact : ∀ l pl, h ≤ l → c l pl → (∀ t p, h ≤ t → t < l → ¬ c t p) → am_P am_P0 (d + 2) (am_look tX8_findMay) 181 [.ref (173 + 13 * s), .int (nI l), .int (nI h), .int (nI 0), v4] [] M Q := by
      intro l pl hhl hpl hno
      refine l_x_fm4 d s v h l pl wt c M Q hs hc (by omega) hhl hpl v4 (fun M1 k g1 hT1 hn1 hy1 => ?_) 4 0 rfl M (zF_refl hL hM.2.1) hT (fun _ _ => rfl) (fun i b hi => by omega)
      rw [em]
      refine ih (by omega) M1 _ _ _ (zF_trans hM g1) hT1 (Or.inr ⟨l, pl, hhl, rfl, hpl, hno⟩) (fun h' hh' q => ?_) j4
      by_cases eh : h' = h
      · subst eh
        rw [hy1 q, hr h' hh' q]
        constructor
        · rintro ⟨⟨a1, -⟩, a2⟩
          refine ⟨a1, fun _ h2 p2 b1 b2 b3 => ?_⟩
          have e : h2 = l := by
            rcases Nat.lt_trichotomy h2 l with z | z | z
            · exact absurd b2 (hno h2 p2 b1 z)
            · exact z
            · exact absurd hpl (b3 l hhl z pl)
          subst e
          rw [hc.1 _ p2 pl b2 hpl]
          exact a2
        · rintro ⟨a1, a2⟩
          exact ⟨⟨a1, fun z => by omega⟩, a2 (Nat.le_refl _) l pl hhl hpl (fun t z1 z2 p => hno t p z1 z2)⟩
      · have e : inS (my4 M1 s h') q ↔ inS (my4 M s h') q := inS_ext (fun i hi => hn1 _ (by omega)) q
        rw [e, hr h' hh' q]
        exact ⟨fun z => ⟨z.1, fun y => z.2 (by omega)⟩, fun z => ⟨z.1, fun y => z.2 (by omega)⟩⟩
    rw [ei, hX8_findMay_156]
    have hw7 : ∀ j, mI M (180 + 13 * s) j = mI M (w + 7) j := fun j => by rw [show 180 + 13 * s = w + 7 by omega]
    rcases hc.2.2 h (by omega) with ⟨p, hp, hm⟩ | ⟨hp, hm⟩
    · have h9 := hfact h p (Nat.le_refl _) hp (fun t p q1 q2 => by omega)
      rw [← hwe] at hm h9 ⊢
      simp +decide (disch := omega) only [qX8_findMay_0, qX8_findMay_1, qX8_findMay_2, qX8_findMay_3, lt_ hL hw, hm, ni_in_t, ni_tn, am_w1_i, am_w1_r, am_w1_x, am_w1_l, am_w1_w, va_rf_s, am_push_n, am_push_s, am_cs_0, am_cs_i, am_cs_l, am_cs_r, m_uI_K, m_uI_N, m_uI_R, m_uI_L, m_uI_I, m_uL_K, m_uL_N, m_uL_R, m_uL_I, m_uL_L, m_uR_K, m_uR_N, m_uR_I, m_uR_L, m_uR_R, true_and, and_true]
      have hp2 := (hc.2.1 h p hp).2
      rw [br_n hn0, br_q (nI_m1 (by omega))]
      exact h9
    · rcases hl with ⟨rfl, hno⟩ | ⟨l, pl, hl1, rfl, hpl, hno⟩
      · have h9 := ih (by omega) M (-1) (.int 0) v4 hM hT (Or.inl ⟨rfl, fun t p ht => by
          by_cases et : t = h
          · subst et; exact hp p
          · exact hno t p (by omega)⟩) (fun h' hh' q => (hr h' hh' q).trans ⟨fun z => ⟨z.1, fun y => ?_⟩, fun z => ⟨z.1, fun y => z.2 (by omega)⟩⟩) j4
        · rw [← hwe] at hm h9 ⊢
          simp +decide (disch := omega) only [qX8_findMay_0, qX8_findMay_1, qX8_findMay_2, qX8_findMay_3, lt_ hL hw, hm, em, hX8_findMay_181, ni_in_t, ni_tn, am_w1_i, am_w1_r, am_w1_x, am_w1_l, am_w1_w, va_rf_s, am_push_n, am_push_s, am_cs_0, am_cs_i, am_cs_l, am_cs_r, m_uI_K, m_uI_N, m_uI_R, m_uI_L, m_uI_I, m_uL_K, m_uL_N, m_uL_R, m_uL_I, m_uL_L, m_uR_K, m_uR_N, m_uR_I, m_uR_L, m_uR_R, true_and, and_true, not_true_eq_false, not_false_eq_true, true_implies, false_implies]
          rw [br_n hn0]
          exact h9
        · intro h2 p2 b1 b2 b3
          by_cases et : h2 = h
          · subst et; exact absurd b2 (hp p2)
          · exact absurd b2 (hno h2 p2 (by omega))
      · have h9 := hfact l pl (by omega) hpl (fun t p q1 q2 => by
          by_cases et : t = h
          · subst et; exact hp p
          · exact hno t p (by omega) q2)
        rw [← hwe] at hm h9 ⊢
        simp +decide (disch := omega) only [qX8_findMay_0, qX8_findMay_1, qX8_findMay_2, qX8_findMay_3, lt_ hL hw, hm, ni_in_t, ni_tn, am_w1_i, am_w1_r, am_w1_x, am_w1_l, am_w1_w, va_rf_s, am_push_n, am_push_s, am_cs_0, am_cs_i, am_cs_l, am_cs_r, m_uI_K, m_uI_N, m_uI_R, m_uI_L, m_uI_I, m_uL_K, m_uL_N, m_uL_R, m_uL_I, m_uL_L, m_uR_K, m_uR_N, m_uR_I, m_uR_L, m_uR_R, true_and, and_true, not_true_eq_false, not_false_eq_true, true_implies, false_implies]
        rw [br_n hn0]
        exact h9
theorem c_x_findMay (d s g z v : Nat) (wt : Nat → Prop) (dep : Nat → Nat) (dr ld : Nat) (B : List Fct) (Y : List Sy) (M : am_M) (Q : Option Value → am_M → Prop) (hL : Lay M) (hI : RInv M) (hs : s < 8) (hg : isSh g) (hz : z = 2 ∨ z = 83) (hsr : srtY Y) (hsw : ∀ y, y ∈ Y → sndP dep dr ld y.2.1 y.2.2 → wt y.2.1) (hT : TkX M s g z v wt dep dr ld B Y) (hB : fitP wt v B) (hln : LnP M (173 + 13 * s) (cov B)) (hk : ∀ k, k < Y.length → mI M (182 + 13 * s) k = tI (keptY wt v (sndP dep dr ld) B Y k))
    (hQ : ∀ M', zF (fun a j => sMy s a j ∨ a = 180 + 13 * s) M M' → (∀ h, h < 48 → ∀ q, inS (my4 M' s h) q ↔ mayY wt v (sndP dep dr ld) B Y q h) → Q none M') : am_E am_P0 (d + 2) 87 [.ref (173 + 13 * s)] M Q := by
  have hfit := fcY_fit hsr (BkX_ord hT.2.2.1) hsw hB
  have hlin := (fit_lin hfit.2).mp hfit.1
  rw [eX8_findMay]
  simp +decide only [qX8_findMay_0, qX8_findMay_1, qX8_findMay_2, qX8_findMay_3, am_w1_i, am_w1_r, am_w1_x, am_w1_l, am_w1_w, va_rf_s, am_push_n, am_push_s, am_cs_0, am_cs_i, am_cs_l, am_cs_r, m_uI_K, m_uI_N, m_uI_R, m_uI_L, m_uI_I, m_uL_K, m_uL_N, m_uL_R, m_uL_I, m_uL_L, m_uR_K, m_uR_N, m_uR_I, m_uR_L, m_uR_R, true_and, and_true]
  rw [show (0 : Int32) = nI 0 from rfl]
  refine l_x_fm1 (d + 1) s g z v wt dep dr ld B Y M Q hs hg hz hL hI hT hB hlin.1 hk am_x am_x am_x (fun M1 g1 hc1 => ?_) Y.length 0 (by omega) M (oS_refl _ _) (by
    have e : kpF (fun k => fitP wt v B ∧ keptY wt v (sndP dep dr ld) B Y k) Y 0 = [] := rfl
    rw [e, List.append_nil]; exact hln)
  have x1 := xF_L hs hL hI g1
  have T1 := x1.2.2.2.2.2.2 s v wt hs hT.1
  simp +decide only [qX8_findMay_0, qX8_findMay_1, qX8_findMay_2, qX8_findMay_3, am_w1_i, am_w1_r, am_w1_x, am_w1_l, am_w1_w, va_rf_s, am_push_n, am_push_s, am_cs_0, am_cs_i, am_cs_l, am_cs_r, m_uI_K, m_uI_N, m_uI_R, m_uI_L, m_uI_I, m_uL_K, m_uL_N, m_uL_R, m_uL_I, m_uL_L, m_uR_K, m_uR_N, m_uR_I, m_uR_L, m_uR_R, true_and, and_true]
  rw [show (0 : Int32) = nI 0 from rfl]
  refine l_x_fm2 d s v wt _ M1 Q hs hc1 (fun M2 x v3 v4 g2 T2 hr2 j3 j4 => ?_) 48 0 rfl M1 (-1) am_x am_x (zF_refl x1.1 x1.2.1) T1 (Or.inl ⟨rfl, fun t p ht => by omega⟩) (fun h' hh' => by omega) (Or.inl rfl) (Or.inl rfl)
  have hc2 := LnP_I (M' := M2) hc1 (fun j => g2.2.2.2.1 _ _ (by omega) (fun s' hs' => by omega) (fun q => by unfold sMy at q; omega))
  have h3 := l_x_fm3 d s v wt _ M2 Q hs hc2 (fun M3 g3 T3 hr3 => ?_) 48 (Nat.le_refl _) M2 (-1) v3 v4 (zF_refl g2.1 g2.2.1) T2 (Or.inl ⟨rfl, fun t p ht hq => by have := (hc2.2.1 t p hq).1; omega⟩) (fun h' hh' q => (hr2 h' hh' q).trans ⟨fun z => ⟨z, fun y => by omega⟩, fun z => z.1⟩) j4
  · have e47 : nI 48 - 1 = 47 := rfl
    rw [e47] at h3
    simp +decide only [qX8_findMay_0, qX8_findMay_1, qX8_findMay_2, qX8_findMay_3, am_w1_i, am_w1_r, am_w1_x, am_w1_l, am_w1_w, va_rf_s, am_push_n, am_push_s, am_cs_0, am_cs_i, am_cs_l, am_cs_r, m_uI_K, m_uI_N, m_uI_R, m_uI_L, m_uI_I, m_uL_K, m_uL_N, m_uL_R, m_uL_I, m_uL_L, m_uR_K, m_uR_N, m_uR_I, m_uR_L, m_uR_R, true_and, and_true]
    exact h3
  · refine hQ M3 (zF_trans (zF_up (zF_x x1) (fun a j q => Or.inr q)) (zF_up (zF_trans g2 g3) (fun a j q => Or.inl q))) (fun h hh q => (hr3 h hh q).trans ?_)
    unfold mayY
    constructor
    · rintro ⟨a1, a2⟩
      exact ⟨hB, a1.1, (may_lin hfit.1 hfit.2 h q a1.1).mpr ⟨a1.2, a2⟩⟩
    · rintro ⟨-, a2, a3⟩
      have := (may_lin hfit.1 hfit.2 h q a2).mp a3
      exact ⟨⟨a2, this.1⟩, this.2⟩
end
