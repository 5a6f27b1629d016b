/-! the class's line: one place an hour -/
def LnP (M : am_M) (w : Nat) (c : Nat → Nat → Prop) : Prop := (∀ h p q, c h p → c h q → p = q) ∧ (∀ h p, c h p → h < 48 ∧ p < 256) ∧ ∀ h, h < 48 → (∃ p, c h p ∧ mI M (w + 7) h = nI p) ∨ ((∀ p, ¬ c h p) ∧ mI M (w + 7) h = -1)
def sL (w a _j : Nat) : Prop := a = w + 7
theorem LnP_ext {M : am_M} {w : Nat} {c c' : Nat → Nat → Prop} (h : ∀ t p, c t p ↔ c' t p) (hc : LnP M w c) : LnP M w c' := by
  have e : c = c' := funext fun t => funext fun p => propext (h t p)
  rw [← e]; exact hc
theorem LnP_I {M M' : am_M} {w : Nat} {c : Nat → Nat → Prop} (hc : LnP M w c) (h : ∀ j, mI M' (w + 7) j = mI M (w + 7) j) : LnP M' w c := ⟨hc.1, hc.2.1, fun t ht => by rw [h]; exact hc.2.2 t ht⟩
theorem LnP_put {M : am_M} {w t p : Nat} {c : Nat → Nat → Prop} (hc : LnP M w c) (ht : t < 48) (hp : p < 256) (hn : ∀ q, c t q → q = p) : LnP (uI M (w + 7) t (nI p)) w (fun h q => c h q ∨ (h = t ∧ q = p)) := by
  obtain ⟨h1, h2, h3⟩ := hc
  refine ⟨fun h a b ha hb => ?_, fun h a ha => ?_, fun h hh => ?_⟩
  · rcases ha with ha | ⟨rfl, rfl⟩ <;> rcases hb with hb | ⟨hb1, hb2⟩
    · exact h1 h a b ha hb
    · subst hb1; subst hb2; exact hn a ha
    · exact (hn b hb).symm
    · exact hb2.symm
  · rcases ha with ha | ⟨rfl, rfl⟩
    · exact h2 h a ha
    · exact ⟨ht, hp⟩
  · rw [m_uI_I]
    by_cases e : h = t
    · subst e
      rw [if_pos ⟨rfl, rfl⟩]
      exact Or.inl ⟨p, Or.inr ⟨rfl, rfl⟩, rfl⟩
    · rw [if_neg (fun z => e z.2)]
      rcases h3 h hh with ⟨q, q1, q2⟩ | ⟨q1, q2⟩
      · exact Or.inl ⟨q, Or.inl q1, q2⟩
      · exact Or.inr ⟨fun a ha => by rcases ha with ha | ha; exact q1 a ha; exact e ha.1, q2⟩
theorem c_x_lput (d w t p : Nat) (M : am_M) (Q : Option Value → am_M → Prop) (c : Nat → Nat → Prop) (hL : Lay M) (hw : isTr w) (hc : LnP M w c) (ht : t < 48) (hp : p < 256) : am_E am_P0 d 7 [.ref (w + 6), .int (nI t), .int (nI p)] M Q ↔ ((∀ q, c t q → q = p) → Q (some (.int 1)) (uI M (w + 7) t (nI p))) ∧ (¬ (∀ q, c t q → q = p) → Q (some (.int 0)) M) := by
  rw [eX1_put]
  simp +decide (disch := omega) only [qX1_put, lt_ hL hw, ni_in_t, ni_tn, am_w1_i, am_w1_r, am_w1_x, am_w1_l, am_w1_w, va_rf_s, am_push_n, am_push_s, am_cs_0, am_cs_i, am_cs_l, am_cs_r, m_uI_K, m_uI_N, m_uI_R, m_uI_L, m_uI_I, m_uL_K, m_uL_N, m_uL_R, m_uL_I, m_uL_L, m_uR_K, m_uR_N, m_uR_I, m_uR_L, m_uR_R, true_and, and_true]
  rcases hc.2.2 t ht with ⟨q, q1, q2⟩ | ⟨q1, q2⟩
  · have hq := (hc.2.1 t q q1).2
    rw [q2, br_n (nI_m1 (by omega))]
    by_cases e : q = p
    · subst e
      rw [br_p rfl, br_p (fun x hx => hc.1 t x q hx q1)]
    · rw [br_n (fun z => e ((ni_eq (by omega) (by omega)).mp z)), br_n (fun z => e (z q q1))]
  · rw [br_p q2, br_p (fun q hq => absurd hq (q1 q))]
theorem c_x_clear (d w : Nat) (M : am_M) (Q : Option Value → am_M → Prop) (hL : Lay M) (hw : isTr w) : am_E am_P0 (d + 1) 6 [.ref (w + 6)] M Q ↔ Q none (uA M (w + 7) (fun j => if j < 48 then -1 else mI M (w + 7) j)) := by
  have hk := lt_ hL hw
  have hK : mK M (w + 7) = 0 := by simp only [hk]
  have hN : mN M (w + 7) = 48 := by simp only [hk]
  rw [eX1_clear]
  simp +decide only [qX1_clear, lt_ hL hw, am_w1_i, am_w1_r, am_w1_x, am_w1_l, am_w1_w, va_rf_s, am_push_n, am_push_s, am_cs_0, am_cs_i, am_cs_l, am_cs_r, m_uI_K, m_uI_N, m_uI_R, m_uI_L, m_uI_I, m_uL_K, m_uL_N, m_uL_R, m_uL_I, m_uL_L, m_uR_K, m_uR_N, m_uR_I, m_uR_L, m_uR_R, true_and, and_true]
  rw [c_fillI d (w + 7) (-1) M _ hK (by omega), hN]
  simp +decide only [qX1_clear, am_w1_i, am_w1_r, am_w1_x, am_w1_l, am_w1_w, va_rf_s, am_push_n, am_push_s, am_cs_0, am_cs_i, am_cs_l, am_cs_r, m_uI_K, m_uI_N, m_uI_R, m_uI_L, m_uI_I, m_uL_K, m_uL_N, m_uL_R, m_uL_I, m_uL_L, m_uR_K, m_uR_N, m_uR_I, m_uR_L, m_uR_R, true_and, and_true]
theorem LnP_0 (M : am_M) (w : Nat) : LnP (uA M (w + 7) (fun j => if j < 48 then -1 else mI M (w + 7) j)) w (fun _ _ => False) := ⟨fun _ _ _ h => h.elim, fun _ _ h => h.elim, fun h hh => Or.inr ⟨fun _ h => h, by rw [uA_I, if_pos rfl, if_pos hh]⟩⟩
/-- what is known behind the first h hours -/
def hldI (c : Nat → Nat → Prop) (wt : Nat → Prop) (v h : Nat) (last : Int32) : Prop :=
  ((last = -1 ∧ ∀ t p, t < h → ¬ c t p) ∨ (∃ l pl, l < h ∧ last = nI l ∧ c l pl ∧ ∀ t p, l < t → t < h → ¬ c t p)) ∧ (∀ t p, t < h → c t p → wt p) ∧ ∀ t1 t2 p1 p2, t1 < t2 → t2 < h → c t1 p1 → c t2 p2 → (∀ t, t1 < t → t < t2 → ∀ p, ¬ c t p) → wit wt v p1 p2 (t2 - t1)
theorem l_x_holds (d s v : Nat) (wt : Nat → Prop) (c : Nat → Nat → Prop) (M0 : am_M) (Q : Option Value → am_M → Prop) (hs : s < 8) (hc0 : LnP M0 (173 + 13 * s) c)
    (hQ : ∀ M', rgF M0 M' → Q (some (.int (tI (linP wt v c)))) M') :
    ∀ (m h : Nat), h + m = 48 → ∀ (M : am_M) (last : Int32) (v4 : Value), rgF M0 M → TrW M s v wt → hldI c wt v h last → am_P am_P0 (d + 3) (am_look tX1_holds) 4 [.ref (179 + 13 * s), .ref (174 + 13 * s), .int last, .int (nI h), v4] [] M Q := by
  obtain ⟨w, hwe⟩ : ∃ w, w = 173 + 13 * s := ⟨_, rfl⟩
  have hw : isTr w := ⟨s, hs, hwe⟩
  have e1 : 174 + 13 * s = w + 1 := by omega
  have e2 : 175 + 13 * s = w + 2 := by omega
  have e6 : 179 + 13 * s = w + 6 := by omega
  intro m
  induction m with
  | zero =>
    intro h hh M last v4 hM hT hI
    have e : h = 48 := by omega
    subst e
    rw [hX1_holds_4]
    simp +decide only [qX1_holds_0, qX1_holds_1, am_w1_i, am_w1_r, am_w1_x, am_w1_l, am_w1_w, va_rf_s, am_push_n, am_push_s, am_cs_0, am_cs_i, am_cs_l, am_cs_r, m_uI_K, m_uI_N, m_uI_R, m_uI_L, m_uI_I, m_uL_K, m_uL_N, m_uL_R, m_uL_I, m_uL_L, m_uR_K, m_uR_N, m_uR_I, m_uR_L, m_uR_R, true_and, and_true, true_implies, false_implies]
    have h0 := hQ M hM
    have hlin : linP wt v c := ⟨hc0.1, fun t p hp => hI.2.1 t p (hc0.2.1 t p hp).1 hp, fun t1 t2 p1 p2 q1 q2 q3 q4 => hI.2.2 t1 t2 p1 p2 q1 (hc0.2.1 t2 p2 q3).1 q2 q3 q4⟩
    rw [tI_t hlin] at h0
    exact h0
  | succ m ih =>
    intro h hh M last v4 hM hT hI
    have hL := hM.1
    have hc : LnP M w c := LnP_I (by rw [hwe]; exact hc0) (fun j => hM.2.2.2.1 _ _ (by omega) (fun s' hs' => by omega))
    have hlt : ¬ (48 : Int32) ≤ nI h := by rw [show (48 : Int32) = nI 48 from rfl, ni_le (by omega) (by omega)]; omega
    rw [hX1_holds_4, e1, e6]
    rcases hc.2.2 h (by omega) with ⟨p, hp, hm⟩ | ⟨hp, hm⟩
    · have hp2 := (hc.2.1 h p hp).2
      have hwat := fun Q => c_x_isWater (d + 2) w p M Q hL hw hp2
      have hwt : inS (fun i => mL M (w + 2) i) p ↔ wt p := by rw [← e2]; exact hT.2.2.1 p
      simp +decide (disch := omega) only [qX1_holds_0, qX1_holds_1, lt_ hL hw, hm, hwat, ni_in_t, ni_tn, ni_add1, am_w1_i, am_w1_r, am_w1_x, am_w1_l, am_w1_w, va_rf_s, am_push_n, am_push_s, am_cs_0, am_cs_i, am_cs_l, am_cs_r, m_uI_K, m_uI_N, m_uI_R, m_uI_L, m_uI_I, m_uL_K, m_uL_N, m_uL_R, m_uL_I, m_uL_L, m_uR_K, m_uR_N, m_uR_I, m_uR_L, m_uR_R, true_and, and_true]
      rw [br_n hlt, br_q (nI_m1 (by omega))]
      by_cases hpw : wt p
      · rw [tI_t (hwt.mpr hpw), br_n (by decide)]
        rcases hI.1 with ⟨hl, hno⟩ | ⟨l, pl, hl, rfl, hpl, hno⟩
        · rw [br_p hl, ← e1, ← e6]
          refine ih (h + 1) (by omega) M _ _ hM hT ⟨Or.inr ⟨h, p, by omega, rfl, hp, fun t q q1 q2 => by omega⟩, fun t q ht hq => ?_, fun t1 t2 p1 p2 q1 q2 q3 q4 q5 => ?_⟩
          · by_cases et : t = h
            · subst et; rw [hc.1 t q p hq hp]; exact hpw
            · exact hI.2.1 t q (by omega) hq
          · by_cases et : t2 = h
            · exact absurd q3 (hno t1 p1 (by omega))
            · exact hI.2.2 t1 t2 p1 p2 q1 (by omega) q3 q4 q5
        · have hpl2 := hc.2.1 l pl hpl
          have hml : mI M (w + 7) l = nI pl := by
            rcases hc.2.2 l hpl2.1 with ⟨x, x1, x2⟩ | ⟨x1, x2⟩
            · rw [x2, hc.1 l x pl x1 hpl]
            · exact absurd hpl (x1 pl)
          rw [br_n (nI_m1 (by omega))]
          simp +decide (disch := omega) only [lt_ hL hw, hml, ni_in_t, ni_tn, am_w1_i, am_w1_r, am_w1_x, am_w1_l, am_w1_w, va_rf_s, am_push_n, am_push_s, am_cs_0, am_cs_i, am_cs_l, am_cs_r, m_uI_K, m_uI_N, m_uI_R, m_uI_L, m_uI_I, m_uL_K, m_uL_N, m_uL_R, m_uL_I, m_uL_L, m_uR_K, m_uR_N, m_uR_I, m_uR_L, m_uR_R, true_and, and_true]
          rw [ni_sub (by omega), ← e1]
          refine c_x_isWithin d s pl p (h - l) v wt M _ hL hM.2.1 hs hpl2.2 hp2 (by omega) hT (fun M' g => ?_)
          simp +decide only [qX1_holds_0, qX1_holds_1, ni_add1, am_w1_i, am_w1_r, am_w1_x, am_w1_l, am_w1_w, va_rf_s, am_push_n, am_push_s, am_cs_0, am_cs_i, am_cs_l, am_cs_r, m_uI_K, m_uI_N, m_uI_R, m_uI_L, m_uI_I, m_uL_K, m_uL_N, m_uL_R, m_uL_I, m_uL_L, m_uR_K, m_uR_N, m_uR_I, m_uR_L, m_uR_R, true_and, and_true]
          by_cases hwi : wit wt v pl p (h - l)
          · rw [tI_t hwi, br_q (by decide), ← e6]
            refine ih (h + 1) (by omega) M' _ _ (rgF_trans hM g) (g.2.2.2.2.2.2 s v wt hs hT) ⟨Or.inr ⟨h, p, by omega, rfl, hp, fun t q q1 q2 => by omega⟩, fun t q ht hq => ?_, fun t1 t2 p1 p2 q1 q2 q3 q4 q5 => ?_⟩
            · by_cases et : t = h
              · subst et; rw [hc.1 t q p hq hp]; exact hpw
              · exact hI.2.1 t q (by omega) hq
            · by_cases et : t2 = h
              · subst et
                have et1 : t1 = l := by
                  rcases Nat.lt_trichotomy t1 l with x | x | x
                  · exact absurd hpl (q5 l x hl pl)
                  · exact x
                  · exact absurd q3 (hno t1 p1 x q1)
                subst et1
                rw [hc.1 _ p1 pl q3 hpl, hc.1 _ p2 p q4 hp]
                exact hwi
              · exact hI.2.2 t1 t2 p1 p2 q1 (by omega) q3 q4 q5
          · rw [tI_f hwi, br_r rfl]
            have h0 := hQ M' (rgF_trans hM g)
            have hlin : ¬ linP wt v c := fun z => hwi (z.2.2 l h pl p hl hpl hp (fun t x1 x2 q => hno t q x1 x2))
            rw [tI_f hlin] at h0
            exact h0
      · rw [tI_f (fun z => hpw (hwt.mp z)), br_p rfl]
        have h0 := hQ M hM
        have hlin : ¬ linP wt v c := fun z => hpw (z.2.1 h p hp)
        rw [tI_f hlin] at h0
        exact h0
    · simp +decide (disch := omega) only [qX1_holds_0, qX1_holds_1, lt_ hL hw, hm, ni_in_t, ni_tn, ni_add1, am_w1_i, am_w1_r, am_w1_x, am_w1_l, am_w1_w, va_rf_s, am_push_n, am_push_s, am_cs_0, am_cs_i, am_cs_l, am_cs_r, m_uI_K, m_uI_N, m_uI_R, m_uI_L, m_uI_I, m_uL_K, m_uL_N, m_uL_R, m_uL_I, m_uL_L, m_uR_K, m_uR_N, m_uR_I, m_uR_L, m_uR_R, true_and, and_true, not_true_eq_false, not_false_eq_true, true_implies, false_implies]
      rw [br_n hlt, ← e1, ← e6]
      refine ih (h + 1) (by omega) M _ _ hM hT ⟨?_, fun t q ht hq => ?_, fun t1 t2 p1 p2 q1 q2 q3 q4 q5 => ?_⟩
      · rcases hI.1 with ⟨hl, hno⟩ | ⟨l, pl, hl, rfl, hpl, hno⟩
        · refine Or.inl ⟨hl, fun t q ht => ?_⟩
          by_cases et : t = h
          · subst et; exact hp q
          · exact hno t q (by omega)
        · refine Or.inr ⟨l, pl, by omega, rfl, hpl, fun t q q1 q2 => ?_⟩
          by_cases et : t = h
          · subst et; exact hp q
          · exact hno t q q1 (by omega)
      · by_cases et : t = h
        · subst et; exact absurd hq (hp q)
        · exact hI.2.1 t q (by omega) hq
      · by_cases et : t2 = h
        · subst et; exact absurd q4 (hp p2)
        · exact hI.2.2 t1 t2 p1 p2 q1 (by omega) q3 q4 q5
theorem c_x_holds (d s v : Nat) (wt : Nat → Prop) (c : Nat → Nat → Prop) (M : am_M) (Q : Option Value → am_M → Prop) (hs : s < 8) (hL : Lay M) (hI : RInv M) (hc : LnP M (173 + 13 * s) c) (hT : TrW M s v wt)
    (hQ : ∀ M', rgF M M' → Q (some (.int (tI (linP wt v c)))) M') : am_E am_P0 (d + 3) 8 [.ref (179 + 13 * s), .ref (174 + 13 * s)] M Q := by
  rw [eX1_holds]
  simp +decide only [qX1_holds_0, qX1_holds_1, am_w1_i, am_w1_r, am_w1_x, am_w1_l, am_w1_w, va_rf_s, am_push_n, am_push_s, am_cs_0, am_cs_i, am_cs_l, am_cs_r, m_uI_K, m_uI_N, m_uI_R, m_uI_L, m_uI_I, m_uL_K, m_uL_N, m_uL_R, m_uL_I, m_uL_L, m_uR_K, m_uR_N, m_uR_I, m_uR_L, m_uR_R, true_and, and_true]
  rw [show (0 : Int32) = nI 0 from rfl]
  exact l_x_holds d s v wt c M Q hs hc hQ 48 0 (by omega) M (-1) _ (rgF_refl hL hI) hT ⟨Or.inl ⟨rfl, fun t p ht => by omega⟩, fun t p ht => by omega, fun t1 t2 p1 p2 q1 q2 => by omega⟩
/-- a ship's books as they lie in the class's rows -/
def BkX (M : am_M) (g : Nat) (F : List Fct) : Prop := mI M g 9 = nI F.length ∧ F.length ≤ 12 ∧ ∀ i f, F[i]? = some f → (f.1 < 256 ∧ f.2.1 ≤ f.2.2 ∧ f.2.2 < 48) ∧ mI M (g + 4) i = nI f.1 ∧ mI M (g + 5) i = nI f.2.1 ∧ mI M (g + 6) i = nI f.2.2
theorem BkX_S {M M' : am_M} {g : Nat} {F : List Fct} {S : Nat → Nat → Prop} (h : BkX M g F) (hS : oS S M M') (hd : ∀ a j, g ≤ a → a ≤ g + 6 → ¬ S a j) : BkX M' g F := by
  refine ⟨by rw [hS.1 _ _ (hd _ _ (by omega) (by omega))]; exact h.1, h.2.1, fun i k hk => ?_⟩
  obtain ⟨q1, q2, q3, q4⟩ := h.2.2 i k hk
  exact ⟨q1, by rw [hS.1 _ _ (hd _ _ (by omega) (by omega))]; exact q2, by rw [hS.1 _ _ (hd _ _ (by omega) (by omega))]; exact q3, by rw [hS.1 _ _ (hd _ _ (by omega) (by omega))]; exact q4⟩
theorem isSh_lt {g : Nat} (h : isSh g) : g + 6 < 164 := by
  obtain ⟨s, hs, h | h⟩ := h <;> omega
theorem isTr_ge {w : Nat} (h : isTr w) : 173 ≤ w ∧ w + 12 < 277 := by
  obtain ⟨s, hs, h⟩ := h; omega
/-- the books up to the i-th, and of that the hours ahead of t -/
def covB (F : List Fct) (i t : Nat) (h p : Nat) : Prop := cov (F.take i) h p ∨ ∃ f, F[i]? = some f ∧ f.2.1 ≤ h ∧ h < t ∧ p = f.1
theorem cov_take {F : List Fct} {i : Nat} {f : Fct} (hf : F[i]? = some f) (h p : Nat) : cov (F.take (i + 1)) h p ↔ cov (F.take i) h p ∨ (f.1 = p ∧ f.2.1 ≤ h ∧ h ≤ f.2.2) := by
  have e : F.take (i + 1) = F.take i ++ [f] := by
    rw [List.take_add_one, hf]
    rfl
  unfold cov
  rw [e]
  constructor
  · rintro ⟨a, ha, q⟩
    rcases List.mem_append.mp ha with ha | ha
    · exact Or.inl ⟨a, ha, q⟩
    · rw [List.mem_singleton] at ha
      subst ha
      exact Or.inr q
  · rintro (⟨a, ha, q⟩ | q)
    · exact ⟨a, List.mem_append_left _ ha, q⟩
    · exact ⟨f, List.mem_append_right _ (List.mem_singleton.mpr rfl), q⟩
theorem cov_sub {F : List Fct} {i : Nat} {h p : Nat} (hc : cov (F.take i) h p) : cov F h p := by
  obtain ⟨a, ha, q⟩ := hc
  exact ⟨a, List.mem_of_mem_take ha, q⟩
/-- one place an hour -/
def uniq (c : Nat → Nat → Prop) : Prop := ∀ h p q, c h p → c h q → p = q
theorem l_x_layB2 (d w g i : Nat) (F : List Fct) (f : Fct) (M0 : am_M) (Q : Option Value → am_M → Prop) (hw : isTr w) (hg : isSh g) (hf : F[i]? = some f) (hR : mR M0 w 0 = some g)
    (hN : ∀ M', oS (sL w) M0 M' → ¬ uniq (cov F) → Q (some (.int 0)) M')
    (hY : ∀ M' v2, oS (sL w) M0 M' → LnP M' w (cov (F.take (i + 1))) → am_P am_P0 (d + 1) (am_look tX8_layBooks) 9 [.ref w, .int (nI i + 1), .int v2] [] M' Q) :
    ∀ (m t : Nat), t + m = f.2.2 + 1 → f.2.1 ≤ t → ∀ (M : am_M), oS (sL w) M0 M → Lay M → BkX M g F → LnP M w (covB F i t) → am_P am_P0 (d + 1) (am_look tX8_layBooks) 30 [.ref w, .int (nI i), .int (nI t)] [] M Q := by
  have hgl := isSh_lt hg
  have hwl := isTr_ge hw
  intro m
  induction m with
  | zero =>
    intro t ht hft M hM hL hB hc
    obtain ⟨⟨q1, q2, q3⟩, q4, q5, q6⟩ := hB.2.2 i f hf
    have hil := (List.getElem?_eq_some_iff.mp hf).1
    have h12 := hB.2.1
    have hlt : nI f.2.2 < nI t := (ni_lt (by omega) (by omega)).mpr (by omega)
    have hR' : mR M w 0 = some g := by rw [hM.2.2.1]; exact hR
    rw [hX8_layBooks_30]
    simp +decide (disch := omega) only [qX8_layBooks, lt_ hL hw, lw_ hL hg, hR', q6, ni_in_t, ni_tn, am_w1_i, am_w1_r, am_w1_x, am_w1_l, am_w1_w, va_rf_s, am_push_n, am_push_s, am_cs_0, am_cs_i, am_cs_l, am_cs_r, m_uI_K, m_uI_N, m_uI_R, m_uI_L, m_uI_I, m_uL_K, m_uL_N, m_uL_R, m_uL_I, m_uL_L, m_uR_K, m_uR_N, m_uR_I, m_uR_L, m_uR_R, true_and, and_true]
    rw [br_p hlt]
    refine hY M _ hM (LnP_ext (fun h p => ?_) hc)
    rw [cov_take hf]
    unfold covB
    constructor
    · rintro (z | ⟨f', z1, z2, z3, z4⟩)
      · exact Or.inl z
      · cases hf.symm.trans z1
        exact Or.inr ⟨z4.symm, z2, by omega⟩
    · rintro (z | ⟨z1, z2, z3⟩)
      · exact Or.inl z
      · exact Or.inr ⟨f, hf, z2, by omega, z1.symm⟩
  | succ m ih =>
    intro t ht hft M hM hL hB hc
    obtain ⟨⟨q1, q2, q3⟩, q4, q5, q6⟩ := hB.2.2 i f hf
    have hil := (List.getElem?_eq_some_iff.mp hf).1
    have h12 := hB.2.1
    have hlt : ¬ nI f.2.2 < nI t := fun z => by rw [ni_lt (by omega) (by omega)] at z; omega
    have hR' : mR M w 0 = some g := by rw [hM.2.2.1]; exact hR
    have hput := fun Q => c_x_lput d w t f.1 M Q (covB F i t) hL hw hc (by omega) q1
    rw [hX8_layBooks_30]
    simp +decide (disch := omega) only [qX8_layBooks, lt_ hL hw, lw_ hL hg, hR', q4, q6, hput, ni_in_t, ni_tn, ni_add1, am_w1_i, am_w1_r, am_w1_x, am_w1_l, am_w1_w, va_rf_s, am_push_n, am_push_s, am_cs_0, am_cs_i, am_cs_l, am_cs_r, m_uI_K, m_uI_N, m_uI_R, m_uI_L, m_uI_I, m_uL_K, m_uL_N, m_uL_R, m_uL_I, m_uL_L, m_uR_K, m_uR_N, m_uR_I, m_uR_L, m_uR_R, true_and, and_true, not_true_eq_false, not_false_eq_true, true_implies, false_implies]
    rw [br_n hlt]
    by_cases hn : ∀ q, covB F i t t q → q = f.1
    · rw [br_p hn]
      have hM' : oS (sL w) M0 (uI M (w + 7) t (nI f.1)) := oS_trans hM ⟨fun a j h => by rw [m_uI_I, if_neg (fun z => h z.1)], fun _ _ => rfl, fun _ _ => rfl, rfl⟩
      refine ih (t + 1) (by omega) (by omega) _ hM' hL (BkX_S hB ⟨fun a j h => by rw [m_uI_I, if_neg (fun z => h z.1)], fun _ _ => rfl, fun _ _ => rfl, rfl⟩ (fun a j z1 z2 z3 => by have z4 : a = w + 7 := z3; omega) : BkX (uI M (w + 7) t (nI f.1)) g F) (LnP_ext (fun h p => ?_) (LnP_put hc (by omega) q1 hn))
      unfold covB
      constructor
      · rintro ((z | ⟨f', z1, z2, z3, z4⟩) | ⟨z1, z2⟩)
        · exact Or.inl z
        · exact Or.inr ⟨f', z1, z2, by omega, z4⟩
        · exact Or.inr ⟨f, hf, by omega, by omega, z2⟩
      · rintro (z | ⟨f', z1, z2, z3, z4⟩)
        · exact Or.inl (Or.inl z)
        · by_cases et : h = t
          · cases hf.symm.trans z1
            exact Or.inr ⟨et, z4⟩
          · exact Or.inl (Or.inr ⟨f', z1, z2, by omega, z4⟩)
    · rw [br_n hn]
      refine hN M hM (fun hu => hn (fun q hq => ?_))
      refine hu t q f.1 ?_ ⟨f, List.mem_of_getElem? hf, rfl, hft, by omega⟩
      rcases hq with z | ⟨f', z1, z2, z3, z4⟩
      · exact cov_sub z
      · omega
theorem l_x_layB (d w g : Nat) (F : List Fct) (M0 : am_M) (Q : Option Value → am_M → Prop) (hw : isTr w) (hg : isSh g) (hR : mR M0 w 0 = some g)
    (hN : ∀ M', oS (sL w) M0 M' → ¬ uniq (cov F) → Q (some (.int 0)) M') (hY : ∀ M', oS (sL w) M0 M' → LnP M' w (cov F) → Q (some (.int 1)) M') :
    ∀ (m i : Nat), i + m = F.length → ∀ (M : am_M) (v2 : Value), oS (sL w) M0 M → Lay M → BkX M g F → LnP M w (cov (F.take i)) → (v2 = am_x ∨ ∃ x, v2 = .int x) → am_P am_P0 (d + 1) (am_look tX8_layBooks) 9 [.ref w, .int (nI i), v2] [] M Q := by
  have hgl := isSh_lt hg
  have hwl := isTr_ge hw
  intro m
  induction m with
  | zero =>
    intro i hi M v2 hM hL hB hc _
    have e : i = F.length := by omega
    subst e
    have h12 := hB.2.1
    have hle : nI F.length ≤ nI F.length := (ni_le (by omega) (by omega)).mpr (Nat.le_refl _)
    have hR' : mR M w 0 = some g := by rw [hM.2.2.1]; exact hR
    rw [hX8_layBooks_9]
    simp +decide (disch := omega) only [qX8_layBooks, lt_ hL hw, lw_ hL hg, hR', hB.1, am_w1_i, am_w1_r, am_w1_x, am_w1_l, am_w1_w, va_rf_s, am_push_n, am_push_s, am_cs_0, am_cs_i, am_cs_l, am_cs_r, m_uI_K, m_uI_N, m_uI_R, m_uI_L, m_uI_I, m_uL_K, m_uL_N, m_uL_R, m_uL_I, m_uL_L, m_uR_K, m_uR_N, m_uR_I, m_uR_L, m_uR_R, true_and, and_true]
    rw [br_p hle]
    rw [List.take_length] at hc
    exact hY M hM hc
  | succ m ih =>
    intro i hi M v2 hM hL hB hc hv2
    have h12 := hB.2.1
    have hlt : ¬ nI F.length ≤ nI i := by rw [ni_le (by omega) (by omega)]; omega
    obtain ⟨f, hf⟩ : ∃ f, F[i]? = some f := ⟨F[i]'(by omega), List.getElem?_eq_getElem (by omega)⟩
    obtain ⟨⟨q1, q2, q3⟩, q4, q5, q6⟩ := hB.2.2 i f hf
    have hR' : mR M w 0 = some g := by rw [hM.2.2.1]; exact hR
    have hw2 : am_w1 v2 = v2 := by rcases hv2 with rfl | ⟨x, rfl⟩ <;> rfl
    rw [hX8_layBooks_9]
    simp +decide (disch := omega) only [qX8_layBooks, lt_ hL hw, lw_ hL hg, hR', hB.1, q5, ni_in_t, ni_tn, am_w1_i, am_w1_r, am_w1_x, am_w1_l, am_w1_w, va_rf_s, am_push_n, am_push_s, am_cs_0, am_cs_i, am_cs_l, am_cs_r, m_uI_K, m_uI_N, m_uI_R, m_uI_L, m_uI_I, m_uL_K, m_uL_N, m_uL_R, m_uL_I, m_uL_L, m_uR_K, m_uR_N, m_uR_I, m_uR_L, m_uR_R, true_and, and_true]
    rw [br_n hlt]
    refine l_x_layB2 d w g i F f M0 Q hw hg hf hR hN (fun M' v2' g1 g2 => ?_) (f.2.2 + 1 - f.2.1) f.2.1 (by omega) (Nat.le_refl _) M hM hL hB (LnP_ext (fun h p => ?_) hc)
    · rw [ni_add1]
      have g3 : oS (sL w) M M' := ⟨fun a j h => (g1.1 a j h).trans (hM.1 a j h).symm, fun a j => (g1.2.1 a j).trans (hM.2.1 a j).symm, fun a j => (g1.2.2.1 a j).trans (hM.2.2.1 a j).symm, g1.2.2.2.trans hM.2.2.2.symm⟩
      exact ih (i + 1) (by omega) M' _ g1 (oS_Lay g3 hL) (BkX_S hB g3 (fun a j z1 z2 z3 => by have z4 : a = w + 7 := z3; omega)) g2 (Or.inr ⟨_, rfl⟩)
    · unfold covB
      constructor
      · exact Or.inl
      · rintro (z | ⟨f', z1, z2, z3, z4⟩)
        · exact z
        · cases hf.symm.trans z1
          omega
/-- the books are laid, if one place an hour is all they have -/
theorem c_x_layBooks (d w g : Nat) (F : List Fct) (M : am_M) (Q : Option Value → am_M → Prop) (hL : Lay M) (hw : isTr w) (hg : isSh g) (hR : mR M w 0 = some g) (hB : BkX M g F)
    (hN : ∀ M', oS (sL w) M M' → ¬ uniq (cov F) → Q (some (.int 0)) M') (hY : ∀ M', oS (sL w) M M' → LnP M' w (cov F) → Q (some (.int 1)) M') : am_E am_P0 (d + 2) 77 [.ref w] M Q := by
  have hgl := isSh_lt hg
  have hwl := isTr_ge hw
  have hcl := fun Q => c_x_clear d w M Q hL hw
  rw [eX8_layBooks]
  simp +decide only [qX8_layBooks, lt_ hL hw, hcl, am_w1_i, am_w1_r, am_w1_x, am_w1_l, am_w1_w, va_rf_s, am_push_n, am_push_s, am_cs_0, am_cs_i, am_cs_l, am_cs_r, m_uI_K, m_uI_N, m_uI_R, m_uI_L, m_uI_I, m_uL_K, m_uL_N, m_uL_R, m_uL_I, m_uL_L, m_uR_K, m_uR_N, m_uR_I, m_uR_L, m_uR_R, true_and, and_true]
  rw [show (0 : Int32) = nI 0 from rfl]
  have g1 : oS (sL w) M (uA M (w + 7) (fun j => if j < 48 then -1 else mI M (w + 7) j)) := ⟨fun a j h => by rw [uA_I, if_neg (show ¬ a = w + 7 from h)], fun _ _ => rfl, fun _ _ => rfl, rfl⟩
  refine l_x_layB (d + 1) w g F M Q hw hg hR hN hY F.length 0 (by omega) _ _ g1 (oS_Lay g1 hL) (BkX_S hB g1 (fun a j z1 z2 z3 => by have z4 : a = w + 7 := z3; omega)) (LnP_ext (fun h p => ?_) (LnP_0 M w)) (Or.inl rfl)
  rw [List.take_zero]
  constructor
  · exact fun h => h.elim
  · rintro ⟨a, ha, -⟩
    cases ha
