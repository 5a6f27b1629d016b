/-! the class: sayings laid on the line -/
/-- hour, place, laden -/
abbrev Sy := Nat × Nat × Bool
def b01 (l : Bool) : Int32 := if l = true then 1 else 0
/-- a ship's sayings as they lie in the class's rows -/
def SyX (M : am_M) (g : Nat) (Y : List Sy) : Prop := mI M g 5 = nI Y.length ∧ Y.length ≤ 48 ∧ ∀ i y, Y[i]? = some y → (y.1 < 48 ∧ y.2.1 < 256) ∧ mI M (g + 1) i = nI y.1 ∧ mI M (g + 2) i = nI y.2.1 ∧ mI M (g + 3) i = b01 y.2.2
theorem SyX_S {M M' : am_M} {g : Nat} {Y : List Sy} {S : Nat → Nat → Prop} (h : SyX M g Y) (hS : oS S M M') (hd : ∀ a j, g ≤ a → a ≤ g + 6 → ¬ S a j) : SyX M' g Y := by
  refine ⟨by rw [hS.1 _ _ (hd _ _ (by omega) (by omega))]; exact h.1, h.2.1, fun i k hk => ?_⟩
  obtain ⟨q1, q2, q3, q4⟩ := h.2.2 i k hk
  exact ⟨q1, by rw [hS.1 _ _ (hd _ _ (by omega) (by omega))]; exact q2, by rw [hS.1 _ _ (hd _ _ (by omega) (by omega))]; exact q3, by rw [hS.1 _ _ (hd _ _ (by omega) (by omega))]; exact q4⟩
/-- deep enough -/
def sndP (dep : Nat → Nat) (dr ld p : Nat) (l : Bool) : Prop := dr + (if l = true then ld else 0) ≤ dep p
/-- what is needed to ask whether it is deep enough: the track's ship and sea -/
def DpX (M : am_M) (w g z : Nat) (dep : Nat → Nat) (dr ld : Nat) : Prop := mR M w 0 = some g ∧ mR M w 1 = some z ∧ mI M g 3 = nI dr ∧ mI M g 4 = nI ld ∧ dr ≤ 40 ∧ ld ≤ 40 ∧ ∀ p, p < 256 → dep p ≤ 99 ∧ mI M (z + 21) p = nI (dep p)
theorem DpX_S {M M' : am_M} {w g z : Nat} {dep : Nat → Nat} {dr ld : Nat} {S : Nat → Nat → Prop} (h : DpX M w g z dep dr ld) (hS : oS S M M') (hd1 : ∀ j, ¬ S g j) (hd2 : ∀ j, ¬ S (z + 21) j) : DpX M' w g z dep dr ld := by
  obtain ⟨h1, h2, h3, h4, h5, h6, h7⟩ := h
  exact ⟨by rw [hS.2.2.1]; exact h1, by rw [hS.2.2.1]; exact h2, by rw [hS.1 _ _ (hd1 _)]; exact h3, by rw [hS.1 _ _ (hd1 _)]; exact h4, h5, h6, fun p hp => ⟨(h7 p hp).1, by rw [hS.1 _ _ (hd2 _)]; exact (h7 p hp).2⟩⟩
theorem c_x_isSound (d w g z p : Nat) (l : Bool) (dep : Nat → Nat) (dr ld : Nat) (M : am_M) (Q : Option Value → am_M → Prop) (hL : Lay M) (hw : isTr w) (hg : isSh g) (hz : z = 2 ∨ z = 83) (hD : DpX M w g z dep dr ld) (hp : p < 256) : am_E am_P0 d 75 [.ref w, .int (nI p), .int (b01 l)] M Q ↔ Q (some (.int (tI (sndP dep dr ld p l)))) M := by
  obtain ⟨h1, h2, h3, h4, h5, h6, h7⟩ := hD
  obtain ⟨h8, h9⟩ := h7 p hp
  have key : ∀ n, n ≤ 80 → ((nI (dep p) < nI (dr + n)) ↔ ¬ dr + n ≤ dep p) := fun n hn => by rw [ni_lt (by omega) (by omega)]; omega
  rw [eX8_isSound]
  simp +decide (disch := omega) only [qX8_isSound, lt_ hL hw, lw_ hL hg, lz hL hz, h1, h2, h3, h4, h9, ni_add, ni_in_t, ni_tn, am_w1_i, am_w1_r, am_w1_x, am_w1_l, am_w1_w, va_rf_s, am_push_n, am_push_s, am_cs_0, am_cs_i, am_cs_l, am_cs_r, m_uI_K, m_uI_N, m_uI_R, m_uI_L, m_uI_I, m_uL_K, m_uL_N, m_uL_R, m_uL_I, m_uL_L, m_uR_K, m_uR_N, m_uR_I, m_uR_L, m_uR_R, true_and, and_true]
  unfold sndP
  cases l with
  | true =>
    rw [show b01 true = 1 from rfl, br_n (by decide), if_pos rfl]
    by_cases e : dr + ld ≤ dep p
    · rw [br_n (fun q => (key ld (by omega)).mp q e), tI_t e]
    · rw [br_p ((key ld (by omega)).mpr e), tI_f e]
  | false =>
    rw [show b01 false = 0 from rfl, br_p rfl, if_neg (by decide), show (0 : Int32) = nI 0 from rfl, ni_add]
    by_cases e : dr + 0 ≤ dep p
    · rw [br_n (fun q => (key 0 (by omega)).mp q e), tI_t e]
    · rw [br_p ((key 0 (by omega)).mpr e), tI_f e]
      exact Iff.rfl
/-- an hour, so many later -/
def hrOf (t : Nat) (x : Int) : Option Nat := if 0 ≤ (t : Int) + x ∧ (t : Int) + x < 48 then some ((t : Int) + x).toNat else none
/-- sayings as facts, so many hours later -/
def syF (Y : List Sy) (x : Int) : List Fct := Y.filterMap (fun y => (hrOf y.1 x).map (fun t => (y.2.1, t, t)))
def syS (Y : List Sy) (x : Int) (snd : Nat → Bool → Prop) : Prop := ∀ y, y ∈ Y → ∀ t, hrOf y.1 x = some t → snd y.2.1 y.2.2
theorem syF_take {Y : List Sy} {i : Nat} {y : Sy} {x : Int} (h : Y[i]? = some y) : syF (Y.take (i + 1)) x = syF (Y.take i) x ++ (match hrOf y.1 x with | none => [] | some t => [(y.2.1, t, t)]) := by
  have e : Y.take (i + 1) = Y.take i ++ [y] := by
    rw [List.take_add_one, h]
    rfl
  unfold syF
  rw [e, List.filterMap_append]
  congr 1
  cases hh : hrOf y.1 x <;> simp [hh]
theorem cov_app (F G : List Fct) (h p : Nat) : cov (F ++ G) h p ↔ cov F h p ∨ cov G h p := by
  unfold cov
  constructor
  · rintro ⟨a, ha, q⟩
    rcases List.mem_append.mp ha with ha | ha
    · exact Or.inl ⟨a, ha, q⟩
    · exact Or.inr ⟨a, ha, q⟩
  · rintro (⟨a, ha, q⟩ | ⟨a, ha, q⟩)
    · exact ⟨a, List.mem_append_left _ ha, q⟩
    · exact ⟨a, List.mem_append_right _ ha, q⟩
theorem cov_one (p t h q : Nat) : cov [(p, t, t)] h q ↔ h = t ∧ q = p := by
  unfold cov
  constructor
  · rintro ⟨a, ha, q1, q2, q3⟩
    rw [List.mem_singleton] at ha
    subst ha
    dsimp only at q1 q2 q3
    omega
  · rintro ⟨rfl, rfl⟩
    exact ⟨_, List.mem_singleton.mpr rfl, rfl, Nat.le_refl _, Nat.le_refl _⟩
theorem i32_add {t : Nat} {sh : Int32} (ht : t < 48) (h1 : -100 ≤ sh.toInt) (h2 : sh.toInt ≤ 100) : (nI t + sh).toInt = (t : Int) + sh.toInt := by
  rw [Int32.toInt_add, ni_ti (by omega)]
  have e : ((2 ^ 32 : Nat) : Int) = 4294967296 := rfl
  simp only [Int.bmod, e]
  omega
theorem l_x_layS (d w g z gs : Nat) (dep : Nat → Nat) (dr ld : Nat) (F : List Fct) (Y : List Sy) (sh : Int32) (M0 : am_M) (Q : Option Value → am_M → Prop) (hw : isTr w) (hg : isSh g) (hgs : isSh gs) (hz : z = 2 ∨ z = 83) (h1 : -100 ≤ sh.toInt) (h2 : sh.toInt ≤ 100)
    (hN : ∀ M', oS (sL w) M0 M' → ¬ (syS Y sh.toInt (sndP dep dr ld) ∧ uniq (cov (F ++ syF Y sh.toInt))) → Q (some (.int 0)) M')
    (hY : ∀ M', oS (sL w) M0 M' → syS Y sh.toInt (sndP dep dr ld) → LnP M' w (cov (F ++ syF Y sh.toInt)) → Q (some (.int 1)) M') :
    ∀ (m i : Nat), i + m = Y.length → ∀ (M : am_M) (v4 : Value), oS (sL w) M0 M → Lay M → DpX M w g z dep dr ld → SyX M gs Y → LnP M w (cov (F ++ syF (Y.take i) sh.toInt)) → syS (Y.take i) sh.toInt (sndP dep dr ld) → am_P am_P0 (d + 1) (am_look tX8_laySayings) 2 [.ref w, .ref gs, .int sh, .int (nI i), v4] [] M Q := by
  have hgl := isSh_lt hg
  have hgsl := isSh_lt hgs
  have hwl := isTr_ge hw
  intro m
  induction m with
  | zero =>
    intro i hi M v4 hM hL hD hS hc hs
    have e : i = Y.length := by omega
    subst e
    have h48 := hS.2.1
    have hle : nI Y.length ≤ nI Y.length := (ni_le (by omega) (by omega)).mpr (Nat.le_refl _)
    rw [hX8_laySayings_2]
    simp +decide (disch := omega) only [qX8_laySayings_0, qX8_laySayings_1, lw_ hL hgs, hS.1, am_w1_i, am_w1_r, am_w1_x, am_w1_l, am_w1_w, va_rf_s, am_push_n, am_push_s, am_cs_0, am_cs_i, am_cs_l, am_cs_r, m_uI_K, m_uI_N, m_uI_R, m_uI_L, m_uI_I, m_uL_K, m_uL_N, m_uL_R, m_uL_I, m_uL_L, m_uR_K, m_uR_N, m_uR_I, m_uR_L, m_uR_R, true_and, and_true]
    rw [br_p hle]
    rw [List.take_length] at hc hs
    exact hY M hM hs hc
  | succ m ih =>
    intro i hi M v4 hM hL hD hS hc hs
    have h48 := hS.2.1
    have hlt : ¬ nI Y.length ≤ nI i := by rw [ni_le (by omega) (by omega)]; omega
    obtain ⟨y, hy⟩ : ∃ y, Y[i]? = some y := ⟨Y[i]'(by omega), List.getElem?_eq_getElem (by omega)⟩
    obtain ⟨⟨q1, q2⟩, q3, q4, q5⟩ := hS.2.2 i y hy
    have hmem := List.mem_of_getElem? hy
    have eh := i32_add (sh := sh) q1 h1 h2
    have hho := fun Q => c_x_isHour d (nI y.1 + sh) M Q
    have hso := fun Q => c_x_isSound d w g z y.2.1 y.2.2 dep dr ld M Q hL hw hg hz hD q2
    have htk := syF_take (x := sh.toInt) hy
    have hst : ∀ z', syS (Y.take (i + 1)) sh.toInt z' ↔ syS (Y.take i) sh.toInt z' ∧ ∀ t, hrOf y.1 sh.toInt = some t → z' y.2.1 y.2.2 := by
      intro z'
      have e : Y.take (i + 1) = Y.take i ++ [y] := by
        rw [List.take_add_one, hy]
        rfl
      unfold syS
      rw [e]
      constructor
      · intro hh
        exact ⟨fun y' hy' => hh y' (List.mem_append_left _ hy'), hh y (List.mem_append_right _ (List.mem_singleton.mpr rfl))⟩
      · rintro ⟨a1, a2⟩ y' hy'
        rcases List.mem_append.mp hy' with hy' | hy'
        · exact a1 y' hy'
        · rw [List.mem_singleton] at hy'
          subst hy'
          exact a2
    rw [hX8_laySayings_2]
    by_cases hin : 0 ≤ (y.1 : Int) + sh.toInt ∧ (y.1 : Int) + sh.toInt < 48
    · obtain ⟨t, ht⟩ : ∃ t, hrOf y.1 sh.toInt = some t := ⟨_, if_pos hin⟩
      have hte : (t : Int) = (y.1 : Int) + sh.toInt ∧ t < 48 := by
        unfold hrOf at ht
        rw [if_pos hin] at ht
        cases ht
        omega
      have ehr : nI y.1 + sh = nI t := by
        rw [← Int32.toInt_inj, eh, ni_ti (by omega)]
        omega
      have hput := fun Q => c_x_lput d w t y.2.1 M Q _ hL hw hc hte.2 q2
      rw [ht] at htk
      dsimp only at htk
      have hb1 : bI (0 ≤ (nI t).toInt ∧ (nI t).toInt < 48) = 1 := bI_t (by rw [ni_ti (by omega)]; omega)
      rw [ehr] at hho
      simp +decide (disch := omega) only [qX8_laySayings_0, qX8_laySayings_1, lt_ hL hw, lw_ hL hgs, hS.1, q3, q4, q5, ehr, hho, hso, hput, hb1, ni_in_t, ni_tn, ni_add1, am_w1_i, am_w1_r, am_w1_x, am_w1_l, am_w1_w, va_rf_s, am_push_n, am_push_s, am_cs_0, am_cs_i, am_cs_l, am_cs_r, m_uI_K, m_uI_N, m_uI_R, m_uI_L, m_uI_I, m_uL_K, m_uL_N, m_uL_R, m_uL_I, m_uL_L, m_uR_K, m_uR_N, m_uR_I, m_uR_L, m_uR_R, true_and, and_true, not_true_eq_false, not_false_eq_true, true_implies, false_implies]
      rw [br_n hlt]
      by_cases hsn : sndP dep dr ld y.2.1 y.2.2
      · rw [tI_t hsn, br_n (by decide)]
        by_cases hn : ∀ q, cov (F ++ syF (Y.take i) sh.toInt) t q → q = y.2.1
        · rw [br_p hn]
          have g2 : oS (sL w) M (uI M (w + 7) t (nI y.2.1)) := ⟨fun a j h => by rw [m_uI_I, if_neg (fun z => h z.1)], fun _ _ => rfl, fun _ _ => rfl, rfl⟩
          refine ih (i + 1) (by omega) _ _ (oS_trans hM g2) hL (DpX_S hD g2 (fun j z3 => by have z4 : g = w + 7 := z3; omega) (fun j z3 => by have z4 : z + 21 = w + 7 := z3; omega)) (SyX_S hS g2 (fun a j z1 z2 z3 => by have z4 : a = w + 7 := z3; omega)) ?_ ((hst _).mpr ⟨hs, fun _ _ => hsn⟩)
          refine LnP_ext (fun h p => ?_) (LnP_put hc hte.2 q2 hn)
          rw [htk, ← List.append_assoc, cov_app (F ++ syF (Y.take i) sh.toInt), cov_one]
        · rw [br_n hn]
          refine hN M hM (fun hu => hn (fun q hq => ?_))
          have hyF : cov (syF Y sh.toInt) t y.2.1 := ⟨(y.2.1, t, t), List.mem_filterMap.mpr ⟨y, hmem, by rw [ht]; rfl⟩, rfl, Nat.le_refl _, Nat.le_refl _⟩
          refine hu.2 t q y.2.1 ?_ ((cov_app _ _ _ _).mpr (Or.inr hyF))
          rcases (cov_app _ _ _ _).mp hq with z | ⟨a, ha, qa⟩
          · exact (cov_app _ _ _ _).mpr (Or.inl z)
          · refine (cov_app _ _ _ _).mpr (Or.inr ⟨a, ?_, qa⟩)
            obtain ⟨y', hy', e'⟩ := List.mem_filterMap.mp ha
            exact List.mem_filterMap.mpr ⟨y', List.mem_of_mem_take hy', e'⟩
      · rw [tI_f hsn, br_p rfl]
        exact hN M hM (fun hu => hsn (hu.1 y hmem t ht))
    · have ht : hrOf y.1 sh.toInt = none := if_neg hin
      rw [ht] at htk
      have hb0 : bI (0 ≤ (nI y.1 + sh).toInt ∧ (nI y.1 + sh).toInt < 48) = 0 := bI_f (by rw [eh]; exact hin)
      simp +decide (disch := omega) only [qX8_laySayings_0, qX8_laySayings_1, lw_ hL hgs, hS.1, q3, hho, hb0, ni_in_t, ni_tn, ni_add1, am_w1_i, am_w1_r, am_w1_x, am_w1_l, am_w1_w, va_rf_s, am_push_n, am_push_s, am_cs_0, am_cs_i, am_cs_l, am_cs_r, m_uI_K, m_uI_N, m_uI_R, m_uI_L, m_uI_I, m_uL_K, m_uL_N, m_uL_R, m_uL_I, m_uL_L, m_uR_K, m_uR_N, m_uR_I, m_uR_L, m_uR_R, true_and, and_true, true_implies, false_implies]
      rw [br_n hlt]
      refine ih (i + 1) (by omega) M _ hM hL hD hS ?_ ((hst _).mpr ⟨hs, fun t h => by rw [ht] at h; cases h⟩)
      rw [htk, List.append_nil]
      exact hc
theorem c_x_laySayings (d w g z gs : Nat) (dep : Nat → Nat) (dr ld : Nat) (F : List Fct) (Y : List Sy) (sh : Int32) (M : am_M) (Q : Option Value → am_M → Prop) (hL : Lay M) (hw : isTr w) (hg : isSh g) (hgs : isSh gs) (hz : z = 2 ∨ z = 83) (h1 : -100 ≤ sh.toInt) (h2 : sh.toInt ≤ 100) (hD : DpX M w g z dep dr ld) (hS : SyX M gs Y) (hc : LnP M w (cov F))
    (hN : ∀ M', oS (sL w) M M' → ¬ (syS Y sh.toInt (sndP dep dr ld) ∧ uniq (cov (F ++ syF Y sh.toInt))) → Q (some (.int 0)) M')
    (hY : ∀ M', oS (sL w) M M' → syS Y sh.toInt (sndP dep dr ld) → LnP M' w (cov (F ++ syF Y sh.toInt)) → Q (some (.int 1)) M') : am_E am_P0 (d + 1) 78 [.ref w, .ref gs, .int sh] M Q := by
  rw [eX8_laySayings]
  simp +decide only [qX8_laySayings_0, qX8_laySayings_1, am_w1_i, am_w1_r, am_w1_x, am_w1_l, am_w1_w, va_rf_s, am_push_n, am_push_s, am_cs_0, am_cs_i, am_cs_l, am_cs_r, m_uI_K, m_uI_N, m_uI_R, m_uI_L, m_uI_I, m_uL_K, m_uL_N, m_uL_R, m_uL_I, m_uL_L, m_uR_K, m_uR_N, m_uR_I, m_uR_L, m_uR_R, true_and, and_true]
  rw [show (0 : Int32) = nI 0 from rfl]
  refine l_x_layS d w g z gs dep dr ld F Y sh M Q hw hg hgs hz h1 h2 hN hY Y.length 0 (by omega) M _ (oS_refl _ _) hL hD hS ?_ (fun y hy => by rw [List.take_zero] at hy; cases hy)
  rw [List.take_zero]
  show LnP M w (cov (F ++ []))
  rw [List.append_nil]
  exact hc
