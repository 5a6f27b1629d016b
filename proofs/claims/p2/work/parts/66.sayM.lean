/-! the model's sayings as facts -/
def srtY (Y : List Sy) : Prop := Y.Pairwise (fun a b => a.1 < b.1)
def bef (Y : List Sy) (t : Nat) : List Sy := Y.filter (fun y => decide (y.1 < t))
theorem bef_mem {Y : List Sy} {t : Nat} {y : Sy} : y ∈ bef Y t ↔ y ∈ Y ∧ y.1 < t := by
  unfold bef
  rw [List.mem_filter, decide_eq_true_eq]
theorem bef_t {Y : List Sy} {t : Nat} {y : Sy} (hs : srtY Y) (hy : y ∈ Y) (ht : y.1 = t) : bef Y (t + 1) = bef Y t ++ [y] := by
  induction Y with
  | nil => cases hy
  | cons a r ih =>
    have hs' := List.pairwise_cons.mp hs
    unfold bef at ih ⊢
    by_cases c1 : a.1 < t
    · have hyr : y ∈ r := by
        rcases List.mem_cons.mp hy with rfl | h
        · omega
        · exact h
      rw [List.filter_cons_of_pos (by simp; omega), List.filter_cons_of_pos (by simpa using c1), ih hs'.2 hyr]
      rfl
    · have hya : y = a := by
        rcases List.mem_cons.mp hy with h | h
        · exact h
        · have := hs'.1 y h; omega
      subst hya
      have e1 : r.filter (fun y => decide (y.1 < t + 1)) = [] := by
        rw [List.filter_eq_nil_iff]
        intro x hx
        have := hs'.1 x hx
        simp; omega
      have e2 : r.filter (fun y => decide (y.1 < t)) = [] := by
        rw [List.filter_eq_nil_iff]
        intro x hx
        have := hs'.1 x hx
        simp; omega
      rw [List.filter_cons_of_pos (by simp; omega), List.filter_cons_of_neg (by simp; omega), e1, e2]
      rfl
theorem bef_f {Y : List Sy} {t : Nat} (h : ∀ y, y ∈ Y → ¬ y.1 = t) : bef Y (t + 1) = bef Y t := by
  unfold bef
  apply List.filter_congr
  intro y hy
  have := h y hy
  by_cases c : y.1 < t
  · simp [c]; omega
  · have : ¬ y.1 < t + 1 := by omega
    simp [c, this]
theorem bef_0 (Y : List Sy) : bef Y 0 = [] := by
  unfold bef
  rw [List.filter_eq_nil_iff]
  intro y _
  simp
theorem bef_all {Y : List Sy} (h : ∀ y, y ∈ Y → y.1 < 48) : bef Y 48 = Y := by
  unfold bef
  rw [List.filter_eq_self]
  intro y hy
  simpa using h y hy
/-- the sayings of the ship s as they lie in the model's rows -/
def SyM (M : am_M) (b C R s : Nat) (Y : List Sy) : Prop := srtY Y ∧ (∀ y, y ∈ Y → y.1 < 48 ∧ vld C R y.2.1) ∧ ∀ t, t < 48 → (∃ y, y ∈ Y ∧ y.1 = t ∧ mI M 292 (384 * b + 48 * s + t) = nI (cel C y.2.1) ∧ mI M 293 (384 * b + 48 * s + t) = b01 y.2.2) ∨ ((∀ y, y ∈ Y → ¬ y.1 = t) ∧ mI M 292 (384 * b + 48 * s + t) = -1)
theorem SyM_S {M M' : am_M} {b C R s : Nat} {Y : List Sy} {S : Nat → Nat → Prop} (h : SyM M b C R s Y) (hS : oS S M M') (hd : ∀ a j, a = 292 ∨ a = 293 → ¬ S a j) : SyM M' b C R s Y := by
  refine ⟨h.1, h.2.1, fun t ht => ?_⟩
  rw [hS.1 _ _ (hd _ _ (Or.inl rfl)), hS.1 _ _ (hd _ _ (Or.inr rfl))]
  exact h.2.2 t ht
/-- draft, load and depths as they lie in the model's rows -/
def DpM (M : am_M) (b C R s : Nat) (dep : Nat → Nat) (dr ld : Nat) : Prop := mI M 289 (8 * b + s) = nI dr ∧ mI M 290 (8 * b + s) = nI ld ∧ dr ≤ 40 ∧ ld ≤ 40 ∧ ∀ p, vld C R p → dep p ≤ 99 ∧ mI M 315 (cel C p) = nI (dep p)
theorem DpM_S {M M' : am_M} {b C R s : Nat} {dep : Nat → Nat} {dr ld : Nat} {S : Nat → Nat → Prop} (h : DpM M b C R s dep dr ld) (hS : oS S M M') (hd : ∀ a j, a = 289 ∨ a = 290 ∨ a = 315 → ¬ S a j) : DpM M' b C R s dep dr ld := by
  obtain ⟨h1, h2, h3, h4, h5⟩ := h
  exact ⟨by rw [hS.1 _ _ (hd _ _ (Or.inl rfl))]; exact h1, by rw [hS.1 _ _ (hd _ _ (Or.inr (Or.inl rfl)))]; exact h2, h3, h4, fun p hp => ⟨(h5 p hp).1, by rw [hS.1 _ _ (hd _ _ (Or.inr (Or.inr rfl)))]; exact (h5 p hp).2⟩⟩
theorem b01_0 {l : Bool} : b01 l = 0 ↔ l = false := by cases l <;> decide
theorem m_snd {M : am_M} {b C R s : Nat} {dep : Nat → Nat} {dr ld : Nat} (h : DpM M b C R s dep dr ld) {p : Nat} (hp : vld C R p) (l : Bool) : (mI M 289 (8 * b + s) + (if b01 l = 0 then 0 else mI M 290 (8 * b + s)) ≤ mI M 315 (cel C p)) ↔ sndP dep dr ld p l := by
  obtain ⟨h1, h2, h3, h4, h5⟩ := h
  obtain ⟨h6, h7⟩ := h5 p hp
  unfold sndP
  rw [h1, h2, h7]
  cases l with
  | true => rw [if_neg (by decide), ni_add, ni_le (by omega) (by omega)]; simp
  | false => rw [if_pos (show b01 false = 0 from rfl), show (0 : Int32) = nI 0 from rfl, ni_add, ni_le (by omega) (by omega)]; simp
theorem m_wat {M : am_M} {b C R s : Nat} {dep : Nat → Nat} {dr ld : Nat} (h : DpM M b C R s dep dr ld) (p : Nat) : mW_ M b C R s p ↔ vld C R p ∧ dr ≤ dep p := by
  obtain ⟨h1, h2, h3, h4, h5⟩ := h
  unfold mW_
  constructor
  · rintro ⟨q1, q2⟩
    obtain ⟨h6, h7⟩ := h5 p q1
    rw [h1, h7, ni_le (by omega) (by omega)] at q2
    exact ⟨q1, q2⟩
  · rintro ⟨q1, q2⟩
    obtain ⟨h6, h7⟩ := h5 p q1
    rw [h1, h7, ni_le (by omega) (by omega)]
    exact ⟨q1, q2⟩
theorem bI_tI {p q : Prop} [Decidable p] (h : p ↔ q) : bI p = tI q := by
  rw [tI_b, tI_i h]
theorem syF_app (Y Z : List Sy) (x : Int) : syF (Y ++ Z) x = syF Y x ++ syF Z x := List.filterMap_append ..
theorem syF_len (Y : List Sy) (x : Int) : (syF Y x).length ≤ Y.length := List.length_filterMap_le _ _
theorem syS_app (Y Z : List Sy) (x : Int) (snd : Nat → Bool → Prop) : syS (Y ++ Z) x snd ↔ syS Y x snd ∧ syS Z x snd := by
  unfold syS
  constructor
  · intro h
    exact ⟨fun y hy => h y (List.mem_append_left _ hy), fun y hy => h y (List.mem_append_right _ hy)⟩
  · rintro ⟨h1, h2⟩ y hy
    rcases List.mem_append.mp hy with q | q
    · exact h1 y q
    · exact h2 y q
theorem bef_len {Y : List Sy} (hs : srtY Y) (t : Nat) : (bef Y t).length ≤ t := by
  induction t with
  | zero => rw [bef_0]; exact Nat.le_refl _
  | succ t ih =>
    by_cases h : ∃ y, y ∈ Y ∧ y.1 = t
    · obtain ⟨y, hy, ht⟩ := h
      rw [bef_t hs hy ht, List.length_append]
      have : [y].length = 1 := rfl
      omega
    · rw [bef_f (fun y hy ht => h ⟨y, hy, ht⟩)]; omega
theorem l_m_addS (d s so b C R : Nat) (dep : Nat → Nat) (dr ld : Nat) (F : List Fct) (Y : List Sy) (sh : Int32) (M0 : am_M) (Q : Option Value → am_M → Prop) (hL : Lay M0) (hb : mI M0 277 12 = nI b) (hb2 : b < 2) (hC : C ≤ 16) (hR : R ≤ 16) (hs : s < 8) (hso : so < 8) (h1 : -100 ≤ sh.toInt) (h2 : sh.toInt ≤ 100) (hD : DpM M0 b C R s dep dr ld) (hY : SyM M0 b C R so Y) (hFl : F.length + 48 ≤ 120)
    (hQ : ∀ M', oS sF M0 M' → FcM M' C R (F ++ syF Y sh.toInt) → Q (some (.int (tI (syS Y sh.toInt (sndP dep dr ld))))) M') :
    ∀ (m t : Nat), t + m = 48 → ∀ (M : am_M), oS sF M0 M → FcM M C R (F ++ syF (bef Y t) sh.toInt) → am_P am_P0 (d + 2) (am_look tX11_addSayings) 6 [.ref 277, .int (nI so), .int (nI s), .int sh, .int (tI (syS (bef Y t) sh.toInt (sndP dep dr ld))), .int (nI t)] [] M Q := by
  have nY : ∀ a j, a = 292 ∨ a = 293 → ¬ sF a j := fun a j h z => by unfold sF at z; omega
  have nD : ∀ a j, a = 289 ∨ a = 290 ∨ a = 315 → ¬ sF a j := fun a j h z => by unfold sF at z; omega
  intro m
  induction m with
  | zero =>
    intro t ht M hM hF
    have e : t = 48 := by omega
    subst e
    rw [bef_all (fun y hy => (hY.2.1 y hy).1)] at hF ⊢
    rw [hX11_addSayings_6]
    simp +decide only [qX11_addSayings_0, qX11_addSayings_1, am_w1_i, am_w1_r, am_w1_x, am_w1_l, am_w1_w, va_rf_s, am_push_n, am_push_s, am_cs_0, am_cs_i, am_cs_l, am_cs_r, m_uI_K, m_uI_N, m_uI_R, m_uI_L, m_uI_I, m_uL_K, m_uL_N, m_uL_R, m_uL_I, m_uL_L, m_uR_K, m_uR_N, m_uR_I, m_uR_L, m_uR_R, true_and, and_true, true_implies, false_implies]
    exact ⟨tI_01 _, hQ M hM hF⟩
  | succ m ih =>
    intro t ht M hM hF
    have hLM := oS_Lay hM hL
    have hbM : mI M 277 12 = nI b := by rw [hM.1 _ _ (by unfold sF; omega)]; exact hb
    have hYM := SyM_S hY hM nY
    have hDM := DpM_S hD hM nD
    have hlt : ¬ (48 : Int32) ≤ nI t := by rw [show (48 : Int32) = nI 48 from rfl, ni_le (by omega) (by omega)]; omega
    have hsa := fun Q => c_m_said (d + 1) so t M Q hLM b hbM hb2 hso (by omega)
    have hho := fun Q => c_m_isHour d (nI t + sh) M Q
    have eh := i32_add (t := t) (sh := sh) (by omega) h1 h2
    rw [hX11_addSayings_6]
    rcases hYM.2.2 t (by omega) with ⟨y, hy, hyt, hm1, hm2⟩ | ⟨hno, hm1⟩
    · have hv := (hYM.2.1 y hy).2
      have hcl := cel_lt hC hR hv
      have hbt := bef_t hYM.1 hy hyt
      have hn1 : ¬ nI (cel C y.2.1) = -1 := nI_m1 (by omega)
      by_cases hin : 0 ≤ (t : Int) + sh.toInt ∧ (t : Int) + sh.toInt < 48
      · obtain ⟨t', ht'⟩ : ∃ t', hrOf y.1 sh.toInt = some t' := ⟨_, by rw [hyt]; exact if_pos hin⟩
        have hte : (t' : Int) = (t : Int) + sh.toInt ∧ t' < 48 := by
          rw [hyt] at ht'
          unfold hrOf at ht'
          rw [if_pos hin] at ht'
          cases ht'
          omega
        have ehr : nI t + sh = nI t' := by
          rw [← Int32.toInt_inj, eh, ni_ti (by omega)]
          omega
        have hb1 : bI (0 ≤ (nI t').toInt ∧ (nI t').toInt < 48) = 1 := bI_t (by rw [ni_ti (by omega)]; omega)
        rw [ehr] at hho
        have hlen : (F ++ syF (bef Y t) sh.toInt).length < 120 := by
          have a1 := syF_len (bef Y t) sh.toInt
          have a2 := bef_len hYM.1 t
          rw [List.length_append]; omega
        have hfa := fun Q => c_m_fact (d + 1) (nI (cel C y.2.1)) (nI t') (nI t') M Q hLM (F ++ syF (bef Y t) sh.toInt).length hF.1 hlen
        obtain ⟨p1, p2⟩ := FcM_put (f := (y.2.1, t', t')) hF hlen ⟨hv, Nat.le_refl _, hte.2⟩
        dsimp only at p1 p2
        have esy : syF [y] sh.toInt = [(y.2.1, t', t')] := by
          unfold syF
          simp [ht']
        have ess : syS [y] sh.toInt (sndP dep dr ld) ↔ sndP dep dr ld y.2.1 y.2.2 := by
          unfold syS
          constructor
          · intro h; exact h y (List.mem_singleton.mpr rfl) t' ht'
          · intro h y' hy' t2 _
            rw [List.mem_singleton] at hy'
            subst hy'
            exact h
        simp +decide only [qX11_addSayings_0, qX11_addSayings_1, lm hLM, hsa, hm1, hho, ehr, hb1, hfa, ni_add1, am_w1_i, am_w1_r, am_w1_x, am_w1_l, am_w1_w, va_rf_s, am_push_n, am_push_s, am_cs_0, am_cs_i, am_cs_l, am_cs_r, m_uI_K, m_uI_N, m_uI_R, m_uI_L, m_uI_I, m_uL_K, m_uL_N, m_uL_R, m_uL_I, m_uL_L, m_uR_K, m_uR_N, m_uR_I, m_uR_L, m_uR_R, true_and, and_true, not_true_eq_false, not_false_eq_true, true_implies, false_implies]
        rw [br_n hlt, br_n hn1]
        obtain ⟨M1, hM1e⟩ : ∃ M1, M1 = uI (uI (uI (uI M 319 (F ++ syF (bef Y t) sh.toInt).length (nI (cel C y.2.1))) 320 (F ++ syF (bef Y t) sh.toInt).length (nI t')) 321 (F ++ syF (bef Y t) sh.toInt).length (nI t')) 277 60 (nI ((F ++ syF (bef Y t) sh.toInt).length + 1)) := ⟨_, rfl⟩
        rw [← hM1e] at p1 p2 ⊢
        have hM1 := oS_trans hM p2
        have hL1 := oS_Lay hM1 hL
        have hb1' : mI M1 277 12 = nI b := by rw [hM1.1 _ _ (by unfold sF; omega)]; exact hb
        have hm1' : mI M1 292 (384 * b + 48 * so + t) = nI (cel C y.2.1) := by rw [p2.1 _ _ (by unfold sF; omega)]; exact hm1
        have hm2' : mI M1 293 (384 * b + 48 * so + t) = b01 y.2.2 := by rw [p2.1 _ _ (by unfold sF; omega)]; exact hm2
        have hsa1 := fun Q => c_m_said (d + 1) so t M1 Q hL1 b hb1' hb2 hso (by omega)
        have hla1 := fun Q => c_m_laden (d + 1) so t M1 Q hL1 b hb1' hb2 hso (by omega) (by rw [hm2']; cases y.2.2 <;> decide)
        have hsn1 := fun Q => c_m_isSound (d + 1) s (cel C y.2.1) (b01 y.2.2) M1 Q hL1 b hb1' hb2 hs hcl.2.1
        have hsnd := bI_tI (m_snd (DpM_S hD hM1 nD) hv y.2.2)
        have hfin := ih (t + 1) (by omega) M1 hM1 (by rw [hbt, syF_app, esy, ← List.append_assoc]; exact p1)
        rw [hbt, tI_i ((syS_app _ _ _ _).trans (and_congr Iff.rfl ess))] at hfin
        simp +decide only [qX11_addSayings_0, qX11_addSayings_1, lm hL1, hsa1, hla1, hsn1, hm1', hm2', hsnd, ni_add1, am_w1_i, am_w1_r, am_w1_x, am_w1_l, am_w1_w, va_rf_s, am_push_n, am_push_s, am_cs_0, am_cs_i, am_cs_l, am_cs_r, m_uI_K, m_uI_N, m_uI_R, m_uI_L, m_uI_I, m_uL_K, m_uL_N, m_uL_R, m_uL_I, m_uL_L, m_uR_K, m_uR_N, m_uR_I, m_uR_L, m_uR_R, true_and, and_true] at hfin ⊢
        by_cases c1 : syS (bef Y t) sh.toInt (sndP dep dr ld)
        · rw [tI_t c1, br_n (by decide)]
          by_cases c2 : sndP dep dr ld y.2.1 y.2.2
          · rw [tI_t c2, br_n (by decide)]
            rw [tI_t ⟨c1, c2⟩] at hfin
            exact hfin
          · rw [tI_f c2, br_p rfl]
            rw [tI_f (fun z => c2 z.2)] at hfin
            exact hfin
        · rw [tI_f c1, br_p rfl]
          rw [tI_f (fun z => c1 z.1)] at hfin
          exact hfin
      · have ht' : hrOf y.1 sh.toInt = none := by rw [hyt]; exact if_neg hin
        have hb0 : bI (0 ≤ (nI t + sh).toInt ∧ (nI t + sh).toInt < 48) = 0 := bI_f (by rw [eh]; exact hin)
        have esy : syF [y] sh.toInt = [] := by
          unfold syF
          simp [ht']
        have ess : syS [y] sh.toInt (sndP dep dr ld) := fun y' hy' t2 h2' => by
          rw [List.mem_singleton] at hy'
          subst hy'
          rw [ht'] at h2'
          cases h2'
        have hfin := ih (t + 1) (by omega) M hM (by rw [hbt, syF_app, esy, List.append_nil]; exact hF)
        rw [hbt, tI_i ((syS_app _ _ _ _).trans (and_iff_left ess))] at hfin
        simp +decide only [qX11_addSayings_0, qX11_addSayings_1, lm hLM, hsa, hm1, hho, hb0, ni_add1, am_w1_i, am_w1_r, am_w1_x, am_w1_l, am_w1_w, va_rf_s, am_push_n, am_push_s, am_cs_0, am_cs_i, am_cs_l, am_cs_r, m_uI_K, m_uI_N, m_uI_R, m_uI_L, m_uI_I, m_uL_K, m_uL_N, m_uL_R, m_uL_I, m_uL_L, m_uR_K, m_uR_N, m_uR_I, m_uR_L, m_uR_R, true_and, and_true, not_true_eq_false, not_false_eq_true, true_implies, false_implies]
        rw [br_n hlt, br_n hn1]
        exact hfin
    · have hbf := bef_f hno
      have hfin := ih (t + 1) (by omega) M hM (by rw [hbf]; exact hF)
      rw [hbf] at hfin
      simp +decide only [qX11_addSayings_0, qX11_addSayings_1, lm hLM, hsa, hm1, ni_add1, am_w1_i, am_w1_r, am_w1_x, am_w1_l, am_w1_w, va_rf_s, am_push_n, am_push_s, am_cs_0, am_cs_i, am_cs_l, am_cs_r, m_uI_K, m_uI_N, m_uI_R, m_uI_L, m_uI_I, m_uL_K, m_uL_N, m_uL_R, m_uL_I, m_uL_L, m_uR_K, m_uR_N, m_uR_I, m_uR_L, m_uR_R, true_and, and_true, true_implies, false_implies]
      rw [br_n hlt]
      exact hfin
theorem c_m_addSayings (d s so b C R : Nat) (dep : Nat → Nat) (dr ld : Nat) (F : List Fct) (Y : List Sy) (sh : Int32) (M : am_M) (Q : Option Value → am_M → Prop) (hL : Lay M) (hb : mI M 277 12 = nI b) (hb2 : b < 2) (hC : C ≤ 16) (hR : R ≤ 16) (hs : s < 8) (hso : so < 8) (h1 : -100 ≤ sh.toInt) (h2 : sh.toInt ≤ 100) (hD : DpM M b C R s dep dr ld) (hY : SyM M b C R so Y) (hFl : F.length + 48 ≤ 120) (hF : FcM M C R F)
    (hQ : ∀ M', oS sF M M' → FcM M' C R (F ++ syF Y sh.toInt) → Q (some (.int (tI (syS Y sh.toInt (sndP dep dr ld))))) M') : am_E am_P0 (d + 2) 242 [.ref 277, .int (nI so), .int (nI s), .int sh] M Q := by
  rw [eX11_addSayings]
  simp +decide only [qX11_addSayings_0, qX11_addSayings_1, am_w1_i, am_w1_r, am_w1_x, am_w1_l, am_w1_w, va_rf_s, am_push_n, am_push_s, am_cs_0, am_cs_i, am_cs_l, am_cs_r, m_uI_K, m_uI_N, m_uI_R, m_uI_L, m_uI_I, m_uL_K, m_uL_N, m_uL_R, m_uL_I, m_uL_L, m_uR_K, m_uR_N, m_uR_I, m_uR_L, m_uR_R, true_and, and_true]
  have h0 := l_m_addS d s so b C R dep dr ld F Y sh M Q hL hb hb2 hC hR hs hso h1 h2 hD hY hFl hQ 48 0 (by omega) M (oS_refl _ _) (by rw [bef_0]; show FcM M C R (F ++ []); rw [List.append_nil]; exact hF)
  have hss : syS (bef Y 0) sh.toInt (sndP dep dr ld) := fun y hy => by rw [bef_0] at hy; cases hy
  rw [tI_t hss] at h0
  exact h0
