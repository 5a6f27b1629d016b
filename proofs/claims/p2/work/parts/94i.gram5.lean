/-! the class's parser: facts, tests -/
def dnD (b : Bool) (v : Den) : Den := if b = true then ntD v else v
def dnR (b : Bool) : Sum (Nat × Nat) (Tok × Den) → Sum (Nat × Nat) (Tok × Den)
  | .inl e => .inl e
  | .inr q => .inr (q.1, dnD b q.2)
theorem nt_nt (v : Den) : ntD (ntD v) = v := funext fun e => by show 1 - (1 - v e) = v e; omega
theorem dnD_n (b : Bool) (v : Den) : dnD (!b) v = dnD b (ntD v) := by
  cases b
  · rfl
  · show v = ntD (ntD v); exact (nt_nt v).symm
section
variable {T : Nat → Nat} {n z : Nat}
theorem g_cmp (d : Nat) (t : Tok) (k : Tok → Rs) (res : Sum (Nat × Nat) (Tok × Den)) (a c : Nat) (vs : List Den) (M : am_M) (Q : Option Value → am_M → Prop) (hz : z = 2 ∨ z = 83) (hG : GoX T n z M a c vs t) (hp : (if cmpOp t = 0 then flt 1 t else adv T n t k) = some res)
    (hF : ∀ M' e x, res = .inl e → gF sRd nT M M' → FaX M' z T n e → Q (some (.int x)) M')
    (hN : ∀ M' t1 x, gF sRd nT M M' → GoX T n z M' a c vs t1 → tS t + 1 ≤ tS t1 → k t1 = some res → ¬ cmpOp t = 0 → inX x = (cmpOp t, 0) → Q (some (.int x)) M') : am_E am_P0 (d + 3) 25 [.ref 164] M Q := by
  obtain ⟨hL, hpa, hR, hf, hc, hct⟩ := id hG
  have hst : StR M T n (.inr t) := hR
  have s1 := fun Q => c_x_isSign (d + 2) n 60 T (.inr t) M Q hL (by omega) hst
  have s2 := fun Q => c_x_isSign (d + 2) n 62 T (.inr t) M Q hL (by omega) hst
  rw [show nI 60 = (60 : Int32) from rfl] at s1
  rw [show nI 62 = (62 : Int32) from rfl] at s2
  rw [eX2_takeComparison]
  by_cases c1 : isS t 60 = true
  · have ec : cmpOp t = 17 := by unfold cmpOp; rw [if_pos c1]
    rw [if_neg (by omega)] at hp
    have c1' : isSr 60 (.inr t) = true := c1
    simp +decide only [qX2_takeComparison, lx hL, s1, c1', b01, am_w1_i, am_w1_r, am_w1_x, am_w1_l, am_w1_w, va_rf_s, am_push_n, am_push_s, am_cs_0, am_cs_i, am_cs_l, am_cs_r, m_uI_K, m_uI_N, m_uI_R, m_uI_L, m_uI_I, m_uL_K, m_uL_N, m_uL_R, m_uL_I, m_uL_L, m_uR_K, m_uR_N, m_uR_I, m_uR_L, m_uR_R, true_and, and_true, true_implies, false_implies, not_true_eq_false, not_false_eq_true, if_true, if_false, false_and, and_false]
    refine g_step (d + 1) t k res a c vs M _ hz hG (by have := isS_1 c1; omega) hp (fun M1 e he g1 F1 => ?_) (fun M1 t1 g1 G1 hs1 hk1 => ?_)
    · have h0 := hF M1 e (-13) he g1 F1
      simp +decide only [qX2_takeComparison, am_w1_i, am_w1_r, am_w1_x, am_w1_l, am_w1_w, va_rf_s, am_push_n, am_push_s, am_cs_0, am_cs_i, am_cs_l, am_cs_r, m_uI_K, m_uI_N, m_uI_R, m_uI_L, m_uI_I, m_uL_K, m_uL_N, m_uL_R, m_uL_I, m_uL_L, m_uR_K, m_uR_N, m_uR_I, m_uR_L, m_uR_R, true_and, and_true, true_implies, false_implies, not_true_eq_false, not_false_eq_true, if_true, if_false, false_and, and_false]
      exact h0
    · have h0 := hN M1 t1 (-13) g1 G1 hs1 hk1 (by omega) (by rw [ec]; decide)
      simp +decide only [qX2_takeComparison, am_w1_i, am_w1_r, am_w1_x, am_w1_l, am_w1_w, va_rf_s, am_push_n, am_push_s, am_cs_0, am_cs_i, am_cs_l, am_cs_r, m_uI_K, m_uI_N, m_uI_R, m_uI_L, m_uI_I, m_uL_K, m_uL_N, m_uL_R, m_uL_I, m_uL_L, m_uR_K, m_uR_N, m_uR_I, m_uR_L, m_uR_R, true_and, and_true, true_implies, false_implies, not_true_eq_false, not_false_eq_true, if_true, if_false, false_and, and_false]
      exact h0
  · have c1' : isSr 60 (.inr t) = false := by show isS t 60 = false; simpa using c1
    by_cases c2 : isS t 62 = true
    · have ec : cmpOp t = 18 := by unfold cmpOp; rw [if_neg c1, if_pos c2]
      rw [if_neg (by omega)] at hp
      have c2' : isSr 62 (.inr t) = true := c2
      simp +decide only [qX2_takeComparison, lx hL, s1, c1', s2, c2', b01, am_w1_i, am_w1_r, am_w1_x, am_w1_l, am_w1_w, va_rf_s, am_push_n, am_push_s, am_cs_0, am_cs_i, am_cs_l, am_cs_r, m_uI_K, m_uI_N, m_uI_R, m_uI_L, m_uI_I, m_uL_K, m_uL_N, m_uL_R, m_uL_I, m_uL_L, m_uR_K, m_uR_N, m_uR_I, m_uR_L, m_uR_R, true_and, and_true, true_implies, false_implies, not_true_eq_false, not_false_eq_true, if_true, if_false, false_and, and_false]
      refine g_step (d + 1) t k res a c vs M _ hz hG (by have := isS_1 c2; omega) hp (fun M1 e he g1 F1 => ?_) (fun M1 t1 g1 G1 hs1 hk1 => ?_)
      · have h0 := hF M1 e (-14) he g1 F1
        simp +decide only [qX2_takeComparison, am_w1_i, am_w1_r, am_w1_x, am_w1_l, am_w1_w, va_rf_s, am_push_n, am_push_s, am_cs_0, am_cs_i, am_cs_l, am_cs_r, m_uI_K, m_uI_N, m_uI_R, m_uI_L, m_uI_I, m_uL_K, m_uL_N, m_uL_R, m_uL_I, m_uL_L, m_uR_K, m_uR_N, m_uR_I, m_uR_L, m_uR_R, true_and, and_true, true_implies, false_implies, not_true_eq_false, not_false_eq_true, if_true, if_false, false_and, and_false]
        exact h0
      · have h0 := hN M1 t1 (-14) g1 G1 hs1 hk1 (by omega) (by rw [ec]; decide)
        simp +decide only [qX2_takeComparison, am_w1_i, am_w1_r, am_w1_x, am_w1_l, am_w1_w, va_rf_s, am_push_n, am_push_s, am_cs_0, am_cs_i, am_cs_l, am_cs_r, m_uI_K, m_uI_N, m_uI_R, m_uI_L, m_uI_I, m_uL_K, m_uL_N, m_uL_R, m_uL_I, m_uL_L, m_uR_K, m_uR_N, m_uR_I, m_uR_L, m_uR_R, true_and, and_true, true_implies, false_implies, not_true_eq_false, not_false_eq_true, if_true, if_false, false_and, and_false]
        exact h0
    · have c2' : isSr 62 (.inr t) = false := by show isS t 62 = false; simpa using c2
      simp +decide only [qX2_takeComparison, lx hL, s1, c1', s2, c2', b01, am_w1_i, am_w1_r, am_w1_x, am_w1_l, am_w1_w, va_rf_s, am_push_n, am_push_s, am_cs_0, am_cs_i, am_cs_l, am_cs_r, m_uI_K, m_uI_N, m_uI_R, m_uI_L, m_uI_I, m_uL_K, m_uL_N, m_uL_R, m_uL_I, m_uL_L, m_uR_K, m_uR_N, m_uR_I, m_uR_L, m_uR_R, true_and, and_true, true_implies, false_implies, not_true_eq_false, not_false_eq_true, if_true, if_false, false_and, and_false]
      rw [show (61 : Int32) = nI 61 from rfl]
      unfold cmpOp at hp
      rw [if_neg c1, if_neg c2] at hp
      by_cases c3 : isS t 61 = true
      · rw [if_pos c3, if_neg (by omega)] at hp
        have hp' : tks T n 61 t k = some res := by unfold tks; rw [if_pos c3]; exact hp
        have ec : cmpOp t = 19 := by unfold cmpOp; rw [if_neg c1, if_neg c2, if_pos c3]
        refine g_sign d 61 t k res a c vs M _ hz (by omega) hG hp' (fun M1 e he g1 F1 => ?_) (fun M1 t1 g1 G1 hs1 hk1 => ?_)
        · have h0 := hF M1 e (-15) he g1 F1
          simp +decide only [qX2_takeComparison, am_w1_i, am_w1_r, am_w1_x, am_w1_l, am_w1_w, va_rf_s, am_push_n, am_push_s, am_cs_0, am_cs_i, am_cs_l, am_cs_r, m_uI_K, m_uI_N, m_uI_R, m_uI_L, m_uI_I, m_uL_K, m_uL_N, m_uL_R, m_uL_I, m_uL_L, m_uR_K, m_uR_N, m_uR_I, m_uR_L, m_uR_R, true_and, and_true, true_implies, false_implies, not_true_eq_false, not_false_eq_true, if_true, if_false, false_and, and_false]
          exact h0
        · have h0 := hN M1 t1 (-15) g1 G1 hs1 hk1 (by omega) (by rw [ec]; decide)
          simp +decide only [qX2_takeComparison, am_w1_i, am_w1_r, am_w1_x, am_w1_l, am_w1_w, va_rf_s, am_push_n, am_push_s, am_cs_0, am_cs_i, am_cs_l, am_cs_r, m_uI_K, m_uI_N, m_uI_R, m_uI_L, m_uI_I, m_uL_K, m_uL_N, m_uL_R, m_uL_I, m_uL_L, m_uR_K, m_uR_N, m_uR_I, m_uR_L, m_uR_R, true_and, and_true, true_implies, false_implies, not_true_eq_false, not_false_eq_true, if_true, if_false, false_and, and_false]
          exact h0
      · rw [if_neg c3, if_pos rfl] at hp
        cases hp
        refine c_x_takeSign d n 61 T (.inr t) M _ hL (by omega) hst (fun M1 g1 h1 => ?_)
        have h1' : StR M1 T n (if isS t 61 = true then advR T n t else .inl (1, tS t)) := h1
        rw [if_neg c3] at h1'
        have h0 := hF M1 _ (-15) rfl g1 ⟨h1', by rw [g1.2.2.1 _ _ (fun q => q)]; exact hpa, c, FmX_g hf g1 (fun q => by unfold sRd at q; omega)⟩
        simp +decide only [qX2_takeComparison, am_w1_i, am_w1_r, am_w1_x, am_w1_l, am_w1_w, va_rf_s, am_push_n, am_push_s, am_cs_0, am_cs_i, am_cs_l, am_cs_r, m_uI_K, m_uI_N, m_uI_R, m_uI_L, m_uI_I, m_uL_K, m_uL_N, m_uL_R, m_uL_I, m_uL_L, m_uR_K, m_uR_N, m_uR_I, m_uR_L, m_uR_R, true_and, and_true, true_implies, false_implies, not_true_eq_false, not_false_eq_true, if_true, if_false, false_and, and_false]
        exact h0
theorem op_not {v : Den} {r : List Den} (hv : bdT v) : opOK 64 (inX (-5)) (v :: r) ∧ stD (inX (-5)) (v :: r) = ntD v :: r := by
  have hx : inX (-5) = (22, 0) := by decide
  rw [hx]
  exact ⟨⟨fun q => by dsimp only at q; omega, fun _ => ⟨v, r, rfl, hv⟩, fun _ q => by dsimp only at q; omega, fun q => by dsimp only at q; omega, by decide⟩, rfl⟩
theorem f_146 (d : Nat) (o x3 : Int32) (b : Bool) (e : Nat × Nat) (M : am_M) (Q : Option Value → am_M → Prop) (hL : Lay M) (hz : z = 2 ∨ z = 83) (hF : FaX M z T n e) (hQ : ∀ M', gF (sFz z) nT M M' → FaX M' z T n e → Q none M') : am_P am_P0 (d + 1) (am_look tX2_readFact) 146 [.ref 164, .int o, .int (b01 b), .int x3] [] M Q := by
  cases b with
  | false =>
    have h0 := hQ M (gF_refl _ _ _) hF
    simp +decide only [qX2_readFact_0, qX2_readFact_1, b01, am_w1_i, am_w1_r, am_w1_x, am_w1_l, am_w1_w, va_rf_s, am_push_n, am_push_s, am_cs_0, am_cs_i, am_cs_l, am_cs_r, m_uI_K, m_uI_N, m_uI_R, m_uI_L, m_uI_I, m_uL_K, m_uL_N, m_uL_R, m_uL_I, m_uL_L, m_uR_K, m_uR_N, m_uR_I, m_uR_L, m_uR_R, true_and, and_true, true_implies, false_implies, not_true_eq_false, not_false_eq_true, if_true, if_false, false_and, and_false]
    exact h0
  | true =>
    simp +decide only [qX2_readFact_0, qX2_readFact_1, lx hL, lz hL hz, hF.2.1, b01, am_w1_i, am_w1_r, am_w1_x, am_w1_l, am_w1_w, va_rf_s, am_push_n, am_push_s, am_cs_0, am_cs_i, am_cs_l, am_cs_r, m_uI_K, m_uI_N, m_uI_R, m_uI_L, m_uI_I, m_uL_K, m_uL_N, m_uL_R, m_uL_I, m_uL_L, m_uR_K, m_uR_N, m_uR_I, m_uR_L, m_uR_R, true_and, and_true, true_implies, false_implies, not_true_eq_false, not_false_eq_true, if_true, if_false, false_and, and_false]
    refine f_emit d e (-5) M _ hL hz hF (fun M5 g5 h5 => ?_)
    have h0 := hQ M5 g5 h5
    simp +decide only [qX2_readFact_0, qX2_readFact_1, am_w1_i, am_w1_r, am_w1_x, am_w1_l, am_w1_w, va_rf_s, am_push_n, am_push_s, am_cs_0, am_cs_i, am_cs_l, am_cs_r, m_uI_K, m_uI_N, m_uI_R, m_uI_L, m_uI_I, m_uL_K, m_uL_N, m_uL_R, m_uL_I, m_uL_L, m_uR_K, m_uR_N, m_uR_I, m_uR_L, m_uR_R, true_and, and_true, true_implies, false_implies, not_true_eq_false, not_false_eq_true, if_true, if_false, false_and, and_false]
    exact h0
theorem g_146 (d : Nat) (o x3 : Int32) (b : Bool) (t : Tok) (v : Den) (a c : Nat) (vs : List Den) (M : am_M) (Q : Option Value → am_M → Prop) (hz : z = 2 ∨ z = 83) (hn : n ≤ 1800) (hG : GoX T n z M a c (v :: vs) t) (hb : b = true → c + 1 ≤ tS t) (hv : bdT v)
    (hQ : ∀ M' c', gF (sPz z c) nT M M' → GoX T n z M' a c' (dnD b v :: vs) t → c ≤ c' → c' ≤ c + (if b = true then 1 else 0) → Q none M') : am_P am_P0 (d + 1) (am_look tX2_readFact) 146 [.ref 164, .int o, .int (b01 b), .int x3] [] M Q := by
  have hL := hG.1
  cases b with
  | false =>
    have h0 := hQ M c (gF_refl _ _ _) hG (Nat.le_refl _) (by omega)
    simp +decide only [qX2_readFact_0, qX2_readFact_1, b01, am_w1_i, am_w1_r, am_w1_x, am_w1_l, am_w1_w, va_rf_s, am_push_n, am_push_s, am_cs_0, am_cs_i, am_cs_l, am_cs_r, m_uI_K, m_uI_N, m_uI_R, m_uI_L, m_uI_I, m_uL_K, m_uL_N, m_uL_R, m_uL_I, m_uL_L, m_uR_K, m_uR_N, m_uR_I, m_uR_L, m_uR_R, true_and, and_true, true_implies, false_implies, not_true_eq_false, not_false_eq_true, if_true, if_false, false_and, and_false]
    exact h0
  | true =>
    have hop := op_not (r := vs) hv
    simp +decide only [qX2_readFact_0, qX2_readFact_1, lx hL, lz hL hz, hG.2.1, b01, am_w1_i, am_w1_r, am_w1_x, am_w1_l, am_w1_w, va_rf_s, am_push_n, am_push_s, am_cs_0, am_cs_i, am_cs_l, am_cs_r, m_uI_K, m_uI_N, m_uI_R, m_uI_L, m_uI_I, m_uL_K, m_uL_N, m_uL_R, m_uL_I, m_uL_L, m_uR_K, m_uR_N, m_uR_I, m_uR_L, m_uR_R, true_and, and_true, true_implies, false_implies, not_true_eq_false, not_false_eq_true, if_true, if_false, false_and, and_false]
    refine g_emit d (-5) t a c (v :: vs) M _ hz hn hG (hb rfl) hop.1 (fun M3 g3 G3 => ?_)
    rw [hop.2] at G3
    have h0 := hQ M3 (c + 1) g3 G3 (by omega) (by rw [if_pos rfl]; omega)
    simp +decide only [qX2_readFact_0, qX2_readFact_1, am_w1_i, am_w1_r, am_w1_x, am_w1_l, am_w1_w, va_rf_s, am_push_n, am_push_s, am_cs_0, am_cs_i, am_cs_l, am_cs_r, m_uI_K, m_uI_N, m_uI_R, m_uI_L, m_uI_I, m_uL_K, m_uL_N, m_uL_R, m_uL_I, m_uL_L, m_uR_K, m_uR_N, m_uR_I, m_uR_L, m_uR_R, true_and, and_true, true_implies, false_implies, not_true_eq_false, not_false_eq_true, if_true, if_false, false_and, and_false]
    exact h0
/-- a fact, its denials counted -/
theorem g_factL (hz : z = 2 ∨ z = 83) (hn : n ≤ 1800) (f : Nat) (h5 : ∀ f', f' < f → HP T n z 5 22 0 5 f') (h0 : ∀ f', f' < f → HP T n z 0 26 3 2 f') : ∀ (f1 : Nat), f1 ≤ f → ∀ (D o : Nat) (t : Tok) (v0 : Den) (a c : Nat) (vs : List Den) (M : am_M) (Q : Option Value → am_M → Prop) (res : Sum (Nat × Nat) (Tok × Den)) (turn : Nat) (b : Bool), o ≤ 8 → 12 * (9 - o) + 3 ≤ D → GoX T n z M a c vs t → vs.length ≤ 3 * o + 2 → turn ≤ tS t → (b = true → c + 1 ≤ tS t) → ps T n f1 9 o t v0 = some res → (∀ M', (match dnR b res with | .inl e => gF (sFz z) nT M M' ∧ FaX M' z T n e | .inr q => gF (sPz z c) nT M M' ∧ ∃ c', GoX T n z M' a c' (q.2 :: vs) q.1 ∧ c ≤ c' ∧ c' + tS t ≤ c + tS q.1 + (if b = true then 1 else 0)) → Q none M') → am_P am_P0 D (am_look tX2_readFact) 4 [.ref 164, .int (nI o), .int (b01 b), .int (nI turn)] [] M Q := by
  intro f1
  induction f1 with
  | zero => intro _ D o t v0 a c vs M Q res turn b _ _ _ _ _ _ h; cases h
  | succ f1 ih =>
    intro hf1 D o t v0 a c vs M Q res turn b ho hD hG hl htu hbt hp hQ
    obtain ⟨d, rfl⟩ : ∃ d, D = d + 12 := ⟨D - 12, by omega⟩
    obtain ⟨hL, hpa, hR, hf, hc, hct⟩ := id hG
    have hst : StR M T n (.inr t) := hR
    have hsz := GoX_t hG
    have hnt : tS t ≤ n := by have := hsz.1; have := hsz.2.1; omega
    have hw := fun k (hk : k < 27) => wr_is hst hk
    have hw21 : mI M 165 6 = 21 ↔ isW t wNot = true := hw 21 (by omega)
    have hw22 : mI M 165 6 = 22 ↔ isW t wAll = true := hw 22 (by omega)
    have s91 := fun Q => c_x_isSign (d + 11) n 91 T (.inr t) M Q hL (by omega) hst
    rw [show nI 91 = (91 : Int32) from rfl] at s91
    have bad : ∀ M' e, res = .inl e → gF (sFz z) nT M M' → FaX M' z T n e → Q none M' := fun M' e he g F => hQ M' (by rw [he]; exact ⟨g, F⟩)
    rw [ps_9] at hp
    by_cases cn : isW t wNot = true
    · rw [if_pos cn] at hp
      have ht0 : ¬ t.1 = 0 := by have := (isW_1 cn).1; omega
      have hz0 := tkG_0 hsz ht0
      have hlt : ¬ (1800 : Int32) ≤ nI turn := by rw [show (1800 : Int32) = nI 1800 from rfl, ni_le (by omega) (by omega)]; omega
      have h6 := hw21.mpr cn
      have tog : ∀ M2 Q', am_P am_P0 (d + 12) (am_look tX2_readFact) 4 [.ref 164, .int (nI o), .int (b01 (!b)), .int (nI (turn + 1))] [] M2 Q' → am_P am_P0 (d + 12) (am_look tX2_readFact) 30 [.ref 164, .int (nI o), .int (b01 b), .int (nI turn)] [] M2 Q' := fun M2 Q' h => by
        cases b with
        | false =>
          simp +decide only [qX2_readFact_0, qX2_readFact_1, ni_add1, b01, am_w1_i, am_w1_r, am_w1_x, am_w1_l, am_w1_w, va_rf_s, am_push_n, am_push_s, am_cs_0, am_cs_i, am_cs_l, am_cs_r, m_uI_K, m_uI_N, m_uI_R, m_uI_L, m_uI_I, m_uL_K, m_uL_N, m_uL_R, m_uL_I, m_uL_L, m_uR_K, m_uR_N, m_uR_I, m_uR_L, m_uR_R, true_and, and_true, true_implies, false_implies, not_true_eq_false, not_false_eq_true, if_true, if_false, false_and, and_false] at h ⊢
          exact h
        | true =>
          simp +decide only [qX2_readFact_0, qX2_readFact_1, ni_add1, b01, am_w1_i, am_w1_r, am_w1_x, am_w1_l, am_w1_w, va_rf_s, am_push_n, am_push_s, am_cs_0, am_cs_i, am_cs_l, am_cs_r, m_uI_K, m_uI_N, m_uI_R, m_uI_L, m_uI_I, m_uL_K, m_uL_N, m_uL_R, m_uL_I, m_uL_L, m_uR_K, m_uR_N, m_uR_I, m_uR_L, m_uR_R, true_and, and_true, true_implies, false_implies, not_true_eq_false, not_false_eq_true, if_true, if_false, false_and, and_false] at h ⊢
          exact h
      rw [hX2_readFact_4]
      simp +decide only [qX2_readFact_0, qX2_readFact_1, lx hL, h6, am_w1_i, am_w1_r, am_w1_x, am_w1_l, am_w1_w, va_rf_s, am_push_n, am_push_s, am_cs_0, am_cs_i, am_cs_l, am_cs_r, m_uI_K, m_uI_N, m_uI_R, m_uI_L, m_uI_I, m_uL_K, m_uL_N, m_uL_R, m_uL_I, m_uL_L, m_uR_K, m_uR_N, m_uR_I, m_uR_L, m_uR_R, true_and, and_true, true_implies, false_implies, not_true_eq_false, not_false_eq_true, if_true, if_false, false_and, and_false]
      rw [br_n hlt]
      refine g_step (d + 10) t _ res a c vs M _ hz hG ht0 hp (fun M1 e he g1 F1 => ?_) (fun M1 t1 g1 G1 hs1 hk1 => ?_)
      · have h9 := tog M1 Q (f_fact (d + 7) (nI o) e M1 Q (!b) (nI (turn + 1)) (gF_LayN g1 hL) hz F1 (fun M' g' F' => bad M' e he (gF_trans (sRd_F g1) g') F'))
        simp +decide only [qX2_readFact_0, qX2_readFact_1, am_w1_i, am_w1_r, am_w1_x, am_w1_l, am_w1_w, va_rf_s, am_push_n, am_push_s, am_cs_0, am_cs_i, am_cs_l, am_cs_r, m_uI_K, m_uI_N, m_uI_R, m_uI_L, m_uI_I, m_uL_K, m_uL_N, m_uL_R, m_uL_I, m_uL_L, m_uR_K, m_uR_N, m_uR_I, m_uR_L, m_uR_R, true_and, and_true, true_implies, false_implies, not_true_eq_false, not_false_eq_true, if_true, if_false, false_and, and_false] at h9 ⊢
        exact h9
      · have key : am_P am_P0 (d + 12) (am_look tX2_readFact) 4 [.ref 164, .int (nI o), .int (b01 (!b)), .int (nI (turn + 1))] [] M1 Q := by
          rcases bnd_some hk1 with ⟨e, he1, he2⟩ | ⟨t2, v2, he1, he2⟩
          · refine ih (by omega) (d + 12) o t1 v0 a c vs M1 Q _ (turn + 1) (!b) ho hD G1 hl (by omega) (fun _ => by omega) he1 (fun M2 P2 => ?_)
            obtain ⟨g2, F2⟩ : gF (sFz z) nT M1 M2 ∧ FaX M2 z T n e := P2
            exact bad M2 e he2 (gF_trans (sRd_F g1) g2) F2
          · cases he2
            refine ih (by omega) (d + 12) o t1 v0 a c vs M1 Q _ (turn + 1) (!b) ho hD G1 hl (by omega) (fun _ => by omega) he1 (fun M2 P2 => ?_)
            obtain ⟨g2, c2, G2, hc2, hc2'⟩ : gF (sPz z c) nT M1 M2 ∧ ∃ c', GoX T n z M2 a c' (dnD (!b) v2 :: vs) t2 ∧ c ≤ c' ∧ c' + tS t1 ≤ c + tS t2 + (if (!b) = true then 1 else 0) := P2
            rw [dnD_n] at G2
            refine hQ M2 ⟨gF_trans (sRd_P g1) g2, c2, G2, hc2, ?_⟩
            show c2 + tS t ≤ c + tS t2 + _
            have : (if (!b) = true then 1 else 0) ≤ 1 := by split <;> omega
            omega
        have h9 := tog M1 Q key
        simp +decide only [qX2_readFact_0, qX2_readFact_1, am_w1_i, am_w1_r, am_w1_x, am_w1_l, am_w1_w, va_rf_s, am_push_n, am_push_s, am_cs_0, am_cs_i, am_cs_l, am_cs_r, m_uI_K, m_uI_N, m_uI_R, m_uI_L, m_uI_I, m_uL_K, m_uL_N, m_uL_R, m_uL_I, m_uL_L, m_uR_K, m_uR_N, m_uR_I, m_uR_L, m_uR_R, true_and, and_true, true_implies, false_implies, not_true_eq_false, not_false_eq_true, if_true, if_false, false_and, and_false] at h9 ⊢
        exact h9
    · rw [if_neg cn] at hp
      have h21 : ¬ mI M 165 6 = 21 := fun q => cn (hw21.mp q)
      -- from the place behind the denials
      have main : am_P am_P0 (d + 12) (am_look tX2_readFact) 46 [.ref 164, .int (nI o), .int (b01 b), .int (nI turn)] [] M Q := by
        have good : ∀ (M' : am_M) (t' : Tok) (v : Den) (c' : Nat) (x3 : Int32), res = .inr (t', v) → gF (sPz z c) nT M M' → GoX T n z M' a c' (v :: vs) t' → bdT v → c ≤ c' → c' + tS t ≤ c + tS t' → am_P am_P0 (d + 12) (am_look tX2_readFact) 146 [.ref 164, .int (nI o), .int (b01 b), .int x3] [] M' Q := by
          intro M' t' v c' x3 hr hg hG' hv hcc hcc'
          subst hr
          refine g_146 (d + 11) (nI o) x3 b t' v a c' vs M' Q hz hn hG' (fun q => by have := hbt q; omega) hv (fun M2 c2 g2 G2 h1 h2 => hQ M2 ⟨gF_trans hg (sPz_le g2 hcc), c2, G2, by omega, ?_⟩)
          show c2 + tS t ≤ c + tS t' + _
          omega
        by_cases c91 : isS t 91 = true
        · rw [if_pos c91] at hp
          have c91' : isSr 91 (.inr t) = true := c91
          simp +decide only [qX2_readFact_0, qX2_readFact_1, lx hL, s91, c91', b01, am_w1_i, am_w1_r, am_w1_x, am_w1_l, am_w1_w, va_rf_s, am_push_n, am_push_s, am_cs_0, am_cs_i, am_cs_l, am_cs_r, m_uI_K, m_uI_N, m_uI_R, m_uI_L, m_uI_I, m_uL_K, m_uL_N, m_uL_R, m_uL_I, m_uL_L, m_uR_K, m_uR_N, m_uR_I, m_uR_L, m_uR_R, true_and, and_true, true_implies, false_implies, not_true_eq_false, not_false_eq_true, if_true, if_false, false_and, and_false]
          rw [show (91 : Int32) = nI 91 from rfl]
          refine g_open (d + 9) 91 o t _ res a c vs M _ hz (by omega) ho hG hp (fun M2 e he g2 F2 => ?_) (fun M2 e he g2 F2 => ?_) (fun M2 t1 ho8 g2 G2 hs2 hk2 => ?_)
          · have h9 := f_146 (d + 11) (nI o) (nI turn) b e M2 Q (gF_LayN g2 hL) hz F2 (fun M' g' F' => bad M' e he (gF_trans (sRd_F g2) g') F')
            simp +decide only [qX2_readFact_0, qX2_readFact_1, lx (gF_LayN g2 hL), lz (gF_LayN g2 hL) hz, F2.2.1, b01, am_w1_i, am_w1_r, am_w1_x, am_w1_l, am_w1_w, va_rf_s, am_push_n, am_push_s, am_cs_0, am_cs_i, am_cs_l, am_cs_r, m_uI_K, m_uI_N, m_uI_R, m_uI_L, m_uI_I, m_uL_K, m_uL_N, m_uL_R, m_uL_I, m_uL_L, m_uR_K, m_uR_N, m_uR_I, m_uR_L, m_uR_R, true_and, and_true, true_implies, false_implies, not_true_eq_false, not_false_eq_true, if_true, if_false, false_and, and_false] at h9 ⊢
            exact h9
          · have L2 := gF_LayN g2 hL
            simp +decide only [qX2_readFact_0, qX2_readFact_1, lx L2, am_w1_i, am_w1_r, am_w1_x, am_w1_l, am_w1_w, va_rf_s, am_push_n, am_push_s, am_cs_0, am_cs_i, am_cs_l, am_cs_r, m_uI_K, m_uI_N, m_uI_R, m_uI_L, m_uI_I, m_uL_K, m_uL_N, m_uL_R, m_uL_I, m_uL_L, m_uR_K, m_uR_N, m_uR_I, m_uR_L, m_uR_R, true_and, and_true, true_implies, false_implies, not_true_eq_false, not_false_eq_true, if_true, if_false, false_and, and_false]
            refine f_test (d + 4) (nI o + 1) e M2 _ L2 hz F2 (fun M3 g3 F3 => ?_)
            have L3 := gF_LayN g3 L2
            simp +decide only [qX2_readFact_0, qX2_readFact_1, lx L3, am_w1_i, am_w1_r, am_w1_x, am_w1_l, am_w1_w, va_rf_s, am_push_n, am_push_s, am_cs_0, am_cs_i, am_cs_l, am_cs_r, m_uI_K, m_uI_N, m_uI_R, m_uI_L, m_uI_I, m_uL_K, m_uL_N, m_uL_R, m_uL_I, m_uL_L, m_uR_K, m_uR_N, m_uR_I, m_uR_L, m_uR_R, true_and, and_true, true_implies, false_implies, not_true_eq_false, not_false_eq_true, if_true, if_false, false_and, and_false]
            rw [show (93 : Int32) = nI 93 from rfl]
            refine f_sign (d + 9) 93 e M3 _ L3 hz (by omega) F3 (fun M4 g4 F4 => ?_)
            have L4 := gF_LayN g4 L3
            have h9 := f_146 (d + 11) (nI o) (nI turn) b e M4 Q L4 hz F4 (fun M' g' F' => bad M' e he (gF_trans (sRd_F g2) (gF_trans g3 (gF_trans g4 g'))) F')
            simp +decide only [qX2_readFact_0, qX2_readFact_1, lx L4, lz L4 hz, F4.2.1, b01, am_w1_i, am_w1_r, am_w1_x, am_w1_l, am_w1_w, va_rf_s, am_push_n, am_push_s, am_cs_0, am_cs_i, am_cs_l, am_cs_r, m_uI_K, m_uI_N, m_uI_R, m_uI_L, m_uI_I, m_uL_K, m_uL_N, m_uL_R, m_uL_I, m_uL_L, m_uR_K, m_uR_N, m_uR_I, m_uR_L, m_uR_R, true_and, and_true, true_implies, false_implies, not_true_eq_false, not_false_eq_true, if_true, if_false, false_and, and_false] at h9 ⊢
            exact h9
          · have L2 := G2.1
            simp +decide only [qX2_readFact_0, qX2_readFact_1, lx L2, ni_add1, am_w1_i, am_w1_r, am_w1_x, am_w1_l, am_w1_w, va_rf_s, am_push_n, am_push_s, am_cs_0, am_cs_i, am_cs_l, am_cs_r, m_uI_K, m_uI_N, m_uI_R, m_uI_L, m_uI_I, m_uL_K, m_uL_N, m_uL_R, m_uL_I, m_uL_L, m_uR_K, m_uR_N, m_uR_I, m_uR_L, m_uR_R, true_and, and_true, true_implies, false_implies, not_true_eq_false, not_false_eq_true, if_true, if_false, false_and, and_false]
            rcases bnd_some hk2 with ⟨e, he1, he2⟩ | ⟨t2, u, he1, he2⟩
            · refine h5 f1 (by omega) (d + 11) (o + 1) t1 v0 a c vs M2 _ _ (by omega) (by omega) G2 (by omega) he1 (fun M3 P3 => ?_)
              obtain ⟨g3, F3⟩ : gF (sFz z) nT M2 M3 ∧ FaX M3 z T n e := P3
              have L3 := gF_LayN g3 L2
              simp +decide only [qX2_readFact_0, qX2_readFact_1, lx L3, am_w1_i, am_w1_r, am_w1_x, am_w1_l, am_w1_w, va_rf_s, am_push_n, am_push_s, am_cs_0, am_cs_i, am_cs_l, am_cs_r, m_uI_K, m_uI_N, m_uI_R, m_uI_L, m_uI_I, m_uL_K, m_uL_N, m_uL_R, m_uL_I, m_uL_L, m_uR_K, m_uR_N, m_uR_I, m_uR_L, m_uR_R, true_and, and_true, true_implies, false_implies, not_true_eq_false, not_false_eq_true, if_true, if_false, false_and, and_false]
              rw [show (93 : Int32) = nI 93 from rfl]
              refine f_sign (d + 9) 93 e M3 _ L3 hz (by omega) F3 (fun M4 g4 F4 => ?_)
              have L4 := gF_LayN g4 L3
              have h9 := f_146 (d + 11) (nI o) (nI turn) b e M4 Q L4 hz F4 (fun M' g' F' => bad M' e he2 (gF_trans (sRd_F g2) (gF_trans g3 (gF_trans g4 g'))) F')
              simp +decide only [qX2_readFact_0, qX2_readFact_1, lx L4, lz L4 hz, F4.2.1, b01, am_w1_i, am_w1_r, am_w1_x, am_w1_l, am_w1_w, va_rf_s, am_push_n, am_push_s, am_cs_0, am_cs_i, am_cs_l, am_cs_r, m_uI_K, m_uI_N, m_uI_R, m_uI_L, m_uI_I, m_uL_K, m_uL_N, m_uL_R, m_uL_I, m_uL_L, m_uR_K, m_uR_N, m_uR_I, m_uR_L, m_uR_R, true_and, and_true, true_implies, false_implies, not_true_eq_false, not_false_eq_true, if_true, if_false, false_and, and_false] at h9 ⊢
              exact h9
            · refine h5 f1 (by omega) (d + 11) (o + 1) t1 v0 a c vs M2 _ _ (by omega) (by omega) G2 (by omega) he1 (fun M3 P3 => ?_)
              obtain ⟨g3, c3, G3, hc3, hc3'⟩ : gF (sPz z c) nT M2 M3 ∧ ∃ c', GoX T n z M3 a c' (u :: vs) t2 ∧ c ≤ c' ∧ c' + tS t1 ≤ c + tS t2 := P3
              have L3 := G3.1
              have hbu := ((ps_typ (T := T) (n := n) f1).2.2.2.2.2.1 (o + 1) t1 v0 (tkG_OK (GoX_t G2)) t2 u he1).2
              simp +decide only [qX2_readFact_0, qX2_readFact_1, lx L3, am_w1_i, am_w1_r, am_w1_x, am_w1_l, am_w1_w, va_rf_s, am_push_n, am_push_s, am_cs_0, am_cs_i, am_cs_l, am_cs_r, m_uI_K, m_uI_N, m_uI_R, m_uI_L, m_uI_I, m_uL_K, m_uL_N, m_uL_R, m_uL_I, m_uL_L, m_uR_K, m_uR_N, m_uR_I, m_uR_L, m_uR_R, true_and, and_true, true_implies, false_implies, not_true_eq_false, not_false_eq_true, if_true, if_false, false_and, and_false]
              rw [show (93 : Int32) = nI 93 from rfl]
              refine g_sign (d + 9) 93 t2 _ res a c3 (u :: vs) M3 _ hz (by omega) G3 he2 (fun M4 e he g4 F4 => ?_) (fun M4 t3 g4 G4 hs4 hk4 => ?_)
              · have L4 := gF_LayN g4 L3
                have h9 := f_146 (d + 11) (nI o) (nI turn) b e M4 Q L4 hz F4 (fun M' g' F' => bad M' e he (gF_trans (sRd_F g2) (gF_trans (sPz_F g3) (gF_trans (sRd_F g4) g'))) F')
                simp +decide only [qX2_readFact_0, qX2_readFact_1, lx L4, lz L4 hz, F4.2.1, b01, am_w1_i, am_w1_r, am_w1_x, am_w1_l, am_w1_w, va_rf_s, am_push_n, am_push_s, am_cs_0, am_cs_i, am_cs_l, am_cs_r, m_uI_K, m_uI_N, m_uI_R, m_uI_L, m_uI_I, m_uL_K, m_uL_N, m_uL_R, m_uL_I, m_uL_L, m_uR_K, m_uR_N, m_uR_I, m_uR_L, m_uR_R, true_and, and_true, true_implies, false_implies, not_true_eq_false, not_false_eq_true, if_true, if_false, false_and, and_false] at h9 ⊢
                exact h9
              · have hk4' : res = .inr (t3, u) := by cases hk4; rfl
                have h9 := good M4 t3 u c3 (nI turn) hk4' (gF_trans (sRd_P g2) (gF_trans g3 (sRd_P g4))) G4 hbu hc3 (by omega)
                simp +decide only [qX2_readFact_0, qX2_readFact_1, lx G4.1, lz G4.1 hz, G4.2.1, b01, am_w1_i, am_w1_r, am_w1_x, am_w1_l, am_w1_w, va_rf_s, am_push_n, am_push_s, am_cs_0, am_cs_i, am_cs_l, am_cs_r, m_uI_K, m_uI_N, m_uI_R, m_uI_L, m_uI_I, m_uL_K, m_uL_N, m_uL_R, m_uL_I, m_uL_L, m_uR_K, m_uR_N, m_uR_I, m_uR_L, m_uR_R, true_and, and_true, true_implies, false_implies, not_true_eq_false, not_false_eq_true, if_true, if_false, false_and, and_false] at h9 ⊢
                exact h9
        · rw [if_neg c91] at hp
          have c91' : isSr 91 (.inr t) = false := by show isS t 91 = false; simpa using c91
          by_cases ca : isW t wAll = true
          · rw [if_pos ca] at hp
            have h6 := hw22.mpr ca
            have ht0 : ¬ t.1 = 0 := by have := (isW_1 ca).1; omega
            simp +decide only [qX2_readFact_0, qX2_readFact_1, lx hL, s91, c91', h6, b01, am_w1_i, am_w1_r, am_w1_x, am_w1_l, am_w1_w, va_rf_s, am_push_n, am_push_s, am_cs_0, am_cs_i, am_cs_l, am_cs_r, m_uI_K, m_uI_N, m_uI_R, m_uI_L, m_uI_I, m_uL_K, m_uL_N, m_uL_R, m_uL_I, m_uL_L, m_uR_K, m_uR_N, m_uR_I, m_uR_L, m_uR_R, true_and, and_true, true_implies, false_implies, not_true_eq_false, not_false_eq_true, if_true, if_false, false_and, and_false]
            refine g_step (d + 10) t _ res a c vs M _ hz hG ht0 hp (fun M1 e he g1 F1 => ?_) (fun M1 t1 g1 G1 hs1 hk1 => ?_)
            · have L1 := gF_LayN g1 hL
              simp +decide only [qX2_readFact_0, qX2_readFact_1, lx L1, lz L1 hz, F1.2.1, am_w1_i, am_w1_r, am_w1_x, am_w1_l, am_w1_w, va_rf_s, am_push_n, am_push_s, am_cs_0, am_cs_i, am_cs_l, am_cs_r, m_uI_K, m_uI_N, m_uI_R, m_uI_L, m_uI_I, m_uL_K, m_uL_N, m_uL_R, m_uL_I, m_uL_L, m_uR_K, m_uR_N, m_uR_I, m_uR_L, m_uR_R, true_and, and_true, true_implies, false_implies, not_true_eq_false, not_false_eq_true, if_true, if_false, false_and, and_false]
              refine f_emit (d + 11) e 1 M1 _ L1 hz F1 (fun M2 g2 F2 => ?_)
              have L2 := gF_LayN g2 L1
              have h9 := f_146 (d + 11) (nI o) (nI turn) b e M2 Q L2 hz F2 (fun M' g' F' => bad M' e he (gF_trans (sRd_F g1) (gF_trans g2 g')) F')
              simp +decide only [qX2_readFact_0, qX2_readFact_1, lx L2, lz L2 hz, F2.2.1, b01, am_w1_i, am_w1_r, am_w1_x, am_w1_l, am_w1_w, va_rf_s, am_push_n, am_push_s, am_cs_0, am_cs_i, am_cs_l, am_cs_r, m_uI_K, m_uI_N, m_uI_R, m_uI_L, m_uI_I, m_uL_K, m_uL_N, m_uL_R, m_uL_I, m_uL_L, m_uR_K, m_uR_N, m_uR_I, m_uR_L, m_uR_R, true_and, and_true, true_implies, false_implies, not_true_eq_false, not_false_eq_true, if_true, if_false, false_and, and_false] at h9 ⊢
              exact h9
            · have L1 := G1.1
              have hk1' : res = .inr (t1, fun _ => 1) := by cases hk1; rfl
              have hb1 : bdT (fun _ => (1 : Int)) := fun _ => Or.inr rfl
              have hop : opOK 64 (inX 1) vs ∧ stD (inX 1) vs = (fun _ => (1 : Int)) :: vs := op_leaf (by decide) rfl (bdT_S hb1) (by omega)
              simp +decide only [qX2_readFact_0, qX2_readFact_1, lx L1, lz L1 hz, G1.2.1, am_w1_i, am_w1_r, am_w1_x, am_w1_l, am_w1_w, va_rf_s, am_push_n, am_push_s, am_cs_0, am_cs_i, am_cs_l, am_cs_r, m_uI_K, m_uI_N, m_uI_R, m_uI_L, m_uI_I, m_uL_K, m_uL_N, m_uL_R, m_uL_I, m_uL_L, m_uR_K, m_uR_N, m_uR_I, m_uR_L, m_uR_R, true_and, and_true, true_implies, false_implies, not_true_eq_false, not_false_eq_true, if_true, if_false, false_and, and_false]
              refine g_emit (d + 11) 1 t1 a c vs M1 _ hz hn G1 (by omega) hop.1 (fun M2 g2 G2 => ?_)
              rw [hop.2] at G2
              have h9 := good M2 t1 _ (c + 1) (nI turn) hk1' (gF_trans (sRd_P g1) g2) G2 hb1 (by omega) (by omega)
              simp +decide only [qX2_readFact_0, qX2_readFact_1, lx G2.1, lz G2.1 hz, G2.2.1, b01, am_w1_i, am_w1_r, am_w1_x, am_w1_l, am_w1_w, va_rf_s, am_push_n, am_push_s, am_cs_0, am_cs_i, am_cs_l, am_cs_r, m_uI_K, m_uI_N, m_uI_R, m_uI_L, m_uI_I, m_uL_K, m_uL_N, m_uL_R, m_uL_I, m_uL_L, m_uR_K, m_uR_N, m_uR_I, m_uR_L, m_uR_R, true_and, and_true, true_implies, false_implies, not_true_eq_false, not_false_eq_true, if_true, if_false, false_and, and_false] at h9 ⊢
              exact h9
          · rw [if_neg ca] at hp
            have h22 : ¬ mI M 165 6 = 22 := fun q => ca (hw22.mp q)
            simp +decide only [qX2_readFact_0, qX2_readFact_1, lx hL, s91, c91', b01, am_w1_i, am_w1_r, am_w1_x, am_w1_l, am_w1_w, va_rf_s, am_push_n, am_push_s, am_cs_0, am_cs_i, am_cs_l, am_cs_r, m_uI_K, m_uI_N, m_uI_R, m_uI_L, m_uI_I, m_uL_K, m_uL_N, m_uL_R, m_uL_I, m_uL_L, m_uR_K, m_uR_N, m_uR_I, m_uR_L, m_uR_R, true_and, and_true, true_implies, false_implies, not_true_eq_false, not_false_eq_true, if_true, if_false, false_and, and_false]
            rw [br_p h22]
            -- after the first sum has failed
            have tailF : ∀ M1 e, res = .inl e → gF (sFz z) nT M M1 → FaX M1 z T n e → am_P am_P0 (d + 12) (am_look tX2_readFact) 125 [.ref 164, .int (nI o), .int (b01 b), .int (nI turn)] [] M1 Q := fun M1 e he g1 F1 => by
              have L1 := gF_LayN g1 hL
              simp +decide only [qX2_readFact_0, qX2_readFact_1, lx L1, am_w1_i, am_w1_r, am_w1_x, am_w1_l, am_w1_w, va_rf_s, am_push_n, am_push_s, am_cs_0, am_cs_i, am_cs_l, am_cs_r, m_uI_K, m_uI_N, m_uI_R, m_uI_L, m_uI_I, m_uL_K, m_uL_N, m_uL_R, m_uL_I, m_uL_L, m_uR_K, m_uR_N, m_uR_I, m_uR_L, m_uR_R, true_and, and_true, true_implies, false_implies, not_true_eq_false, not_false_eq_true, if_true, if_false, false_and, and_false]
              refine f_cmp (d + 8) e M1 _ L1 hz F1 (fun M2 g2 F2 => ?_)
              have L2 := gF_LayN g2 L1
              simp +decide only [qX2_readFact_0, qX2_readFact_1, lx L2, am_w1_i, am_w1_r, am_w1_x, am_w1_l, am_w1_w, va_rf_s, am_push_n, am_push_s, am_cs_0, am_cs_i, am_cs_l, am_cs_r, m_uI_K, m_uI_N, m_uI_R, m_uI_L, m_uI_I, m_uL_K, m_uL_N, m_uL_R, m_uL_I, m_uL_L, m_uR_K, m_uR_N, m_uR_I, m_uR_L, m_uR_R, true_and, and_true, true_implies, false_implies, not_true_eq_false, not_false_eq_true, if_true, if_false, false_and, and_false]
              refine f_sum (d + 7) (nI o) e M2 _ L2 hz F2 (fun M3 g3 F3 => ?_)
              have L3 := gF_LayN g3 L2
              simp +decide only [qX2_readFact_0, qX2_readFact_1, lx L3, lz L3 hz, F3.2.1, am_w1_i, am_w1_r, am_w1_x, am_w1_l, am_w1_w, va_rf_s, am_push_n, am_push_s, am_cs_0, am_cs_i, am_cs_l, am_cs_r, m_uI_K, m_uI_N, m_uI_R, m_uI_L, m_uI_I, m_uL_K, m_uL_N, m_uL_R, m_uL_I, m_uL_L, m_uR_K, m_uR_N, m_uR_I, m_uR_L, m_uR_R, true_and, and_true, true_implies, false_implies, not_true_eq_false, not_false_eq_true, if_true, if_false, false_and, and_false]
              refine f_emit (d + 11) e (-15) M3 _ L3 hz F3 (fun M4 g4 F4 => ?_)
              have L4 := gF_LayN g4 L3
              have h9 := f_146 (d + 11) (nI o) (-15) b e M4 Q L4 hz F4 (fun M' g' F' => bad M' e he (gF_trans g1 (gF_trans g2 (gF_trans g3 (gF_trans g4 g')))) F')
              simp +decide only [qX2_readFact_0, qX2_readFact_1, lx L4, lz L4 hz, F4.2.1, b01, am_w1_i, am_w1_r, am_w1_x, am_w1_l, am_w1_w, va_rf_s, am_push_n, am_push_s, am_cs_0, am_cs_i, am_cs_l, am_cs_r, m_uI_K, m_uI_N, m_uI_R, m_uI_L, m_uI_I, m_uL_K, m_uL_N, m_uL_R, m_uL_I, m_uL_L, m_uR_K, m_uR_N, m_uR_I, m_uR_L, m_uR_R, true_and, and_true, true_implies, false_implies, not_true_eq_false, not_false_eq_true, if_true, if_false, false_and, and_false] at h9 ⊢
              exact h9
            rcases bnd_some hp with ⟨e, he1, he2⟩ | ⟨t1, u, he1, he2⟩
            · refine h0 f1 (by omega) (d + 11) o t v0 a c vs M _ _ ho (by omega) hG (by omega) he1 (fun M1 P1 => ?_)
              obtain ⟨g1, F1⟩ : gF (sFz z) nT M M1 ∧ FaX M1 z T n e := P1
              have h9 := tailF M1 e he2 g1 F1
              simp +decide only [qX2_readFact_0, qX2_readFact_1, lx (gF_LayN g1 hL), am_w1_i, am_w1_r, am_w1_x, am_w1_l, am_w1_w, va_rf_s, am_push_n, am_push_s, am_cs_0, am_cs_i, am_cs_l, am_cs_r, m_uI_K, m_uI_N, m_uI_R, m_uI_L, m_uI_I, m_uL_K, m_uL_N, m_uL_R, m_uL_I, m_uL_L, m_uR_K, m_uR_N, m_uR_I, m_uR_L, m_uR_R, true_and, and_true, true_implies, false_implies, not_true_eq_false, not_false_eq_true, if_true, if_false, false_and, and_false] at h9 ⊢
              exact h9
            · refine h0 f1 (by omega) (d + 11) o t v0 a c vs M _ _ ho (by omega) hG (by omega) he1 (fun M1 P1 => ?_)
              obtain ⟨g1, c1, G1, hc1, hc1'⟩ : gF (sPz z c) nT M M1 ∧ ∃ c', GoX T n z M1 a c' (u :: vs) t1 ∧ c ≤ c' ∧ c' + tS t ≤ c + tS t1 := P1
              have L1 := G1.1
              have hbu := ((ps_typ (T := T) (n := n) f1).1 o t v0 (tkG_OK hsz) t1 u he1).2
              simp +decide only [qX2_readFact_0, qX2_readFact_1, lx L1, am_w1_i, am_w1_r, am_w1_x, am_w1_l, am_w1_w, va_rf_s, am_push_n, am_push_s, am_cs_0, am_cs_i, am_cs_l, am_cs_r, m_uI_K, m_uI_N, m_uI_R, m_uI_L, m_uI_I, m_uL_K, m_uL_N, m_uL_R, m_uL_I, m_uL_L, m_uR_K, m_uR_N, m_uR_I, m_uR_L, m_uR_R, true_and, and_true, true_implies, false_implies, not_true_eq_false, not_false_eq_true, if_true, if_false, false_and, and_false]
              refine g_cmp (d + 8) t1 _ res a c1 (u :: vs) M1 _ hz G1 he2 (fun M2 e x he g2 F2 => ?_) (fun M2 t2 x g2 G2 hs2 hk2 hcz hx => ?_)
              · have L2 := gF_LayN g2 L1
                simp +decide only [qX2_readFact_0, qX2_readFact_1, lx L2, am_w1_i, am_w1_r, am_w1_x, am_w1_l, am_w1_w, va_rf_s, am_push_n, am_push_s, am_cs_0, am_cs_i, am_cs_l, am_cs_r, m_uI_K, m_uI_N, m_uI_R, m_uI_L, m_uI_I, m_uL_K, m_uL_N, m_uL_R, m_uL_I, m_uL_L, m_uR_K, m_uR_N, m_uR_I, m_uR_L, m_uR_R, true_and, and_true, true_implies, false_implies, not_true_eq_false, not_false_eq_true, if_true, if_false, false_and, and_false]
                refine f_sum (d + 7) (nI o) e M2 _ L2 hz F2 (fun M3 g3 F3 => ?_)
                have L3 := gF_LayN g3 L2
                simp +decide only [qX2_readFact_0, qX2_readFact_1, lx L3, lz L3 hz, F3.2.1, am_w1_i, am_w1_r, am_w1_x, am_w1_l, am_w1_w, va_rf_s, am_push_n, am_push_s, am_cs_0, am_cs_i, am_cs_l, am_cs_r, m_uI_K, m_uI_N, m_uI_R, m_uI_L, m_uI_I, m_uL_K, m_uL_N, m_uL_R, m_uL_I, m_uL_L, m_uR_K, m_uR_N, m_uR_I, m_uR_L, m_uR_R, true_and, and_true, true_implies, false_implies, not_true_eq_false, not_false_eq_true, if_true, if_false, false_and, and_false]
                refine f_emit (d + 11) e x M3 _ L3 hz F3 (fun M4 g4 F4 => ?_)
                have L4 := gF_LayN g4 L3
                have h9 := f_146 (d + 11) (nI o) x b e M4 Q L4 hz F4 (fun M' g' F' => bad M' e he (gF_trans (sPz_F g1) (gF_trans (sRd_F g2) (gF_trans g3 (gF_trans g4 g')))) F')
                simp +decide only [qX2_readFact_0, qX2_readFact_1, lx L4, lz L4 hz, F4.2.1, b01, am_w1_i, am_w1_r, am_w1_x, am_w1_l, am_w1_w, va_rf_s, am_push_n, am_push_s, am_cs_0, am_cs_i, am_cs_l, am_cs_r, m_uI_K, m_uI_N, m_uI_R, m_uI_L, m_uI_I, m_uL_K, m_uL_N, m_uL_R, m_uL_I, m_uL_L, m_uR_K, m_uR_N, m_uR_I, m_uR_L, m_uR_R, true_and, and_true, true_implies, false_implies, not_true_eq_false, not_false_eq_true, if_true, if_false, false_and, and_false] at h9 ⊢
                exact h9
              · have L2 := G2.1
                have hc3 := cmp_3 hcz
                simp +decide only [qX2_readFact_0, qX2_readFact_1, lx L2, am_w1_i, am_w1_r, am_w1_x, am_w1_l, am_w1_w, va_rf_s, am_push_n, am_push_s, am_cs_0, am_cs_i, am_cs_l, am_cs_r, m_uI_K, m_uI_N, m_uI_R, m_uI_L, m_uI_I, m_uL_K, m_uL_N, m_uL_R, m_uL_I, m_uL_L, m_uR_K, m_uR_N, m_uR_I, m_uR_L, m_uR_R, true_and, and_true, true_implies, false_implies, not_true_eq_false, not_false_eq_true, if_true, if_false, false_and, and_false]
                rcases bnd_some hk2 with ⟨e, hf1', hf2⟩ | ⟨t3, u', hf1', hf2⟩
                · refine h0 f1 (by omega) (d + 11) o t2 v0 a c1 (u :: vs) M2 _ _ ho (by omega) G2 (by rw [List.length_cons]; omega) hf1' (fun M3 P3 => ?_)
                  obtain ⟨g3, F3⟩ : gF (sFz z) nT M2 M3 ∧ FaX M3 z T n e := P3
                  have L3 := gF_LayN g3 L2
                  simp +decide only [qX2_readFact_0, qX2_readFact_1, lx L3, lz L3 hz, F3.2.1, am_w1_i, am_w1_r, am_w1_x, am_w1_l, am_w1_w, va_rf_s, am_push_n, am_push_s, am_cs_0, am_cs_i, am_cs_l, am_cs_r, m_uI_K, m_uI_N, m_uI_R, m_uI_L, m_uI_I, m_uL_K, m_uL_N, m_uL_R, m_uL_I, m_uL_L, m_uR_K, m_uR_N, m_uR_I, m_uR_L, m_uR_R, true_and, and_true, true_implies, false_implies, not_true_eq_false, not_false_eq_true, if_true, if_false, false_and, and_false]
                  refine f_emit (d + 11) e x M3 _ L3 hz F3 (fun M4 g4 F4 => ?_)
                  have L4 := gF_LayN g4 L3
                  have h9 := f_146 (d + 11) (nI o) x b e M4 Q L4 hz F4 (fun M' g' F' => bad M' e hf2 (gF_trans (sPz_F g1) (gF_trans (sRd_F g2) (gF_trans g3 (gF_trans g4 g')))) F')
                  simp +decide only [qX2_readFact_0, qX2_readFact_1, lx L4, lz L4 hz, F4.2.1, b01, am_w1_i, am_w1_r, am_w1_x, am_w1_l, am_w1_w, va_rf_s, am_push_n, am_push_s, am_cs_0, am_cs_i, am_cs_l, am_cs_r, m_uI_K, m_uI_N, m_uI_R, m_uI_L, m_uI_I, m_uL_K, m_uL_N, m_uL_R, m_uL_I, m_uL_L, m_uR_K, m_uR_N, m_uR_I, m_uR_L, m_uR_R, true_and, and_true, true_implies, false_implies, not_true_eq_false, not_false_eq_true, if_true, if_false, false_and, and_false] at h9 ⊢
                  exact h9
                · refine h0 f1 (by omega) (d + 11) o t2 v0 a c1 (u :: vs) M2 _ _ ho (by omega) G2 (by rw [List.length_cons]; omega) hf1' (fun M3 P3 => ?_)
                  obtain ⟨g3, c3, G3, hc3a, hc3b⟩ : gF (sPz z c1) nT M2 M3 ∧ ∃ c', GoX T n z M3 a c' (u' :: u :: vs) t3 ∧ c1 ≤ c' ∧ c' + tS t2 ≤ c1 + tS t3 := P3
                  have L3 := G3.1
                  have hbu' := ((ps_typ (T := T) (n := n) f1).1 o t2 v0 (tkG_OK (GoX_t G2)) t3 u' hf1').2
                  have hop := op_bin (r := vs) hx (by omega) (by omega) hbu hbu'
                  have hf2' : res = .inr (t3, jnD (cmpOp t1) u u') := by cases hf2; rfl
                  simp +decide only [qX2_readFact_0, qX2_readFact_1, lx L3, lz L3 hz, G3.2.1, am_w1_i, am_w1_r, am_w1_x, am_w1_l, am_w1_w, va_rf_s, am_push_n, am_push_s, am_cs_0, am_cs_i, am_cs_l, am_cs_r, m_uI_K, m_uI_N, m_uI_R, m_uI_L, m_uI_I, m_uL_K, m_uL_N, m_uL_R, m_uL_I, m_uL_L, m_uR_K, m_uR_N, m_uR_I, m_uR_L, m_uR_R, true_and, and_true, true_implies, false_implies, not_true_eq_false, not_false_eq_true, if_true, if_false, false_and, and_false]
                  refine g_emit (d + 11) x t3 a c3 (u' :: u :: vs) M3 _ hz hn G3 (by omega) hop.1 (fun M4 g4 G4 => ?_)
                  rw [hop.2] at G4
                  have h9 := good M4 t3 _ (c3 + 1) x hf2' (gF_trans g1 (gF_trans (sRd_P g2) (gF_trans (sPz_le g3 hc1) (sPz_le g4 (by omega))))) G4 (fun e => jn_01 hc3) (by omega) (by omega)
                  simp +decide only [qX2_readFact_0, qX2_readFact_1, lx G4.1, lz G4.1 hz, G4.2.1, b01, am_w1_i, am_w1_r, am_w1_x, am_w1_l, am_w1_w, va_rf_s, am_push_n, am_push_s, am_cs_0, am_cs_i, am_cs_l, am_cs_r, m_uI_K, m_uI_N, m_uI_R, m_uI_L, m_uI_I, m_uL_K, m_uL_N, m_uL_R, m_uL_I, m_uL_L, m_uR_K, m_uR_N, m_uR_I, m_uR_L, m_uR_R, true_and, and_true, true_implies, false_implies, not_true_eq_false, not_false_eq_true, if_true, if_false, false_and, and_false] at h9 ⊢
                  exact h9
      rw [hX2_readFact_4]
      simp +decide only [qX2_readFact_0, qX2_readFact_1, lx hL, s91, am_w1_i, am_w1_r, am_w1_x, am_w1_l, am_w1_w, va_rf_s, am_push_n, am_push_s, am_cs_0, am_cs_i, am_cs_l, am_cs_r, m_uI_K, m_uI_N, m_uI_R, m_uI_L, m_uI_I, m_uL_K, m_uL_N, m_uL_R, m_uL_I, m_uL_L, m_uR_K, m_uR_N, m_uR_I, m_uR_L, m_uR_R, true_and, and_true, true_implies, false_implies, not_true_eq_false, not_false_eq_true, if_true, if_false, false_and, and_false] at main ⊢
      by_cases c18 : (1800 : Int32) ≤ nI turn
      · rw [br_p c18]
        exact main
      · rw [br_n c18, br_p h21]
        exact main
theorem g_fact (hz : z = 2 ∨ z = 83) (hn : n ≤ 1800) (f : Nat) (h5 : ∀ f', f' < f → HP T n z 5 22 0 5 f') (h0 : ∀ f', f' < f → HP T n z 0 26 3 2 f') : HP T n z 9 24 2 3 f := by
  intro D o t v0 a c vs M Q res ho hD hG hl hp hQ
  rw [eX2_readFact]
  simp +decide only [qX2_readFact_0, qX2_readFact_1, am_w1_i, am_w1_r, am_w1_x, am_w1_l, am_w1_w, va_rf_s, am_push_n, am_push_s, am_cs_0, am_cs_i, am_cs_l, am_cs_r, m_uI_K, m_uI_N, m_uI_R, m_uI_L, m_uI_I, m_uL_K, m_uL_N, m_uL_R, m_uL_I, m_uL_L, m_uR_K, m_uR_N, m_uR_I, m_uR_L, m_uR_R, true_and, and_true, true_implies, false_implies, not_true_eq_false, not_false_eq_true, if_true, if_false, false_and, and_false]
  refine g_factL hz hn f h5 h0 f (Nat.le_refl _) D o t v0 a c vs M Q res 0 false ho hD hG hl (Nat.zero_le _) (fun q => by cases q) hp (fun M1 P1 => hQ M1 ?_)
  cases res with
  | inl e => exact P1
  | inr q =>
    obtain ⟨g1, c1, G1, hc1, hc1'⟩ : gF (sPz z c) nT M M1 ∧ ∃ c', GoX T n z M1 a c' (q.2 :: vs) q.1 ∧ c ≤ c' ∧ c' + tS t ≤ c + tS q.1 + 0 := P1
    exact ⟨g1, c1, G1, hc1, hc1'⟩
end
