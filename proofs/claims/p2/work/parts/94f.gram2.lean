/-! the class's parser: sums -/
section
variable {T : Nat → Nat} {n z : Nat}
theorem f_sumL (d : Nat) (o x : Int32) (v3 : Value) (e : Nat × Nat) (M : am_M) (Q : Option Value → am_M → Prop) (hL : Lay M) (hF : FaX M z T n e) (h0 : Q none M) : am_P am_P0 (d + 1) (am_look tX2_readSum) 7 [.ref 164, .int o, .int x, v3] [] M Q := by
  have hst : StR M T n (.inl e) := hF.1
  have s1 := fun Q => c_x_isSign d n 43 T (.inl e) M Q hL (by omega) hst
  have s2 := fun Q => c_x_isSign d n 45 T (.inl e) M Q hL (by omega) hst
  rw [show nI 43 = (43 : Int32) from rfl] at s1
  rw [show nI 45 = (45 : Int32) from rfl] at s2
  rw [hX2_readSum_7]
  simp +decide only [qX2_readSum, lx hL, s1, s2, isSr, b01, am_w1_i, am_w1_r, am_w1_x, am_w1_l, am_w1_w, va_rf_s, am_push_n, am_push_s, am_cs_0, am_cs_i, am_cs_l, am_cs_r, m_uI_K, m_uI_N, m_uI_R, m_uI_L, m_uI_I, m_uL_K, m_uL_N, m_uL_R, m_uL_I, m_uL_L, m_uR_K, m_uR_N, m_uR_I, m_uR_L, m_uR_R, true_and, and_true, true_implies, false_implies, not_true_eq_false, not_false_eq_true, if_true, if_false, false_and, and_false]
  exact ⟨fun _ => h0, fun _ => h0⟩
theorem f_prodL (d : Nat) (o x : Int32) (v3 : Value) (e : Nat × Nat) (M : am_M) (Q : Option Value → am_M → Prop) (hL : Lay M) (hF : FaX M z T n e) (h0 : Q none M) : am_P am_P0 (d + 2) (am_look tX2_readProduct) 7 [.ref 164, .int o, .int x, v3] [] M Q := by
  rw [hX2_readProduct_7]
  simp +decide only [qX2_readProduct, lx hL, f_times d e M _ hL hF, am_w1_i, am_w1_r, am_w1_x, am_w1_l, am_w1_w, va_rf_s, am_push_n, am_push_s, am_cs_0, am_cs_i, am_cs_l, am_cs_r, m_uI_K, m_uI_N, m_uI_R, m_uI_L, m_uI_I, m_uL_K, m_uL_N, m_uL_R, m_uL_I, m_uL_L, m_uR_K, m_uR_N, m_uR_I, m_uR_L, m_uR_R, true_and, and_true, true_implies, false_implies, not_true_eq_false, not_false_eq_true, if_true, if_false, false_and, and_false]
  exact ⟨fun _ => h0, fun _ => h0⟩
theorem f_bothL (d : Nat) (o x : Int32) (e : Nat × Nat) (M : am_M) (Q : Option Value → am_M → Prop) (hL : Lay M) (hF : FaX M z T n e) (h0 : Q none M) : am_P am_P0 d (am_look tX2_readBoth) 7 [.ref 164, .int o, .int x] [] M Q := by
  have h6 : mI M 165 6 = -1 := hF.1.2.2.2.2.2.2
  rw [hX2_readBoth_7]
  simp +decide only [qX2_readBoth, lx hL, h6, am_w1_i, am_w1_r, am_w1_x, am_w1_l, am_w1_w, va_rf_s, am_push_n, am_push_s, am_cs_0, am_cs_i, am_cs_l, am_cs_r, m_uI_K, m_uI_N, m_uI_R, m_uI_L, m_uI_I, m_uL_K, m_uL_N, m_uL_R, m_uL_I, m_uL_L, m_uR_K, m_uR_N, m_uR_I, m_uR_L, m_uR_R, true_and, and_true, true_implies, false_implies, not_true_eq_false, not_false_eq_true, if_true, if_false, false_and, and_false]
  exact ⟨fun _ => h0, fun _ => h0⟩
theorem f_testL (d : Nat) (o x : Int32) (e : Nat × Nat) (M : am_M) (Q : Option Value → am_M → Prop) (hL : Lay M) (hF : FaX M z T n e) (h0 : Q none M) : am_P am_P0 d (am_look tX2_readTest) 7 [.ref 164, .int o, .int x] [] M Q := by
  have h6 : mI M 165 6 = -1 := hF.1.2.2.2.2.2.2
  rw [hX2_readTest_7]
  simp +decide only [qX2_readTest, lx hL, h6, am_w1_i, am_w1_r, am_w1_x, am_w1_l, am_w1_w, va_rf_s, am_push_n, am_push_s, am_cs_0, am_cs_i, am_cs_l, am_cs_r, m_uI_K, m_uI_N, m_uI_R, m_uI_L, m_uI_I, m_uL_K, m_uL_N, m_uL_R, m_uL_I, m_uL_L, m_uR_K, m_uR_N, m_uR_I, m_uR_L, m_uR_R, true_and, and_true, true_implies, false_implies, not_true_eq_false, not_false_eq_true, if_true, if_false, false_and, and_false]
  exact ⟨fun _ => h0, fun _ => h0⟩
end
section
variable (T : Nat → Nat) (n z : Nat)
/-- a good state -/
def GoX (M : am_M) (a c : Nat) (vs : List Den) (t : Tok) : Prop := Lay M ∧ mR M 164 1 = some z ∧ RdX M T n t ∧ FmX M z c ∧ CdX M z a c vs ∧ c ≤ tS t
/-- how it ends -/
def PoX (a c : Nat) (vs : List Den) (t : Tok) (M M' : am_M) : Sum (Nat × Nat) (Tok × Den) → Prop
  | .inl e => gF (sFz z) nT M M' ∧ FaX M' z T n e
  | .inr q => gF (sPz z c) nT M M' ∧ ∃ c', GoX T n z M' a c' (q.2 :: vs) q.1 ∧ c ≤ c' ∧ c' + tS t ≤ c + tS q.1
/-- what a reading method does, and a loop in it -/
def HP (g y hg dg f : Nat) : Prop := ∀ (D o : Nat) (t : Tok) (v0 : Den) (a c : Nat) (vs : List Den) (M : am_M) (Q : Option Value → am_M → Prop) (res : Sum (Nat × Nat) (Tok × Den)), o ≤ 8 → 12 * (9 - o) + dg ≤ D → GoX T n z M a c vs t → vs.length ≤ 3 * o + hg → ps T n f g o t v0 = some res → (∀ M', PoX T n z a c vs t M M' res → Q none M') → am_E am_P0 D y [.ref 164, .int (nI o)] M Q
end
section
variable {T : Nat → Nat} {n z : Nat}
theorem sPz_F {M M' : am_M} {c : Nat} (h : gF (sPz z c) nT M M') : gF (sFz z) nT M M' := gF_up h (fun a j q => by unfold sPz at q; unfold sFz; omega) (fun _ _ q => q)
theorem sPz_le {M M' : am_M} {c c' : Nat} (h : gF (sPz z c') nT M M') (hc : c ≤ c') : gF (sPz z c) nT M M' := gF_up h (fun a j q => by unfold sPz at q ⊢; omega) (fun _ _ q => q)
theorem sRd_P {M M' : am_M} {c : Nat} (h : gF sRd nT M M') : gF (sPz z c) nT M M' := gF_up h (fun a j q => Or.inl q) (fun _ _ q => q)
theorem bnd_some {r : Rs} {k : Tok → Den → Rs} {res : Sum (Nat × Nat) (Tok × Den)} (h : bnd r k = some res) : (∃ e, r = some (.inl e) ∧ res = .inl e) ∨ ∃ t v, r = some (.inr (t, v)) ∧ k t v = some res := by
  unfold bnd at h
  split at h
  · cases h
  · rename_i e
    cases h
    exact Or.inl ⟨e, rfl, rfl⟩
  · rename_i q
    exact Or.inr ⟨q.1, q.2, rfl, h⟩
theorem tkG_OK {t : Tok} (h : tkG T n t) : tkOK t := fun q => h.2.2.2.2.2.2.1 q
theorem tkG_0 {t : Tok} (h : tkG T n t) (h0 : ¬ t.1 = 0) : tS t < tE t ∧ tE t ≤ n ∧ tS t < tS (tk T n (tE t)) := by
  have h1 := h.2.2.2.2.2.2.2.2 h0
  have h2 := (tk_V T n (tE t) h.1).2.1
  exact ⟨h1, h.1, by omega⟩
theorem GoX_t {M : am_M} {a c : Nat} {vs : List Den} {t : Tok} (h : GoX T n z M a c vs t) : tkG T n t := h.2.2.1.2.2.2.2.2.2.2.2.1
theorem g_step (d : Nat) (t : Tok) (k : Tok → Rs) (res : Sum (Nat × Nat) (Tok × Den)) (a c : Nat) (vs : List Den) (M : am_M) (Q : Option Value → am_M → Prop) (hz : z = 2 ∨ z = 83) (hG : GoX T n z M a c vs t) (h0 : ¬ t.1 = 0) (hk : adv T n t k = some res)
    (hF : ∀ M' e, res = .inl e → gF sRd nT M M' → FaX M' z T n e → Q none M')
    (hN : ∀ M' t1, gF sRd nT M M' → GoX T n z M' a c vs t1 → tS t + 1 ≤ tS t1 → k t1 = some res → Q none M') : am_E am_P0 (d + 1) 35 [.ref 165] M Q := by
  obtain ⟨hL, hp, hR, hf, hc, hct⟩ := id hG
  have hg0 := tkG_0 (GoX_t hG) h0
  unfold adv at hk
  refine c_x_step d n T t M Q hL hR (fun h4 M1 g1 f1 => ?_) (fun h4 M1 g1 f1 => ?_)
  · rw [if_pos h4] at hk
    cases hk
    exact hF M1 _ rfl g1 ⟨f1, by rw [g1.2.2.1 _ _ (fun q => q)]; exact hp, c, FmX_g hf g1 (fun q => by unfold sRd at q; omega)⟩
  · rw [if_neg h4] at hk
    exact hN M1 _ g1 ⟨gF_LayN g1 hL, by rw [g1.2.2.1 _ _ (fun q => q)]; exact hp, f1, FmX_g hf g1 (fun q => by unfold sRd at q; omega), CdX_g hc g1 (fun j _ q => by unfold sRd at q; omega), by omega⟩ (by omega) hk
theorem g_emit (d : Nat) (x : Int32) (t : Tok) (a c : Nat) (vs : List Den) (M : am_M) (Q : Option Value → am_M → Prop) (hz : z = 2 ∨ z = 83) (hn : n ≤ 1800) (hG : GoX T n z M a c vs t) (hct : c + 1 ≤ tS t) (ho : opOK 64 (inX x) vs)
    (hN : ∀ M', gF (sPz z c) nT M M' → GoX T n z M' a (c + 1) (stD (inX x) vs) t → Q none M') : am_E am_P0 d 1 [.ref (z + 6), .int x] M Q := by
  obtain ⟨hL, hp, hR, hf, hc, -⟩ := id hG
  have hE := (GoX_t hG).1
  have hS := (GoX_t hG).2.1
  rw [c_x_emit d z c x M Q hL hz hf (by omega)]
  have g : gF (fun a j => (a = z + 7 ∧ c ≤ j) ∨ (a = z + 6 ∧ j = 1)) nT M (uI (uI M (z + 7) c x) (z + 6) 1 (nI (c + 1))) := gF_trans (gF_i _ (Or.inl ⟨rfl, Nat.le_refl _⟩)) (gF_i _ (Or.inr ⟨rfl, rfl⟩))
  exact hN _ (gF_up g (fun a j q => Or.inr q) (fun _ _ q => q)) ⟨hL, hp, RdX_g hR g (fun a j q w => by omega) (fun q => q), ⟨by rw [m_uI_I, if_pos ⟨rfl, rfl⟩], by omega⟩, CdX_e x hc ho, hct⟩
theorem op_bin {x : Int32} {op : Nat} {v w : Den} {r : List Den} (hx : inX x = (op, 0)) (h1 : 10 ≤ op) (h2 : op ≤ 19) (hv : bdS v) (hw : bdS w) : opOK 64 (inX x) (w :: v :: r) ∧ stD (inX x) (w :: v :: r) = jnD op v w :: r := by
  rw [hx]
  refine ⟨⟨fun q => by dsimp only at q; omega, fun q => by dsimp only at q; omega, fun _ _ => ⟨w, v, r, rfl, hv, hw⟩, fun q => by dsimp only at q; omega, by show op ≤ 22; omega⟩, ?_⟩
  unfold stD
  rw [if_neg (by show ¬ op < 10; omega)]
  exact app_2 (by omega) v w r
theorem op_log {x : Int32} {op : Nat} {v w : Den} {r : List Den} (hx : inX x = (op, 0)) (h1 : op = 20 ∨ op = 21) (hv : bdT v) (hw : bdT w) : opOK 64 (inX x) (w :: v :: r) ∧ stD (inX x) (w :: v :: r) = jnD op v w :: r := by
  rw [hx]
  refine ⟨⟨fun q => by dsimp only at q; omega, fun q => by dsimp only at q; omega, fun _ q => by dsimp only at q; omega, fun _ => ⟨w, v, r, rfl, hv, hw⟩, by show op ≤ 22; omega⟩, ?_⟩
  unfold stD
  rw [if_neg (by show ¬ op < 10; omega)]
  exact app_2 (by omega) v w r
theorem op_leaf {x : Int32} {u : Den} {vs : List Den} (h1 : (inX x).1 < 10) (h2 : ldD (inX x) = u) (hu : bdS u) (hl : vs.length < 64) : opOK 64 (inX x) vs ∧ stD (inX x) vs = u :: vs := by
  refine ⟨⟨fun _ => ⟨hl, by rw [h2]; exact hu⟩, fun q => by omega, fun q => by omega, fun q => by omega, by omega⟩, ?_⟩
  unfold stD
  rw [if_pos h1, h2]
theorem c_addOp (x : Int32) (d : Nat) (t : Tok) (M : am_M) (Q : Option Value → am_M → Prop) (hL : Lay M) (hR : RdX M T n t) : (am_E am_P0 d 40 [.ref 165, .int 43] M Q ↔ Q (some (.int (b01 (isS t 43)))) M) ∧ (am_E am_P0 d 40 [.ref 165, .int 45] M Q ↔ Q (some (.int (b01 (isS t 45)))) M) := by
  have hst : StR M T n (.inr t) := hR
  exact ⟨c_x_isSign d n 43 T (.inr t) M Q hL (by omega) hst, c_x_isSign d n 45 T (.inr t) M Q hL (by omega) hst⟩
/-- the rest of a sum -/
theorem g_sumL (hz : z = 2 ∨ z = 83) (hn : n ≤ 1800) (f : Nat) (h2 : ∀ f', f' < f → HP T n z 2 27 4 1 f') : ∀ (f1 : Nat), f1 ≤ f → ∀ (D o : Nat) (t : Tok) (v : Den) (a c : Nat) (vs : List Den) (M : am_M) (Q : Option Value → am_M → Prop) (res : Sum (Nat × Nat) (Tok × Den)) (turn : Nat) (v3 : Value), o ≤ 8 → 12 * (9 - o) + 2 ≤ D → GoX T n z M a c (v :: vs) t → vs.length ≤ 3 * o + 3 → bdS v → turn ≤ tS t → ps T n f1 1 o t v = some res → (∀ M', PoX T n z a c vs t M M' res → Q none M') → am_P am_P0 D (am_look tX2_readSum) 7 [.ref 164, .int (nI o), .int (nI turn), v3] [] M Q := by
  intro f1
  induction f1 with
  | zero => intro _ D o t v a c vs M Q res turn v3 _ _ _ _ _ _ h; cases h
  | succ f1 ih =>
    intro hf1 D o t v a c vs M Q res turn v3 ho hD hG hl hv htu hp hQ
    obtain ⟨d, rfl⟩ : ∃ d, D = d + 12 := ⟨D - 12, by omega⟩
    obtain ⟨hL, hpa, hR, hf, hc, hct⟩ := id hG
    have hsz := GoX_t hG
    rw [ps_1] at hp
    have hnt : tS t ≤ n := by have := hsz.1; have := hsz.2.1; omega
    have s1 := fun Q => (c_addOp (T := T) (n := n) 0 (d + 11) t M Q hL hR).1
    have s2 := fun Q => (c_addOp (T := T) (n := n) 0 (d + 11) t M Q hL hR).2
    by_cases ha : addOp t = 0
    · rw [if_pos ha] at hp
      cases hp
      have h0 := hQ M ⟨gF_refl _ _ _, c, hG, Nat.le_refl _, Nat.le_refl _⟩
      have e1 : isS t 43 = false := by
        unfold addOp at ha
        by_cases c1 : isS t 43 = true
        · rw [if_pos c1] at ha; cases ha
        · simpa using c1
      have e2 : isS t 45 = false := by
        unfold addOp at ha
        rw [e1, if_neg (by decide)] at ha
        by_cases c1 : isS t 45 = true
        · rw [if_pos c1] at ha; cases ha
        · simpa using c1
      rw [hX2_readSum_7]
      simp +decide only [qX2_readSum, lx hL, s1, s2, e1, e2, b01, am_w1_i, am_w1_r, am_w1_x, am_w1_l, am_w1_w, va_rf_s, am_push_n, am_push_s, am_cs_0, am_cs_i, am_cs_l, am_cs_r, m_uI_K, m_uI_N, m_uI_R, m_uI_L, m_uI_I, m_uL_K, m_uL_N, m_uL_R, m_uL_I, m_uL_L, m_uR_K, m_uR_N, m_uR_I, m_uR_L, m_uR_R, true_and, and_true, true_implies, false_implies, not_true_eq_false, not_false_eq_true, if_true, if_false, false_and, and_false]
      exact ⟨fun _ => h0, fun _ => h0⟩
    · rw [if_neg ha] at hp
      have h3 := add_s ha
      have ht0 : ¬ t.1 = 0 := by omega
      have hz0 := tkG_0 hsz ht0
      have hlt : ¬ (1800 : Int32) ≤ nI turn := by rw [show (1800 : Int32) = nI 1800 from rfl, ni_le (by omega) (by omega)]; omega
      -- the sign and what it means
      have main : ∀ x : Int32, inX x = (addOp t, 0) → am_E am_P0 (d + 11) 35 [.ref 165] M (fun r M2 => am_P am_P0 (d + 12) (am_look tX2_readSum) 65 [.ref 164, .int (nI o), .int (nI turn), .int x] (am_push r []) M2 Q) := by
        intro x hx
        refine g_step (d + 10) t _ res a c (v :: vs) M _ hz hG ht0 hp (fun M1 e he g1 F1 => ?_) (fun M1 t1 g1 G1 hs1 hk1 => ?_)
        · have L1 := gF_LayN g1 hL
          simp +decide only [qX2_readSum, lx L1, am_w1_i, am_w1_r, am_w1_x, am_w1_l, am_w1_w, va_rf_s, am_push_n, am_push_s, am_cs_0, am_cs_i, am_cs_l, am_cs_r, m_uI_K, m_uI_N, m_uI_R, m_uI_L, m_uI_I, m_uL_K, m_uL_N, m_uL_R, m_uL_I, m_uL_L, m_uR_K, m_uR_N, m_uR_I, m_uR_L, m_uR_R, true_and, and_true, true_implies, false_implies, not_true_eq_false, not_false_eq_true, if_true, if_false, false_and, and_false]
          refine f_prod (d + 8) (nI o) e M1 _ L1 hz F1 (fun M2 g2 F2 => ?_)
          have L2 := gF_LayN g2 L1
          simp +decide only [qX2_readSum, lx L2, lz L2 hz, F2.2.1, am_w1_i, am_w1_r, am_w1_x, am_w1_l, am_w1_w, va_rf_s, am_push_n, am_push_s, am_cs_0, am_cs_i, am_cs_l, am_cs_r, m_uI_K, m_uI_N, m_uI_R, m_uI_L, m_uI_I, m_uL_K, m_uL_N, m_uL_R, m_uL_I, m_uL_L, m_uR_K, m_uR_N, m_uR_I, m_uR_L, m_uR_R, true_and, and_true, true_implies, false_implies, not_true_eq_false, not_false_eq_true, if_true, if_false, false_and, and_false]
          refine f_emit (d + 11) e x M2 _ L2 hz F2 (fun M3 g3 F3 => ?_)
          simp +decide only [qX2_readSum, am_w1_i, am_w1_r, am_w1_x, am_w1_l, am_w1_w, va_rf_s, am_push_n, am_push_s, am_cs_0, am_cs_i, am_cs_l, am_cs_r, m_uI_K, m_uI_N, m_uI_R, m_uI_L, m_uI_I, m_uL_K, m_uL_N, m_uL_R, m_uL_I, m_uL_L, m_uR_K, m_uR_N, m_uR_I, m_uR_L, m_uR_R, true_and, and_true, true_implies, false_implies, not_true_eq_false, not_false_eq_true, if_true, if_false, false_and, and_false]
          exact f_sumL (d + 11) _ _ _ e M3 Q (gF_LayN g3 L2) F3 (hQ M3 (by rw [he]; exact ⟨gF_trans (sRd_F g1) (gF_trans g2 g3), F3⟩))
        · have L1 := G1.1
          have typ2 := (ps_typ (T := T) (n := n) f1).2.2.1 o t1 v (tkG_OK (GoX_t G1))
          simp +decide only [qX2_readSum, lx L1, am_w1_i, am_w1_r, am_w1_x, am_w1_l, am_w1_w, va_rf_s, am_push_n, am_push_s, am_cs_0, am_cs_i, am_cs_l, am_cs_r, m_uI_K, m_uI_N, m_uI_R, m_uI_L, m_uI_I, m_uL_K, m_uL_N, m_uL_R, m_uL_I, m_uL_L, m_uR_K, m_uR_N, m_uR_I, m_uR_L, m_uR_R, true_and, and_true, true_implies, false_implies, not_true_eq_false, not_false_eq_true, if_true, if_false, false_and, and_false]
          rcases bnd_some hk1 with ⟨e, he1, he2⟩ | ⟨t2, v2, he1, he2⟩
          · refine h2 f1 (by omega) (d + 11) o t1 v a c (v :: vs) M1 _ _ ho (by omega) G1 (by rw [List.length_cons]; omega) he1 (fun M2 P2 => ?_)
            obtain ⟨g2, F2⟩ : gF (sFz z) nT M1 M2 ∧ FaX M2 z T n e := P2
            have L2 := gF_LayN g2 L1
            simp +decide only [qX2_readSum, lx L2, lz L2 hz, F2.2.1, am_w1_i, am_w1_r, am_w1_x, am_w1_l, am_w1_w, va_rf_s, am_push_n, am_push_s, am_cs_0, am_cs_i, am_cs_l, am_cs_r, m_uI_K, m_uI_N, m_uI_R, m_uI_L, m_uI_I, m_uL_K, m_uL_N, m_uL_R, m_uL_I, m_uL_L, m_uR_K, m_uR_N, m_uR_I, m_uR_L, m_uR_R, true_and, and_true, true_implies, false_implies, not_true_eq_false, not_false_eq_true, if_true, if_false, false_and, and_false]
            refine f_emit (d + 11) e x M2 _ L2 hz F2 (fun M3 g3 F3 => ?_)
            simp +decide only [qX2_readSum, am_w1_i, am_w1_r, am_w1_x, am_w1_l, am_w1_w, va_rf_s, am_push_n, am_push_s, am_cs_0, am_cs_i, am_cs_l, am_cs_r, m_uI_K, m_uI_N, m_uI_R, m_uI_L, m_uI_I, m_uL_K, m_uL_N, m_uL_R, m_uL_I, m_uL_L, m_uR_K, m_uR_N, m_uR_I, m_uR_L, m_uR_R, true_and, and_true, true_implies, false_implies, not_true_eq_false, not_false_eq_true, if_true, if_false, false_and, and_false]
            exact f_sumL (d + 11) _ _ _ e M3 Q (gF_LayN g3 L2) F3 (hQ M3 (by rw [he2]; exact ⟨gF_trans (sRd_F g1) (gF_trans g2 g3), F3⟩))
          · refine h2 f1 (by omega) (d + 11) o t1 v a c (v :: vs) M1 _ _ ho (by omega) G1 (by rw [List.length_cons]; omega) he1 (fun M2 P2 => ?_)
            obtain ⟨g2, c2, G2, hc2, hc2'⟩ : gF (sPz z c) nT M1 M2 ∧ ∃ c', GoX T n z M2 a c' (v2 :: v :: vs) t2 ∧ c ≤ c' ∧ c' + tS t1 ≤ c + tS t2 := P2
            have L2 := G2.1
            have hb2 := (typ2 t2 v2 he1).2
            have hop := op_bin (r := vs) hx (by have := add_2 ha; omega) (by have := add_2 ha; omega) hv hb2
            have hbj : bdS (jnD (addOp t) v v2) := jnD_bd (by have := add_2 ha; omega) hv hb2
            simp +decide only [qX2_readSum, lx L2, lz L2 hz, G2.2.1, am_w1_i, am_w1_r, am_w1_x, am_w1_l, am_w1_w, va_rf_s, am_push_n, am_push_s, am_cs_0, am_cs_i, am_cs_l, am_cs_r, m_uI_K, m_uI_N, m_uI_R, m_uI_L, m_uI_I, m_uL_K, m_uL_N, m_uL_R, m_uL_I, m_uL_L, m_uR_K, m_uR_N, m_uR_I, m_uR_L, m_uR_R, true_and, and_true, true_implies, false_implies, not_true_eq_false, not_false_eq_true, if_true, if_false, false_and, and_false]
            refine g_emit (d + 11) x t2 a c2 (v2 :: v :: vs) M2 _ hz hn G2 (by omega) hop.1 (fun M3 g3 G3 => ?_)
            rw [hop.2] at G3
            simp +decide only [qX2_readSum, ni_add1, am_w1_i, am_w1_r, am_w1_x, am_w1_l, am_w1_w, va_rf_s, am_push_n, am_push_s, am_cs_0, am_cs_i, am_cs_l, am_cs_r, m_uI_K, m_uI_N, m_uI_R, m_uI_L, m_uI_I, m_uL_K, m_uL_N, m_uL_R, m_uL_I, m_uL_L, m_uR_K, m_uR_N, m_uR_I, m_uR_L, m_uR_R, true_and, and_true, true_implies, false_implies, not_true_eq_false, not_false_eq_true, if_true, if_false, false_and, and_false]
            refine ih (by omega) (d + 12) o t2 _ a (c2 + 1) vs M3 Q res (turn + 1) _ ho hD G3 hl hbj (by omega) he2 (fun M4 P4 => hQ M4 ?_)
            have G13 : gF (sPz z c) nT M M3 := gF_trans (sRd_P g1) (gF_trans g2 (sPz_le g3 hc2))
            cases res with
            | inl e => exact ⟨gF_trans (sPz_F G13) P4.1, P4.2⟩
            | inr q =>
              obtain ⟨g4, c4, G4, hc4, hc4'⟩ : gF (sPz z (c2 + 1)) nT M3 M4 ∧ ∃ c', GoX T n z M4 a c' (q.2 :: vs) q.1 ∧ c2 + 1 ≤ c' ∧ c' + tS t2 ≤ c2 + 1 + tS q.1 := P4
              exact ⟨gF_trans G13 (sPz_le g4 (by omega)), c4, G4, by omega, by omega⟩
      rw [hX2_readSum_7]
      by_cases c1 : isS t 43 = true
      · have hx : inX (-6) = (addOp t, 0) := by unfold addOp; rw [if_pos c1]; rfl
        have h0 := main (-6) hx
        simp +decide only [qX2_readSum, lx hL, s1, s2, c1, b01, am_w1_i, am_w1_r, am_w1_x, am_w1_l, am_w1_w, va_rf_s, am_push_n, am_push_s, am_cs_0, am_cs_i, am_cs_l, am_cs_r, m_uI_K, m_uI_N, m_uI_R, m_uI_L, m_uI_I, m_uL_K, m_uL_N, m_uL_R, m_uL_I, m_uL_L, m_uR_K, m_uR_N, m_uR_I, m_uR_L, m_uR_R, true_and, and_true, true_implies, false_implies, not_true_eq_false, not_false_eq_true, if_true, if_false, false_and, and_false] at h0 ⊢
        rw [br_n hlt]
        exact h0
      · have c1' : isS t 43 = false := by simpa using c1
        have c2 : isS t 45 = true := by
          unfold addOp at ha
          rw [if_neg c1] at ha
          by_cases c2 : isS t 45 = true
          · exact c2
          · rw [if_neg c2] at ha; exact absurd rfl ha
        have hx : inX (-7) = (addOp t, 0) := by unfold addOp; rw [if_neg c1, if_pos c2]; rfl
        have h0 := main (-7) hx
        simp +decide only [qX2_readSum, lx hL, s1, s2, c1', c2, b01, am_w1_i, am_w1_r, am_w1_x, am_w1_l, am_w1_w, va_rf_s, am_push_n, am_push_s, am_cs_0, am_cs_i, am_cs_l, am_cs_r, m_uI_K, m_uI_N, m_uI_R, m_uI_L, m_uI_I, m_uL_K, m_uL_N, m_uL_R, m_uL_I, m_uL_L, m_uR_K, m_uR_N, m_uR_I, m_uR_L, m_uR_R, true_and, and_true, true_implies, false_implies, not_true_eq_false, not_false_eq_true, if_true, if_false, false_and, and_false] at h0 ⊢
        rw [br_n hlt]
        exact h0
theorem g_sum (hz : z = 2 ∨ z = 83) (hn : n ≤ 1800) (f : Nat) (h2 : ∀ f', f' < f → HP T n z 2 27 4 1 f') : HP T n z 0 26 3 2 f := by
  intro D o t v0 a c vs M Q res ho hD hG hl hp hQ
  cases f with
  | zero => cases hp
  | succ f =>
    obtain ⟨d, rfl⟩ : ∃ d, D = d + 12 := ⟨D - 12, by omega⟩
    rw [ps_0] at hp
    have hL := hG.1
    rw [eX2_readSum]
    simp +decide only [qX2_readSum, lx hL, am_w1_i, am_w1_r, am_w1_x, am_w1_l, am_w1_w, va_rf_s, am_push_n, am_push_s, am_cs_0, am_cs_i, am_cs_l, am_cs_r, m_uI_K, m_uI_N, m_uI_R, m_uI_L, m_uI_I, m_uL_K, m_uL_N, m_uL_R, m_uL_I, m_uL_L, m_uR_K, m_uR_N, m_uR_I, m_uR_L, m_uR_R, true_and, and_true, true_implies, false_implies, not_true_eq_false, not_false_eq_true, if_true, if_false, false_and, and_false]
    rcases bnd_some hp with ⟨e, he1, he2⟩ | ⟨t1, v1, he1, he2⟩
    · refine h2 f (by omega) (d + 11) o t v0 a c vs M _ _ ho (by omega) hG (by omega) he1 (fun M1 P1 => ?_)
      obtain ⟨g1, F1⟩ : gF (sFz z) nT M M1 ∧ FaX M1 z T n e := P1
      simp +decide only [qX2_readSum, am_w1_i, am_w1_r, am_w1_x, am_w1_l, am_w1_w, va_rf_s, am_push_n, am_push_s, am_cs_0, am_cs_i, am_cs_l, am_cs_r, m_uI_K, m_uI_N, m_uI_R, m_uI_L, m_uI_I, m_uL_K, m_uL_N, m_uL_R, m_uL_I, m_uL_L, m_uR_K, m_uR_N, m_uR_I, m_uR_L, m_uR_R, true_and, and_true, true_implies, false_implies, not_true_eq_false, not_false_eq_true, if_true, if_false, false_and, and_false]
      exact f_sumL (d + 11) _ _ _ e M1 Q (gF_LayN g1 hL) F1 (hQ M1 (by rw [he2]; exact ⟨g1, F1⟩))
    · refine h2 f (by omega) (d + 11) o t v0 a c vs M _ _ ho (by omega) hG (by omega) he1 (fun M1 P1 => ?_)
      obtain ⟨g1, c1, G1, hc1, hc1'⟩ : gF (sPz z c) nT M M1 ∧ ∃ c', GoX T n z M1 a c' (v1 :: vs) t1 ∧ c ≤ c' ∧ c' + tS t ≤ c + tS t1 := P1
      have hb1 := ((ps_typ (T := T) (n := n) f).2.2.1 o t v0 (tkG_OK (GoX_t hG)) t1 v1 he1).2
      simp +decide only [qX2_readSum, am_w1_i, am_w1_r, am_w1_x, am_w1_l, am_w1_w, va_rf_s, am_push_n, am_push_s, am_cs_0, am_cs_i, am_cs_l, am_cs_r, m_uI_K, m_uI_N, m_uI_R, m_uI_L, m_uI_I, m_uL_K, m_uL_N, m_uL_R, m_uL_I, m_uL_L, m_uR_K, m_uR_N, m_uR_I, m_uR_L, m_uR_R, true_and, and_true, true_implies, false_implies, not_true_eq_false, not_false_eq_true, if_true, if_false, false_and, and_false]
      rw [show (0 : Int32) = nI 0 from rfl]
      refine g_sumL hz hn f (fun f' hf' => h2 f' (by omega)) f (Nat.le_refl _) (d + 12) o t1 v1 a c1 vs M1 Q res 0 _ ho hD G1 hl hb1 (Nat.zero_le _) he2 (fun M2 P2 => hQ M2 ?_)
      cases res with
      | inl e => exact ⟨gF_trans (sPz_F g1) P2.1, P2.2⟩
      | inr q =>
        obtain ⟨g4, c4, G4, hc4, hc4'⟩ : gF (sPz z c1) nT M1 M2 ∧ ∃ c', GoX T n z M2 a c' (q.2 :: vs) q.1 ∧ c1 ≤ c' ∧ c' + tS t1 ≤ c1 + tS q.1 := P2
        exact ⟨gF_trans g1 (sPz_le g4 hc1), c4, G4, by omega, by omega⟩
end
