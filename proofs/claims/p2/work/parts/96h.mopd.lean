/-! the model's formulas: an operand -/
section
variable {T : Nat → Nat} {n : Nat}
/-- what is no word of facts -/
def opT (T : Nat → Nat) (n : Nat) (t : Tok) (k ph pr : Nat) (os : List Nat) (F : List Frm) (vs : List Den) : Sum (Nat × Nat) (Mst × Bool) :=
  if isS t 40 = true then (if F.length = 8 then .inl (5, tS t) else mAdv T n t (fun t1 => (t1, (2, 0, true, 0, []) :: (k, ph, false, pr, os) :: F, vs, false)))
  else if (isW t wMin || isW t wMax) = true then
    (if (tk T n (tE t)).1 = 4 then .inl (1, tS (tk T n (tE t)))
    else if isS (tk T n (tE t)) 40 = true then (if F.length = 8 then .inl (5, tS (tk T n (tE t))) else mAdv T n (tk T n (tE t)) (fun t1 => (t1, (3, 0, true, (if isW t wMin = true then 15 else 16), []) :: (k, ph, false, pr, os) :: F, vs, false)))
    else .inl (1, tS (tk T n (tE t))))
  else match leaf t with
    | some u => mAdv T n t (fun t1 => (t1, (k, ph, false, pr, os) :: F, u :: vs, true))
    | none => .inl (1, tS t)
theorem opT_e {t : Tok} {k ph : Nat} {bg : Bool} {pr : Nat} {os : List Nat} {F : List Frm} {vs : List Den} (h : nf t k bg) : mOpd T n t k ph bg pr os F vs = opT T n t k ph pr os F vs := by
  obtain ⟨h1, h2, h3⟩ := h
  unfold mOpd opT
  rw [h1, h2, h3]
  rfl
def oX (r : Sum (Nat × Nat) (Mst × Bool)) (x : Int32) : Prop := (x = 0 ∨ x = 1) ∧ ∀ s' b, r = .inr (s', b) → x = b01 s'.2.2.2
theorem oX_f {e : Nat × Nat} {x : Int32} (h : x = 0 ∨ x = 1) : oX (.inl e) x := ⟨h, fun s' b q => by cases q⟩
theorem oX_adv {t : Tok} {S : Tok → Mst} {o : Bool} (h : ∀ t1, (S t1).2.2.2 = o) : oX (mAdv T n t S) (b01 o) := by
  refine ⟨by cases o; exact Or.inl rfl; exact Or.inr rfl, fun s' b hs => ?_⟩
  obtain ⟨-, rfl⟩ := mAdv_r hs
  rw [h]
theorem isS_n0 {t : Tok} {c : Nat} (h : isS t c = true) : ¬ t.1 = 0 := by have := (isS_1 h).1; omega
theorem isW_n0 {t : Tok} {l : List Nat} (h : isW t l = true) : ¬ t.1 = 0 := by have := (isW_1 h).1; omega
/-- a bracket, as a step -/
theorem m_opensS (d z a c k : Nat) (t : Tok) (f : Frm) (F : List Frm) (vs : List Den) (M : am_M) (Q : Option Value → am_M → Prop) (hL : Lay M) (hR : RdM M T n t) (h0 : ¬ t.1 = 0) (hP : PzM M z a c (f :: F) vs) (hF : F.length ≤ 8) (hk : k = 2 ∨ k = 5) (hc : c + sumO (f :: F) + nPr (f :: F) ≤ tS t)
    (hQ : ∀ M', gF (sFm z a) nT M M' → RsM T n M' z a (if F.length = 8 then .inl (5, tS t) else mAdv T n t (fun t1 => (t1, (k, 0, true, 0, []) :: f :: F, vs, false))) → Q none M') : am_E am_P0 (d + 2) 188 [.ref 277, .int (nI k)] M Q := by
  have hk0 := tkG_0 hR.2.2.2.2.2.2.2.2 h0
  refine m_opens d z a c k t (f :: F) vs M Q hL hR h0 hP (by simp; omega) (fun e M' g h => hQ M' (sRm_F g) ?_) (fun e q M' g h => hQ M' g ?_) (fun e q M' g h1 h2 => hQ M' g ?_)
  · rw [if_pos (by simpa using e)]; exact h
  · rw [if_neg (by simpa using e)]; unfold mAdv; rw [if_pos q]; exact h
  · rw [if_neg (by simpa using e)]
    unfold mAdv
    rw [if_neg q]
    refine ⟨c, h1, NwM_P h2 (by omega) 0, ?_⟩
    have e1 : sumO ((k, 0, true, 0, []) :: f :: F) = sumO (f :: F) := rfl
    have e2 : nPr ((k, 0, true, 0, []) :: f :: F) = nPr (f :: F) := by show nPr (f :: F) + (if k = 3 ∨ k = 4 then 1 else 0) = _; rw [if_neg (by omega)]; rfl
    dsimp only
    rw [e1, e2]
    omega
theorem m_opdT (d z a c : Nat) (t : Tok) (k ph : Nat) (pr : Nat) (os : List Nat) (F : List Frm) (vs : List Den) (x2 : Int32) (M : am_M) (Q : Option Value → am_M → Prop) (hL : Lay M) (hR : RdM M T n t) (hP : PzM M z a c ((k, ph, false, pr, os) :: F) vs) (hF : F.length ≤ 8) (hc : c + sumO ((k, ph, false, pr, os) :: F) + nPr ((k, ph, false, pr, os) :: F) ≤ tS t)
    (hQ : ∀ M' x, gF (sFm z a) nT M M' → RsM T n M' z a (opT T n t k ph pr os F vs) → oX (opT T n t k ph pr os F vs) x → Q (some (.int x)) M') : am_P am_P0 (d + 3) (am_look tX11_operand) 121 [.ref 277, .int (nI F.length), .int x2, am_x] [] M Q := by
  obtain ⟨w1, w2, w3, w4, w5, w6, w7, w8, -, -⟩ := m_words (d + 2) t M hL hR
  have s40 := m_signs (d + 2) t M hL hR 40 (by omega)
  rw [show nI 40 = (40 : Int32) from rfl] at s40
  unfold opT at hQ
  by_cases c1 : isS t 40 = true
  · rw [if_pos c1] at hQ
    simp +decide only [qX11_operand_0, qX11_operand_1, qX11_operand_2, qX11_operand_3, qX11_operand_4, lm hL, s40, c1, b01, am_w1_i, am_w1_r, am_w1_x, am_w1_l, am_w1_w, va_rf_s, am_push_n, am_push_s, am_cs_0, am_cs_i, am_cs_l, am_cs_r, m_uI_K, m_uI_N, m_uI_R, m_uI_L, m_uI_I, m_uL_K, m_uL_N, m_uL_R, m_uL_I, m_uL_L, m_uR_K, m_uR_N, m_uR_I, m_uR_L, m_uR_R, true_and, and_true, true_implies, false_implies, not_true_eq_false, not_false_eq_true, if_true, if_false, false_and, and_false]
    refine m_opensS d z a c 2 t _ F vs M _ hL hR (isS_n0 c1) hP hF (Or.inl rfl) hc (fun M1 g1 h1 => ?_)
    have h0 := hQ M1 0 g1 h1 (by
      split
      · exact oX_f (by decide)
      · exact oX_adv (o := false) (fun _ => rfl))
    simp +decide only [qX11_operand_0, qX11_operand_1, qX11_operand_2, qX11_operand_3, qX11_operand_4, am_w1_i, am_w1_r, am_w1_x, am_w1_l, am_w1_w, va_rf_s, am_push_n, am_push_s, am_cs_0, am_cs_i, am_cs_l, am_cs_r, m_uI_K, m_uI_N, m_uI_R, m_uI_L, m_uI_I, m_uL_K, m_uL_N, m_uL_R, m_uL_I, m_uL_L, m_uR_K, m_uR_N, m_uR_I, m_uR_L, m_uR_R, true_and, and_true, true_implies, false_implies, not_true_eq_false, not_false_eq_true, if_true, if_false, false_and, and_false]
    exact h0
  have c1' : isS t 40 = false := by simpa using c1
  rw [if_neg c1] at hQ
  by_cases c2 : (isW t wMin || isW t wMax) = true
  · rw [if_pos c2] at hQ
    have hn0 : ¬ t.1 = 0 := by
      rw [Bool.or_eq_true] at c2
      rcases c2 with q | q <;> exact isW_n0 q
    have hk0 := tkG_0 hR.2.2.2.2.2.2.2.2 hn0
    obtain ⟨pv, hpv⟩ : ∃ pv : Nat, pv = (if isW t wMin = true then 15 else 16) := ⟨_, rfl⟩
    rw [← hpv] at hQ
    have tail : am_P am_P0 (d + 3) (am_look tX11_operand) 174 [.ref 277, .int (nI F.length), .int x2, am_x] [.int (nI pv)] M Q := by
      simp +decide only [qX11_operand_0, qX11_operand_1, qX11_operand_2, qX11_operand_3, qX11_operand_4, lm hL, am_w1_i, am_w1_r, am_w1_x, am_w1_l, am_w1_w, va_rf_s, am_push_n, am_push_s, am_cs_0, am_cs_i, am_cs_l, am_cs_r, m_uI_K, m_uI_N, m_uI_R, m_uI_L, m_uI_I, m_uL_K, m_uL_N, m_uL_R, m_uL_I, m_uL_L, m_uR_K, m_uR_N, m_uR_I, m_uR_L, m_uR_R, true_and, and_true, true_implies, false_implies, not_true_eq_false, not_false_eq_true, if_true, if_false, false_and, and_false]
      refine m_adv (d + 1) t M _ hL hR (fun M1 g1 s1 => ?_)
      have L1 := gF_LayN g1 hL
      have P1 := PzM_R hP g1
      unfold advR at s1
      by_cases d1 : (tk T n (tE t)).1 = 4
      · rw [if_pos d1] at hQ s1
        have s1' : FtM M1 T n 1 (tS (tk T n (tE t))) := s1
        obtain ⟨p1, p2, p3⟩ := FtM_pos s1'
        have h0 := hQ M1 0 (sRm_F g1) s1 (oX_f (by decide))
        have hbl := fun x p Q => c_m_blame (d + 2) x p M1 Q L1
        have hof := fun Q => m_opensF (T := T) (n := n) (d + 1) 3 (1, tS (tk T n (tE t))) M1 Q L1 s1
        have hsg := fun Q => c_m_isSign (d + 2) 40 M1 Q L1
        rw [show nI 3 = (3 : Int32) from rfl] at hof
        simp +decide only [qX11_operand_0, qX11_operand_1, qX11_operand_2, qX11_operand_3, qX11_operand_4, lm L1, hbl, hof, hsg, p1, am_w1_i, am_w1_r, am_w1_x, am_w1_l, am_w1_w, va_rf_s, am_push_n, am_push_s, am_cs_0, am_cs_i, am_cs_l, am_cs_r, m_uI_K, m_uI_N, m_uI_R, m_uI_L, m_uI_I, m_uL_K, m_uL_N, m_uL_R, m_uL_I, m_uL_L, m_uR_K, m_uR_N, m_uR_I, m_uR_L, m_uR_R, true_and, and_true, true_implies, false_implies, not_true_eq_false, not_false_eq_true, if_true, if_false, false_and, and_false]
        rw [br_p p2]
        exact ⟨fun _ => h0, fun _ => h0⟩
      · rw [if_neg d1] at hQ s1
        have s1' : RdM M1 T n (tk T n (tE t)) := s1
        have s41 := m_signs (d + 2) (tk T n (tE t)) M1 L1 s1' 40 (by omega)
        rw [show nI 40 = (40 : Int32) from rfl] at s41
        by_cases d2 : isS (tk T n (tE t)) 40 = true
        · rw [if_pos d2] at hQ
          have hn1 := isS_n0 d2
          simp +decide only [qX11_operand_0, qX11_operand_1, qX11_operand_2, qX11_operand_3, qX11_operand_4, lm L1, s41, d2, b01, am_w1_i, am_w1_r, am_w1_x, am_w1_l, am_w1_w, va_rf_s, am_push_n, am_push_s, am_cs_0, am_cs_i, am_cs_l, am_cs_r, m_uI_K, m_uI_N, m_uI_R, m_uI_L, m_uI_I, m_uL_K, m_uL_N, m_uL_R, m_uL_I, m_uL_L, m_uR_K, m_uR_N, m_uR_I, m_uR_L, m_uR_R, true_and, and_true, true_implies, false_implies, not_true_eq_false, not_false_eq_true, if_true, if_false, false_and, and_false]
          rw [show (3 : Int32) = nI 3 from rfl]
          refine m_opens d z a c 3 (tk T n (tE t)) _ vs M1 _ L1 s1' hn1 P1 (by simp; omega) (fun e M2 g2 h2 => ?_) (fun e q M2 g2 h2 => ?_) (fun e q M2 g2 h2 h3 => ?_)
          · have e' : F.length = 8 := by simpa using e
            rw [if_pos e'] at hQ
            have h0 := hQ M2 0 (gF_trans (sRm_F g1) (sRm_F g2)) h2 (oX_f (by decide))
            simp +decide only [qX11_operand_0, qX11_operand_1, qX11_operand_2, qX11_operand_3, qX11_operand_4, lm (gF_LayN g2 L1), am_w1_i, am_w1_r, am_w1_x, am_w1_l, am_w1_w, va_rf_s, am_push_n, am_push_s, am_cs_0, am_cs_i, am_cs_l, am_cs_r, m_uI_K, m_uI_N, m_uI_R, m_uI_L, m_uI_I, m_uL_K, m_uL_N, m_uL_R, m_uL_I, m_uL_L, m_uR_K, m_uR_N, m_uR_I, m_uR_L, m_uR_R, true_and, and_true, true_implies, false_implies, not_true_eq_false, not_false_eq_true, if_true, if_false, false_and, and_false]
            rw [br_p (FtM_pos h2).2.1]
            exact h0
          · have e' : ¬ F.length = 8 := by simpa using e
            rw [if_neg e'] at hQ
            unfold mAdv at hQ
            rw [if_pos q] at hQ
            have h0 := hQ M2 0 (gF_trans (sRm_F g1) g2) h2 (oX_f (by decide))
            simp +decide only [qX11_operand_0, qX11_operand_1, qX11_operand_2, qX11_operand_3, qX11_operand_4, lm (gF_LayN g2 L1), am_w1_i, am_w1_r, am_w1_x, am_w1_l, am_w1_w, va_rf_s, am_push_n, am_push_s, am_cs_0, am_cs_i, am_cs_l, am_cs_r, m_uI_K, m_uI_N, m_uI_R, m_uI_L, m_uI_I, m_uL_K, m_uL_N, m_uL_R, m_uL_I, m_uL_L, m_uR_K, m_uR_N, m_uR_I, m_uR_L, m_uR_R, true_and, and_true, true_implies, false_implies, not_true_eq_false, not_false_eq_true, if_true, if_false, false_and, and_false]
            rw [br_p (FtM_pos h2).2.1]
            exact h0
          · have e' : ¬ F.length = 8 := by simpa using e
            rw [if_neg e'] at hQ
            have L2 := gF_LayN g2 L1
            have h47 : mI M2 277 47 = nI (F.length + 1 + 1) := h3.2.2.2.1
            have P3 := NwM_P3 h3 pv
            have g3 : gF (sFm z a) nT M2 (uI M2 309 (F.length + 1) (nI pv)) := gF_i _ (Or.inr (Or.inr ⟨by omega, by omega⟩))
            have hr3 : gF (fun b j => b = 309) nT M2 (uI M2 309 (F.length + 1) (nI pv)) := gF_i _ rfl
            have h0 := hQ (uI M2 309 (F.length + 1) (nI pv)) 0 (gF_trans (sRm_F g1) (gF_trans g2 g3)) (by
              unfold mAdv
              rw [if_neg q]
              refine ⟨c, RdM_g h2 hr3 (fun b j w1 w2 => by omega), P3, ?_⟩
              have e1 : sumO ((3, 0, true, pv, []) :: (k, ph, false, pr, os) :: F) = sumO ((k, ph, false, pr, os) :: F) := rfl
              have e2 : nPr ((3, 0, true, pv, []) :: (k, ph, false, pr, os) :: F) = nPr ((k, ph, false, pr, os) :: F) + 1 := rfl
              have hk1 := tkG_0 s1'.2.2.2.2.2.2.2.2 hn1
              dsimp only
              rw [e1, e2]
              omega) (oX_adv (o := false) (fun _ => rfl))
            simp +decide (disch := omega) only [qX11_operand_0, qX11_operand_1, qX11_operand_2, qX11_operand_3, qX11_operand_4, lm L2, h2.2.1, h47, ni_sub1, ni_in_t, ni_tn, am_w1_i, am_w1_r, am_w1_x, am_w1_l, am_w1_w, va_rf_s, am_push_n, am_push_s, am_cs_0, am_cs_i, am_cs_l, am_cs_r, m_uI_K, m_uI_N, m_uI_R, m_uI_L, m_uI_I, m_uL_K, m_uL_N, m_uL_R, m_uL_I, m_uL_L, m_uR_K, m_uR_N, m_uR_I, m_uR_L, m_uR_R, true_and, and_true, true_implies, false_implies, not_true_eq_false, not_false_eq_true, if_true, if_false, false_and, and_false]
            exact h0
        · rw [if_neg d2] at hQ
          have d2' : isS (tk T n (tE t)) 40 = false := by simpa using d2
          have hfm := FtM_0 (k := 1) s1' (by omega)
          have p2 := (FtM_pos hfm.1).2.1
          have h0 := hQ _ 0 (gF_trans (sRm_F g1) (sRm_F hfm.2)) hfm.1 (oX_f (by decide))
          have hbl := fun Q => m_blame (T := T) (n := n) (d + 2) 1 (tk T n (tE t)) M1 Q L1 s1'
          have L2 : Lay (uI (uI M1 277 8 1) 277 9 (nI (tS (tk T n (tE t))))) := L1
          have hof := fun Q => m_opensF (T := T) (n := n) (d + 1) 3 (1, tS (tk T n (tE t))) (uI (uI M1 277 8 1) 277 9 (nI (tS (tk T n (tE t))))) Q L2 hfm.1
          rw [show nI 3 = (3 : Int32) from rfl] at hof
          rw [show nI 1 = (1 : Int32) from rfl] at hbl p2 h0
          simp +decide only [qX11_operand_0, qX11_operand_1, qX11_operand_2, qX11_operand_3, qX11_operand_4, lm L1, s41, d2', b01, s1'.2.2.2.2.1, hbl, hof, am_w1_i, am_w1_r, am_w1_x, am_w1_l, am_w1_w, va_rf_s, am_push_n, am_push_s, am_cs_0, am_cs_i, am_cs_l, am_cs_r, m_uI_K, m_uI_N, m_uI_R, m_uI_L, m_uI_I, m_uL_K, m_uL_N, m_uL_R, m_uL_I, m_uL_L, m_uR_K, m_uR_N, m_uR_I, m_uR_L, m_uR_R, true_and, and_true, true_implies, false_implies, not_true_eq_false, not_false_eq_true, if_true, if_false, false_and, and_false]
          exact h0
    by_cases c3 : isW t wMin = true
    · rw [if_pos c3] at hpv
      subst hpv
      rw [show nI 15 = (15 : Int32) from rfl] at tail
      simp +decide only [qX11_operand_0, qX11_operand_1, qX11_operand_2, qX11_operand_3, qX11_operand_4, lm hL, s40, c1', w3, c3, b01, am_w1_i, am_w1_r, am_w1_x, am_w1_l, am_w1_w, va_rf_s, am_push_n, am_push_s, am_cs_0, am_cs_i, am_cs_l, am_cs_r, m_uI_K, m_uI_N, m_uI_R, m_uI_L, m_uI_I, m_uL_K, m_uL_N, m_uL_R, m_uL_I, m_uL_L, m_uR_K, m_uR_N, m_uR_I, m_uR_L, m_uR_R, true_and, and_true, true_implies, false_implies, not_true_eq_false, not_false_eq_true, if_true, if_false, false_and, and_false] at tail ⊢
      exact tail
    · rw [if_neg c3] at hpv
      subst hpv
      have c3' : isW t wMin = false := by simpa using c3
      have c4 : isW t wMax = true := by rw [c3', Bool.false_or] at c2; exact c2
      rw [show nI 16 = (16 : Int32) from rfl] at tail
      simp +decide only [qX11_operand_0, qX11_operand_1, qX11_operand_2, qX11_operand_3, qX11_operand_4, lm hL, s40, c1', w3, w4, c3', c4, b01, am_w1_i, am_w1_r, am_w1_x, am_w1_l, am_w1_w, va_rf_s, am_push_n, am_push_s, am_cs_0, am_cs_i, am_cs_l, am_cs_r, m_uI_K, m_uI_N, m_uI_R, m_uI_L, m_uI_I, m_uL_K, m_uL_N, m_uL_R, m_uL_I, m_uL_L, m_uR_K, m_uR_N, m_uR_I, m_uR_L, m_uR_R, true_and, and_true, true_implies, false_implies, not_true_eq_false, not_false_eq_true, if_true, if_false, false_and, and_false] at tail ⊢
      exact tail
  · rw [if_neg c2] at hQ
    have c2' : isW t wMin = false ∧ isW t wMax = false := by
      have := c2
      rw [Bool.not_eq_true, Bool.or_eq_false_iff] at this
      exact this
    obtain ⟨hF1, hC1, hH1, p4, p5, p6⟩ := hP
    have hlen := cdD_len hC1.2.1
    rw [hC1.2.2] at hlen
    have hcf : c ≤ 1800 := hF1.2.1
    have tailL : ∀ (s : Nat) (u : Den), s ≤ 4 → ldD (s, (mI M 277 6).toInt) = u → leaf t = some u → am_P am_P0 (d + 3) (am_look tX11_operand) 292 [.ref 277, .int (nI F.length), .int x2, am_x] [.int (nI s)] M Q := by
      intro s u hs hu hl
      rw [hl] at hQ
      have hn0 := leaf_k hl
      have hk0 := tkG_0 hR.2.2.2.2.2.2.2.2 hn0
      have hcl : c < 1800 := by have := hR.1.2.1; omega
      have hbd := leaf_bd (tkG_OK hR.2.2.2.2.2.2.2.2) hl
      have hadd := fun Q => m_add (d + 2) z c (nI s) (mI M 277 6) M Q hL hF1 hcl
      have hz : uW (nI s) = s := uW_n (by omega) (by omega)
      have hne : ¬ nI s = -1 := by
        intro q
        have := congrArg Int32.toInt q
        rw [ni_ti (by omega)] at this
        have e : (-1 : Int32).toInt = -1 := by decide
        omega
      have hop : opOK 1850 (s, (mI M 277 6).toInt) vs := ⟨fun _ => ⟨by omega, by rw [hu]; exact hbd⟩, fun q => by dsimp only at q; omega, fun q => by dsimp only at q; omega, fun q => by dsimp only at q; omega, by dsimp only; omega⟩
      have hC2 := CdM_e (nI s) (mI M 277 6) hcl hC1 (by rw [hz]; exact hop)
      rw [hz] at hC2
      have est : stD (s, (mI M 277 6).toInt) vs = u :: vs := by unfold stD; rw [if_pos (by dsimp only; omega), hu]
      rw [est] at hC2
      have ga : gF (fun b j => (b = 304 ∨ b = 305) ∨ (b = 277 ∧ j = 40)) nT M (addM M z c (nI s) (mI M 277 6)) := gF_trans (gF_i _ (Or.inl (Or.inl rfl))) (gF_trans (gF_i _ (Or.inl (Or.inr rfl))) (gF_i _ (Or.inr ⟨rfl, rfl⟩)))
      have P2 : PzM (addM M z c (nI s) (mI M 277 6)) z a (c + 1) ((k, ph, false, pr, os) :: F) (u :: vs) := by
        exact ⟨FmM_e hF1 hcl, hC2, HpM_g ga _ hH1 (fun b j q1 q2 _ w => by omega) (fun j _ w => by omega), by rw [ga.1 _ _ (by omega)]; exact p4, by rw [ga.1 _ _ (by omega)]; exact p5, by rw [ga.1 _ _ (by omega)]; exact p6⟩
      have R2 : RdM (addM M z c (nI s) (mI M 277 6)) T n t := RdM_g hR ga (fun b j q w => by omega)
      have L2 : Lay (addM M z c (nI s) (mI M 277 6)) := gF_LayN ga hL
      simp +decide only [qX11_operand_0, qX11_operand_1, qX11_operand_2, qX11_operand_3, qX11_operand_4, lm hL, lm L2, hR.2.1, hadd, am_w1_i, am_w1_r, am_w1_x, am_w1_l, am_w1_w, va_rf_s, am_push_n, am_push_s, am_cs_0, am_cs_i, am_cs_l, am_cs_r, m_uI_K, m_uI_N, m_uI_R, m_uI_L, m_uI_I, m_uL_K, m_uL_N, m_uL_R, m_uL_I, m_uL_L, m_uR_K, m_uR_N, m_uR_I, m_uR_L, m_uR_R, true_and, and_true, true_implies, false_implies, not_true_eq_false, not_false_eq_true, if_true, if_false, false_and, and_false]
      rw [br_q hne]
      refine m_advS (d + 1) z a (c + 1) t _ (u :: vs) true _ _ L2 R2 hn0 P2 (by omega) (fun M3 g3 _ h3 => ?_)
      have h0 := hQ M3 1 (gF_trans (gF_add hC1.1 hcl) (sRm_F g3)) h3 (oX_adv (o := true) (fun _ => rfl))
      simp +decide only [qX11_operand_0, qX11_operand_1, qX11_operand_2, qX11_operand_3, qX11_operand_4, am_w1_i, am_w1_r, am_w1_x, am_w1_l, am_w1_w, va_rf_s, am_push_n, am_push_s, am_cs_0, am_cs_i, am_cs_l, am_cs_r, m_uI_K, m_uI_N, m_uI_R, m_uI_L, m_uI_I, m_uL_K, m_uL_N, m_uL_R, m_uL_I, m_uL_L, m_uR_K, m_uR_N, m_uR_I, m_uR_L, m_uR_R, true_and, and_true, true_implies, false_implies, not_true_eq_false, not_false_eq_true, if_true, if_false, false_and, and_false]
      exact h0
    have h3 := RdM_3 hR 2 (by omega)
    rw [show nI 2 = (2 : Int32) from rfl] at h3
    by_cases l2 : t.1 = 2
    · have h6 := hR.2.2.2.2.2.2.1 (Or.inl l2)
      have hv := hR.2.2.2.2.2.2.2.2.2.2.2.2.2.2.1 l2
      have tl := tailL 0 (fun _ => (t.2.1 : Int)) (by omega) (by rw [h6, ni_ti (by omega)]; rfl) (by unfold leaf; rw [if_pos l2])
      rw [show nI 0 = (0 : Int32) from rfl] at tl
      simp +decide only [qX11_operand_0, qX11_operand_1, qX11_operand_2, qX11_operand_3, qX11_operand_4, lm hL, s40, c1', w3, w4, c2', h3.mpr l2, b01, am_w1_i, am_w1_r, am_w1_x, am_w1_l, am_w1_w, va_rf_s, am_push_n, am_push_s, am_cs_0, am_cs_i, am_cs_l, am_cs_r, m_uI_K, m_uI_N, m_uI_R, m_uI_L, m_uI_I, m_uL_K, m_uL_N, m_uL_R, m_uL_I, m_uL_L, m_uR_K, m_uR_N, m_uR_I, m_uR_L, m_uR_R, true_and, and_true, true_implies, false_implies, not_true_eq_false, not_false_eq_true, if_true, if_false, false_and, and_false] at tl ⊢
      exact tl
    · have n2 : ¬ mI M 277 3 = 2 := fun q => l2 (h3.mp q)
      simp +decide only [qX11_operand_0, qX11_operand_1, qX11_operand_2, qX11_operand_3, qX11_operand_4, lm hL, s40, c1', w3, w4, c2', b01, am_w1_i, am_w1_r, am_w1_x, am_w1_l, am_w1_w, va_rf_s, am_push_n, am_push_s, am_cs_0, am_cs_i, am_cs_l, am_cs_r, m_uI_K, m_uI_N, m_uI_R, m_uI_L, m_uI_I, m_uL_K, m_uL_N, m_uL_R, m_uL_I, m_uL_L, m_uR_K, m_uR_N, m_uR_I, m_uR_L, m_uR_R, true_and, and_true, true_implies, false_implies, not_true_eq_false, not_false_eq_true, if_true, if_false, false_and, and_false]
      rw [br_q n2]
      by_cases lc : isW t wCol = true
      · have tl := tailL 1 (fun e => (e.1 : Int)) (by omega) rfl (by unfold leaf; rw [if_neg l2, if_pos lc])
        rw [show nI 1 = (1 : Int32) from rfl] at tl
        simp +decide only [qX11_operand_0, qX11_operand_1, qX11_operand_2, qX11_operand_3, qX11_operand_4, lm hL, w5, lc, b01, am_w1_i, am_w1_r, am_w1_x, am_w1_l, am_w1_w, va_rf_s, am_push_n, am_push_s, am_cs_0, am_cs_i, am_cs_l, am_cs_r, m_uI_K, m_uI_N, m_uI_R, m_uI_L, m_uI_I, m_uL_K, m_uL_N, m_uL_R, m_uL_I, m_uL_L, m_uR_K, m_uR_N, m_uR_I, m_uR_L, m_uR_R, true_and, and_true, true_implies, false_implies, not_true_eq_false, not_false_eq_true, if_true, if_false, false_and, and_false] at tl ⊢
        exact tl
      have lc' : isW t wCol = false := by simpa using lc
      by_cases lr : isW t wRow = true
      · have tl := tailL 2 (fun e => (e.2.1 : Int)) (by omega) rfl (by unfold leaf; rw [if_neg l2, if_neg lc, if_pos lr])
        rw [show nI 2 = (2 : Int32) from rfl] at tl
        simp +decide only [qX11_operand_0, qX11_operand_1, qX11_operand_2, qX11_operand_3, qX11_operand_4, lm hL, w5, w6, lc', lr, b01, am_w1_i, am_w1_r, am_w1_x, am_w1_l, am_w1_w, va_rf_s, am_push_n, am_push_s, am_cs_0, am_cs_i, am_cs_l, am_cs_r, m_uI_K, m_uI_N, m_uI_R, m_uI_L, m_uI_I, m_uL_K, m_uL_N, m_uL_R, m_uL_I, m_uL_L, m_uR_K, m_uR_N, m_uR_I, m_uR_L, m_uR_R, true_and, and_true, true_implies, false_implies, not_true_eq_false, not_false_eq_true, if_true, if_false, false_and, and_false] at tl ⊢
        exact tl
      have lr' : isW t wRow = false := by simpa using lr
      by_cases lh : isW t wHour = true
      · have tl := tailL 3 (fun e => (e.2.2.1 : Int)) (by omega) rfl (by unfold leaf; rw [if_neg l2, if_neg lc, if_neg lr, if_pos lh])
        rw [show nI 3 = (3 : Int32) from rfl] at tl
        simp +decide only [qX11_operand_0, qX11_operand_1, qX11_operand_2, qX11_operand_3, qX11_operand_4, lm hL, w5, w6, w7, lc', lr', lh, b01, am_w1_i, am_w1_r, am_w1_x, am_w1_l, am_w1_w, va_rf_s, am_push_n, am_push_s, am_cs_0, am_cs_i, am_cs_l, am_cs_r, m_uI_K, m_uI_N, m_uI_R, m_uI_L, m_uI_I, m_uL_K, m_uL_N, m_uL_R, m_uL_I, m_uL_L, m_uR_K, m_uR_N, m_uR_I, m_uR_L, m_uR_R, true_and, and_true, true_implies, false_implies, not_true_eq_false, not_false_eq_true, if_true, if_false, false_and, and_false] at tl ⊢
        exact tl
      have lh' : isW t wHour = false := by simpa using lh
      by_cases ld : isW t wDepth = true
      · have tl := tailL 4 (fun e => (e.2.2.2 : Int)) (by omega) rfl (by unfold leaf; rw [if_neg l2, if_neg lc, if_neg lr, if_neg lh, if_pos ld])
        rw [show nI 4 = (4 : Int32) from rfl] at tl
        simp +decide only [qX11_operand_0, qX11_operand_1, qX11_operand_2, qX11_operand_3, qX11_operand_4, lm hL, w5, w6, w7, w8, lc', lr', lh', ld, b01, am_w1_i, am_w1_r, am_w1_x, am_w1_l, am_w1_w, va_rf_s, am_push_n, am_push_s, am_cs_0, am_cs_i, am_cs_l, am_cs_r, m_uI_K, m_uI_N, m_uI_R, m_uI_L, m_uI_I, m_uL_K, m_uL_N, m_uL_R, m_uL_I, m_uL_L, m_uR_K, m_uR_N, m_uR_I, m_uR_L, m_uR_R, true_and, and_true, true_implies, false_implies, not_true_eq_false, not_false_eq_true, if_true, if_false, false_and, and_false] at tl ⊢
        exact tl
      have ld' : isW t wDepth = false := by simpa using ld
      have ln : leaf t = none := by unfold leaf; rw [if_neg l2, if_neg lc, if_neg lr, if_neg lh, if_neg ld]
      rw [ln] at hQ
      have hfm := FtM_0 (k := 1) hR (by omega)
      have p3 := (FtM_pos hfm.1).2.2
      have h0 := hQ _ 1 (sRm_F hfm.2) hfm.1 (oX_f (by decide))
      have hbl := fun Q => m_blame (T := T) (n := n) (d + 2) 1 t M Q hL hR
      have L2 : Lay (uI (uI M 277 8 1) 277 9 (nI (tS t))) := hL
      rw [show nI 1 = (1 : Int32) from rfl] at hbl p3 h0
      simp +decide only [qX11_operand_0, qX11_operand_1, qX11_operand_2, qX11_operand_3, qX11_operand_4, lm hL, w5, w6, w7, w8, lc', lr', lh', ld', b01, hR.2.2.2.2.1, hbl, am_w1_i, am_w1_r, am_w1_x, am_w1_l, am_w1_w, va_rf_s, am_push_n, am_push_s, am_cs_0, am_cs_i, am_cs_l, am_cs_r, m_uI_K, m_uI_N, m_uI_R, m_uI_L, m_uI_I, m_uL_K, m_uL_N, m_uL_R, m_uL_I, m_uL_L, m_uR_K, m_uR_N, m_uR_I, m_uR_L, m_uR_R, true_and, and_true, true_implies, false_implies, not_true_eq_false, not_false_eq_true, if_true, if_false, false_and, and_false]
      exact h0
theorem PzM_bg {M : am_M} {z a c k ph : Nat} {bg : Bool} {pr : Nat} {os : List Nat} {F : List Frm} {vs : List Den} (h : PzM M z a c ((k, ph, bg, pr, os) :: F) vs) : PzM (uI M 308 F.length 0) z a c ((k, ph, false, pr, os) :: F) vs := by
  have g : gF (fun b j => b = 308 ∧ j = F.length) nT M (uI M 308 F.length 0) := gF_i _ ⟨rfl, rfl⟩
  obtain ⟨p1, p2, ⟨f1, f2, f3, f4, f5, f6, f7⟩, p4, p5, p6⟩ := h
  exact ⟨FmM_g p1 g (fun j q w => by omega), CdM_g p2 g (fun b j q _ _ w => by omega), ⟨by rw [m_uI_I, if_neg (by omega)]; exact f1, by rw [m_uI_I, if_neg (by omega)]; exact f2, by rw [m_uI_I, if_pos ⟨rfl, rfl⟩]; rfl, fun q => by rw [m_uI_I, if_neg (by omega)]; exact f4 q, by rw [m_uI_I, if_neg (by omega)]; exact f5, OpM_g g os f6 (fun j _ _ w => by omega), HpM_g g F f7 (fun b j q1 q2 q3 w => by omega) (fun j _ w => by omega)⟩, by rw [m_uI_I, if_neg (by omega)]; exact p4, by rw [m_uI_I, if_neg (by omega)]; exact p5, by rw [m_uI_I, if_neg (by omega)]; exact p6⟩
theorem m_operand (d z a c : Nat) (t : Tok) (k ph : Nat) (bg : Bool) (pr : Nat) (os : List Nat) (F : List Frm) (vs : List Den) (M : am_M) (Q : Option Value → am_M → Prop) (hL : Lay M) (hR : RdM M T n t) (hP : PzM M z a c ((k, ph, bg, pr, os) :: F) vs) (hk : k ≤ 5) (hF : F.length ≤ 8) (hb : sumO F + os.length ≤ 495) (hc : c + sumO ((k, ph, bg, pr, os) :: F) + nPr ((k, ph, bg, pr, os) :: F) ≤ tS t)
    (hQ : ∀ M' x, gF (sFm z a) nT M M' → RsM T n M' z a (mOpd T n t k ph bg pr os F vs) → oX (mOpd T n t k ph bg pr os F vs) x → Q (some (.int x)) M') : am_E am_P0 (d + 3) 190 [.ref 277] M Q := by
  obtain ⟨w1, w2, -⟩ := m_words (d + 2) t M hL hR
  have hP0 := hP
  obtain ⟨p1, p2, ⟨f1, f2, f3, f4, f5, f6, f7⟩, p4, p5, p6⟩ := hP
  have hts := fun Q => m_isTest (d + 2) k M Q hk
  dsimp only at f1 f3
  have p4' : mI M 277 47 = nI (F.length + 1) := p4
  have g1 : gF (sFm z a) nT M (uI M 308 F.length 0) := gF_i _ (Or.inr (Or.inr ⟨by omega, by omega⟩))
  have r1 : gF (fun b j => b = 308) nT M (uI M 308 F.length 0) := gF_i _ rfl
  have R1 : RdM (uI M 308 F.length 0) T n t := RdM_g hR r1 (fun b j q w => by omega)
  have L1 : Lay (uI M 308 F.length 0) := hL
  have P1 := PzM_bg hP0
  obtain ⟨u1, u2, -⟩ := m_words (d + 2) t _ L1 R1
  have s91 := m_signs (d + 2) t _ L1 R1 91 (by omega)
  rw [show nI 91 = (91 : Int32) from rfl] at s91
  have tail : nf t k bg → ∀ x2, am_P am_P0 (d + 3) (am_look tX11_operand) 121 [.ref 277, .int (nI F.length), .int x2, am_x] [] (uI M 308 F.length 0) Q := fun hn x2 => by
    rw [opT_e hn] at hQ
    exact m_opdT d z a c t k ph pr os F vs x2 _ Q L1 R1 P1 hF hc (fun M' x g h1 h2 => hQ M' x (gF_trans g1 g) h1 h2)
  rw [eX11_operand]
  by_cases cf : (isTs k && bg) = true
  · have cf' := cf
    rw [Bool.and_eq_true] at cf'
    obtain ⟨ck, cb⟩ := cf'
    subst cb
    by_cases cn : isW t wNot = true
    · have em : mOpd T n t k ph true pr os F vs = mAdv T n t (fun t1 => (t1, (k, ph, true, pr, 22 :: os) :: F, vs, false)) := by
        unfold mOpd; rw [if_pos (by rw [ck, cn]; rfl)]
      rw [em] at hQ
      simp +decide (disch := omega) only [qX11_operand_0, qX11_operand_1, qX11_operand_2, qX11_operand_3, qX11_operand_4, lm hL, p4', ni_sub1, ni_in_t, ni_tn, f1, f3, hts, ck, w1, cn, b01, am_w1_i, am_w1_r, am_w1_x, am_w1_l, am_w1_w, va_rf_s, am_push_n, am_push_s, am_cs_0, am_cs_i, am_cs_l, am_cs_r, m_uI_K, m_uI_N, m_uI_R, m_uI_L, m_uI_I, m_uL_K, m_uL_N, m_uL_R, m_uL_I, m_uL_L, m_uR_K, m_uR_N, m_uR_I, m_uR_L, m_uR_R, true_and, and_true, true_implies, false_implies, not_true_eq_false, not_false_eq_true, if_true, if_false, false_and, and_false]
      rw [show (22 : Int32) = nI 22 from rfl]
      refine m_holds (d + 2) z a c 22 k ph true pr os F vs M _ hL hP0 (by omega) (by omega) (fun M2 g2 P2 => ?_)
      have L2 := gF_LayN g2 hL
      have R2 : RdM M2 T n t := RdM_g hR g2 (fun b j q w => by omega)
      have eS : sumO ((k, ph, true, pr, 22 :: os) :: F) = sumO ((k, ph, true, pr, os) :: F) + 1 := rfl
      have eN : nPr ((k, ph, true, pr, 22 :: os) :: F) = nPr ((k, ph, true, pr, os) :: F) := rfl
      simp +decide only [qX11_operand_0, qX11_operand_1, qX11_operand_2, qX11_operand_3, qX11_operand_4, lm L2, am_w1_i, am_w1_r, am_w1_x, am_w1_l, am_w1_w, va_rf_s, am_push_n, am_push_s, am_cs_0, am_cs_i, am_cs_l, am_cs_r, m_uI_K, m_uI_N, m_uI_R, m_uI_L, m_uI_I, m_uL_K, m_uL_N, m_uL_R, m_uL_I, m_uL_L, m_uR_K, m_uR_N, m_uR_I, m_uR_L, m_uR_R, true_and, and_true, true_implies, false_implies, not_true_eq_false, not_false_eq_true, if_true, if_false, false_and, and_false]
      refine m_advS (d + 1) z a c t _ vs false M2 _ L2 R2 (isW_n0 cn) P2 (by rw [eS, eN]; omega) (fun M3 g3 _ h3 => ?_)
      have h0 := hQ M3 0 (gF_trans (gF_up g2 (fun b j q => by unfold sFm; omega) (fun _ _ q => q)) (sRm_F g3)) h3 (oX_adv (o := false) (fun _ => rfl))
      simp +decide only [qX11_operand_0, qX11_operand_1, qX11_operand_2, qX11_operand_3, qX11_operand_4, am_w1_i, am_w1_r, am_w1_x, am_w1_l, am_w1_w, va_rf_s, am_push_n, am_push_s, am_cs_0, am_cs_i, am_cs_l, am_cs_r, m_uI_K, m_uI_N, m_uI_R, m_uI_L, m_uI_I, m_uL_K, m_uL_N, m_uL_R, m_uL_I, m_uL_L, m_uR_K, m_uR_N, m_uR_I, m_uR_L, m_uR_R, true_and, and_true, true_implies, false_implies, not_true_eq_false, not_false_eq_true, if_true, if_false, false_and, and_false]
      exact h0
    · have cn' : isW t wNot = false := by simpa using cn
      by_cases c9 : isS t 91 = true
      · have em : mOpd T n t k ph true pr os F vs = (if F.length = 8 then .inl (5, tS t) else mAdv T n t (fun t1 => (t1, (5, 0, true, 0, []) :: (k, ph, false, pr, os) :: F, vs, false))) := by
          unfold mOpd; rw [if_neg (by rw [ck, cn']; decide), if_pos (by rw [ck, c9]; rfl)]
        rw [em] at hQ
        simp +decide (disch := omega) only [qX11_operand_0, qX11_operand_1, qX11_operand_2, qX11_operand_3, qX11_operand_4, lm hL, p4', ni_sub1, ni_in_t, ni_tn, f1, f3, hts, ck, w1, cn', s91, c9, b01, am_w1_i, am_w1_r, am_w1_x, am_w1_l, am_w1_w, va_rf_s, am_push_n, am_push_s, am_cs_0, am_cs_i, am_cs_l, am_cs_r, m_uI_K, m_uI_N, m_uI_R, m_uI_L, m_uI_I, m_uL_K, m_uL_N, m_uL_R, m_uL_I, m_uL_L, m_uR_K, m_uR_N, m_uR_I, m_uR_L, m_uR_R, true_and, and_true, true_implies, false_implies, not_true_eq_false, not_false_eq_true, if_true, if_false, false_and, and_false]
        rw [show (5 : Int32) = nI 5 from rfl]
        refine m_opensS d z a c 5 t _ F vs _ _ L1 R1 (isS_n0 c9) P1 hF (Or.inr rfl) hc (fun M2 g2 h2 => ?_)
        have h0 := hQ M2 0 (gF_trans g1 g2) h2 (by
          split
          · exact oX_f (by decide)
          · exact oX_adv (o := false) (fun _ => rfl))
        simp +decide only [qX11_operand_0, qX11_operand_1, qX11_operand_2, qX11_operand_3, qX11_operand_4, am_w1_i, am_w1_r, am_w1_x, am_w1_l, am_w1_w, va_rf_s, am_push_n, am_push_s, am_cs_0, am_cs_i, am_cs_l, am_cs_r, m_uI_K, m_uI_N, m_uI_R, m_uI_L, m_uI_I, m_uL_K, m_uL_N, m_uL_R, m_uL_I, m_uL_L, m_uR_K, m_uR_N, m_uR_I, m_uR_L, m_uR_R, true_and, and_true, true_implies, false_implies, not_true_eq_false, not_false_eq_true, if_true, if_false, false_and, and_false]
        exact h0
      · have c9' : isS t 91 = false := by simpa using c9
        by_cases ca : isW t wAll = true
        · have em : mOpd T n t k ph true pr os F vs = mAdv T n t (fun t1 => (t1, (k, 2, false, pr, os) :: F, (fun _ => 1) :: vs, true)) := by
            unfold mOpd; rw [if_neg (by rw [ck, cn']; decide), if_neg (by rw [ck, c9']; decide), if_pos (by rw [ck, ca]; rfl)]
          rw [em] at hQ
          have hn0 := isW_n0 ca
          have hk0 := tkG_0 hR.2.2.2.2.2.2.2.2 hn0
          have hcl : c < 1800 := by have := hR.1.2.1; omega
          have hadd := fun Q => m_add (d + 2) z c 9 0 (uI M 308 F.length 0) Q L1 P1.1 hcl
          obtain ⟨v1, v2, v3, v4, v5, v6⟩ := P1
          have hlen := cdD_len v2.2.1
          rw [v2.2.2] at hlen
          have hcf : c ≤ 1800 := v1.2.1
          have hC2 := CdM_e 9 0 hcl v2 (show opOK 1850 (9, 0) vs from ⟨fun _ => ⟨by omega, fun e he => ⟨by show (-1000000 : Int) ≤ 1; omega, by show (1 : Int) ≤ 1000000; omega⟩⟩, fun q => by dsimp only at q; omega, fun q => by dsimp only at q; omega, fun q => by dsimp only at q; omega, by dsimp only; omega⟩)
          have est : stD (uW 9, (0 : Int32).toInt) vs = (fun _ => 1) :: vs := rfl
          rw [est] at hC2
          have hF2 := FmM_e (s := 9) (v := 0) v1 hcl
          have ga : gF (fun b j => (b = 304 ∨ b = 305) ∨ (b = 277 ∧ j = 40)) nT (uI M 308 F.length 0) (addM (uI M 308 F.length 0) z c 9 0) := gF_trans (gF_i _ (Or.inl (Or.inl rfl))) (gF_trans (gF_i _ (Or.inl (Or.inr rfl))) (gF_i _ (Or.inr ⟨rfl, rfl⟩)))
          have Ga : gF (sFm z a) nT (uI M 308 F.length 0) (addM (uI M 308 F.length 0) z c 9 0) := gF_add v2.1 hcl
          generalize addM (uI M 308 F.length 0) z c 9 0 = M2 at hadd hC2 hF2 ga Ga
          have L2 := gF_LayN ga L1
          have gb : gF (fun b j => b = 307 ∧ j = F.length) nT M2 (uI M2 307 F.length 2) := gF_i _ ⟨rfl, rfl⟩
          have Gb : gF (sFm z a) nT M2 (uI M2 307 F.length 2) := gF_i _ (Or.inr (Or.inr ⟨by omega, by omega⟩))
          have H2 := HpM_g ga _ v3 (fun b j q1 q2 _ w => by omega) (fun j _ w => by omega)
          obtain ⟨e1, e2, e3, e4, e5, e6, e7⟩ := H2
          have P3 : PzM (uI M2 307 F.length 2) z a (c + 1) ((k, 2, false, pr, os) :: F) ((fun _ => 1) :: vs) := ⟨FmM_g hF2 gb (fun j q w => by omega), CdM_g hC2 gb (fun b j q _ _ w => by omega), ⟨by rw [m_uI_I, if_neg (by omega)]; exact e1, by rw [m_uI_I, if_pos ⟨rfl, rfl⟩]; rfl, by rw [m_uI_I, if_neg (by omega)]; exact e3, fun q => by rw [m_uI_I, if_neg (by omega)]; exact e4 q, by rw [m_uI_I, if_neg (by omega)]; exact e5, OpM_g gb os e6 (fun j _ _ w => by omega), HpM_g gb F e7 (fun b j q1 q2 q3 w => by omega) (fun j _ w => by omega)⟩, by rw [m_uI_I, if_neg (by omega), ga.1 _ _ (by omega)]; exact v4, by rw [m_uI_I, if_neg (by omega), ga.1 _ _ (by omega)]; exact v5, by rw [m_uI_I, if_neg (by omega), ga.1 _ _ (by omega)]; exact v6⟩
          have R3 : RdM (uI M2 307 F.length 2) T n t := RdM_g (RdM_g R1 ga (fun b j q w => by omega)) gb (fun b j q w => by omega)
          have L3 : Lay (uI M2 307 F.length 2) := L2
          simp +decide (disch := omega) only [qX11_operand_0, qX11_operand_1, qX11_operand_2, qX11_operand_3, qX11_operand_4, lm hL, p4', ni_sub1, ni_in_t, ni_tn, f1, f3, hts, ck, w1, cn', s91, c9', u2, ca, hadd, lm L2, b01, am_w1_i, am_w1_r, am_w1_x, am_w1_l, am_w1_w, va_rf_s, am_push_n, am_push_s, am_cs_0, am_cs_i, am_cs_l, am_cs_r, m_uI_K, m_uI_N, m_uI_R, m_uI_L, m_uI_I, m_uL_K, m_uL_N, m_uL_R, m_uL_I, m_uL_L, m_uR_K, m_uR_N, m_uR_I, m_uR_L, m_uR_R, true_and, and_true, true_implies, false_implies, not_true_eq_false, not_false_eq_true, if_true, if_false, false_and, and_false]
          refine m_advS (d + 1) z a (c + 1) t _ _ true _ _ L3 R3 hn0 P3 (by
            have eS : sumO ((k, 2, false, pr, os) :: F) = sumO ((k, ph, true, pr, os) :: F) := rfl
            have eN : nPr ((k, 2, false, pr, os) :: F) = nPr ((k, ph, true, pr, os) :: F) := rfl
            rw [eS, eN]; omega) (fun M4 g4 _ h4 => ?_)
          have h0 := hQ M4 1 (gF_trans g1 (gF_trans Ga (gF_trans Gb (sRm_F g4)))) h4 (oX_adv (o := true) (fun _ => rfl))
          simp +decide only [qX11_operand_0, qX11_operand_1, qX11_operand_2, qX11_operand_3, qX11_operand_4, am_w1_i, am_w1_r, am_w1_x, am_w1_l, am_w1_w, va_rf_s, am_push_n, am_push_s, am_cs_0, am_cs_i, am_cs_l, am_cs_r, m_uI_K, m_uI_N, m_uI_R, m_uI_L, m_uI_I, m_uL_K, m_uL_N, m_uL_R, m_uL_I, m_uL_L, m_uR_K, m_uR_N, m_uR_I, m_uR_L, m_uR_R, true_and, and_true, true_implies, false_implies, not_true_eq_false, not_false_eq_true, if_true, if_false, false_and, and_false]
          exact h0
        · have ca' : isW t wAll = false := by simpa using ca
          have tl := tail ⟨by rw [ck, cn']; rfl, by rw [ck, c9']; rfl, by rw [ck, ca']; rfl⟩ 1
          simp +decide (disch := omega) only [qX11_operand_0, qX11_operand_1, qX11_operand_2, qX11_operand_3, qX11_operand_4, lm hL, p4', ni_sub1, ni_in_t, ni_tn, f1, f3, hts, ck, w1, cn', s91, c9', u2, ca', b01, am_w1_i, am_w1_r, am_w1_x, am_w1_l, am_w1_w, va_rf_s, am_push_n, am_push_s, am_cs_0, am_cs_i, am_cs_l, am_cs_r, m_uI_K, m_uI_N, m_uI_R, m_uI_L, m_uI_I, m_uL_K, m_uL_N, m_uL_R, m_uL_I, m_uL_L, m_uR_K, m_uR_N, m_uR_I, m_uR_L, m_uR_R, true_and, and_true, true_implies, false_implies, not_true_eq_false, not_false_eq_true, if_true, if_false, false_and, and_false] at tl ⊢
          exact tl
  · have cf' : (isTs k && bg) = false := by simpa using cf
    have tl := tail ⟨by rw [cf']; rfl, by rw [cf']; rfl, by rw [cf']; rfl⟩ 0
    by_cases ck : isTs k = true
    · have cb : bg = false := by rw [ck, Bool.true_and] at cf'; exact cf'
      subst cb
      simp +decide (disch := omega) only [qX11_operand_0, qX11_operand_1, qX11_operand_2, qX11_operand_3, qX11_operand_4, lm hL, p4', ni_sub1, ni_in_t, ni_tn, f1, f3, hts, ck, b01, am_w1_i, am_w1_r, am_w1_x, am_w1_l, am_w1_w, va_rf_s, am_push_n, am_push_s, am_cs_0, am_cs_i, am_cs_l, am_cs_r, m_uI_K, m_uI_N, m_uI_R, m_uI_L, m_uI_I, m_uL_K, m_uL_N, m_uL_R, m_uL_I, m_uL_L, m_uR_K, m_uR_N, m_uR_I, m_uR_L, m_uR_R, true_and, and_true, true_implies, false_implies, not_true_eq_false, not_false_eq_true, if_true, if_false, false_and, and_false] at tl ⊢
      exact tl
    · have ck' : isTs k = false := by simpa using ck
      simp +decide (disch := omega) only [qX11_operand_0, qX11_operand_1, qX11_operand_2, qX11_operand_3, qX11_operand_4, lm hL, p4', ni_sub1, ni_in_t, ni_tn, f1, hts, ck', b01, am_w1_i, am_w1_r, am_w1_x, am_w1_l, am_w1_w, va_rf_s, am_push_n, am_push_s, am_cs_0, am_cs_i, am_cs_l, am_cs_r, m_uI_K, m_uI_N, m_uI_R, m_uI_L, m_uI_I, m_uL_K, m_uL_N, m_uL_R, m_uL_I, m_uL_L, m_uR_K, m_uR_N, m_uR_I, m_uR_L, m_uR_R, true_and, and_true, true_implies, false_implies, not_true_eq_false, not_false_eq_true, if_true, if_false, false_and, and_false] at tl ⊢
      exact tl
end
