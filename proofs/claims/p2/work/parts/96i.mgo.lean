/-! the model's formulas: what follows an operand -/
section
variable {T : Nat → Nat} {n : Nat}
theorem jns_len {l : Nat} : ∀ (os : List Nat) (vs : List Den), (jns l os vs).1.length ≤ os.length := by
  intro os
  induction os with
  | nil => intro vs; exact Nat.le_refl _
  | cons o os ih =>
    intro vs
    rw [jns_c]
    split
    · have := ih (appD o vs); rw [List.length_cons]; omega
    · exact Nat.le_refl _
theorem RsM_51 {M : am_M} {z a : Nat} {r : Sum (Nat × Nat) (Mst × Bool)} (x : Int32) (h : RsM T n M z a r) : RsM T n (uI M 277 51 x) z a r := by
  have g : gF (fun b j => b = 277 ∧ j = 51) nT M (uI M 277 51 x) := gF_i _ ⟨rfl, rfl⟩
  cases r with
  | inl e => exact FtM_g h g (fun b j q w => by omega)
  | inr q =>
    obtain ⟨c, h1, h2, h3⟩ := h
    exact ⟨c, RdM_g h1 g (fun b j q w => by omega), PzM_g h2 g (fun b j q => by omega), h3⟩
theorem PzM_top {M M' : am_M} {z a c k ph k' ph' : Nat} {bg bg' : Bool} {pr : Nat} {os : List Nat} {F : List Frm} {vs : List Den} (h : PzM M z a c ((k, ph, bg, pr, os) :: F) vs) (g : gF (fun b j => 306 ≤ b ∧ b ≤ 308 ∧ j = F.length) nT M M') (h1 : mI M' 306 F.length = nI k') (h2 : mI M' 307 F.length = nI ph') (h3 : mI M' 308 F.length = b01 bg') (h4 : k' = 3 ∨ k' = 4 → k = 3 ∨ k = 4) : PzM M' z a c ((k', ph', bg', pr, os) :: F) vs := by
  obtain ⟨p1, p2, ⟨f1, f2, f3, f4, f5, f6, f7⟩, p4, p5, p6⟩ := h
  exact ⟨FmM_g p1 g (fun j q w => by omega), CdM_g p2 g (fun b j q _ _ w => by omega), ⟨h1, h2, h3, fun q => by rw [g.1 _ _ (by omega)]; exact f4 (h4 q), by rw [g.1 _ _ (by omega)]; exact f5, OpM_g g os f6 (fun j _ _ w => by omega), HpM_g g F f7 (fun b j q1 q2 q3 w => by omega) (fun j _ w => by omega)⟩, by rw [g.1 _ _ (by omega)]; exact p4, by rw [g.1 _ _ (by omega)]; exact p5, by rw [g.1 _ _ (by omega)]; exact p6⟩
def gX (M : am_M) (r : Sum (Nat × Nat) (Mst × Bool)) (x : Int32) : Prop := ∀ s' b, r = .inr (s', b) → x = b01 b ∧ mI M 277 51 = b01 s'.2.2.2
theorem gX_adv {M : am_M} {t : Tok} {S : Tok → Mst} {o : Bool} (h : ∀ t1, (S t1).2.2.2 = o) (hm : mI M 277 51 = b01 o) : gX M (mAdv T n t S) 1 := fun s' b hs => by
  have hb : b = true := by
    unfold mAdv at hs
    split at hs
    · cases hs
    · cases hs; rfl
  obtain ⟨-, rfl⟩ := mAdv_r hs
  subst hb
  rw [h]
  exact ⟨rfl, hm⟩
abbrev Lg (F : List Frm) (k : Nat) (v4 : Value) : List Value := [.ref 277, .int (nI F.length), .int (nI k), .int (b01 (isTs k)), v4]
theorem sJm_R {M M' : am_M} {z a : Nat} {t : Tok} (h : RdM M T n t) (hg : gF (sJm z a) nT M M') : RdM M' T n t := RdM_g h hg (fun b j q w => by unfold sJm at w; omega)
/-- signs of sums -/
theorem m_goA (d z a c l op : Nat) (t : Tok) (k ph : Nat) (bg : Bool) (pr : Nat) (os : List Nat) (F : List Frm) (vs : List Den) (M : am_M) (Q : Option Value → am_M → Prop) (hL : Lay M) (hR : RdM M T n t) (h0 : ¬ t.1 = 0) (hP : PzM M z a c ((k, ph, bg, pr, os) :: F) vs) (hF : F.length ≤ 8) (hb : sumO F + os.length ≤ 495) (hc : c + sumO ((k, ph, bg, pr, os) :: F) + nPr ((k, ph, bg, pr, os) :: F) ≤ tS t) (hten : ∀ o, o ∈ os → 10 ≤ o) (hl : l ≤ 6) (hop : op ≤ 22) (hj : jok l os vs)
    (hsel : ∀ M', Lay M' → RdM M' T n t → am_P am_P0 (d + 3) (am_look tX11_goesOn) 161 (Lg F k am_x) [.int (nI op), .ref 277] M' Q → am_P am_P0 (d + 3) (am_look tX11_goesOn) 102 (Lg F k am_x) [] M' Q)
    (hQ : ∀ M' x, gF (sFm z a) nT M M' → RsM T n M' z a (mAdv T n t (fun t1 => (t1, (k, ph, bg, pr, op :: (jns l os vs).1) :: F, (jns l os vs).2, false))) → gX M' (mAdv T n t (fun t1 => (t1, (k, ph, bg, pr, op :: (jns l os vs).1) :: F, (jns l os vs).2, false))) x → Q (some (.int x)) M') : am_P am_P0 (d + 3) (am_look tX11_goesOn) 99 (Lg F k am_x) [.int (nI l), .ref 277] M Q := by
  have eO : sumO ((k, ph, bg, pr, os) :: F) = sumO F + os.length := rfl
  have hcn : c + os.length ≤ 1800 := by have := hR.1.2.1; have := hR.2.2.2.2.2.2.2.2.1; have := hR.2.2.2.2.2.2.2.2.2.1; omega
  simp +decide only [qX11_goesOn_0, qX11_goesOn_1, qX11_goesOn_2, qX11_goesOn_3, qX11_goesOn_4, qX11_goesOn_5, qX11_goesOn_6, qX11_goesOn_7, lm hL, am_w1_i, am_w1_r, am_w1_x, am_w1_l, am_w1_w, va_rf_s, am_push_n, am_push_s, am_cs_0, am_cs_i, am_cs_l, am_cs_r, m_uI_K, m_uI_N, m_uI_R, m_uI_L, m_uI_I, m_uL_K, m_uL_N, m_uL_R, m_uL_I, m_uL_L, m_uR_K, m_uR_N, m_uR_I, m_uR_L, m_uR_R, true_and, and_true, true_implies, false_implies, not_true_eq_false, not_false_eq_true, if_true, if_false, false_and, and_false]
  refine m_joins (d + 1) z a c l k ph bg pr os F vs M _ hL hP hl hF hten (by omega) hcn hj (fun M1 c1 g1 e1 P1 => ?_)
  have L1 := gF_LayN g1 hL
  have R1 := sJm_R hR g1
  have hlen : (jns l os vs).1.length ≤ os.length := jns_len os vs
  suffices key : am_P am_P0 (d + 3) (am_look tX11_goesOn) 161 (Lg F k am_x) [.int (nI op), .ref 277] M1 Q by
    have hs := hsel M1 L1 R1 key
    simp +decide only [Lg, qX11_goesOn_0, qX11_goesOn_1, qX11_goesOn_2, qX11_goesOn_3, qX11_goesOn_4, qX11_goesOn_5, qX11_goesOn_6, qX11_goesOn_7, lm L1, am_w1_i, am_w1_r, am_w1_x, am_w1_l, am_w1_w, va_rf_s, am_push_n, am_push_s, am_cs_0, am_cs_i, am_cs_l, am_cs_r, m_uI_K, m_uI_N, m_uI_R, m_uI_L, m_uI_I, m_uL_K, m_uL_N, m_uL_R, m_uL_I, m_uL_L, m_uR_K, m_uR_N, m_uR_I, m_uR_L, m_uR_R, true_and, and_true, true_implies, false_implies, not_true_eq_false, not_false_eq_true, if_true, if_false, false_and, and_false] at hs ⊢
    exact hs
  simp +decide only [qX11_goesOn_0, qX11_goesOn_1, qX11_goesOn_2, qX11_goesOn_3, qX11_goesOn_4, qX11_goesOn_5, qX11_goesOn_6, qX11_goesOn_7, lm L1, am_w1_i, am_w1_r, am_w1_x, am_w1_l, am_w1_w, va_rf_s, am_push_n, am_push_s, am_cs_0, am_cs_i, am_cs_l, am_cs_r, m_uI_K, m_uI_N, m_uI_R, m_uI_L, m_uI_I, m_uL_K, m_uL_N, m_uL_R, m_uL_I, m_uL_L, m_uR_K, m_uR_N, m_uR_I, m_uR_L, m_uR_R, true_and, and_true, true_implies, false_implies, not_true_eq_false, not_false_eq_true, if_true, if_false, false_and, and_false]
  refine m_holds (d + 2) z a c1 op k ph bg pr _ F _ M1 _ L1 P1 hop (by omega) (fun M2 g2 P2 => ?_)
  have L2 := gF_LayN g2 L1
  have R2 : RdM M2 T n t := RdM_g R1 g2 (fun b j q w => by omega)
  have G2 : gF (sFm z a) nT M1 M2 := gF_up g2 (fun b j q => by unfold sFm; omega) (fun _ _ q => q)
  simp +decide only [qX11_goesOn_0, qX11_goesOn_1, qX11_goesOn_2, qX11_goesOn_3, qX11_goesOn_4, qX11_goesOn_5, qX11_goesOn_6, qX11_goesOn_7, lm L2, am_w1_i, am_w1_r, am_w1_x, am_w1_l, am_w1_w, va_rf_s, am_push_n, am_push_s, am_cs_0, am_cs_i, am_cs_l, am_cs_r, m_uI_K, m_uI_N, m_uI_R, m_uI_L, m_uI_I, m_uL_K, m_uL_N, m_uL_R, m_uL_I, m_uL_L, m_uR_K, m_uR_N, m_uR_I, m_uR_L, m_uR_R, true_and, and_true, true_implies, false_implies, not_true_eq_false, not_false_eq_true, if_true, if_false, false_and, and_false]
  have eS : sumO ((k, ph, bg, pr, op :: (jns l os vs).1) :: F) = sumO F + (jns l os vs).1.length + 1 := rfl
  have eN : nPr ((k, ph, bg, pr, op :: (jns l os vs).1) :: F) = nPr ((k, ph, bg, pr, os) :: F) := rfl
  refine m_advS (d + 1) z a c1 t _ _ false M2 _ L2 R2 h0 P2 (by rw [eS, eN]; omega) (fun M3 g3 _ h3 => ?_)
  have L3 := gF_LayN g3 L2
  have hq := hQ (uI M3 277 51 0) 1 (gF_trans (sJm_F g1) (gF_trans G2 (gF_trans (sRm_F g3) (gF_i _ (Or.inl ⟨rfl, by omega⟩))))) (RsM_51 0 h3) (gX_adv (o := false) (fun _ => rfl) (by rw [m_uI_I, if_pos ⟨rfl, rfl⟩]; rfl))
  simp +decide only [qX11_goesOn_0, qX11_goesOn_1, qX11_goesOn_2, qX11_goesOn_3, qX11_goesOn_4, qX11_goesOn_5, qX11_goesOn_6, qX11_goesOn_7, lm L3, am_w1_i, am_w1_r, am_w1_x, am_w1_l, am_w1_w, va_rf_s, am_push_n, am_push_s, am_cs_0, am_cs_i, am_cs_l, am_cs_r, m_uI_K, m_uI_N, m_uI_R, m_uI_L, m_uI_I, m_uL_K, m_uL_N, m_uL_R, m_uL_I, m_uL_L, m_uR_K, m_uR_N, m_uR_I, m_uR_L, m_uR_R, true_and, and_true, true_implies, false_implies, not_true_eq_false, not_false_eq_true, if_true, if_false, false_and, and_false]
  exact hq
/-- a comparing sign -/
theorem m_goC (d z a c op : Nat) (t : Tok) (k ph : Nat) (bg : Bool) (pr : Nat) (os : List Nat) (F : List Frm) (vs : List Den) (M : am_M) (Q : Option Value → am_M → Prop) (hL : Lay M) (hR : RdM M T n t) (h0 : ¬ t.1 = 0) (hP : PzM M z a c ((k, ph, bg, pr, os) :: F) vs) (hF : F.length ≤ 8) (hb : sumO F + os.length ≤ 495) (hc : c + sumO ((k, ph, bg, pr, os) :: F) + nPr ((k, ph, bg, pr, os) :: F) ≤ tS t) (hten : ∀ o, o ∈ os → 10 ≤ o) (hop : op ≤ 22) (hj : jok 5 os vs)
    (hsel : ∀ M', Lay M' → RdM M' T n t → am_P am_P0 (d + 3) (am_look tX11_goesOn) 251 (Lg F k am_x) [.int (nI op), .ref 277] M' Q → am_P am_P0 (d + 3) (am_look tX11_goesOn) 220 (Lg F k am_x) [] M' Q)
    (hQ : ∀ M' x, gF (sFm z a) nT M M' → RsM T n M' z a (mAdv T n t (fun t1 => (t1, (k, 1, bg, pr, op :: (jns 5 os vs).1) :: F, (jns 5 os vs).2, false))) → gX M' (mAdv T n t (fun t1 => (t1, (k, 1, bg, pr, op :: (jns 5 os vs).1) :: F, (jns 5 os vs).2, false))) x → Q (some (.int x)) M') : am_P am_P0 (d + 3) (am_look tX11_goesOn) 217 (Lg F k am_x) [.int (nI 5), .ref 277] M Q := by
  have eO : sumO ((k, ph, bg, pr, os) :: F) = sumO F + os.length := rfl
  have hcn : c + os.length ≤ 1800 := by have := hR.1.2.1; have := hR.2.2.2.2.2.2.2.2.1; have := hR.2.2.2.2.2.2.2.2.2.1; omega
  simp +decide only [qX11_goesOn_0, qX11_goesOn_1, qX11_goesOn_2, qX11_goesOn_3, qX11_goesOn_4, qX11_goesOn_5, qX11_goesOn_6, qX11_goesOn_7, lm hL, am_w1_i, am_w1_r, am_w1_x, am_w1_l, am_w1_w, va_rf_s, am_push_n, am_push_s, am_cs_0, am_cs_i, am_cs_l, am_cs_r, m_uI_K, m_uI_N, m_uI_R, m_uI_L, m_uI_I, m_uL_K, m_uL_N, m_uL_R, m_uL_I, m_uL_L, m_uR_K, m_uR_N, m_uR_I, m_uR_L, m_uR_R, true_and, and_true, true_implies, false_implies, not_true_eq_false, not_false_eq_true, if_true, if_false, false_and, and_false]
  refine m_joins (d + 1) z a c 5 k ph bg pr os F vs M _ hL hP (by omega) hF hten (by omega) hcn hj (fun M1 c1 g1 e1 P1 => ?_)
  have L1 := gF_LayN g1 hL
  have R1 := sJm_R hR g1
  have hlen : (jns 5 os vs).1.length ≤ os.length := jns_len os vs
  suffices key : am_P am_P0 (d + 3) (am_look tX11_goesOn) 251 (Lg F k am_x) [.int (nI op), .ref 277] M1 Q by
    have hs := hsel M1 L1 R1 key
    simp +decide only [Lg, qX11_goesOn_0, qX11_goesOn_1, qX11_goesOn_2, qX11_goesOn_3, qX11_goesOn_4, qX11_goesOn_5, qX11_goesOn_6, qX11_goesOn_7, lm L1, am_w1_i, am_w1_r, am_w1_x, am_w1_l, am_w1_w, va_rf_s, am_push_n, am_push_s, am_cs_0, am_cs_i, am_cs_l, am_cs_r, m_uI_K, m_uI_N, m_uI_R, m_uI_L, m_uI_I, m_uL_K, m_uL_N, m_uL_R, m_uL_I, m_uL_L, m_uR_K, m_uR_N, m_uR_I, m_uR_L, m_uR_R, true_and, and_true, true_implies, false_implies, not_true_eq_false, not_false_eq_true, if_true, if_false, false_and, and_false] at hs ⊢
    exact hs
  simp +decide only [qX11_goesOn_0, qX11_goesOn_1, qX11_goesOn_2, qX11_goesOn_3, qX11_goesOn_4, qX11_goesOn_5, qX11_goesOn_6, qX11_goesOn_7, lm L1, am_w1_i, am_w1_r, am_w1_x, am_w1_l, am_w1_w, va_rf_s, am_push_n, am_push_s, am_cs_0, am_cs_i, am_cs_l, am_cs_r, m_uI_K, m_uI_N, m_uI_R, m_uI_L, m_uI_I, m_uL_K, m_uL_N, m_uL_R, m_uL_I, m_uL_L, m_uR_K, m_uR_N, m_uR_I, m_uR_L, m_uR_R, true_and, and_true, true_implies, false_implies, not_true_eq_false, not_false_eq_true, if_true, if_false, false_and, and_false]
  refine m_holds (d + 2) z a c1 op k ph bg pr _ F _ M1 _ L1 P1 hop (by omega) (fun M2 g2 P2 => ?_)
  have L2 := gF_LayN g2 L1
  have R2 : RdM M2 T n t := RdM_g R1 g2 (fun b j q w => by omega)
  have G2 : gF (sFm z a) nT M1 M2 := gF_up g2 (fun b j q => by unfold sFm; omega) (fun _ _ q => q)
  have gp : gF (fun b j => 306 ≤ b ∧ b ≤ 308 ∧ j = F.length) nT M2 (uI M2 307 F.length 1) := gF_i _ ⟨by omega, by omega, rfl⟩
  have Gp : gF (sFm z a) nT M2 (uI M2 307 F.length 1) := gF_i _ (Or.inr (Or.inr ⟨by omega, by omega⟩))
  have P3 := PzM_top (k' := k) (ph' := 1) (bg' := bg) P2 gp (by rw [m_uI_I, if_neg (by omega)]; exact P2.2.2.1.1) (by rw [m_uI_I, if_pos ⟨rfl, rfl⟩]; rfl) (by rw [m_uI_I, if_neg (by omega)]; exact P2.2.2.1.2.2.1) (fun q => q)
  have R3 : RdM (uI M2 307 F.length 1) T n t := RdM_g R2 gp (fun b j q w => by omega)
  have L3 : Lay (uI M2 307 F.length 1) := L2
  simp +decide (disch := omega) only [qX11_goesOn_0, qX11_goesOn_1, qX11_goesOn_2, qX11_goesOn_3, qX11_goesOn_4, qX11_goesOn_5, qX11_goesOn_6, qX11_goesOn_7, lm L2, ni_in_t, ni_tn, am_w1_i, am_w1_r, am_w1_x, am_w1_l, am_w1_w, va_rf_s, am_push_n, am_push_s, am_cs_0, am_cs_i, am_cs_l, am_cs_r, m_uI_K, m_uI_N, m_uI_R, m_uI_L, m_uI_I, m_uL_K, m_uL_N, m_uL_R, m_uL_I, m_uL_L, m_uR_K, m_uR_N, m_uR_I, m_uR_L, m_uR_R, true_and, and_true, true_implies, false_implies, not_true_eq_false, not_false_eq_true, if_true, if_false, false_and, and_false]
  have eS : sumO ((k, 1, bg, pr, op :: (jns 5 os vs).1) :: F) = sumO F + (jns 5 os vs).1.length + 1 := rfl
  have eN : nPr ((k, 1, bg, pr, op :: (jns 5 os vs).1) :: F) = nPr ((k, ph, bg, pr, os) :: F) := rfl
  refine m_advS (d + 1) z a c1 t _ _ false _ _ L3 R3 h0 P3 (by rw [eS, eN]; omega) (fun M4 g4 _ h4 => ?_)
  have L4 := gF_LayN g4 L3
  have hq := hQ (uI M4 277 51 0) 1 (gF_trans (sJm_F g1) (gF_trans G2 (gF_trans Gp (gF_trans (sRm_F g4) (gF_i _ (Or.inl ⟨rfl, by omega⟩)))))) (RsM_51 0 h4) (gX_adv (o := false) (fun _ => rfl) (by rw [m_uI_I, if_pos ⟨rfl, rfl⟩]; rfl))
  simp +decide only [qX11_goesOn_0, qX11_goesOn_1, qX11_goesOn_2, qX11_goesOn_3, qX11_goesOn_4, qX11_goesOn_5, qX11_goesOn_6, qX11_goesOn_7, lm L4, am_w1_i, am_w1_r, am_w1_x, am_w1_l, am_w1_w, va_rf_s, am_push_n, am_push_s, am_cs_0, am_cs_i, am_cs_l, am_cs_r, m_uI_K, m_uI_N, m_uI_R, m_uI_L, m_uI_I, m_uL_K, m_uL_N, m_uL_R, m_uL_I, m_uL_L, m_uR_K, m_uR_N, m_uR_I, m_uR_L, m_uR_R, true_and, and_true, true_implies, false_implies, not_true_eq_false, not_false_eq_true, if_true, if_false, false_and, and_false]
  exact hq
/-- and, or -/
theorem m_goB (d z a c l op : Nat) (w4 : Int32) (t : Tok) (k ph : Nat) (bg : Bool) (pr : Nat) (os : List Nat) (F : List Frm) (vs : List Den) (M : am_M) (Q : Option Value → am_M → Prop) (hL : Lay M) (hR : RdM M T n t) (h0 : ¬ t.1 = 0) (hP : PzM M z a c ((k, ph, bg, pr, os) :: F) vs) (hF : F.length ≤ 8) (hb : sumO F + os.length ≤ 495) (hc : c + sumO ((k, ph, bg, pr, os) :: F) + nPr ((k, ph, bg, pr, os) :: F) ≤ tS t) (hten : ∀ o, o ∈ os → 10 ≤ o) (hl : l ≤ 6) (hop : op ≤ 22) (hj : jok l os vs)
    (hsel : ∀ M', Lay M' → RdM M' T n t → am_P am_P0 (d + 3) (am_look tX11_goesOn) 359 (Lg F k (.int w4)) [.int (nI op), .ref 277] M' Q → am_P am_P0 (d + 3) (am_look tX11_goesOn) 346 (Lg F k (.int w4)) [] M' Q)
    (hQ : ∀ M' x, gF (sFm z a) nT M M' → RsM T n M' z a (mAdv T n t (fun t1 => (t1, (k, 0, true, pr, op :: (jns l os vs).1) :: F, (jns l os vs).2, false))) → gX M' (mAdv T n t (fun t1 => (t1, (k, 0, true, pr, op :: (jns l os vs).1) :: F, (jns l os vs).2, false))) x → Q (some (.int x)) M') : am_P am_P0 (d + 3) (am_look tX11_goesOn) 343 (Lg F k (.int w4)) [.int (nI l), .ref 277] M Q := by
  have eO : sumO ((k, ph, bg, pr, os) :: F) = sumO F + os.length := rfl
  have hcn : c + os.length ≤ 1800 := by have := hR.1.2.1; have := hR.2.2.2.2.2.2.2.2.1; have := hR.2.2.2.2.2.2.2.2.2.1; omega
  simp +decide only [qX11_goesOn_0, qX11_goesOn_1, qX11_goesOn_2, qX11_goesOn_3, qX11_goesOn_4, qX11_goesOn_5, qX11_goesOn_6, qX11_goesOn_7, lm hL, am_w1_i, am_w1_r, am_w1_x, am_w1_l, am_w1_w, va_rf_s, am_push_n, am_push_s, am_cs_0, am_cs_i, am_cs_l, am_cs_r, m_uI_K, m_uI_N, m_uI_R, m_uI_L, m_uI_I, m_uL_K, m_uL_N, m_uL_R, m_uL_I, m_uL_L, m_uR_K, m_uR_N, m_uR_I, m_uR_L, m_uR_R, true_and, and_true, true_implies, false_implies, not_true_eq_false, not_false_eq_true, if_true, if_false, false_and, and_false]
  refine m_joins (d + 1) z a c l k ph bg pr os F vs M _ hL hP hl hF hten (by omega) hcn hj (fun M1 c1 g1 e1 P1 => ?_)
  have L1 := gF_LayN g1 hL
  have R1 := sJm_R hR g1
  have hlen : (jns l os vs).1.length ≤ os.length := jns_len os vs
  suffices key : am_P am_P0 (d + 3) (am_look tX11_goesOn) 359 (Lg F k (.int w4)) [.int (nI op), .ref 277] M1 Q by
    have hs := hsel M1 L1 R1 key
    simp +decide only [Lg, qX11_goesOn_0, qX11_goesOn_1, qX11_goesOn_2, qX11_goesOn_3, qX11_goesOn_4, qX11_goesOn_5, qX11_goesOn_6, qX11_goesOn_7, lm L1, am_w1_i, am_w1_r, am_w1_x, am_w1_l, am_w1_w, va_rf_s, am_push_n, am_push_s, am_cs_0, am_cs_i, am_cs_l, am_cs_r, m_uI_K, m_uI_N, m_uI_R, m_uI_L, m_uI_I, m_uL_K, m_uL_N, m_uL_R, m_uL_I, m_uL_L, m_uR_K, m_uR_N, m_uR_I, m_uR_L, m_uR_R, true_and, and_true, true_implies, false_implies, not_true_eq_false, not_false_eq_true, if_true, if_false, false_and, and_false] at hs ⊢
    exact hs
  simp +decide only [qX11_goesOn_0, qX11_goesOn_1, qX11_goesOn_2, qX11_goesOn_3, qX11_goesOn_4, qX11_goesOn_5, qX11_goesOn_6, qX11_goesOn_7, lm L1, am_w1_i, am_w1_r, am_w1_x, am_w1_l, am_w1_w, va_rf_s, am_push_n, am_push_s, am_cs_0, am_cs_i, am_cs_l, am_cs_r, m_uI_K, m_uI_N, m_uI_R, m_uI_L, m_uI_I, m_uL_K, m_uL_N, m_uL_R, m_uL_I, m_uL_L, m_uR_K, m_uR_N, m_uR_I, m_uR_L, m_uR_R, true_and, and_true, true_implies, false_implies, not_true_eq_false, not_false_eq_true, if_true, if_false, false_and, and_false]
  refine m_holds (d + 2) z a c1 op k ph bg pr _ F _ M1 _ L1 P1 hop (by omega) (fun M2 g2 P2 => ?_)
  have L2 := gF_LayN g2 L1
  have R2 : RdM M2 T n t := RdM_g R1 g2 (fun b j q w => by omega)
  have G2 : gF (sFm z a) nT M1 M2 := gF_up g2 (fun b j q => by unfold sFm; omega) (fun _ _ q => q)
  have gp : gF (fun b j => 306 ≤ b ∧ b ≤ 308 ∧ j = F.length) nT M2 (uI (uI M2 307 F.length 0) 308 F.length 1) := gF_trans (gF_i _ ⟨by omega, by omega, rfl⟩) (gF_i _ ⟨by omega, by omega, rfl⟩)
  have Gp : gF (sFm z a) nT M2 (uI (uI M2 307 F.length 0) 308 F.length 1) := gF_trans (gF_i _ (Or.inr (Or.inr ⟨by omega, by omega⟩))) (gF_i _ (Or.inr (Or.inr ⟨by omega, by omega⟩)))
  have P3 := PzM_top (k' := k) (ph' := 0) (bg' := true) P2 gp (by rw [m_uI_I, if_neg (by omega), m_uI_I, if_neg (by omega)]; exact P2.2.2.1.1) (by rw [m_uI_I, if_neg (by omega), m_uI_I, if_pos ⟨rfl, rfl⟩]; rfl) (by rw [m_uI_I, if_pos ⟨rfl, rfl⟩]; rfl) (fun q => q)
  have R3 : RdM (uI (uI M2 307 F.length 0) 308 F.length 1) T n t := RdM_g R2 gp (fun b j q w => by omega)
  have L3 : Lay (uI (uI M2 307 F.length 0) 308 F.length 1) := L2
  simp +decide (disch := omega) only [qX11_goesOn_0, qX11_goesOn_1, qX11_goesOn_2, qX11_goesOn_3, qX11_goesOn_4, qX11_goesOn_5, qX11_goesOn_6, qX11_goesOn_7, lm L2, ni_in_t, ni_tn, am_w1_i, am_w1_r, am_w1_x, am_w1_l, am_w1_w, va_rf_s, am_push_n, am_push_s, am_cs_0, am_cs_i, am_cs_l, am_cs_r, m_uI_K, m_uI_N, m_uI_R, m_uI_L, m_uI_I, m_uL_K, m_uL_N, m_uL_R, m_uL_I, m_uL_L, m_uR_K, m_uR_N, m_uR_I, m_uR_L, m_uR_R, true_and, and_true, true_implies, false_implies, not_true_eq_false, not_false_eq_true, if_true, if_false, false_and, and_false]
  have eS : sumO ((k, 0, true, pr, op :: (jns l os vs).1) :: F) = sumO F + (jns l os vs).1.length + 1 := rfl
  have eN : nPr ((k, 0, true, pr, op :: (jns l os vs).1) :: F) = nPr ((k, ph, bg, pr, os) :: F) := rfl
  refine m_advS (d + 1) z a c1 t _ _ false _ _ L3 R3 h0 P3 (by rw [eS, eN]; omega) (fun M4 g4 _ h4 => ?_)
  have L4 := gF_LayN g4 L3
  have hq := hQ (uI M4 277 51 0) 1 (gF_trans (sJm_F g1) (gF_trans G2 (gF_trans Gp (gF_trans (sRm_F g4) (gF_i _ (Or.inl ⟨rfl, by omega⟩)))))) (RsM_51 0 h4) (gX_adv (o := false) (fun _ => rfl) (by rw [m_uI_I, if_pos ⟨rfl, rfl⟩]; rfl))
  simp +decide only [qX11_goesOn_0, qX11_goesOn_1, qX11_goesOn_2, qX11_goesOn_3, qX11_goesOn_4, qX11_goesOn_5, qX11_goesOn_6, qX11_goesOn_7, lm L4, am_w1_i, am_w1_r, am_w1_x, am_w1_l, am_w1_w, va_rf_s, am_push_n, am_push_s, am_cs_0, am_cs_i, am_cs_l, am_cs_r, m_uI_K, m_uI_N, m_uI_R, m_uI_L, m_uI_I, m_uL_K, m_uL_N, m_uL_R, m_uL_I, m_uL_L, m_uR_K, m_uR_N, m_uR_I, m_uR_L, m_uR_R, true_and, and_true, true_implies, false_implies, not_true_eq_false, not_false_eq_true, if_true, if_false, false_and, and_false]
  exact hq
end
