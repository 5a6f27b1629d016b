/-! the model's formulas: what follows an operand, whole -/
section
variable {T : Nat → Nat} {n : Nat}
theorem cH_10 {m : Nat} : ∀ (os : List Nat), cH m os → ∀ o, o ∈ os → 10 ≤ o := by
  intro os
  induction os with
  | nil => intro _ o h; cases h
  | cons a os ih =>
    intro h o ho
    rcases h with ⟨h1, h2⟩ | ⟨-, h2, h3⟩ | ⟨-, h2, h3⟩
    · rcases List.mem_cons.mp ho with rfl | ho
      · exact h1.1
      · exact ih h2 o ho
    · rcases List.mem_cons.mp ho with rfl | ho
      · unfold loO at h2; omega
      · have := h3 o ho; unfold loO at this; omega
    · rcases List.mem_cons.mp ho with rfl | ho
      · unfold cmO at h2; omega
      · have := h3 o ho; unfold loO at this; omega
theorem ty_ten {k ph : Nat} {bg : Bool} {pr : Nat} {os : List Nat} {F : List Frm} {vs : List Den} (h : tyS ((k, ph, bg, pr, os) :: F) vs true) : (∀ o, o ∈ os → 10 ≤ o) ∧ k ≤ 5 ∧ bg = false ∧ (k < 2 ↔ F = []) ∧ ph ≤ 2 := by
  obtain ⟨hb, v, vs0, rfl, ⟨hp, hv, hR⟩ | ⟨hp, -, hv, hR, hlo⟩⟩ := h
  · obtain ⟨a1, a2, a3, a4, a5, a6, a7, -⟩ := tyR_i.mp hR
    exact ⟨cH_10 os a3, a2, hb, a7, by omega⟩
  · obtain ⟨a1, a2, a3, a4, a5, a6, a7, -⟩ := tyR_i.mp hR
    exact ⟨cH_10 os a3, a2, hb, a7, by omega⟩
theorem m_sgs (d : Nat) (t : Tok) (M : am_M) (hL : Lay M) (hR : RdM M T n t) : (∀ Q, am_E am_P0 d 175 [.ref 277, .int 43] M Q ↔ Q (some (.int (b01 (isS t 43)))) M) ∧ (∀ Q, am_E am_P0 d 175 [.ref 277, .int 45] M Q ↔ Q (some (.int (b01 (isS t 45)))) M) ∧ (∀ Q, am_E am_P0 d 175 [.ref 277, .int 42] M Q ↔ Q (some (.int (b01 (isS t 42)))) M) ∧ (∀ Q, am_E am_P0 d 175 [.ref 277, .int 47] M Q ↔ Q (some (.int (b01 (isS t 47)))) M) ∧ (∀ Q, am_E am_P0 d 175 [.ref 277, .int 37] M Q ↔ Q (some (.int (b01 (isS t 37)))) M) ∧ (∀ Q, am_E am_P0 d 175 [.ref 277, .int 60] M Q ↔ Q (some (.int (b01 (isS t 60)))) M) ∧ (∀ Q, am_E am_P0 d 175 [.ref 277, .int 62] M Q ↔ Q (some (.int (b01 (isS t 62)))) M) ∧ (∀ Q, am_E am_P0 d 175 [.ref 277, .int 61] M Q ↔ Q (some (.int (b01 (isS t 61)))) M) ∧ (∀ Q, am_E am_P0 d 175 [.ref 277, .int 44] M Q ↔ Q (some (.int (b01 (isS t 44)))) M) ∧ (∀ Q, am_E am_P0 d 175 [.ref 277, .int 93] M Q ↔ Q (some (.int (b01 (isS t 93)))) M) ∧ (∀ Q, am_E am_P0 d 175 [.ref 277, .int 41] M Q ↔ Q (some (.int (b01 (isS t 41)))) M) :=
  ⟨m_signs d t M hL hR 43 (by omega), m_signs d t M hL hR 45 (by omega), m_signs d t M hL hR 42 (by omega), m_signs d t M hL hR 47 (by omega), m_signs d t M hL hR 37 (by omega), m_signs d t M hL hR 60 (by omega), m_signs d t M hL hR 62 (by omega), m_signs d t M hL hR 61 (by omega), m_signs d t M hL hR 44 (by omega), m_signs d t M hL hR 93 (by omega), m_signs d t M hL hR 41 (by omega)⟩
theorem isS_o {t : Tok} {c c' : Nat} (h : isS t c = true) (hc : ¬ c = c') : isS t c' = false := isS_0 (fun _ q => hc (by rw [← (isS_1 h).2, q]))
/-- a frame is closed -/
theorem PzM_pop {M : am_M} {z a c k ph : Nat} {bg : Bool} {pr : Nat} {F : List Frm} {vs : List Den} (h : PzM M z a c ((k, ph, bg, pr, []) :: F) vs) : PzM (uI (uI M 277 47 (nI F.length)) 277 48 (nI (F.length - 1))) z a c F vs := by
  have g : gF (fun b j => b = 277 ∧ (j = 47 ∨ j = 48)) nT M (uI (uI M 277 47 (nI F.length)) 277 48 (nI (F.length - 1))) := gF_trans (gF_i _ ⟨rfl, Or.inl rfl⟩) (gF_i _ ⟨rfl, Or.inr rfl⟩)
  obtain ⟨p1, p2, ⟨f1, f2, f3, f4, f5, f6, f7⟩, p4, p5, p6⟩ := h
  exact ⟨FmM_g p1 g (fun j q w => by omega), CdM_g p2 g (fun b j q _ _ w => by omega), HpM_g g F f7 (fun b j q1 q2 q3 w => by omega) (fun j _ w => by omega), by rw [m_uI_I, if_neg (by omega), m_uI_I, if_pos ⟨rfl, rfl⟩], by rw [m_uI_I, if_pos ⟨rfl, rfl⟩], by rw [g.1 _ _ (by omega)]; exact p6⟩
theorem m_goE (d z a c : Nat) (t : Tok) (k ph : Nat) (bg : Bool) (pr : Nat) (os : List Nat) (f' : Frm) (F' : List Frm) (vs : List Den) (M : am_M) (Q : Option Value → am_M → Prop) (hL : Lay M) (hR : RdM M T n t) (h0 : ¬ t.1 = 0) (hP : PzM M z a c ((k, ph, bg, pr, os) :: f' :: F') vs) (hF : F'.length ≤ 7) (hb : sumO (f' :: F') + os.length ≤ 495) (hc : c + sumO ((k, ph, bg, pr, os) :: f' :: F') + nPr ((k, ph, bg, pr, os) :: f' :: F') ≤ tS t) (hten : ∀ o, o ∈ os → 10 ≤ o) (hj : jok 1 os vs) (hk : k = 2 ∨ k = 4 ∨ k = 5) (he : (jns 1 os vs).1 = []) (h4 : k = 4 → (pr = 15 ∨ pr = 16) ∧ opOK 1850 (pr, 0) (jns 1 os vs).2) (hfl : mI M 277 51 = 1)
    (hQ : ∀ M' x, gF (sFm z a) nT M M' → RsM T n M' z a (mAdv T n t (fun t1 => (t1, (f'.1, (if k = 5 then 2 else f'.2.1), f'.2.2.1, f'.2.2.2.1, f'.2.2.2.2) :: F', (if k = 4 then appD pr (jns 1 os vs).2 else (jns 1 os vs).2), true))) → gX M' (mAdv T n t (fun t1 => (t1, (f'.1, (if k = 5 then 2 else f'.2.1), f'.2.2.1, f'.2.2.2.1, f'.2.2.2.2) :: F', (if k = 4 then appD pr (jns 1 os vs).2 else (jns 1 os vs).2), true))) x → Q (some (.int x)) M') : am_P am_P0 (d + 3) (am_look tX11_goesOn) 520 (Lg (f' :: F') k am_x) [] M Q := by
  have eO : sumO ((k, ph, bg, pr, os) :: f' :: F') = sumO (f' :: F') + os.length := rfl
  have hcn : c + os.length ≤ 1800 := by have := hR.1.2.1; have := hR.2.2.2.2.2.2.2.2.1; have := hR.2.2.2.2.2.2.2.2.2.1; omega
  have hlen : (f' :: F').length = F'.length + 1 := rfl
  simp +decide only [qX11_goesOn_0, qX11_goesOn_1, qX11_goesOn_2, qX11_goesOn_3, qX11_goesOn_4, qX11_goesOn_5, qX11_goesOn_6, qX11_goesOn_7, lm hL, am_w1_i, am_w1_r, am_w1_x, am_w1_l, am_w1_w, va_rf_s, am_push_n, am_push_s, am_cs_0, am_cs_i, am_cs_l, am_cs_r, m_uI_K, m_uI_N, m_uI_R, m_uI_L, m_uI_I, m_uL_K, m_uL_N, m_uL_R, m_uL_I, m_uL_L, m_uR_K, m_uR_N, m_uR_I, m_uR_L, m_uR_R, true_and, and_true, true_implies, false_implies, not_true_eq_false, not_false_eq_true, if_true, if_false, false_and, and_false]
  refine m_joins (d + 1) z a c 1 k ph bg pr os (f' :: F') vs M _ hL hP (by omega) (by omega) hten (by omega) hcn hj (fun M1 c1 g1 e1 P1 => ?_)
  have L1 := gF_LayN g1 hL
  have R1 := sJm_R hR g1
  rw [he] at P1 e1
  have e1' : c1 = c + os.length := e1
  have hfl1 : mI M1 277 51 = 1 := by rw [g1.1 _ _ (fun w => by unfold sJm at w; omega)]; exact hfl
  have p47 : mI M1 277 47 = nI (F'.length + 1 + 1) := P1.2.2.2.1
  have p48 : mI M1 277 48 = nI (F'.length + 1) := P1.2.2.2.2.1
  have p309 : k = 4 → mI M1 309 (F'.length + 1) = nI pr := fun q => P1.2.2.1.2.2.2.1 (Or.inr q)
  have P2 := PzM_pop P1
  have g2 : gF (fun b j => b = 277 ∧ (j = 47 ∨ j = 48)) nT M1 (uI (uI M1 277 47 (nI (F'.length + 1))) 277 48 (nI (F'.length + 1 - 1))) := gF_trans (gF_i _ ⟨rfl, Or.inl rfl⟩) (gF_i _ ⟨rfl, Or.inr rfl⟩)
  have e48 : nI (F'.length + 1 - 1) = nI F'.length := by rw [Nat.add_sub_cancel]
  rw [e48] at g2
  rw [hlen, e48] at P2
  obtain ⟨M2, hM2⟩ : ∃ M2, M2 = uI (uI M1 277 47 (nI (F'.length + 1))) 277 48 (nI F'.length) := ⟨_, rfl⟩
  rw [← hM2] at g2 P2
  have L2 := gF_LayN g2 L1
  have R2 : RdM M2 T n t := RdM_g R1 g2 (fun b j q w => by omega)
  have G2 : gF (sFm z a) nT M M2 := gF_trans (sJm_F g1) (gF_up g2 (fun b j q => by unfold sFm; omega) (fun _ _ q => q))
  have p309' : k = 4 → mI M2 309 (F'.length + 1) = nI pr := fun q => by rw [g2.1 _ _ (by omega)]; exact p309 q
  have p47' : mI M2 277 47 = nI (F'.length + 1) := P2.2.2.2.1
  have hfl2 : mI M2 277 51 = 1 := by rw [g2.1 _ _ (by omega)]; exact hfl1
  have ek : ∀ x, x ≤ 5 → (nI k = nI x ↔ k = x) := fun x hx => ni_eq (by omega) (by omega)
  have ek4 := ek 4 (by omega)
  have ek5 := ek 5 (by omega)
  rw [show nI 4 = (4 : Int32) from rfl] at ek4
  rw [show nI 5 = (5 : Int32) from rfl] at ek5
  have fin : ∀ (c3 : Nat) (ff : Frm) (ws : List Den) (M3 : am_M), gF (sFm z a) nT M M3 → Lay M3 → RdM M3 T n t → PzM M3 z a c3 (ff :: F') ws → c3 + sumO (ff :: F') + nPr (ff :: F') ≤ tS t + 1 → mI M3 277 51 = 1 → (∀ M' x, gF (sFm z a) nT M M' → RsM T n M' z a (mAdv T n t (fun t1 => (t1, ff :: F', ws, true))) → gX M' (mAdv T n t (fun t1 => (t1, ff :: F', ws, true))) x → Q (some (.int x)) M') → am_P am_P0 (d + 3) (am_look tX11_goesOn) 578 (Lg (f' :: F') k am_x) [] M3 Q := by
    intro c3 ff ws M3 G3 L3 R3 P3 hc3 hf3 hQ3
    simp +decide only [qX11_goesOn_0, qX11_goesOn_1, qX11_goesOn_2, qX11_goesOn_3, qX11_goesOn_4, qX11_goesOn_5, qX11_goesOn_6, qX11_goesOn_7, lm L3, am_w1_i, am_w1_r, am_w1_x, am_w1_l, am_w1_w, va_rf_s, am_push_n, am_push_s, am_cs_0, am_cs_i, am_cs_l, am_cs_r, m_uI_K, m_uI_N, m_uI_R, m_uI_L, m_uI_I, m_uL_K, m_uL_N, m_uL_R, m_uL_I, m_uL_L, m_uR_K, m_uR_N, m_uR_I, m_uR_L, m_uR_R, true_and, and_true, true_implies, false_implies, not_true_eq_false, not_false_eq_true, if_true, if_false, false_and, and_false]
    refine m_advS (d + 1) z a c3 t _ _ true M3 _ L3 R3 h0 P3 hc3 (fun M4 g4 _ h4 => ?_)
    have hq := hQ3 M4 1 (gF_trans G3 (sRm_F g4)) h4 (gX_adv (o := true) (fun _ => rfl) (by rw [g4.1 _ _ (fun w => by unfold sRm at w; omega)]; exact hf3))
    simp +decide only [qX11_goesOn_0, qX11_goesOn_1, qX11_goesOn_2, qX11_goesOn_3, qX11_goesOn_4, qX11_goesOn_5, qX11_goesOn_6, qX11_goesOn_7, am_w1_i, am_w1_r, am_w1_x, am_w1_l, am_w1_w, va_rf_s, am_push_n, am_push_s, am_cs_0, am_cs_i, am_cs_l, am_cs_r, m_uI_K, m_uI_N, m_uI_R, m_uI_L, m_uI_I, m_uL_K, m_uL_N, m_uL_R, m_uL_I, m_uL_L, m_uR_K, m_uR_N, m_uR_I, m_uR_L, m_uR_R, true_and, and_true, true_implies, false_implies, not_true_eq_false, not_false_eq_true, if_true, if_false, false_and, and_false]
    exact hq
  have eN : nPr ((k, ph, bg, pr, os) :: f' :: F') = nPr (f' :: F') + (if k = 3 ∨ k = 4 then 1 else 0) := rfl
  simp +decide (disch := omega) only [qX11_goesOn_0, qX11_goesOn_1, qX11_goesOn_2, qX11_goesOn_3, qX11_goesOn_4, qX11_goesOn_5, qX11_goesOn_6, qX11_goesOn_7, lm L1, hlen, p47, p48, ← hM2, lm L2, ek4, ek5, ni_sub1, ni_in_t, ni_tn, am_w1_i, am_w1_r, am_w1_x, am_w1_l, am_w1_w, va_rf_s, am_push_n, am_push_s, am_cs_0, am_cs_i, am_cs_l, am_cs_r, m_uI_K, m_uI_N, m_uI_R, m_uI_L, m_uI_I, m_uL_K, m_uL_N, m_uL_R, m_uL_I, m_uL_L, m_uR_K, m_uR_N, m_uR_I, m_uR_L, m_uR_R, true_and, and_true, true_implies, false_implies, not_true_eq_false, not_false_eq_true, if_true, if_false, false_and, and_false]
  rcases hk with rfl | rfl | rfl
  · rw [if_neg (by omega), if_neg (by omega)] at hQ
    have hf := fin c1 f' _ M2 G2 L2 R2 P2 (by omega) hfl2 hQ
    simp +decide only [Lg, qX11_goesOn_0, qX11_goesOn_1, qX11_goesOn_2, qX11_goesOn_3, qX11_goesOn_4, qX11_goesOn_5, qX11_goesOn_6, qX11_goesOn_7, lm L2, hlen, am_w1_i, am_w1_r, am_w1_x, am_w1_l, am_w1_w, va_rf_s, am_push_n, am_push_s, am_cs_0, am_cs_i, am_cs_l, am_cs_r, m_uI_K, m_uI_N, m_uI_R, m_uI_L, m_uI_I, m_uL_K, m_uL_N, m_uL_R, m_uL_I, m_uL_L, m_uR_K, m_uR_N, m_uR_I, m_uR_L, m_uR_R, true_and, and_true, true_implies, false_implies, not_true_eq_false, not_false_eq_true, if_true, if_false, false_and, and_false] at hf ⊢
    exact hf
  · rw [if_neg (by omega), if_pos rfl] at hQ
    rw [if_pos (by omega)] at eN
    have hpr := p309' rfl
    obtain ⟨hp15, hop⟩ := h4 rfl
    have hcl : c1 < 1800 := by have := hR.1.2.1; have := hR.2.2.2.2.2.2.2.2.1; have := hR.2.2.2.2.2.2.2.2.2.1; omega
    have hadd := fun Q => m_add (d + 2) z c1 (nI pr) 0 M2 Q L2 P2.1 hcl
    have hz : uW (nI pr) = pr := uW_n (by omega) (by omega)
    have hC3 := CdM_e (nI pr) 0 hcl P2.2.1 (by rw [hz]; exact hop)
    rw [hz] at hC3
    have est : stD (pr, (0 : Int32).toInt) (jns 1 os vs).2 = appD pr (jns 1 os vs).2 := op_st (by omega)
    rw [est] at hC3
    have ga : gF (fun b j => (b = 304 ∨ b = 305) ∨ (b = 277 ∧ j = 40)) nT M2 (addM M2 z c1 (nI pr) 0) := gF_trans (gF_i _ (Or.inl (Or.inl rfl))) (gF_trans (gF_i _ (Or.inl (Or.inr rfl))) (gF_i _ (Or.inr ⟨rfl, rfl⟩)))
    have Ga : gF (sFm z a) nT M2 (addM M2 z c1 (nI pr) 0) := gF_add P2.2.1.1 hcl
    have hF3 := FmM_e (s := nI pr) (v := 0) P2.1 hcl
    obtain ⟨v1, v2, v3, v4, v5, v6⟩ := P2
    have P3 : PzM (addM M2 z c1 (nI pr) 0) z a (c1 + 1) (f' :: F') (appD pr (jns 1 os vs).2) := ⟨hF3, hC3, HpM_g ga _ v3 (fun b j q1 q2 _ w => by omega) (fun j _ w => by omega), by rw [ga.1 _ _ (by omega)]; exact v4, by rw [ga.1 _ _ (by omega)]; exact v5, by rw [ga.1 _ _ (by omega)]; exact v6⟩
    have L3 := gF_LayN ga L2
    have hf := fin (c1 + 1) f' _ _ (gF_trans G2 Ga) L3 (RdM_g R2 ga (fun b j q w => by omega)) P3 (by omega) (by rw [ga.1 _ _ (by omega)]; exact hfl2) hQ
    simp +decide (disch := omega) only [Lg, qX11_goesOn_0, qX11_goesOn_1, qX11_goesOn_2, qX11_goesOn_3, qX11_goesOn_4, qX11_goesOn_5, qX11_goesOn_6, qX11_goesOn_7, lm L2, lm L3, hlen, hpr, hadd, ni_in_t, ni_tn, am_w1_i, am_w1_r, am_w1_x, am_w1_l, am_w1_w, va_rf_s, am_push_n, am_push_s, am_cs_0, am_cs_i, am_cs_l, am_cs_r, m_uI_K, m_uI_N, m_uI_R, m_uI_L, m_uI_I, m_uL_K, m_uL_N, m_uL_R, m_uL_I, m_uL_L, m_uR_K, m_uR_N, m_uR_I, m_uR_L, m_uR_R, true_and, and_true, true_implies, false_implies, not_true_eq_false, not_false_eq_true, if_true, if_false, false_and, and_false] at hf ⊢
    exact hf
  · rw [if_pos rfl, if_neg (by omega)] at hQ
    have gp : gF (fun b j => 306 ≤ b ∧ b ≤ 308 ∧ j = F'.length) nT M2 (uI M2 307 F'.length 2) := gF_i _ ⟨by omega, by omega, rfl⟩
    have Gp : gF (sFm z a) nT M2 (uI M2 307 F'.length 2) := gF_i _ (Or.inr (Or.inr ⟨by omega, by omega⟩))
    have P3 := PzM_top (k' := f'.1) (ph' := 2) (bg' := f'.2.2.1) (k := f'.1) (ph := f'.2.1) (bg := f'.2.2.1) (pr := f'.2.2.2.1) (os := f'.2.2.2.2) P2 gp (by rw [m_uI_I, if_neg (by omega)]; exact P2.2.2.1.1) (by rw [m_uI_I, if_pos ⟨rfl, rfl⟩]; rfl) (by rw [m_uI_I, if_neg (by omega)]; exact P2.2.2.1.2.2.1) (fun q => q)
    have L3 : Lay (uI M2 307 F'.length 2) := L2
    have eS3 : sumO ((f'.1, 2, f'.2.2.1, f'.2.2.2.1, f'.2.2.2.2) :: F') = sumO (f' :: F') := rfl
    have eN3 : nPr ((f'.1, 2, f'.2.2.1, f'.2.2.2.1, f'.2.2.2.2) :: F') = nPr (f' :: F') := rfl
    have hf := fin c1 _ _ _ (gF_trans G2 Gp) L3 (RdM_g R2 gp (fun b j q w => by omega)) P3 (by rw [eS3, eN3]; omega) (by rw [m_uI_I, if_neg (by omega)]; exact hfl2) hQ
    simp +decide (disch := omega) only [Lg, qX11_goesOn_0, qX11_goesOn_1, qX11_goesOn_2, qX11_goesOn_3, qX11_goesOn_4, qX11_goesOn_5, qX11_goesOn_6, qX11_goesOn_7, lm L2, lm L3, hlen, p47', ni_sub1, ni_in_t, ni_tn, am_w1_i, am_w1_r, am_w1_x, am_w1_l, am_w1_w, va_rf_s, am_push_n, am_push_s, am_cs_0, am_cs_i, am_cs_l, am_cs_r, m_uI_K, m_uI_N, m_uI_R, m_uI_L, m_uI_I, m_uL_K, m_uL_N, m_uL_R, m_uL_I, m_uL_L, m_uR_K, m_uR_N, m_uR_I, m_uR_L, m_uR_R, true_and, and_true, true_implies, false_implies, not_true_eq_false, not_false_eq_true, if_true, if_false, false_and, and_false] at hf ⊢
    exact hf
end
