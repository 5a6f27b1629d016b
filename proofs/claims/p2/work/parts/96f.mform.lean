/-! the model's formulas: its heaps in memory -/
/-- a sort of code, others beyond all -/
def uW (x : Int32) : Nat := if 0 ≤ x.toInt ∧ ¬ (5 ≤ x.toInt ∧ x.toInt ≤ 8) then x.toInt.toNat else 99
theorem uW_n {o : Nat} (h : o ≤ 22) (h2 : o ≤ 4 ∨ 9 ≤ o) : uW (nI o) = o := by unfold uW; rw [ni_ti (by omega), if_pos (by omega)]; omega
theorem uW_i {x : Int32} {o : Nat} (h : uW x = o) (ho : o ≤ 22) : x = nI o ∧ (o ≤ 4 ∨ 9 ≤ o) := by
  unfold uW at h
  split at h
  · refine ⟨?_, by omega⟩
    rw [← Int32.toInt_inj, ni_ti (by omega)]
    omega
  · omega
def insM (M : am_M) (z k : Nat) : Nat × Int := (uW (mI M 304 (1800 * z + k)), (mI M 305 (1800 * z + k)).toInt)
def CdM (M : am_M) (z a c : Nat) (vs : List Den) : Prop := a ≤ c ∧ wfD 1850 (insM M z) a (c - a) ∧ cdD (insM M z) a (c - a) = vs
def FmM (M : am_M) (z c : Nat) : Prop := mI M 277 40 = nI c ∧ c ≤ 1800 ∧ mI M 277 41 = nI z ∧ z ≤ 1
def sFm (z c a j : Nat) : Prop := (a = 277 ∧ ((3 ≤ j ∧ j ≤ 9) ∨ j = 40 ∨ j = 47 ∨ j = 48 ∨ j = 50 ∨ j = 51)) ∨ ((a = 304 ∨ a = 305) ∧ 1800 * z + c ≤ j ∧ j < 1800 * z + 1800) ∨ (306 ≤ a ∧ a ≤ 311)
theorem CdM_g {M M' : am_M} {z a c : Nat} {vs : List Den} {S T' : Nat → Nat → Prop} (h : CdM M z a c vs) (hg : gF S T' M M') (hS : ∀ b j, b = 304 ∨ b = 305 → 1800 * z ≤ j → j < 1800 * z + c → ¬ S b j) : CdM M' z a c vs := by
  obtain ⟨h1, h2, h3⟩ := h
  have e : ∀ j, j < c - a → insM M z (a + j) = insM M' z (a + j) := fun j hj => by unfold insM; rw [hg.1 _ _ (hS 304 _ (Or.inl rfl) (by omega) (by omega)), hg.1 _ _ (hS 305 _ (Or.inr rfl) (by omega) (by omega))]
  exact ⟨h1, wfD_ext e h2, by rw [← cdD_ext e]; exact h3⟩
theorem FmM_g {M M' : am_M} {z c : Nat} {S T' : Nat → Nat → Prop} (h : FmM M z c) (hg : gF S T' M M') (hS : ∀ j, j = 40 ∨ j = 41 → ¬ S 277 j) : FmM M' z c := ⟨by rw [hg.1 _ _ (hS _ (Or.inl rfl))]; exact h.1, h.2.1, by rw [hg.1 _ _ (hS _ (Or.inr rfl))]; exact h.2.2.1, h.2.2.2⟩
def addM (M : am_M) (z c : Nat) (s v : Int32) : am_M := uI (uI (uI M 304 (1800 * z + c) s) 305 (1800 * z + c) v) 277 40 (nI (c + 1))
theorem m_add (d z c : Nat) (s v : Int32) (M : am_M) (Q : Option Value → am_M → Prop) (hL : Lay M) (hF : FmM M z c) (hc : c < 1800) : am_E am_P0 d 183 [.ref 277, .int s, .int v] M Q ↔ Q none (addM M z c s v) := by
  obtain ⟨f1, f2, f3, f4⟩ := hF
  have e : (1800 : Int32) * nI z + nI c = nI (1800 * z + c) := by rw [show (1800 : Int32) = nI 1800 from rfl, ni_mul, ni_add]
  rw [eX11_add]
  simp +decide (disch := omega) only [qX11_add, lm hL, f1, f3, e, ni_in_t, ni_tn, ni_add1, am_w1_i, am_w1_r, am_w1_x, am_w1_l, am_w1_w, va_rf_s, am_push_n, am_push_s, am_cs_0, am_cs_i, am_cs_l, am_cs_r, m_uI_K, m_uI_N, m_uI_R, m_uI_L, m_uI_I, m_uL_K, m_uL_N, m_uL_R, m_uL_I, m_uL_L, m_uR_K, m_uR_N, m_uR_I, m_uR_L, m_uR_R, true_and, and_true, true_implies, false_implies, not_true_eq_false, not_false_eq_true, if_true, if_false, false_and, and_false]
  exact Iff.rfl
theorem gF_add {M : am_M} {z a c : Nat} {s v : Int32} (h1 : a ≤ c) (hc : c < 1800) : gF (sFm z a) nT M (addM M z c s v) := gF_trans (gF_i _ (Or.inr (Or.inl ⟨Or.inl rfl, by omega, by omega⟩))) (gF_trans (gF_i _ (Or.inr (Or.inl ⟨Or.inr rfl, by omega, by omega⟩))) (gF_i _ (Or.inl ⟨rfl, Or.inr (Or.inl rfl)⟩)))
theorem CdM_e {M : am_M} {z a c : Nat} {vs : List Den} (s v : Int32) (hc : c < 1800) (h : CdM M z a c vs) (ho : opOK 1850 (uW s, v.toInt) vs) : CdM (addM M z c s v) z a (c + 1) (stD (uW s, v.toInt) vs) := by
  obtain ⟨h1, h2, h3⟩ := CdM_g h (gF_add (s := s) (v := v) (Nat.le_refl c) hc) (fun b j q1 q2 q3 w => by unfold sFm at w; omega)
  have ei : insM (addM M z c s v) z c = (uW s, v.toInt) := by
    unfold insM addM
    rw [m_uI_I, if_neg (by omega), m_uI_I, if_neg (by omega), m_uI_I, if_pos ⟨rfl, rfl⟩, m_uI_I, if_neg (by omega), m_uI_I, if_pos ⟨rfl, rfl⟩]
  have ec : a + (c - a) = c := by omega
  refine ⟨by omega, ?_, ?_⟩
  · rw [show c + 1 - a = (c - a) + 1 by omega]
    exact wfD_succ h2 (by rw [ec, ei, h3]; exact ho)
  · rw [show c + 1 - a = (c - a) + 1 by omega]
    show stD (insM _ z (a + (c - a))) (cdD _ a (c - a)) = _
    rw [ec, ei, h3]
theorem FmM_e {M : am_M} {z c : Nat} {s v : Int32} (h : FmM M z c) (hc : c < 1800) : FmM (addM M z c s v) z (c + 1) := by
  obtain ⟨f1, f2, f3, f4⟩ := h
  refine ⟨?_, by omega, ?_, f4⟩ <;> unfold addM
  · rw [m_uI_I, if_pos ⟨rfl, rfl⟩]
  · rw [m_uI_I, if_neg (by omega), m_uI_I, if_neg (by omega), m_uI_I, if_neg (by omega)]; exact f3
def OpM (M : am_M) (b : Nat) : List Nat → Prop
  | [] => True
  | o :: os => mI M 311 (b + os.length) = nI o ∧ o ≤ 22 ∧ OpM M b os
def HpM (M : am_M) : List Frm → Prop
  | [] => True
  | f :: F => mI M 306 F.length = nI f.1 ∧ mI M 307 F.length = nI f.2.1 ∧ mI M 308 F.length = b01 f.2.2.1 ∧ (f.1 = 3 ∨ f.1 = 4 → mI M 309 F.length = nI f.2.2.2.1) ∧ mI M 310 F.length = nI (sumO F) ∧ OpM M (sumO F) f.2.2.2.2 ∧ HpM M F
theorem OpM_g {M M' : am_M} {b : Nat} {S T' : Nat → Nat → Prop} (hg : gF S T' M M') : ∀ (os : List Nat), OpM M b os → (∀ j, b ≤ j → j < b + os.length → ¬ S 311 j) → OpM M' b os := by
  intro os
  induction os with
  | nil => intro h _; exact h
  | cons o os ih =>
    intro h hS
    rw [List.length_cons] at hS
    exact ⟨by rw [hg.1 _ _ (hS _ (by omega) (by omega))]; exact h.1, h.2.1, ih h.2.2 (fun j q1 q2 => hS j q1 (by omega))⟩
theorem HpM_g {M M' : am_M} {S T' : Nat → Nat → Prop} (hg : gF S T' M M') : ∀ (F : List Frm), HpM M F → (∀ b j, 306 ≤ b → b ≤ 310 → j < F.length → ¬ S b j) → (∀ j, j < sumO F → ¬ S 311 j) → HpM M' F := by
  intro F
  induction F with
  | nil => intro h _ _; exact h
  | cons f F ih =>
    intro h hS hO
    rw [List.length_cons] at hS
    have eO : sumO (f :: F) = sumO F + f.2.2.2.2.length := rfl
    rw [eO] at hO
    obtain ⟨h1, h2, h3, h4, h5, h6, h7⟩ := h
    have k : ∀ b, 306 ≤ b → b ≤ 310 → mI M' b F.length = mI M b F.length := fun b q1 q2 => hg.1 _ _ (hS b _ q1 q2 (by omega))
    exact ⟨by rw [k _ (by omega) (by omega)]; exact h1, by rw [k _ (by omega) (by omega)]; exact h2, by rw [k _ (by omega) (by omega)]; exact h3, fun q => by rw [k _ (by omega) (by omega)]; exact h4 q, by rw [k _ (by omega) (by omega)]; exact h5, OpM_g hg _ h6 (fun j q1 q2 => hO j (by omega)), ih h7 (fun b j q1 q2 q3 => hS b j q1 q2 (by omega)) (fun j q => hO j (by omega))⟩
theorem m_rank (d o : Nat) (M : am_M) (Q : Option Value → am_M → Prop) (ho : o ≤ 22) : am_E am_P0 d 184 [.int (nI o)] M Q ↔ Q (some (.int (nI (rnk o)))) M := by
  have key : ∀ k, k ≤ 22 → (nI o = nI k ↔ o = k) := fun k hk => ni_eq (by omega) (by omega)
  have e21 := key 21 (by omega)
  have e20 := key 20 (by omega)
  have e22 := key 22 (by omega)
  have e17 := key 17 (by omega)
  have e18 := key 18 (by omega)
  have e19 := key 19 (by omega)
  have e10 := key 10 (by omega)
  have e11 := key 11 (by omega)
  rw [show nI 21 = (21 : Int32) from rfl] at e21
  rw [show nI 20 = (20 : Int32) from rfl] at e20
  rw [show nI 22 = (22 : Int32) from rfl] at e22
  rw [show nI 17 = (17 : Int32) from rfl] at e17
  rw [show nI 18 = (18 : Int32) from rfl] at e18
  rw [show nI 19 = (19 : Int32) from rfl] at e19
  rw [show nI 10 = (10 : Int32) from rfl] at e10
  rw [show nI 11 = (11 : Int32) from rfl] at e11
  rw [eX11_rank]
  unfold rnk
  simp +decide only [qX11_rank, e21, e20, e22, e17, e18, e19, e10, e11, am_w1_i, am_w1_r, am_w1_x, am_w1_l, am_w1_w, va_rf_s, am_push_n, am_push_s, am_cs_0, am_cs_i, am_cs_l, am_cs_r, m_uI_K, m_uI_N, m_uI_R, m_uI_L, m_uI_I, m_uL_K, m_uL_N, m_uL_R, m_uL_I, m_uL_L, m_uR_K, m_uR_N, m_uR_I, m_uR_L, m_uR_R, true_and, and_true, true_implies, false_implies, not_true_eq_false, not_false_eq_true, if_true, if_false, false_and, and_false]
  by_cases c1 : o = 21
  · rw [br_r c1, if_pos c1]; exact Iff.rfl
  rw [br_q c1, if_neg c1]
  by_cases c2 : o = 20
  · rw [br_r c2, if_pos c2]; exact Iff.rfl
  rw [br_q c2, if_neg c2]
  by_cases c3 : o = 22
  · rw [br_r c3, if_pos c3]; exact Iff.rfl
  rw [br_q c3, if_neg c3]
  by_cases c4 : o = 17
  · rw [br_p c4, if_pos (Or.inl c4)]; exact Iff.rfl
  rw [br_n c4]
  by_cases c5 : o = 18
  · rw [br_p c5, if_pos (Or.inr (Or.inl c5))]; exact Iff.rfl
  rw [br_n c5]
  by_cases c6 : o = 19
  · rw [br_r c6, if_pos (Or.inr (Or.inr c6))]; exact Iff.rfl
  rw [br_q c6, if_neg (by omega)]
  by_cases c7 : o = 10
  · rw [br_p c7, if_pos (Or.inl c7)]; exact Iff.rfl
  rw [br_n c7]
  by_cases c8 : o = 11
  · rw [br_r c8, if_pos (Or.inr c8)]; exact Iff.rfl
  rw [br_q c8, if_neg (by omega)]
  exact Iff.rfl
theorem m_isTest (d k : Nat) (M : am_M) (Q : Option Value → am_M → Prop) (hk : k ≤ 5) : am_E am_P0 d 189 [.int (nI k)] M Q ↔ Q (some (.int (b01 (isTs k)))) M := by
  have e1 : nI k = 1 ↔ k = 1 := ni_eq (a := k) (b := 1) (by omega) (by omega)
  have e5 : nI k = 5 ↔ k = 5 := ni_eq (a := k) (b := 5) (by omega) (by omega)
  rw [eX11_isTest]
  simp +decide only [qX11_isTest, e1, e5, am_w1_i, am_w1_r, am_w1_x, am_w1_l, am_w1_w, va_rf_s, am_push_n, am_push_s, am_cs_0, am_cs_i, am_cs_l, am_cs_r, m_uI_K, m_uI_N, m_uI_R, m_uI_L, m_uI_I, m_uL_K, m_uL_N, m_uL_R, m_uL_I, m_uL_L, m_uR_K, m_uR_N, m_uR_I, m_uR_L, m_uR_R, true_and, and_true, true_implies, false_implies, not_true_eq_false, not_false_eq_true, if_true, if_false, false_and, and_false]
  by_cases c1 : k = 1
  · subst c1; rw [br_p rfl]; exact Iff.rfl
  rw [br_n c1]
  by_cases c2 : k = 5
  · subst c2; rw [br_r rfl]; exact Iff.rfl
  rw [br_q c2]
  have : isTs k = false := by unfold isTs; simp; omega
  rw [this]; exact Iff.rfl
theorem op_st {o : Nat} {vs : List Den} (h : 10 ≤ o) : stD (o, 0) vs = appD o vs := by unfold stD; rw [if_neg (by dsimp only; omega)]
/-- joining changes these -/
def sJm (z c a j : Nat) : Prop := (a = 277 ∧ (j = 40 ∨ j = 50)) ∨ ((a = 304 ∨ a = 305) ∧ 1800 * z + c ≤ j ∧ j < 1800 * z + 1800)
theorem sJm_F {M M' : am_M} {z a : Nat} (h : gF (sJm z a) nT M M') : gF (sFm z a) nT M M' := gF_up h (fun a j q => by unfold sJm at q; unfold sFm; omega) (fun _ _ q => q)
theorem l_m_joins (d z a l b dp : Nat) (M0 : am_M) (Q : Option Value → am_M → Prop) (hL : Lay M0) (hl : l ≤ 6) (hdp : dp < 20) (hdeep : mI M0 277 47 = nI (dp + 1)) (hbase : mI M0 310 dp = nI b) : ∀ (os : List Nat) (vs : List Den) (c : Nat) (M : am_M), gF (sJm z a) nT M0 M → (∀ o, o ∈ os → 10 ≤ o) → OpM M b os → b + os.length ≤ 500 → mI M 277 50 = nI (b + os.length) → FmM M z c → CdM M z a c vs → jok l os vs → c + os.length ≤ 1800 →
    (∀ M' c', gF (sJm z a) nT M0 M' → c' + (jns l os vs).1.length = c + os.length → FmM M' z c' → CdM M' z a c' (jns l os vs).2 → mI M' 277 50 = nI (b + (jns l os vs).1.length) → OpM M' b (jns l os vs).1 → Q none M') → am_P am_P0 (d + 1) (am_look tX11_joins) 0 [.ref 277, .int (nI l)] [] M Q := by
  intro os
  induction os with
  | nil =>
    intro vs c M hM hten hO hb hm hF hC hj hc hQ
    have h0 := hQ M c hM rfl hF hC hm hO
    have hLM := gF_LayN hM hL
    rw [← hM.1 277 47 (fun q => by unfold sJm at q; omega)] at hdeep
    rw [← hM.1 310 dp (fun q => by unfold sJm at q; omega)] at hbase
    have hle : nI (b + ([] : List Nat).length) ≤ nI b := (ni_le (by simp; omega) (by omega)).mpr (by simp)
    rw [hX11_joins_0]
    simp +decide (disch := omega) only [qX11_joins, lm hLM, hdeep, hbase, hm, ni_in_t, ni_tn, ni_sub1, am_w1_i, am_w1_r, am_w1_x, am_w1_l, am_w1_w, va_rf_s, am_push_n, am_push_s, am_cs_0, am_cs_i, am_cs_l, am_cs_r, m_uI_K, m_uI_N, m_uI_R, m_uI_L, m_uI_I, m_uL_K, m_uL_N, m_uL_R, m_uL_I, m_uL_L, m_uR_K, m_uR_N, m_uR_I, m_uR_L, m_uR_R, true_and, and_true, true_implies, false_implies, not_true_eq_false, not_false_eq_true, if_true, if_false, false_and, and_false]
    rw [br_p hle]
    exact h0
  | cons o os ih =>
    intro vs c M hM hten hO hb hm hF hC hj hc hQ
    obtain ⟨o1, o2, o3⟩ := hO
    have hten' := hten o (List.mem_cons_self ..)
    have hLM := gF_LayN hM hL
    have hd1 := hdeep
    have hb1 := hbase
    rw [← hM.1 277 47 (fun q => by unfold sJm at q; omega)] at hd1
    rw [← hM.1 310 dp (fun q => by unfold sJm at q; omega)] at hb1
    rw [List.length_cons] at hb hm hc
    rw [show b + (os.length + 1) = b + os.length + 1 by omega] at hm
    have hle : ¬ nI (b + os.length + 1) ≤ nI b := by rw [ni_le (by omega) (by omega)]; omega
    have hrk := fun Q => m_rank d o M Q o2
    have hrb := rnk_b o
    rw [hX11_joins_0]
    simp +decide (disch := omega) only [qX11_joins, lm hLM, hd1, hb1, hm, o1, hrk, ni_in_t, ni_tn, ni_sub1, am_w1_i, am_w1_r, am_w1_x, am_w1_l, am_w1_w, va_rf_s, am_push_n, am_push_s, am_cs_0, am_cs_i, am_cs_l, am_cs_r, m_uI_K, m_uI_N, m_uI_R, m_uI_L, m_uI_I, m_uL_K, m_uL_N, m_uL_R, m_uL_I, m_uL_L, m_uR_K, m_uR_N, m_uR_I, m_uR_L, m_uR_R, true_and, and_true, true_implies, false_implies, not_true_eq_false, not_false_eq_true, if_true, if_false, false_and, and_false]
    rw [br_n hle]
    rw [jns_c] at hQ
    by_cases cr : l ≤ rnk o
    · rw [if_pos cr] at hQ
      obtain ⟨j1, j2⟩ := hj cr
      have hnl : ¬ nI (rnk o) < nI l := by rw [ni_lt (by omega) (by omega)]; omega
      rw [br_n hnl]
      have g1 : gF (sJm z a) nT M (uI M 277 50 (nI (b + os.length))) := gF_i _ (Or.inl ⟨rfl, Or.inr rfl⟩)
      have F1 : FmM (uI M 277 50 (nI (b + os.length))) z c := by
        obtain ⟨f1, f2, f3, f4⟩ := hF
        exact ⟨by rw [m_uI_I, if_neg (by omega)]; exact f1, f2, by rw [m_uI_I, if_neg (by omega)]; exact f3, f4⟩
      have C1 : CdM (uI M 277 50 (nI (b + os.length))) z a c vs := CdM_g hC (gF_i (S := fun a j => a = 277 ∧ j = 50) (T := nT) _ ⟨rfl, rfl⟩) (fun b' j q1 q2 q3 w => by omega)
      have hadd := fun Q => m_add d z c (nI o) 0 (uI M 277 50 (nI (b + os.length))) Q hLM F1 (by omega)
      have hz : uW (nI o) = o := uW_n (by omega) (by omega)
      have hC2 := CdM_e (nI o) 0 (by omega) C1 (by rw [hz]; exact j1)
      rw [hz] at hC2
      have est : stD (o, (0 : Int32).toInt) vs = appD o vs := op_st hten'
      rw [est] at hC2
      have g2 : gF (sJm z a) nT M (addM (uI M 277 50 (nI (b + os.length))) z c (nI o) 0) := gF_trans g1 (gF_trans (gF_i _ (Or.inr ⟨Or.inl rfl, by have := hC.1; omega, by omega⟩)) (gF_trans (gF_i _ (Or.inr ⟨Or.inr rfl, by have := hC.1; omega, by omega⟩)) (gF_i _ (Or.inl ⟨rfl, Or.inl rfl⟩))))
      have h0 := ih (appD o vs) (c + 1) _ (gF_trans hM g2) (fun x hx => hten x (List.mem_cons_of_mem _ hx)) (OpM_g g2 os o3 (fun j _ _ w => by unfold sJm at w; omega)) (by omega) (by unfold addM; simp [m_uI_I]) (FmM_e F1 (by omega)) hC2 j2 (by omega) (fun M' c' g' e' => hQ M' c' g' (by rw [List.length_cons]; omega))
      simp +decide (disch := omega) only [qX11_joins, lm hLM, o1, hadd, ni_in_t, ni_tn, am_w1_i, am_w1_r, am_w1_x, am_w1_l, am_w1_w, va_rf_s, am_push_n, am_push_s, am_cs_0, am_cs_i, am_cs_l, am_cs_r, m_uI_K, m_uI_N, m_uI_R, m_uI_L, m_uI_I, m_uL_K, m_uL_N, m_uL_R, m_uL_I, m_uL_L, m_uR_K, m_uR_N, m_uR_I, m_uR_L, m_uR_R, true_and, and_true, true_implies, false_implies, not_true_eq_false, not_false_eq_true, if_true, if_false, false_and, and_false]
      exact h0
    · rw [if_neg cr] at hQ
      have hnl : nI (rnk o) < nI l := (ni_lt (by omega) (by omega)).mpr (by omega)
      rw [br_p hnl]
      exact hQ M c hM rfl hF hC (by rw [List.length_cons]; exact hm) ⟨o1, o2, o3⟩
