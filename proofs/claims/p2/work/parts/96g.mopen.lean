/-! the model's formulas: words, brackets, one step ahead -/
def nPr : List Frm → Nat
  | [] => 0
  | f :: F => nPr F + (if f.1 = 3 ∨ f.1 = 4 then 1 else 0)
def PzM (M : am_M) (z a c : Nat) (F : List Frm) (vs : List Den) : Prop := FmM M z c ∧ CdM M z a c vs ∧ HpM M F ∧ mI M 277 47 = nI F.length ∧ mI M 277 48 = nI (F.length - 1) ∧ mI M 277 50 = nI (sumO F)
theorem PzM_g {M M' : am_M} {z a c : Nat} {F : List Frm} {vs : List Den} {S T' : Nat → Nat → Prop} (h : PzM M z a c F vs) (hg : gF S T' M M') (hS : ∀ b j, S b j → ¬ (b = 277 ∧ (j = 40 ∨ j = 41 ∨ j = 47 ∨ j = 48 ∨ j = 50)) ∧ ¬ (304 ≤ b ∧ b ≤ 311)) : PzM M' z a c F vs := by
  obtain ⟨h1, h2, h3, h4, h5, h6⟩ := h
  refine ⟨FmM_g h1 hg (fun j q w => (hS _ _ w).1 ⟨rfl, by omega⟩), CdM_g h2 hg (fun b j q _ _ w => (hS _ _ w).2 (by omega)), HpM_g hg F h3 (fun b j q1 q2 _ w => (hS _ _ w).2 (by omega)) (fun j _ w => (hS _ _ w).2 (by omega)), ?_, ?_, ?_⟩
  · rw [hg.1 _ _ (fun w => (hS _ _ w).1 ⟨rfl, by omega⟩)]; exact h4
  · rw [hg.1 _ _ (fun w => (hS _ _ w).1 ⟨rfl, by omega⟩)]; exact h5
  · rw [hg.1 _ _ (fun w => (hS _ _ w).1 ⟨rfl, by omega⟩)]; exact h6
theorem PzM_R {M M' : am_M} {z a c : Nat} {F : List Frm} {vs : List Den} (h : PzM M z a c F vs) (hg : gF sRm nT M M') : PzM M' z a c F vs := PzM_g h hg (fun b j q => by unfold sRm at q; omega)
theorem sRm_F {M M' : am_M} {z a : Nat} (h : gF sRm nT M M') : gF (sFm z a) nT M M' := gF_up h (fun a j q => by unfold sRm at q; unfold sFm; omega) (fun _ _ q => q)
section
variable {T : Nat → Nat} {n : Nat}
def MsM (T : Nat → Nat) (n : Nat) (M : am_M) (z a c : Nat) (s : Mst) : Prop := RdM M T n s.1 ∧ PzM M z a c s.2.1 s.2.2.1 ∧ c + sumO s.2.1 + nPr s.2.1 ≤ tS s.1
def RsM (T : Nat → Nat) (n : Nat) (M : am_M) (z a : Nat) : Sum (Nat × Nat) (Mst × Bool) → Prop
  | .inl e => FtM M T n e.1 e.2
  | .inr q => ∃ c, MsM T n M z a c q.1
theorem m_advS (d z a c : Nat) (t : Tok) (F : List Frm) (vs : List Den) (o : Bool) (M : am_M) (Q : Option Value → am_M → Prop) (hL : Lay M) (hR : RdM M T n t) (h0 : ¬ t.1 = 0) (hP : PzM M z a c F vs) (hc : c + sumO F + nPr F ≤ tS t + 1)
    (hQ : ∀ M', gF sRm nT M M' → PzM M' z a c F vs → RsM T n M' z a (mAdv T n t (fun t1 => (t1, F, vs, o))) → Q none M') : am_E am_P0 (d + 1) 174 [.ref 277] M Q := by
  refine m_adv d t M Q hL hR (fun M1 g1 h1 => hQ M1 g1 (PzM_R hP g1) ?_)
  have hk := tkG_0 hR.2.2.2.2.2.2.2.2 h0
  unfold advR at h1
  unfold mAdv
  by_cases c4 : (tk T n (tE t)).1 = 4
  · rw [if_pos c4] at h1 ⊢; exact h1
  · rw [if_neg c4] at h1 ⊢
    exact ⟨c, h1, PzM_R hP g1, by dsimp only; omega⟩
theorem m_word1 (d k : Nat) (w : Int64) (l : List Nat) (t : Tok) (M : am_M) (Q : Option Value → am_M → Prop) (hL : Lay M) (hR : RdM M T n t) (hk : k < 27) (h1 : ownW.getD k [] = l) (h2 : wdL l = w) : am_E am_P0 d 176 [.ref 277, .long w] M Q ↔ Q (some (.int (b01 (isW t l)))) M := by
  subst h2 h1
  exact m_isWord d k t M Q hL hR hk
theorem m_words (d : Nat) (t : Tok) (M : am_M) (hL : Lay M) (hR : RdM M T n t) : (∀ Q, am_E am_P0 d 176 [.ref 277, .long 7237492] M Q ↔ Q (some (.int (b01 (isW t wNot)))) M) ∧ (∀ Q, am_E am_P0 d 176 [.ref 277, .long 6384748] M Q ↔ Q (some (.int (b01 (isW t wAll)))) M) ∧ (∀ Q, am_E am_P0 d 176 [.ref 277, .long 7170414] M Q ↔ Q (some (.int (b01 (isW t wMin)))) M) ∧ (∀ Q, am_E am_P0 d 176 [.ref 277, .long 7168376] M Q ↔ Q (some (.int (b01 (isW t wMax)))) M) ∧ (∀ Q, am_E am_P0 d 176 [.ref 277, .long 109330212154734] M Q ↔ Q (some (.int (b01 (isW t wCol)))) M) ∧ (∀ Q, am_E am_P0 d 176 [.ref 277, .long 7499639] M Q ↔ Q (some (.int (b01 (isW t wRow)))) M) ∧ (∀ Q, am_E am_P0 d 176 [.ref 277, .long 1752135026] M Q ↔ Q (some (.int (b01 (isW t wHour)))) M) ∧ (∀ Q, am_E am_P0 d 176 [.ref 277, .long 431198598248] M Q ↔ Q (some (.int (b01 (isW t wDepth)))) M) ∧ (∀ Q, am_E am_P0 d 176 [.ref 277, .long 6385252] M Q ↔ Q (some (.int (b01 (isW t wAnd)))) M) ∧ (∀ Q, am_E am_P0 d 176 [.ref 277, .long 28530] M Q ↔ Q (some (.int (b01 (isW t wOr)))) M) :=
  ⟨fun Q => m_word1 d 21 _ _ t M Q hL hR (by omega) rfl (by decide), fun Q => m_word1 d 22 _ _ t M Q hL hR (by omega) rfl (by decide), fun Q => m_word1 d 25 _ _ t M Q hL hR (by omega) rfl (by decide), fun Q => m_word1 d 26 _ _ t M Q hL hR (by omega) rfl (by decide), fun Q => m_word1 d 23 _ _ t M Q hL hR (by omega) rfl (by decide), fun Q => m_word1 d 24 _ _ t M Q hL hR (by omega) rfl (by decide), fun Q => m_word1 d 16 _ _ t M Q hL hR (by omega) rfl (by decide), fun Q => m_word1 d 1 _ _ t M Q hL hR (by omega) rfl (by decide), fun Q => m_word1 d 20 _ _ t M Q hL hR (by omega) rfl (by decide), fun Q => m_word1 d 19 _ _ t M Q hL hR (by omega) rfl (by decide)⟩
theorem m_signs (d : Nat) (t : Tok) (M : am_M) (hL : Lay M) (hR : RdM M T n t) : ∀ c, c < 256 → ∀ Q, am_E am_P0 d 175 [.ref 277, .int (nI c)] M Q ↔ Q (some (.int (b01 (isS t c)))) M := fun c hc Q => m_isSign d c t M Q hL hR hc
/-- a frame laid on, its pair aside -/
def NwM (M : am_M) (z a c k : Nat) (F : List Frm) (vs : List Den) : Prop := FmM M z c ∧ CdM M z a c vs ∧ HpM M F ∧ mI M 277 47 = nI (F.length + 1) ∧ mI M 277 48 = nI F.length ∧ mI M 277 50 = nI (sumO F) ∧ mI M 306 F.length = nI k ∧ mI M 307 F.length = 0 ∧ mI M 308 F.length = 1 ∧ mI M 310 F.length = nI (sumO F)
theorem NwM_P {M : am_M} {z a c k : Nat} {F : List Frm} {vs : List Den} (h : NwM M z a c k F vs) (hk : ¬ k = 3 ∧ ¬ k = 4) (pr : Nat) : PzM M z a c ((k, 0, true, pr, []) :: F) vs := by
  obtain ⟨h1, h2, h3, h4, h5, h6, h7, h8, h9, h10⟩ := h
  exact ⟨h1, h2, ⟨h7, h8, h9, fun q => by dsimp only at q; omega, h10, trivial, h3⟩, h4, h5, h6⟩
theorem NwM_P3 {M : am_M} {z a c : Nat} {F : List Frm} {vs : List Den} (h : NwM M z a c 3 F vs) (pr : Nat) : PzM (uI M 309 F.length (nI pr)) z a c ((3, 0, true, pr, []) :: F) vs := by
  have g : gF (fun b j => b = 309 ∧ j = F.length) nT M (uI M 309 F.length (nI pr)) := gF_i _ ⟨rfl, rfl⟩
  obtain ⟨h1, h2, h3, h4, h5, h6, h7, h8, h9, h10⟩ := h
  refine ⟨FmM_g h1 g (fun j q w => by omega), CdM_g h2 g (fun b j q _ _ w => by omega), ⟨?_, ?_, ?_, fun _ => ?_, ?_, trivial, HpM_g g F h3 (fun b j q1 q2 q3 w => by omega) (fun j _ w => by omega)⟩, ?_, ?_, ?_⟩
  · rw [m_uI_I, if_neg (by omega)]; exact h7
  · rw [m_uI_I, if_neg (by omega)]; exact h8
  · rw [m_uI_I, if_neg (by omega)]; exact h9
  · rw [m_uI_I, if_pos ⟨rfl, rfl⟩]
  · rw [m_uI_I, if_neg (by omega)]; exact h10
  · rw [m_uI_I, if_neg (by omega)]; exact h4
  · rw [m_uI_I, if_neg (by omega)]; exact h5
  · rw [m_uI_I, if_neg (by omega)]; exact h6
def psM (M : am_M) (l k : Nat) (m : Int32) : am_M := uI (uI (uI (uI (uI M 306 l (nI k)) 307 l 0) 308 l 1) 310 l m) 277 47 (nI (l + 1))
theorem m_pushes (d l k : Nat) (M : am_M) (Q : Option Value → am_M → Prop) (hL : Lay M) (hl : mI M 277 47 = nI l) (hl2 : l < 20) : am_E am_P0 d 187 [.ref 277, .int (nI k)] M Q ↔ Q none (psM M l k (mI M 277 50)) := by
  rw [eX11_pushes]
  simp +decide (disch := omega) only [qX11_pushes, lm hL, hl, ni_in_t, ni_tn, ni_add1, am_w1_i, am_w1_r, am_w1_x, am_w1_l, am_w1_w, va_rf_s, am_push_n, am_push_s, am_cs_0, am_cs_i, am_cs_l, am_cs_r, m_uI_K, m_uI_N, m_uI_R, m_uI_L, m_uI_I, m_uL_K, m_uL_N, m_uL_R, m_uL_I, m_uL_L, m_uR_K, m_uR_N, m_uR_I, m_uR_L, m_uR_R, true_and, and_true, true_implies, false_implies, not_true_eq_false, not_false_eq_true, if_true, if_false, false_and, and_false]
  exact Iff.rfl
theorem gF_psM {M : am_M} {l k : Nat} {m : Int32} : gF (fun b j => (306 ≤ b ∧ b ≤ 310 ∧ j = l) ∨ (b = 277 ∧ j = 47)) nT M (psM M l k m) :=
  gF_trans (gF_i _ (Or.inl ⟨by omega, by omega, rfl⟩)) (gF_trans (gF_i _ (Or.inl ⟨by omega, by omega, rfl⟩)) (gF_trans (gF_i _ (Or.inl ⟨by omega, by omega, rfl⟩)) (gF_trans (gF_i _ (Or.inl ⟨by omega, by omega, rfl⟩)) (gF_i _ (Or.inr ⟨rfl, rfl⟩)))))
theorem NwM_ps {M : am_M} {z a c k : Nat} {F : List Frm} {vs : List Den} (h1 : FmM M z c) (h2 : CdM M z a c vs) (h3 : HpM M F) (h5 : mI M 277 48 = nI F.length) (h6 : mI M 277 50 = nI (sumO F)) : NwM (psM M F.length k (nI (sumO F))) z a c k F vs := by
  have g : gF _ nT M (psM M F.length k (nI (sumO F))) := gF_psM
  refine ⟨FmM_g h1 g (fun j q w => by omega), CdM_g h2 g (fun b j q _ _ w => by omega), HpM_g g F h3 (fun b j q1 q2 q3 w => by omega) (fun j _ w => by omega), ?_, ?_, ?_, ?_, ?_, ?_, ?_⟩
  · unfold psM; rw [m_uI_I, if_pos ⟨rfl, rfl⟩]
  · rw [g.1 _ _ (fun w => by omega)]; exact h5
  · rw [g.1 _ _ (fun w => by omega)]; exact h6
  · unfold psM; simp [m_uI_I]
  · unfold psM; simp [m_uI_I]
  · unfold psM; simp [m_uI_I]
  · unfold psM; simp [m_uI_I]
/-- a bracket is opened -/
theorem m_opens (d z a c k : Nat) (t : Tok) (F : List Frm) (vs : List Den) (M : am_M) (Q : Option Value → am_M → Prop) (hL : Lay M) (hR : RdM M T n t) (h0 : ¬ t.1 = 0) (hP : PzM M z a c F vs) (hF : 1 ≤ F.length ∧ F.length ≤ 9)
    (hf : F.length = 9 → ∀ M', gF sRm nT M M' → FtM M' T n 5 (tS t) → Q none M')
    (h4 : ¬ F.length = 9 → (tk T n (tE t)).1 = 4 → ∀ M', gF (sFm z a) nT M M' → FtM M' T n 1 (tS (tk T n (tE t))) → Q none M')
    (hQ : ¬ F.length = 9 → ¬ (tk T n (tE t)).1 = 4 → ∀ M', gF (sFm z a) nT M M' → RdM M' T n (tk T n (tE t)) → NwM M' z a c k F vs → Q none M') : am_E am_P0 (d + 2) 188 [.ref 277, .int (nI k)] M Q := by
  obtain ⟨p1, p2, p3, p4, p5, p6⟩ := hP
  have e8 : nI (F.length - 1) = 8 ↔ F.length = 9 := by rw [show (8 : Int32) = nI 8 from rfl, ni_eq (by omega) (by omega)]; omega
  rw [eX11_opens]
  by_cases c9 : F.length = 9
  · have hfm := FtM_0 (k := 5) hR (by omega)
    have hq := hf c9 _ hfm.2 hfm.1
    have hbl := fun Q => m_blame (T := T) (n := n) (d + 1) 5 t M Q hL hR
    have hp := (FtM_pos hfm.1).2.2
    rw [show nI 5 = (5 : Int32) from rfl] at hbl hq hp
    have L1 : Lay (uI (uI M 277 8 5) 277 9 (nI (tS t))) := hL
    rw [e8.mpr c9] at p5
    simp +decide only [qX11_opens, lm hL, p5, hR.2.2.2.2.1, hbl, am_w1_i, am_w1_r, am_w1_x, am_w1_l, am_w1_w, va_rf_s, am_push_n, am_push_s, am_cs_0, am_cs_i, am_cs_l, am_cs_r, m_uI_K, m_uI_N, m_uI_R, m_uI_L, m_uI_I, m_uL_K, m_uL_N, m_uL_R, m_uL_I, m_uL_L, m_uR_K, m_uR_N, m_uR_I, m_uR_L, m_uR_R, true_and, and_true, true_implies, false_implies, not_true_eq_false, not_false_eq_true, if_true, if_false, false_and, and_false]
    exact hq
  · have h8 : ¬ nI (F.length - 1) = 8 := fun q => c9 (e8.mp q)
    simp +decide (disch := omega) only [qX11_opens, lm hL, p5, hR.2.1, am_w1_i, am_w1_r, am_w1_x, am_w1_l, am_w1_w, va_rf_s, am_push_n, am_push_s, am_cs_0, am_cs_i, am_cs_l, am_cs_r, m_uI_K, m_uI_N, m_uI_R, m_uI_L, m_uI_I, m_uL_K, m_uL_N, m_uL_R, m_uL_I, m_uL_L, m_uR_K, m_uR_N, m_uR_I, m_uR_L, m_uR_R, true_and, and_true, true_implies, false_implies, not_true_eq_false, not_false_eq_true, if_true, if_false, false_and, and_false]
    rw [br_q h8]
    simp +decide (disch := omega) only [qX11_opens, lm hL, p5, hR.2.1, ni_add1, am_w1_i, am_w1_r, am_w1_x, am_w1_l, am_w1_w, va_rf_s, am_push_n, am_push_s, am_cs_0, am_cs_i, am_cs_l, am_cs_r, m_uI_K, m_uI_N, m_uI_R, m_uI_L, m_uI_I, m_uL_K, m_uL_N, m_uL_R, m_uL_I, m_uL_L, m_uR_K, m_uR_N, m_uR_I, m_uR_L, m_uR_R, true_and, and_true, true_implies, false_implies, not_true_eq_false, not_false_eq_true, if_true, if_false, false_and, and_false]
    have g0 : gF (fun b j => b = 277 ∧ j = 48) nT M (uI M 277 48 (nI (F.length - 1 + 1))) := gF_i _ ⟨rfl, rfl⟩
    have G0 : gF (sFm z a) nT M (uI M 277 48 (nI (F.length - 1 + 1))) := gF_up g0 (fun b j q => by unfold sFm; omega) (fun _ _ q => q)
    refine m_adv d t _ _ hL (RdM_g hR g0 (fun b j q w => by omega)) (fun M1 g1 s1 => ?_)
    have L1 := gF_LayN g1 (gF_LayN g0 hL)
    have G1 := gF_trans G0 (sRm_F (z := z) (a := a) g1)
    have hl1 : mI M1 277 47 = nI F.length := by rw [g1.1 _ _ (fun w => by unfold sRm at w; omega), g0.1 _ _ (fun w => by omega)]; exact p4
    have ho1 : mI M1 277 50 = nI (sumO F) := by rw [g1.1 _ _ (fun w => by unfold sRm at w; omega), g0.1 _ _ (fun w => by omega)]; exact p6
    have hp48 : mI M1 277 48 = nI F.length := by rw [g1.1 _ _ (fun w => by unfold sRm at w; omega), m_uI_I, if_pos ⟨rfl, rfl⟩]; congr 1; omega
    have hps := fun Q => m_pushes (d + 1) F.length k M1 Q L1 hl1 (by omega)
    have F1 : FmM M1 z c := FmM_g (FmM_g p1 g0 (fun j q w => by omega)) g1 (fun j q w => by unfold sRm at w; omega)
    have C1 : CdM M1 z a c vs := CdM_g (CdM_g p2 g0 (fun b j q _ _ w => by omega)) g1 (fun b j q _ _ w => by unfold sRm at w; omega)
    have H1 : HpM M1 F := HpM_g g1 F (HpM_g g0 F p3 (fun b j q1 q2 _ w => by omega) (fun j _ w => by omega)) (fun b j q1 q2 _ w => by unfold sRm at w; omega) (fun j _ w => by unfold sRm at w; omega)
    have N1 := NwM_ps (k := k) F1 C1 H1 hp48 ho1
    have gp : gF (sFm z a) nT M1 (psM M1 F.length k (nI (sumO F))) := gF_up gF_psM (fun b j q => by unfold sFm; omega) (fun _ _ q => q)
    have hr1 : gF (fun b j => (306 ≤ b ∧ b ≤ 310 ∧ j = F.length) ∨ (b = 277 ∧ j = 47)) nT M1 (psM M1 F.length k (nI (sumO F))) := gF_psM
    simp +decide (disch := omega) only [qX11_opens, lm L1, hps, ho1, am_w1_i, am_w1_r, am_w1_x, am_w1_l, am_w1_w, va_rf_s, am_push_n, am_push_s, am_cs_0, am_cs_i, am_cs_l, am_cs_r, m_uI_K, m_uI_N, m_uI_R, m_uI_L, m_uI_I, m_uL_K, m_uL_N, m_uL_R, m_uL_I, m_uL_L, m_uR_K, m_uR_N, m_uR_I, m_uR_L, m_uR_R, true_and, and_true, true_implies, false_implies, not_true_eq_false, not_false_eq_true, if_true, if_false, false_and, and_false]
    unfold advR at s1
    by_cases c4 : (tk T n (tE t)).1 = 4
    · rw [if_pos c4] at s1
      exact h4 c9 c4 _ (gF_trans G1 gp) (FtM_g s1 hr1 (fun b j q w => by omega))
    · rw [if_neg c4] at s1
      exact hQ c9 c4 _ (gF_trans G1 gp) (RdM_g s1 hr1 (fun b j q w => by omega)) N1
theorem m_opensF (d k : Nat) (e : Nat × Nat) (M : am_M) (Q : Option Value → am_M → Prop) (hL : Lay M) (hR : FtM M T n e.1 e.2) : am_E am_P0 (d + 1) 188 [.ref 277, .int (nI k)] M Q ↔ Q none M := by
  obtain ⟨p1, p2, p3⟩ := FtM_pos hR
  have hbl := fun x p Q => c_m_blame d x p M Q hL
  rw [eX11_opens]
  simp +decide only [qX11_opens, lm hL, hbl, p1, am_w1_i, am_w1_r, am_w1_x, am_w1_l, am_w1_w, va_rf_s, am_push_n, am_push_s, am_cs_0, am_cs_i, am_cs_l, am_cs_r, m_uI_K, m_uI_N, m_uI_R, m_uI_L, m_uI_I, m_uL_K, m_uL_N, m_uL_R, m_uL_I, m_uL_L, m_uR_K, m_uR_N, m_uR_I, m_uR_L, m_uR_R, true_and, and_true, true_implies, false_implies, not_true_eq_false, not_false_eq_true, if_true, if_false, false_and, and_false]
  rw [br_n p3]
  constructor
  · intro q
    by_cases c : mI M 277 48 = 8
    · exact q.2 (fun w => w c)
    · exact q.1 c
  · intro q; exact ⟨fun _ => q, fun _ => q⟩
/-- a sign is held back -/
theorem m_holds (d z a c o : Nat) (k ph : Nat) (bg : Bool) (pr : Nat) (os : List Nat) (F : List Frm) (vs : List Den) (M : am_M) (Q : Option Value → am_M → Prop) (hL : Lay M) (hP : PzM M z a c ((k, ph, bg, pr, os) :: F) vs) (ho : o ≤ 22) (hb : sumO F + os.length < 500)
    (hQ : ∀ M', gF (fun b j => (b = 311 ∧ j = sumO F + os.length) ∨ (b = 277 ∧ j = 50)) nT M M' → PzM M' z a c ((k, ph, bg, pr, o :: os) :: F) vs → Q none M') : am_E am_P0 d 186 [.ref 277, .int (nI o)] M Q := by
  obtain ⟨p1, p2, ⟨f1, f2, f3, f4, f5, f6, f7⟩, p4, p5, p6⟩ := hP
  have eO : sumO ((k, ph, bg, pr, os) :: F) = sumO F + os.length := rfl
  have eO' : sumO ((k, ph, bg, pr, o :: os) :: F) = sumO F + os.length + 1 := rfl
  rw [eO] at p6
  have g : gF (fun b j => (b = 311 ∧ j = sumO F + os.length) ∨ (b = 277 ∧ j = 50)) nT M (uI (uI M 311 (sumO F + os.length) (nI o)) 277 50 (nI (sumO F + os.length + 1))) := gF_trans (gF_i _ (Or.inl ⟨rfl, rfl⟩)) (gF_i _ (Or.inr ⟨rfl, rfl⟩))
  have kk : ∀ b j, ¬ ((b = 311 ∧ j = sumO F + os.length) ∨ (b = 277 ∧ j = 50)) → mI (uI (uI M 311 (sumO F + os.length) (nI o)) 277 50 (nI (sumO F + os.length + 1))) b j = mI M b j := g.1
  have h0 := hQ _ g ⟨FmM_g p1 g (fun j q w => by omega), CdM_g p2 g (fun b j q _ _ w => by omega), ⟨by rw [kk _ _ (by omega)]; exact f1, by rw [kk _ _ (by omega)]; exact f2, by rw [kk _ _ (by omega)]; exact f3, fun q => by rw [kk _ _ (by omega)]; exact f4 q, by rw [kk _ _ (by omega)]; exact f5, ⟨by rw [m_uI_I, if_neg (by omega), m_uI_I, if_pos ⟨rfl, rfl⟩], ho, OpM_g g os f6 (fun j q1 q2 w => by omega)⟩, HpM_g g F f7 (fun b j q1 q2 _ w => by omega) (fun j q w => by omega)⟩, by rw [kk _ _ (by omega)]; exact p4, by rw [kk _ _ (by omega)]; exact p5, by rw [m_uI_I, if_pos ⟨rfl, rfl⟩, eO']⟩
  rw [eX11_holdsBack]
  simp +decide (disch := omega) only [qX11_holdsBack, lm hL, p6, ni_in_t, ni_tn, ni_add1, am_w1_i, am_w1_r, am_w1_x, am_w1_l, am_w1_w, va_rf_s, am_push_n, am_push_s, am_cs_0, am_cs_i, am_cs_l, am_cs_r, m_uI_K, m_uI_N, m_uI_R, m_uI_L, m_uI_I, m_uL_K, m_uL_N, m_uL_R, m_uL_I, m_uL_L, m_uR_K, m_uR_N, m_uR_I, m_uR_L, m_uR_R, true_and, and_true, true_implies, false_implies, not_true_eq_false, not_false_eq_true, if_true, if_false, false_and, and_false]
  exact h0
theorem m_joins (d z a c l : Nat) (k ph : Nat) (bg : Bool) (pr : Nat) (os : List Nat) (F : List Frm) (vs : List Den) (M : am_M) (Q : Option Value → am_M → Prop) (hL : Lay M) (hP : PzM M z a c ((k, ph, bg, pr, os) :: F) vs) (hl : l ≤ 6) (hF : F.length ≤ 8) (hten : ∀ o, o ∈ os → 10 ≤ o) (hb : sumO F + os.length ≤ 500) (hc : c + os.length ≤ 1800) (hj : jok l os vs)
    (hQ : ∀ M' c', gF (sJm z a) nT M M' → c' + (jns l os vs).1.length = c + os.length → PzM M' z a c' ((k, ph, bg, pr, (jns l os vs).1) :: F) (jns l os vs).2 → Q none M') : am_E am_P0 (d + 1) 185 [.ref 277, .int (nI l)] M Q := by
  obtain ⟨p1, p2, ⟨f1, f2, f3, f4, f5, f6, f7⟩, p4, p5, p6⟩ := hP
  have eO : sumO ((k, ph, bg, pr, os) :: F) = sumO F + os.length := rfl
  rw [eO] at p6
  rw [eX11_joins]
  refine l_m_joins d z a l (sumO F) F.length M Q hL hl (by omega) p4 f5 os vs c M (gF_refl _ _ _) hten f6 hb p6 p1 p2 hj hc (fun M' c' g e q1 q2 q3 q4 => hQ M' c' g e ?_)
  have kk : ∀ b j, ¬ sJm z a b j → mI M' b j = mI M b j := g.1
  have nj : ∀ b j, 306 ≤ b → b ≤ 311 → ¬ sJm z a b j := fun b j h1 h2 w => by unfold sJm at w; omega
  exact ⟨q1, q2, ⟨by rw [kk _ _ (nj _ _ (by omega) (by omega))]; exact f1, by rw [kk _ _ (nj _ _ (by omega) (by omega))]; exact f2, by rw [kk _ _ (nj _ _ (by omega) (by omega))]; exact f3, fun q => by rw [kk _ _ (nj _ _ (by omega) (by omega))]; exact f4 q, by rw [kk _ _ (nj _ _ (by omega) (by omega))]; exact f5, q4, HpM_g g F f7 (fun b j h1 h2 _ w => nj _ _ h1 (by omega) w) (fun j _ w => nj _ _ (by omega) (by omega) w)⟩, by rw [kk _ _ (fun w => by unfold sJm at w; omega)]; exact p4, by rw [kk _ _ (fun w => by unfold sJm at w; omega)]; exact p5, q3⟩
end
