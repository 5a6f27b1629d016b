/-! the class: sea() -/
def sSq (z a j : Nat) : Prop := sSea z a j ∨ (a = 0 ∧ (j = 1 ∨ j = 5 ∨ j = 6)) ∨ (a = 169 ∧ j = 1)
def sTk (a j : Nat) : Prop := ∃ s, s < 8 ∧ sTb s a j
def sSr (z a j : Nat) : Prop := sSq z a j ∨ (a = 0 ∧ j = 13) ∨ sTk a j
def tSr (a j : Nat) : Prop := tOp a j ∨ (a = 0 ∧ (j = 2 ∨ j = 3)) ∨ ∃ s, s < 8 ∧ tTb s a j
set_option maxRecDepth 100000 in
theorem ly_no23 : ∀ q ∈ ly_F, ¬ (q.1 = 0 ∧ (q.2.1 = 2 ∨ q.2.1 = 3)) := by decide +kernel
/-- a track that begins -/
def TkB (M : am_M) (z : Nat) (D : Dat) (s : Nat) (sp : Shp) : Prop := TrW M s sp.2.2.1 (fun p => p < 256 ∧ sp.2.2.2.1 ≤ dpF (dC D) (dR D) (dRd D) p) ∧ mR M (173 + 13 * s) 0 = some (z + 25 + 7 * s) ∧ mR M (173 + 13 * s) 1 = some z ∧ mI M (173 + 13 * s) 4 = 0 ∧ mI M (173 + 13 * s) 5 = 0 ∧ mI M (173 + 13 * s) 6 = 0
theorem TrW_gF {M M' : am_M} {s v : Nat} {wt : Nat → Prop} {S T' : Nat → Nat → Prop} (h : TrW M s v wt) (hI : RInv M) (hs : s < 8) (hg : gF S T' M M') (h1 : ∀ a j, a = 174 + 13 * s ∨ a = 175 + 13 * s ∨ a = 177 + 13 * s ∨ 336 ≤ a → ¬ S a j) (h2 : ∀ j, ¬ T' (176 + 13 * s) j) : TrW M' s v wt := by
  obtain ⟨a1, a2, a3, a4⟩ := h
  refine ⟨by rw [hg.1 _ _ (h1 _ _ (by omega))]; exact a1, a2, fun q => (inS_ext (fun i _ => hg.2.1 _ _ (h1 _ _ (by omega))) q).trans (a3 q), fun p hp => ?_⟩
  obtain ⟨k1, k2⟩ := a4 p hp
  refine ⟨by rw [hg.1 _ _ (h1 _ _ (by omega))]; exact k1, fun hk => ?_⟩
  rw [hg.1 _ _ (h1 _ _ (by omega))] at hk
  obtain ⟨r, q1, q2⟩ := k2 hk
  have hr := (hI.1 s p r hs hp q1).1
  exact ⟨r, by rw [hg.2.2.1 _ _ (h2 _)]; exact q1, fun i hi q => (inS_ext (fun j _ => hg.2.1 r _ (h1 _ _ (by omega))) q).trans (q2 i hi q)⟩
theorem tTb_176 {s s' a j : Nat} (hs : s < 8) (hs' : s' < 8) (h : tTb s a j) : ¬ a = 176 + 13 * s' := by unfold tTb at h; omega
theorem TkB_g {M M' : am_M} {z s' s : Nat} {D : Dat} {sp : Shp} (h : TkB M z D s' sp) (hI : RInv M) (hs : s < 8) (hs' : s' < 8) (hne : ¬ s' = s) (hg : gF (sTb s) (tTb s) M M') : TkB M' z D s' sp := by
  obtain ⟨a1, a2, a3, a4, a5, a6⟩ := h
  have k : ∀ j, mI M' (173 + 13 * s') j = mI M (173 + 13 * s') j := fun j => hg.1 _ _ (by unfold sTb sWb; omega)
  have kr : ∀ j, mR M' (173 + 13 * s') j = mR M (173 + 13 * s') j := fun j => hg.2.2.1 _ _ (by unfold tTb; omega)
  exact ⟨TrW_gF a1 hI hs' hg (fun a j q w => by unfold sTb sWb at w; omega) (fun j w => by unfold tTb at w; omega), by rw [kr]; exact a2, by rw [kr]; exact a3, by rw [k]; exact a4, by rw [k]; exact a5, by rw [k]; exact a6⟩
theorem PsX_t {M M' : am_M} {z c : Nat} {D : Dat} {S T' : Nat → Nat → Prop} (hz : z = 2 ∨ z = 83) (hP : PsX M z D c) (hD : DOK D) (hg : gF S T' M M') (h1 : ∀ a j, z ≤ a → a ≤ z + 80 → ¬ S a j ∨ (z + 21 ≤ a ∧ a ≤ z + 24) ∨ a = z + 8) : PsX M' z D c := by
  refine PsX_g hP hg hD.2.2.1.1 (fun a j q1 q2 q3 q4 q5 q6 => ?_) (FmX_g hP.2.2.2.2 hg ?_) (Nat.le_refl _)
  · rcases h1 a j q1 q2 with w | w | w
    · exact w
    · exact absurd w q5
    · exact absurd w q6
  · rcases h1 (z + 6) 1 (by omega) (by omega) with w | w | w
    · exact w
    · omega
    · omega
section
variable {T : Nat → Nat} {n z : Nat}
theorem l_x_begins (hz : z = 2 ∨ z = 83) (d c k : Nat) (D : Dat) (cst : Nat → Nat) (qut : Nat → Nat → Prop) (v2 : Value) (M0 : am_M) (Q : Option Value → am_M → Prop) (hD : DOK D) (hv2 : am_w1 v2 = v2)
    (hQ : ∀ M', gF sTk (fun a j => ∃ s, s < 8 ∧ tTb s a j) M0 M' → Lay M' → RInv M' → PsX M' z D c → SqX M' z (dpF (dC D) (dR D) (dRd D)) cst qut → (∀ s sp, (dSh D)[s]? = some sp → TkB M' z D s sp) → Q (some (.int (nI k))) (uI M' 0 13 0)) :
    ∀ (m s : Nat), s + m = (dSh D).length → ∀ (M : am_M), gF sTk (fun a j => ∃ s, s < 8 ∧ tTb s a j) M0 M → Lay M → RInv M → mR M 0 2 = some z → PsX M z D c → SqX M z (dpF (dC D) (dR D) (dRd D)) cst qut → (∀ s' sp, s' < s → (dSh D)[s']? = some sp → TkB M z D s' sp) → am_P am_P0 (d + 122) (am_look tX10_sea) 151 [.ref 0, .int (nI k), v2, .int (nI s)] [] M Q := by
  have h8 := hD.2.2.1.1
  intro m
  induction m with
  | zero =>
    intro s hs M hg hL hI hr hP hS hT
    have e : s = (dSh D).length := by omega
    subst e
    have hle : nI (dSh D).length ≤ nI (dSh D).length := (ni_le (by omega) (by omega)).mpr (Nat.le_refl _)
    have h0 := hQ M hg hL hI hP hS (fun s sp hsp => hT s sp (List.getElem?_eq_some_iff.mp hsp).1 hsp)
    rw [hX10_sea_151]
    simp +decide only [qX10_sea_0, qX10_sea_1, qX10_sea_2, lx hL, lz hL hz, hr, hP.1.2.2.2, am_w1_i, am_w1_r, am_w1_x, am_w1_l, am_w1_w, va_rf_s, am_push_n, am_push_s, am_cs_0, am_cs_i, am_cs_l, am_cs_r, m_uI_K, m_uI_N, m_uI_R, m_uI_L, m_uI_I, m_uL_K, m_uL_N, m_uL_R, m_uL_I, m_uL_L, m_uR_K, m_uR_N, m_uR_I, m_uR_L, m_uR_R, true_and, and_true, true_implies, false_implies, not_true_eq_false, not_false_eq_true, if_true, if_false, false_and, and_false]
    rw [br_p hle]
    exact h0
  | succ m ih =>
    intro s hs M hg hL hI hr hP hS hT
    have hs8 : s < 8 := by omega
    have hlt : ¬ nI (dSh D).length ≤ nI s := by rw [ni_le (by omega) (by omega)]; omega
    obtain ⟨sp, hsp⟩ : ∃ sp, (dSh D)[s]? = some sp := ⟨(dSh D)[s]'(by omega), List.getElem?_eq_getElem (by omega)⟩
    have hok := hD.2.2.1.2.2 sp (List.mem_of_getElem? hsp)
    have hSh := hP.2.1 s sp hsp
    have htr := ltr hL hs8
    have hrr := lsh hL hz hs8
    have hg7 : isSh (z + 25 + 7 * s) := ⟨s, hs8, by omega⟩
    have hkt : mK M (173 + 13 * s) = 18 := (lt_ hL (isTr_of hs8)).1
    rw [hX10_sea_151]
    simp +decide (disch := omega) only [qX10_sea_0, qX10_sea_1, qX10_sea_2, lx hL, lz hL hz, hr, hP.1.2.2.2, htr, hrr, hkt, ni_in_t, ni_tn, am_w1_i, am_w1_r, am_w1_x, am_w1_l, am_w1_w, va_rf_s, am_push_n, am_push_s, am_cs_0, am_cs_i, am_cs_l, am_cs_r, m_uI_K, m_uI_N, m_uI_R, m_uI_L, m_uI_I, m_uL_K, m_uL_N, m_uL_R, m_uL_I, m_uL_L, m_uR_K, m_uR_N, m_uR_I, m_uR_L, m_uR_R, true_and, and_true, true_implies, false_implies, not_true_eq_false, not_false_eq_true, if_true, if_false, false_and, and_false, true_or]
    rw [br_n hlt]
    refine c_x_Tbegin (d + 119) s (z + 25 + 7 * s) z sp.2.2.1 sp.2.2.2.1 (dpF (dC D) (dR D) (dRd D)) M _ hL hs8 hg7 hz hSh.1.2.2.1 hok.2.2.2.2.1 hok.2.2.2.2.2.1 hSh.1.2.2.2.1 hok.2.2.2.2.2.2.2.1 (fun p hp => hS.2.2.1 p hp) (fun M1 g1 L1 T1 r0 r1 f4 f5 f6 => ?_)
    have I1 : RInv M1 := gF_RInv g1 hI (fun a j s' hs' w => tTb_176 hs8 hs' w)
    have P1 : PsX M1 z D c := PsX_t hz hP hD g1 (fun a j q1 q2 => Or.inl (by unfold sTb sWb; omega))
    have S1 : SqX M1 z (dpF (dC D) (dR D) (dRd D)) cst qut := SqX_u hS (fun a j q1 q2 q3 => g1.1 _ _ (by unfold sTb sWb; omega)) (fun a j q => g1.2.1 _ _ (by unfold sTb sWb; omega))
    have h0 := ih (s + 1) (by omega) M1 (gF_trans hg (gF_up g1 (fun a j q => ⟨s, hs8, q⟩) (fun a j q => ⟨s, hs8, q⟩))) L1 I1 (by rw [g1.2.2.1 _ _ (by unfold tTb; omega)]; exact hr) P1 S1 (fun s' sp' hs' hsp' => by
      by_cases e : s' = s
      · subst e
        cases hsp.symm.trans hsp'
        exact ⟨T1, r0, r1, f4, f5, f6⟩
      · exact TkB_g (hT s' sp' (by omega) hsp') hI hs8 (by omega) e g1)
    simp +decide only [qX10_sea_0, qX10_sea_1, qX10_sea_2, hv2, ni_add1, am_w1_i, am_w1_r, am_w1_x, am_w1_l, am_w1_w, va_rf_s, am_push_n, am_push_s, am_cs_0, am_cs_i, am_cs_l, am_cs_r, m_uI_K, m_uI_N, m_uI_R, m_uI_L, m_uI_I, m_uL_K, m_uL_N, m_uL_R, m_uL_I, m_uL_L, m_uR_K, m_uR_N, m_uR_I, m_uR_L, m_uR_R, true_and, and_true, true_implies, false_implies, not_true_eq_false, not_false_eq_true, if_true, if_false, false_and, and_false]
    exact h0
theorem spSize_C {t : Tok} {q : Tok × Dat} (h : spSize T n dat0 t = .inr q) : 1 ≤ dC q.2 ∧ 1 ≤ dR q.2 := by
  unfold spSize at h
  obtain ⟨t1, h1, h2⟩ := bR_inr h
  have hv := numR_v h1
  obtain ⟨t0, ht0⟩ := numR_i h1
  have hv0 := numR_v ht0
  cases h2
  exact ⟨by show 1 ≤ (numR T n 2 16 (advR T n t)).2; omega, by show 1 ≤ (numR T n 2 16 (numR T n 2 16 (advR T n t)).1).2; omega⟩
/-- the first statement -/
noncomputable def spF (T : Nat → Nat) (n : Nat) : Rq := bR (advR T n tk0) (fun t => if isW t (ownW.getD 0 []) = true then sgT T n (spSize T n dat0 t) else .inl (1, tS t))
theorem spTx_F : spTx T n = match spF T n with
    | .inl e => some (.inl e)
    | .inr q => spR T n (n + 2) 1 q.2 q.1 := by
  unfold spTx spF
  rw [show ((0, 0, [], 0, 0) : Tok) = tk0 from rfl]
  cases advR T n tk0 with
  | inl e => rfl
  | inr t =>
    unfold bR
    dsimp only
    by_cases c : isW t (ownW.getD 0 []) = true
    · rw [if_pos c, if_pos c]
      unfold sgT
      cases spSize T n dat0 t with
      | inl e => rfl
      | inr q => cases signR T n 59 (.inr q.1) <;> rfl
    · rw [if_neg c, if_neg c]
theorem c_x_sea (hz : z = 2 ∨ z = 83) (hn : n ≤ 1800) (d z0 : Nat) (M : am_M) (Q : Option Value → am_M → Prop) (hL : Lay M) (hI : RInv M) (hz0 : z0 = 2 ∨ z0 = 83) (hr2 : mR M 0 2 = some z0) (hr3 : mR M 0 3 = some z) (h1 : mI M 0 1 = nI n) (hT : ∀ j, j < 1800 → T j < 256 ∧ mI M 1 j = nI (T j)) (hO : OwX M)
    (hF : ∀ M' e, spTx T n = some (.inl e) → gF (sSq z) tOp M M' → Lay M' → mI M' 0 1 = 0 → (1 ≤ e.1 ∧ e.1 ≤ 5) → mI M' 0 5 = nI e.1 → mI M' 169 1 = mI M 169 1 + 1 → Q (some (.int (-1))) M')
    (hN : ∀ M' k D c, spTx T n = some (.inr (k, D)) → k ≤ 1800 → DOK D → 1 ≤ dC D → 1 ≤ dR D → gF (sSr z) tSr M M' → Lay M' → RInv M' → mR M' 0 2 = some z → mR M' 0 3 = some z0 → PsX M' z D c → SqX M' z (dpF (dC D) (dR D) (dRd D)) (csF (dC D) (dR D) (dRd D) (dRc D)) (qtF (dC D) (dR D) (dRd D) (dRq D)) → (∀ s sp, (dSh D)[s]? = some sp → TkB M' z D s sp) → mI M' 0 1 = 0 → mI M' 0 5 = 0 → mI M' 0 6 = -1 → mI M' 0 13 = 0 → mI M' 169 1 = mI M 169 1 → Q (some (.int (nI k))) M') : am_E am_P0 (d + 122) 111 [.ref 0] M Q := by
  -- from the end of the reading
  have endF : ∀ M' e x v2 v3, spTx T n = some (.inl e) → gF (sSea z) tOp M M' → Lay M' → FaX M' z T n e → am_P am_P0 (d + 122) (am_look tX10_sea) 72 [.ref 0, .int x, v2, v3] [] M' Q := by
    intro M' e x v2 v3 hs g L' F'
    have h8 := F'.1.2.2.1
    obtain ⟨pl, h9⟩ : ∃ pl, mI M' 165 9 = pl := ⟨_, rfl⟩
    have hk := F'.1.2.2.2.1
    have hn8 : ¬ nI e.1 = 0 := fun w => by rw [show (0 : Int32) = nI 0 from rfl, ni_eq (by omega) (by omega)] at w; omega
    have hre : mI M' 169 1 = mI M 169 1 := g.1 _ _ (by unfold sSea; omega)
    obtain ⟨M2, hM2⟩ : ∃ M2, M2 = uI (uI (uI (uI M' 0 1 0) 0 5 (nI e.1)) 0 6 pl) 169 1 (mI M 169 1 + 1) := ⟨_, rfl⟩
    have g2 : gF (sSq z) tOp M' M2 := by rw [hM2]; exact gF_trans (gF_i _ (Or.inr (Or.inl ⟨rfl, by omega⟩))) (gF_trans (gF_i _ (Or.inr (Or.inl ⟨rfl, by omega⟩))) (gF_trans (gF_i _ (Or.inr (Or.inl ⟨rfl, by omega⟩))) (gF_i _ (Or.inr (Or.inr ⟨rfl, rfl⟩)))))
    have h0 := hF M2 e hs (gF_trans (gF_up g (fun a j q => Or.inl q) (fun _ _ q => q)) g2) (by rw [hM2]; exact L') (by rw [hM2]; simp [m_uI_I]) hk (by rw [hM2]; simp [m_uI_I]) (by rw [hM2]; simp [m_uI_I])
    have hin : (1 : Int32).toInt.toNat = 1 := rfl
    simp +decide (disch := omega) only [qX10_sea_0, qX10_sea_1, qX10_sea_2, lx L', h8, h9, hre, hin, am_w1_i, am_w1_r, am_w1_x, am_w1_l, am_w1_w, va_rf_s, am_push_n, am_push_s, am_cs_0, am_cs_i, am_cs_l, am_cs_r, m_uI_K, m_uI_N, m_uI_R, m_uI_L, m_uI_I, m_uL_K, m_uL_N, m_uL_R, m_uL_I, m_uL_L, m_uR_K, m_uR_N, m_uR_I, m_uR_L, m_uR_R, true_and, and_true, true_implies, false_implies, not_true_eq_false, not_false_eq_true, if_true, if_false, false_and, and_false]
    rw [br_n hn8, ← hM2]
    exact h0
  have endN : ∀ M' k D c t v2 v3, spTx T n = some (.inr (k, D)) → k ≤ 1800 → 1 ≤ dC D → 1 ≤ dR D → gF (sSea z) tOp M M' → GdX T n z M' D c t → jk v3 → am_P am_P0 (d + 122) (am_look tX10_sea) 72 [.ref 0, .int (nI k), v2, v3] [] M' Q := by
    intro M' k D c t v2 v3 hs hk hC hR g G' j3
    obtain ⟨L', hp, hRd, hP, hD, hc⟩ := G'
    have h8 := hRd.2.2.1
    have h9 := hRd.2.2.2.2.2.2.2.2.2
    have rr2 : mR M' 0 2 = some z0 := by rw [g.2.2.1 _ _ (by unfold tOp; omega)]; exact hr2
    have rr3 : mR M' 0 3 = some z := by rw [g.2.2.1 _ _ (by unfold tOp; omega)]; exact hr3
    have I' : RInv M' := gF_RInv g hI (fun a j s hs w => by unfold tOp at w; omega)
    have n1 : ¬ (0 = 165) := by omega
    obtain ⟨M2, hM2⟩ : ∃ M2, M2 = uR (uR (uI (uI (uI M' 0 1 0) 0 5 0) 0 6 (-1)) 0 2 (some z)) 0 3 (some z0) := ⟨_, rfl⟩
    have g2 : gF (fun a j => a = 0 ∧ (j = 1 ∨ j = 5 ∨ j = 6)) (fun a j => a = 0 ∧ (j = 2 ∨ j = 3)) M' M2 := by rw [hM2]; exact gF_trans (gF_i _ ⟨rfl, by omega⟩) (gF_trans (gF_i _ ⟨rfl, by omega⟩) (gF_trans (gF_i _ ⟨rfl, by omega⟩) (gF_trans (gF_r _ ⟨rfl, by omega⟩) (gF_r _ ⟨rfl, by omega⟩))))
    have L2 : Lay M2 := gF_Lay g2 L' ly_no23
    have s2 : mR M2 0 2 = some z := by rw [hM2]; simp [m_uR_R]
    have s3 : mR M2 0 3 = some z0 := by rw [hM2]; simp [m_uR_R]
    have I2 : RInv M2 := gF_RInv g2 I' (fun a j s hs w => by omega)
    have P2 : PsX M2 z D c := PsX_t hz hP hD g2 (fun a j q1 q2 => Or.inl (by omega))
    simp +decide (disch := omega) only [qX10_sea_0, qX10_sea_1, qX10_sea_2, lx L', h8, h9, rr2, rr3, lz L' hz, ← hM2, am_w1_i, am_w1_r, am_w1_x, am_w1_l, am_w1_w, va_rf_s, am_push_n, am_push_s, am_cs_0, am_cs_i, am_cs_l, am_cs_r, m_uI_K, m_uI_N, m_uI_R, m_uI_L, m_uI_I, m_uL_K, m_uL_N, m_uL_R, m_uL_I, m_uL_L, m_uR_K, m_uR_N, m_uR_I, m_uR_L, m_uR_R, true_and, and_true, true_implies, false_implies, not_true_eq_false, not_false_eq_true, if_true, if_false, false_and, and_false]
    simp +decide (disch := omega) only [qX10_sea_0, qX10_sea_1, qX10_sea_2, lx L2, s2, lz L2 hz, am_w1_i, am_w1_r, am_w1_x, am_w1_l, am_w1_w, va_rf_s, am_push_n, am_push_s, am_cs_0, am_cs_i, am_cs_l, am_cs_r, m_uI_K, m_uI_N, m_uI_R, m_uI_L, m_uI_I, m_uL_K, m_uL_N, m_uL_R, m_uL_I, m_uL_L, m_uR_K, m_uR_N, m_uR_I, m_uR_L, m_uR_R, true_and, and_true, true_implies, false_implies, not_true_eq_false, not_false_eq_true, if_true, if_false, false_and, and_false]
    have hcl := P2.2.2.2.2.2
    refine c_x_measure (d + 116) z (dC D) (dR D) (dRd D) (dRc D) (dRq D) M2 _ L2 hz P2.1.1 hD.1.1 P2.1.2.1 hD.1.2 (RlC_X P2.2.2.2.1.1 hcl hD.2.2.2.2.2.2.2.2.1 (by omega)) (RlC_X P2.2.2.2.1.2.1 hcl hD.2.2.2.2.2.2.2.2.2.1 (by omega)) (RlC_X P2.2.2.2.1.2.2 hcl hD.2.2.2.2.2.2.2.2.2.2 (by omega)) hD.2.2.2.2.2.2.2.2.2.2.1 (fun M3 g3 S3 => ?_)
    have L3 := gF_LayN g3 L2
    have I3 : RInv M3 := gF_RInv g3 I2 (fun a j s hs w => w.elim)
    have P3 : PsX M3 z D c := PsX_t hz P2 hD g3 (fun a j q1 q2 => by
      by_cases w : sMe z a j
      · unfold sMe at w; rcases w with w | w
        · exact Or.inr (Or.inr w)
        · exact Or.inr (Or.inl w)
      · exact Or.inl w)
    simp +decide only [qX10_sea_0, qX10_sea_1, qX10_sea_2, am_w1_i, am_w1_r, am_w1_x, am_w1_l, am_w1_w, va_rf_s, am_push_n, am_push_s, am_cs_0, am_cs_i, am_cs_l, am_cs_r, m_uI_K, m_uI_N, m_uI_R, m_uI_L, m_uI_I, m_uL_K, m_uL_N, m_uL_R, m_uL_I, m_uL_L, m_uR_K, m_uR_N, m_uR_I, m_uR_L, m_uR_R, true_and, and_true, true_implies, false_implies, not_true_eq_false, not_false_eq_true, if_true, if_false, false_and, and_false]
    rw [show (0 : Int32) = nI 0 from rfl]
    refine l_x_begins hz d c k D _ _ _ M3 Q hD rfl (fun M4 g4 L4 I4 P4 S4 T4 => ?_) (dSh D).length 0 (by omega) M3 (gF_refl _ _ _) L3 I3 (by rw [g3.2.2.1 _ _ (fun w => w)]; exact s2) P3 S3 (fun s' sp hs' => by omega)
    have g5 : gF (fun a j => a = 0 ∧ j = 13) nT M4 (uI M4 0 13 0) := gF_i _ ⟨rfl, rfl⟩
    have k4 : ∀ j, mI M4 0 j = mI M2 0 j := fun j => by
      rw [g4.1 _ _ (fun ⟨s, hs, w⟩ => by unfold sTb sWb at w; omega), g3.1 _ _ (by unfold sMe; omega)]
    have kr : ∀ j, mR M4 0 j = mR M2 0 j := fun j => by
      rw [g4.2.2.1 _ _ (fun ⟨s, hs, w⟩ => by unfold tTb at w; omega), g3.2.2.1 _ _ (fun w => w)]
    refine hN (uI M4 0 13 0) k D c hs hk hD hC hR ?_ L4 ?_ ?_ ?_ (PsX_t hz P4 hD g5 (fun a j q1 q2 => Or.inl (by omega))) (SqX_u S4 (fun a j q1 q2 q3 => g5.1 _ _ (by omega)) (fun a j q => g5.2.1 _ _ (by omega))) (fun s sp hsp => ?_) ?_ ?_ ?_ (by rw [m_uI_I, if_pos ⟨rfl, rfl⟩]) (by rw [m_uI_I, if_neg (by omega), g4.1 _ _ (fun ⟨s, hs, w⟩ => by unfold sTb sWb at w; omega), g3.1 _ _ (by unfold sMe; omega), g2.1 _ _ (by omega), g.1 _ _ (by unfold sSea; omega)])
    · refine gF_trans (gF_up g (fun a j q => Or.inl (Or.inl q)) (fun a j q => Or.inl q)) (gF_trans (gF_up g2 (fun a j q => Or.inl (Or.inr (Or.inl q))) (fun a j q => Or.inr (Or.inl q))) (gF_trans (gF_up g3 (fun a j q => Or.inl (Or.inl (by unfold sMe at q; unfold sSea; omega))) (fun a j q => q.elim)) (gF_trans (gF_up g4 (fun a j q => Or.inr (Or.inr q)) (fun a j q => Or.inr (Or.inr q))) (gF_up g5 (fun a j q => Or.inr (Or.inl q)) (fun a j q => q.elim)))))
    · exact gF_RInv g5 I4 (fun a j s hs w => w.elim)
    · show mR M4 0 2 = _; rw [kr]; exact s2
    · show mR M4 0 3 = _; rw [kr]; exact s3
    · have h8 := hD.2.2.1.1
      have hsl := (List.getElem?_eq_some_iff.mp hsp).1
      obtain ⟨a1, a2, a3, a4, a5, a6⟩ := T4 s sp hsp
      have k : ∀ j, mI (uI M4 0 13 0) (173 + 13 * s) j = mI M4 (173 + 13 * s) j := fun j => by rw [m_uI_I, if_neg (by omega)]
      exact ⟨TrW_gF a1 I4 (by omega) g5 (fun a j q w => by omega) (fun j w => w), a2, a3, by rw [k]; exact a4, by rw [k]; exact a5, by rw [k]; exact a6⟩
    · rw [m_uI_I, if_neg (by omega), k4, hM2]; simp [m_uI_I, m_uR_I]
    · rw [m_uI_I, if_neg (by omega), k4, hM2]; simp [m_uI_I, m_uR_I]
    · rw [m_uI_I, if_neg (by omega), k4, hM2]; simp [m_uI_I, m_uR_I]
  have hlz := lz hL hz
  rw [eX10_sea]
  simp +decide only [qX10_sea_0, qX10_sea_1, qX10_sea_2, lx hL, hlz, hr3, h1, am_w1_i, am_w1_r, am_w1_x, am_w1_l, am_w1_w, va_rf_s, am_push_n, am_push_s, am_cs_0, am_cs_i, am_cs_l, am_cs_r, m_uI_K, m_uI_N, m_uI_R, m_uI_L, m_uI_I, m_uL_K, m_uL_N, m_uL_R, m_uL_I, m_uL_L, m_uR_K, m_uR_N, m_uR_I, m_uR_L, m_uR_R, true_and, and_true, true_implies, false_implies, not_true_eq_false, not_false_eq_true, if_true, if_false, false_and, and_false]
  refine c_x_popen (d + 118) M _ hL hz hn hT hO (fun M1 g1 L1 p1 P1 h1' => ?_)
  simp +decide only [qX10_sea_0, qX10_sea_1, qX10_sea_2, am_w1_i, am_w1_r, am_w1_x, am_w1_l, am_w1_w, va_rf_s, am_push_n, am_push_s, am_cs_0, am_cs_i, am_cs_l, am_cs_r, m_uI_K, m_uI_N, m_uI_R, m_uI_L, m_uI_I, m_uL_K, m_uL_N, m_uL_R, m_uL_I, m_uL_L, m_uR_K, m_uR_N, m_uR_I, m_uR_L, m_uR_R, true_and, and_true, true_implies, false_implies, not_true_eq_false, not_false_eq_true, if_true, if_false, false_and, and_false]
  rw [hX10_sea_21]
  have D0 : DOK dat0 := ⟨⟨by decide, by decide⟩, by decide, ⟨by decide, rfl, fun s hs => absurd hs List.not_mem_nil⟩, fun s y hy => absurd hy List.not_mem_nil, fun s => List.Pairwise.nil, by decide, ⟨⟨by decide, fun k hk => absurd hk List.not_mem_nil⟩, fun k hk => absurd hk List.not_mem_nil⟩, ⟨by decide, fun g hg => absurd hg List.not_mem_nil⟩, ⟨by decide, fun r hr => absurd hr List.not_mem_nil⟩, ⟨by decide, fun r hr => absurd hr List.not_mem_nil⟩, ⟨by decide, fun r hr => absurd hr List.not_mem_nil⟩⟩
  simp +decide only [qX10_sea_0, qX10_sea_1, qX10_sea_2, lx L1, am_w1_i, am_w1_r, am_w1_x, am_w1_l, am_w1_w, va_rf_s, am_push_n, am_push_s, am_cs_0, am_cs_i, am_cs_l, am_cs_r, m_uI_K, m_uI_N, m_uI_R, m_uI_L, m_uI_I, m_uL_K, m_uL_N, m_uL_R, m_uL_I, m_uL_L, m_uR_K, m_uR_N, m_uR_I, m_uR_L, m_uR_R, true_and, and_true, true_implies, false_implies, not_true_eq_false, not_false_eq_true, if_true, if_false, false_and, and_false]
  have upF : ∀ {M' M'' : am_M}, gF (sSea z) tOp M M' → gF (sSea z) nT M' M'' → gF (sSea z) tOp M M'' := fun h h' => gF_trans h (gF_up h' (fun _ _ q => q) (fun _ _ q => q.elim))
  -- the first statement's end
  have first : ∀ (t : Tok) (M2 : am_M) (res : Rq), gF (sSea z) tOp M M1 → EdX T n z t M1 M2 res → Lay M2 → (∀ e, sgT T n res = .inl e → spF T n = .inl e) → (∀ q, sgT T n res = .inr q → spF T n = .inr q ∧ 1 ≤ dC q.2 ∧ 1 ≤ dR q.2) → am_P am_P0 (d + 122) (am_look tX10_sea) 37 [.ref 0, .int 0, am_x, am_x] [] M2 Q := by
    intro t M2 res gg E2 L2 hf hq
    have h9 := l_x_sea49 hz hn d 0 am_x am_x t M1 M2 Q res E2 L2 (Nat.zero_le _) (fun M' e x he g L' F' => endF M' e x _ _ (by rw [spTx_F, hf e he]) (upF gg g) L' F') (fun M' D' c' t' he g G' hk' htt => ?_)
    · exact h9
    · obtain ⟨hsp, hC, hR⟩ := hq _ he
      by_cases c0 : t'.1 = 0
      · rw [if_pos c0]
        refine endN M' 1 D' c' t' _ _ ?_ (by omega) hC hR (upF gg g) G' (Or.inl rfl)
        rw [spTx_F, hsp]
        show (if t'.1 = 0 then _ else _) = _
        rw [if_pos c0]
      · rw [if_neg c0]
        refine l_x_seaL hz hn d am_x am_x M1 Q (n + 2) 1 D' c' t' M' (by omega) (by omega) hk' c0 hC hR g G' (fun M'' e x h1 g1 L1 F1 => endF M'' e x _ _ (by rw [spTx_F, hsp]; exact h1) (upF gg g1) L1 F1) (fun M'' k' D'' c'' t'' h1 hk1 h2 h3 g1 G1 => endN M'' k' D'' c'' t'' _ _ (by rw [spTx_F, hsp]; exact h1) hk1 h2 h3 (upF gg g1) G1 (Or.inl rfl))
  cases ha : advR T n tk0 with
  | inl e =>
    rw [ha] at h1'
    have hF1 : FaX M1 z T n e := ⟨h1', p1, 0, P1.2.2.2.2⟩
    have h6 : mI M1 165 6 = -1 := hF1.1.2.2.2.2.2.2
    rw [eX2_readStatement]
    simp +decide only [qX2_readStatement_0, qX2_readStatement_1, lx L1, h6, am_w1_i, am_w1_r, am_w1_x, am_w1_l, am_w1_w, va_rf_s, am_push_n, am_push_s, am_cs_0, am_cs_i, am_cs_l, am_cs_r, m_uI_K, m_uI_N, m_uI_R, m_uI_L, m_uI_I, m_uL_K, m_uL_N, m_uL_R, m_uL_I, m_uL_L, m_uR_K, m_uR_N, m_uR_I, m_uR_L, m_uR_R, true_and, and_true, true_implies, false_implies, not_true_eq_false, not_false_eq_true, if_true, if_false, false_and, and_false]
    rw [show (1 : Int32) = nI 1 from rfl]
    refine c_x_refuse (d + 119) n 1 T (.inl e) M1 _ L1 (by omega) h1' (fun M2 g2 h2 => ?_)
    have h9 := first tk0 M2 (.inl e) g1 ⟨sRd_S g2, FaX_r hF1 hz h2 g2⟩ (gF_LayN g2 L1) (fun e' he' => by unfold spF; rw [ha]; cases he'; rfl) (fun q hq => by cases hq)
    simp +decide only [qX2_readStatement_0, qX2_readStatement_1, qX10_sea_0, qX10_sea_1, qX10_sea_2, lx (gF_LayN g2 L1), am_w1_i, am_w1_r, am_w1_x, am_w1_l, am_w1_w, va_rf_s, am_push_n, am_push_s, am_cs_0, am_cs_i, am_cs_l, am_cs_r, m_uI_K, m_uI_N, m_uI_R, m_uI_L, m_uI_I, m_uL_K, m_uL_N, m_uL_R, m_uL_I, m_uL_L, m_uR_K, m_uR_N, m_uR_I, m_uR_L, m_uR_R, true_and, and_true, true_implies, false_implies, not_true_eq_false, not_false_eq_true, if_true, if_false, false_and, and_false] at h9 ⊢
    exact h9
  | inr t =>
    rw [ha] at h1'
    have hG1 : GdX T n z M1 dat0 0 t := ⟨L1, p1, h1', P1, D0, Nat.zero_le _⟩
    have hst : StR M1 T n (.inr t) := h1'
    have hw0 := wr_is (k := 0) hst (by omega)
    by_cases w0 : isW t (ownW.getD 0 []) = true
    · have h6 := hw0.mpr w0
      have et : am_tab (0) [120, 127, 142, 157, 172, 227, 227, 227, 227, 179, 227, 227, 186, 227, 227, 193, 227, 200] 227 (nI 0) = 120 := by decide
      rw [eX2_readStatement]
      simp +decide only [qX2_readStatement_0, qX2_readStatement_1, lx L1, h6, show nI 0 = (0 : Int32) from rfl, show am_tab (0) [120, 127, 142, 157, 172, 227, 227, 227, 227, 179, 227, 227, 186, 227, 227, 193, 227, 200] 227 (0 : Int32) = 120 from et, am_w1_i, am_w1_r, am_w1_x, am_w1_l, am_w1_w, va_rf_s, am_push_n, am_push_s, am_cs_0, am_cs_i, am_cs_l, am_cs_r, m_uI_K, m_uI_N, m_uI_R, m_uI_L, m_uI_I, m_uL_K, m_uL_N, m_uL_R, m_uL_I, m_uL_L, m_uR_K, m_uR_N, m_uR_I, m_uR_L, m_uR_R, true_and, and_true, true_implies, false_implies, not_true_eq_false, not_false_eq_true, if_true, if_false, false_and, and_false]
      refine b_size hz (d + 116) 0 t M1 _ hG1 (by have := (isW_1 w0).1; omega) (fun M2 E2 => ?_)
      have L2 : Lay M2 := by
        cases hr : spSize T n dat0 t with
        | inl e => rw [hr] at E2; exact gF_LayN E2.1 L1
        | inr q => rw [hr] at E2; exact gF_LayN E2.1 L1
      have h9 := first t M2 (spSize T n dat0 t) g1 E2 L2 (fun e he => by unfold spF; rw [ha]; show (if _ then _ else _) = _; rw [if_pos w0]; exact he) (fun q hq => ⟨by unfold spF; rw [ha]; show (if _ then _ else _) = _; rw [if_pos w0]; exact hq, by
        cases hr : spSize T n dat0 t with
        | inl e => rw [hr] at hq; cases hq
        | inr q' =>
          rw [hr] at hq
          obtain ⟨t2, -, h2⟩ := bR_inr hq
          cases h2
          exact spSize_C (q := q') hr⟩)
      simp +decide only [qX2_readStatement_0, qX2_readStatement_1, qX10_sea_0, qX10_sea_1, qX10_sea_2, lx L2, am_w1_i, am_w1_r, am_w1_x, am_w1_l, am_w1_w, va_rf_s, am_push_n, am_push_s, am_cs_0, am_cs_i, am_cs_l, am_cs_r, m_uI_K, m_uI_N, m_uI_R, m_uI_L, m_uI_I, m_uL_K, m_uL_N, m_uL_R, m_uL_I, m_uL_L, m_uR_K, m_uR_N, m_uR_I, m_uR_L, m_uR_R, true_and, and_true, true_implies, false_implies, not_true_eq_false, not_false_eq_true, if_true, if_false, false_and, and_false] at h9 ⊢
      exact h9
    · have h60 : ¬ mI M1 165 6 = 0 := fun q => w0 (hw0.mp q)
      rw [eX2_readStatement]
      simp +decide only [qX2_readStatement_0, qX2_readStatement_1, lx L1, am_w1_i, am_w1_r, am_w1_x, am_w1_l, am_w1_w, va_rf_s, am_push_n, am_push_s, am_cs_0, am_cs_i, am_cs_l, am_cs_r, m_uI_K, m_uI_N, m_uI_R, m_uI_L, m_uI_I, m_uL_K, m_uL_N, m_uL_R, m_uL_I, m_uL_L, m_uR_K, m_uR_N, m_uR_I, m_uR_L, m_uR_R, true_and, and_true, true_implies, false_implies, not_true_eq_false, not_false_eq_true, if_true, if_false, false_and, and_false]
      rw [br_p h60, show (1 : Int32) = nI 1 from rfl]
      refine c_x_refuse (d + 119) n 1 T (.inr t) M1 _ L1 (by omega) hst (fun M2 g2 h2 => ?_)
      have F2 : FaX M2 z T n (1, tS t) := ⟨h2, by rw [g2.2.2.1 _ _ (fun w => w)]; exact p1, 0, FmX_g P1.2.2.2.2 g2 (fun w => by unfold sRd at w; omega)⟩
      have h9 := first t M2 (.inl (1, tS t)) g1 ⟨sRd_S g2, F2⟩ (gF_LayN g2 L1) (fun e he => by unfold spF; rw [ha]; show (if _ then _ else _) = _; rw [if_neg w0]; cases he; rfl) (fun q hq => by cases hq)
      simp +decide only [qX2_readStatement_0, qX2_readStatement_1, qX10_sea_0, qX10_sea_1, qX10_sea_2, lx (gF_LayN g2 L1), am_w1_i, am_w1_r, am_w1_x, am_w1_l, am_w1_w, va_rf_s, am_push_n, am_push_s, am_cs_0, am_cs_i, am_cs_l, am_cs_r, m_uI_K, m_uI_N, m_uI_R, m_uI_L, m_uI_I, m_uL_K, m_uL_N, m_uL_R, m_uL_I, m_uL_L, m_uR_K, m_uR_N, m_uR_I, m_uR_L, m_uR_R, true_and, and_true, true_implies, false_implies, not_true_eq_false, not_false_eq_true, if_true, if_false, false_and, and_false] at h9 ⊢
      exact h9
end
