/-! the class's parser: a statement -/
section
variable {T : Nat → Nat} {n z : Nat}
def rmap {α β : Type} (f : α → β) : Sum (Nat × Nat) α → Sum (Nat × Nat) β
  | .inl e => .inl e
  | .inr p => .inr (f p)
theorem rmap_b {α β : Type} (f : α → β) (r : Rt) (k : Tok → Sum (Nat × Nat) α) : rmap f (bR r k) = bR r (fun t => rmap f (k t)) := by cases r <;> rfl
theorem rmap_p {α β : Type} (f : α → β) (g : Nat) (t : Tok) (k : Tok → Den → Sum (Nat × Nat) α) : rmap f (psX T n g t k) = psX T n g t (fun t v => rmap f (k t v)) := by
  unfold psX
  cases ps T n (fuelP n) g 0 t (fun _ => 0) with
  | none => rfl
  | some q => cases q <;> rfl
theorem spSum_r {full : Bool} {t : Tok} {f : Den → Den → Dat} : spSum T n full t f = rmap (fun p => (p.1, f p.2.1 p.2.2)) (spRl T n true full t) := by
  unfold spSum spRl ruK
  cases full with
  | true => rfl
  | false =>
    rw [if_neg (by decide), if_neg (by decide), rmap_b]
    congr 1
    funext t1
    rw [if_pos rfl, rmap_p]
    congr 1
    funext t2 v
    rw [rmap_b]
    congr 1
    funext t3
    rw [rmap_p]
    rfl
theorem spTest_r {full : Bool} {t : Tok} {f : Den → Dat} : spTest T n full t f = rmap (fun p => (p.1, f p.2.2)) (spRl T n false full t) := by
  unfold spTest spRl ruK
  cases full with
  | true => rfl
  | false =>
    rw [if_neg (by decide), if_neg (by decide), rmap_b]
    have e : ∀ (r : Rt) (k : Tok → Sum (Nat × Nat) (Tok × Dat)), bR (wordR T n 18 r) k = bR r (fun t1 => bR (wordR T n 18 (.inr t1)) k) := fun r k => by cases r <;> rfl
    rw [e]
    congr 1
    funext t1
    rw [if_neg (by decide), rmap_b]
    congr 1
    funext t3
    rw [rmap_p]
    rfl
theorem rlOK_a {m : Nat} {R : Rls} {r : Den × Den} (h : rlOK m R) (hl : R.length < m) (h1 : bdS r.1) (h2 : bdT r.2) : rlOK m (R ++ [r]) := by
  refine ⟨by rw [List.length_append]; show R.length + 1 ≤ m; omega, fun q hq => ?_⟩
  rcases List.mem_append.mp hq with w | w
  · exact h.2 q w
  · rw [List.mem_singleton.mp w]; exact ⟨h1, h2⟩
/-- from a rule's end to the statement's -/
theorem ru_all (hz : z = 2 ∨ z = 83) {q N c : Nat} {sm : Bool} {R : Rls} {t : Tok} {M M' : am_M} {D : Dat} (hq : isRq z q N) (hD : DOK D) (hP : PsX M z D c) (g : gF (fun a j => sPz z c a j ∨ (q ≤ a ∧ a ≤ q + 3)) nT M M') {c' : Nat} (hF : FmX M' z c') (hc : c ≤ c') : (mI M' z 0 = nI (dC D) ∧ mI M' z 1 = nI (dR D) ∧ mI M' z 2 = nI (dLk D) ∧ mI M' z 3 = nI (dSh D).length) ∧ (∀ s sp, (dSh D)[s]? = some sp → ShX M' (z + 25 + 7 * s) sp (dY D s) (bkOf (dBk D) s)) ∧ SgX M' z (dSg D) ∧ (¬ q = z + 9 → RlC M' z (z + 9) true (dRd D) c') ∧ (¬ q = z + 13 → RlC M' z (z + 13) true (dRc D) c') ∧ (¬ q = z + 17 → RlC M' z (z + 17) false (dRq D) c') := by
  obtain ⟨⟨a1, a2, a3, a4⟩, b, s, ⟨r1, r2, r3⟩, f⟩ := hP
  have h8 := hD.2.2.1.1
  have k : ∀ a j, ¬ (sPz z c a j ∨ (q ≤ a ∧ a ≤ q + 3)) → mI M' a j = mI M a j := fun a j w => g.1 a j w
  unfold isRq at hq
  refine ⟨⟨by rw [k _ _ (by unfold sPz; omega)]; exact a1, by rw [k _ _ (by unfold sPz; omega)]; exact a2, by rw [k _ _ (by unfold sPz; omega)]; exact a3, by rw [k _ _ (by unfold sPz; omega)]; exact a4⟩, fun s' sp hs' => ?_, SgX_g s g (fun a j q1 q2 w => by unfold sPz at w; omega), fun hne => RlC_le (RlC_g r1 g (fun a j q1 q2 w => by unfold sPz at w; omega) (fun j hj w => by unfold sPz at w; omega)) hc, fun hne => RlC_le (RlC_g r2 g (fun a j q1 q2 w => by unfold sPz at w; omega) (fun j hj w => by unfold sPz at w; omega)) hc, fun hne => RlC_le (RlC_g r3 g (fun a j q1 q2 w => by unfold sPz at w; omega) (fun j hj w => by unfold sPz at w; omega)) hc⟩
  have hsl := (List.getElem?_eq_some_iff.mp hs').1
  exact ShX_g (b s' sp hs') g (fun a j q1 q2 w => by unfold sPz at w; omega)
theorem ru_S {q N c : Nat} {M M' : am_M} (hz : z = 2 ∨ z = 83) (hq : isRq z q N) (g : gF (fun a j => sPz z c a j ∨ (q ≤ a ∧ a ≤ q + 3)) nT M M') : gF (sSea z) nT M M' := gF_up g (fun a j w => by unfold sPz at w; unfold isRq at hq; unfold sSea; omega) (fun _ _ w => w)
theorem tabW : ∀ k, k < 27 → ¬ (k = 0 ∨ k = 1 ∨ k = 2 ∨ k = 3 ∨ k = 4 ∨ k = 9 ∨ k = 12 ∨ k = 15 ∨ k = 17) → am_tab (0) [120, 127, 142, 157, 172, 227, 227, 227, 227, 179, 227, 227, 186, 227, 227, 193, 227, 200] 227 (nI k) = 227 := by decide
theorem word_r {M : am_M} {t : Tok} (h : RdX M T n t) : mI M 165 6 = -1 ∨ ∃ k, k < 27 ∧ mI M 165 6 = nI k := by
  have h6 := h.2.2.2.2.2.2.1
  by_cases c : t.1 = 1
  · rw [if_pos c] at h6
    unfold owI at h6
    by_cases c2 : ownW.findIdx (fun w => w == t.2.2.1) < 27
    · rw [if_pos c2] at h6; exact Or.inr ⟨_, c2, h6⟩
    · rw [if_neg c2] at h6; exact Or.inl h6
  · rw [if_neg c] at h6; exact Or.inl h6
theorem isW_ne {t : Tok} {i j : Nat} (hi : i < 27) (hj : j < 27) (h : isW t (ownW.getD i []) = true) (hn : ¬ i = j) : ¬ isW t (ownW.getD j []) = true := fun q => hn (ownW_nd i hi j hj (isW_uniq h q))
theorem b_stmt (hz : z = 2 ∨ z = 83) (hn : n ≤ 1800) (d c : Nat) (D : Dat) (t : Tok) (M : am_M) (Q : Option Value → am_M → Prop) (hG : GdX T n z M D c t) (hC : 1 ≤ dC D) (hRr : 1 ≤ dR D) (h0 : ¬ t.1 = 0) (hQ : ∀ M', EdX T n z t M M' (spSt T n D t) → Q none M') : am_E am_P0 (d + 121) 11 [.ref 164, .int 0] M Q := by
  obtain ⟨hL, hp, hR, hP, hD, hc⟩ := id hG
  have hst : StR M T n (.inr t) := hR
  have hw := fun k (hk : k < 27) => wr_is hst hk
  have bad : spSt T n D t = .inl (1, tS t) → ∀ M1, gF sRd nT M M1 → StR M1 T n (refR 1 (.inr t)) → Q none M1 := fun he M1 g1 h1 => by
    obtain ⟨P1, p1⟩ := PsX_p hz hD hp hP g1
    exact hQ M1 (by rw [he]; exact ⟨sRd_S g1, Fa_of p1 P1 h1⟩)
  rw [eX2_readStatement]
  by_cases w0 : isW t (ownW.getD 0 []) = true
  · have h6 := (hw 0 (by omega)).mpr w0
    have hsp : spSt T n D t = .inl (1, tS t) := by
      unfold spSt
      rw [if_neg (isW_ne (i := 0) (by omega) (by omega) w0 (by omega)), if_neg (isW_ne (i := 0) (by omega) (by omega) w0 (by omega)), if_neg (isW_ne (i := 0) (by omega) (by omega) w0 (by omega)), if_neg (isW_ne (i := 0) (by omega) (by omega) w0 (by omega)), if_neg (isW_ne (i := 0) (by omega) (by omega) w0 (by omega)), if_neg (isW_ne (i := 0) (by omega) (by omega) w0 (by omega)), if_neg (isW_ne (i := 0) (by omega) (by omega) w0 (by omega)), if_neg (isW_ne (i := 0) (by omega) (by omega) w0 (by omega))]
    simp +decide only [qX2_readStatement_0, qX2_readStatement_1, lx hL, h6, show nI 0 = (0 : Int32) from rfl, am_w1_i, am_w1_r, am_w1_x, am_w1_l, am_w1_w, va_rf_s, am_push_n, am_push_s, am_cs_0, am_cs_i, am_cs_l, am_cs_r, m_uI_K, m_uI_N, m_uI_R, m_uI_L, m_uI_I, m_uL_K, m_uL_N, m_uL_R, m_uL_I, m_uL_L, m_uR_K, m_uR_N, m_uR_I, m_uR_L, m_uR_R, true_and, and_true, true_implies, false_implies, not_true_eq_false, not_false_eq_true, if_true, if_false, false_and, and_false]
    rw [show (1 : Int32) = nI 1 from rfl]
    refine c_x_refuse (d + 119) n 1 T (.inr t) M _ hL (by omega) hst (fun M1 g1 h1 => ?_)
    have h9 := bad hsp M1 g1 h1
    simp +decide only [qX2_readStatement_0, qX2_readStatement_1, am_w1_i, am_w1_r, am_w1_x, am_w1_l, am_w1_w, va_rf_s, am_push_n, am_push_s, am_cs_0, am_cs_i, am_cs_l, am_cs_r, m_uI_K, m_uI_N, m_uI_R, m_uI_L, m_uI_I, m_uL_K, m_uL_N, m_uL_R, m_uL_I, m_uL_L, m_uR_K, m_uR_N, m_uR_I, m_uR_L, m_uR_R, true_and, and_true, true_implies, false_implies, not_true_eq_false, not_false_eq_true, if_true, if_false, false_and, and_false]
    exact h9
  · have h60 : ¬ mI M 165 6 = 0 := fun q => w0 ((hw 0 (by omega)).mp q)
    simp +decide only [qX2_readStatement_0, qX2_readStatement_1, lx hL, am_w1_i, am_w1_r, am_w1_x, am_w1_l, am_w1_w, va_rf_s, am_push_n, am_push_s, am_cs_0, am_cs_i, am_cs_l, am_cs_r, m_uI_K, m_uI_N, m_uI_R, m_uI_L, m_uI_I, m_uL_K, m_uL_N, m_uL_R, m_uL_I, m_uL_L, m_uR_K, m_uR_N, m_uR_I, m_uR_L, m_uR_R, true_and, and_true, true_implies, false_implies, not_true_eq_false, not_false_eq_true, if_true, if_false, false_and, and_false]
    rw [br_p h60]
    by_cases w1 : isW t (ownW.getD 1 []) = true
    · have h6 := (hw 1 (by omega)).mpr w1
      have hsp : spSt T n D t = spDepth T n D t := by unfold spSt; rw [if_pos w1]
      rw [hsp] at hQ
      have et : am_tab (0) [120, 127, 142, 157, 172, 227, 227, 227, 227, 179, 227, 227, 186, 227, 227, 193, 227, 200] 227 (nI 1) = 127 := by decide
      rw [h6, et]
      simp +decide only [qX2_readStatement_0, qX2_readStatement_1, lx hL, lz hL hz, hp, am_w1_i, am_w1_r, am_w1_x, am_w1_l, am_w1_w, va_rf_s, am_push_n, am_push_s, am_cs_0, am_cs_i, am_cs_l, am_cs_r, m_uI_K, m_uI_N, m_uI_R, m_uI_L, m_uI_I, m_uL_K, m_uL_N, m_uL_R, m_uL_I, m_uL_L, m_uR_K, m_uR_N, m_uR_I, m_uR_L, m_uR_R, true_and, and_true, true_implies, false_implies, not_true_eq_false, not_false_eq_true, if_true, if_false, false_and, and_false]
      have hdr := hD.2.2.2.2.2.2.2.2.1
      have hrq : isRq z (z + 9) 12 := Or.inl ⟨rfl, rfl⟩
      refine b_rule hz hn d (z + 9) 12 c true (dRd D) t M _ hrq hL hp hR hP.2.2.2.2 hc hP.2.2.2.1.1 hdr.1 h0 (fun M1 R1 => ?_)
      simp +decide only [qX2_readStatement_0, qX2_readStatement_1, am_w1_i, am_w1_r, am_w1_x, am_w1_l, am_w1_w, va_rf_s, am_push_n, am_push_s, am_cs_0, am_cs_i, am_cs_l, am_cs_r, m_uI_K, m_uI_N, m_uI_R, m_uI_L, m_uI_I, m_uL_K, m_uL_N, m_uL_R, m_uL_I, m_uL_L, m_uR_K, m_uR_N, m_uR_I, m_uR_L, m_uR_R, true_and, and_true, true_implies, false_implies, not_true_eq_false, not_false_eq_true, if_true, if_false, false_and, and_false]
      refine hQ M1 ?_
      unfold spDepth
      rw [spSum_r]
      cases hr : spRl T n true (decide (12 ≤ (dRd D).length)) t with
      | inl e => rw [hr] at R1; exact R1
      | inr p =>
        rw [hr] at R1
        obtain ⟨g1, ht, hb1, hb2, c', L1, p1, rd1, F1, hcc, hct, hrl⟩ := R1
        obtain ⟨k1, k2, k3, k4, k5, k6⟩ := ru_all hz (sm := true) (R := dRd D) (t := t) hrq hD hP g1 F1 hcc
        have hl : (dRd D).length < 12 := by
          unfold spRl at hr
          by_cases cf : 12 ≤ (dRd D).length
          · rw [if_pos (decide_eq_true cf)] at hr; cases hr
          · omega
        refine ⟨ru_S hz hrq g1, ⟨c', L1, p1, rd1, ⟨k1, k2, k3, ⟨hrl, k5 (by omega), k6 (by omega)⟩, F1⟩, ?_, hct⟩, ht⟩
        obtain ⟨d1, d2, d3, d4, d5, d6, d7, d8, d9, d10⟩ := hD
        exact ⟨d1, d2, d3, d4, d5, d6, d7, d8, rlOK_a d9 hl (hb1 rfl) hb2, d10⟩
    · by_cases w2 : isW t (ownW.getD 2 []) = true
      · have h6 := (hw 2 (by omega)).mpr w2
        have hsp : spSt T n D t = spCost T n D t := by unfold spSt; rw [if_neg w1, if_pos w2]
        rw [hsp] at hQ
        have et : am_tab (0) [120, 127, 142, 157, 172, 227, 227, 227, 227, 179, 227, 227, 186, 227, 227, 193, 227, 200] 227 (nI 2) = 142 := by decide
        rw [h6, et]
        simp +decide only [qX2_readStatement_0, qX2_readStatement_1, lx hL, lz hL hz, hp, am_w1_i, am_w1_r, am_w1_x, am_w1_l, am_w1_w, va_rf_s, am_push_n, am_push_s, am_cs_0, am_cs_i, am_cs_l, am_cs_r, m_uI_K, m_uI_N, m_uI_R, m_uI_L, m_uI_I, m_uL_K, m_uL_N, m_uL_R, m_uL_I, m_uL_L, m_uR_K, m_uR_N, m_uR_I, m_uR_L, m_uR_R, true_and, and_true, true_implies, false_implies, not_true_eq_false, not_false_eq_true, if_true, if_false, false_and, and_false]
        have hdr := hD.2.2.2.2.2.2.2.2.2.1
        have hrq : isRq z (z + 13) 12 := Or.inr (Or.inl ⟨rfl, rfl⟩)
        refine b_rule hz hn d (z + 13) 12 c true (dRc D) t M _ hrq hL hp hR hP.2.2.2.2 hc hP.2.2.2.1.2.1 hdr.1 h0 (fun M1 R1 => ?_)
        simp +decide only [qX2_readStatement_0, qX2_readStatement_1, am_w1_i, am_w1_r, am_w1_x, am_w1_l, am_w1_w, va_rf_s, am_push_n, am_push_s, am_cs_0, am_cs_i, am_cs_l, am_cs_r, m_uI_K, m_uI_N, m_uI_R, m_uI_L, m_uI_I, m_uL_K, m_uL_N, m_uL_R, m_uL_I, m_uL_L, m_uR_K, m_uR_N, m_uR_I, m_uR_L, m_uR_R, true_and, and_true, true_implies, false_implies, not_true_eq_false, not_false_eq_true, if_true, if_false, false_and, and_false]
        refine hQ M1 ?_
        unfold spCost
        rw [spSum_r]
        cases hr : spRl T n true (decide (12 ≤ (dRc D).length)) t with
        | inl e => rw [hr] at R1; exact R1
        | inr p =>
          rw [hr] at R1
          obtain ⟨g1, ht, hb1, hb2, c', L1, p1, rd1, F1, hcc, hct, hrl⟩ := R1
          obtain ⟨k1, k2, k3, k4, k5, k6⟩ := ru_all hz (sm := true) (R := dRc D) (t := t) hrq hD hP g1 F1 hcc
          have hl : (dRc D).length < 12 := by
            unfold spRl at hr
            by_cases cf : 12 ≤ (dRc D).length
            · rw [if_pos (decide_eq_true cf)] at hr; cases hr
            · omega
          refine ⟨ru_S hz hrq g1, ⟨c', L1, p1, rd1, ⟨k1, k2, k3, ⟨k4 (by omega), hrl, k6 (by omega)⟩, F1⟩, ?_, hct⟩, ht⟩
          obtain ⟨d1, d2, d3, d4, d5, d6, d7, d8, d9, d10, d11⟩ := hD
          exact ⟨d1, d2, d3, d4, d5, d6, d7, d8, d9, rlOK_a d10 hl (hb1 rfl) hb2, d11⟩
      · by_cases w3 : isW t (ownW.getD 3 []) = true
        · have h6 := (hw 3 (by omega)).mpr w3
          have hsp : spSt T n D t = spQuiet T n D t := by unfold spSt; rw [if_neg w1, if_neg w2, if_pos w3]
          rw [hsp] at hQ
          have et : am_tab (0) [120, 127, 142, 157, 172, 227, 227, 227, 227, 179, 227, 227, 186, 227, 227, 193, 227, 200] 227 (nI 3) = 157 := by decide
          rw [h6, et]
          simp +decide only [qX2_readStatement_0, qX2_readStatement_1, lx hL, lz hL hz, hp, am_w1_i, am_w1_r, am_w1_x, am_w1_l, am_w1_w, va_rf_s, am_push_n, am_push_s, am_cs_0, am_cs_i, am_cs_l, am_cs_r, m_uI_K, m_uI_N, m_uI_R, m_uI_L, m_uI_I, m_uL_K, m_uL_N, m_uL_R, m_uL_I, m_uL_L, m_uR_K, m_uR_N, m_uR_I, m_uR_L, m_uR_R, true_and, and_true, true_implies, false_implies, not_true_eq_false, not_false_eq_true, if_true, if_false, false_and, and_false]
          have hdr := hD.2.2.2.2.2.2.2.2.2.2
          have hrq : isRq z (z + 17) 6 := Or.inr (Or.inr ⟨rfl, rfl⟩)
          refine b_rule hz hn d (z + 17) 6 c false (dRq D) t M _ hrq hL hp hR hP.2.2.2.2 hc hP.2.2.2.1.2.2 hdr.1 h0 (fun M1 R1 => ?_)
          simp +decide only [qX2_readStatement_0, qX2_readStatement_1, am_w1_i, am_w1_r, am_w1_x, am_w1_l, am_w1_w, va_rf_s, am_push_n, am_push_s, am_cs_0, am_cs_i, am_cs_l, am_cs_r, m_uI_K, m_uI_N, m_uI_R, m_uI_L, m_uI_I, m_uL_K, m_uL_N, m_uL_R, m_uL_I, m_uL_L, m_uR_K, m_uR_N, m_uR_I, m_uR_L, m_uR_R, true_and, and_true, true_implies, false_implies, not_true_eq_false, not_false_eq_true, if_true, if_false, false_and, and_false]
          refine hQ M1 ?_
          unfold spQuiet
          rw [spTest_r]
          cases hr : spRl T n false (decide (6 ≤ (dRq D).length)) t with
          | inl e => rw [hr] at R1; exact R1
          | inr p =>
            rw [hr] at R1
            obtain ⟨g1, ht, hb1, hb2, c', L1, p1, rd1, F1, hcc, hct, hrl⟩ := R1
            obtain ⟨k1, k2, k3, k4, k5, k6⟩ := ru_all hz (sm := false) (R := dRq D) (t := t) hrq hD hP g1 F1 hcc
            have hl : (dRq D).length < 6 := by
              unfold spRl at hr
              by_cases cf : 6 ≤ (dRq D).length
              · rw [if_pos (decide_eq_true cf)] at hr; cases hr
              · omega
            have hp0 : p.2.1 = fun _ => 0 := by
              unfold spRl at hr
              rw [if_neg (by rw [decide_eq_false (by omega)]; decide)] at hr
              cases ha : advR T n t with
              | inl e => rw [ha] at hr; cases hr
              | inr t1 =>
                rw [ha] at hr
                have hr' : ruK T n t1 (fun _ => 0) = .inr p := hr
                unfold ruK at hr'
                cases hw' : wordR T n 18 (.inr t1) with
                | inl e => rw [hw'] at hr'; cases hr'
                | inr t3 =>
                  rw [hw'] at hr'
                  have hr'' : psX T n 5 t3 (fun t4 w => (.inr (t4, (fun _ => 0), w) : Sum (Nat × Nat) (Tok × Den × Den))) = .inr p := hr'
                  unfold psX at hr''
                  cases hps : ps T n (fuelP n) 5 0 t3 (fun _ => 0) with
                  | none => rw [hps] at hr''; cases hr''
                  | some w =>
                    rw [hps] at hr''
                    cases w with
                    | inl e => cases hr''
                    | inr w => cases hr''; rfl
            rw [hp0] at hrl
            refine ⟨ru_S hz hrq g1, ⟨c', L1, p1, rd1, ⟨k1, k2, k3, ⟨k4 (by omega), k5 (by omega), hrl⟩, F1⟩, ?_, hct⟩, ht⟩
            obtain ⟨d1, d2, d3, d4, d5, d6, d7, d8, d9, d10, d11⟩ := hD
            exact ⟨d1, d2, d3, d4, d5, d6, d7, d8, d9, d10, rlOK_a d11 hl (fun e _ => ⟨by show (-1000000 : Int) ≤ 0; omega, by show (0 : Int) ≤ 1000000; omega⟩) hb2⟩
        · by_cases w4 : isW t (ownW.getD 4 []) = true
          · have h6 := (hw 4 (by omega)).mpr w4
            have hsp : spSt T n D t = spShip T n D t := by unfold spSt; rw [if_neg w1, if_neg w2, if_neg w3, if_pos w4]
            rw [hsp] at hQ
            have et : am_tab (0) [120, 127, 142, 157, 172, 227, 227, 227, 227, 179, 227, 227, 186, 227, 227, 193, 227, 200] 227 (nI 4) = 172 := by decide
            rw [h6, et]
            simp +decide only [qX2_readStatement_0, qX2_readStatement_1, lx hL, am_w1_i, am_w1_r, am_w1_x, am_w1_l, am_w1_w, va_rf_s, am_push_n, am_push_s, am_cs_0, am_cs_i, am_cs_l, am_cs_r, m_uI_K, m_uI_N, m_uI_R, m_uI_L, m_uI_I, m_uL_K, m_uL_N, m_uL_R, m_uL_I, m_uL_L, m_uR_K, m_uR_N, m_uR_I, m_uR_L, m_uR_R, true_and, and_true, true_implies, false_implies, not_true_eq_false, not_false_eq_true, if_true, if_false, false_and, and_false]
            refine b_ship hz (d + 115) c D t M _ hG h0 (fun M1 E1 => ?_)
            have h9 := hQ M1 E1
            simp +decide only [qX2_readStatement_0, qX2_readStatement_1, am_w1_i, am_w1_r, am_w1_x, am_w1_l, am_w1_w, va_rf_s, am_push_n, am_push_s, am_cs_0, am_cs_i, am_cs_l, am_cs_r, m_uI_K, m_uI_N, m_uI_R, m_uI_L, m_uI_I, m_uL_K, m_uL_N, m_uL_R, m_uL_I, m_uL_L, m_uR_K, m_uR_N, m_uR_I, m_uR_L, m_uR_R, true_and, and_true, true_implies, false_implies, not_true_eq_false, not_false_eq_true, if_true, if_false, false_and, and_false]
            exact h9
          · by_cases w9 : isW t (ownW.getD 9 []) = true
            · have h6 := (hw 9 (by omega)).mpr w9
              have hsp : spSt T n D t = spSay T n D t := by unfold spSt; rw [if_neg w1, if_neg w2, if_neg w3, if_neg w4, if_pos w9]
              rw [hsp] at hQ
              have et : am_tab (0) [120, 127, 142, 157, 172, 227, 227, 227, 227, 179, 227, 227, 186, 227, 227, 193, 227, 200] 227 (nI 9) = 179 := by decide
              rw [h6, et]
              simp +decide only [qX2_readStatement_0, qX2_readStatement_1, lx hL, am_w1_i, am_w1_r, am_w1_x, am_w1_l, am_w1_w, va_rf_s, am_push_n, am_push_s, am_cs_0, am_cs_i, am_cs_l, am_cs_r, m_uI_K, m_uI_N, m_uI_R, m_uI_L, m_uI_I, m_uL_K, m_uL_N, m_uL_R, m_uL_I, m_uL_L, m_uR_K, m_uR_N, m_uR_I, m_uR_L, m_uR_R, true_and, and_true, true_implies, false_implies, not_true_eq_false, not_false_eq_true, if_true, if_false, false_and, and_false]
              refine b_say hz (d + 115) c D t M _ hG hC hRr h0 (fun M1 E1 => ?_)
              have h9 := hQ M1 E1
              simp +decide only [qX2_readStatement_0, qX2_readStatement_1, am_w1_i, am_w1_r, am_w1_x, am_w1_l, am_w1_w, va_rf_s, am_push_n, am_push_s, am_cs_0, am_cs_i, am_cs_l, am_cs_r, m_uI_K, m_uI_N, m_uI_R, m_uI_L, m_uI_I, m_uL_K, m_uL_N, m_uL_R, m_uL_I, m_uL_L, m_uR_K, m_uR_N, m_uR_I, m_uR_L, m_uR_R, true_and, and_true, true_implies, false_implies, not_true_eq_false, not_false_eq_true, if_true, if_false, false_and, and_false]
              exact h9
            · by_cases w12 : isW t (ownW.getD 12 []) = true
              · have h6 := (hw 12 (by omega)).mpr w12
                have hsp : spSt T n D t = spBook T n D t := by unfold spSt; rw [if_neg w1, if_neg w2, if_neg w3, if_neg w4, if_neg w9, if_pos w12]
                rw [hsp] at hQ
                have et : am_tab (0) [120, 127, 142, 157, 172, 227, 227, 227, 227, 179, 227, 227, 186, 227, 227, 193, 227, 200] 227 (nI 12) = 186 := by decide
                rw [h6, et]
                simp +decide only [qX2_readStatement_0, qX2_readStatement_1, lx hL, am_w1_i, am_w1_r, am_w1_x, am_w1_l, am_w1_w, va_rf_s, am_push_n, am_push_s, am_cs_0, am_cs_i, am_cs_l, am_cs_r, m_uI_K, m_uI_N, m_uI_R, m_uI_L, m_uI_I, m_uL_K, m_uL_N, m_uL_R, m_uL_I, m_uL_L, m_uR_K, m_uR_N, m_uR_I, m_uR_L, m_uR_R, true_and, and_true, true_implies, false_implies, not_true_eq_false, not_false_eq_true, if_true, if_false, false_and, and_false]
                refine b_book hz (d + 115) c D t M _ hG hC hRr h0 (fun M1 E1 => ?_)
                have h9 := hQ M1 E1
                simp +decide only [qX2_readStatement_0, qX2_readStatement_1, am_w1_i, am_w1_r, am_w1_x, am_w1_l, am_w1_w, va_rf_s, am_push_n, am_push_s, am_cs_0, am_cs_i, am_cs_l, am_cs_r, m_uI_K, m_uI_N, m_uI_R, m_uI_L, m_uI_I, m_uL_K, m_uL_N, m_uL_R, m_uL_I, m_uL_L, m_uR_K, m_uR_N, m_uR_I, m_uR_L, m_uR_R, true_and, and_true, true_implies, false_implies, not_true_eq_false, not_false_eq_true, if_true, if_false, false_and, and_false]
                exact h9
              · by_cases w15 : isW t (ownW.getD 15 []) = true
                · have h6 := (hw 15 (by omega)).mpr w15
                  have hsp : spSt T n D t = spSeen T n D t := by unfold spSt; rw [if_neg w1, if_neg w2, if_neg w3, if_neg w4, if_neg w9, if_neg w12, if_pos w15]
                  rw [hsp] at hQ
                  have et : am_tab (0) [120, 127, 142, 157, 172, 227, 227, 227, 227, 179, 227, 227, 186, 227, 227, 193, 227, 200] 227 (nI 15) = 193 := by decide
                  rw [h6, et]
                  simp +decide only [qX2_readStatement_0, qX2_readStatement_1, lx hL, am_w1_i, am_w1_r, am_w1_x, am_w1_l, am_w1_w, va_rf_s, am_push_n, am_push_s, am_cs_0, am_cs_i, am_cs_l, am_cs_r, m_uI_K, m_uI_N, m_uI_R, m_uI_L, m_uI_I, m_uL_K, m_uL_N, m_uL_R, m_uL_I, m_uL_L, m_uR_K, m_uR_N, m_uR_I, m_uR_L, m_uR_R, true_and, and_true, true_implies, false_implies, not_true_eq_false, not_false_eq_true, if_true, if_false, false_and, and_false]
                  refine b_seen hz (d + 115) c D t M _ hG hC hRr h0 (fun M1 E1 => ?_)
                  have h9 := hQ M1 E1
                  simp +decide only [qX2_readStatement_0, qX2_readStatement_1, am_w1_i, am_w1_r, am_w1_x, am_w1_l, am_w1_w, va_rf_s, am_push_n, am_push_s, am_cs_0, am_cs_i, am_cs_l, am_cs_r, m_uI_K, m_uI_N, m_uI_R, m_uI_L, m_uI_I, m_uL_K, m_uL_N, m_uL_R, m_uL_I, m_uL_L, m_uR_K, m_uR_N, m_uR_I, m_uR_L, m_uR_R, true_and, and_true, true_implies, false_implies, not_true_eq_false, not_false_eq_true, if_true, if_false, false_and, and_false]
                  exact h9
                · by_cases w17 : isW t (ownW.getD 17 []) = true
                  · have h6 := (hw 17 (by omega)).mpr w17
                    have hsp : spSt T n D t = spLuck T n D t := by unfold spSt; rw [if_neg w1, if_neg w2, if_neg w3, if_neg w4, if_neg w9, if_neg w12, if_neg w15, if_pos w17]
                    rw [hsp] at hQ
                    have et : am_tab (0) [120, 127, 142, 157, 172, 227, 227, 227, 227, 179, 227, 227, 186, 227, 227, 193, 227, 200] 227 (nI 17) = 200 := by decide
                    have h9 := b_luck hz (d + 117) c D t M Q hG h0 hQ
                    rw [h6, et]
                    simp +decide only [qX2_readStatement_0, qX2_readStatement_1, lx hL, am_w1_i, am_w1_r, am_w1_x, am_w1_l, am_w1_w, va_rf_s, am_push_n, am_push_s, am_cs_0, am_cs_i, am_cs_l, am_cs_r, m_uI_K, m_uI_N, m_uI_R, m_uI_L, m_uI_I, m_uL_K, m_uL_N, m_uL_R, m_uL_I, m_uL_L, m_uR_K, m_uR_N, m_uR_I, m_uR_L, m_uR_R, true_and, and_true, true_implies, false_implies, not_true_eq_false, not_false_eq_true, if_true, if_false, false_and, and_false] at h9 ⊢
                    exact h9
                  · have hsp : spSt T n D t = .inl (1, tS t) := by unfold spSt; rw [if_neg w1, if_neg w2, if_neg w3, if_neg w4, if_neg w9, if_neg w12, if_neg w15, if_neg w17]
                    have et : am_tab (0) [120, 127, 142, 157, 172, 227, 227, 227, 227, 179, 227, 227, 186, 227, 227, 193, 227, 200] 227 (mI M 165 6) = 227 := by
                      rcases word_r hR with q | ⟨k, hk, q⟩
                      · rw [q]; decide
                      · rw [q]
                        refine tabW k hk (fun w => ?_)
                        have hk' := (hw k hk).mp q
                        rcases w with rfl | rfl | rfl | rfl | rfl | rfl | rfl | rfl | rfl
                        · exact w0 hk'
                        · exact w1 hk'
                        · exact w2 hk'
                        · exact w3 hk'
                        · exact w4 hk'
                        · exact w9 hk'
                        · exact w12 hk'
                        · exact w15 hk'
                        · exact w17 hk'
                    rw [et]
                    simp +decide only [qX2_readStatement_0, qX2_readStatement_1, lx hL, am_w1_i, am_w1_r, am_w1_x, am_w1_l, am_w1_w, va_rf_s, am_push_n, am_push_s, am_cs_0, am_cs_i, am_cs_l, am_cs_r, m_uI_K, m_uI_N, m_uI_R, m_uI_L, m_uI_I, m_uL_K, m_uL_N, m_uL_R, m_uL_I, m_uL_L, m_uR_K, m_uR_N, m_uR_I, m_uR_L, m_uR_R, true_and, and_true, true_implies, false_implies, not_true_eq_false, not_false_eq_true, if_true, if_false, false_and, and_false]
                    rw [show (1 : Int32) = nI 1 from rfl]
                    refine c_x_refuse (d + 119) n 1 T (.inr t) M _ hL (by omega) hst (fun M1 g1 h1 => ?_)
                    have h9 := bad hsp M1 g1 h1
                    simp +decide only [qX2_readStatement_0, qX2_readStatement_1, am_w1_i, am_w1_r, am_w1_x, am_w1_l, am_w1_w, va_rf_s, am_push_n, am_push_s, am_cs_0, am_cs_i, am_cs_l, am_cs_r, m_uI_K, m_uI_N, m_uI_R, m_uI_L, m_uI_I, m_uL_K, m_uL_N, m_uL_R, m_uL_I, m_uL_L, m_uR_K, m_uR_N, m_uR_I, m_uR_L, m_uR_R, true_and, and_true, true_implies, false_implies, not_true_eq_false, not_false_eq_true, if_true, if_false, false_and, and_false]
                    exact h9
end
