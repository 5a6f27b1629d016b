/-! the model: names, places -/
theorem l_m_named (d z : Nat) (D : Dat) (l : List Nat) (M : am_M) (Q : Option Value → am_M → Prop) (hL : Lay M) (hz : z ≤ 1) (hin : mI M 277 41 = nI z) (hS : ShpM M z (dSh D)) (hD : DOK D) (hl : isWd l) (h6 : l.length ≤ 6) : ∀ (m k : Nat), k + m = (dSh D).length → (∀ j sp, j < k → (dSh D)[j]? = some sp → ¬ sp.1 = l) → (am_P am_P0 d (am_look tX11_named) 2 [.ref 277, .long (wdL l), am_x, .int (nI k)] [] M Q ↔ Q (some (.int (match shF D l with | some s => nI s | none => -1))) M) := by
  have h8 := hD.2.2.1.1
  intro m
  induction m with
  | zero =>
    intro k hk hno
    have e : k = (dSh D).length := by omega
    subst e
    have hle : nI (dSh D).length ≤ nI (dSh D).length := (ni_le (by omega) (by omega)).mpr (Nat.le_refl _)
    have hn : shF D l = none := by
      unfold shF
      rw [List.findIdx?_eq_none_iff]
      intro sp hsp
      obtain ⟨j, hj⟩ := List.mem_iff_getElem?.mp hsp
      have := hno j sp (List.getElem?_eq_some_iff.mp hj).1 hj
      simpa using this
    rw [hn, hX11_named_2]
    simp +decide (disch := omega) only [qX11_named, lm hL, hin, hS.1, ni_in_t, ni_tn, am_w1_i, am_w1_r, am_w1_x, am_w1_l, am_w1_w, va_rf_s, am_push_n, am_push_s, am_cs_0, am_cs_i, am_cs_l, am_cs_r, m_uI_K, m_uI_N, m_uI_R, m_uI_L, m_uI_I, m_uL_K, m_uL_N, m_uL_R, m_uL_I, m_uL_L, m_uR_K, m_uR_N, m_uR_I, m_uR_L, m_uR_R, true_and, and_true, true_implies, false_implies, not_true_eq_false, not_false_eq_true, if_true, if_false, false_and, and_false]
    rw [br_p hle]
  | succ m ih =>
    intro k hk hno
    have hlt : ¬ nI (dSh D).length ≤ nI k := by rw [ni_le (by omega) (by omega)]; omega
    have hkl : k < (dSh D).length := by omega
    obtain ⟨sp, hsp⟩ : ∃ sp, (dSh D)[k]? = some sp := ⟨(dSh D)[k]'hkl, List.getElem?_eq_getElem hkl⟩
    have hok := hD.2.2.1.2.2 sp (List.mem_of_getElem? hsp)
    have hnm := (hS.2 k sp hsp).1
    have e : (8 : Int32) * nI z + nI k = nI (8 * z + k) := by rw [show (8 : Int32) = nI 8 from rfl, ni_mul, ni_add]
    have he := wdL_eq hok.1 hl hok.2.2.1 h6
    rw [hX11_named_2]
    simp +decide (disch := omega) only [qX11_named, lm hL, hin, hS.1, e, hnm, lgc_0, ni_in_t, ni_tn, ni_add1, am_w1_i, am_w1_r, am_w1_x, am_w1_l, am_w1_w, va_rf_s, am_push_n, am_push_s, am_cs_0, am_cs_i, am_cs_l, am_cs_r, m_uI_K, m_uI_N, m_uI_R, m_uI_L, m_uI_I, m_uL_K, m_uL_N, m_uL_R, m_uL_I, m_uL_L, m_uR_K, m_uR_N, m_uR_I, m_uR_L, m_uR_R, true_and, and_true, true_implies, false_implies, not_true_eq_false, not_false_eq_true, if_true, if_false, false_and, and_false]
    rw [br_n hlt]
    by_cases cq : sp.1 = l
    · rw [br_r (he.mpr cq)]
      have hf : shF D l = some k := by
        unfold shF
        rw [List.findIdx?_eq_some_iff_getElem]
        refine ⟨hkl, ?_, fun j hj => ?_⟩
        · have : (dSh D)[k] = sp := by rw [List.getElem?_eq_getElem hkl] at hsp; cases hsp; rfl
          rw [this]; simpa using cq
        · have := hno j ((dSh D)[j]'(by omega)) hj (List.getElem?_eq_getElem (by omega))
          simpa using this
      rw [hf]
    · rw [br_q (fun q => cq (he.mp q))]
      exact ih (k + 1) (by omega) (fun j sp' hj hsp' => by
        by_cases ej : j = k
        · subst ej; cases hsp.symm.trans hsp'; exact cq
        · exact hno j sp' (by omega) hsp')
theorem c_m_named (d z : Nat) (D : Dat) (l : List Nat) (M : am_M) (Q : Option Value → am_M → Prop) (hL : Lay M) (hz : z ≤ 1) (hin : mI M 277 41 = nI z) (hS : ShpM M z (dSh D)) (hD : DOK D) (hl : isWd l) (h6 : l.length ≤ 6) : am_E am_P0 d 181 [.ref 277, .long (wdL l)] M Q ↔ Q (some (.int (match shF D l with | some s => nI s | none => -1))) M := by
  rw [eX11_named]
  simp +decide only [qX11_named, am_w1_i, am_w1_r, am_w1_x, am_w1_l, am_w1_w, va_rf_s, am_push_n, am_push_s, am_cs_0, am_cs_i, am_cs_l, am_cs_r, m_uI_K, m_uI_N, m_uI_R, m_uI_L, m_uI_I, m_uL_K, m_uL_N, m_uL_R, m_uL_I, m_uL_L, m_uR_K, m_uR_N, m_uR_I, m_uR_L, m_uR_R, true_and, and_true, true_implies, false_implies, not_true_eq_false, not_false_eq_true, if_true, if_false, false_and, and_false]
  exact l_m_named d z D l M Q hL hz hin hS hD hl h6 (dSh D).length 0 (by omega) (fun j sp hj => by omega)
section
variable {T : Nat → Nat} {n z : Nat}
/-- is it a name -/
theorem m_isNm (d : Nat) (t : Tok) (M : am_M) (Q : Option Value → am_M → Prop) (hR : RdM M T n t) (h1 : t.1 = 1) : am_E am_P0 d 178 [.ref 277, .long (mL M 277 7)] M Q ↔ Q (some (.int (b01 (!isNm t)))) M := by
  have hw := hR.2.2.2.2.2.2.2.2.2.2.2.2.2.1 h1
  rw [c_m_isOwn, hR.2.2.2.2.2.2.2.1 h1]
  have e : decide (wdL t.2.2.1 ∈ ownL) = !isNm t := by
    unfold isNm
    rw [h1]
    by_cases q : t.2.2.1 ∈ ownW
    · rw [decide_eq_true ((ownL_i hw.1 hw.2.1).mpr q), decide_eq_true q]; rfl
    · rw [decide_eq_false (fun w => q ((ownL_i hw.1 hw.2.1).mp w)), decide_eq_false q]; rfl
  rw [e]
def frR (T : Nat → Nat) (n : Nat) (D : Dat) (r : Rt) : Rt := bR (nameR r).1 (fun t1 => if (shF D t1.2.2.1).isSome = true then .inl (2, tS t1) else advR T n t1)
theorem m_fresh (d z : Nat) (D : Dat) (r : Rt) (M : am_M) (Q : Option Value → am_M → Prop) (hL : Lay M) (hz : z ≤ 1) (hin : mI M 277 41 = nI z) (hS : ShpM M z (dSh D)) (hD : DOK D) (hR : StM M T n r)
    (hQ : ∀ M' x, gF sRm nT M M' → StM M' T n (frR T n D r) → (∀ t1 t', (nameR r).1 = .inr t1 → frR T n D r = .inr t' → x = wdL t1.2.2.1) → Q (some (.long x)) M') : am_E am_P0 (d + 2) 195 [.ref 277] M Q := by
  rw [eX11_fresh]
  cases r with
  | inl e =>
    have p := FtM_pos hR
    have h0 := hQ M 0 (gF_refl _ _ _) hR (fun t1 t' q => by cases q)
    simp +decide only [qX11_fresh_0, qX11_fresh_1, lm hL, am_w1_i, am_w1_r, am_w1_x, am_w1_l, am_w1_w, va_rf_s, am_push_n, am_push_s, am_cs_0, am_cs_i, am_cs_l, am_cs_r, m_uI_K, m_uI_N, m_uI_R, m_uI_L, m_uI_I, m_uL_K, m_uL_N, m_uL_R, m_uL_I, m_uL_L, m_uR_K, m_uR_N, m_uR_I, m_uR_L, m_uR_R, true_and, and_true, true_implies, false_implies, not_true_eq_false, not_false_eq_true, if_true, if_false, false_and, and_false]
    rw [br_n p.2.2]
    exact h0
  | inr t =>
    have hR' : RdM M T n t := hR
    have h3 := RdM_3 hR' 1 (by omega)
    rw [show nI 1 = (1 : Int32) from rfl] at h3
    have en : nameR (.inr t) = if isNm t = true then (.inr t, true) else (.inl (1, tS t), false) := rfl
    -- the first fault
    have bad : isNm t = false → ∀ x, Q (some (.long x)) (uI (uI M 277 8 1) 277 9 (nI (tS t))) := fun hn x => by
      have hf := FtM_0 (k := 1) hR' (by omega)
      refine hQ _ x hf.2 ?_ ?_
      · unfold frR; rw [en, hn]; exact hf.1
      · intro t1 t' q; rw [en, hn] at q; cases q
    have hf := FtM_0 (k := 1) hR' (by omega)
    have hp := FtM_pos hf.1
    have hbl := fun Q => m_blame (T := T) (n := n) (d + 1) 1 t M Q hL hR'
    have Lf : Lay (uI (uI M 277 8 1) 277 9 (nI (tS t))) := hL
    rw [show nI 1 = (1 : Int32) from rfl] at hbl hp hf
    by_cases c1 : t.1 = 1
    · have hown := fun Q => m_isNm (d + 1) t M Q hR' c1
      have hw := hR'.2.2.2.2.2.2.2.2.2.2.2.2.2.1 c1
      have h7 := hR'.2.2.2.2.2.2.2.1 c1
      by_cases cn : isNm t = true
      · rw [en, if_pos cn] at hQ
        have efr : frR T n D (.inr t) = if (shF D t.2.2.1).isSome = true then .inl (2, tS t) else advR T n t := by unfold frR; rw [en, if_pos cn]; rfl
        rw [efr] at hQ
        rw [h7] at hown
        have hnd := fun Q => c_m_named (d + 1) z D t.2.2.1 M Q hL hz hin hS hD hw.1 hw.2.1
        simp +decide only [qX11_fresh_0, qX11_fresh_1, lm hL, h3.mpr c1, hR'.2.1, h7, hown, cn, Bool.not_true, b01, hnd, am_w1_i, am_w1_r, am_w1_x, am_w1_l, am_w1_w, va_rf_s, am_push_n, am_push_s, am_cs_0, am_cs_i, am_cs_l, am_cs_r, m_uI_K, m_uI_N, m_uI_R, m_uI_L, m_uI_I, m_uL_K, m_uL_N, m_uL_R, m_uL_I, m_uL_L, m_uR_K, m_uR_N, m_uR_I, m_uR_L, m_uR_R, true_and, and_true, true_implies, false_implies, not_true_eq_false, not_false_eq_true, if_true, if_false, false_and, and_false]
        cases hs : shF D t.2.2.1 with
        | some s =>
          have hsl : s < (dSh D).length := by
            unfold shF at hs
            rw [List.findIdx?_eq_some_iff_getElem] at hs
            exact hs.1
          have h8 := hD.2.2.1.1
          rw [hs, if_pos (show (some s).isSome = true from rfl)] at hQ
          have hf2 := FtM_0 (k := 2) hR' (by omega)
          have hp2 := (FtM_pos hf2.1).2.1
          have h0 := hQ _ (mL M 277 7) hf2.2 hf2.1 (fun t1 t' _ q => by cases q)
          have hbl2 := fun Q => m_blame (T := T) (n := n) (d + 1) 2 t M Q hL hR'
          rw [show nI 2 = (2 : Int32) from rfl] at hbl2 hp2 h0
          simp +decide only [qX11_fresh_0, qX11_fresh_1, lm hL, hR'.2.2.2.2.1, hbl2, am_w1_i, am_w1_r, am_w1_x, am_w1_l, am_w1_w, va_rf_s, am_push_n, am_push_s, am_cs_0, am_cs_i, am_cs_l, am_cs_r, m_uI_K, m_uI_N, m_uI_R, m_uI_L, m_uI_I, m_uL_K, m_uL_N, m_uL_R, m_uL_I, m_uL_L, m_uR_K, m_uR_N, m_uR_I, m_uR_L, m_uR_R, true_and, and_true, true_implies, false_implies, not_true_eq_false, not_false_eq_true, if_true, if_false, false_and, and_false]
          rw [br_n (nI_m1 (by omega))]
          exact h0
        | none =>
          rw [hs, if_neg (show ¬ (none : Option Nat).isSome = true by decide)] at hQ
          simp +decide only [qX11_fresh_0, qX11_fresh_1, lm hL, hR'.2.1, am_w1_i, am_w1_r, am_w1_x, am_w1_l, am_w1_w, va_rf_s, am_push_n, am_push_s, am_cs_0, am_cs_i, am_cs_l, am_cs_r, m_uI_K, m_uI_N, m_uI_R, m_uI_L, m_uI_I, m_uL_K, m_uL_N, m_uL_R, m_uL_I, m_uL_L, m_uR_K, m_uR_N, m_uR_I, m_uR_L, m_uR_R, true_and, and_true, true_implies, false_implies, not_true_eq_false, not_false_eq_true, if_true, if_false, false_and, and_false]
          refine m_adv d t M _ hL hR' (fun M1 g1 h1 => ?_)
          have h0 := hQ M1 (mL M 277 7) g1 h1 (fun t1 t' q _ => by cases q; exact h7)
          rw [h7] at h0
          simp +decide only [qX11_fresh_0, qX11_fresh_1, h7, am_w1_i, am_w1_r, am_w1_x, am_w1_l, am_w1_w, va_rf_s, am_push_n, am_push_s, am_cs_0, am_cs_i, am_cs_l, am_cs_r, m_uI_K, m_uI_N, m_uI_R, m_uI_L, m_uI_I, m_uL_K, m_uL_N, m_uL_R, m_uL_I, m_uL_L, m_uR_K, m_uR_N, m_uR_I, m_uR_L, m_uR_R, true_and, and_true, true_implies, false_implies, not_true_eq_false, not_false_eq_true, if_true, if_false, false_and, and_false]
          exact h0
      · have cn' : isNm t = false := by simpa using cn
        have h0 := bad cn' (wdL t.2.2.1)
        rw [h7] at hown
        simp +decide only [qX11_fresh_0, qX11_fresh_1, lm hL, h3.mpr c1, hR'.2.1, h7, hown, cn', Bool.not_false, b01, hR'.2.2.2.2.1, hbl, am_w1_i, am_w1_r, am_w1_x, am_w1_l, am_w1_w, va_rf_s, am_push_n, am_push_s, am_cs_0, am_cs_i, am_cs_l, am_cs_r, m_uI_K, m_uI_N, m_uI_R, m_uI_L, m_uI_I, m_uL_K, m_uL_N, m_uL_R, m_uL_I, m_uL_L, m_uR_K, m_uR_N, m_uR_I, m_uR_L, m_uR_R, true_and, and_true, true_implies, false_implies, not_true_eq_false, not_false_eq_true, if_true, if_false, false_and, and_false]
        exact h0
    · have cn' : isNm t = false := by
        unfold isNm
        rw [Bool.and_eq_false_iff]
        exact Or.inl (by simpa using c1)
      have h0 := bad cn' (mL M 277 7)
      simp +decide only [qX11_fresh_0, qX11_fresh_1, lm hL, hR'.2.1, hR'.2.2.2.2.1, hbl, am_w1_i, am_w1_r, am_w1_x, am_w1_l, am_w1_w, va_rf_s, am_push_n, am_push_s, am_cs_0, am_cs_i, am_cs_l, am_cs_r, m_uI_K, m_uI_N, m_uI_R, m_uI_L, m_uI_I, m_uL_K, m_uL_N, m_uL_R, m_uL_I, m_uL_L, m_uR_K, m_uR_N, m_uR_I, m_uR_L, m_uR_R, true_and, and_true, true_implies, false_implies, not_true_eq_false, not_false_eq_true, if_true, if_false, false_and, and_false]
      rw [br_q (fun q => c1 (h3.mp q))]
      exact h0
theorem m_asked (d z : Nat) (D : Dat) (r : Rt) (M : am_M) (Q : Option Value → am_M → Prop) (hL : Lay M) (hz : z ≤ 1) (hin : mI M 277 41 = nI z) (hS : ShpM M z (dSh D)) (hD : DOK D) (hR : StM M T n r)
    (hQ : ∀ M' s, s < 8 → gF sRm nT M M' → StM M' T n (shpR T n D r).1 → (∀ t', (shpR T n D r).1 = .inr t' → s = (shpR T n D r).2) → Q (some (.int (nI s))) M') : am_E am_P0 (d + 2) 196 [.ref 277] M Q := by
  rw [eX11_asked]
  cases r with
  | inl e =>
    have p := FtM_pos hR
    have h0 := hQ M 0 (by omega) (gF_refl _ _ _) hR (fun t' q => by cases q)
    rw [show nI 0 = (0 : Int32) from rfl] at h0
    simp +decide only [qX11_asked_0, qX11_asked_1, lm hL, am_w1_i, am_w1_r, am_w1_x, am_w1_l, am_w1_w, va_rf_s, am_push_n, am_push_s, am_cs_0, am_cs_i, am_cs_l, am_cs_r, m_uI_K, m_uI_N, m_uI_R, m_uI_L, m_uI_I, m_uL_K, m_uL_N, m_uL_R, m_uL_I, m_uL_L, m_uR_K, m_uR_N, m_uR_I, m_uR_L, m_uR_R, true_and, and_true, true_implies, false_implies, not_true_eq_false, not_false_eq_true, if_true, if_false, false_and, and_false]
    rw [br_n p.2.2]
    exact h0
  | inr t =>
    have hR' : RdM M T n t := hR
    have h3 := RdM_3 hR' 1 (by omega)
    rw [show nI 1 = (1 : Int32) from rfl] at h3
    have en : nameR (.inr t) = if isNm t = true then (.inr t, true) else (.inl (1, tS t), false) := rfl
    have hf := FtM_0 (k := 1) hR' (by omega)
    have bad : isNm t = false → Q (some (.int 0)) (uI (uI M 277 8 1) 277 9 (nI (tS t))) := fun hn => by
      have es : shpR T n D (.inr t) = (.inl (1, tS t), 0) := by unfold shpR; rw [en, hn]; rfl
      rw [es] at hQ
      exact hQ _ 0 (by omega) hf.2 hf.1 (fun t' q => by cases q)
    have hp := FtM_pos hf.1
    have hbl := fun Q => m_blame (T := T) (n := n) (d + 1) 1 t M Q hL hR'
    have Lf : Lay (uI (uI M 277 8 1) 277 9 (nI (tS t))) := hL
    rw [show nI 1 = (1 : Int32) from rfl] at hbl hp hf
    by_cases c1 : t.1 = 1
    · have hown := fun Q => m_isNm (d + 1) t M Q hR' c1
      have hw := hR'.2.2.2.2.2.2.2.2.2.2.2.2.2.1 c1
      have h7 := hR'.2.2.2.2.2.2.2.1 c1
      rw [h7] at hown
      by_cases cn : isNm t = true
      · have es : shpR T n D (.inr t) = (match shF D t.2.2.1 with
          | none => (.inl (3, tS t), 0)
          | some s => (advR T n t, s)) := by unfold shpR; rw [en, if_pos cn]; rfl
        have hnd := fun Q => c_m_named (d + 1) z D t.2.2.1 M Q hL hz hin hS hD hw.1 hw.2.1
        simp +decide only [qX11_asked_0, qX11_asked_1, lm hL, h3.mpr c1, hR'.2.1, h7, hown, cn, Bool.not_true, b01, hnd, am_w1_i, am_w1_r, am_w1_x, am_w1_l, am_w1_w, va_rf_s, am_push_n, am_push_s, am_cs_0, am_cs_i, am_cs_l, am_cs_r, m_uI_K, m_uI_N, m_uI_R, m_uI_L, m_uI_I, m_uL_K, m_uL_N, m_uL_R, m_uL_I, m_uL_L, m_uR_K, m_uR_N, m_uR_I, m_uR_L, m_uR_R, true_and, and_true, true_implies, false_implies, not_true_eq_false, not_false_eq_true, if_true, if_false, false_and, and_false]
        cases hs : shF D t.2.2.1 with
        | none =>
          rw [hs] at es
          dsimp only at es
          rw [es] at hQ
          have hf2 := FtM_0 (k := 3) hR' (by omega)
          have hp2 := FtM_pos hf2.1
          have h0 := hQ _ 0 (by omega) hf2.2 hf2.1 (fun t' q => by cases q)
          have hbl2 := fun Q => m_blame (T := T) (n := n) (d + 1) 3 t M Q hL hR'
          rw [show nI 3 = (3 : Int32) from rfl] at hbl2 hp2 h0
          rw [show nI 0 = (0 : Int32) from rfl] at h0
          have L2 : Lay (uI (uI M 277 8 3) 277 9 (nI (tS t))) := hL
          simp +decide only [qX11_asked_0, qX11_asked_1, lm hL, hR'.2.1, hR'.2.2.2.2.1, hbl2, am_w1_i, am_w1_r, am_w1_x, am_w1_l, am_w1_w, va_rf_s, am_push_n, am_push_s, am_cs_0, am_cs_i, am_cs_l, am_cs_r, m_uI_K, m_uI_N, m_uI_R, m_uI_L, m_uI_I, m_uL_K, m_uL_N, m_uL_R, m_uL_I, m_uL_L, m_uR_K, m_uR_N, m_uR_I, m_uR_L, m_uR_R, true_and, and_true, true_implies, false_implies, not_true_eq_false, not_false_eq_true, if_true, if_false, false_and, and_false]
          exact h0
        | some s =>
          have hsl : s < (dSh D).length := by
            unfold shF at hs
            rw [List.findIdx?_eq_some_iff_getElem] at hs
            exact hs.1
          have h8 := hD.2.2.1.1
          rw [hs] at es
          dsimp only at es
          rw [es] at hQ
          simp +decide only [qX11_asked_0, qX11_asked_1, lm hL, hR'.2.1, am_w1_i, am_w1_r, am_w1_x, am_w1_l, am_w1_w, va_rf_s, am_push_n, am_push_s, am_cs_0, am_cs_i, am_cs_l, am_cs_r, m_uI_K, m_uI_N, m_uI_R, m_uI_L, m_uI_I, m_uL_K, m_uL_N, m_uL_R, m_uL_I, m_uL_L, m_uR_K, m_uR_N, m_uR_I, m_uR_L, m_uR_R, true_and, and_true, true_implies, false_implies, not_true_eq_false, not_false_eq_true, if_true, if_false, false_and, and_false]
          rw [br_q (nI_m1 (by omega))]
          refine m_adv d t M _ hL hR' (fun M1 g1 h1 => ?_)
          have L1 := gF_LayN g1 hL
          cases hr : advR T n t with
          | inl e =>
            have h1' := h1
            rw [hr] at h1'
            have h0 := hQ M1 0 (by omega) g1 h1 (fun t' q => by rw [hr] at q; cases q)
            rw [show nI 0 = (0 : Int32) from rfl] at h0
            simp +decide only [qX11_asked_0, qX11_asked_1, lm L1, am_w1_i, am_w1_r, am_w1_x, am_w1_l, am_w1_w, va_rf_s, am_push_n, am_push_s, am_cs_0, am_cs_i, am_cs_l, am_cs_r, m_uI_K, m_uI_N, m_uI_R, m_uI_L, m_uI_I, m_uL_K, m_uL_N, m_uL_R, m_uL_I, m_uL_L, m_uR_K, m_uR_N, m_uR_I, m_uR_L, m_uR_R, true_and, and_true, true_implies, false_implies, not_true_eq_false, not_false_eq_true, if_true, if_false, false_and, and_false]
            rw [br_n (FtM_pos h1').2.2]
            exact h0
          | inr t' =>
            have h1' := h1
            rw [hr] at h1'
            have h1'' : RdM M1 T n t' := h1'
            have h0 := hQ M1 s (by omega) g1 h1 (fun t' q => rfl)
            simp +decide only [qX11_asked_0, qX11_asked_1, lm L1, h1''.2.1, am_w1_i, am_w1_r, am_w1_x, am_w1_l, am_w1_w, va_rf_s, am_push_n, am_push_s, am_cs_0, am_cs_i, am_cs_l, am_cs_r, m_uI_K, m_uI_N, m_uI_R, m_uI_L, m_uI_I, m_uL_K, m_uL_N, m_uL_R, m_uL_I, m_uL_L, m_uR_K, m_uR_N, m_uR_I, m_uR_L, m_uR_R, true_and, and_true, true_implies, false_implies, not_true_eq_false, not_false_eq_true, if_true, if_false, false_and, and_false]
            exact h0
      · have cn' : isNm t = false := by simpa using cn
        have h0 := bad cn'
        simp +decide only [qX11_asked_0, qX11_asked_1, lm hL, h3.mpr c1, hR'.2.1, h7, hown, cn', Bool.not_false, b01, hR'.2.2.2.2.1, hbl, am_w1_i, am_w1_r, am_w1_x, am_w1_l, am_w1_w, va_rf_s, am_push_n, am_push_s, am_cs_0, am_cs_i, am_cs_l, am_cs_r, m_uI_K, m_uI_N, m_uI_R, m_uI_L, m_uI_I, m_uL_K, m_uL_N, m_uL_R, m_uL_I, m_uL_L, m_uR_K, m_uR_N, m_uR_I, m_uR_L, m_uR_R, true_and, and_true, true_implies, false_implies, not_true_eq_false, not_false_eq_true, if_true, if_false, false_and, and_false]
        exact h0
    · have cn' : isNm t = false := by
        unfold isNm
        rw [Bool.and_eq_false_iff]
        exact Or.inl (by simpa using c1)
      have h0 := bad cn'
      simp +decide only [qX11_asked_0, qX11_asked_1, lm hL, hR'.2.1, hR'.2.2.2.2.1, hbl, am_w1_i, am_w1_r, am_w1_x, am_w1_l, am_w1_w, va_rf_s, am_push_n, am_push_s, am_cs_0, am_cs_i, am_cs_l, am_cs_r, m_uI_K, m_uI_N, m_uI_R, m_uI_L, m_uI_I, m_uL_K, m_uL_N, m_uL_R, m_uL_I, m_uL_L, m_uR_K, m_uR_N, m_uR_I, m_uR_L, m_uR_R, true_and, and_true, true_implies, false_implies, not_true_eq_false, not_false_eq_true, if_true, if_false, false_and, and_false]
      rw [br_q (fun q => c1 (h3.mp q))]
      exact h0
theorem m_word2 (d k : Nat) (w : Int64) (r : Rt) (M : am_M) (Q : Option Value → am_M → Prop) (hL : Lay M) (hk : k < 27) (h2 : wdL (ownW.getD k []) = w) (hR : StM M T n r) (hQ : ∀ M', gF sRm nT M M' → StM M' T n (wordR T n k r) → Q none M') : am_E am_P0 (d + 2) 194 [.ref 277, .long w] M Q := by
  subst h2
  exact m_mustW d k r M Q hL hk hR hQ
/-- a place of the text -/
theorem m_here (d z C R : Nat) (r : Rt) (M : am_M) (Q : Option Value → am_M → Prop) (hL : Lay M) (hz : z ≤ 1) (hin : mI M 277 41 = nI z) (h1 : mI M 279 z = nI C) (h2 : mI M 280 z = nI R) (hC : 1 ≤ C ∧ C ≤ 16) (hRr : 1 ≤ R ∧ R ≤ 16) (hR : StM M T n r)
    (hQ : ∀ M' x, gF sRm nT M M' → StM M' T n (plcR T n C R r).1 → (∀ t', (plcR T n C R r).1 = .inr t' → x = nI (cel C (plcR T n C R r).2)) → Q (some (.int x)) M') : am_E am_P0 (d + 3) 200 [.ref 277] M Q := by
  rw [eX11_cellHere]
  simp +decide only [qX11_cellHere, lm hL, am_w1_i, am_w1_r, am_w1_x, am_w1_l, am_w1_w, va_rf_s, am_push_n, am_push_s, am_cs_0, am_cs_i, am_cs_l, am_cs_r, m_uI_K, m_uI_N, m_uI_R, m_uI_L, m_uI_I, m_uL_K, m_uL_N, m_uL_R, m_uL_I, m_uL_L, m_uR_K, m_uR_N, m_uR_I, m_uR_L, m_uR_R, true_and, and_true, true_implies, false_implies, not_true_eq_false, not_false_eq_true, if_true, if_false, false_and, and_false]
  refine m_word2 d 10 24948 r M _ hL (by omega) (by decide) hR (fun M1 g1 s1 => ?_)
  have L1 := gF_LayN g1 hL
  have kk : ∀ (M' : am_M), gF sRm nT M M' → mI M' 277 41 = nI z ∧ mI M' 279 z = nI C ∧ mI M' 280 z = nI R := fun M' g => ⟨by rw [g.1 _ _ (fun w => by unfold sRm at w; omega)]; exact hin, by rw [g.1 _ _ (fun w => by unfold sRm at w; omega)]; exact h1, by rw [g.1 _ _ (fun w => by unfold sRm at w; omega)]; exact h2⟩
  obtain ⟨i1, c1, r1⟩ := kk M1 g1
  have eC : nI C - 1 = nI (C - 1) := by rw [show (1 : Int32) = nI 1 from rfl, ni_sub (by omega)]
  have eR : nI R - 1 = nI (R - 1) := by rw [show (1 : Int32) = nI 1 from rfl, ni_sub (by omega)]
  simp +decide (disch := omega) only [qX11_cellHere, lm L1, i1, c1, eC, ni_in_t, ni_tn, am_w1_i, am_w1_r, am_w1_x, am_w1_l, am_w1_w, va_rf_s, am_push_n, am_push_s, am_cs_0, am_cs_i, am_cs_l, am_cs_r, m_uI_K, m_uI_N, m_uI_R, m_uI_L, m_uI_I, m_uL_K, m_uL_N, m_uL_R, m_uL_I, m_uL_L, m_uR_K, m_uR_N, m_uR_I, m_uR_L, m_uR_R, true_and, and_true, true_implies, false_implies, not_true_eq_false, not_false_eq_true, if_true, if_false, false_and, and_false]
  rw [show (0 : Int32) = nI 0 from rfl]
  refine m_num d 0 (C - 1) _ M1 _ L1 (by omega) (by omega) s1 (fun M2 x2 g2 s2 e2 => ?_)
  have L2 := gF_LayN g2 L1
  obtain ⟨i2, c2, r2⟩ := kk M2 (gF_trans g1 g2)
  simp +decide (disch := omega) only [qX11_cellHere, lm L2, i2, r2, eR, ni_in_t, ni_tn, am_w1_i, am_w1_r, am_w1_x, am_w1_l, am_w1_w, va_rf_s, am_push_n, am_push_s, am_cs_0, am_cs_i, am_cs_l, am_cs_r, m_uI_K, m_uI_N, m_uI_R, m_uI_L, m_uI_I, m_uL_K, m_uL_N, m_uL_R, m_uL_I, m_uL_L, m_uR_K, m_uR_N, m_uR_I, m_uR_L, m_uR_R, true_and, and_true, true_implies, false_implies, not_true_eq_false, not_false_eq_true, if_true, if_false, false_and, and_false]
  rw [show (0 : Int32) = nI 0 from rfl]
  refine m_num d 0 (R - 1) _ M2 _ L2 (by omega) (by omega) s2 (fun M3 x3 g3 s3 e3 => ?_)
  have L3 := gF_LayN g3 L2
  obtain ⟨i3, c3, r3⟩ := kk M3 (gF_trans g1 (gF_trans g2 g3))
  have h0 := hQ M3 (nI C * x3 + x2) (gF_trans g1 (gF_trans g2 g3)) s3 (fun t' ht' => by
    have hp : (plcR T n C R r).1 = (numR T n 0 (R - 1) (numR T n 0 (C - 1) (wordR T n 10 r)).1).1 := rfl
    rw [hp] at ht'
    have hx3 := e3 t' ht'
    obtain ⟨t1, ht1⟩ := numR_i ht'
    have hx2 := e2 t1 ht1
    have hv3 := numR_v ht'
    have hv2 := numR_v ht1
    have ep : (plcR T n C R r).2 = 16 * (numR T n 0 (R - 1) (numR T n 0 (C - 1) (wordR T n 10 r)).1).2 + (numR T n 0 (C - 1) (wordR T n 10 r)).2 := rfl
    rw [hx3, hx2, ni_mul, ni_add, ep]
    congr 1
    unfold cel
    generalize (numR T n 0 (R - 1) (numR T n 0 (C - 1) (wordR T n 10 r)).1).2 = rr at hv3 ⊢
    generalize (numR T n 0 (C - 1) (wordR T n 10 r)).2 = cc at hv2 ⊢
    have q1 : (16 * rr + cc) / 16 = rr := by omega
    have q2 : (16 * rr + cc) % 16 = cc := by omega
    rw [q1, q2])
  simp +decide (disch := omega) only [qX11_cellHere, lm L3, i3, c3, ni_in_t, ni_tn, am_w1_i, am_w1_r, am_w1_x, am_w1_l, am_w1_w, va_rf_s, am_push_n, am_push_s, am_cs_0, am_cs_i, am_cs_l, am_cs_r, m_uI_K, m_uI_N, m_uI_R, m_uI_L, m_uI_I, m_uL_K, m_uL_N, m_uL_R, m_uL_I, m_uL_L, m_uR_K, m_uR_N, m_uR_I, m_uR_L, m_uR_R, true_and, and_true, true_implies, false_implies, not_true_eq_false, not_false_eq_true, if_true, if_false, false_and, and_false]
  exact h0
end
