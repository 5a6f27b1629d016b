/-! the class's parser: what statements share -/
theorem PsX_r {M M' : am_M} {z c : Nat} {D : Dat} (h : PsX M z D c) (hz : z = 2 ∨ z = 83) (hD : DOK D) (hg : gF sRd nT M M') : PsX M' z D c :=
  PsX_g h hg hD.2.2.1.1 (fun a j q1 q2 _ _ _ _ q => by unfold sRd at q; omega) (FmX_g h.2.2.2.2 hg (fun q => by unfold sRd at q; omega)) (Nat.le_refl _)
theorem nI_any (x : Int32) : ∃ k, x = nI k := ⟨(x.toInt % 4294967296).toNat, by
  rw [← Int32.toInt_inj]
  have h1 := Int32.le_toInt x
  have h2 := Int32.toInt_lt x
  unfold nI
  rw [Int32.toInt_ofNat']
  have e : (Int32.size : Nat) = 4294967296 := rfl
  rw [e]
  simp only [Int.bmod]
  omega⟩
theorem sumF_ext {f g : Nat → Nat} : ∀ n, (∀ i, i < n → f i = g i) → sumF f n = sumF g n := by
  intro n
  induction n with
  | zero => intro _; rfl
  | succ n ih =>
    intro h
    show sumF f n + f n = sumF g n + g n
    rw [ih (fun i hi => h i (by omega)), h n (by omega)]
theorem bk_sum (N : Nat) : ∀ L : List Bk, (∀ k, k ∈ L → k.1 < N) → sumF (fun s => (bkOf L s).length) N = L.length := by
  intro L
  induction L with
  | nil =>
    intro _
    induction N with
    | zero => rfl
    | succ N ih => show sumF _ N + 0 = 0; rw [ih (fun k hk => by cases hk)]; rfl
  | cons k r ih =>
    intro h
    have ih' := ih (fun q hq => h q (List.mem_cons_of_mem _ hq))
    have hk := h k (List.mem_cons_self ..)
    have e : ∀ s, (bkOf (k :: r) s).length = (bkOf r s).length + (if s = k.1 then 1 else 0) := fun s => by
      unfold bkOf
      rw [List.length_map, List.length_map]
      by_cases c : s = k.1
      · rw [List.filter_cons_of_pos (by simp [c]), if_pos c, List.length_cons]
      · rw [List.filter_cons_of_neg (by simp; exact fun q => c q.symm), if_neg c]; rfl
    have key : ∀ M', sumF (fun s => (bkOf (k :: r) s).length) M' = sumF (fun s => (bkOf r s).length) M' + (if k.1 < M' then 1 else 0) := by
      intro M'
      induction M' with
      | zero => rfl
      | succ M' ihm =>
        show sumF (fun s => (bkOf (k :: r) s).length) M' + (bkOf (k :: r) M').length = sumF (fun s => (bkOf r s).length) M' + (bkOf r M').length + _
        rw [ihm, e M']
        by_cases c : M' = k.1
        · rw [if_pos c, if_neg (by omega), if_pos (by omega)]; omega
        · rw [if_neg c]
          by_cases c2 : k.1 < M'
          · rw [if_pos c2, if_pos (by omega)]; omega
          · rw [if_neg c2, if_neg (by omega)]; omega
    rw [key N, if_pos hk, ih', List.length_cons]
theorem l_x_countBooks (d : Nat) (M : am_M) (Q : Option Value → am_M → Prop) (h : Lay M) (z n : Nat) (g : Nat → Nat) (hz : z = 2 ∨ z = 83) (hn : mI M z 3 = nI n) (hn2 : n ≤ 8) (hg : ∀ s, s < n → mI M (z + 25 + 7 * s) 9 = nI (g s)) : ∀ (m k : Nat), k + m = n → (am_P am_P0 d (am_look tX5_countBooks) 4 [.ref z, .int (nI (sumF g k)), .int (nI k)] [] M Q ↔ Q (some (.int (nI (sumF g n)))) M) := by
  intro m
  induction m with
  | zero =>
    intro k hk
    have e : k = n := by omega
    subst e
    have hle : nI k ≤ nI k := (ni_le (by omega) (by omega)).mpr (Nat.le_refl _)
    rw [hX5_countBooks_4]
    simp +decide only [qX5_countBooks, lz h hz, hn, am_w1_i, am_w1_r, am_w1_x, am_w1_l, am_w1_w, va_rf_s, am_push_n, am_push_s, am_cs_0, am_cs_i, am_cs_l, am_cs_r, m_uI_K, m_uI_N, m_uI_R, m_uI_L, m_uI_I, m_uL_K, m_uL_N, m_uL_R, m_uL_I, m_uL_L, m_uR_K, m_uR_N, m_uR_I, m_uR_L, m_uR_R, true_and, and_true, true_implies, false_implies, not_true_eq_false, not_false_eq_true, if_true, if_false, false_and, and_false]
    rw [br_p hle]
  | succ m ih =>
    intro k hk
    have hlt : ¬ nI n ≤ nI k := by rw [ni_le (by omega) (by omega)]; omega
    have hr := lsh h hz (s := k) (by omega)
    have hk16 : mK M (z + 25 + 7 * k) = 16 := (lw_ h ⟨k, by omega, by omega⟩).1
    rw [hX5_countBooks_4]
    simp +decide (disch := omega) only [qX5_countBooks, lz h hz, hn, hr, hk16, hg k (by omega), ni_in_t, ni_tn, ni_add1, ni_add, am_w1_i, am_w1_r, am_w1_x, am_w1_l, am_w1_w, va_rf_s, am_push_n, am_push_s, am_cs_0, am_cs_i, am_cs_l, am_cs_r, m_uI_K, m_uI_N, m_uI_R, m_uI_L, m_uI_I, m_uL_K, m_uL_N, m_uL_R, m_uL_I, m_uL_L, m_uR_K, m_uR_N, m_uR_I, m_uR_L, m_uR_R, true_and, and_true, true_implies, false_implies, not_true_eq_false, not_false_eq_true, if_true, if_false, false_and, and_false, true_or]
    rw [br_n hlt]
    exact ih (k + 1) (by omega)
theorem c_x_countBooks (d z c : Nat) (D : Dat) (M : am_M) (Q : Option Value → am_M → Prop) (h : Lay M) (hz : z = 2 ∨ z = 83) (hP : PsX M z D c) (hD : DOK D) : am_E am_P0 d 61 [.ref z] M Q ↔ Q (some (.int (nI (dBk D).length))) M := by
  have h0 := l_x_countBooks d M Q h z (dSh D).length (fun s => (bkOf (dBk D) s).length) hz hP.1.2.2.2 hD.2.2.1.1 (fun s hs => by
    obtain ⟨sp, hsp⟩ : ∃ sp, (dSh D)[s]? = some sp := ⟨(dSh D)[s]'hs, List.getElem?_eq_getElem hs⟩
    exact (hP.2.1 s sp hsp).2.2.1) (dSh D).length 0 (by omega)
  rw [bk_sum _ _ hD.2.2.2.2.2.2.1.2] at h0
  rw [eX5_countBooks]
  simp +decide only [qX5_countBooks, am_w1_i, am_w1_r, am_w1_x, am_w1_l, am_w1_w, va_rf_s, am_push_n, am_push_s, am_cs_0, am_cs_i, am_cs_l, am_cs_r, m_uI_K, m_uI_N, m_uI_R, m_uI_L, m_uI_I, m_uL_K, m_uL_N, m_uL_R, m_uL_I, m_uL_L, m_uR_K, m_uR_N, m_uR_I, m_uR_L, m_uR_R, true_and, and_true, true_implies, false_implies, not_true_eq_false, not_false_eq_true, if_true, if_false, false_and, and_false]
  exact h0
theorem c_x_tot (d z c : Nat) (D : Dat) (M : am_M) (Q : Option Value → am_M → Prop) (h : Lay M) (hz : z = 2 ∨ z = 83) (hP : PsX M z D c) (hD : DOK D) : am_E am_P0 d 59 [.ref z] M Q ↔ Q (some (.int (nI (dTot D)))) M := by
  obtain ⟨g, hg⟩ : ∃ g : Nat → Nat, ∀ s, mI M (z + 25 + 7 * s) 5 = nI (g s) ∧ (s < (dSh D).length → g s = (dY D s).length) := by
    refine ⟨fun s => if s < (dSh D).length then (dY D s).length else Classical.choose (nI_any (mI M (z + 25 + 7 * s) 5)), fun s => ⟨?_, fun hs => if_pos hs⟩⟩
    dsimp only
    by_cases hs : s < (dSh D).length
    · rw [if_pos hs]
      obtain ⟨sp, hsp⟩ : ∃ sp, (dSh D)[s]? = some sp := ⟨(dSh D)[s]'hs, List.getElem?_eq_getElem hs⟩
      exact (hP.2.1 s sp hsp).2.1.1
    · rw [if_neg hs]
      exact Classical.choose_spec (nI_any (mI M (z + 25 + 7 * s) 5))
  have h0 := c_x_countSayings d M Q h z (dSh D).length g hz hP.1.2.2.2 hD.2.2.1.1 (fun s _ => (hg s).1)
  rw [sumF_ext _ (fun i hi => (hg i).2 hi)] at h0
  exact h0
theorem l_x_shipNamed (d z c : Nat) (D : Dat) (l : List Nat) (M : am_M) (Q : Option Value → am_M → Prop) (h : Lay M) (hz : z = 2 ∨ z = 83) (hP : PsX M z D c) (hD : DOK D) (hl : isWd l) (h6 : l.length ≤ 6) : ∀ (m k : Nat), k + m = (dSh D).length → (∀ j sp, j < k → (dSh D)[j]? = some sp → ¬ sp.1 = l) → (am_P am_P0 d (am_look tX5_shipNamed) 2 [.ref z, .int (nI (pkL l)), .int (nI k)] [] M Q ↔ Q (some (.int (match shF D l with | some s => nI s | none => -1))) M) := by
  have hpk : ∀ l : List Nat, isWd l → l.length ≤ 6 → pkL l < 2147483648 := fun l hl h6 => by
    have h1 := pkL_lt l hl
    have h2 : 32 ^ l.length ≤ 32 ^ 6 := Nat.pow_le_pow_right (by omega) h6
    have h3 : (32 : Nat) ^ 6 = 1073741824 := by decide
    omega
  have h8 := hD.2.2.1.1
  intro m
  induction m with
  | zero =>
    intro k hk hno
    have e : k = (dSh D).length := by omega
    subst e
    have hle : nI (dSh D).length ≤ nI (dSh D).length := (ni_le (by omega) (by omega)).mpr (Nat.le_refl _)
    have hs : shF D l = none := by
      unfold shF
      rw [List.findIdx?_eq_none_iff]
      intro sp hsp
      obtain ⟨j, hj⟩ := List.mem_iff_getElem?.mp hsp
      have := hno j sp (List.getElem?_eq_some_iff.mp hj).1 hj
      simpa using this
    rw [hX5_shipNamed_2, hs]
    simp +decide only [qX5_shipNamed, lz h hz, hP.1.2.2.2, am_w1_i, am_w1_r, am_w1_x, am_w1_l, am_w1_w, va_rf_s, am_push_n, am_push_s, am_cs_0, am_cs_i, am_cs_l, am_cs_r, m_uI_K, m_uI_N, m_uI_R, m_uI_L, m_uI_I, m_uL_K, m_uL_N, m_uL_R, m_uL_I, m_uL_L, m_uR_K, m_uR_N, m_uR_I, m_uR_L, m_uR_R, true_and, and_true, true_implies, false_implies, not_true_eq_false, not_false_eq_true, if_true, if_false, false_and, and_false]
    rw [br_p hle]
  | succ m ih =>
    intro k hk hno
    have hlt : ¬ nI (dSh D).length ≤ nI k := by rw [ni_le (by omega) (by omega)]; omega
    obtain ⟨sp, hsp⟩ : ∃ sp, (dSh D)[k]? = some sp := ⟨(dSh D)[k]'(by omega), List.getElem?_eq_getElem (by omega)⟩
    have hok := hD.2.2.1.2.2 sp (List.mem_of_getElem? hsp)
    have hr := lsh h hz (s := k) (by omega)
    have hk16 : mK M (z + 25 + 7 * k) = 16 := (lw_ h ⟨k, by omega, by omega⟩).1
    have hnm := (hP.2.1 k sp hsp).1.1
    rw [hX5_shipNamed_2]
    simp +decide (disch := omega) only [qX5_shipNamed, lz h hz, hP.1.2.2.2, hr, hk16, hnm, ni_in_t, ni_tn, ni_add1, am_w1_i, am_w1_r, am_w1_x, am_w1_l, am_w1_w, va_rf_s, am_push_n, am_push_s, am_cs_0, am_cs_i, am_cs_l, am_cs_r, m_uI_K, m_uI_N, m_uI_R, m_uI_L, m_uI_I, m_uL_K, m_uL_N, m_uL_R, m_uL_I, m_uL_L, m_uR_K, m_uR_N, m_uR_I, m_uR_L, m_uR_R, true_and, and_true, true_implies, false_implies, not_true_eq_false, not_false_eq_true, if_true, if_false, false_and, and_false, true_or]
    rw [br_n hlt]
    by_cases cq : sp.1 = l
    · have hs : shF D l = some k := by
        unfold shF
        rw [List.findIdx?_eq_some_iff_getElem]
        obtain ⟨hkl, hke⟩ := List.getElem?_eq_some_iff.mp hsp
        refine ⟨hkl, by rw [hke]; simpa using cq, fun j hj => ?_⟩
        have := hno j _ hj (List.getElem?_eq_getElem (by omega))
        simpa using this
      rw [br_r (by rw [cq]), hs]
    · rw [br_q (fun q => cq (pkL_inj _ _ hok.1 hl ((ni_eq (hpk _ hok.1 hok.2.2.1) (hpk _ hl h6)).mp q)))]
      exact ih (k + 1) (by omega) (fun j sp' hj hsp' => by
        by_cases e : j = k
        · subst e; cases hsp.symm.trans hsp'; exact cq
        · exact hno j sp' (by omega) hsp')
theorem c_x_shipNamed (d z c : Nat) (D : Dat) (l : List Nat) (M : am_M) (Q : Option Value → am_M → Prop) (h : Lay M) (hz : z = 2 ∨ z = 83) (hP : PsX M z D c) (hD : DOK D) (hl : isWd l) (h6 : l.length ≤ 6) : am_E am_P0 d 62 [.ref z, .int (nI (pkL l))] M Q ↔ Q (some (.int (match shF D l with | some s => nI s | none => -1))) M := by
  rw [eX5_shipNamed]
  simp +decide only [qX5_shipNamed, am_w1_i, am_w1_r, am_w1_x, am_w1_l, am_w1_w, va_rf_s, am_push_n, am_push_s, am_cs_0, am_cs_i, am_cs_l, am_cs_r, m_uI_K, m_uI_N, m_uI_R, m_uI_L, m_uI_I, m_uL_K, m_uL_N, m_uL_R, m_uL_I, m_uL_L, m_uR_K, m_uR_N, m_uR_I, m_uR_L, m_uR_R, true_and, and_true, true_implies, false_implies, not_true_eq_false, not_false_eq_true, if_true, if_false, false_and, and_false]
  exact l_x_shipNamed d z c D l M Q h hz hP hD hl h6 (dSh D).length 0 (by omega) (fun j sp hj => by omega)
section
variable {T : Nat → Nat} {n z : Nat}
theorem c_x_oneMore (d : Nat) (b : Bool) (t : Tok) (M : am_M) (Q : Option Value → am_M → Prop) (hL : Lay M) (hR : StR M T n (.inr t))
    (hQ : ∀ M', gF sRd nT M M' → StR M' T n (if b = true then .inl (5, tS t) else advR T n t) → Q (some (.int (b01 (!b)))) M') : am_E am_P0 (d + 2) 13 [.ref 164, .int (b01 b)] M Q := by
  rw [eX2_beginStatement]
  cases b with
  | true =>
    simp +decide only [qX2_beginStatement, lx hL, b01, am_w1_i, am_w1_r, am_w1_x, am_w1_l, am_w1_w, va_rf_s, am_push_n, am_push_s, am_cs_0, am_cs_i, am_cs_l, am_cs_r, m_uI_K, m_uI_N, m_uI_R, m_uI_L, m_uI_I, m_uL_K, m_uL_N, m_uL_R, m_uL_I, m_uL_L, m_uR_K, m_uR_N, m_uR_I, m_uR_L, m_uR_R, true_and, and_true, true_implies, false_implies, not_true_eq_false, not_false_eq_true, if_true, if_false, false_and, and_false]
    rw [show (5 : Int32) = nI 5 from rfl]
    refine c_x_refuse d n 5 T (.inr t) M _ hL (by omega) hR (fun M1 g1 h1 => ?_)
    have h0 := hQ M1 g1 h1
    simp +decide only [qX2_beginStatement, am_w1_i, am_w1_r, am_w1_x, am_w1_l, am_w1_w, va_rf_s, am_push_n, am_push_s, am_cs_0, am_cs_i, am_cs_l, am_cs_r, m_uI_K, m_uI_N, m_uI_R, m_uI_L, m_uI_I, m_uL_K, m_uL_N, m_uL_R, m_uL_I, m_uL_L, m_uR_K, m_uR_N, m_uR_I, m_uR_L, m_uR_R, true_and, and_true, true_implies, false_implies, not_true_eq_false, not_false_eq_true, if_true, if_false, false_and, and_false]
    exact h0
  | false =>
    simp +decide only [qX2_beginStatement, lx hL, b01, am_w1_i, am_w1_r, am_w1_x, am_w1_l, am_w1_w, va_rf_s, am_push_n, am_push_s, am_cs_0, am_cs_i, am_cs_l, am_cs_r, m_uI_K, m_uI_N, m_uI_R, m_uI_L, m_uI_I, m_uL_K, m_uL_N, m_uL_R, m_uL_I, m_uL_L, m_uR_K, m_uR_N, m_uR_I, m_uR_L, m_uR_R, true_and, and_true, true_implies, false_implies, not_true_eq_false, not_false_eq_true, if_true, if_false, false_and, and_false]
    refine c_x_stepR d n T (.inr t) M _ hL hR (fun M1 g1 h1 => ?_)
    have h0 := hQ M1 g1 h1
    simp +decide only [qX2_beginStatement, am_w1_i, am_w1_r, am_w1_x, am_w1_l, am_w1_w, va_rf_s, am_push_n, am_push_s, am_cs_0, am_cs_i, am_cs_l, am_cs_r, m_uI_K, m_uI_N, m_uI_R, m_uI_L, m_uI_I, m_uL_K, m_uL_N, m_uL_R, m_uL_I, m_uL_L, m_uR_K, m_uR_N, m_uR_I, m_uR_L, m_uR_R, true_and, and_true, true_implies, false_implies, not_true_eq_false, not_false_eq_true, if_true, if_false, false_and, and_false]
    exact h0
theorem c_x_takeAfter (d w lo hi : Nat) (r : Rt) (M : am_M) (Q : Option Value → am_M → Prop) (hL : Lay M) (hw : w < 27) (hlo : lo < 10000) (hhi : hi < 10000) (hR : StR M T n r)
    (hQ : ∀ M', gF sRd nT M M' → StR M' T n (aftR T n w lo hi r).1 → Q (some (.int (nI (aftR T n w lo hi r).2))) M') : am_E am_P0 (d + 4) 15 [.ref 164, .int (nI w), .int (nI lo), .int (nI hi)] M Q := by
  rw [eX2_takeAfter]
  simp +decide only [qX2_takeAfter, lx hL, am_w1_i, am_w1_r, am_w1_x, am_w1_l, am_w1_w, va_rf_s, am_push_n, am_push_s, am_cs_0, am_cs_i, am_cs_l, am_cs_r, m_uI_K, m_uI_N, m_uI_R, m_uI_L, m_uI_I, m_uL_K, m_uL_N, m_uL_R, m_uL_I, m_uL_L, m_uR_K, m_uR_N, m_uR_I, m_uR_L, m_uR_R, true_and, and_true, true_implies, false_implies, not_true_eq_false, not_false_eq_true, if_true, if_false, false_and, and_false]
  refine c_x_takeWord (d + 1) n w T r M _ hL hw hR (fun M1 g1 h1 => ?_)
  have L1 := gF_LayN g1 hL
  simp +decide only [qX2_takeAfter, lx L1, am_w1_i, am_w1_r, am_w1_x, am_w1_l, am_w1_w, va_rf_s, am_push_n, am_push_s, am_cs_0, am_cs_i, am_cs_l, am_cs_r, m_uI_K, m_uI_N, m_uI_R, m_uI_L, m_uI_I, m_uL_K, m_uL_N, m_uL_R, m_uL_I, m_uL_L, m_uR_K, m_uR_N, m_uR_I, m_uR_L, m_uR_R, true_and, and_true, true_implies, false_implies, not_true_eq_false, not_false_eq_true, if_true, if_false, false_and, and_false]
  refine c_x_takeNumber d n lo hi T _ M1 _ L1 hlo hhi h1 (fun M2 g2 h2 => ?_)
  have h0 := hQ M2 (gF_trans g1 g2) h2
  simp +decide only [qX2_takeAfter, am_w1_i, am_w1_r, am_w1_x, am_w1_l, am_w1_w, va_rf_s, am_push_n, am_push_s, am_cs_0, am_cs_i, am_cs_l, am_cs_r, m_uI_K, m_uI_N, m_uI_R, m_uI_L, m_uI_I, m_uL_K, m_uL_N, m_uL_R, m_uL_I, m_uL_L, m_uR_K, m_uR_N, m_uR_I, m_uR_L, m_uR_R, true_and, and_true, true_implies, false_implies, not_true_eq_false, not_false_eq_true, if_true, if_false, false_and, and_false]
  exact h0
theorem numR_v {lo hi : Nat} {r : Rt} {t : Tok} (h : (numR T n lo hi r).1 = .inr t) : lo ≤ (numR T n lo hi r).2 ∧ (numR T n lo hi r).2 ≤ hi := by
  cases r with
  | inl e => cases h
  | inr t0 =>
    have em : numR T n lo hi (.inr t0) = if ¬ t0.1 = 2 then (.inl (1, tS t0), lo) else if t0.2.1 < lo ∨ hi < t0.2.1 then (.inl (4, tS t0), lo) else (advR T n t0, t0.2.1) := rfl
    rw [em] at h ⊢
    by_cases c1 : ¬ t0.1 = 2
    · rw [if_pos c1] at h; cases h
    · rw [if_neg c1] at h ⊢
      by_cases c2 : t0.2.1 < lo ∨ hi < t0.2.1
      · rw [if_pos c2] at h; cases h
      · rw [if_neg c2]; show lo ≤ t0.2.1 ∧ t0.2.1 ≤ hi; omega
/-- a fault stays -/
theorem wordR_i {k : Nat} {r : Rt} {t : Tok} (h : wordR T n k r = .inr t) : ∃ t0, r = .inr t0 := by
  cases r with
  | inl e => cases h
  | inr t0 => exact ⟨t0, rfl⟩
theorem numR_i {lo hi : Nat} {r : Rt} {t : Tok} (h : (numR T n lo hi r).1 = .inr t) : ∃ t0, r = .inr t0 := by
  cases r with
  | inl e => cases h
  | inr t0 => exact ⟨t0, rfl⟩
theorem c_x_takePlace (d c : Nat) (D : Dat) (r : Rt) (M : am_M) (Q : Option Value → am_M → Prop) (hL : Lay M) (hz : z = 2 ∨ z = 83) (hp : mR M 164 1 = some z) (hP : PsX M z D c) (hD : DOK D) (hC : 1 ≤ dC D) (hRr : 1 ≤ dR D) (hR : StR M T n r)
    (hQ : ∀ M', gF sRd nT M M' → StR M' T n (plcR T n (dC D) (dR D) r).1 → Q (some (.int (nI (plcR T n (dC D) (dR D) r).2))) M') : am_E am_P0 (d + 4) 18 [.ref 164] M Q := by
  obtain ⟨⟨c1, c2⟩, -⟩ := id hD
  have e1 : nI (dC D) - 1 = nI (dC D - 1) := by rw [show (1 : Int32) = nI 1 from rfl, ni_sub (by omega)]
  have e2 : nI (dR D) - 1 = nI (dR D - 1) := by rw [show (1 : Int32) = nI 1 from rfl, ni_sub (by omega)]
  rw [eX2_takePlace]
  simp +decide only [qX2_takePlace, lx hL, am_w1_i, am_w1_r, am_w1_x, am_w1_l, am_w1_w, va_rf_s, am_push_n, am_push_s, am_cs_0, am_cs_i, am_cs_l, am_cs_r, m_uI_K, m_uI_N, m_uI_R, m_uI_L, m_uI_I, m_uL_K, m_uL_N, m_uL_R, m_uL_I, m_uL_L, m_uR_K, m_uR_N, m_uR_I, m_uR_L, m_uR_R, true_and, and_true, true_implies, false_implies, not_true_eq_false, not_false_eq_true, if_true, if_false, false_and, and_false]
  rw [show (10 : Int32) = nI 10 from rfl]
  refine c_x_takeWord (d + 1) n 10 T r M _ hL (by omega) hR (fun M1 g1 h1 => ?_)
  have L1 := gF_LayN g1 hL
  have P1 := PsX_r hP hz hD g1
  have p1 : mR M1 164 1 = some z := by rw [g1.2.2.1 _ _ (fun q => q)]; exact hp
  simp +decide only [qX2_takePlace, lx L1, lz L1 hz, p1, P1.1.1, e1, am_w1_i, am_w1_r, am_w1_x, am_w1_l, am_w1_w, va_rf_s, am_push_n, am_push_s, am_cs_0, am_cs_i, am_cs_l, am_cs_r, m_uI_K, m_uI_N, m_uI_R, m_uI_L, m_uI_I, m_uL_K, m_uL_N, m_uL_R, m_uL_I, m_uL_L, m_uR_K, m_uR_N, m_uR_I, m_uR_L, m_uR_R, true_and, and_true, true_implies, false_implies, not_true_eq_false, not_false_eq_true, if_true, if_false, false_and, and_false]
  rw [show (0 : Int32) = nI 0 from rfl]
  refine c_x_takeNumber d n 0 (dC D - 1) T _ M1 _ L1 (by omega) (by omega) h1 (fun M2 g2 h2 => ?_)
  have L2 := gF_LayN g2 L1
  have P2 := PsX_r P1 hz hD g2
  have p2 : mR M2 164 1 = some z := by rw [g2.2.2.1 _ _ (fun q => q)]; exact p1
  simp +decide only [qX2_takePlace, lx L2, lz L2 hz, p2, P2.1.2.1, e2, am_w1_i, am_w1_r, am_w1_x, am_w1_l, am_w1_w, va_rf_s, am_push_n, am_push_s, am_cs_0, am_cs_i, am_cs_l, am_cs_r, m_uI_K, m_uI_N, m_uI_R, m_uI_L, m_uI_I, m_uL_K, m_uL_N, m_uL_R, m_uL_I, m_uL_L, m_uR_K, m_uR_N, m_uR_I, m_uR_L, m_uR_R, true_and, and_true, true_implies, false_implies, not_true_eq_false, not_false_eq_true, if_true, if_false, false_and, and_false]
  rw [show (0 : Int32) = nI 0 from rfl]
  refine c_x_takeNumber d n 0 (dR D - 1) T _ M2 _ L2 (by omega) (by omega) h2 (fun M3 g3 h3 => ?_)
  have h0 := hQ M3 (gF_trans g1 (gF_trans g2 g3)) h3
  have e3 : nI (numR T n 0 (dR D - 1) (numR T n 0 (dC D - 1) (wordR T n 10 r)).1).2 * 16 + nI (numR T n 0 (dC D - 1) (wordR T n 10 r)).2 = nI (plcR T n (dC D) (dR D) r).2 := by
    rw [show (16 : Int32) = nI 16 from rfl, ni_mul, ni_add, Nat.mul_comm]; rfl
  simp +decide only [qX2_takePlace, e3, am_w1_i, am_w1_r, am_w1_x, am_w1_l, am_w1_w, va_rf_s, am_push_n, am_push_s, am_cs_0, am_cs_i, am_cs_l, am_cs_r, m_uI_K, m_uI_N, m_uI_R, m_uI_L, m_uI_I, m_uL_K, m_uL_N, m_uL_R, m_uL_I, m_uL_L, m_uR_K, m_uR_N, m_uR_I, m_uR_L, m_uR_R, true_and, and_true, true_implies, false_implies, not_true_eq_false, not_false_eq_true, if_true, if_false, false_and, and_false]
  exact h0
theorem c_x_takeShip (d c : Nat) (D : Dat) (r : Rt) (M : am_M) (Q : Option Value → am_M → Prop) (hL : Lay M) (hz : z = 2 ∨ z = 83) (hp : mR M 164 1 = some z) (hP : PsX M z D c) (hD : DOK D) (hR : StR M T n r)
    (hF : ∀ M' e, gF sRd nT M M' → (shpR T n D r).1 = .inl e → StR M' T n (.inl e) → Q (some (.int (-1))) M')
    (hN : ∀ M' s, gF sRd nT M M' → s < (dSh D).length → (shpR T n D r).2 = s → StR M' T n (shpR T n D r).1 → Q (some (.int (nI s))) M') : am_E am_P0 (d + 3) 17 [.ref 164] M Q := by
  rw [eX2_takeShip]
  simp +decide only [qX2_takeShip, lx hL, am_w1_i, am_w1_r, am_w1_x, am_w1_l, am_w1_w, va_rf_s, am_push_n, am_push_s, am_cs_0, am_cs_i, am_cs_l, am_cs_r, m_uI_K, m_uI_N, m_uI_R, m_uI_L, m_uI_I, m_uL_K, m_uL_N, m_uL_R, m_uL_I, m_uL_L, m_uR_K, m_uR_N, m_uR_I, m_uR_L, m_uR_R, true_and, and_true, true_implies, false_implies, not_true_eq_false, not_false_eq_true, if_true, if_false, false_and, and_false]
  refine c_x_isName d n T r M _ hL hR (fun M1 g1 h1 => ?_)
  have L1 := gF_LayN g1 hL
  have P1 := PsX_r hP hz hD g1
  have p1 : mR M1 164 1 = some z := by rw [g1.2.2.1 _ _ (fun q => q)]; exact hp
  cases r with
  | inl e =>
    have h0 := hF M1 e g1 rfl h1
    have en : (nameR (.inl e)).2 = false := rfl
    simp +decide only [qX2_takeShip, en, b01, am_w1_i, am_w1_r, am_w1_x, am_w1_l, am_w1_w, va_rf_s, am_push_n, am_push_s, am_cs_0, am_cs_i, am_cs_l, am_cs_r, m_uI_K, m_uI_N, m_uI_R, m_uI_L, m_uI_I, m_uL_K, m_uL_N, m_uL_R, m_uL_I, m_uL_L, m_uR_K, m_uR_N, m_uR_I, m_uR_L, m_uR_R, true_and, and_true, true_implies, false_implies, not_true_eq_false, not_false_eq_true, if_true, if_false, false_and, and_false]
    exact h0
  | inr t =>
    have en : nameR (.inr t) = if isNm t = true then (.inr t, true) else (.inl (1, tS t), false) := rfl
    have es : shpR T n D (.inr t) = match (nameR (.inr t)).1 with
      | .inl e => (.inl e, 0)
      | .inr t => match shF D t.2.2.1 with
        | none => (.inl (3, tS t), 0)
        | some s => (advR T n t, s) := rfl
    by_cases cn : isNm t = true
    · rw [if_pos cn] at en
      rw [en] at es h1 ⊢
      dsimp only at es
      have h1' : RdX M1 T n t := h1
      have ht1 : t.1 = 1 := by unfold isNm at cn; rw [Bool.and_eq_true, beq_iff_eq] at cn; exact cn.1
      have hG := h1'.2.2.2.2.2.2.2.2.1
      have hw := hG.2.2.2.2.2.1 ht1
      have h5 := h1'.2.2.2.2.2.2.2.1
      rw [if_pos ht1] at h5
      simp +decide only [qX2_takeShip, lx L1, lz L1 hz, p1, h5, c_x_shipNamed (d + 2) z c D t.2.2.1 M1 _ L1 hz P1 hD hw.1 hw.2.1, b01, am_w1_i, am_w1_r, am_w1_x, am_w1_l, am_w1_w, va_rf_s, am_push_n, am_push_s, am_cs_0, am_cs_i, am_cs_l, am_cs_r, m_uI_K, m_uI_N, m_uI_R, m_uI_L, m_uI_I, m_uL_K, m_uL_N, m_uL_R, m_uL_I, m_uL_L, m_uR_K, m_uR_N, m_uR_I, m_uR_L, m_uR_R, true_and, and_true, true_implies, false_implies, not_true_eq_false, not_false_eq_true, if_true, if_false, false_and, and_false]
      cases hs : shF D t.2.2.1 with
      | none =>
        rw [hs] at es
        dsimp only at es
        simp +decide only [qX2_takeShip, lx L1, am_w1_i, am_w1_r, am_w1_x, am_w1_l, am_w1_w, va_rf_s, am_push_n, am_push_s, am_cs_0, am_cs_i, am_cs_l, am_cs_r, m_uI_K, m_uI_N, m_uI_R, m_uI_L, m_uI_I, m_uL_K, m_uL_N, m_uL_R, m_uL_I, m_uL_L, m_uR_K, m_uR_N, m_uR_I, m_uR_L, m_uR_R, true_and, and_true, true_implies, false_implies, not_true_eq_false, not_false_eq_true, if_true, if_false, false_and, and_false]
        rw [show (3 : Int32) = nI 3 from rfl]
        refine c_x_refuse (d + 1) n 3 T (.inr t) M1 _ L1 (by omega) h1 (fun M2 g2 h2 => ?_)
        have h0 := hF M2 (3, tS t) (gF_trans g1 g2) (by rw [es]) h2
        simp +decide only [qX2_takeShip, am_w1_i, am_w1_r, am_w1_x, am_w1_l, am_w1_w, va_rf_s, am_push_n, am_push_s, am_cs_0, am_cs_i, am_cs_l, am_cs_r, m_uI_K, m_uI_N, m_uI_R, m_uI_L, m_uI_I, m_uL_K, m_uL_N, m_uL_R, m_uL_I, m_uL_L, m_uR_K, m_uR_N, m_uR_I, m_uR_L, m_uR_R, true_and, and_true, true_implies, false_implies, not_true_eq_false, not_false_eq_true, if_true, if_false, false_and, and_false]
        exact h0
      | some s =>
        rw [hs] at es
        dsimp only at es
        have hsl : s < (dSh D).length := by
          unfold shF at hs
          rw [List.findIdx?_eq_some_iff_getElem] at hs
          exact hs.1
        have h8 := hD.2.2.1.1
        have hs1 : ¬ nI s = -1 := nI_m1 (by omega)
        simp +decide only [qX2_takeShip, lx L1, am_w1_i, am_w1_r, am_w1_x, am_w1_l, am_w1_w, va_rf_s, am_push_n, am_push_s, am_cs_0, am_cs_i, am_cs_l, am_cs_r, m_uI_K, m_uI_N, m_uI_R, m_uI_L, m_uI_I, m_uL_K, m_uL_N, m_uL_R, m_uL_I, m_uL_L, m_uR_K, m_uR_N, m_uR_I, m_uR_L, m_uR_R, true_and, and_true, true_implies, false_implies, not_true_eq_false, not_false_eq_true, if_true, if_false, false_and, and_false]
        rw [br_p hs1]
        refine c_x_stepR (d + 1) n T (.inr t) M1 _ L1 h1 (fun M2 g2 h2 => ?_)
        have h0 := hN M2 s (gF_trans g1 g2) hsl (by rw [es]) (by rw [es]; exact h2)
        simp +decide only [qX2_takeShip, am_w1_i, am_w1_r, am_w1_x, am_w1_l, am_w1_w, va_rf_s, am_push_n, am_push_s, am_cs_0, am_cs_i, am_cs_l, am_cs_r, m_uI_K, m_uI_N, m_uI_R, m_uI_L, m_uI_I, m_uL_K, m_uL_N, m_uL_R, m_uL_I, m_uL_L, m_uR_K, m_uR_N, m_uR_I, m_uR_L, m_uR_R, true_and, and_true, true_implies, false_implies, not_true_eq_false, not_false_eq_true, if_true, if_false, false_and, and_false]
        exact h0
    · rw [if_neg cn] at en
      rw [en] at es h1 ⊢
      dsimp only at es
      have h0 := hF M1 (1, tS t) g1 (by rw [es]) h1
      simp +decide only [qX2_takeShip, b01, am_w1_i, am_w1_r, am_w1_x, am_w1_l, am_w1_w, va_rf_s, am_push_n, am_push_s, am_cs_0, am_cs_i, am_cs_l, am_cs_r, m_uI_K, m_uI_N, m_uI_R, m_uI_L, m_uI_I, m_uL_K, m_uL_N, m_uL_R, m_uL_I, m_uL_L, m_uR_K, m_uR_N, m_uR_I, m_uR_L, m_uR_R, true_and, and_true, true_implies, false_implies, not_true_eq_false, not_false_eq_true, if_true, if_false, false_and, and_false]
      exact h0
end
