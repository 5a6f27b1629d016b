/-! the model: isPair, the beginning; gaps -/
section
variable (w : Nat → Prop) (v : Nat) (snd : Nat → Bool → Prop) (B : List Fct) (Y : List Sy)
def alP (i : Nat) : Prop := ∀ k, k < i → gdF w v snd B Y k = true ∧ ∀ j, j < Y.length → goF w v Y k j = true
variable (d : Nat) (M : am_M) (Q : Option Value → am_M → Prop) (x1 : Int32)
theorem l_m_pair4 (hL : Lay M) (hP : PrM w v snd B Y M Y.length) (h48 : Y.length ≤ 48) (i : Nat) (hi : i < Y.length)
    (hN : ∀ p : Prop, (p ↔ alP w v snd B Y (i + 1)) → am_P am_P0 d (am_look tX11_isPair) 121 [.ref 277, .int x1, .int (tI p), .int (nI i), .int (nI Y.length)] [] M Q) :
    ∀ (m j : Nat), j + m = Y.length → ∀ p : Prop, (p ↔ (alP w v snd B Y i ∧ gdF w v snd B Y i = true ∧ ∀ k, k < j → goF w v Y i k = true)) → am_P am_P0 d (am_look tX11_isPair) 81 [.ref 277, .int x1, .int (tI p), .int (nI i), .int (nI j)] [] M Q := by
  intro m
  induction m with
  | zero =>
    intro j hj p hp
    have ej : j = Y.length := by omega
    subst ej
    have hle : nI Y.length ≤ nI Y.length := (ni_le (by omega) (by omega)).mpr (by omega)
    have h0 := hN p (by
      rw [hp]
      constructor
      · rintro ⟨a2, b1, b2⟩ k hk
        by_cases c : k = i
        · subst c; exact ⟨b1, b2⟩
        · exact a2 k (by omega)
      · intro a2
        exact ⟨fun k hk => a2 k (by omega), (a2 i (by omega)).1, (a2 i (by omega)).2⟩)
    rw [hX11_isPair_81]
    simp +decide only [qX11_isPair_0, qX11_isPair_1, qX11_isPair_2, qX11_isPair_3, lm hL, hP.1.1, am_w1_i, am_w1_r, am_w1_x, am_w1_l, am_w1_w, va_rf_s, am_push_n, am_push_s, am_cs_0, am_cs_i, am_cs_l, am_cs_r, m_uI_K, m_uI_N, m_uI_R, m_uI_L, m_uI_I, m_uL_K, m_uL_N, m_uL_R, m_uL_I, m_uL_L, m_uR_K, m_uR_N, m_uR_I, m_uR_L, m_uR_R, true_and, and_true, true_implies, false_implies, not_true_eq_false, not_false_eq_true, if_true, if_false, false_and, and_false] at h0 ⊢
    first | rw [br_p (hle)] | rw [br_r (hle)] | rw [br_s (hle)]
    exact h0
  | succ m ih =>
    intro j hj p hp
    have hlt : ¬ nI Y.length ≤ nI j := by rw [ni_le (by omega) (by omega)]; omega
    have e48 : (48 : Int32) * nI i + nI j = nI (48 * i + j) := by rw [show (48 : Int32) = nI 48 from rfl, ni_mul, ni_add]
    obtain ⟨y, hy⟩ : ∃ y, Y[i]? = some y := ⟨Y[i]'hi, List.getElem?_eq_getElem hi⟩
    obtain ⟨y', hy'⟩ : ∃ y, Y[j]? = some y := ⟨Y[j]'(by omega), List.getElem?_eq_getElem (by omega)⟩
    have hg := hP.2.2 i j y y' hi hy hy'
    rw [hX11_isPair_81]
    simp +decide (disch := omega) only [qX11_isPair_0, qX11_isPair_1, qX11_isPair_2, qX11_isPair_3, lm hL, hP.1.1, e48, hg, tI_01, tI_0, ni_in_t, ni_tn, ni_add1, am_w1_i, am_w1_r, am_w1_x, am_w1_l, am_w1_w, va_rf_s, am_push_n, am_push_s, am_cs_0, am_cs_i, am_cs_l, am_cs_r, m_uI_K, m_uI_N, m_uI_R, m_uI_L, m_uI_I, m_uL_K, m_uL_N, m_uL_R, m_uL_I, m_uL_L, m_uR_K, m_uR_N, m_uR_I, m_uR_L, m_uR_R, true_and, and_true, true_implies, false_implies, not_true_eq_false, not_false_eq_true, if_true, if_false, false_and, and_false]
    first | rw [br_n (hlt)] | rw [br_q (hlt)] | rw [br_u (hlt)]
    by_cases c : p
    · first | rw [br_p (c)] | rw [br_r (c)] | rw [br_s (c)]
      by_cases c2 : gowY w v y y'
      · first | rw [br_p (c2)] | rw [br_r (c2)] | rw [br_s (c2)]
        have h0 := ih (j + 1) (by omega) True (by
          rw [hp] at c
          refine ⟨fun _ => ⟨c.1, c.2.1, fun k hk => ?_⟩, fun _ => trivial⟩
          by_cases e : k = j
          · subst e; exact (goF_y hy hy').mpr c2
          · exact c.2.2 k (by omega))
        rw [tI_t trivial] at h0
        exact h0
      · first | rw [br_n (c2)] | rw [br_q (c2)] | rw [br_u (c2)]
        have h0 := ih (j + 1) (by omega) False ⟨fun q => q.elim, fun q => c2 ((goF_y hy hy').mp (q.2.2 j (by omega)))⟩
        rw [tI_f (fun q => q)] at h0
        exact h0
    · first | rw [br_n (c)] | rw [br_q (c)] | rw [br_u (c)]
      have h0 := ih (j + 1) (by omega) False ⟨fun q => q.elim, fun q => c (hp.mpr ⟨q.1, q.2.1, fun k hk => q.2.2 k (by omega)⟩)⟩
      rw [tI_f (fun q => q)] at h0
      exact h0
end
theorem l_m_pair3 (d b s : Nat) (D : Dat) (M0 : am_M) (Q : Option Value → am_M → Prop) (hD : dOK D) (hL0 : Lay M0) (h0' : MdM M0 b D) (hs : s < dN D) (hP0 : PrM (dWt D s) (dV D s) (dSn D s) (dBs D s) (dY D s) M0 (dY D s).length)
    (hF : ∀ M', gF s328 nT M0 M' → ¬ (∀ y, y ∈ dY D s → dSn D s y.2.1 y.2.2) → Q (some (.int 0)) M')
    (hN : ∀ M' v4, gF s328 nT M0 M' → jk v4 → (∀ y, y ∈ dY D s → dSn D s y.2.1 y.2.2) → SeM M' (dY D s).length (fun _ => none) → am_P am_P0 (d + 1) (am_look tX11_isPair) 134 [.ref 277, .int (nI s), .int (tI (alP (dWt D s) (dV D s) (dSn D s) (dBs D s) (dY D s) (dY D s).length)), .int (nI (dY D s).length), v4] [] M' Q) :
    ∀ (m i : Nat), i + m = (dY D s).length → ∀ (M : am_M) (v4 : Value), jk v4 → gF s328 nT M0 M → (∀ k y, k < i → (dY D s)[k]? = some y → dSn D s y.2.1 y.2.2) → SeM M i (fun _ => none) → am_P am_P0 (d + 1) (am_look tX11_isPair) 19 [.ref 277, .int (nI s), .int (tI (alP (dWt D s) (dV D s) (dSn D s) (dBs D s) (dY D s) i)), .int (nI i), v4] [] M Q := by
  have n8 := dN_8 hD
  have h48 := dY_len hD s
  intro m
  induction m with
  | zero =>
    intro i hi M v4 hv4 hM hb hS
    have hL := gF_LayN hM hL0
    have hP := PrM_g hP0 hM (fun a j q z => by unfold s328 at z; omega)
    have ei : i = (dY D s).length := by omega
    subst ei
    have hle : nI (dY D s).length ≤ nI (dY D s).length := (ni_le (by omega) (by omega)).mpr (by omega)
    have h0 := hN M v4 hM hv4 (fun y hy => by
      obtain ⟨k, hk, e⟩ := List.mem_iff_getElem.mp hy
      exact hb k y hk (by rw [List.getElem?_eq_getElem hk, e])) hS
    rw [hX11_isPair_19]
    simp +decide only [qX11_isPair_0, qX11_isPair_1, qX11_isPair_2, qX11_isPair_3, lm hL, hP.1.1, jk_w hv4, am_w1_i, am_w1_r, am_w1_x, am_w1_l, am_w1_w, va_rf_s, am_push_n, am_push_s, am_cs_0, am_cs_i, am_cs_l, am_cs_r, m_uI_K, m_uI_N, m_uI_R, m_uI_L, m_uI_I, m_uL_K, m_uL_N, m_uL_R, m_uL_I, m_uL_L, m_uR_K, m_uR_N, m_uR_I, m_uR_L, m_uR_R, true_and, and_true, true_implies, false_implies, not_true_eq_false, not_false_eq_true, if_true, if_false, false_and, and_false] at h0 ⊢
    first | rw [br_p (hle)] | rw [br_r (hle)] | rw [br_s (hle)]
    exact h0
  | succ m ih =>
    intro i hi M v4 hv4 hM hb hS
    have hL := gF_LayN hM hL0
    have h := MdM_g h0' hM (fun a j q z => by unfold s328 at z; unfold tlM at q; omega)
    have hP := PrM_g hP0 hM (fun a j q z => by unfold s328 at z; omega)
    have hlt : ¬ nI (dY D s).length ≤ nI i := by rw [ni_le (by omega) (by omega)]; omega
    obtain ⟨y, hy⟩ : ∃ y, (dY D s)[i]? = some y := ⟨(dY D s)[i]'(by omega), List.getElem?_eq_getElem (by omega)⟩
    have ym := List.mem_of_getElem? hy
    have yv := hD.1.2.2.2.1 s y ym
    have hg := hP.2.1 i y (by omega) hy
    have hhr := hP.1.2 i y hy
    have esd := fun Q => (m_said hL h (s := s) (by omega) ym yv.1 d Q).1
    have eld := fun Q => (m_said hL h (s := s) (by omega) ym yv.1 d Q).2
    have hc := (cel_lt hD.1.1.1 hD.1.1.2 yv.2).2.1
    have eso := fun Q => c_m_isSound d s (cel (dC D) y.2.1) (b01 y.2.2) M Q hL b h.1.1 h.1.2 (by omega) hc
    have hsn := m_snd (mh hD h hs).2.1.2.2.2.1 yv.2 y.2.2
    rw [hX11_isPair_19]
    simp +decide (disch := omega) only [qX11_isPair_0, qX11_isPair_1, qX11_isPair_2, qX11_isPair_3, lm hL, hP.1.1, hhr, esd, eld, eso, hg, tI_01, tI_0, bI_0, jk_w hv4, ni_in_t, ni_tn, Classical.not_not, am_w1_i, am_w1_r, am_w1_x, am_w1_l, am_w1_w, va_rf_s, am_push_n, am_push_s, am_cs_0, am_cs_i, am_cs_l, am_cs_r, m_uI_K, m_uI_N, m_uI_R, m_uI_L, m_uI_I, m_uL_K, m_uL_N, m_uL_R, m_uL_I, m_uL_L, m_uR_K, m_uR_N, m_uR_I, m_uR_L, m_uR_R, true_and, and_true, true_implies, false_implies, not_true_eq_false, not_false_eq_true, if_true, if_false, false_and, and_false]
    first | rw [br_n (hlt)] | rw [br_q (hlt)] | rw [br_u (hlt)]
    rw [hsn]
    by_cases cs : sndP (dDp D) (dDr D s) (dLd D s) y.2.1 y.2.2
    · first | rw [br_p (cs)] | rw [br_r (cs)] | rw [br_s (cs)]
      have key : ∀ p : Prop, (p ↔ alP (dWt D s) (dV D s) (dSn D s) (dBs D s) (dY D s) i ∧ gdF (dWt D s) (dV D s) (dSn D s) (dBs D s) (dY D s) i = true ∧ ∀ k, k < 0 → goF (dWt D s) (dV D s) (dY D s) i k = true) → am_P am_P0 (d + 1) (am_look tX11_isPair) 81 [.ref 277, .int (nI s), .int (tI p), .int (nI i), .int (nI 0)] [] M Q := fun p hp => by
        refine l_m_pair4 _ _ _ _ _ (d + 1) M Q (nI s) hL hP h48 i (by omega) (fun p2 hp2 => ?_) (dY D s).length 0 (by omega) p hp
        have w1 : gF s328 nT M (uI M 328 i (-1)) := gF_i _ rfl
        have h0 := ih (i + 1) (by omega) (uI M 328 i (-1)) (.int (nI (dY D s).length)) (Or.inr ⟨_, rfl⟩) (gF_trans hM w1) (fun k y' hk hy' => by
          by_cases e : k = i
          · subst e; rw [hy] at hy'; cases hy'; exact cs
          · exact hb k y' (by omega) hy') (fun k hk => by
          rw [m_uI_I]
          by_cases e : k = i
          · rw [if_pos ⟨rfl, e⟩]; rfl
          · rw [if_neg (by omega)]; exact hS k (by omega))
        rw [← tI_i hp2] at h0
        simp +decide (disch := omega) only [qX11_isPair_0, qX11_isPair_1, qX11_isPair_2, qX11_isPair_3, lm hL, ni_in_t, ni_tn, ni_add1, am_w1_i, am_w1_r, am_w1_x, am_w1_l, am_w1_w, va_rf_s, am_push_n, am_push_s, am_cs_0, am_cs_i, am_cs_l, am_cs_r, m_uI_K, m_uI_N, m_uI_R, m_uI_L, m_uI_I, m_uL_K, m_uL_N, m_uL_R, m_uL_I, m_uL_L, m_uR_K, m_uR_N, m_uR_I, m_uR_L, m_uR_R, true_and, and_true, true_implies, false_implies, not_true_eq_false, not_false_eq_true, if_true, if_false, false_and, and_false]
        exact h0
      by_cases c : alP (dWt D s) (dV D s) (dSn D s) (dBs D s) (dY D s) i
      · first | rw [br_p (c)] | rw [br_r (c)] | rw [br_s (c)]
        by_cases c2 : goodY (dWt D s) (dV D s) (dSn D s) (dBs D s) y
        · first | rw [br_p (c2)] | rw [br_r (c2)] | rw [br_s (c2)]
          have h0 := key True ⟨fun _ => ⟨c, (gdF_y hy).mpr c2, fun k hk => by omega⟩, fun _ => trivial⟩
          rw [tI_t trivial] at h0
          exact h0
        · first | rw [br_n (c2)] | rw [br_q (c2)] | rw [br_u (c2)]
          have h0 := key False ⟨fun q => q.elim, fun q => c2 ((gdF_y hy).mp q.2.1)⟩
          rw [tI_f (fun q => q)] at h0
          exact h0
      · first | rw [br_n (c)] | rw [br_q (c)] | rw [br_u (c)]
        have h0 := key False ⟨fun q => q.elim, fun q => c q.1⟩
        rw [tI_f (fun q => q)] at h0
        exact h0
    · first | rw [br_n (cs)] | rw [br_q (cs)] | rw [br_u (cs)]
      exact hF M hM (fun q => cs (q y ym))
theorem al_no {w : Nat → Prop} {v : Nat} {snd : Nat → Bool → Prop} {B : List Fct} {Y : List Sy} (hself : ∀ y, y ∈ Y → gowY w v y y) : ¬ alP w v snd B Y Y.length ↔ ((∃ i, i < Y.length ∧ ¬ gY w v snd B Y i) ∨ ∃ i j, i < Y.length ∧ j < Y.length ∧ KY w v Y i j) := by
  have hex : ∀ k, k < Y.length → ∃ y, Y[k]? = some y := fun k hk => ⟨Y[k], List.getElem?_eq_getElem hk⟩
  constructor
  · intro h
    apply Classical.byContradiction
    intro q
    apply h
    intro k hk
    obtain ⟨y, hy⟩ := hex k hk
    refine ⟨(gdF_y hy).mpr ?_, fun j hj => ?_⟩
    · apply Classical.byContradiction
      intro z
      exact q (Or.inl ⟨k, hk, fun z2 => z ((gY_y hy).mp z2)⟩)
    · obtain ⟨y', hy'⟩ := hex j hj
      apply (goF_y hy hy').mpr
      apply Classical.byContradiction
      intro z
      by_cases e : k = j
      · subst e
        rw [hy] at hy'
        cases hy'
        exact z (hself y (List.mem_of_getElem? hy))
      · exact q (Or.inr ⟨k, j, hk, hj, (KY_y hy hy').mpr ⟨e, z⟩⟩)
  · rintro (⟨i, hi, hg⟩ | ⟨i, j, hi, hj, hK⟩) h
    · obtain ⟨y, hy⟩ := hex i hi
      exact hg ((gY_y hy).mpr ((gdF_y hy).mp (h i hi).1))
    · obtain ⟨y, hy⟩ := hex i hi
      obtain ⟨y', hy'⟩ := hex j hj
      exact ((KY_y hy hy').mp hK).2 ((goF_y hy hy').mp ((h i hi).2 j hj))
theorem m_isPair {M : am_M} {b s : Nat} {D : Dat} (hD : dOK D) (hL : Lay M) (h : MdM M b D) (hs : s < dN D) (d : Nat) (Q : Option Value → am_M → Prop) (hQ : ∀ M', gF sMq nT M M' → Q (some (.int (tI (prP (dWt D s) (dV D s) (dSn D s) (dBs D s) (dY D s))))) M') : am_E am_P0 (d + 6) 262 [.ref 277, .int (nI s)] M Q := by
  have n8 := dN_8 hD
  rw [eX11_isPair]
  simp +decide only [qX11_isPair_0, qX11_isPair_1, qX11_isPair_2, qX11_isPair_3, lm hL, am_w1_i, am_w1_r, am_w1_x, am_w1_l, am_w1_w, va_rf_s, am_push_n, am_push_s, am_cs_0, am_cs_i, am_cs_l, am_cs_r, m_uI_K, m_uI_N, m_uI_R, m_uI_L, m_uI_I, m_uL_K, m_uL_N, m_uL_R, m_uL_I, m_uL_L, m_uR_K, m_uR_N, m_uR_I, m_uR_L, m_uR_R, true_and, and_true, true_implies, false_implies, not_true_eq_false, not_false_eq_true, if_true, if_false, false_and, and_false]
  refine m_booksFit hD hL h hs d _ (fun M1 g1 => ?_)
  by_cases cB : fitP (dWt D s) (dV D s) (dBs D s)
  · rw [tI_t cB]
    have L1 := gF_LayN g1 hL
    have h1 := MdM_q h g1
    simp +decide only [qX11_isPair_0, qX11_isPair_1, qX11_isPair_2, qX11_isPair_3, lm L1, am_w1_i, am_w1_r, am_w1_x, am_w1_l, am_w1_w, va_rf_s, am_push_n, am_push_s, am_cs_0, am_cs_i, am_cs_l, am_cs_r, m_uI_K, m_uI_N, m_uI_R, m_uI_L, m_uI_I, m_uL_K, m_uL_N, m_uL_R, m_uL_I, m_uL_L, m_uR_K, m_uR_N, m_uR_I, m_uR_L, m_uR_R, true_and, and_true, true_implies, false_implies, not_true_eq_false, not_false_eq_true, if_true, if_false, false_and, and_false]
    refine m_pairs hD L1 h1 hs d _ (fun M2 g2 p2 => ?_)
    have L2 := gF_LayN g2 L1
    have h2 := MdM_q h1 g2
    have u1 : ∀ {M'}, gF s328 nT M2 M' → gF sMq nT M M' := fun q => gF_trans (gF_trans g1 g2) (gF_up q (fun a j z => by unfold s328 at z; unfold sMq; omega) (fun _ _ q => q))
    have h9 := l_m_pair3 (d + 5) b s D M2 Q hD L2 h2 hs p2 (fun M' g' n' => by
      have h0 := hQ M' (u1 g')
      rw [tI_f (fun q => n' q.2.1)] at h0
      exact h0) (fun M' v4 g' hv4 sn' se' => by
      have L' := gF_LayN g' L2
      have hself : ∀ y, y ∈ dY D s → gowY (dWt D s) (dV D s) y y := fun y hy => by
        unfold gowY hd_
        rw [if_neg (by omega), Nat.sub_self]
        exact wit_0.mpr ⟨rfl, dSn_w hD s y hy (sn' y hy)⟩
      by_cases ca : alP (dWt D s) (dV D s) (dSn D s) (dBs D s) (dY D s) (dY D s).length
      · have h0 := hQ M' (u1 g')
        rw [tI_f (fun q => (al_no hself).mpr q.2.2.1 ca)] at h0
        rw [tI_t ca]
        simp +decide only [qX11_isPair_0, qX11_isPair_1, qX11_isPair_2, qX11_isPair_3, am_w1_i, am_w1_r, am_w1_x, am_w1_l, am_w1_w, va_rf_s, am_push_n, am_push_s, am_cs_0, am_cs_i, am_cs_l, am_cs_r, m_uI_K, m_uI_N, m_uI_R, m_uI_L, m_uI_I, m_uL_K, m_uL_N, m_uL_R, m_uL_I, m_uL_L, m_uR_K, m_uR_N, m_uR_I, m_uR_L, m_uR_R, true_and, and_true, true_implies, false_implies, not_true_eq_false, not_false_eq_true, if_true, if_false, false_and, and_false]
        exact h0
      · rw [tI_f ca]
        have hna := (al_no hself).mp ca
        have P' := PrM_g p2 g' (fun a j q z => by unfold s328 at z; omega)
        have h8 := l_m_pair2 (dWt D s) (dV D s) (dSn D s) (dBs D s) (dY D s) (d + 5) M' Q (nI s) 0 L' P' (dY_len hD s) hself hna (fun M3 g3 => by
          have h0 := hQ M3 (gF_trans (u1 g') (gF_up g3 (fun a j z => by unfold s3289 at z; unfold sMq; omega) (fun _ _ q => q)))
          rw [tI_i (q := pairX (dY D s).length (KY (dWt D s) (dV D s) (dY D s)) (gY (dWt D s) (dV D s) (dSn D s) (dBs D s) (dY D s))) ⟨fun q => q.2.2.2, fun q => ⟨cB, sn', hna, q⟩⟩] at h0
          exact h0) (dY D s).length 0 (by omega) M' (fun _ => none) v4 hv4 (gF_refl _ _ _) se' ⟨fun i j b _ _ _ q => (by cases q), fun i _ q => (by cases q)⟩ (fun _ i _ _ q => absurd rfl q) (fun k hk => by omega)
        simp +decide only [qX11_isPair_0, qX11_isPair_1, qX11_isPair_2, qX11_isPair_3, jk_w hv4, am_w1_i, am_w1_r, am_w1_x, am_w1_l, am_w1_w, va_rf_s, am_push_n, am_push_s, am_cs_0, am_cs_i, am_cs_l, am_cs_r, m_uI_K, m_uI_N, m_uI_R, m_uI_L, m_uI_I, m_uL_K, m_uL_N, m_uL_R, m_uL_I, m_uL_L, m_uR_K, m_uR_N, m_uR_I, m_uR_L, m_uR_R, true_and, and_true, true_implies, false_implies, not_true_eq_false, not_false_eq_true, if_true, if_false, false_and, and_false]
        exact h8) (dY D s).length 0 (by omega) M2 am_x (Or.inl rfl) (gF_refl _ _ _) (fun k y hk => by omega) (fun k hk => by omega)
    rw [tI_t (show alP (dWt D s) (dV D s) (dSn D s) (dBs D s) (dY D s) 0 from fun k hk => by omega)] at h9
    simp +decide only [qX11_isPair_0, qX11_isPair_1, qX11_isPair_2, qX11_isPair_3, am_w1_i, am_w1_r, am_w1_x, am_w1_l, am_w1_w, va_rf_s, am_push_n, am_push_s, am_cs_0, am_cs_i, am_cs_l, am_cs_r, m_uI_K, m_uI_N, m_uI_R, m_uI_L, m_uI_I, m_uL_K, m_uL_N, m_uL_R, m_uL_I, m_uL_L, m_uR_K, m_uR_N, m_uR_I, m_uR_L, m_uR_R, true_and, and_true, true_implies, false_implies, not_true_eq_false, not_false_eq_true, if_true, if_false, false_and, and_false]
    exact h9
  · have h0 := hQ M1 g1
    rw [tI_f (fun q => cB q.1)] at h0
    rw [tI_f cB]
    simp +decide only [qX11_isPair_0, qX11_isPair_1, qX11_isPair_2, qX11_isPair_3, am_w1_i, am_w1_r, am_w1_x, am_w1_l, am_w1_w, va_rf_s, am_push_n, am_push_s, am_cs_0, am_cs_i, am_cs_l, am_cs_r, m_uI_K, m_uI_N, m_uI_R, m_uI_L, m_uI_I, m_uL_K, m_uL_N, m_uL_R, m_uL_I, m_uL_L, m_uR_K, m_uR_N, m_uR_I, m_uR_L, m_uR_R, true_and, and_true, true_implies, false_implies, not_true_eq_false, not_false_eq_true, if_true, if_false, false_and, and_false]
    exact h0
theorem k3_pr {D : Dat} {s : Nat} (hD : dOK D) (h0 : 0 < (dY D s).length) : k3Y (dWt D s) (dV D s) (dSn D s) (dBs D s) (dY D s) ↔ prP (dWt D s) (dV D s) (dSn D s) (dBs D s) (dY D s) := by
  have hsr := hD.1.2.2.2.2.1 s
  have hm := most_all (wt := dWt D s) (v := dV D s) (snd := dSn D s) (B := dBs D s) hsr h0
  constructor
  · rintro ⟨-, hk, hf, hs, hp⟩
    refine ⟨hf, hs, ?_, hp⟩
    rw [kcY_t hf, hm] at hk
    apply Classical.byContradiction
    intro q
    apply hk
    refine ⟨fun i hi => ?_, fun i j hi hj hK => q (Or.inr ⟨i, j, hi, hj, hK⟩)⟩
    apply Classical.byContradiction
    intro z
    exact q (Or.inl ⟨i, hi, z⟩)
  · rintro ⟨hf, hs, hn, hp⟩
    refine ⟨h0, ?_, hf, hs, hp⟩
    rw [kcY_t hf, hm]
    rintro ⟨a1, a2⟩
    rcases hn with ⟨i, hi, hg⟩ | ⟨i, j, hi, hj, hK⟩
    · exact hg (a1 i hi)
    · exact a2 i j hi hj hK
