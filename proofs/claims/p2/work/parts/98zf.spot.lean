/-! spot, and what a refusal does -/
/-- cells of the tape, refusals, faults, the image -/
def tIm (a j : Nat) : Prop := (a = 0 ∧ (j = 1 ∨ j = 5 ∨ j = 6 ∨ j = 10)) ∨ a = 1 ∨ a = 169 ∨ a = 170 ∨ (a = 277 ∧ (j = 1 ∨ j = 10 ∨ j = 11 ∨ j = 82)) ∨ a = 278 ∨ a = 312 ∨ a = 335
def TI (M : am_M) : Prop := TpI M ∧ RfI M ∧ FtI M ∧ ImI M
theorem TI_k {M M' : am_M} (h : TI M) (k : ∀ a j, tIm a j → mI M' a j = mI M a j) : TI M' := by
  obtain ⟨⟨T, n, t1, t2, t3, t4⟩, hRf, hFt, ⟨m, k1, k2, k3, k4⟩⟩ := h
  refine ⟨⟨T, n, t1, ?_, ?_, fun j hj => ⟨(t4 j hj).1, ?_, ?_⟩⟩, fun j hj => ?_, ⟨?_, ?_⟩, ⟨m, k1, ?_, ?_, fun j hj => ?_⟩⟩
  · rw [k _ _ (by unfold tIm; omega)]; exact t2
  · rw [k _ _ (by unfold tIm; omega)]; exact t3
  · rw [k _ _ (by unfold tIm; omega)]; exact (t4 j hj).2.1
  · rw [k _ _ (by unfold tIm; omega)]; exact (t4 j hj).2.2
  · rw [k _ _ (by unfold tIm; omega), k _ _ (by unfold tIm; omega)]; exact hRf j hj
  · rw [k _ _ (by unfold tIm; omega), k _ _ (by unfold tIm; omega)]; exact hFt.1
  · trivial
  · rw [k _ _ (by unfold tIm; omega)]; exact k2
  · rw [k _ _ (by unfold tIm; omega)]; exact k3
  · rw [k _ _ (by unfold tIm; omega), k _ _ (by unfold tIm; omega)]; exact k4 j hj
/-- one refusal more -/
abbrev rfX (M : am_M) (k : Nat) : am_M := uI M 169 k (mI M 169 k + 1)
abbrev rfM (M : am_M) (k : Nat) : am_M := uI M 312 k (mI M 312 k + 1)
theorem rfX_X {M : am_M} {z b : Nat} {D : Dat} (k : Nat) (hD : dOK D) (hX : XR M z D) (hM : MdM M b D) : XR (rfX M k) z D ∧ MdM (rfX M k) b D := by
  have g1 : gF sXt nT M (rfX M k) := gF_i _ (by unfold sXt; omega)
  exact ⟨XR_t hD hX g1 (fun a j q => q), MdM_g hM g1 (fun a j q w => by unfold tlM at q; unfold sXt at w; omega)⟩
theorem Inv_rf {M : am_M} {z b : Nat} {D : Dat} (k : Nat) (hD : dOK D) (hX : XR M z D) (hM : MdM M b D) (h : TI M) : Inv (rfM (rfX M k) k) := by
  have g1 : gF (fun a j => a = 169 ∧ j = k) nT M (rfX M k) := gF_i _ ⟨rfl, rfl⟩
  have g2 : gF (fun a j => a = 312 ∧ j = k) nT (rfX M k) (rfM (rfX M k) k) := gF_i _ ⟨rfl, rfl⟩
  have kp : ∀ a' j, ¬ (a' = 169 ∧ j = k) → ¬ (a' = 312 ∧ j = k) → mI (rfM (rfX M k) k) a' j = mI M a' j := fun a' j q1 q2 => by rw [g2.1 _ _ q2, g1.1 _ _ q1]
  obtain ⟨⟨T, n, t1, t2, t3, t4⟩, hRf, hFt, ⟨m, k1, k2, k3, k4⟩⟩ := h
  refine Inv_t hD hX hM (gF_up g1 (fun a' j q => by unfold sXt; omega) (fun _ _ q => q)) (gF_up g2 (fun a' j q => by unfold sMt; omega) (fun _ _ q => q)) ⟨T, n, t1, ?_, ?_, fun j hj => ⟨(t4 j hj).1, ?_, ?_⟩⟩ (fun j hj => ?_) ⟨?_, ?_⟩ ⟨m, k1, ?_, ?_, fun j hj => ?_⟩
  · rw [kp _ _ (by omega) (by omega)]; exact t2
  · rw [kp _ _ (by omega) (by omega)]; exact t3
  · rw [kp _ _ (by omega) (by omega)]; exact (t4 j hj).2.1
  · rw [kp _ _ (by omega) (by omega)]; exact (t4 j hj).2.2
  · by_cases e0 : j = k
    · rw [e0, g2.1 _ _ (by omega), m_uI_I, if_pos ⟨rfl, rfl⟩, m_uI_I, if_pos ⟨rfl, rfl⟩, m_uI_I, if_neg (by omega), hRf k (by omega)]
    · rw [kp _ _ (by omega) (by omega), kp _ _ (by omega) (by omega)]; exact hRf j hj
  · rw [kp _ _ (by omega) (by omega), kp _ _ (by omega) (by omega)]; exact hFt.1
  · trivial
  · rw [kp _ _ (by omega) (by omega)]; exact k2
  · rw [kp _ _ (by omega) (by omega)]; exact k3
  · rw [kp _ _ (by omega) (by omega), kp _ _ (by omega) (by omega)]; exact k4 j hj
/-- cells that a change of sayings or sightings touches -/
def sCh (z a j : Nat) : Prop := (z + 2 ≤ a ∧ a ≤ z + 5) ∨ (∃ s, s < 8 ∧ sIn (z + 25 + 7 * s) a j) ∨ (∃ s, s < 8 ∧ a = 173 + 13 * s ∧ (j = 4 ∨ j = 5 ∨ j = 6)) ∨ (a = 0 ∧ j = 13)
theorem sCh_no {z a j : Nat} (hz : z = 2 ∨ z = 83) (h : sCh z a j) : a < 277 ∧ ¬ a = 1 ∧ ¬ (165 ≤ a ∧ a ≤ 172) ∧ (a = 0 → j = 13) ∧ ¬ a = z ∧ ¬ a = z + 1 ∧ ¬ (z + 6 ≤ a ∧ a ≤ z + 24) ∧ (∀ s, s < 8 → ¬ (a = z + 25 + 7 * s ∧ ¬ j = 5) ∧ ¬ (z + 29 + 7 * s ≤ a ∧ a ≤ z + 31 + 7 * s) ∧ ¬ (174 + 13 * s ≤ a ∧ a ≤ 185 + 13 * s) ∧ ¬ (a = 173 + 13 * s ∧ ¬ (j = 4 ∨ j = 5 ∨ j = 6))) := by
  rcases h with q | ⟨t, ht, q⟩ | ⟨t, ht, q⟩ | q
  · exact ⟨by omega, by omega, by omega, by omega, by omega, by omega, by omega, fun s hs => by omega⟩
  · unfold sIn at q
    exact ⟨by omega, by omega, by omega, by omega, by omega, by omega, by omega, fun s hs => by omega⟩
  · exact ⟨by omega, by omega, by omega, by omega, by omega, by omega, by omega, fun s hs => by omega⟩
  · exact ⟨by omega, by omega, by omega, by omega, by omega, by omega, by omega, fun s hs => by omega⟩
/-- what is told with other sayings and sightings -/
abbrev datY (D : Dat) (Ys : List (List Sy)) (Sg : List (Nat × Nat × Nat)) : Dat := (D.1, (dSh D, Ys, dBk D, Sg), D.2.2)
theorem XR_D {M M' : am_M} {z : Nat} {D : Dat} {Ys : List (List Sy)} {Sg : List (Nat × Nat × Nat)} (hD : dOK D) (h : XR M z D) (hg : gF (sCh z) nT M M') (hSg : SgX M' z Sg) (hSy : ∀ s, s < dN D → SyX M' (z + 25 + 7 * s) (dY (datY D Ys Sg) s))
    (hK : ∀ s, s < dN D → (mI M' (173 + 13 * s) 4 = 0 ∧ mI M' (173 + 13 * s) 5 = 0) ∨ (dY (datY D Ys Sg) s = dY D s ∧ mI M' (173 + 13 * s) 4 = mI M (173 + 13 * s) 4 ∧ mI M' (173 + 13 * s) 5 = mI M (173 + 13 * s) 5))
    (hK6 : ∀ s, s < dN D → mI M' (173 + 13 * s) 6 = 0 ∨ (kdI (datY D Ys Sg) s = kdI D s ∧ mI M' (173 + 13 * s) 6 = mI M (173 + 13 * s) 6)) (hl : LkX M' (datY D Ys Sg)) : XR M' z (datY D Ys Sg) := by
  obtain ⟨⟨hL, hI, hz, r2, r3, hO⟩, ⟨c, hP⟩, hS1, hTk, hLk⟩ := h
  have n8 := dN_8 hD
  have hno := fun a j => sCh_no (a := a) (j := j) hz
  have hf : zF (sCh z) M M' := zF_g hL hI hg (fun a j s' q w => by have := ((hno a j w).2.2.2.2.2.2.2 s' q).2.2.1; omega) (fun a j w => by have := (hno a j w).1; omega)
  have k1 : ∀ a j, (a = z ∨ (z + 6 ≤ a ∧ a ≤ z + 24)) → mI M' a j = mI M a j := fun a j q => hg.1 _ _ (fun w => by have := hno a j w; omega)
  have kg : ∀ s j, s < 8 → ¬ j = 5 → mI M' (z + 25 + 7 * s) j = mI M (z + 25 + 7 * s) j := fun s j hs hj => hg.1 _ _ (fun w => by have := ((hno _ _ w).2.2.2.2.2.2.2 s hs).1; omega)
  have kb : ∀ s a j, s < 8 → z + 29 + 7 * s ≤ a → a ≤ z + 31 + 7 * s → mI M' a j = mI M a j := fun s a j hs h1 h2 => hg.1 _ _ (fun w => by have := ((hno _ _ w).2.2.2.2.2.2.2 s hs).2.1; omega)
  have kB : ∀ s B, s < 8 → BkX M (z + 25 + 7 * s) B → BkX M' (z + 25 + 7 * s) B := fun s B hs q => by
    obtain ⟨b1, b2, b3⟩ := q
    refine ⟨by rw [kg s 9 hs (by omega)]; exact b1, b2, fun i f hi => ?_⟩
    obtain ⟨q1, q2, q3, q4⟩ := b3 i f hi
    exact ⟨q1, by rw [kb s _ _ hs (by omega) (by omega)]; exact q2, by rw [kb s _ _ hs (by omega) (by omega)]; exact q3, by rw [kb s _ _ hs (by omega) (by omega)]; exact q4⟩
  refine ⟨⟨hf.1, hf.2.1, hz, ?_, ?_, ?_⟩, ⟨c, ?_⟩, ?_, ?_, hl⟩
  · rw [hg.2.2.1 _ _ (fun w => w)]; exact r2
  · rw [hg.2.2.1 _ _ (fun w => w)]; exact r3
  · intro k hk
    rw [hg.1 _ _ (fun w => by have := (hno _ _ w).2.2.1; omega)]
    exact hO k hk
  · obtain ⟨⟨a1, a2, a3, a4⟩, b, sg, ⟨w1, w2, w3⟩, f⟩ := hP
    refine ⟨⟨by rw [k1 _ _ (by omega)]; exact a1, by rw [k1 _ _ (by omega)]; exact a2, by rw [k1 _ _ (by omega)]; exact a3, by rw [k1 _ _ (by omega)]; exact a4⟩, fun s sp hs => ?_, hSg, ⟨RlC_g w1 hg (fun a j q1 q2 w => by have := hno a j w; omega) (fun j hj w => by have := hno _ j w; omega), RlC_g w2 hg (fun a j q1 q2 w => by have := hno a j w; omega) (fun j hj w => by have := hno _ j w; omega), RlC_g w3 hg (fun a j q1 q2 w => by have := hno a j w; omega) (fun j hj w => by have := hno _ j w; omega)⟩, FmX_g f hg (fun w => by have := hno _ _ w; omega)⟩
    have hs' : s < dN D := (List.getElem?_eq_some_iff.mp hs).1
    obtain ⟨⟨e0, e1, e2, e3, e4⟩, -, hB⟩ := b s sp hs
    exact ⟨⟨by rw [kg s _ (by omega) (by omega)]; exact e0, by rw [kg s _ (by omega) (by omega)]; exact e1, by rw [kg s _ (by omega) (by omega)]; exact e2, by rw [kg s _ (by omega) (by omega)]; exact e3, by rw [kg s _ (by omega) (by omega)]; exact e4⟩, hSy s hs', kB s _ (by omega) hB⟩
  · exact SqX_u hS1 (fun a j q1 q2 q3 => k1 a j (by omega)) (fun a j q => hg.2.1 _ _ (fun w => by have := hno a j w; omega))
  · intro s hs0
    have hs : s < dN D := hs0
    clear hs0
    obtain ⟨⟨t0, ⟨p1, p2, p3, p4, p5, p6, p7⟩, tB, tY⟩, t2, t3, t4⟩ := hTk s hs
    have kt : ∀ j, 7 ≤ j → mI M' (173 + 13 * s) j = mI M (173 + 13 * s) j := fun j hj => hg.1 _ _ (fun w => by have := ((hno _ _ w).2.2.2.2.2.2.2 s (by omega)).2.2.2; omega)
    have kS : ∀ {v wt snd B Y}, SetX M s v wt snd B Y → SetX M' s v wt snd B Y := fun q => SetX_z (by omega) q hf (fun a j w w' => by have := ((hno _ _ w').2.2.2.2.2.2.2 s (by omega)).2.2; omega)
    refine ⟨⟨hf.2.2.2.2.2.2 s _ _ (by omega) t0, ⟨by rw [hg.2.2.1 _ _ (fun w => w)]; exact p1, by rw [hg.2.2.1 _ _ (fun w => w)]; exact p2, by rw [kg s _ (by omega) (by omega)]; exact p3, by rw [kg s _ (by omega) (by omega)]; exact p4, p5, p6, fun p hp => ⟨(p7 p hp).1, by rw [k1 _ _ (by omega)]; exact (p7 p hp).2⟩⟩, kB s _ (by omega) tB, hSy s hs⟩, ?_, ?_, ?_⟩
    · rcases hK s hs with q | ⟨q1, q2, q3⟩
      · exact Or.inl q.1
      · rw [q1]
        rcases t2 with u | u
        · exact Or.inl (by rw [q2]; exact u)
        · exact Or.inr ⟨by rw [q2]; exact u.1, kS u.2⟩
    · rcases hK s hs with q | ⟨q1, q2, q3⟩
      · exact Or.inl q.2
      · rw [q1]
        rcases t3 with u | u
        · exact Or.inl (by rw [q3]; exact u)
        · exact Or.inr ⟨by rw [q3]; exact u.1, by rw [q2]; exact u.2.1, kS u.2.2.1, by rw [kt 13 (by omega)]; exact u.2.2.2.1, by rw [kt 14 (by omega)]; exact u.2.2.2.2⟩
    · rcases hK6 s hs with q | ⟨q1, q2⟩
      · exact Or.inl q
      · rcases t4 with u | u
        · exact Or.inl (by rw [q2]; exact u)
        · exact Or.inr ⟨by rw [q2]; exact u.1, by rw [kt 7 (by omega), q1]; exact u.2⟩
/-- a sighting that may come -/
abbrev okSp (D : Dat) (l x y t : Int32) : Prop := (0 ≤ l.toInt ∧ l.toInt < 4) ∧ isCl D x y ∧ isHr t ∧ (dSg D).length < 40
abbrev spX (M : am_M) (z n : Nat) (l p t : Int32) : am_M := uI (uI (uI (uI M (z + 3) n l) (z + 4) n p) (z + 5) n t) (z + 2) 0 (nI (n + 1))
abbrev spM (M : am_M) (b n : Nat) (l c t : Int32) : am_M := uI (uI (uI (uI M 300 (40 * b + n) l) 301 (40 * b + n) c) 302 (40 * b + n) t) 299 b (nI (n + 1))
theorem x_spot {M : am_M} {z : Nat} {D : Dat} (hD : dOK D) (h : XR M z D) (d : Nat) (l x y t : Int32) (Q : Option Value → am_M → Prop) (hY : okSp D l x y t → Q (some (.int (nI ((dSg D).length + 1)))) (spX M z (dSg D).length l (nI (plI x y)) t)) (hN : ¬ okSp D l x y t → Q (some (.int (-1))) (rfX M 3)) : am_E am_P0 (d + 1) 143 [.ref 0, .int l, .int x, .int y, .int t] M Q := by
  have hz := h.1.2.2.1
  have hL := h.1.1
  have hr := h.1.2.2.2.1
  have eP := fun x y Q => x_place hD h d x y Q
  have s1 := (x_sg h).1
  have l40 := hD.1.2.2.2.2.2.2.2.1.1
  have hin : (3 : Int32).toInt.toNat = 3 := rfl
  have e4 : (4 : Int32).toInt = 4 := rfl
  rw [eX10_spot]
  simp +decide only [qX10_spot_0, qX10_spot_1, lx hL, lz hL hz, hr, eP, c_x_isHour, s1, hin, bI_0, Classical.not_not, am_w1_i, am_w1_r, am_w1_x, am_w1_l, am_w1_w, va_rf_s, am_push_n, am_push_s, am_cs_0, am_cs_i, am_cs_l, am_cs_r, m_uI_K, m_uI_N, m_uI_R, m_uI_L, m_uI_I, m_uL_K, m_uL_N, m_uL_R, m_uL_I, m_uL_L, m_uR_K, m_uR_N, m_uR_I, m_uR_L, m_uR_R, true_and, and_true, true_implies, false_implies, not_true_eq_false, not_false_eq_true, if_true, if_false, false_and, and_false]
  by_cases a1 : l < 0
  · first | rw [br_p (a1)] | rw [br_r (a1)] | rw [br_s (a1)]
    rw [lt32, z32] at a1
    exact hN (fun q => by have := q.1.1; omega)
  · first | rw [br_n (a1)] | rw [br_q (a1)] | rw [br_u (a1)]
    rw [lt32, z32] at a1
    by_cases a2 : (4 : Int32) ≤ l
    · first | rw [br_p (a2)] | rw [br_r (a2)] | rw [br_s (a2)]
      rw [le32, e4] at a2
      exact hN (fun q => by have := q.1.2; omega)
    · first | rw [br_n (a2)] | rw [br_q (a2)] | rw [br_u (a2)]
      rw [le32, e4] at a2
      by_cases hc : isCl D x y
      · obtain ⟨c1, c2, -⟩ := cl_of hD hc
        rw [if_pos hc]
        have hne : ¬ nI (plI x y) = -1 := nI_m1 (by omega)
        first | rw [br_n (hne)] | rw [br_q (hne)] | rw [br_u (hne)]
        by_cases ht : 0 ≤ t.toInt ∧ t.toInt < 48
        · first | rw [br_p (ht)] | rw [br_r (ht)] | rw [br_s (ht)]
          by_cases hn : nI (dSg D).length < 40
          · first | rw [br_p (hn)] | rw [br_r (hn)] | rw [br_s (hn)]
            rw [show (40 : Int32) = nI 40 from rfl, ni_lt (by omega) (by omega)] at hn
            have eA := fun Q => c_x_append d l (nI (plI x y)) t M Q hL z (dSg D).length hz s1 hn
            simp +decide (disch := omega) only [qX10_spot_0, qX10_spot_1, lx hL, lz hL hz, hr, eA, am_w1_i, am_w1_r, am_w1_x, am_w1_l, am_w1_w, va_rf_s, am_push_n, am_push_s, am_cs_0, am_cs_i, am_cs_l, am_cs_r, m_uI_K, m_uI_N, m_uI_R, m_uI_L, m_uI_I, m_uL_K, m_uL_N, m_uL_R, m_uL_I, m_uL_L, m_uR_K, m_uR_N, m_uR_I, m_uR_L, m_uR_R, true_and, and_true, true_implies, false_implies, not_true_eq_false, not_false_eq_true, if_true, if_false, false_and, and_false]
            exact hY ⟨⟨by omega, by omega⟩, hc, ht, hn⟩
          · first | rw [br_n (hn)] | rw [br_q (hn)] | rw [br_u (hn)]
            rw [show (40 : Int32) = nI 40 from rfl, ni_lt (by omega) (by omega)] at hn
            exact hN (fun q => hn q.2.2.2)
        · first | rw [br_n (ht)] | rw [br_q (ht)] | rw [br_u (ht)]
          exact hN (fun q => ht q.2.2.1)
      · rw [if_neg hc]
        simp +decide only [am_w1_i, am_w1_r, am_w1_x, am_w1_l, am_w1_w, va_rf_s, am_push_n, am_push_s, am_cs_0, am_cs_i, am_cs_l, am_cs_r, m_uI_K, m_uI_N, m_uI_R, m_uI_L, m_uI_I, m_uL_K, m_uL_N, m_uL_R, m_uL_I, m_uL_L, m_uR_K, m_uR_N, m_uR_I, m_uR_L, m_uR_R, true_and, and_true, true_implies, false_implies, not_true_eq_false, not_false_eq_true, if_true, if_false, false_and, and_false]
        exact hN (fun q => hc q.2.1)
theorem m_spot {M : am_M} {b : Nat} {D : Dat} (hD : dOK D) (hL : Lay M) (h : MdM M b D) (d : Nat) (l x y t : Int32) (Q : Option Value → am_M → Prop) (hY : okSp D l x y t → Q (some (.int (nI ((dSg D).length + 1)))) (spM M b (dSg D).length l (nI (cel (dC D) (plI x y))) t)) (hN : ¬ okSp D l x y t → Q (some (.int (-1))) (rfM M 3)) : am_E am_P0 (d + 2) 297 [.ref 277, .int l, .int x, .int y, .int t] M Q := by
  have hb := h.1.1
  have hb2 := h.1.2
  have s1 : mI M 299 b = nI (dSg D).length := h.2.2.2.2.2.2.1.1
  have l40 := hD.1.2.2.2.2.2.2.2.1.1
  have eC := fun x y Q => m_isCell hD hL h d x y Q
  have eH := fun x Q => c_m_isHour d x M Q
  have eR : ∀ Q, am_E am_P0 (d + 1) 208 [.ref 277, .int 3] M Q ↔ Q (some (.int (-1))) (rfM M 3) := fun Q => c_m_refuses (d + 1) 3 (by omega) M Q hL
  have e3 : (3 : Int32).toInt = 3 := rfl
  rw [eX11_spot]
  simp +decide (disch := omega) only [qX11_spot, lm hL, eC, eH, eR, c_m_is, hb, s1, bI_0, ni_in_t, ni_tn, Classical.not_not, am_w1_i, am_w1_r, am_w1_x, am_w1_l, am_w1_w, va_rf_s, am_push_n, am_push_s, am_cs_0, am_cs_i, am_cs_l, am_cs_r, m_uI_K, m_uI_N, m_uI_R, m_uI_L, m_uI_I, m_uL_K, m_uL_N, m_uL_R, m_uL_I, m_uL_L, m_uR_K, m_uR_N, m_uR_I, m_uR_L, m_uR_R, true_and, and_true, true_implies, false_implies, not_true_eq_false, not_false_eq_true, if_true, if_false, false_and, and_false]
  by_cases a1 : (0 : Int32) ≤ l ∧ l ≤ 3
  · first | rw [br_p (a1)] | rw [br_r (a1)] | rw [br_s (a1)]
    rw [le32, le32, z32, e3] at a1
    by_cases hc : (0 ≤ x.toInt ∧ x.toInt < dC D) ∧ (0 ≤ y.toInt ∧ y.toInt < dR D)
    · first | rw [br_p (hc)] | rw [br_r (hc)] | rw [br_s (hc)]
      by_cases ht : 0 ≤ t.toInt ∧ t.toInt < 48
      · first | rw [br_p (ht)] | rw [br_r (ht)] | rw [br_s (ht)]
        by_cases hn : nI (dSg D).length = 40
        · first | rw [br_p (hn)] | rw [br_r (hn)] | rw [br_s (hn)]
          rw [show (40 : Int32) = nI 40 from rfl, ni_eq (by omega) (by omega)] at hn
          exact hN (fun q => by have := q.2.2.2; omega)
        · first | rw [br_n (hn)] | rw [br_q (hn)] | rw [br_u (hn)]
          rw [show (40 : Int32) = nI 40 from rfl, ni_eq (by omega) (by omega)] at hn
          have eA := fun Q => m_atI hD hL h hc (d + 1) Q
          have eS := fun Q => c_m_spots (d + 1) l (nI (cel (dC D) (plI x y))) t M Q hL b (dSg D).length hb hb2 s1 (by omega)
          simp +decide (disch := omega) only [qX11_spot, lm hL, eA, eS, hb, ni_in_t, ni_tn, am_w1_i, am_w1_r, am_w1_x, am_w1_l, am_w1_w, va_rf_s, am_push_n, am_push_s, am_cs_0, am_cs_i, am_cs_l, am_cs_r, m_uI_K, m_uI_N, m_uI_R, m_uI_L, m_uI_I, m_uL_K, m_uL_N, m_uL_R, m_uL_I, m_uL_L, m_uR_K, m_uR_N, m_uR_I, m_uR_L, m_uR_R, true_and, and_true, true_implies, false_implies, not_true_eq_false, not_false_eq_true, if_true, if_false, false_and, and_false]
          exact hY ⟨⟨by omega, by omega⟩, hc, ht, by omega⟩
      · first | rw [br_n (ht)] | rw [br_q (ht)] | rw [br_u (ht)]
        exact hN (fun q => ht q.2.2.1)
    · first | rw [br_n (hc)] | rw [br_q (hc)] | rw [br_u (hc)]
      exact hN (fun q => hc q.2.1)
  · first | rw [br_n (a1)] | rw [br_q (a1)] | rw [br_u (a1)]
    rw [le32, le32, z32, e3] at a1
    exact hN (fun q => a1 ⟨by have := q.1; omega, by have := q.1; omega⟩)
theorem op_spot (l x y t : Int32) : OpI 143 297 [.int l, .int x, .int y, .int t] isI := by
  intro M hI d hd
  obtain ⟨z, b, D, hD, hX, hM, hT⟩ := id hI
  have hz := hX.1.2.2.1
  have hL := hX.1.1
  have hb2 := hM.1.2
  obtain ⟨d', rfl⟩ : ∃ d', d = d' + 2 := ⟨d - 2, by omega⟩
  refine x_spot hD hX (d' + 1) l x y t _ (fun hk => ?_) (fun hk => ?_)
  · refine ⟨_, rfl, ⟨_, rfl⟩, hX.1.1, ?_⟩
    obtain ⟨⟨l1, l2⟩, hc, ht, hn⟩ := id hk
    obtain ⟨c1, c2, -⟩ := cl_of hD hc
    obtain ⟨n, en⟩ : ∃ n, n = (dSg D).length := ⟨_, rfl⟩
    have el : l = nI l.toInt.toNat := i32_of (by omega) (by omega)
    have et : t = nI t.toInt.toNat := i32_of (by omega) (by have := ht.2; omega)
    have g1 : gF (fun a j => z + 2 ≤ a ∧ a ≤ z + 5) nT M (spX M z (dSg D).length l (nI (plI x y)) t) := gF_trans (gF_trans (gF_trans (gF_i _ (by omega)) (gF_i _ (by omega))) (gF_i _ (by omega))) (gF_i _ (by omega))
    have gc : gF (sCh z) nT M (spX M z (dSg D).length l (nI (plI x y)) t) := gF_up g1 (fun a j q => Or.inl q) (fun _ _ q => q)
    have hSg : SgX (spX M z (dSg D).length l (nI (plI x y)) t) z (dSg D ++ [(l.toInt.toNat, plI x y, t.toInt.toNat)]) := by
      refine ⟨by rw [m_uI_I, if_pos ⟨rfl, rfl⟩, List.length_append]; rfl, fun i g hi => ?_⟩
      by_cases e : i < (dSg D).length
      · rw [List.getElem?_append_left e] at hi
        obtain ⟨q1, q2, q3⟩ := (x_sg hX).2 i g hi
        refine ⟨?_, ?_, ?_⟩
        · rw [m_uI_I, if_neg (by omega), m_uI_I, if_neg (by omega), m_uI_I, if_neg (by omega), m_uI_I, if_neg (by omega)]; exact q1
        · rw [m_uI_I, if_neg (by omega), m_uI_I, if_neg (by omega), m_uI_I, if_neg (by omega), m_uI_I, if_neg (by omega)]; exact q2
        · rw [m_uI_I, if_neg (by omega), m_uI_I, if_neg (by omega), m_uI_I, if_neg (by omega), m_uI_I, if_neg (by omega)]; exact q3
      · rw [List.getElem?_append_right (by omega)] at hi
        have hl := (List.getElem?_eq_some_iff.mp hi).1
        have e1 : ([(l.toInt.toNat, plI x y, t.toInt.toNat)] : List (Nat × Nat × Nat)).length = 1 := rfl
        have e2 : i = (dSg D).length := by omega
        subst e2
        rw [Nat.sub_self] at hi
        cases hi
        refine ⟨?_, ?_, ?_⟩
        · rw [m_uI_I, if_neg (by omega), m_uI_I, if_neg (by omega), m_uI_I, if_neg (by omega), m_uI_I, if_pos ⟨rfl, rfl⟩]; exact el
        · rw [m_uI_I, if_neg (by omega), m_uI_I, if_neg (by omega), m_uI_I, if_pos ⟨rfl, rfl⟩]
        · rw [m_uI_I, if_neg (by omega), m_uI_I, if_pos ⟨rfl, rfl⟩]; exact et
    have hD' : dOK (datY D (dYs D) (dSg D ++ [(l.toInt.toNat, plI x y, t.toInt.toNat)])) := by
      obtain ⟨⟨o1, o2, o3, o4, o5, o6, o7, ⟨o8, o9⟩, o10⟩, hs⟩ := id hD
      refine ⟨⟨o1, o2, o3, o4, o5, o6, o7, ⟨by show (dSg D ++ [_]).length ≤ 40; rw [List.length_append]; show (dSg D).length + 1 ≤ 40; omega, fun g hg => ?_⟩, o10⟩, ?_⟩
      · rcases List.mem_append.mp hg with q | q
        · exact o9 g q
        · rw [List.mem_singleton] at q
          subst q
          exact ⟨by show l.toInt.toNat ≤ 3; omega, c1, by have := ht.2; show t.toInt.toNat < 48; omega⟩
      · rcases hs with q | q
        · exact Or.inl q
        · exfalso
          have := hc.1
          rw [q.1] at this
          omega
    have hX' : XR (spX M z (dSg D).length l (nI (plI x y)) t) z (datY D (dYs D) (dSg D ++ [(l.toInt.toNat, plI x y, t.toInt.toNat)])) := by
      refine XR_D hD hX gc hSg (fun s hs => ?_) (fun s hs => Or.inr ⟨rfl, g1.1 _ _ (by omega), g1.1 _ _ (by omega)⟩) (fun s hs => Or.inr ⟨rfl, g1.1 _ _ (by omega)⟩) ?_
      · exact (ShX_g (x_ship hX hs) g1 (fun a j q1 q2 q3 => by omega)).2.1
      · show LkX _ D
        have hLk := hX.2.2.2.2
        unfold LkX
        rw [g1.1 0 13 (by omega), g1.1 0 14 (by omega), g1.1 0 15 (by omega), g1.1 0 16 (by omega)]
        exact hLk
    obtain ⟨A, hA⟩ : ∃ A, A = spX M z (dSg D).length l (nI (plI x y)) t := ⟨_, rfl⟩
    rw [← hA] at hX' g1 ⊢
    have M1 := MdM_g hM g1 (fun a j q w => by unfold tlM at q; omega)
    have T1 := TI_k hT (fun a j q => g1.1 a j (fun w => by unfold tIm at q; omega))
    refine m_spot hD hX'.1.1 M1 d' l x y t _ (fun _ => ⟨rfl, ?_⟩) (fun q => absurd hk q)
    have g2 : gF (fun a j => (a = 299 ∧ j = b) ∨ ((300 ≤ a ∧ a ≤ 302) ∧ j = 40 * b + (dSg D).length)) nT A (spM A b (dSg D).length l (nI (cel (dC D) (plI x y))) t) := gF_trans (gF_trans (gF_trans (gF_i _ (by omega)) (gF_i _ (by omega))) (gF_i _ (by omega))) (gF_i _ (by omega))
    obtain ⟨h1, h2, h3, h4, h5, h6, h7, ⟨r1, r2, r3⟩, h8⟩ := id M1
    refine ⟨z, b, _, hD', XR_m hD' hX' g2 (fun a j q => by omega), ?_, TI_k T1 (fun a j q => g2.1 a j (fun w => by unfold tIm at q; omega))⟩
    have k : ∀ a j, tlM a j → ¬ (299 ≤ a ∧ a ≤ 302) → ¬ ((a = 299 ∧ j = b) ∨ ((300 ≤ a ∧ a ≤ 302) ∧ j = 40 * b + (dSg D).length)) := fun a j q1 q2 => by omega
    refine ⟨⟨by rw [g2.1 _ _ (by omega)]; exact h1.1, h1.2⟩, ⟨by rw [g2.1 _ _ (by omega)]; exact h2.1, by rw [g2.1 _ _ (by omega)]; exact h2.2⟩, by rw [g2.1 _ _ (by omega)]; exact h3, ShpM_g h4 g2 (by omega) (fun a j q1 q2 _ => by omega), SysM_g h5 g2 (by omega) (fun a j q => by omega), BkM_gF h6 g2 (by omega) (fun a j q1 q2 _ => by omega), ⟨?_, fun i g hi => ?_⟩, ⟨RaM_g r1 g2 (fun a j q w => by omega), RaM_g r2 g2 (fun a j q w => by omega), RaM_g r3 g2 (fun a j q w => by omega)⟩, fun p hp => ⟨by rw [g2.1 _ _ (by omega)]; exact (h8 p hp).1, by rw [g2.1 _ _ (by omega)]; exact (h8 p hp).2⟩⟩
    · rw [m_uI_I, if_pos ⟨rfl, rfl⟩]
      show nI ((dSg D).length + 1) = nI (dSg D ++ [_]).length
      rw [List.length_append]; rfl
    · have hi' : (dSg D ++ [(l.toInt.toNat, plI x y, t.toInt.toNat)])[i]? = some g := hi
      by_cases e : i < (dSg D).length
      · rw [List.getElem?_append_left e] at hi'
        obtain ⟨q1, q2, q3⟩ := h7.2 i g hi'
        refine ⟨?_, ?_, ?_⟩
        · rw [g2.1 _ _ (by omega)]; exact q1
        · rw [g2.1 _ _ (by omega)]; exact q2
        · rw [g2.1 _ _ (by omega)]; exact q3
      · rw [List.getElem?_append_right (by omega)] at hi'
        have hl := (List.getElem?_eq_some_iff.mp hi').1
        have e1 : ([(l.toInt.toNat, plI x y, t.toInt.toNat)] : List (Nat × Nat × Nat)).length = 1 := rfl
        have e2 : i = (dSg D).length := by omega
        subst e2
        rw [Nat.sub_self] at hi'
        cases hi'
        refine ⟨?_, ?_, ?_⟩
        · rw [m_uI_I, if_neg (by omega), m_uI_I, if_neg (by omega), m_uI_I, if_neg (by omega), m_uI_I, if_pos ⟨rfl, rfl⟩]; exact el
        · rw [m_uI_I, if_neg (by omega), m_uI_I, if_neg (by omega), m_uI_I, if_pos ⟨rfl, rfl⟩]; rfl
        · rw [m_uI_I, if_neg (by omega), m_uI_I, if_pos ⟨rfl, rfl⟩]; exact et
  · refine ⟨_, rfl, ⟨_, rfl⟩, hX.1.1, ?_⟩
    obtain ⟨X1, M1⟩ := rfX_X 3 hD hX hM
    refine m_spot hD X1.1.1 M1 d' l x y t _ (fun q => absurd q hk) (fun _ => ⟨rfl, Inv_rf 3 hD hX hM hT⟩)
