/-! the class's rings: where a ship gets to within each hour -/
/-- the row of the hour t in the cell r -/
abbrev rw4 (M : am_M) (r t : Nat) : Nat → Int64 := fun i => mL M r (4 * t + i)
/-- nothing but the longs of r is changed -/
def onlyL (M M' : am_M) (r : Nat) : Prop := (∀ a j, mI M' a j = mI M a j) ∧ (∀ a j, mR M' a j = mR M a j) ∧ mS M' = mS M ∧ ∀ a j, ¬ a = r → mL M' a j = mL M a j
theorem onlyL_refl (M : am_M) (r : Nat) : onlyL M M r := ⟨fun _ _ => rfl, fun _ _ => rfl, rfl, fun _ _ _ => rfl⟩
theorem onlyL_trans {M M' M'' : am_M} {r : Nat} (h1 : onlyL M M' r) (h2 : onlyL M' M'' r) : onlyL M M'' r :=
  ⟨fun a j => (h2.1 a j).trans (h1.1 a j), fun a j => (h2.2.1 a j).trans (h1.2.1 a j), h2.2.2.1.trans h1.2.2.1, fun a j h => (h2.2.2.2 a j h).trans (h1.2.2.2 a j h)⟩
theorem onlyL_w4 (M : am_M) (r b : Nat) (f : Nat → Int64) : onlyL M (w4 M r b f) r := ⟨fun _ _ => rfl, fun _ _ => rfl, rfl, fun a j h => by rw [w4_L, if_neg (fun q => h q.1)]⟩
theorem onlyL_K {M M' : am_M} {r : Nat} (h : onlyL M M' r) (a : Nat) : mK M' a = mK M a := by unfold mK; rw [h.2.2.1]
theorem onlyL_N {M M' : am_M} {r : Nat} (h : onlyL M M' r) (a : Nat) : mN M' a = mN M a := by unfold mN; rw [h.2.2.1]
theorem onlyL_Lay {M M' : am_M} {r : Nat} (h : onlyL M M' r) (hL : Lay M) : Lay M' := Lay_S hL h.2.2.1 h.2.1
theorem isTr_of {s : Nat} (hs : s < 8) : isTr (173 + 13 * s) := ⟨s, hs, rfl⟩
section
variable (d w p r v : Nat) (wt : Nat → Prop) (Q : Option Value → am_M → Prop)
/-- so many steps of one hour -/
theorem l_x_rings2 (M0 : am_M) (hL : Lay M0) (hw : isTr w) (hne : ¬ r = w + 2) (hr : mK M0 r = 1 ∧ mN M0 r = 192) (hv : mI M0 (w + 1) 1 = nI v) (hv2 : v ≤ 4) (hwt : ∀ q, inS (fun i => mL M0 (w + 2) i) q ↔ wt q) (t : Nat) (ht : 1 ≤ t) (ht2 : t < 48) (x1 : Value) :
    ∀ (m k : Nat), k + m = v → ∀ (M : am_M) (g : Int32), onlyL M0 M r → ((g = 1 ∧ isB wt p ((t - 1) * v + k) (rw4 M r t)) ∨ (g = 0 ∧ ∀ n, (t - 1) * v + k ≤ n → isB wt p n (rw4 M r t))) →
    (∀ (M' : am_M) (g' : Int32) (k' : Int32), onlyL M0 M' r → (∀ j, ¬ (4 * t ≤ j ∧ j < 4 * t + 4) → mL M' r j = mL M r j) → (g' = 0 ∨ g' = 1) → isB wt p (t * v) (rw4 M' r t) → (g' = 0 → ∀ n, t * v ≤ n → isB wt p n (rw4 M' r t)) → am_P am_P0 (d + 1) (am_look tX9_ringsOf) 74 [.ref (w + 1), x1, .ref r, .int g', .int (nI (4 * t) + 4), .int k'] [] M' Q) →
    am_P am_P0 (d + 1) (am_look tX9_ringsOf) 97 [.ref (w + 1), x1, .ref r, .int g, .int (nI (4 * t)), .int (nI k)] [] M Q := by
  have htv : (t - 1) * v + v = t * v := by
    have e : t = (t - 1) + 1 := by omega
    rw [e, Nat.add_mul, Nat.one_mul, Nat.add_sub_cancel]
  intro m
  induction m with
  | zero =>
    intro k hk M g hM hg hQ
    have e : k = v := by omega
    subst e
    have hle : nI k ≤ nI k := (ni_le (by omega) (by omega)).mpr (Nat.le_refl _)
    rw [hX9_ringsOf_97]
    have hv' : mI M (w + 1) 1 = nI k := by rw [hM.1]; exact hv
    simp +decide only [qX9_ringsOf_0, qX9_ringsOf_1, lt_ (onlyL_Lay hM hL) hw, hv', am_w1_i, am_w1_r, am_w1_x, am_w1_l, am_w1_w, va_rf_s, am_push_n, am_push_s, am_cs_0, am_cs_i, am_cs_l, am_cs_r, m_uI_K, m_uI_N, m_uI_R, m_uI_L, m_uI_I, m_uL_K, m_uL_N, m_uL_R, m_uL_I, m_uL_L, m_uR_K, m_uR_N, m_uR_I, m_uR_L, m_uR_R, true_and, and_true]
    rcases hg with ⟨rfl, hg⟩ | ⟨rfl, hg⟩
    · rw [br_n (by decide), br_p hle]
      exact hQ M 1 _ hM (fun _ _ => rfl) (Or.inr rfl) (by rw [← htv]; exact hg) (fun h => absurd h (by decide))
    · rw [br_p rfl]
      exact hQ M 0 _ hM (fun _ _ => rfl) (Or.inl rfl) (hg _ (by omega)) (fun _ n hn => hg n (by omega))
  | succ m ih =>
    intro k hk M g hM hg hQ
    have hlt : ¬ nI v ≤ nI k := by rw [ni_le (by omega) (by omega)]; omega
    have hLM := onlyL_Lay hM hL
    have hv' : mI M (w + 1) 1 = nI v := by rw [hM.1]; exact hv
    have hw' : ∀ q, inS (fun i => mL M (w + 2) i) q ↔ wt q := fun q => by
      rw [← hwt q]
      exact inS_ext (fun i _ => hM.2.2.2 _ _ (fun e => hne e.symm)) q
    rw [hX9_ringsOf_97]
    simp +decide only [qX9_ringsOf_0, qX9_ringsOf_1, lt_ hLM hw, hv', am_w1_i, am_w1_r, am_w1_x, am_w1_l, am_w1_w, va_rf_s, am_push_n, am_push_s, am_cs_0, am_cs_i, am_cs_l, am_cs_r, m_uI_K, m_uI_N, m_uI_R, m_uI_L, m_uI_I, m_uL_K, m_uL_N, m_uL_R, m_uL_I, m_uL_L, m_uR_K, m_uR_N, m_uR_I, m_uR_L, m_uR_R, true_and, and_true]
    rcases hg with ⟨rfl, hg⟩ | ⟨rfl, hg⟩
    · rw [br_n (by decide), br_n hlt]
      rw [c_x_widen d w r (4 * t) M _ hLM hw hne (by rw [onlyL_K hM]; exact hr.1) (by rw [onlyL_N hM, hr.2]; omega) (by rw [onlyL_N hM, hr.2]; exact Nat.le_refl _)]
      simp +decide only [qX9_ringsOf_0, qX9_ringsOf_1, am_w1_i, am_w1_r, am_w1_x, am_w1_l, am_w1_w, va_rf_s, am_push_n, am_push_s, am_cs_0, am_cs_i, am_cs_l, am_cs_r, m_uI_K, m_uI_N, m_uI_R, m_uI_L, m_uI_I, m_uL_K, m_uL_N, m_uL_R, m_uL_I, m_uL_L, m_uR_K, m_uR_N, m_uR_I, m_uR_L, m_uR_R, true_and, and_true, ni_add1]
      have hM' := onlyL_trans hM (onlyL_w4 M r (4 * t) (widS (fun i => mL M r (4 * t + i)) (fun i => mL M (w + 2) i)))
      have erow : ∀ i, i < 4 → rw4 (w4 M r (4 * t) (widS (fun i => mL M r (4 * t + i)) (fun i => mL M (w + 2) i))) r t i = widS (fun i => mL M r (4 * t + i)) (fun i => mL M (w + 2) i) i := fun i hi => by
        show mL _ r (4 * t + i) = _
        rw [w4_L, if_pos (by omega)]
        congr 1
        omega
      have hB := isB_wid hw' hg
      have hB' : isB wt p ((t - 1) * v + (k + 1)) (rw4 (w4 M r (4 * t) (widS (fun i => mL M r (4 * t + i)) (fun i => mL M (w + 2) i))) r t) := fun q => (inS_ext erow q).trans (hB q)
      refine ih (k + 1) (by omega) _ _ hM' ?_ (fun M' g' k' a1 a2 a3 a4 a5 => hQ M' g' k' a1 (fun j hj => ?_) a3 a4 a5)
      · by_cases hc : ∀ i, i < 4 → widS (fun i => mL M r (4 * t + i)) (fun i => mL M (w + 2) i) i = mL M r (4 * t + i)
        · rw [tI_f (fun q => q hc)]
          refine Or.inr ⟨rfl, fun n hn q => ?_⟩
          exact (inS_ext (fun i hi => (erow i hi).trans (hc i hi)) q).trans (isB_same hw' hg hc n (by omega) q)
        · rw [tI_t hc]
          exact Or.inl ⟨rfl, hB'⟩
      · rw [a2 j hj, w4_L, if_neg (fun q => hj q.2)]
    · rw [br_p rfl]
      exact hQ M 0 _ hM (fun _ _ => rfl) (Or.inl rfl) (hg _ (by omega)) (fun _ n hn => hg n (by omega))
/-- the hours, one behind another -/
theorem l_x_rings1 (M0 : am_M) (hL : Lay M0) (hw : isTr w) (hne : ¬ r = w + 2) (hr : mK M0 r = 1 ∧ mN M0 r = 192) (hv : mI M0 (w + 1) 1 = nI v) (hv2 : v ≤ 4) (hwt : ∀ q, inS (fun i => mL M0 (w + 2) i) q ↔ wt q) (x1 : Value) :
    ∀ (m t : Nat), t + m = 48 → 1 ≤ t → ∀ (M : am_M) (g : Int32) (x5 : Value), onlyL M0 M r → (∀ i, i < t → isB wt p (i * v) (rw4 M r i)) → (g = 1 ∨ (g = 0 ∧ ∀ n, (t - 1) * v ≤ n → isB wt p n (rw4 M r (t - 1)))) →
    (∀ (M' : am_M), onlyL M0 M' r → (∀ i, i < 48 → isB wt p (i * v) (rw4 M' r i)) → Q (some (.ref r)) M') →
    am_P am_P0 (d + 1) (am_look tX9_ringsOf) 74 [.ref (w + 1), x1, .ref r, .int g, .int (nI (4 * t)), x5] [] M Q := by
  intro m
  induction m with
  | zero =>
    intro t ht h1 M g x5 hM hB hg hQ
    have e : t = 48 := by omega
    subst e
    rw [hX9_ringsOf_74]
    simp +decide only [qX9_ringsOf_0, qX9_ringsOf_1, am_w1_i, am_w1_r, am_w1_x, am_w1_l, am_w1_w, va_rf_s, am_push_n, am_push_s, am_cs_0, am_cs_i, am_cs_l, am_cs_r, m_uI_K, m_uI_N, m_uI_R, m_uI_L, m_uI_I, m_uL_K, m_uL_N, m_uL_R, m_uL_I, m_uL_L, m_uR_K, m_uR_N, m_uR_I, m_uR_L, m_uR_R, true_and, and_true, true_implies, false_implies]
    exact hQ M hM hB
  | succ m ih =>
    intro t ht h1 M g x5 hM hB hg hQ
    have hlt : ¬ (192 : Int32) ≤ nI (4 * t) := by rw [show (192 : Int32) = nI 192 from rfl, ni_le (by omega) (by omega)]; omega
    have e4 : nI (4 * t) - 4 = nI (4 * t - 4) := by rw [show (4 : Int32) = nI 4 from rfl, ni_sub (by omega)]
    have e5 : nI (4 * t) + 4 = nI (4 * (t + 1)) := by rw [show (4 : Int32) = nI 4 from rfl, ni_add]; congr 1
    have t4 : (4 : Int32).toInt.toNat = 4 := rfl
    have i1 : (0 : Int) ≤ (nI (4 * t - 4)).toInt := by rw [ni_ti (by omega)]; omega
    have i2 : (0 : Int) ≤ (nI (4 * t)).toInt := by rw [ni_ti (by omega)]; omega
    rw [hX9_ringsOf_74]
    simp +decide (disch := omega) only [qX9_ringsOf_0, qX9_ringsOf_1, onlyL_K hM, onlyL_N hM, hr, e4, t4, i1, i2, ni_tn, am_w1_i, am_w1_r, am_w1_x, am_w1_l, am_w1_w, va_rf_s, am_push_n, am_push_s, am_cs_0, am_cs_i, am_cs_l, am_cs_r, m_uI_K, m_uI_N, m_uI_R, m_uI_L, m_uI_I, m_uL_K, m_uL_N, m_uL_R, m_uL_I, m_uL_L, m_uR_K, m_uR_N, m_uR_I, m_uR_L, m_uR_R, true_and, and_true]
    rw [br_n hlt]
    refine ⟨⟨by omega, by omega⟩, ?_⟩
    have hM' : onlyL M0 (uCL M r (4 * t - 4) r (4 * t) 4) r := onlyL_trans hM ⟨fun _ _ => rfl, fun _ _ => rfl, rfl, fun a j h => if_neg (fun q => h q.1)⟩
    have eL : ∀ j, mL (uCL M r (4 * t - 4) r (4 * t) 4) r j = if 4 * t ≤ j ∧ j < 4 * t + 4 then mL M r (4 * t - 4 + (j - 4 * t)) else mL M r j := by
      intro j
      show (if r = r ∧ 4 * t ≤ j ∧ j < 4 * t + 4 then mL M r (4 * t - 4 + (j - 4 * t)) else mL M r j) = _
      by_cases q : 4 * t ≤ j ∧ j < 4 * t + 4
      · rw [if_pos ⟨rfl, q⟩, if_pos q]
      · rw [if_neg (fun z => q z.2), if_neg q]
    have erow : ∀ i, i < 4 → rw4 (uCL M r (4 * t - 4) r (4 * t) 4) r t i = rw4 M r (t - 1) i := fun i hi => by
      show mL _ r (4 * t + i) = mL M r (4 * (t - 1) + i)
      rw [eL, if_pos (by omega)]
      congr 1
      omega
    have eold : ∀ i j, i < t → j < 4 → rw4 (uCL M r (4 * t - 4) r (4 * t) 4) r i j = rw4 M r i j := fun i j hi hj => by
      show mL _ r (4 * i + j) = _
      rw [eL, if_neg (by omega)]
    refine l_x_rings2 d w p r v wt Q M0 hL hw hne hr hv hv2 hwt t h1 (by omega) x1 v 0 (by omega) _ g hM' ?_ (fun M2 g2 k2 a1 a2 a3 a4 a5 => ?_)
    · rcases hg with rfl | ⟨rfl, hg⟩
      · exact Or.inl ⟨rfl, fun q => (inS_ext erow q).trans (hB (t - 1) (by omega) q)⟩
      · exact Or.inr ⟨rfl, fun n hn q => (inS_ext erow q).trans (hg n (by omega) q)⟩
    · rw [e5]
      refine ih (t + 1) (by omega) (by omega) M2 g2 _ a1 (fun i hi => ?_) ?_ hQ
      · by_cases e : i = t
        · subst e; exact a4
        · have e2 : ∀ j, j < 4 → rw4 M2 r i j = rw4 M r i j := fun j hj => by
            show mL M2 r (4 * i + j) = _
            rw [a2 _ (by omega)]
            exact eold i j (by omega) hj
          exact fun q => (inS_ext e2 q).trans (hB i (by omega) q)
      · rcases a3 with rfl | rfl
        · refine Or.inr ⟨rfl, fun n hn => ?_⟩
          rw [Nat.add_sub_cancel] at hn ⊢
          exact a5 rfl n hn
        · exact Or.inl rfl
end
