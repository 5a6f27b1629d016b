/-! how far it is -/
def dst (wt : Nat → Prop) (p q k : Nat) : Prop := ball wt p k q ∧ ∀ j, j < k → ¬ ball wt p j q
/-- hours from place to place, as they are told -/
def farP (wt : Nat → Prop) (v p q : Nat) (x : Int32) : Prop := (∃ k, k < 256 ∧ dst wt p q k ∧ x = nI ((k + v - 1) / v)) ∨ ((∀ k, ¬ ball wt p k q) ∧ x = -1)
theorem dst_1 {wt : Nat → Prop} {p q j k : Nat} (h1 : dst wt p q j) (h2 : dst wt p q k) : j = k := by
  rcases Nat.lt_trichotomy j k with h | h | h
  · exact absurd h1.1 (h2.2 j h)
  · exact h
  · exact absurd h2.1 (h1.2 k h)
theorem farP_1 {wt : Nat → Prop} {v p q : Nat} {x y : Int32} (h1 : farP wt v p q x) (h2 : farP wt v p q y) : x = y := by
  rcases h1 with ⟨j, -, a, rfl⟩ | ⟨a, rfl⟩ <;> rcases h2 with ⟨k, -, b, rfl⟩ | ⟨b, rfl⟩
  · rw [dst_1 a b]
  · exact absurd a.1 (b j)
  · exact absurd b.1 (a k)
  · rfl
theorem cnt_sub {g g' : Nat → Bool} {n : Nat} (h : ∀ i, i < n → g i = true → g' i = true) : cnt g n ≤ cnt g' n := by
  induction n with
  | zero => exact Nat.le_refl _
  | succ n ih =>
    have h1 := ih (fun i hi => h i (by omega))
    rw [cnt_s, cnt_s]
    by_cases e : g n = true
    · rw [if_pos e, if_pos (h n (by omega) e)]; omega
    · rw [if_neg e]; omega
theorem cnt_sub_lt {g g' : Nat → Bool} {n i : Nat} (h : ∀ i, i < n → g i = true → g' i = true) (hi : i < n) (h1 : ¬ g i = true) (h2 : g' i = true) : cnt g n < cnt g' n := by
  induction n with
  | zero => omega
  | succ n ih =>
    rw [cnt_s, cnt_s]
    by_cases e : i = n
    · subst e
      have := cnt_sub (g := g) (g' := g') (n := i) (fun j hj => h j (by omega))
      rw [if_neg h1, if_pos h2]; omega
    · have := ih (fun j hj => h j (by omega)) (by omega)
      by_cases e : g n = true
      · rw [if_pos e, if_pos (h n (by omega) e)]; omega
      · rw [if_neg e]; omega
noncomputable def inB (f : Nat → Int64) : Nat → Bool := fun p => @decide (inS f p) (Classical.propDecidable _)
theorem inB_t {f : Nat → Int64} {p : Nat} : inB f p = true ↔ inS f p := by
  unfold inB
  exact @decide_eq_true_iff _ (Classical.propDecidable _)
theorem l_x_far (d s p q v : Nat) (wt : Nat → Prop) (Q : Option Value → am_M → Prop) (M0 : am_M) (hL : Lay M0) (hs : s < 8) (hq : q < 256) (hv : mI M0 (174 + 13 * s) 1 = nI v) (hv1 : 1 ≤ v) (hv2 : v ≤ 4) (hwt : ∀ q, inS (fun i => mL M0 (175 + 13 * s) i) q ↔ wt q) (x1 : Value)
    (hQ : ∀ x M', onlyL M0 M' (178 + 13 * s) → farP wt v p q x → Q (some (.int x)) M') :
    ∀ (m k : Nat), k + m = 256 → ∀ (M : am_M), onlyL M0 M (178 + 13 * s) → isB wt p k (fun i => mL M (178 + 13 * s) i) → (∀ j, j < k → ¬ ball wt p j q) → k < cnt (inB (fun i => mL M (178 + 13 * s) i)) 256 →
    am_P am_P0 (d + 1) (am_look tX9_hoursBetween) 43 [.ref (174 + 13 * s), x1, .int (nI q), .int (nI k)] [] M Q := by
  obtain ⟨w, hwe⟩ : ∃ w, w = 173 + 13 * s := ⟨_, rfl⟩
  have hw : isTr w := ⟨s, hs, hwe⟩
  have e1 : 174 + 13 * s = w + 1 := by omega
  have e2 : 175 + 13 * s = w + 2 := by omega
  have e5 : 178 + 13 * s = w + 5 := by omega
  rw [e1] at hv ⊢
  rw [e2] at hwt
  rw [e5] at hQ ⊢
  have hq6 : q % 64 < 64 := Nat.mod_lt _ (by decide)
  intro m
  induction m with
  | zero =>
    intro k hk M hM hB hn hc
    have := cnt_le (inB (fun i => mL M (w + 5) i)) 256
    omega
  | succ m ih =>
    intro k hk M hM hB hn hc
    have hlt : ¬ (256 : Int32) ≤ nI k := by rw [show (256 : Int32) = nI 256 from rfl, ni_le (by omega) (by omega)]; omega
    have hLM := onlyL_Lay hM hL
    have hv' : mI M (w + 1) 1 = nI v := by rw [hM.1]; exact hv
    have hv0 : ¬ nI v = 0 := by rw [show (0 : Int32) = nI 0 from rfl, ni_eq (by omega) (by omega)]; omega
    have ed : (nI k + nI v - 1) / nI v = nI ((k + v - 1) / v) := by
      rw [ni_add, show (1 : Int32) = nI 1 from rfl, ni_sub (by omega), ni_div (by omega) (by omega)]
    have hw' : ∀ q, inS (fun i => mL M (w + 2) i) q ↔ wt q := fun q => by
      rw [← hwt q]
      exact inS_ext (fun i _ => hM.2.2.2 _ _ (by omega)) q
    rw [hX9_hoursBetween_43]
    simp +decide (disch := omega) only [qX9_hoursBetween_0, qX9_hoursBetween_1, lt_ hLM hw, hv', hv0, sr6 q hq, an63 q hq, ed, ni_in_t, ni_tn, lgc_0, bt_test _ hq6, am_w1_i, am_w1_r, am_w1_x, am_w1_l, am_w1_w, va_rf_s, am_push_n, am_push_s, am_cs_0, am_cs_i, am_cs_l, am_cs_r, m_uI_K, m_uI_N, m_uI_R, m_uI_L, m_uI_I, m_uL_K, m_uL_N, m_uL_R, m_uL_I, m_uL_L, m_uR_K, m_uR_N, m_uR_I, m_uR_L, m_uR_R, true_and, and_true]
    rw [br_n hlt]
    by_cases e : sbit (mL M (w + 5) (q / 64)) (q % 64) = true
    · rw [br_r e]
      exact hQ _ M hM (Or.inl ⟨k, by omega, ⟨(hB q).mp ⟨hq, e⟩, hn⟩, rfl⟩)
    · rw [br_q e]
      have hnk : ¬ ball wt p k q := fun z => e ((hB q).mpr z).2
      rw [show (0 : Int32) = nI 0 from rfl, c_x_widen d w (w + 5) 0 M _ hLM hw (by omega) (lt_ hLM hw).2.2.2.2.2.2.2.2.1 (by rw [(lt_ hLM hw).2.2.2.2.2.2.2.2.2.1]; decide) (by rw [(lt_ hLM hw).2.2.2.2.2.2.2.2.2.1]; decide)]
      simp +decide only [qX9_hoursBetween_0, qX9_hoursBetween_1, am_w1_i, am_w1_r, am_w1_x, am_w1_l, am_w1_w, va_rf_s, am_push_n, am_push_s, am_cs_0, am_cs_i, am_cs_l, am_cs_r, m_uI_K, m_uI_N, m_uI_R, m_uI_L, m_uI_I, m_uL_K, m_uL_N, m_uL_R, m_uL_I, m_uL_L, m_uR_K, m_uR_N, m_uR_I, m_uR_L, m_uR_R, true_and, and_true, ni_add1]
      have er : (fun i => mL M (w + 5) (0 + i)) = (fun i => mL M (w + 5) i) := by funext i; rw [Nat.zero_add]
      rw [er]
      by_cases hc2 : ∀ i, i < 4 → widS (fun i => mL M (w + 5) i) (fun i => mL M (w + 2) i) i = mL M (w + 5) (0 + i)
      · rw [tI_f (fun z => z hc2)]
        rw [br_r rfl]
        refine hQ _ _ (onlyL_trans hM (onlyL_w4 M (w + 5) 0 _)) (Or.inr ⟨fun j hj => ?_, rfl⟩)
        have hsm := isB_same hw' hB (fun i hi => by rw [hc2 i hi, Nat.zero_add])
        rcases Nat.lt_or_ge j k with l | l
        · exact hn j l hj
        · exact hnk ((hB q).mp ((hsm j l q).mpr hj))
      · rw [tI_t hc2]
        rw [br_q (by decide)]
        have erow : ∀ i, i < 4 → mL (w4 M (w + 5) 0 (widS (fun i => mL M (w + 5) i) (fun i => mL M (w + 2) i))) (w + 5) i = widS (fun i => mL M (w + 5) i) (fun i => mL M (w + 2) i) i := fun i hi => by
          rw [w4_L, if_pos (by omega)]
          rfl
        have hB1 := isB_wid hw' hB
        have hB2 : isB wt p (k + 1) (fun i => mL (w4 M (w + 5) 0 (widS (fun i => mL M (w + 5) i) (fun i => mL M (w + 2) i))) (w + 5) i) := fun z => (inS_ext erow z).trans (hB1 z)
        refine ih (k + 1) (by omega) _ (onlyL_trans hM (onlyL_w4 M (w + 5) 0 _)) hB2 (fun j hj => ?_) ?_
        · by_cases ej : j = k
          · subst ej; exact hnk
          · exact hn j (by omega)
        · have hex : ∃ z, inS (fun i => mL (w4 M (w + 5) 0 (widS (fun i => mL M (w + 5) i) (fun i => mL M (w + 2) i))) (w + 5) i) z ∧ ¬ inS (fun i => mL M (w + 5) i) z := by
            by_cases hz : ∃ z, inS (fun i => mL (w4 M (w + 5) 0 (widS (fun i => mL M (w + 5) i) (fun i => mL M (w + 2) i))) (w + 5) i) z ∧ ¬ inS (fun i => mL M (w + 5) i) z
            · exact hz
            · exfalso
              apply hc2
              intro i hi
              rw [Nat.zero_add]
              refine inS_eq (fun z => ?_) i hi
              rw [← inS_ext erow z]
              constructor
              · intro z1
                by_cases z2 : inS (fun i => mL M (w + 5) i) z
                · exact z2
                · exact absurd ⟨z, z1, z2⟩ hz
              · intro z1
                exact (hB2 z).mpr (ball_up ((hB z).mp z1))
          obtain ⟨z, z1, z2⟩ := hex
          have := cnt_sub_lt (g := inB (fun i => mL M (w + 5) i)) (g' := inB (fun i => mL (w4 M (w + 5) 0 (widS (fun i => mL M (w + 5) i) (fun i => mL M (w + 2) i))) (w + 5) i)) (n := 256) (i := z) (fun i _ hi => inB_t.mpr ((hB2 i).mpr (ball_up ((hB i).mp (inB_t.mp hi))))) z1.1 (fun h => z2 (inB_t.mp h)) (inB_t.mpr z1)
          omega
theorem c_x_hoursBetween (d s p q v : Nat) (wt : Nat → Prop) (Q : Option Value → am_M → Prop) (M : am_M) (hL : Lay M) (hs : s < 8) (hp : p < 256) (hq : q < 256) (hv : mI M (174 + 13 * s) 1 = nI v) (hv1 : 1 ≤ v) (hv2 : v ≤ 4) (hwt : ∀ q, inS (fun i => mL M (175 + 13 * s) i) q ↔ wt q)
    (hQ : ∀ x M', onlyL M M' (178 + 13 * s) → farP wt v p q x → Q (some (.int x)) M') : am_E am_P0 (d + 1) 107 [.ref (174 + 13 * s), .int (nI p), .int (nI q)] M Q := by
  obtain ⟨w, hwe⟩ : ∃ w, w = 173 + 13 * s := ⟨_, rfl⟩
  have hw : isTr w := ⟨s, hs, hwe⟩
  have hl := l_x_far d s p q v wt Q M hL hs hq hv hv1 hv2 hwt (.int (nI p)) hQ 256 0 rfl
  have e1 : 174 + 13 * s = w + 1 := by omega
  have e2 : 175 + 13 * s = w + 2 := by omega
  have e5 : 178 + 13 * s = w + 5 := by omega
  rw [e1] at hv hl ⊢
  rw [e2] at hwt
  rw [e5] at hQ hl
  have hp6 : p % 64 < 64 := Nat.mod_lt _ (by decide)
  rw [eX9_hoursBetween]
  have w1 := fun Q => c_x_isWater d w p M Q hL hw hp
  have w2 := fun Q => c_x_isWater d w q M Q hL hw hq
  simp +decide only [qX9_hoursBetween_0, qX9_hoursBetween_1, lt_ hL hw, w1, w2, am_w1_i, am_w1_r, am_w1_x, am_w1_l, am_w1_w, va_rf_s, am_push_n, am_push_s, am_cs_0, am_cs_i, am_cs_l, am_cs_r, m_uI_K, m_uI_N, m_uI_R, m_uI_L, m_uI_I, m_uL_K, m_uL_N, m_uL_R, m_uL_I, m_uL_L, m_uR_K, m_uR_N, m_uR_I, m_uR_L, m_uR_R, true_and, and_true]
  by_cases h1 : inS (fun i => mL M (w + 2) i) p
  · rw [tI_t h1, br_n (by decide)]
    by_cases h2 : inS (fun i => mL M (w + 2) i) q
    · rw [tI_t h2, br_q (by decide)]
      rw [c_fillJ d (w + 5) 0 M _ (lt_ hL hw).2.2.2.2.2.2.2.2.1 (by rw [(lt_ hL hw).2.2.2.2.2.2.2.2.2.1]; decide)]
      simp +decide (disch := omega) only [qX9_hoursBetween_0, qX9_hoursBetween_1, lt_ hL hw, uB_K, uB_N, uB_R, uB_L, sr6 p hp, an63 p hp, ni_in_t, ni_tn, am_w1_i, am_w1_r, am_w1_x, am_w1_l, am_w1_w, va_rf_s, am_push_n, am_push_s, am_cs_0, am_cs_i, am_cs_l, am_cs_r, m_uI_K, m_uI_N, m_uI_R, m_uI_L, m_uI_I, m_uL_K, m_uL_N, m_uL_R, m_uL_I, m_uL_L, m_uR_K, m_uR_N, m_uR_I, m_uR_L, m_uR_R, true_and, and_true]
      have hM' : onlyL M (uL (uB M (w + 5) (fun j => if j < 4 then 0 else mL M (w + 5) j)) (w + 5) (p / 64) ((1 : Int64) <<< ((nI (p % 64)).toInt64 &&& 63))) (w + 5) := by
        refine ⟨fun _ _ => rfl, fun _ _ => rfl, rfl, fun a j h => ?_⟩
        rw [m_uL_L, if_neg (fun q => h q.1), uB_L, if_neg h]
      have hB : isB wt p 0 (fun i => mL (uL (uB M (w + 5) (fun j => if j < 4 then 0 else mL M (w + 5) j)) (w + 5) (p / 64) ((1 : Int64) <<< ((nI (p % 64)).toInt64 &&& 63))) (w + 5) i) := by
        intro z
        show inS _ z ↔ z = p ∧ wt p
        unfold inS
        constructor
        · rintro ⟨hz, hb⟩
          dsimp only at hb
          rw [m_uL_L, uB_L, if_pos rfl] at hb
          by_cases e1 : z / 64 = p / 64
          · rw [if_pos ⟨rfl, e1⟩, bt_one hp6, decide_eq_true_eq] at hb
            exact ⟨by omega, (hwt p).mp h1⟩
          · rw [if_neg (fun z => e1 z.2), if_pos (by omega), sb_0] at hb
            cases hb
        · rintro ⟨rfl, -⟩
          refine ⟨hp, ?_⟩
          dsimp only
          rw [m_uL_L, if_pos ⟨rfl, rfl⟩, bt_one hp6]
          simp
      refine hl _ hM' hB (fun j hj => by omega) (cnt_pos.mpr ⟨p, hp, inB_t.mpr ((hB p).mpr ⟨rfl, (hwt p).mp h1⟩)⟩)
    · rw [tI_f h2, br_r rfl]
      exact hQ _ M (onlyL_refl _ _) (Or.inr ⟨fun k hk => h2 ((hwt q).mpr (ball_w hk).2), rfl⟩)
  · rw [tI_f h1, br_p rfl]
    exact hQ _ M (onlyL_refl _ _) (Or.inr ⟨fun k hk => h1 ((hwt p).mpr (ball_w hk).1), rfl⟩)
