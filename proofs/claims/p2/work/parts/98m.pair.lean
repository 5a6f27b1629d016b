/-! the model: two sets -/
def sI : Option Bool → Int32
  | none => -1
  | some true => 0
  | some false => 1
theorem sI_n {o : Option Bool} : sI o = -1 ↔ o = none := by
  rcases o with - | - | - <;> simp [sI] <;> decide
theorem sI_e {a b : Bool} : sI (some a) = sI (some b) ↔ a = b := by
  cases a <;> cases b <;> decide
theorem sI_1 (b : Bool) : 1 - sI (some b) = sI (some (!b)) := by
  cases b <;> decide
theorem sI_0 {o : Option Bool} : sI o = 0 ↔ o = some true := by
  rcases o with - | - | - <;> decide
def SeM (M : am_M) (n : Nat) (S : Nat → Option Bool) : Prop := ∀ i, i < n → mI M 328 i = sI (S i)
def s328 (a _j : Nat) : Prop := a = 328
theorem PrM_g {w : Nat → Prop} {v : Nat} {snd : Nat → Bool → Prop} {B : List Fct} {Y : List Sy} {M M' : am_M} {n : Nat} {S T' : Nat → Nat → Prop} (h : PrM w v snd B Y M n) (hg : gF S T' M M') (hS : ∀ a j, (a = 277 ∧ j = 65) ∨ a = 322 ∨ a = 323 ∨ a = 325 → ¬ S a j) : PrM w v snd B Y M' n := PrM_S h (hg.1 _ _ (hS _ _ (by omega))) (fun j => hg.1 _ _ (hS _ _ (by omega))) (fun j => hg.1 _ _ (hS _ _ (by omega))) (fun j => hg.1 _ _ (hS _ _ (by omega)))
section
variable (w : Nat → Prop) (v : Nat) (snd : Nat → Bool → Prop) (B : List Fct) (Y : List Sy) (S1 : Nat → Option Bool)
def PtI (M : am_M) (S : Nat → Option Bool) : Prop := SeM M Y.length S ∧ (∀ i b, S1 i = some b → S i = some b) ∧ (∀ c, colV Y.length (KY w v Y) (gY w v snd B Y) c → colX Y.length S1 c → colX Y.length S c) ∧ ((∀ i j, i < Y.length → j < Y.length → ¬ KY w v Y i j) → ∀ i, i < Y.length → S i = S1 i)
def PtX (Ss S : Nat → Option Bool) (x : Int32) (i j : Nat) : Prop := (x = 1 ∧ cnt (fun i => (Ss i).isSome) Y.length < cnt (fun i => (S i).isSome) Y.length) ∨ (x = 0 ∧ (∀ i, i < Y.length → S i = Ss i) ∧ ∀ i' j', i' < Y.length → j' < Y.length → (i' < i ∨ (i' = i ∧ j' < j)) → KY w v Y i' j' → ∀ b, S i' = some b → S j' = some (!b))
variable (d : Nat) (M0 : am_M) (Q : Option Value → am_M → Prop) (x1 x2 : Int32)
theorem l_m_pt3 (hL0 : Lay M0) (hP0 : PrM w v snd B Y M0 Y.length) (h48 : Y.length ≤ 48) (hself : ∀ y, y ∈ Y → gowY w v y y) (Ss : Nat → Option Bool) (i : Nat) (hi : i < Y.length)
    (hF : ∀ M', gF s328 nT M0 M' → (∀ c, colV Y.length (KY w v Y) (gY w v snd B Y) c → ¬ colX Y.length S1 c) → Q (some (.int 0)) M')
    (hN : ∀ M' S x v5, gF s328 nT M0 M' → PtI w v snd B Y S1 M' S → PtX w v Y Ss S x (i + 1) 0 → jk v5 → am_P am_P0 d (am_look tX11_parts) 18 [.ref 277, .int x1, .int x2, .int x, .int (nI (i + 1)), v5] [] M' Q) :
    ∀ (m j : Nat), j + m = Y.length → ∀ (M : am_M) (S : Nat → Option Bool) (x : Int32), gF s328 nT M0 M → PtI w v snd B Y S1 M S → PtX w v Y Ss S x i j → am_P am_P0 d (am_look tX11_parts) 30 [.ref 277, .int x1, .int x2, .int x, .int (nI i), .int (nI j)] [] M Q := by
  intro m
  induction m with
  | zero =>
    intro j hj M S x hM hI hX
    have hL := gF_LayN hM hL0
    have hP := PrM_g hP0 hM (fun a j q z => by have z' : a = 328 := z; omega)
    have hle : nI Y.length ≤ nI j := (ni_le (by omega) (by omega)).mpr (by omega)
    have h0 := hN M S x (.int (nI j)) hM hI (by
      rcases hX with q | ⟨q1, q2, q3⟩
      · exact Or.inl q
      · refine Or.inr ⟨q1, q2, fun i' j' a1 a2 a3 => q3 i' j' a1 a2 ?_⟩
        omega) (Or.inr ⟨_, rfl⟩)
    rw [hX11_parts_30]
    simp +decide only [qX11_parts_0, qX11_parts_1, qX11_parts_2, lm hL, hP.1.1, ni_add1, am_w1_i, am_w1_r, am_w1_x, am_w1_l, am_w1_w, va_rf_s, am_push_n, am_push_s, am_cs_0, am_cs_i, am_cs_l, am_cs_r, m_uI_K, m_uI_N, m_uI_R, m_uI_L, m_uI_I, m_uL_K, m_uL_N, m_uL_R, m_uL_I, m_uL_L, m_uR_K, m_uR_N, m_uR_I, m_uR_L, m_uR_R, true_and, and_true, true_implies, false_implies, not_true_eq_false, not_false_eq_true, if_true, if_false, false_and, and_false] at h0 ⊢
    first | rw [br_p (hle)] | rw [br_r (hle)] | rw [br_s (hle)]
    exact h0
  | succ m ih =>
    intro j hj M S x hM hI hX
    have hL := gF_LayN hM hL0
    have hP := PrM_g hP0 hM (fun a j q z => by have z' : a = 328 := z; omega)
    have hlt : ¬ nI Y.length ≤ nI j := by rw [ni_le (by omega) (by omega)]; omega
    have e48 : (48 : Int32) * nI i + nI j = nI (48 * i + j) := by rw [show (48 : Int32) = nI 48 from rfl, ni_mul, ni_add]
    obtain ⟨y, hy⟩ : ∃ y, Y[i]? = some y := ⟨Y[i]'hi, List.getElem?_eq_getElem hi⟩
    obtain ⟨y', hy'⟩ : ∃ y, Y[j]? = some y := ⟨Y[j]'(by omega), List.getElem?_eq_getElem (by omega)⟩
    have hg := hP.2.2 i j y y' hi hy hy'
    have hsi := hI.1 i hi
    have hsj := hI.1 j (by omega)
    rw [hX11_parts_30]
    simp +decide (disch := omega) only [qX11_parts_0, qX11_parts_1, qX11_parts_2, lm hL, hP.1.1, hsi, hsj, e48, hg, tI_01, tI_0, ni_in_t, ni_tn, ni_add1, Classical.not_not, am_w1_i, am_w1_r, am_w1_x, am_w1_l, am_w1_w, va_rf_s, am_push_n, am_push_s, am_cs_0, am_cs_i, am_cs_l, am_cs_r, m_uI_K, m_uI_N, m_uI_R, m_uI_L, m_uI_I, m_uL_K, m_uL_N, m_uL_R, m_uL_I, m_uL_L, m_uR_K, m_uR_N, m_uR_I, m_uR_L, m_uR_R, true_and, and_true, true_implies, false_implies, not_true_eq_false, not_false_eq_true, if_true, if_false, false_and, and_false]
    first | rw [br_n (hlt)] | rw [br_q (hlt)] | rw [br_u (hlt)]
    cases hSi : S i with
    | none =>
      have h0 := hN M S x (.int (nI j)) hM hI (by
        rcases hX with q | ⟨q1, q2, q3⟩
        · exact Or.inl q
        · refine Or.inr ⟨q1, q2, fun i' j' a1 a2 a3 a4 b hb => ?_⟩
          by_cases e : i' = i
          · subst e; rw [hSi] at hb; cases hb
          · exact q3 i' j' a1 a2 (by omega) a4 b hb) (Or.inr ⟨_, rfl⟩)
      simp +decide only [sI, qX11_parts_0, qX11_parts_1, qX11_parts_2, am_w1_i, am_w1_r, am_w1_x, am_w1_l, am_w1_w, va_rf_s, am_push_n, am_push_s, am_cs_0, am_cs_i, am_cs_l, am_cs_r, m_uI_K, m_uI_N, m_uI_R, m_uI_L, m_uI_I, m_uL_K, m_uL_N, m_uL_R, m_uL_I, m_uL_L, m_uR_K, m_uR_N, m_uR_I, m_uR_L, m_uR_R, true_and, and_true, true_implies, false_implies, not_true_eq_false, not_false_eq_true, if_true, if_false, false_and, and_false] at h0 ⊢
      exact h0
    | some b =>
      have hne : ¬ sI (some b) = -1 := fun q => by rw [sI_n] at q; cases q
      first | rw [br_n (hne)] | rw [br_q (hne)] | rw [br_u (hne)]
      by_cases c : gowY w v y y'
      · first | rw [br_p (c)] | rw [br_r (c)] | rw [br_s (c)]
        refine ih (j + 1) (by omega) M S x hM hI ?_
        rcases hX with q | ⟨q1, q2, q3⟩
        · exact Or.inl q
        · refine Or.inr ⟨q1, q2, fun i' j' a1 a2 a3 a4 b hb => ?_⟩
          by_cases e : i' = i ∧ j' = j
          · obtain ⟨rfl, rfl⟩ := e
            exact absurd c ((KY_y hy hy').mp a4).2
          · exact q3 i' j' a1 a2 (by omega) a4 b hb
      · first | rw [br_n (c)] | rw [br_q (c)] | rw [br_u (c)]
        have hij : ¬ i = j := fun q => by
          subst q
          rw [hy] at hy'
          cases hy'
          exact c (hself y (List.mem_of_getElem? hy))
        have hK : KY w v Y i j := (KY_y hy hy').mpr ⟨hij, c⟩
        cases hSj : S j with
        | none =>
          have hne2 : ¬ sI none = sI (some b) := fun q => hne q.symm
          have e1 := sI_1 b
          obtain ⟨S2, hS2⟩ : ∃ S2 : Nat → Option Bool, S2 = fun k => if k = j then some (!b) else S k := ⟨_, rfl⟩
          have w1 : gF s328 nT M (uI M 328 j (sI (some (!b)))) := gF_i _ rfl
          have hcl : cnt (fun i => (S i).isSome) Y.length < cnt (fun i => (S2 i).isSome) Y.length := cnt_sub_lt (i := j) (fun k hk q => by
            rw [hS2]
            (try dsimp only)
            by_cases e : k = j
            · rw [if_pos e]; rfl
            · rw [if_neg e]; exact q) (by omega) (by rw [hSj]; simp) (by rw [hS2]; simp)
          have h0 := ih (j + 1) (by omega) (uI M 328 j (sI (some (!b)))) S2 1 (gF_trans hM w1) ⟨fun k hk => by
              rw [m_uI_I, hS2]
              dsimp only
              by_cases e : k = j
              · rw [if_pos ⟨rfl, e⟩, if_pos e]
              · rw [if_neg (by omega), if_neg e]; exact hI.1 k hk, fun k b' hb' => by
              rw [hS2]
              dsimp only
              by_cases e : k = j
              · have := hI.2.1 k b' hb'; rw [e, hSj] at this; cases this
              · rw [if_neg e]; exact hI.2.1 k b' hb', fun c' hc' hx' k b' hk hb' => by
              have hX2 := hI.2.2.1 c' hc' hx'
              rw [hS2] at hb'
              dsimp only at hb'
              by_cases e : k = j
              · rw [if_pos e] at hb'
                cases hb'
                have e2 := hc'.1 i j hi (by omega) hK
                rw [hX2 i b hi hSi] at e2
                rw [e, e2]
                simp
              · rw [if_neg e] at hb'; exact hX2 k b' hk hb', fun hno => absurd hK (hno i j hi (by omega))⟩ (by
              refine Or.inl ⟨rfl, ?_⟩
              rcases hX with q | ⟨q1, q2, q3⟩
              · omega
              · have := cnt_sub (g := fun i => (Ss i).isSome) (g' := fun i => (S i).isSome) (n := Y.length) (fun k hk q => by rw [q2 k hk]; exact q)
                omega)
          first | rw [br_n (hne2)] | rw [br_q (hne2)] | rw [br_u (hne2)]
          rw [e1]
          simp +decide only [sI, am_w1_i, am_w1_r, am_w1_x, am_w1_l, am_w1_w, va_rf_s, am_push_n, am_push_s, am_cs_0, am_cs_i, am_cs_l, am_cs_r, m_uI_K, m_uI_N, m_uI_R, m_uI_L, m_uI_I, m_uL_K, m_uL_N, m_uL_R, m_uL_I, m_uL_L, m_uR_K, m_uR_N, m_uR_I, m_uR_L, m_uR_R, true_and, and_true, true_implies, false_implies, not_true_eq_false, not_false_eq_true, if_true, if_false, false_and, and_false] at h0 ⊢
          by_cases cx : x = 0
          · first | rw [br_p (cx)] | rw [br_r (cx)] | rw [br_s (cx)]
            exact h0
          · first | rw [br_n (cx)] | rw [br_q (cx)] | rw [br_u (cx)]
            exact h0
        | some b' =>
          by_cases ce : b' = b
          · subst ce
            have h0 := hF M hM (fun c' hc' hx' => by
              have hX2 := hI.2.2.1 c' hc' hx'
              have e2 := hc'.1 i j hi (by omega) hK
              rw [hX2 i b' hi hSi, hX2 j b' (by omega) hSj] at e2
              cases b' <;> cases e2)
            have ee : sI (some b') = sI (some b') := rfl
            first | rw [br_p (ee)] | rw [br_r (ee)] | rw [br_s (ee)]
            exact h0
          · have eb : b' = !b := by cases b <;> cases b' <;> simp_all
            have hne2 : ¬ sI (some b') = sI (some b) := fun q => ce (sI_e.mp q)
            have hne3 : ¬ sI (some b') = -1 := fun q => by rw [sI_n] at q; cases q
            have e1 := sI_1 b
            have w1 : gF s328 nT M (uI M 328 j (sI (some (!b)))) := gF_i _ rfl
            have h0 := ih (j + 1) (by omega) (uI M 328 j (sI (some (!b)))) S x (gF_trans hM w1) ⟨fun k hk => by
              rw [m_uI_I]
              by_cases e : k = j
              · rw [if_pos ⟨rfl, e⟩, e, hSj, eb]
              · rw [if_neg (by omega)]; exact hI.1 k hk, hI.2.1, hI.2.2.1, hI.2.2.2⟩ (by
              rcases hX with q | ⟨q1, q2, q3⟩
              · exact Or.inl q
              · refine Or.inr ⟨q1, q2, fun i' j' a1 a2 a3 a4 b2 hb2 => ?_⟩
                by_cases e : i' = i ∧ j' = j
                · obtain ⟨rfl, rfl⟩ := e
                  rw [hSi] at hb2
                  cases hb2
                  rw [hSj, eb]
                · exact q3 i' j' a1 a2 (by omega) a4 b2 hb2)
            first | rw [br_n (hne2)] | rw [br_q (hne2)] | rw [br_u (hne2)]
            rw [e1]
            rcases hX with q | ⟨q1, q2, q3⟩
            · rw [q.1] at h0 ⊢
              simp +decide only [am_w1_i, am_w1_r, am_w1_x, am_w1_l, am_w1_w, va_rf_s, am_push_n, am_push_s, am_cs_0, am_cs_i, am_cs_l, am_cs_r, m_uI_K, m_uI_N, m_uI_R, m_uI_L, m_uI_I, m_uL_K, m_uL_N, m_uL_R, m_uL_I, m_uL_L, m_uR_K, m_uR_N, m_uR_I, m_uR_L, m_uR_R, true_and, and_true, true_implies, false_implies, not_true_eq_false, not_false_eq_true, if_true, if_false, false_and, and_false]
              exact h0
            · rw [q1] at h0 ⊢
              simp +decide only [am_w1_i, am_w1_r, am_w1_x, am_w1_l, am_w1_w, va_rf_s, am_push_n, am_push_s, am_cs_0, am_cs_i, am_cs_l, am_cs_r, m_uI_K, m_uI_N, m_uI_R, m_uI_L, m_uI_I, m_uL_K, m_uL_N, m_uL_R, m_uL_I, m_uL_L, m_uR_K, m_uR_N, m_uR_I, m_uR_L, m_uR_R, true_and, and_true, true_implies, false_implies, not_true_eq_false, not_false_eq_true, if_true, if_false, false_and, and_false]
              first | rw [br_n (hne3)] | rw [br_q (hne3)] | rw [br_u (hne3)]
              exact h0
theorem l_m_pt2 (hL0 : Lay M0) (hP0 : PrM w v snd B Y M0 Y.length) (h48 : Y.length ≤ 48) (hself : ∀ y, y ∈ Y → gowY w v y y) (Ss : Nat → Option Bool)
    (hF : ∀ M', gF s328 nT M0 M' → (∀ c, colV Y.length (KY w v Y) (gY w v snd B Y) c → ¬ colX Y.length S1 c) → Q (some (.int 0)) M')
    (hN : ∀ M' S x v4 v5, gF s328 nT M0 M' → PtI w v snd B Y S1 M' S → PtX w v Y Ss S x Y.length 0 → jk v4 → jk v5 → am_P am_P0 d (am_look tX11_parts) 9 [.ref 277, .int x1, .int x2, .int x, v4, v5] [] M' Q) :
    ∀ (m i : Nat), i + m = Y.length → ∀ (M : am_M) (S : Nat → Option Bool) (x : Int32) (v5 : Value), jk v5 → gF s328 nT M0 M → PtI w v snd B Y S1 M S → PtX w v Y Ss S x i 0 → am_P am_P0 d (am_look tX11_parts) 18 [.ref 277, .int x1, .int x2, .int x, .int (nI i), v5] [] M Q := by
  intro m
  induction m with
  | zero =>
    intro i hi M S x v5 hv5 hM hI hX
    have hL := gF_LayN hM hL0
    have hP := PrM_g hP0 hM (fun a j q z => by have z' : a = 328 := z; omega)
    have ei : i = Y.length := by omega
    subst ei
    have hle : nI Y.length ≤ nI Y.length := (ni_le (by omega) (by omega)).mpr (by omega)
    have h0 := hN M S x (.int (nI Y.length)) v5 hM hI hX (Or.inr ⟨_, rfl⟩) hv5
    rw [hX11_parts_18]
    simp +decide only [qX11_parts_0, qX11_parts_1, qX11_parts_2, lm hL, hP.1.1, jk_w hv5, am_w1_i, am_w1_r, am_w1_x, am_w1_l, am_w1_w, va_rf_s, am_push_n, am_push_s, am_cs_0, am_cs_i, am_cs_l, am_cs_r, m_uI_K, m_uI_N, m_uI_R, m_uI_L, m_uI_I, m_uL_K, m_uL_N, m_uL_R, m_uL_I, m_uL_L, m_uR_K, m_uR_N, m_uR_I, m_uR_L, m_uR_R, true_and, and_true, true_implies, false_implies, not_true_eq_false, not_false_eq_true, if_true, if_false, false_and, and_false]
    first | rw [br_p (hle)] | rw [br_r (hle)] | rw [br_s (hle)]
    exact h0
  | succ m ih =>
    intro i hi M S x v5 hv5 hM hI hX
    have hL := gF_LayN hM hL0
    have hP := PrM_g hP0 hM (fun a j q z => by have z' : a = 328 := z; omega)
    have hlt : ¬ nI Y.length ≤ nI i := by rw [ni_le (by omega) (by omega)]; omega
    have h0 := l_m_pt3 w v snd B Y S1 d M0 Q x1 x2 hL0 hP0 h48 hself Ss i (by omega) hF (fun M' S' x' v5' a1 a2 a3 a4 => ih (i + 1) (by omega) M' S' x' v5' a4 a1 a2 a3) Y.length 0 (by omega) M S x hM hI hX
    rw [hX11_parts_18]
    simp +decide only [qX11_parts_0, qX11_parts_1, qX11_parts_2, lm hL, hP.1.1, jk_w hv5, am_w1_i, am_w1_r, am_w1_x, am_w1_l, am_w1_w, va_rf_s, am_push_n, am_push_s, am_cs_0, am_cs_i, am_cs_l, am_cs_r, m_uI_K, m_uI_N, m_uI_R, m_uI_L, m_uI_I, m_uL_K, m_uL_N, m_uL_R, m_uL_I, m_uL_L, m_uR_K, m_uR_N, m_uR_I, m_uR_L, m_uR_R, true_and, and_true, true_implies, false_implies, not_true_eq_false, not_false_eq_true, if_true, if_false, false_and, and_false]
    first | rw [br_n (hlt)] | rw [br_q (hlt)] | rw [br_u (hlt)]
    exact h0
theorem l_m_pt4 (hL0 : Lay M0) (hP0 : PrM w v snd B Y M0 Y.length) (h48 : Y.length ≤ 48) (S : Nat → Option Bool) (M : am_M) (hM : gF s328 nT M0 M) (hI : PtI w v snd B Y S1 M S) (x : Int32) (v5 : Value) (hv5 : jk v5)
    (hF : (∀ c, colV Y.length (KY w v Y) (gY w v snd B Y) c → ¬ colX Y.length S1 c) → Q (some (.int 0)) M)
    (hT : (∀ i, i < Y.length → S i = some true → gY w v snd B Y i) → Q (some (.int 1)) M) :
    ∀ (m i : Nat), i + m = Y.length → (∀ k, k < i → S k = some true → gY w v snd B Y k) → am_P am_P0 d (am_look tX11_parts) 143 [.ref 277, .int x1, .int x2, .int x, .int (nI i), v5] [] M Q := by
  have hL := gF_LayN hM hL0
  have hP := PrM_g hP0 hM (fun a j q z => by have z' : a = 328 := z; omega)
  intro m
  induction m with
  | zero =>
    intro i hi hb
    have hle : nI Y.length ≤ nI i := (ni_le (by omega) (by omega)).mpr (by omega)
    have h0 := hT (fun k hk => hb k (by omega))
    rw [hX11_parts_143]
    simp +decide only [qX11_parts_0, qX11_parts_1, qX11_parts_2, lm hL, hP.1.1, jk_w hv5, am_w1_i, am_w1_r, am_w1_x, am_w1_l, am_w1_w, va_rf_s, am_push_n, am_push_s, am_cs_0, am_cs_i, am_cs_l, am_cs_r, m_uI_K, m_uI_N, m_uI_R, m_uI_L, m_uI_I, m_uL_K, m_uL_N, m_uL_R, m_uL_I, m_uL_L, m_uR_K, m_uR_N, m_uR_I, m_uR_L, m_uR_R, true_and, and_true, true_implies, false_implies, not_true_eq_false, not_false_eq_true, if_true, if_false, false_and, and_false]
    first | rw [br_p (hle)] | rw [br_r (hle)] | rw [br_s (hle)]
    exact h0
  | succ m ih =>
    intro i hi hb
    have hlt : ¬ nI Y.length ≤ nI i := by rw [ni_le (by omega) (by omega)]; omega
    obtain ⟨y, hy⟩ : ∃ y, Y[i]? = some y := ⟨Y[i]'(by omega), List.getElem?_eq_getElem (by omega)⟩
    have hg := hP.2.1 i y (by omega) hy
    have hsi := hI.1 i (by omega)
    rw [hX11_parts_143]
    simp +decide (disch := omega) only [qX11_parts_0, qX11_parts_1, qX11_parts_2, lm hL, hP.1.1, hsi, hg, tI_01, tI_0, sI_0, jk_w hv5, ni_in_t, ni_tn, ni_add1, Classical.not_not, am_w1_i, am_w1_r, am_w1_x, am_w1_l, am_w1_w, va_rf_s, am_push_n, am_push_s, am_cs_0, am_cs_i, am_cs_l, am_cs_r, m_uI_K, m_uI_N, m_uI_R, m_uI_L, m_uI_I, m_uL_K, m_uL_N, m_uL_R, m_uL_I, m_uL_L, m_uR_K, m_uR_N, m_uR_I, m_uR_L, m_uR_R, true_and, and_true, true_implies, false_implies, not_true_eq_false, not_false_eq_true, if_true, if_false, false_and, and_false]
    first | rw [br_n (hlt)] | rw [br_q (hlt)] | rw [br_u (hlt)]
    by_cases c : S i = some true
    · first | rw [br_p (c)] | rw [br_r (c)] | rw [br_s (c)]
      by_cases c2 : goodY w v snd B y
      · first | rw [br_p (c2)] | rw [br_r (c2)] | rw [br_s (c2)]
        exact ih (i + 1) (by omega) (fun k hk q => by
          by_cases e : k = i
          · subst e; exact (gY_y hy).mpr c2
          · exact hb k (by omega) q)
      · first | rw [br_n (c2)] | rw [br_q (c2)] | rw [br_u (c2)]
        exact hF (fun c' hc' hx' => c2 ((gY_y hy).mp (hc'.2 i (by omega) (hI.2.2.1 c' hc' hx' i true (by omega) c))))
    · first | rw [br_n (c)] | rw [br_q (c)] | rw [br_u (c)]
      exact ih (i + 1) (by omega) (fun k hk q => by
        by_cases e : k = i
        · subst e; exact absurd q c
        · exact hb k (by omega) q)
theorem l_m_pt1 (hL0 : Lay M0) (hP0 : PrM w v snd B Y M0 Y.length) (h48 : Y.length ≤ 48) (hself : ∀ y, y ∈ Y → gowY w v y y)
    (hF : ∀ M', gF s328 nT M0 M' → (∀ c, colV Y.length (KY w v Y) (gY w v snd B Y) c → ¬ colX Y.length S1 c) → Q (some (.int 0)) M')
    (hT : ∀ M' S, gF s328 nT M0 M' → PtI w v snd B Y S1 M' S → colC Y.length (KY w v Y) (gY w v snd B Y) S → Q (some (.int 1)) M') :
    ∀ (m : Nat) (M : am_M) (S : Nat → Option Bool) (v4 v5 : Value), Y.length - cnt (fun i => (S i).isSome) Y.length < m → jk v4 → jk v5 → gF s328 nT M0 M → PtI w v snd B Y S1 M S → am_P am_P0 d (am_look tX11_parts) 9 [.ref 277, .int x1, .int x2, .int 1, v4, v5] [] M Q := by
  intro m
  induction m with
  | zero => intro M S v4 v5 h; omega
  | succ m ih =>
    intro M S v4 v5 hm hv4 hv5 hM hI
    have h0 := l_m_pt2 w v snd B Y S1 d M0 Q x1 x2 hL0 hP0 h48 hself S hF (fun M' S' x v4' v5' a1 a2 a3 a4 a5 => by
      rcases a3 with ⟨q1, q2⟩ | ⟨q1, q2, q3⟩
      · have := cnt_le (fun i => (S' i).isSome) Y.length
        rw [q1]
        exact ih M' S' v4' v5' (by omega) a4 a5 a1 a2
      · have h9 := l_m_pt4 w v snd B Y S1 d M0 Q x1 x2 hL0 hP0 h48 S' M' a1 a2 0 v5' a5 (hF M' a1) (fun hg => hT M' S' a1 a2 ⟨fun i j b a1 a2 a3 a4 => q3 i j a1 a2 (by omega) a3 b a4, hg⟩) Y.length 0 (by omega) (fun k hk => by omega)
        rw [q1, hX11_parts_9]
        simp +decide only [qX11_parts_0, qX11_parts_1, qX11_parts_2, jk_w a5, jk_w a4, am_w1_i, am_w1_r, am_w1_x, am_w1_l, am_w1_w, va_rf_s, am_push_n, am_push_s, am_cs_0, am_cs_i, am_cs_l, am_cs_r, m_uI_K, m_uI_N, m_uI_R, m_uI_L, m_uI_I, m_uL_K, m_uL_N, m_uL_R, m_uL_I, m_uL_L, m_uR_K, m_uR_N, m_uR_I, m_uR_L, m_uR_R, true_and, and_true, true_implies, false_implies, not_true_eq_false, not_false_eq_true, if_true, if_false, false_and, and_false] at h9 ⊢
        exact h9) Y.length 0 (by omega) M S 0 v5 hv5 hM hI (Or.inr ⟨rfl, fun i hi => rfl, fun i' j' b1 b2 b3 => by omega⟩)
    rw [hX11_parts_9]
    simp +decide only [qX11_parts_0, qX11_parts_1, qX11_parts_2, jk_w hv4, jk_w hv5, am_w1_i, am_w1_r, am_w1_x, am_w1_l, am_w1_w, va_rf_s, am_push_n, am_push_s, am_cs_0, am_cs_i, am_cs_l, am_cs_r, m_uI_K, m_uI_N, m_uI_R, m_uI_L, m_uI_I, m_uL_K, m_uL_N, m_uL_R, m_uL_I, m_uL_L, m_uR_K, m_uR_N, m_uR_I, m_uR_L, m_uR_R, true_and, and_true, true_implies, false_implies, not_true_eq_false, not_false_eq_true, if_true, if_false, false_and, and_false] at h0 ⊢
    exact h0
end
theorem m_parts (d : Nat) (w : Nat → Prop) (v : Nat) (snd : Nat → Bool → Prop) (B : List Fct) (Y : List Sy) (S0 : Nat → Option Bool) (f : Nat) (b : Bool) (M : am_M) (Q : Option Value → am_M → Prop) (hL : Lay M) (hP : PrM w v snd B Y M Y.length) (h48 : Y.length ≤ 48) (hself : ∀ y, y ∈ Y → gowY w v y y) (hf : f < Y.length) (hS : SeM M Y.length S0) (h0 : S0 f = none)
    (hF : ∀ M', gF s328 nT M M' → (∀ c, colV Y.length (KY w v Y) (gY w v snd B Y) c → colX Y.length S0 c → ¬ c f = b) → Q (some (.int 0)) M')
    (hT : ∀ M' S, gF s328 nT M M' → SeM M' Y.length S → colC Y.length (KY w v Y) (gY w v snd B Y) S → (∀ i b', S0 i = some b' → S i = some b') → S f = some b → ((∀ i j, i < Y.length → j < Y.length → ¬ KY w v Y i j) → ∀ i, i < Y.length → ¬ i = f → S i = S0 i) → Q (some (.int 1)) M') : am_E am_P0 d 261 [.ref 277, .int (nI f), .int (sI (some b))] M Q := by
  obtain ⟨S1, hS1⟩ : ∃ S1 : Nat → Option Bool, S1 = fun i => if i = f then some b else S0 i := ⟨_, rfl⟩
  have e1 : S1 f = some b := by rw [hS1]; exact if_pos rfl
  have e2 : ∀ i, ¬ i = f → S1 i = S0 i := fun i hi => by rw [hS1]; exact if_neg hi
  have w1 : gF s328 nT M (uI M 328 f (sI (some b))) := gF_i _ rfl
  have hx : ∀ c, colX Y.length S0 c → c f = b → colX Y.length S1 c := fun c hc hb i b' hi hb' => by
    by_cases e : i = f
    · rw [e, e1] at hb'; cases hb'; rw [e]; exact hb
    · rw [e2 i e] at hb'; exact hc i b' hi hb'
  have h9 := l_m_pt1 w v snd B Y S1 d M Q (nI f) (sI (some b)) hL hP h48 hself (fun M' g' q => hF M' g' (fun c hc hc2 hb => q c hc (hx c hc2 hb))) (fun M' S g' hI hC => hT M' S g' hI.1 hC (fun i b' hb' => hI.2.1 i b' (by
      by_cases e : i = f
      · rw [e, h0] at hb'; cases hb'
      · rw [e2 i e]; exact hb')) (hI.2.1 f b e1) (fun hno i hi hne => by rw [hI.2.2.2 hno i hi, e2 i hne])) (Y.length + 1) (uI M 328 f (sI (some b))) S1 am_x am_x (by omega) (Or.inl rfl) (Or.inl rfl) w1 ⟨fun k hk => by
      rw [m_uI_I]
      by_cases e : k = f
      · rw [if_pos ⟨rfl, e⟩, e, e1]
      · rw [if_neg (by omega), e2 k e]; exact hS k hk, fun i b' hb' => hb', fun c _ hc => hc, fun _ i _ => rfl⟩
  rw [eX11_parts]
  simp +decide (disch := omega) only [qX11_parts_0, qX11_parts_1, qX11_parts_2, lm hL, ni_in_t, ni_tn, am_w1_i, am_w1_r, am_w1_x, am_w1_l, am_w1_w, va_rf_s, am_push_n, am_push_s, am_cs_0, am_cs_i, am_cs_l, am_cs_r, m_uI_K, m_uI_N, m_uI_R, m_uI_L, m_uI_I, m_uL_K, m_uL_N, m_uL_R, m_uL_I, m_uL_L, m_uR_K, m_uR_N, m_uR_I, m_uR_L, m_uR_R, true_and, and_true, true_implies, false_implies, not_true_eq_false, not_false_eq_true, if_true, if_false, false_and, and_false]
  exact h9
