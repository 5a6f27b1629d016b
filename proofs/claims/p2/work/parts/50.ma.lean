/-! ways over water on the 16 by 16 board -/
def nbr (p q : Nat) : Prop := (q = p + 1 ∧ ¬ p % 16 = 15) ∨ (p = q + 1 ∧ ¬ q % 16 = 15) ∨ q = p + 16 ∨ p = q + 16
theorem nbr_symm {p q : Nat} (h : nbr p q) : nbr q p := by
  unfold nbr at *
  omega
/-- what lies within k steps of p, all on water -/
def ball (w : Nat → Prop) (p : Nat) : Nat → Nat → Prop
  | 0, q => q = p ∧ w p
  | k + 1, q => ball w p k q ∨ (w q ∧ ∃ r, ball w p k r ∧ nbr r q)
theorem ball_0 {w : Nat → Prop} {p : Nat} (h : w p) : ball w p 0 p := ⟨rfl, h⟩
theorem ball_up {w : Nat → Prop} {p k q : Nat} (h : ball w p k q) : ball w p (k + 1) q := Or.inl h
theorem ball_mono {w : Nat → Prop} {p k m q : Nat} (h : ball w p k q) (hm : k ≤ m) : ball w p m q := by
  induction m with
  | zero => have e : k = 0 := by omega
            subst e; exact h
  | succ m ih =>
    by_cases e : k = m + 1
    · subst e; exact h
    · exact Or.inl (ih (by omega))
theorem ball_w {w : Nat → Prop} {p k q : Nat} (h : ball w p k q) : w p ∧ w q := by
  induction k generalizing q with
  | zero => exact ⟨h.2, by rw [h.1]; exact h.2⟩
  | succ k ih =>
    rcases h with h | ⟨h1, r, h2, -⟩
    · exact ih h
    · exact ⟨(ih h2).1, h1⟩
theorem ball_comp {w : Nat → Prop} {p q r j k : Nat} (h1 : ball w p j q) (h2 : ball w q k r) : ball w p (j + k) r := by
  induction k generalizing r with
  | zero => rw [h2.1]; exact h1
  | succ k ih =>
    rcases h2 with h | ⟨hw, t, ht, hn⟩
    · exact Or.inl (ih h)
    · exact Or.inr ⟨hw, t, ih ht, hn⟩
theorem ball_symm {w : Nat → Prop} {p q k : Nat} (h : ball w p k q) : ball w q k p := by
  induction k generalizing q with
  | zero => obtain ⟨e, hw⟩ := h; subst e; exact ⟨rfl, hw⟩
  | succ k ih =>
    rcases h with h | ⟨hw, t, ht, hn⟩
    · exact Or.inl (ih h)
    · have h1 : ball w q 1 t := Or.inr ⟨(ball_w ht).2, q, ⟨rfl, hw⟩, nbr_symm hn⟩
      have := ball_comp h1 (ih ht)
      rw [Nat.add_comm] at this
      exact this
theorem ball_iff {w : Nat → Prop} {p q k : Nat} : ball w p k q ↔ ball w q k p := ⟨ball_symm, ball_symm⟩
/-- if a step brings nothing new, no more steps do -/
theorem ball_stop {w : Nat → Prop} {p k : Nat} (h : ∀ q, ball w p (k + 1) q → ball w p k q) : ∀ m, k ≤ m → ∀ q, ball w p m q → ball w p k q := by
  intro m
  induction m with
  | zero => intro hm q hq; exact ball_mono hq (by omega)
  | succ m ih =>
    intro hm q hq
    by_cases e : k = m + 1
    · subst e; exact hq
    · rcases hq with hq | ⟨hw, t, ht, hn⟩
      · exact ih (by omega) q hq
      · exact h q (Or.inr ⟨hw, t, ih (by omega) t ht, hn⟩)
theorem ball_ext {w w' : Nat → Prop} (h : ∀ q, w q ↔ w' q) (p k q : Nat) : ball w p k q ↔ ball w' p k q := by
  have e : w = w' := funext fun q => propext (h q)
  rw [e]
/-- within so many hours at speed v -/
def wit (w : Nat → Prop) (v p q h : Nat) : Prop := ball w p (h * v) q
theorem wit_symm {w : Nat → Prop} {v p q h : Nat} (a : wit w v p q h) : wit w v q p h := ball_symm a
theorem wit_comp {w : Nat → Prop} {v p q r h k : Nat} (a : wit w v p q h) (b : wit w v q r k) : wit w v p r (h + k) := by
  have := ball_comp a b
  unfold wit
  rw [Nat.add_mul]
  exact this
theorem wit_mono {w : Nat → Prop} {v p q h k : Nat} (a : wit w v p q h) (b : h ≤ k) : wit w v p q k := ball_mono a (Nat.mul_le_mul_right v b)
theorem wit_0 {w : Nat → Prop} {v p q : Nat} : wit w v p q 0 ↔ q = p ∧ w p := by
  unfold wit
  rw [Nat.zero_mul]
  exact Iff.rfl
/-! how many hold below k; the place of the i-th -/
def cnt (g : Nat → Bool) : Nat → Nat
  | 0 => 0
  | k + 1 => cnt g k + (if g k = true then 1 else 0)
theorem cnt_s (g : Nat → Bool) (k : Nat) : cnt g (k + 1) = cnt g k + (if g k = true then 1 else 0) := rfl
theorem cnt_t {g : Nat → Bool} {k : Nat} (h : g k = true) : cnt g (k + 1) = cnt g k + 1 := by rw [cnt_s, if_pos h]
theorem cnt_f {g : Nat → Bool} {k : Nat} (h : ¬ g k = true) : cnt g (k + 1) = cnt g k := by rw [cnt_s, if_neg h]; rfl
theorem cnt_le (g : Nat → Bool) (k : Nat) : cnt g k ≤ k := by
  induction k with
  | zero => exact Nat.le_refl _
  | succ k ih => rw [cnt_s]; split <;> omega
theorem cnt_mono (g : Nat → Bool) {j k : Nat} (h : j ≤ k) : cnt g j ≤ cnt g k := by
  induction k with
  | zero => have e : j = 0 := by omega
            subst e; exact Nat.le_refl _
  | succ k ih =>
    by_cases e : j = k + 1
    · subst e; exact Nat.le_refl _
    · have := ih (by omega)
      rw [cnt_s]; omega
theorem cnt_lt {g : Nat → Bool} {j k : Nat} (h : j < k) (hg : g j = true) : cnt g j < cnt g k := by
  have := cnt_mono g (j := j + 1) (k := k) h
  rw [cnt_t hg] at this
  omega
theorem cnt_inj {g : Nat → Bool} {j k : Nat} (hj : g j = true) (hk : g k = true) (h : cnt g j = cnt g k) : j = k := by
  rcases Nat.lt_trichotomy j k with q | q | q
  · have := cnt_lt q hj; omega
  · exact q
  · have := cnt_lt q hk; omega
theorem cnt_surj {g : Nat → Bool} {i n : Nat} (h : i < cnt g n) : ∃ t, t < n ∧ g t = true ∧ cnt g t = i := by
  induction n with
  | zero => cases h
  | succ n ih =>
    by_cases hg : g n = true
    · rw [cnt_t hg] at h
      by_cases e : i = cnt g n
      · exact ⟨n, by omega, hg, e.symm⟩
      · obtain ⟨t, h1, h2, h3⟩ := ih (by omega)
        exact ⟨t, by omega, h2, h3⟩
    · rw [cnt_f hg] at h
      obtain ⟨t, h1, h2, h3⟩ := ih h
      exact ⟨t, by omega, h2, h3⟩
theorem cnt_ext {g g' : Nat → Bool} {n : Nat} (h : ∀ t, t < n → g t = g' t) : cnt g n = cnt g' n := by
  induction n with
  | zero => rfl
  | succ n ih => rw [cnt_s, cnt_s, ih (fun t ht => h t (by omega)), h n (by omega)]
theorem cnt_set {g g' : Nat → Bool} {a : Nat} (h : ∀ t, ¬ t = a → g' t = g t) (h0 : ¬ g a = true) (h1 : g' a = true) : ∀ n, cnt g' n = if a < n then cnt g n + 1 else cnt g n := by
  intro n
  induction n with
  | zero => rfl
  | succ n ih =>
    rw [cnt_s, cnt_s, ih]
    by_cases e : n = a
    · subst e
      simp only [h1, if_true, h0]
      rw [if_neg (by omega), if_pos (by omega)]
      simp
    · rw [h n e]
      by_cases l : a < n
      · have l2 : a < n + 1 := by omega
        simp only [l, l2, if_true]; omega
      · have l2 : ¬ a < n + 1 := by omega
        simp only [l, l2, if_false]
theorem cnt_clr {g g' : Nat → Bool} {a : Nat} (h : ∀ t, ¬ t = a → g' t = g t) (h0 : g a = true) (h1 : ¬ g' a = true) : ∀ n, cnt g' n = if a < n then cnt g n - 1 else cnt g n := by
  intro n
  have := cnt_set (g := g') (g' := g) (a := a) (fun t ht => (h t ht).symm) h1 h0 n
  rw [this]
  split <;> omega
theorem cnt_0 {g : Nat → Bool} (h : ∀ t, ¬ g t = true) (n : Nat) : cnt g n = 0 := by
  induction n with
  | zero => rfl
  | succ n ih => rw [cnt_f (h n), ih]
theorem cnt_pos {g : Nat → Bool} {n : Nat} : 0 < cnt g n ↔ ∃ t, t < n ∧ g t = true := by
  constructor
  · intro h
    obtain ⟨t, h1, h2, -⟩ := cnt_surj h
    exact ⟨t, h1, h2⟩
  · rintro ⟨t, h1, h2⟩
    have := cnt_lt h1 h2
    omega
/-! a search in breadth -/
/-- what is known after some steps: how far each place is, the queue, how long it is -/
abbrev Bf := (Nat → Option Nat) × (Nat → Nat) × Nat
/-- the place d is come to in t steps, if it is water and new -/
noncomputable def rch (w : Nat → Prop) (t : Nat) (σ : Bf) (d : Nat) : Bf :=
  @ite _ (w d ∧ σ.1 d = none) (Classical.propDecidable _) ((fun c => if c = d then some t else σ.1 c), (fun j => if j = σ.2.2 then d else σ.2.1 j), σ.2.2 + 1) σ
theorem rch_p {w : Nat → Prop} {t : Nat} {σ : Bf} {d : Nat} (h : w d ∧ σ.1 d = none) : rch w t σ d = ((fun c => if c = d then some t else σ.1 c), (fun j => if j = σ.2.2 then d else σ.2.1 j), σ.2.2 + 1) := if_pos h
theorem rch_n {w : Nat → Prop} {t : Nat} {σ : Bf} {d : Nat} (h : ¬ (w d ∧ σ.1 d = none)) : rch w t σ d = σ := if_neg h
/-- while the k-th of the queue is looked at, t steps away -/
def bfJ (w : Nat → Prop) (p k t : Nat) (σ : Bf) : Prop :=
  (∀ c u, σ.1 c = some u → ball w p u c) ∧ (∀ c u, σ.1 c = some u → ∃ j, j < σ.2.2 ∧ σ.2.1 j = c) ∧
  (∀ j, j < σ.2.2 → ∃ u, σ.1 (σ.2.1 j) = some u ∧ u ≤ t + 1 ∧ (k ≤ j → t ≤ u)) ∧
  (∀ i j u v, i ≤ j → j < σ.2.2 → σ.1 (σ.2.1 i) = some u → σ.1 (σ.2.1 j) = some v → u ≤ v) ∧
  (∀ i u d, i < k → σ.1 (σ.2.1 i) = some u → nbr (σ.2.1 i) d → w d → ∃ v, σ.1 d = some v ∧ v ≤ u + 1) ∧
  k < σ.2.2 ∧ σ.1 (σ.2.1 k) = some t
theorem bfJ_rch {w : Nat → Prop} {p k t : Nat} {σ : Bf} {d : Nat} (h : bfJ w p k t σ) (hn : nbr (σ.2.1 k) d) : bfJ w p k t (rch w (t + 1) σ d) ∧ (rch w (t + 1) σ d).2.1 k = σ.2.1 k ∧ (∀ c u, σ.1 c = some u → (rch w (t + 1) σ d).1 c = some u) ∧ (w d → ∃ v, (rch w (t + 1) σ d).1 d = some v ∧ v ≤ t + 1) := by
  obtain ⟨h1, h2, h3, h4, h5, h6, h7⟩ := h
  by_cases hc : w d ∧ σ.1 d = none
  · rw [rch_p hc]
    have keep : ∀ c u, σ.1 c = some u → (if c = d then some (t + 1) else σ.1 c) = some u := by
      intro c u hu
      rw [if_neg (fun e => by rw [e, hc.2] at hu; cases hu)]
      exact hu
    have qk : ∀ j, j < σ.2.2 → (if j = σ.2.2 then d else σ.2.1 j) = σ.2.1 j := fun j hj => if_neg (by omega)
    have qn : (if σ.2.2 = σ.2.2 then d else σ.2.1 σ.2.2) = d := if_pos rfl
    refine ⟨⟨?_, ?_, ?_, ?_, ?_, ?_, ?_⟩, qk k h6, keep, fun _ => ⟨t + 1, if_pos rfl, Nat.le_refl _⟩⟩
    · intro c u hu
      dsimp only at hu
      by_cases e : c = d
      · rw [if_pos e] at hu
        cases hu
        subst e
        exact Or.inr ⟨hc.1, σ.2.1 k, h1 _ _ h7, hn⟩
      · rw [if_neg e] at hu
        exact h1 c u hu
    · intro c u hu
      dsimp only at hu ⊢
      by_cases e : c = d
      · exact ⟨σ.2.2, by omega, by rw [qn, e]⟩
      · rw [if_neg e] at hu
        obtain ⟨j, hj, hq⟩ := h2 c u hu
        exact ⟨j, by omega, by rw [qk j hj]; exact hq⟩
    · intro j hj
      dsimp only at hj ⊢
      by_cases e : j = σ.2.2
      · subst e
        rw [qn, if_pos rfl]
        exact ⟨t + 1, rfl, Nat.le_refl _, fun _ => by omega⟩
      · rw [qk j (by omega)]
        obtain ⟨u, hu, hu2, hu3⟩ := h3 j (by omega)
        exact ⟨u, keep _ _ hu, hu2, hu3⟩
    · intro i j u v hij hj hu hv
      dsimp only at hj hu hv
      by_cases ej : j = σ.2.2
      · subst ej
        rw [qn, if_pos rfl] at hv
        cases hv
        by_cases ei : i = σ.2.2
        · subst ei
          rw [qn, if_pos rfl] at hu
          cases hu
          exact Nat.le_refl _
        · rw [qk i (by omega)] at hu
          obtain ⟨u', hu', hu2, -⟩ := h3 i (by omega)
          rw [keep _ _ hu'] at hu
          cases hu
          exact hu2
      · rw [qk j (by omega)] at hv
        rw [qk i (by omega)] at hu
        obtain ⟨u', hu', -⟩ := h3 i (by omega)
        obtain ⟨v', hv', -⟩ := h3 j (by omega)
        rw [keep _ _ hu'] at hu
        rw [keep _ _ hv'] at hv
        cases hu
        cases hv
        exact h4 i j u v hij (by omega) hu' hv'
    · intro i u e hi hu hne hwe
      dsimp only at hu hne ⊢
      rw [qk i (by omega)] at hu hne
      obtain ⟨u', hu', -⟩ := h3 i (by omega)
      rw [keep _ _ hu'] at hu
      cases hu
      obtain ⟨v, hv, hv2⟩ := h5 i u e hi hu' hne hwe
      exact ⟨v, keep _ _ hv, hv2⟩
    · show k < σ.2.2 + 1
      omega
    · dsimp only
      rw [qk k h6]
      exact keep _ _ h7
  · rw [rch_n hc]
    refine ⟨⟨h1, h2, h3, h4, h5, h6, h7⟩, rfl, fun _ _ h => h, fun hw => ?_⟩
    cases hd : σ.1 d with
    | none => exact absurd ⟨hw, hd⟩ hc
    | some v =>
      obtain ⟨j, hj, hq⟩ := h2 d v hd
      obtain ⟨u, hu, hu2, -⟩ := h3 j hj
      rw [hq, hd] at hu
      cases hu
      exact ⟨v, rfl, hu2⟩
/-- between two of the queue -/
def bfI (w : Nat → Prop) (p k : Nat) (σ : Bf) : Prop := (k < σ.2.2 ∧ ∃ t, bfJ w p k t σ) ∨ (k = σ.2.2 ∧ (∀ c u, σ.1 c = some u → ball w p u c) ∧ ∀ c u d, σ.1 c = some u → nbr c d → w d → ∃ v, σ.1 d = some v ∧ v ≤ u + 1)
theorem bfI_next {w : Nat → Prop} {p k t : Nat} {σ : Bf} (h : bfJ w p k t σ) (hd : ∀ d, nbr (σ.2.1 k) d → w d → ∃ v, σ.1 d = some v ∧ v ≤ t + 1) : bfI w p (k + 1) σ := by
  obtain ⟨h1, h2, h3, h4, h5, h6, h7⟩ := h
  have cl : ∀ i u d, i < k + 1 → σ.1 (σ.2.1 i) = some u → nbr (σ.2.1 i) d → w d → ∃ v, σ.1 d = some v ∧ v ≤ u + 1 := by
    intro i u d hi hu hn hw
    by_cases e : i = k
    · subst e
      rw [h7] at hu
      cases hu
      exact hd d hn hw
    · exact h5 i u d (by omega) hu hn hw
  by_cases e : k + 1 < σ.2.2
  · obtain ⟨u, hu, hu2, hu3⟩ := h3 (k + 1) e
    refine Or.inl ⟨e, u, h1, h2, fun j hj => ?_, h4, cl, e, hu⟩
    obtain ⟨v, hv, hv2, -⟩ := h3 j hj
    have := hu3 (by omega)
    exact ⟨v, hv, by omega, fun hkj => h4 (k + 1) j u v hkj hj hu hv⟩
  · refine Or.inr ⟨by omega, h1, fun c u d hu hn hw => ?_⟩
    obtain ⟨j, hj, hq⟩ := h2 c u hu
    rw [← hq] at hu hn
    exact cl j u d (by omega) hu hn hw
/-- at the end all distances are known -/
theorem bf_end {w : Nat → Prop} {p : Nat} {σ : Bf} (h : bfI w p σ.2.2 σ) (hp : w p → σ.1 p = some 0) : ∀ c k, ball w p k c ↔ ∃ u, σ.1 c = some u ∧ u ≤ k := by
  rcases h with h | ⟨-, h1, h2⟩
  · omega
  intro c k
  constructor
  · intro hb
    induction k generalizing c with
    | zero => obtain ⟨e, hw⟩ := hb; subst e; exact ⟨0, hp hw, Nat.le_refl _⟩
    | succ k ih =>
      rcases hb with hb | ⟨hw, r, hr, hn⟩
      · obtain ⟨u, hu, hk⟩ := ih c hb
        exact ⟨u, hu, by omega⟩
      · obtain ⟨u, hu, hk⟩ := ih r hr
        obtain ⟨v, hv, hv2⟩ := h2 r u c hu hn hw
        exact ⟨v, hv, by omega⟩
  · rintro ⟨u, hu, hk⟩
    exact ball_mono (h1 c u hu) hk
/-- the beginning -/
def bf0 : Bf := (fun _ => none, fun _ => 0, 0)
theorem bf_start {w : Nat → Prop} {p : Nat} : bfI w p 0 (rch w 0 bf0 p) ∧ (w p → (rch w 0 bf0 p).1 p = some 0) := by
  by_cases h : w p
  · have e : rch w 0 bf0 p = ((fun c => if c = p then some 0 else none), (fun j => if j = 0 then p else 0), 1) := rch_p ⟨h, rfl⟩
    rw [e]
    refine ⟨Or.inl ⟨Nat.one_pos, 0, ?_, ?_, ?_, ?_, ?_, Nat.one_pos, by simp⟩, fun _ => if_pos rfl⟩
    · intro c u hu
      dsimp only at hu
      split at hu
      · cases hu; rename_i hc; exact ⟨hc, h⟩
      · cases hu
    · intro c u hu
      dsimp only at hu
      split at hu
      · rename_i hc; exact ⟨0, Nat.one_pos, hc.symm⟩
      · cases hu
    · intro j hj
      have e : j = 0 := Nat.lt_one_iff.mp hj
      subst e
      exact ⟨0, by simp, by omega, fun _ => Nat.le_refl _⟩
    · intro i j u v hij hj hu hv
      have hj' : j < 1 := hj
      have e1 : j = 0 := by omega
      have e2 : i = 0 := by omega
      subst e1; subst e2
      rw [hu] at hv
      cases hv
      exact Nat.le_refl _
    · intro i u d hi
      omega
  · have e : rch w 0 bf0 p = bf0 := rch_n (fun q => h q.1)
    rw [e]
    exact ⟨Or.inr ⟨rfl, fun c u hu => (by cases hu), fun c u d hu => (by cases hu)⟩, fun hw => absurd hw h⟩
/-! sets of places as bits of longs -/
def sbit (x : Int64) (i : Nat) : Bool := x.toBitVec.getLsbD i
theorem sb_or (x y : Int64) (i : Nat) : sbit (x ||| y) i = (sbit x i || sbit y i) := by
  unfold sbit
  rw [Int64.toBitVec_or, BitVec.getLsbD_or]
theorem sb_and (x y : Int64) (i : Nat) : sbit (x &&& y) i = (sbit x i && sbit y i) := by
  unfold sbit
  rw [Int64.toBitVec_and, BitVec.getLsbD_and]
theorem sb_0 (i : Nat) : sbit 0 i = false := by
  unfold sbit
  show (0#64).getLsbD i = false
  simp
theorem sb_ge (x : Int64) {i : Nat} (h : 64 ≤ i) : sbit x i = false := BitVec.getLsbD_of_ge _ _ h
theorem sb_ext {x y : Int64} (h : ∀ i, i < 64 → sbit x i = sbit y i) : x = y := by
  apply Int64.toBitVec_inj.mp
  exact BitVec.eq_of_getLsbD_eq (fun i hi => h i hi)
theorem sb_shl (x : Int64) {y : Int64} {k : Nat} (hy : y.toBitVec.smod 64 = BitVec.ofNat 64 k) (hk : k < 64) (i : Nat) : sbit (x <<< y) i = (decide (i < 64) && (!decide (i < k) && sbit x (i - k))) := by
  unfold sbit
  rw [Int64.toBitVec_shiftLeft, hy]
  show (x.toBitVec <<< (BitVec.ofNat 64 k).toNat).getLsbD i = _
  rw [BitVec.toNat_ofNat, Nat.mod_eq_of_lt (by omega), BitVec.getLsbD_shiftLeft]
  rw [Bool.and_assoc]
theorem sb_shr (x : Int64) {y : UInt64} {k : Nat} (hy : y.toNat % 64 = k) (i : Nat) : sbit (x.toUInt64 >>> y).toInt64 i = sbit x (k + i) := by
  unfold sbit
  show (x.toUInt64 >>> y).toBitVec.getLsbD i = _
  rw [UInt64.toBitVec_shiftRight]
  show (x.toUInt64.toBitVec >>> (y.toBitVec % 64#64).toNat).getLsbD i = _
  rw [BitVec.getLsbD_ushiftRight]
  have e : (y.toBitVec % 64#64).toNat = k := by
    rw [BitVec.toNat_umod]
    exact hy
  rw [e]
  rfl
theorem sb_one {i : Nat} : sbit 1 i = decide (i = 0) := by
  unfold sbit
  show (1#64).getLsbD i = _
  rw [BitVec.getLsbD_one]
  simp
theorem sb_bit0 (x : Int64) : x &&& 1 = 0 ↔ sbit x 0 = false := by
  constructor
  · intro h
    have := sb_and x 1 0
    rw [h, sb_0, sb_one] at this
    simpa using this.symm
  · intro h
    apply sb_ext
    intro i hi
    rw [sb_and, sb_0, sb_one]
    by_cases e : i = 0
    · subst e; rw [h]; rfl
    · simp [e]
/-- is p in the set -/
def inS (f : Nat → Int64) (p : Nat) : Prop := p < 256 ∧ sbit (f (p / 64)) (p % 64) = true
/-- one word of a set, a step wider -/
def widL (o ab be wt : Int64) : Int64 :=
  (((o ||| ((o <<< ((1 : Int32).toInt64 &&& 63) &&& (-281479271743490 : Int64)) ||| ((o.toUInt64 >>> ((1 : Int32).toInt64 &&& 63).toUInt64).toInt64 &&& (9223231297218904063 : Int64)))) ||| (o <<< ((16 : Int32).toInt64 &&& 63) ||| (ab.toUInt64 >>> ((48 : Int32).toInt64 &&& 63).toUInt64).toInt64)) ||| ((o.toUInt64 >>> ((16 : Int32).toInt64 &&& 63).toUInt64).toInt64 ||| be <<< ((48 : Int32).toInt64 &&& 63))) &&& wt
theorem sb_NF : ∀ i, i < 64 → sbit (-281479271743490 : Int64) i = !decide (i % 16 = 0) := by decide
theorem sb_NL : ∀ i, i < 64 → sbit (9223231297218904063 : Int64) i = !decide (i % 16 = 15) := by decide
theorem widL_bit (o ab be wt : Int64) {i : Nat} (hi : i < 64) : sbit (widL o ab be wt) i = ((sbit o i || (!decide (i < 1) && sbit o (i - 1) && !decide (i % 16 = 0) || sbit o (1 + i) && !decide (i % 16 = 15)) || (!decide (i < 16) && sbit o (i - 16) || sbit ab (48 + i)) || (sbit o (16 + i) || !decide (i < 48) && sbit be (i - 48))) && sbit wt i) := by
  unfold widL
  rw [sb_and, sb_or, sb_or, sb_or, sb_or, sb_or, sb_or, sb_and, sb_and, sb_NF i hi, sb_NL i hi]
  rw [sb_shl (k := 1) o (by decide) (by decide), sb_shl (k := 16) o (by decide) (by decide), sb_shl (k := 48) be (by decide) (by decide)]
  rw [sb_shr (k := 1) o (by decide), sb_shr (k := 48) ab (by decide), sb_shr (k := 16) o (by decide)]
  simp only [decide_eq_true hi, Bool.true_and]
/-- a set, a step wider -/
def widS (f wt : Nat → Int64) (w : Nat) : Int64 := widL (f w) (if w = 0 then 0 else f (w - 1)) (if w + 1 < 4 then f (w + 1) else 0) (wt w)
theorem widS_in (f wt : Nat → Int64) (p : Nat) : inS (widS f wt) p ↔ inS wt p ∧ (inS f p ∨ ∃ r, inS f r ∧ nbr r p) := by
  by_cases hp : p < 256
  case neg => exact ⟨fun h => absurd h.1 hp, fun h => absurd h.1.1 hp⟩
  have hi : p % 64 < 64 := Nat.mod_lt _ (by omega)
  have key : sbit (widS f wt (p / 64)) (p % 64) = true ↔ sbit (wt (p / 64)) (p % 64) = true ∧ (inS f p ∨ ∃ r, inS f r ∧ nbr r p) := by
    unfold widS
    rw [widL_bit _ _ _ _ hi]
    simp only [Bool.and_eq_true, Bool.or_eq_true, Bool.not_eq_true', decide_eq_false_iff_not]
    constructor
    · rintro ⟨h, hw⟩
      refine ⟨hw, ?_⟩
      rcases h with ((h | h | h) | h | h) | h | h
      · exact Or.inl ⟨hp, h⟩
      · refine Or.inr ⟨p - 1, ⟨by omega, ?_⟩, by unfold nbr; omega⟩
        rw [show (p - 1) / 64 = p / 64 by omega, show (p - 1) % 64 = p % 64 - 1 by omega]
        exact h.1.2
      · refine Or.inr ⟨p + 1, ⟨by omega, ?_⟩, by unfold nbr; omega⟩
        rw [show (p + 1) / 64 = p / 64 by omega, show (p + 1) % 64 = 1 + p % 64 by omega]
        exact h.1
      · refine Or.inr ⟨p - 16, ⟨by omega, ?_⟩, by unfold nbr; omega⟩
        rw [show (p - 16) / 64 = p / 64 by omega, show (p - 16) % 64 = p % 64 - 16 by omega]
        exact h.2
      · by_cases hz : p / 64 = 0
        · rw [if_pos hz, sb_0] at h; cases h
        · rw [if_neg hz] at h
          by_cases hl : p % 64 < 16
          · refine Or.inr ⟨p - 16, ⟨by omega, ?_⟩, by unfold nbr; omega⟩
            rw [show (p - 16) / 64 = p / 64 - 1 by omega, show (p - 16) % 64 = 48 + p % 64 by omega]
            exact h
          · rw [sb_ge _ (by omega)] at h; cases h
      · by_cases hl : p % 64 < 48
        · refine Or.inr ⟨p + 16, ⟨by omega, ?_⟩, by unfold nbr; omega⟩
          rw [show (p + 16) / 64 = p / 64 by omega, show (p + 16) % 64 = 16 + p % 64 by omega]
          exact h
        · rw [sb_ge _ (by omega)] at h; cases h
      · by_cases hz : p / 64 + 1 < 4
        · rw [if_pos hz] at h
          refine Or.inr ⟨p + 16, ⟨by omega, ?_⟩, by unfold nbr; omega⟩
          rw [show (p + 16) / 64 = p / 64 + 1 by omega, show (p + 16) % 64 = p % 64 - 48 by omega]
          exact h.2
        · rw [if_neg hz, sb_0] at h; cases h.2
    · rintro ⟨hw, h⟩
      refine ⟨?_, hw⟩
      rcases h with h | ⟨r, ⟨hr, h⟩, hn⟩
      · exact Or.inl (Or.inl (Or.inl h.2))
      · rcases hn with ⟨e, hc⟩ | ⟨e, hc⟩ | e | e
        · subst e
          rw [show r / 64 = (r + 1) / 64 by omega, show r % 64 = (r + 1) % 64 - 1 by omega] at h
          exact Or.inl (Or.inl (Or.inr (Or.inl ⟨⟨by omega, h⟩, by omega⟩)))
        · subst e
          rw [show (p + 1) / 64 = p / 64 by omega, show (p + 1) % 64 = 1 + p % 64 by omega] at h
          exact Or.inl (Or.inl (Or.inr (Or.inr ⟨h, by omega⟩)))
        · subst e
          by_cases hl : (r + 16) % 64 < 16
          · rw [show r / 64 = (r + 16) / 64 - 1 by omega, show r % 64 = 48 + (r + 16) % 64 by omega] at h
            refine Or.inl (Or.inr (Or.inr ?_))
            rw [if_neg (by omega)]
            exact h
          · rw [show r / 64 = (r + 16) / 64 by omega, show r % 64 = (r + 16) % 64 - 16 by omega] at h
            exact Or.inl (Or.inr (Or.inl ⟨hl, h⟩))
        · subst e
          by_cases hl : p % 64 < 48
          · rw [show (p + 16) / 64 = p / 64 by omega, show (p + 16) % 64 = 16 + p % 64 by omega] at h
            exact Or.inr (Or.inl h)
          · rw [show (p + 16) / 64 = p / 64 + 1 by omega, show (p + 16) % 64 = p % 64 - 48 by omega] at h
            refine Or.inr (Or.inr ⟨hl, ?_⟩)
            rw [if_pos (by omega)]
            exact h
  unfold inS at key ⊢
  constructor
  · intro h
    have := key.mp h.2
    exact ⟨⟨hp, this.1⟩, this.2⟩
  · intro h
    exact ⟨hp, key.mpr ⟨h.1.2, h.2⟩⟩
/-- nothing grows where every word stays -/
theorem inS_ext {f g : Nat → Int64} (h : ∀ w, w < 4 → f w = g w) (p : Nat) : inS f p ↔ inS g p := by
  unfold inS
  constructor
  · rintro ⟨a, b⟩; exact ⟨a, by rw [← h _ (by omega)]; exact b⟩
  · rintro ⟨a, b⟩; exact ⟨a, by rw [h _ (by omega)]; exact b⟩
theorem inS_eq {f g : Nat → Int64} (h : ∀ p, inS f p ↔ inS g p) : ∀ w, w < 4 → f w = g w := by
  intro w hw
  apply sb_ext
  intro i hi
  have h1 := h (64 * w + i)
  unfold inS at h1
  rw [show (64 * w + i) / 64 = w by omega, show (64 * w + i) % 64 = i by omega] at h1
  have hl : 64 * w + i < 256 := by omega
  have h2 : sbit (f w) i = true ↔ sbit (g w) i = true := ⟨fun q => (h1.mp ⟨hl, q⟩).2, fun q => (h1.mpr ⟨hl, q⟩).2⟩
  cases hf : sbit (f w) i <;> cases hg : sbit (g w) i <;> simp_all
/-- the set of what lies within k steps -/
def isB (w : Nat → Prop) (p k : Nat) (f : Nat → Int64) : Prop := ∀ q, inS f q ↔ ball w p k q
theorem isB_wid {w : Nat → Prop} {p k : Nat} {f wt : Nat → Int64} (hw : ∀ q, inS wt q ↔ w q) (h : isB w p k f) : isB w p (k + 1) (widS f wt) := by
  intro q
  rw [widS_in, hw, h q]
  constructor
  · rintro ⟨h1, h2 | ⟨r, h2, h3⟩⟩
    · exact Or.inl h2
    · exact Or.inr ⟨h1, r, (h r).mp h2, h3⟩
  · rintro (h2 | ⟨h1, r, h2, h3⟩)
    · exact ⟨(ball_w h2).2, Or.inl h2⟩
    · exact ⟨h1, Or.inr ⟨r, (h r).mpr h2, h3⟩⟩
theorem isB_same {w : Nat → Prop} {p k : Nat} {f wt : Nat → Int64} (hw : ∀ q, inS wt q ↔ w q) (h : isB w p k f) (hs : ∀ i, i < 4 → widS f wt i = f i) : ∀ m, k ≤ m → isB w p m f := by
  intro m hm q
  have h1 : ∀ q, ball w p (k + 1) q → ball w p k q := fun q hq => by
    rw [← h q, ← inS_ext hs q]
    exact (isB_wid hw h q).mpr hq
  exact ⟨fun hq => ball_mono ((h q).mp hq) hm, fun hq => (h q).mpr (ball_stop h1 m hm q hq)⟩
/-! facts of one ship: a place from an hour to an hour -/
abbrev Fct := Nat × Nat × Nat
def btw (f t f' t' : Nat) : Nat := if t < f' then f' - t else if t' < f then f - t' else 0
/-- all go together -/
def fitP (w : Nat → Prop) (v : Nat) (F : List Fct) : Prop := ∀ a, a ∈ F → ∀ b, b ∈ F → wit w v a.1 b.1 (btw a.2.1 a.2.2 b.2.1 b.2.2)
/-- some fact has the ship at p in the hour h -/
def cov (F : List Fct) (h p : Nat) : Prop := ∃ a, a ∈ F ∧ a.1 = p ∧ a.2.1 ≤ h ∧ h ≤ a.2.2
/-- one place an hour, all on water, each goes together with the one behind it -/
def linP (w : Nat → Prop) (v : Nat) (L : Nat → Nat → Prop) : Prop :=
  (∀ h p q, L h p → L h q → p = q) ∧ (∀ h p, L h p → w p) ∧ ∀ h1 h2 p1 p2, h1 < h2 → L h1 p1 → L h2 p2 → (∀ h, h1 < h → h < h2 → ∀ p, ¬ L h p) → wit w v p1 p2 (h2 - h1)
theorem lin_all {w : Nat → Prop} {v : Nat} {L : Nat → Nat → Prop} (hL : linP w v L) : ∀ (n h1 h2 p1 p2 : Nat), h2 - h1 ≤ n → h1 ≤ h2 → L h1 p1 → L h2 p2 → wit w v p1 p2 (h2 - h1) := by
  obtain ⟨hu, hw, hc⟩ := hL
  intro n
  induction n with
  | zero =>
    intro h1 h2 p1 p2 hn hle a b
    have e : h2 = h1 := by omega
    subst e
    rw [Nat.sub_self, wit_0]
    exact ⟨hu _ _ _ b a, hw _ _ a⟩
  | succ n ih =>
    intro h1 h2 p1 p2 hn hle a b
    by_cases e : h1 = h2
    · subst e
      rw [Nat.sub_self, wit_0]
      exact ⟨hu _ _ _ b a, hw _ _ a⟩
    · have hx : ∀ m, m ≤ h2 - h1 → ∃ h' p', h1 ≤ h' ∧ h' < h2 ∧ L h' p' ∧ ∀ h, (h' < h → h < h1 + m → h < h2 → ∀ p, ¬ L h p) := by
        intro m
        induction m with
        | zero => intro _; exact ⟨h1, p1, by omega, by omega, a, fun h q1 q2 => by omega⟩
        | succ m ihm =>
          intro hm
          obtain ⟨h', p', q1, q2, q3, q4⟩ := ihm (by omega)
          by_cases hl : ∃ p, L (h1 + m) p ∧ h' < h1 + m ∧ h1 + m < h2
          · obtain ⟨p, hp, hp2, hp3⟩ := hl
            exact ⟨h1 + m, p, by omega, hp3, hp, fun h r1 r2 => by omega⟩
          · refine ⟨h', p', q1, q2, q3, fun h r1 r2 r3 p hp => ?_⟩
            by_cases e2 : h = h1 + m
            · subst e2; exact hl ⟨p, hp, r1, r3⟩
            · exact q4 h r1 (by omega) r3 p hp
      obtain ⟨h', p', q1, q2, q3, q4⟩ := hx (h2 - h1) (Nat.le_refl _)
      have s1 := ih h1 h' p1 p' (by omega) q1 a q3
      have s2 := hc h' h2 p' p2 q2 q3 b (fun h r1 r2 => q4 h r1 (by omega) r2)
      have := wit_comp s1 s2
      rw [show h' - h1 + (h2 - h') = h2 - h1 by omega] at this
      exact this
theorem fit_cov {w : Nat → Prop} {v : Nat} {F : List Fct} (h : fitP w v F) {h1 h2 p1 p2 : Nat} (hle : h1 ≤ h2) (a : cov F h1 p1) (b : cov F h2 p2) : wit w v p1 p2 (h2 - h1) := by
  obtain ⟨f, hf, rfl, f1, f2⟩ := a
  obtain ⟨g, hg, rfl, g1, g2⟩ := b
  refine wit_mono (h f hf g hg) ?_
  unfold btw
  split
  · omega
  · split <;> omega
theorem fit_lin {w : Nat → Prop} {v : Nat} {F : List Fct} (ho : ∀ a, a ∈ F → a.2.1 ≤ a.2.2) : fitP w v F ↔ linP w v (cov F) := by
  constructor
  · intro h
    refine ⟨fun t p q a b => ?_, fun t p a => ?_, fun h1 h2 p1 p2 hl a b _ => fit_cov h (by omega) a b⟩
    · have := fit_cov h (Nat.le_refl t) a b
      rw [Nat.sub_self, wit_0] at this
      exact this.1.symm
    · have := fit_cov h (Nat.le_refl t) a a
      rw [Nat.sub_self, wit_0] at this
      exact this.2
  · intro h a ha b hb
    have oa := ho a ha
    have ob := ho b hb
    unfold btw
    split
    · exact lin_all h _ a.2.2 b.2.1 a.1 b.1 (Nat.le_refl _) (by omega) ⟨a, ha, rfl, by omega, by omega⟩ ⟨b, hb, rfl, by omega, by omega⟩
    · split
      · exact wit_symm (lin_all h _ b.2.2 a.2.1 b.1 a.1 (Nat.le_refl _) (by omega) ⟨b, hb, rfl, by omega, by omega⟩ ⟨a, ha, rfl, by omega, by omega⟩)
      · rename_i n1 n2
        by_cases c : a.2.1 ≤ b.2.1
        · have := lin_all h _ b.2.1 b.2.1 a.1 b.1 (Nat.le_refl _) (by omega) ⟨a, ha, rfl, by omega, by omega⟩ ⟨b, hb, rfl, by omega, by omega⟩
          rw [Nat.sub_self] at this
          exact this
        · have := lin_all h _ a.2.1 a.2.1 a.1 b.1 (Nat.le_refl _) (by omega) ⟨a, ha, rfl, by omega, by omega⟩ ⟨b, hb, rfl, by omega, by omega⟩
          rw [Nat.sub_self] at this
          exact this
theorem btw_symm (f t f' t' : Nat) (h1 : f ≤ t) (h2 : f' ≤ t') : btw f t f' t' = btw f' t' f t := by
  unfold btw
  split <;> split <;> (try split) <;> omega
theorem fit_app {w : Nat → Prop} {v : Nat} {F G : List Fct} (ho : ∀ a, a ∈ F ++ G → a.2.1 ≤ a.2.2) : fitP w v (F ++ G) ↔ fitP w v F ∧ fitP w v G ∧ ∀ a, a ∈ F → ∀ b, b ∈ G → wit w v a.1 b.1 (btw a.2.1 a.2.2 b.2.1 b.2.2) := by
  constructor
  · intro h
    exact ⟨fun a ha b hb => h a (List.mem_append_left _ ha) b (List.mem_append_left _ hb), fun a ha b hb => h a (List.mem_append_right _ ha) b (List.mem_append_right _ hb), fun a ha b hb => h a (List.mem_append_left _ ha) b (List.mem_append_right _ hb)⟩
  · rintro ⟨h1, h2, h3⟩ a ha b hb
    rcases List.mem_append.mp ha with ha' | ha' <;> rcases List.mem_append.mp hb with hb' | hb'
    · exact h1 a ha' b hb'
    · exact h3 a ha' b hb'
    · rw [btw_symm _ _ _ _ (ho a ha) (ho b hb)]
      exact wit_symm (h3 b hb' a ha')
    · exact h2 a ha' b hb'
theorem fit_mem {w : Nat → Prop} {v : Nat} {F G : List Fct} (hm : ∀ a, a ∈ F ↔ a ∈ G) : fitP w v F ↔ fitP w v G := ⟨fun h a ha b hb => h a ((hm a).mpr ha) b ((hm b).mpr hb), fun h a ha b hb => h a ((hm a).mp ha) b ((hm b).mp hb)⟩
/-- where it may be: enough that the facts next to the hour on both sides allow it -/
theorem may_lin {w : Nat → Prop} {v : Nat} {F : List Fct} (hF : fitP w v F) (ho : ∀ a, a ∈ F → a.2.1 ≤ a.2.2) (h q : Nat) (hq : w q) :
    (∀ a, a ∈ F → wit w v a.1 q (btw h h a.2.1 a.2.2)) ↔ (∀ h1 p1, h1 ≤ h → cov F h1 p1 → (∀ t, h1 < t → t ≤ h → ∀ p, ¬ cov F t p) → wit w v p1 q (h - h1)) ∧ (∀ h2 p2, h ≤ h2 → cov F h2 p2 → (∀ t, h ≤ t → t < h2 → ∀ p, ¬ cov F t p) → wit w v p2 q (h2 - h)) := by
  constructor
  · intro H
    constructor
    · intro h1 p1 hle hc hn
      obtain ⟨a, ha, rfl, a1, a2⟩ := hc
      refine wit_mono (H a ha) ?_
      unfold btw
      split
      · omega
      · split
        · rename_i n1 n2
          by_cases e : a.2.2 = h1
          · omega
          · exact absurd ⟨a, ha, rfl, by omega, by omega⟩ (hn (h1 + 1) (by omega) (by omega) a.1)
        · omega
    · intro h2 p2 hle hc hn
      obtain ⟨a, ha, rfl, a1, a2⟩ := hc
      refine wit_mono (H a ha) ?_
      unfold btw
      split
      · by_cases e : a.2.1 = h2
        · omega
        · exact absurd ⟨a, ha, rfl, by omega, by omega⟩ (hn (h2 - 1) (by omega) (by omega) a.1)
      · split <;> omega
  · rintro ⟨H1, H2⟩ a ha
    have oa := ho a ha
    by_cases c1 : a.2.2 < h
    · have hx : ∀ m, m ≤ h - a.2.2 → ∃ h' p', a.2.2 ≤ h' ∧ h' ≤ h ∧ cov F h' p' ∧ ∀ t, h' < t → t ≤ a.2.2 + m → ∀ p, ¬ cov F t p := by
        intro m
        induction m with
        | zero => intro _; exact ⟨a.2.2, a.1, by omega, by omega, ⟨a, ha, rfl, by omega, by omega⟩, fun t q1 q2 => by omega⟩
        | succ m ihm =>
          intro hm
          obtain ⟨h', p', q1, q2, q3, q4⟩ := ihm (by omega)
          by_cases hl : ∃ p, cov F (a.2.2 + (m + 1)) p
          · obtain ⟨p, hp⟩ := hl
            exact ⟨_, p, by omega, by omega, hp, fun t r1 r2 => by omega⟩
          · refine ⟨h', p', q1, q2, q3, fun t r1 r2 p hp => ?_⟩
            by_cases e : t = a.2.2 + (m + 1)
            · subst e; exact hl ⟨p, hp⟩
            · exact q4 t r1 (by omega) p hp
      obtain ⟨h', p', q1, q2, q3, q4⟩ := hx (h - a.2.2) (Nat.le_refl _)
      have s1 := H1 h' p' q2 q3 (fun t r1 r2 => q4 t r1 (by omega))
      have s2 := fit_cov hF q1 ⟨a, ha, rfl, oa, Nat.le_refl _⟩ q3
      have := wit_comp s2 s1
      refine wit_mono this ?_
      unfold btw
      split <;> (try split) <;> omega
    · by_cases c2 : h < a.2.1
      · have hx : ∀ m, m ≤ a.2.1 - h → ∃ h' p', h ≤ h' ∧ h' ≤ a.2.1 ∧ cov F h' p' ∧ ∀ t, t < h' → a.2.1 ≤ t + m → h ≤ t → ∀ p, ¬ cov F t p := by
          intro m
          induction m with
          | zero => intro _; exact ⟨a.2.1, a.1, by omega, by omega, ⟨a, ha, rfl, by omega, by omega⟩, fun t q1 q2 => by omega⟩
          | succ m ihm =>
            intro hm
            obtain ⟨h', p', q1, q2, q3, q4⟩ := ihm (by omega)
            by_cases hl : ∃ p, cov F (a.2.1 - (m + 1)) p
            · obtain ⟨p, hp⟩ := hl
              exact ⟨_, p, by omega, by omega, hp, fun t r1 r2 => by omega⟩
            · refine ⟨h', p', q1, q2, q3, fun t r1 r2 r3 p hp => ?_⟩
              by_cases e : t = a.2.1 - (m + 1)
              · subst e; exact hl ⟨p, hp⟩
              · exact q4 t r1 (by omega) r3 p hp
        obtain ⟨h', p', q1, q2, q3, q4⟩ := hx (a.2.1 - h) (Nat.le_refl _)
        have s1 := H2 h' p' q1 q3 (fun t r1 r2 => q4 t r2 (by omega) r1)
        have s2 := fit_cov hF q2 q3 ⟨a, ha, rfl, Nat.le_refl _, oa⟩
        have := wit_comp (wit_symm s2) s1
        refine wit_mono this ?_
        unfold btw
        rw [if_pos c2]
        omega
      · have := H1 h a.1 (Nat.le_refl _) ⟨a, ha, rfl, by omega, by omega⟩ (fun t q1 q2 => by omega)
        refine wit_mono this ?_
        omega
/-! the longest chains -/
/-- the greatest f j of those j from a on, m of them, that g allows -/
def mx1 (f : Nat → Nat) (g : Nat → Bool) (a : Nat) : Nat → Nat
  | 0 => 0
  | m + 1 => max (mx1 f g a m) (if g (a + m) = true then f (a + m) else 0)
theorem mx1_ge {f : Nat → Nat} {g : Nat → Bool} {a m j : Nat} (h1 : a ≤ j) (h2 : j < a + m) (hg : g j = true) : f j ≤ mx1 f g a m := by
  induction m with
  | zero => omega
  | succ m ih =>
    show _ ≤ max _ _
    by_cases e : j = a + m
    · subst e; rw [if_pos hg]; exact Nat.le_max_right _ _
    · exact Nat.le_trans (ih (by omega)) (Nat.le_max_left _ _)
theorem mx1_at {f : Nat → Nat} {g : Nat → Bool} {a m : Nat} : mx1 f g a m = 0 ∨ ∃ j, a ≤ j ∧ j < a + m ∧ g j = true ∧ f j = mx1 f g a m := by
  induction m with
  | zero => exact Or.inl rfl
  | succ m ih =>
    have e : mx1 f g a (m + 1) = max (mx1 f g a m) (if g (a + m) = true then f (a + m) else 0) := rfl
    by_cases hg : g (a + m) = true
    · rw [if_pos hg] at e
      by_cases hl : mx1 f g a m ≤ f (a + m)
      · rw [Nat.max_eq_right hl] at e
        exact Or.inr ⟨a + m, by omega, by omega, hg, e.symm⟩
      · rw [Nat.max_eq_left (by omega)] at e
        rw [e]
        rcases ih with ih | ⟨j, h1, h2, h3, h4⟩
        · exact Or.inl ih
        · exact Or.inr ⟨j, h1, by omega, h3, h4⟩
    · rw [if_neg hg, Nat.max_zero] at e
      rw [e]
      rcases ih with ih | ⟨j, h1, h2, h3, h4⟩
      · exact Or.inl ih
      · exact Or.inr ⟨j, h1, by omega, h3, h4⟩
theorem mx1_ext {f f' : Nat → Nat} {g : Nat → Bool} {a m : Nat} (h : ∀ j, a ≤ j → j < a + m → f j = f' j) : mx1 f g a m = mx1 f' g a m := by
  induction m with
  | zero => rfl
  | succ m ih =>
    show max _ _ = max _ _
    rw [ih (fun j h1 h2 => h j h1 (by omega)), h (a + m) (by omega) (by omega)]
/-- how long a chain each begins, the last d of n being known -/
def lgD (n : Nat) (gd : Nat → Bool) (go : Nat → Nat → Bool) : Nat → Nat → Nat
  | 0 => fun _ => 0
  | d + 1 => fun i => if i = n - (d + 1) then (if gd i = true then 1 + mx1 (lgD n gd go d) (go i) (i + 1) (n - (i + 1)) else 0) else lgD n gd go d i
theorem lgD_keep {n : Nat} {gd : Nat → Bool} {go : Nat → Nat → Bool} {i : Nat} : ∀ d e, d ≤ e → e ≤ n → n - d ≤ i → lgD n gd go e i = lgD n gd go d i := by
  intro d e h
  induction e with
  | zero => intro _ _; have : d = 0 := by omega
            subst this; rfl
  | succ e ih =>
    intro h2 h3
    by_cases he : d = e + 1
    · subst he; rfl
    · show (if i = n - (e + 1) then _ else _) = _
      rw [if_neg (by omega)]
      exact ih (by omega) (by omega) h3
/-- how long a chain i begins -/
def lg (n : Nat) (gd : Nat → Bool) (go : Nat → Nat → Bool) (i : Nat) : Nat := lgD n gd go n i
theorem lg_eq {n : Nat} {gd : Nat → Bool} {go : Nat → Nat → Bool} {i : Nat} (hi : i < n) : lg n gd go i = if gd i = true then 1 + mx1 (lg n gd go) (go i) (i + 1) (n - (i + 1)) else 0 := by
  unfold lg
  rw [lgD_keep (n - i) n (by omega) (by omega) (by omega)]
  have e : n - i = (n - (i + 1)) + 1 := by omega
  rw [e]
  show (if i = n - (n - (i + 1) + 1) then _ else _) = _
  rw [if_pos (by omega)]
  split
  · congr 1
    apply mx1_ext
    intro j h1 h2
    exact (lgD_keep (n - (i + 1)) n (by omega) (by omega) (by omega)).symm
  · rfl
theorem lg_n {n : Nat} {gd : Nat → Bool} {go : Nat → Nat → Bool} {i : Nat} (hi : n ≤ i) : lg n gd go i = 0 := by
  unfold lg
  have : ∀ d, d ≤ n → lgD n gd go d i = 0 := by
    intro d
    induction d with
    | zero => intro _; rfl
    | succ d ih => intro hd; show (if i = n - (d + 1) then _ else _) = _; rw [if_neg (by omega)]; exact ih (by omega)
  exact this n (Nat.le_refl _)
theorem lg_0 {n : Nat} {gd : Nat → Bool} {go : Nat → Nat → Bool} {i : Nat} (h : ¬ gd i = true) : lg n gd go i = 0 := by
  by_cases hi : i < n
  · rw [lg_eq hi, if_neg h]
  · exact lg_n (by omega)
theorem lg_next {n : Nat} {gd : Nat → Bool} {go : Nat → Nat → Bool} {i : Nat} (h : 1 < lg n gd go i) : ∃ j, i < j ∧ j < n ∧ go i j = true ∧ lg n gd go j = lg n gd go i - 1 := by
  by_cases hi : i < n
  · rw [lg_eq hi] at h ⊢
    split at h
    · rename_i hg
      rw [if_pos hg]
      rcases mx1_at (f := lg n gd go) (g := go i) (a := i + 1) (m := n - (i + 1)) with e | ⟨j, h1, h2, h3, h4⟩
      · omega
      · exact ⟨j, by omega, by omega, h3, by omega⟩
    · omega
  · rw [lg_n (by omega)] at h; omega
theorem lg_step {n : Nat} {gd : Nat → Bool} {go : Nat → Nat → Bool} {i j : Nat} (hi : i < j) (hj : j < n) (hg : gd i = true) (ho : go i j = true) : lg n gd go j < lg n gd go i := by
  rw [lg_eq (i := i) (by omega), if_pos hg]
  have := mx1_ge (f := lg n gd go) (g := go i) (a := i + 1) (m := n - (i + 1)) (j := j) (by omega) (by omega) ho
  omega
theorem lg_le {n : Nat} {gd : Nat → Bool} {go : Nat → Nat → Bool} : ∀ d i, n - i ≤ d → lg n gd go i ≤ n - i := by
  intro d
  induction d with
  | zero => intro i hi; rw [lg_n (by omega)]; omega
  | succ d ih =>
    intro i hi
    by_cases hn : i < n
    · by_cases h1 : 1 < lg n gd go i
      · obtain ⟨j, q1, q2, q3, q4⟩ := lg_next h1
        have := ih j (by omega)
        omega
      · omega
    · rw [lg_n (by omega)]; omega
/-- the longest of all -/
def lgM (f : Nat → Nat) : Nat → Nat
  | 0 => 0
  | k + 1 => max (lgM f k) (f k)
theorem lgM_ge {f : Nat → Nat} {k i : Nat} (h : i < k) : f i ≤ lgM f k := by
  induction k with
  | zero => omega
  | succ k ih =>
    show _ ≤ max _ _
    by_cases e : i = k
    · subst e; exact Nat.le_max_right _ _
    · exact Nat.le_trans (ih (by omega)) (Nat.le_max_left _ _)
theorem lgM_at {f : Nat → Nat} {k : Nat} : lgM f k = 0 ∨ ∃ i, i < k ∧ f i = lgM f k := by
  induction k with
  | zero => exact Or.inl rfl
  | succ k ih =>
    have e : lgM f (k + 1) = max (lgM f k) (f k) := rfl
    by_cases hl : lgM f k ≤ f k
    · rw [Nat.max_eq_right hl] at e
      exact Or.inr ⟨k, by omega, e.symm⟩
    · rw [Nat.max_eq_left (by omega)] at e
      rw [e]
      rcases ih with ih | ⟨i, h1, h2⟩
      · exact Or.inl ih
      · exact Or.inr ⟨i, by omega, h2⟩
/-- the earliest that can go on with a longest chain is taken: how many are taken, and the last, behind the first i -/
def kpS (L : Nat) (f : Nat → Nat) (go : Nat → Nat → Bool) : Nat → Nat × Option Nat
  | 0 => (0, none)
  | i + 1 => if (kpS L f go i).1 < L ∧ f i = L - (kpS L f go i).1 ∧ (∀ l, (kpS L f go i).2 = some l → go l i = true) then ((kpS L f go i).1 + 1, some i) else kpS L f go i
/-- is the i-th taken -/
def kpT (L : Nat) (f : Nat → Nat) (go : Nat → Nat → Bool) (i : Nat) : Prop := (kpS L f go i).1 < L ∧ f i = L - (kpS L f go i).1 ∧ (∀ l, (kpS L f go i).2 = some l → go l i = true)
theorem kpS_t {L : Nat} {f : Nat → Nat} {go : Nat → Nat → Bool} {i : Nat} (h : kpT L f go i) : kpS L f go (i + 1) = ((kpS L f go i).1 + 1, some i) := if_pos h
theorem kpS_f {L : Nat} {f : Nat → Nat} {go : Nat → Nat → Bool} {i : Nat} (h : ¬ kpT L f go i) : kpS L f go (i + 1) = kpS L f go i := if_neg h
theorem kp_inv {n : Nat} {gd : Nat → Bool} {go : Nat → Nat → Bool} {L : Nat} (hL : L = lgM (lg n gd go) n) : ∀ i, i ≤ n → (kpS L (lg n gd go) go i).1 ≤ L ∧ ((kpS L (lg n gd go) go i).1 < L → ∃ j, i ≤ j ∧ j < n ∧ lg n gd go j = L - (kpS L (lg n gd go) go i).1 ∧ ∀ l, (kpS L (lg n gd go) go i).2 = some l → go l j = true) := by
  intro i
  induction i with
  | zero =>
    intro _
    refine ⟨Nat.zero_le _, fun h => ?_⟩
    rcases lgM_at (f := lg n gd go) (k := n) with e | ⟨j, h1, h2⟩
    · have h' : 0 < L := h
      omega
    · exact ⟨j, by omega, h1, by rw [h2, hL]; rfl, fun l hl => by cases hl⟩
  | succ i ih =>
    intro hi
    obtain ⟨h1, h2⟩ := ih (by omega)
    by_cases hk : kpT L (lg n gd go) go i
    · rw [kpS_t hk]
      obtain ⟨k1, k2, k3⟩ := hk
      refine ⟨k1, fun hc => ?_⟩
      dsimp only at hc ⊢
      obtain ⟨j, q1, q2, q3, q4⟩ := lg_next (n := n) (gd := gd) (go := go) (i := i) (by omega)
      exact ⟨j, by omega, q2, by omega, fun l hl => by cases hl; exact q3⟩
    · rw [kpS_f hk]
      refine ⟨h1, fun hc => ?_⟩
      obtain ⟨j, q1, q2, q3, q4⟩ := h2 hc
      by_cases e : j = i
      · subst e; exact absurd ⟨hc, q3, q4⟩ hk
      · exact ⟨j, by omega, q2, q3, q4⟩
theorem kp_all {n : Nat} {gd : Nat → Bool} {go : Nat → Nat → Bool} {L : Nat} (hL : L = lgM (lg n gd go) n) : (kpS L (lg n gd go) go n).1 = L := by
  obtain ⟨h1, h2⟩ := kp_inv hL n (Nat.le_refl _)
  by_cases h : (kpS L (lg n gd go) go n).1 < L
  · obtain ⟨j, q1, q2, -⟩ := h2 h; omega
  · omega
theorem kp_gd {n : Nat} {gd : Nat → Bool} {go : Nat → Nat → Bool} {L i : Nat} (h : kpT L (lg n gd go) go i) : gd i = true ∧ i < n := by
  obtain ⟨h1, h2, -⟩ := h
  constructor
  · by_cases hg : gd i = true
    · exact hg
    · rw [lg_0 hg] at h2; omega
  · by_cases hi : i < n
    · exact hi
    · rw [lg_n (by omega)] at h2; omega
theorem kp_last {L : Nat} {f : Nat → Nat} {go : Nat → Nat → Bool} (ht : ∀ i j k, i < j → j < k → go i j = true → go j k = true → go i k = true) : ∀ j i, i < j → kpT L f go i → ∃ l, (kpS L f go j).2 = some l ∧ l < j ∧ (l = i ∨ (i < l ∧ go i l = true)) := by
  intro j
  induction j with
  | zero => intro i hi; omega
  | succ j ih =>
    intro i hi hk
    by_cases e : i = j
    · subst e
      rw [kpS_t hk]
      exact ⟨i, rfl, by omega, Or.inl rfl⟩
    · obtain ⟨l, h1, h2, h3⟩ := ih i (by omega) hk
      by_cases hj : kpT L f go j
      · rw [kpS_t hj]
        have hg := hj.2.2 l h1
        refine ⟨j, rfl, by omega, Or.inr ⟨by omega, ?_⟩⟩
        rcases h3 with rfl | ⟨h3, h4⟩
        · exact hg
        · exact ht i l j h3 h2 h4 hg
      · rw [kpS_f hj]
        exact ⟨l, h1, by omega, h3⟩
theorem kp_go {L : Nat} {f : Nat → Nat} {go : Nat → Nat → Bool} (ht : ∀ i j k, i < j → j < k → go i j = true → go j k = true → go i k = true) {i j : Nat} (hij : i < j) (hi : kpT L f go i) (hj : kpT L f go j) : go i j = true := by
  obtain ⟨l, h1, h2, h3⟩ := kp_last ht j i hij hi
  have hg := hj.2.2 l h1
  rcases h3 with rfl | ⟨h3, h4⟩
  · exact hg
  · exact ht i l j h3 h2 h4 hg
/-- all are taken just when all are good and go together -/
theorem lg_whole {n : Nat} {gd : Nat → Bool} {go : Nat → Nat → Bool} (ht : ∀ i j k, i < j → j < k → go i j = true → go j k = true → go i k = true) (hn : 0 < n) : lgM (lg n gd go) n = n ↔ (∀ i, i < n → gd i = true) ∧ ∀ i j, i < j → j < n → go i j = true := by
  constructor
  · intro h
    have h0 : lg n gd go 0 = n := by
      rcases lgM_at (f := lg n gd go) (k := n) with e | ⟨j, h1, h2⟩
      · omega
      · have := lg_le (n := n) (gd := gd) (go := go) n j (by omega)
        have e : j = 0 := by omega
        subst e
        omega
    have hs : ∀ i, i < n → lg n gd go i = n - i ∧ (i + 1 < n → go i (i + 1) = true) := by
      intro i
      induction i with
      | zero =>
        intro _
        refine ⟨h0, fun h1 => ?_⟩
        obtain ⟨j, q1, q2, q3, q4⟩ := lg_next (n := n) (gd := gd) (go := go) (i := 0) (by omega)
        have := lg_le (n := n) (gd := gd) (go := go) n j (by omega)
        have e : j = 1 := by omega
        subst e; exact q3
      | succ i ih =>
        intro hi
        obtain ⟨a, b⟩ := ih (by omega)
        obtain ⟨j, q1, q2, q3, q4⟩ := lg_next (n := n) (gd := gd) (go := go) (i := i) (by omega)
        have := lg_le (n := n) (gd := gd) (go := go) n j (by omega)
        have e : j = i + 1 := by omega
        subst e
        refine ⟨by omega, fun h1 => ?_⟩
        obtain ⟨k, r1, r2, r3, r4⟩ := lg_next (n := n) (gd := gd) (go := go) (i := i + 1) (by omega)
        have := lg_le (n := n) (gd := gd) (go := go) n k (by omega)
        have e : k = i + 1 + 1 := by omega
        subst e; exact r3
    refine ⟨fun i hi => ?_, fun i j hij => ?_⟩
    · by_cases hg : gd i = true
      · exact hg
      · have := (hs i hi).1
        rw [lg_0 hg] at this
        omega
    · induction j with
      | zero => omega
      | succ j ih =>
        intro hj
        by_cases e : i = j
        · subst e; exact (hs i (by omega)).2 hj
        · exact ht i j (j + 1) (by omega) (by omega) (ih (by omega) (by omega)) ((hs j (by omega)).2 hj)
  · rintro ⟨h1, h2⟩
    have hge : ∀ d i, n - i ≤ d → i < n → n - i ≤ lg n gd go i := by
      intro d
      induction d with
      | zero => intro i _ _; omega
      | succ d ih =>
        intro i hd hi
        by_cases e : i + 1 < n
        · have := ih (i + 1) (by omega) e
          have := lg_step (n := n) (gd := gd) (go := go) (i := i) (j := i + 1) (by omega) e (h1 i hi) (h2 i (i + 1) (by omega) e)
          omega
        · rw [lg_eq hi, if_pos (h1 i hi)]; omega
    have a := hge n 0 (by omega) hn
    have b := lgM_ge (f := lg n gd go) (k := n) (i := 0) hn
    rcases lgM_at (f := lg n gd go) (k := n) with e | ⟨j, q1, q2⟩
    · omega
    · have := lg_le (n := n) (gd := gd) (go := go) n j (by omega)
      omega
/-! two sets: what can't be in one set goes apart -/
def colV (n : Nat) (K : Nat → Nat → Prop) (gd : Nat → Prop) (c : Nat → Bool) : Prop := (∀ i j, i < n → j < n → K i j → c i = !c j) ∧ ∀ i, i < n → c i = true → gd i
def colX (n : Nat) (S : Nat → Option Bool) (c : Nat → Bool) : Prop := ∀ i b, i < n → S i = some b → c i = b
/-- what is coloured is right, and no two apart are left open between -/
def colC (n : Nat) (K : Nat → Nat → Prop) (gd : Nat → Prop) (S : Nat → Option Bool) : Prop := (∀ i j b, i < n → j < n → K i j → S i = some b → S j = some (!b)) ∧ ∀ i, i < n → S i = some true → gd i
def colM (S : Nat → Option Bool) (c : Nat → Bool) : Nat → Bool := fun i => (S i).getD (c i)
theorem col_mix {n : Nat} {K : Nat → Nat → Prop} {gd : Nat → Prop} {S : Nat → Option Bool} {c : Nat → Bool} (hs : ∀ i j, K i j → K j i) (h : colC n K gd S) (hc : colV n K gd c) : colV n K gd (colM S c) ∧ colX n S (colM S c) := by
  refine ⟨⟨fun i j hi hj hk => ?_, fun i hi ht => ?_⟩, fun i b hi hb => by unfold colM; rw [hb]; rfl⟩
  · unfold colM
    cases h1 : S i with
    | some b =>
      rw [h.1 i j b hi hj hk h1]
      simp
    | none =>
      cases h2 : S j with
      | some b => have := h.1 j i b hj hi (hs i j hk) h2; rw [h1] at this; cases this
      | none => exact hc.1 i j hi hj hk
  · unfold colM at ht
    cases h1 : S i with
    | some b => rw [h1] at ht; simp at ht; subst ht; exact h.2 i hi h1
    | none => rw [h1] at ht; exact hc.2 i hi ht
/-- some partition, neither set empty -/
def pairX (n : Nat) (K : Nat → Nat → Prop) (gd : Nat → Prop) : Prop := ∃ c, colV n K gd c ∧ (∃ i, i < n ∧ c i = true) ∧ ∃ i, i < n ∧ c i = false
theorem col_pair {n : Nat} {K : Nat → Nat → Prop} {gd : Nat → Prop} {S : Nat → Option Bool} (h : colC n K gd S) (ht : ∀ i, i < n → ¬ S i = none) (hno : (∀ i j, i < n → j < n → ¬ K i j) → ∀ i, i < n → gd i → S i = some true) (ha : (∃ i, i < n ∧ ¬ gd i) ∨ ∃ i j, i < n ∧ j < n ∧ K i j) : ((∃ i, i < n ∧ S i = some true) ∧ ∃ i, i < n ∧ S i = some false) ↔ pairX n K gd := by
  constructor
  · rintro ⟨⟨i, hi, h1⟩, j, hj, h2⟩
    refine ⟨fun i => (S i).getD false, ⟨fun a b ha' hb hk => ?_, fun a ha' hb => ?_⟩, ⟨i, hi, by simp [h1]⟩, ⟨j, hj, by simp [h2]⟩⟩
    · cases hx : S a with
      | none => exact absurd hx (ht a ha')
      | some x => dsimp only; rw [hx, h.1 a b x ha' hb hk hx]; simp
    · cases hx : S a with
      | none => exact absurd hx (ht a ha')
      | some x => dsimp only at hb; rw [hx] at hb; simp at hb; subst hb; exact h.2 a ha' hx
  · rintro ⟨c, hc, ⟨i, hi, h1⟩, j, hj, h2⟩
    by_cases he : ∃ i j, i < n ∧ j < n ∧ K i j
    · obtain ⟨a, b, ha', hb, hk⟩ := he
      cases hx : S a with
      | none => exact absurd hx (ht a ha')
      | some x =>
        have hy := h.1 a b x ha' hb hk hx
        cases x with
        | true => exact ⟨⟨a, ha', hx⟩, b, hb, hy⟩
        | false => exact ⟨⟨b, hb, hy⟩, a, ha', hx⟩
    · have hn : ∀ i j, i < n → j < n → ¬ K i j := fun i j q1 q2 q3 => he ⟨i, j, q1, q2, q3⟩
      refine ⟨⟨i, hi, hno hn i hi (hc.2 i hi h1)⟩, ?_⟩
      rcases ha with ⟨k, hk, hg⟩ | he2
      · refine ⟨k, hk, ?_⟩
        cases hx : S k with
        | none => exact absurd hx (ht k hk)
        | some x => cases x with
          | true => exact absurd (h.2 k hk hx) hg
          | false => rfl
      · exact absurd he2 he
theorem pairX_no {n : Nat} {K : Nat → Nat → Prop} {gd : Nat → Prop} (h : ∀ c, ¬ colV n K gd c) : ¬ pairX n K gd := fun ⟨c, hc, _⟩ => h c hc
/-- the queue while the k-th of it is looked at; S0: the colours at the beginning -/
def colQ (n : Nat) (K : Nat → Nat → Prop) (gd : Nat → Prop) (S0 : Nat → Option Bool) (k : Nat) (S : Nat → Option Bool) (qu : Nat → Nat) (m : Nat) : Prop :=
  (∀ a, a < m → qu a < n ∧ ¬ S (qu a) = none) ∧ (∀ i, i < n → ¬ S i = none → ∃ a, a < m ∧ qu a = i) ∧ (∀ a j b, a < k → j < n → K (qu a) j → S (qu a) = some b → S j = some (!b)) ∧
  (∀ i, i < n → ¬ gd i → S i = some false) ∧ (∀ c, colV n K gd c → colX n S0 c → colX n S c) ∧ cnt (fun i => (S i).isSome) n = m ∧ k ≤ m ∧ (∀ i b, S0 i = some b → S i = some b)
theorem colQ_push {n : Nat} {K : Nat → Nat → Prop} {gd : Nat → Prop} {S0 : Nat → Option Bool} {k : Nat} {S : Nat → Option Bool} {qu : Nat → Nat} {m : Nat} (h : colQ n K gd S0 k S qu m) (hk : k < m) {j : Nat} {b : Bool} (hj : j < n) (hK : K (qu k) j) (hb : S (qu k) = some b) (hn : S j = none) : colQ n K gd S0 k (fun i => if i = j then some (!b) else S i) (fun a => if a = m then j else qu a) (m + 1) := by
  obtain ⟨h1, h2, h3, h4, h5, h6, h7, h8⟩ := h
  have keep : ∀ i x, S i = some x → (if i = j then some (!b) else S i) = some x := fun i x hx => by
    rw [if_neg (fun e => by rw [e, hn] at hx; cases hx)]; exact hx
  have qk : ∀ a, a < m → (if a = m then j else qu a) = qu a := fun a ha => if_neg (by omega)
  refine ⟨fun a ha => ?_, fun i hi hs => ?_, fun a i x ha hi hK2 hx => ?_, fun i hi hg => ?_, fun c hc hX i x hi hx => ?_, ?_, by omega, fun i x hx => keep i x (h8 i x hx)⟩
  · dsimp only
    by_cases e : a = m
    · subst e
      rw [if_pos rfl]
      exact ⟨hj, by simp⟩
    · rw [if_neg e]
      obtain ⟨q1, q2⟩ := h1 a (by omega)
      refine ⟨q1, ?_⟩
      split
      · simp
      · exact q2
  · dsimp only at hs ⊢
    by_cases e : i = j
    · exact ⟨m, by omega, by rw [if_pos rfl, e]⟩
    · rw [if_neg e] at hs
      obtain ⟨a, q1, q2⟩ := h2 i hi hs
      exact ⟨a, by omega, by rw [qk a q1]; exact q2⟩
  · dsimp only at hK2 hx ⊢
    rw [qk a (by omega)] at hK2 hx
    cases hy : S (qu a) with
    | none => exact absurd hy (h1 a (by omega)).2
    | some y =>
      rw [keep _ _ hy] at hx
      cases hx
      exact keep _ _ (h3 a i x ha hi hK2 hy)
  · exact keep _ _ (h4 i hi hg)
  · dsimp only at hx
    by_cases e : i = j
    · rw [if_pos e] at hx
      cases hx
      have q := hc.1 (qu k) j (h1 k hk).1 hj hK
      rw [h5 c hc hX (qu k) b (h1 k hk).1 hb] at q
      rw [e, q]
      simp
    · rw [if_neg e] at hx
      exact h5 c hc hX i x hi hx
  · have := cnt_set (g := fun i => (S i).isSome) (g' := fun i => (if i = j then some (!b) else S i).isSome) (a := j) (fun t ht => by rw [if_neg ht]) (by simp [hn]) (by simp) n
    rw [this, if_pos hj, h6]
theorem colQ_bad {n : Nat} {K : Nat → Nat → Prop} {gd : Nat → Prop} {S0 : Nat → Option Bool} {k : Nat} {S : Nat → Option Bool} {qu : Nat → Nat} {m : Nat} (h : colQ n K gd S0 k S qu m) (hk : k < m) {j : Nat} {b : Bool} (hj : j < n) (hK : K (qu k) j) (hb : S (qu k) = some b) (hn : S j = some b) : ∀ c, colV n K gd c → ¬ colX n S0 c := by
  intro c hc hX
  obtain ⟨h1, h2, h3, h4, h5, h6, h7, h8⟩ := h
  have q := hc.1 (qu k) j (h1 k hk).1 hj hK
  rw [h5 c hc hX (qu k) b (h1 k hk).1 hb, h5 c hc hX j b hj hn] at q
  cases b <;> simp at q
theorem colQ_next {n : Nat} {K : Nat → Nat → Prop} {gd : Nat → Prop} {S0 : Nat → Option Bool} {k : Nat} {S : Nat → Option Bool} {qu : Nat → Nat} {m : Nat} (h : colQ n K gd S0 k S qu m) (hk : k < m) (hd : ∀ j b, j < n → K (qu k) j → S (qu k) = some b → S j = some (!b)) : colQ n K gd S0 (k + 1) S qu m := by
  obtain ⟨h1, h2, h3, h4, h5, h6, h7, h8⟩ := h
  refine ⟨h1, h2, fun a j b ha hj hK hb => ?_, h4, h5, h6, hk, h8⟩
  by_cases e : a = k
  · subst e; exact hd j b hj hK hb
  · exact h3 a j b (by omega) hj hK hb
/-- at the queue's end -/
theorem colQ_end {n : Nat} {K : Nat → Nat → Prop} {gd : Nat → Prop} {S0 : Nat → Option Bool} {S : Nat → Option Bool} {qu : Nat → Nat} {m : Nat} (h : colQ n K gd S0 m S qu m) : colC n K gd S := by
  obtain ⟨h1, h2, h3, h4, h5, h6, h7, h8⟩ := h
  refine ⟨fun i j b hi hj hK hb => ?_, fun i hi hb => ?_⟩
  · obtain ⟨a, q1, q2⟩ := h2 i hi (by rw [hb]; simp)
    subst q2
    exact h3 a j b q1 hj hK hb
  · by_cases hg : gd i
    · exact hg
    · rw [h4 i hi hg] at hb; cases hb
/-- one more, put into the first set -/
theorem colQ_more {n : Nat} {K : Nat → Nat → Prop} {gd : Nat → Prop} {S0 : Nat → Option Bool} {S : Nat → Option Bool} {qu : Nat → Nat} {m : Nat} (h : colQ n K gd S0 m S qu m) {i : Nat} (hi : i < n) (hn : S i = none) (b : Bool) : colQ n K gd (fun j => if j = i then some b else S j) m (fun j => if j = i then some b else S j) (fun a => if a = m then i else qu a) (m + 1) := by
  obtain ⟨h1, h2, h3, h4, h5, h6, h7, h8⟩ := h
  have keep : ∀ j x, S j = some x → (if j = i then some b else S j) = some x := fun j x hx => by
    rw [if_neg (fun e => by rw [e, hn] at hx; cases hx)]; exact hx
  have qk : ∀ a, a < m → (if a = m then i else qu a) = qu a := fun a ha => if_neg (by omega)
  refine ⟨fun a ha => ?_, fun j hj hs => ?_, fun a j x ha hj hK hx => ?_, fun j hj hg => keep _ _ (h4 j hj hg), fun c _ hX => hX, ?_, by omega, fun _ _ h => h⟩
  · dsimp only
    by_cases e : a = m
    · subst e
      rw [if_pos rfl]
      exact ⟨hi, by simp⟩
    · rw [if_neg e]
      obtain ⟨q1, q2⟩ := h1 a (by omega)
      refine ⟨q1, ?_⟩
      split
      · simp
      · exact q2
  · dsimp only at hs ⊢
    by_cases e : j = i
    · exact ⟨m, by omega, by rw [if_pos rfl, e]⟩
    · rw [if_neg e] at hs
      obtain ⟨a, q1, q2⟩ := h2 j hj hs
      exact ⟨a, by omega, by rw [qk a q1]; exact q2⟩
  · dsimp only at hK hx ⊢
    rw [qk a ha] at hK hx
    cases hy : S (qu a) with
    | none => exact absurd hy (h1 a ha).2
    | some y =>
      rw [keep _ _ hy] at hx
      cases hx
      exact keep _ _ (h3 a j x ha hj hK hy)
  · have := cnt_set (g := fun i => (S i).isSome) (g' := fun j => (if j = i then some b else S j).isSome) (a := i) (fun t ht => by rw [if_neg ht]) (by simp [hn]) (by simp) n
    rw [this, if_pos hi, h6]
/-- from a closed colouring, any open one can be put into the first set -/
theorem col_flip {n : Nat} {K : Nat → Nat → Prop} {gd : Nat → Prop} {S : Nat → Option Bool} (hs : ∀ i j, K i j → K j i) (h : colC n K gd S) (hb : ∀ i, i < n → ¬ gd i → S i = some false) {i : Nat} (hi : i < n) (hn : S i = none) {c : Nat → Bool} (hc : colV n K gd c) : ∃ c', colV n K gd c' ∧ colX n (fun j => if j = i then some true else S j) c' := by
  obtain ⟨m1, m2⟩ := col_mix hs h hc
  by_cases hx : colM S c i = true
  · refine ⟨_, m1, fun j b hj hb' => ?_⟩
    dsimp only at hb'
    by_cases e : j = i
    · subst e; rw [if_pos rfl] at hb'; cases hb'; exact hx
    · rw [if_neg e] at hb'; exact m2 j b hj hb'
  · have hf : colV n K gd (colM S (fun j => !c j)) := by
      refine ⟨fun a b ha hb2 hk => ?_, fun a ha ht => ?_⟩
      · unfold colM
        cases h1 : S a with
        | some x => rw [h.1 a b x ha hb2 hk h1]; simp
        | none =>
          cases h2 : S b with
          | some x => have := h.1 b a x hb2 ha (hs a b hk) h2; rw [h1] at this; cases this
          | none => simp only [Option.getD_none]; rw [hc.1 a b ha hb2 hk]
      · by_cases hg : gd a
        · exact hg
        · unfold colM at ht; rw [hb a ha hg] at ht; cases ht
    refine ⟨_, hf, fun j b hj hb' => ?_⟩
    dsimp only at hb'
    unfold colM
    by_cases e : j = i
    · subst e
      rw [if_pos rfl] at hb'
      cases hb'
      rw [hn]
      unfold colM at hx
      rw [hn] at hx
      simp at hx ⊢
      exact hx
    · rw [if_neg e] at hb'
      rw [hb']
      rfl
