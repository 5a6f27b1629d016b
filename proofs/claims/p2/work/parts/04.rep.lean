/-! AM and the machine's heap: the cells of AM lie from G.1 on; G = (first address, addresses of what lies outside and the heap as it was, array classes by kind, classes and slots) -/
abbrev am_G : Type := Nat × ((Nat → Nat) × Heap) × (Nat → ClassId) × va_G
def am_ety : List FieldType := [.int, .long, .boolean, .object RX6, .object RX8, .array .long]
def am_fty (ci : Nat) : Nat → FieldType := match ci with
  | 0 => tyX0 | 1 => tyX1 | 2 => tyX2 | 3 => tyX3 | 4 => tyX4 | 5 => tyX5 | 6 => tyX6 | 7 => tyX7 | 8 => tyX8 | 9 => tyX9 | 10 => tyX10 | _ => tyX11
def am_fv (ty : FieldType) (M : am_M) (a j : Nat) : Value := match ty with
  | .long => .long (mL M a j)
  | .object _ => va_rf (mR M a j)
  | .array _ => va_rf (mR M a j)
  | _ => .int (mI M a j)
/-- what lies outside: the third of it may be nothing -/
def am_ou (f : Nat → Nat) (z : Nat) : Value := if z = 3 ∧ f 4 = 0 then .null else .ref (f z)
def am_v (G : am_G) : Value → Value
  | .ref k => .ref (G.1 + k)
  | .retAddr z => am_ou G.2.1.1 z
  | v => v
theorem am_v_cat (G : am_G) (v : Value) : (am_v G v).category = v.category := by
  cases v <;> first | rfl | (show (am_ou _ _).category = _; unfold am_ou; split <;> rfl)
theorem am_v_int (G : am_G) (x : Int32) : am_v G (.int x) = .int x := rfl
theorem am_v_long (G : am_G) (x : Int64) : am_v G (.long x) = .long x := rfl
def am_at (G : am_G) (M : am_M) (k : Nat) (sh : am_S) (H : Heap) : Prop :=
  (∀ ty, am_ety[sh.1]? = some ty → H[G.1 + k]? = some (arrV (G.2.2.1 sh.1) sh.2 (fun j => am_v G (am_fv ty M k j)))) ∧
  ∀ (ci : Nat) (r : vw_C), sh.1 = 10 + ci → vwCl[ci]? = some r → sh.2 = r.2.2 ∧ t_OB (G.1 + k) (G.2.2.2.1 ci) r.2.2 (G.2.2.2.2 ci) H (fun j => am_v G (am_fv (am_fty ci j) M k j))
def am_R (G : am_G) (M : am_M) (H : Heap) : Prop := H.size = G.1 + mC M ∧ (∀ (k : Nat) (sh : am_S), (mS M)[k]? = some sh → am_at G M k sh H) ∧ ∀ q, q < G.1 → H[q]? = G.2.1.2[q]?
theorem am_at.kept {G : am_G} {M M' : am_M} {k : Nat} {sh : am_S} {H H' : Heap} (h : am_at G M k sh H) (hv : ∀ ty j, am_fv ty M' k j = am_fv ty M k j) (hc : H'[G.1 + k]? = H[G.1 + k]?) : am_at G M' k sh H' := by
  refine ⟨fun ty hty => ?_, fun ci r e hr => ?_⟩
  · rw [hc, h.1 ty hty]
    simp only [hv]
  · obtain ⟨h1, h2⟩ := h.2 ci r e hr
    refine ⟨h1, ?_⟩
    simp only [hv]
    exact h2.kept hc
theorem am_R.set {G : am_G} {M M' : am_M} {H H' : Heap} {a : Nat} (h : am_R G M H) (hS : mS M' = mS M) (hv : ∀ k, k ≠ a → ∀ ty j, am_fv ty M' k j = am_fv ty M k j) (hz : H'.size = H.size) (ho : ∀ q, q ≠ G.1 + a → H'[q]? = H[q]?) (ha : ∀ sh, (mS M)[a]? = some sh → am_at G M' a sh H') : am_R G M' H' := by
  refine ⟨by rw [hz, h.1]; show _ = _ + (mS M').length; rw [hS]; rfl, fun k sh hk => ?_, fun q hq => by rw [ho q (by omega)]; exact h.2.2 q hq⟩
  rw [hS] at hk
  by_cases e : k = a
  · subst e
    exact ha sh hk
  · exact (h.2.1 k sh hk).kept (hv k e) (ho _ (by omega))
theorem am_R.new {G : am_G} {M : am_M} {H H' : Heap} {sh : am_S} (h : am_R G M H) (hz : H'.size = H.size + 1) (ho : ∀ q, q < H.size → H'[q]? = H[q]?) (ha : am_at G (uN M sh) (mC M) sh H') : am_R G (uN M sh) H' := by
  have e : mS (uN M sh) = mS M ++ [sh] := rfl
  refine ⟨?_, fun k sh' hk => ?_, fun q hq => by rw [ho q (by rw [h.1]; omega)]; exact h.2.2 q hq⟩
  · rw [hz, h.1]
    show _ = _ + (mS (uN M sh)).length
    rw [e, List.length_append]
    rfl
  · rw [e] at hk
    by_cases hl : k < (mS M).length
    · rw [List.getElem?_append_left hl] at hk
      have hne : k ≠ mC M := Nat.ne_of_lt hl
      refine (h.2.1 k sh' hk).kept (fun ty j => ?_) (ho _ (by rw [h.1]; exact Nat.add_lt_add_left hl _))
      unfold am_fv
      cases ty <;> simp [uN, mI, mL, mR, am_z, hne]
    · rw [List.getElem?_append_right (by omega)] at hk
      have h2 := (List.getElem?_eq_some_iff.mp hk).1
      have h3 : k = (mS M).length := by simp at h2; omega
      subst h3
      simp at hk
      subst hk
      exact ha
/-- the locals -/
def am_L (G : am_G) (nL : Nat) (ls : Array Slot) (lv : List Value) : Prop := lv.length = nL ∧ ls.size = nL ∧ lv_wf ls ∧ ∀ (i : Nat) (v : Value), lv[i]? = some v → am_flo v = false → ls[i]? = some (.val (am_v G v))
def am_al (G : am_G) (lv : List Value) : List (Nat × Value) := (List.range lv.length).filterMap (fun i => (lv[i]?).bind fun v => if am_flo v = true then none else some (i, am_v G v))
theorem am_al_mem {G : am_G} {lv : List Value} {j : Nat} {w : Value} : (j, w) ∈ am_al G lv ↔ ∃ v, lv[j]? = some v ∧ am_flo v = false ∧ w = am_v G v := by
  unfold am_al
  rw [List.mem_filterMap]
  constructor
  · rintro ⟨i, -, h⟩
    rw [Option.bind_eq_some_iff] at h
    obtain ⟨v, h1, h2⟩ := h
    split at h2
    · cases h2
    · rename_i hf
      cases h2
      exact ⟨v, h1, by simpa using hf, rfl⟩
  · rintro ⟨v, h1, h2, rfl⟩
    refine ⟨j, List.mem_range.mpr (List.getElem?_eq_some_iff.mp h1).1, ?_⟩
    rw [h1, Option.bind_some, if_neg (by rw [h2]; simp)]
theorem am_L.has {G : am_G} {nL : Nat} {ls : Array Slot} {lv : List Value} (h : am_L G nL ls lv) : lv_has ls nL (am_al G lv) := by
  refine ⟨h.2.1, h.2.2.1, fun q hq => ?_⟩
  obtain ⟨v, h1, h2, h3⟩ := am_al_mem.mp (show (q.1, q.2) ∈ am_al G lv from hq)
  rw [h3]
  exact h.2.2.2 _ _ h1 h2
theorem am_st_len (lv : List Value) (i : Nat) (x : Value) : (am_st lv i x).length = lv.length := by
  induction lv generalizing i with
  | nil => rfl
  | cons v vs ih => cases i with
    | zero => rfl
    | succ i => simp [am_st, ih]
theorem am_st_get (lv : List Value) : ∀ (i : Nat) (x : Value) (j : Nat) (v : Value), (am_st lv i x)[j]? = some v → am_flo v = false → (j = i ∧ v = x) ∨ (j ≠ i ∧ lv[j]? = some v ∧ ¬ (j + 1 = i ∧ am_long v = true)) := by
  induction lv with
  | nil => intro i x j v h; simp [am_st] at h
  | cons y ys ih =>
    intro i x j v h hf
    cases i with
    | zero =>
      cases j with
      | zero => left; simp [am_st] at h; exact ⟨rfl, h.symm⟩
      | succ j => right; simp [am_st] at h; exact ⟨by omega, by simpa using h, by omega⟩
    | succ i =>
      cases j with
      | zero =>
        right
        simp only [am_st, List.getElem?_cons_zero, Option.some.injEq] at h
        by_cases hc : i = 0 ∧ am_long y = true
        · rw [if_pos hc] at h; subst h; simp [am_flo] at hf
        · rw [if_neg hc] at h
          subst h
          exact ⟨by omega, rfl, fun q => hc ⟨by omega, q.2⟩⟩
      | succ j =>
        simp only [am_st, List.getElem?_cons_succ] at h
        rcases ih i x j v h hf with ⟨h1, h2⟩ | ⟨h1, h2, h3⟩
        · left; exact ⟨by omega, h2⟩
        · right; exact ⟨by omega, by simpa using h2, fun q => h3 ⟨by omega, q.2⟩⟩
theorem am_long_cat {G : am_G} {v : Value} (hf : am_flo v = false) (h : (am_v G v).category = 2) : am_long v = true := by
  rw [am_v_cat] at h
  cases v <;> simp_all [Value.category, am_long, am_flo]
theorem am_L.put {G : am_G} {nL i : Nat} {ls ls' : Array Slot} {lv : List Value} {x : Value} (h : am_L G nL ls lv) (h' : lv_has ls' nL ((i, am_v G x) :: (am_al G lv).filter (fun q => !(q.1 == i) && !(q.1 + 1 == i && q.2.category == 2)))) : am_L G nL ls' (am_st lv i x) := by
  refine ⟨by rw [am_st_len]; exact h.1, h'.1, h'.2.1, fun j v hj hf => ?_⟩
  rcases am_st_get lv i x j v hj hf with ⟨rfl, rfl⟩ | ⟨h1, h2, h3⟩
  · exact h'.2.2 _ List.mem_cons_self
  · refine h'.2.2 (j, am_v G v) (List.mem_cons_of_mem _ (List.mem_filter.mpr ⟨am_al_mem.mpr ⟨v, h2, hf, rfl⟩, ?_⟩))
    have e1 : (j == i) = false := by simpa using h1
    rw [e1]
    by_cases e2 : j + 1 = i
    · have e3 : ((am_v G v).category == 2) = false := by
        rw [beq_eq_false_iff_ne]
        exact fun q => h3 ⟨e2, am_long_cat hf q⟩
      simp [e3]
    · have e3 : (j + 1 == i) = false := by simpa using e2
      simp [e3]
theorem am_L.put2 {G : am_G} {nL i : Nat} {ls ls' : Array Slot} {lv : List Value} {x : Value} (h : am_L G nL ls lv) (h' : lv_has ls' nL ((i, am_v G x) :: (am_al G lv).filter (fun q => !(q.1 == i) && (!(q.1 == i + 1) && !(q.1 + 1 == i && q.2.category == 2))))) : am_L G nL ls' ((am_st lv i x).set (i + 1) am_x) := by
  refine ⟨by rw [List.length_set, am_st_len]; exact h.1, h'.1, h'.2.1, fun j v hj hf => ?_⟩
  rw [List.getElem?_set] at hj
  by_cases e : i + 1 = j
  · rw [if_pos e] at hj
    split at hj
    · cases hj; simp [am_flo] at hf
    · cases hj
  rw [if_neg e] at hj
  rcases am_st_get lv i x j v hj hf with ⟨rfl, rfl⟩ | ⟨h1, h2, h3⟩
  · exact h'.2.2 _ List.mem_cons_self
  · refine h'.2.2 (j, am_v G v) (List.mem_cons_of_mem _ (List.mem_filter.mpr ⟨am_al_mem.mpr ⟨v, h2, hf, rfl⟩, ?_⟩))
    have e1 : (j == i) = false := by simpa using h1
    have e4 : (j == i + 1) = false := by simpa using (fun q => e q.symm)
    rw [e1, e4]
    by_cases e2 : j + 1 = i
    · have e3 : ((am_v G v).category == 2) = false := by
        rw [beq_eq_false_iff_ne]
        exact fun q => h3 ⟨e2, am_long_cat hf q⟩
      simp [e3]
    · have e3 : (j + 1 == i) = false := by simpa using e2
      simp [e3]
theorem am_in_vp {i : Int32} {n : Nat} (h : am_in i n) : vp_in i n := by
  unfold vp_in
  rintro (q | q)
  · have := Int32.lt_iff_toInt_lt.mp q
    simp at this
    have h1 := h.1
    omega
  · have h1 := h.1
    have h2 := h.2
    have e : i.toNatClampNeg = i.toInt.toNat := rfl
    rw [e] at q
    omega
