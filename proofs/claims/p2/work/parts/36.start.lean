/-! the law's entry: what the tables say of classes and arrays -/
theorem am_aolong {args : Array Value} {s : State} (h : (Cond.arrayOver (.array .long)).before args s = true) : ∃ comp c k, s.vm.findClass "[J" = some comp ∧ (s.vm.classes.findIdx? fun x => match x.kind with | .array component _ => component == comp | _ => false) = some c ∧ s.vm.classes[c]? = some k ∧ k.kind = .array comp (.array .long) ∧ s.vm.findClass ("[" ++ (FieldType.array .long).toString) = some c := by
  have h : (Cond.arrayOver (.array .long)).holds args s none s [] = true := h
  have e : (FieldType.array .long).toString = "[J" := by decide +kernel
  simp only [Cond.holds, Cond.value, beq_iff_eq] at h
  rw [e] at h ⊢
  cases hc : s.vm.findClass "[J" with
  | none => simp [hc] at h
  | some comp =>
    simp only [hc, Option.bind_some, Option.bind_eq_some_iff, Option.map_eq_some_iff] at h
    obtain ⟨c, hi, k, hk, hb⟩ := h
    obtain ⟨hlt, hp, -⟩ := Array.findIdx?_eq_some_iff_getElem.mp hi
    have hkk : s.vm.classes[c] = k := (Array.getElem?_eq_some_iff.mp hk).2
    rw [hkk] at hp
    cases hkind : k.kind with
    | array component ty =>
      rw [hkind] at hb hp
      simp at hb hp
      exact ⟨comp, c, k, rfl, hi, hk, by rw [hkind, hp, hb.1], hb.2⟩
    | _ => rw [hkind] at hb; simp at hb
theorem am_arrT {s : State} {cA : ClassId} {kA : Class} {comp : ClassId} {ty : FieldType} (h1 : s.vm.classes[cA]? = some kA) (h2 : kA.kind = .array comp ty) : ArrOfT s cA ty := fun N z => ⟨(fun k h => by cases h), kA, h1, comp, h2⟩
/-- the text of the words at the law's entry -/
abbrev am_tm : Term := .string "ToldTracks$Reader" 18
abbrev am_tv : Term := .field am_tm "java/lang/String" "value" "[B"
def am_of (b a1 a2 a3 a4 : Nat) : Nat → Nat := fun k => match k with | 0 => b | 1 => a1 | 2 => a2 | 3 => a3 | _ => a4
theorem am_elems : (flatC narrow_1).drop 35 = (List.range 130).map (fun j => Cond.eq (.elem am_tv (.int (Int32.ofNat j))) (.int (am_own.getD j 0))) := by rfl
theorem am_strs {args : Array Value} {s : State} (hts : ∀ w ∈ lw_tbl, w.before args s = true) (hn : narrow_1.before args s = true) (b : Nat) : ∃ a1 a2 a3 a4 : Nat, vk_R RX3 18 am_tx a1 s ∧ (∀ A : Nat → Prop, (∀ a : Nat, a < s.heap.size → ¬ A a) → va_O "java/lang/String" a1 A s s.heap ∧ va_OF "java/lang/String" "coder" "B" (.int 0) a1 A s s.heap ∧ va_OF "java/lang/String" "value" "[B" (.ref a2) a1 A s s.heap ∧ va_T .byte a2 130 (fun j => .int (am_own.getD j 0)) A s s.heap ∧ va_Z "java/lang/String" "COMPACT_STRINGS" "Z" (.int 1) A s s.heap ∧ va_Z "jdk/internal/util/Preconditions" "SIOOBE_FORMATTER" "Ljava/util/function/BiFunction;" (am_ou (am_of b a1 a2 a3 a4) 3) A s s.heap) := by
  have hf := flat_of_before narrow_1 hn
  have hi : ∀ (i : Nat) (w : Cond), (flatC narrow_1)[i]? = some w → w.before args s = true := fun i w h => hf w (List.mem_of_getElem? h)
  have h30 := hi 31 _ (rfl : _ = some (Cond.exactly am_tm "java/lang/String"))
  have h31 := hi 32 _ (rfl : _ = some (Cond.eq (.field am_tm "java/lang/String" "coder" "B") (.int 0)))
  have h32 := hi 33 _ (rfl : _ = some (Cond.arrayOf am_tv .byte))
  have h33 := hi 34 _ (rfl : _ = some (Cond.eq (.length am_tv) (.int (Int32.ofNat 130))))
  have h2 := hi 2 _ (rfl : _ = some (Cond.eq (.static "java/lang/String" "COMPACT_STRINGS" "Z") (.int 1)))
  have h3 := hi 3 _ (rfl : _ = some (Cond.isRef (.static "jdk/internal/util/Preconditions" "SIOOBE_FORMATTER" "Ljava/util/function/BiFunction;")))
  have hel : ∀ j : Nat, j < 130 → (Cond.eq (.elem am_tv (.int (Int32.ofNat j))) (.int (am_own.getD j 0))).before args s = true := by
    intro j hj
    refine hf _ (List.mem_of_mem_drop (i := 35) ?_)
    rw [am_elems]
    exact List.mem_map.mpr ⟨j, List.mem_range.mpr hj, rfl⟩
  have hw1 : (Cond.stringRef RX3 18 am_tx).before args s = true := hts _ (List.mem_append_right _ (List.mem_append_right _ (List.mem_append_left _ (List.mem_of_getElem? (i := 6) rfl))))
  have hw2 : (Cond.laysStatic "java/lang/String" "COMPACT_STRINGS" "Z").before args s = true := hts _ (List.mem_append_right _ (List.mem_append_right _ (List.mem_append_left _ (List.mem_of_getElem? (i := 16) rfl))))
  have hw3 : (Cond.laysStatic "jdk/internal/util/Preconditions" "SIOOBE_FORMATTER" "Ljava/util/function/BiFunction;").before args s = true := hts _ (List.mem_append_right _ (List.mem_append_right _ (List.mem_append_left _ (List.mem_of_getElem? (i := 32) rfl))))
  have ht : ∀ w ∈ am_ws, w.before args s = true := fun w hw => hts w (am_ws_in w hw)
  have hz : ∀ {i : Nat}, i < 1 → i = 0 := fun h => by omega
  obtain ⟨adK, adV, hS, hE⟩ := vk_Sof (args := args) (s := s) (N := 1) (tm := fun _ => am_tm) (len := [130]) (byt := [am_own]) (A := fun q => s.heap.size ≤ q) (fun i hi => by cases hz hi; decide) (fun i hi => h30) (fun i hi => h31) (fun i hi => h32) (fun i hi => by cases hz hi; exact h33) (fun i hi j hj => by cases hz hi; exact hel j hj) (fun i j hi hj hne => absurd ((hz hi).trans (hz hj).symm) hne) (fun a ha h => absurd h (by omega))
  have hs0 := hS.1 0 (by omega)
  have h9 : ∃ a3 a4 : Nat, ∀ A : Nat → Prop, (∀ a : Nat, a < s.heap.size → ¬ A a) → va_Z "jdk/internal/util/Preconditions" "SIOOBE_FORMATTER" "Ljava/util/function/BiFunction;" (am_ou (am_of b (adK 0) (adV 0) a3 a4) 3) A s s.heap := by
    rcases va_Zqof (A := fun q => s.heap.size ≤ q) hw3 (ht _ wd144) h3 (fun a ha h => absurd h (by omega)) with hz | ⟨t, hz⟩
    · refine ⟨0, 0, fun A hA => ?_⟩
      obtain ⟨cf, kf, fi, f, a, cell, g1, g2, g3, g4, g5, g6, g7, -⟩ := hz
      exact ⟨cf, kf, fi, f, a, cell, g1, g2, g3, g4, g5, g6, g7, hA _ (Array.getElem?_eq_some_iff.mp g5).1⟩
    · refine ⟨t, 1, fun A hA => ?_⟩
      obtain ⟨cf, kf, fi, f, a, cell, g1, g2, g3, g4, g5, g6, g7, -⟩ := hz
      exact ⟨cf, kf, fi, f, a, cell, g1, g2, g3, g4, g5, g6, g7, hA _ (Array.getElem?_eq_some_iff.mp g5).1⟩
  obtain ⟨a3, a4, h9⟩ := h9
  refine ⟨adK 0, adV 0, a3, a4, vk_R.of hw1 (hE 0 (by omega)), fun A hA => ?_⟩
  have out : ∀ {a : Nat} {cell : Cell}, s.heap[a]? = some cell → ¬ A a := fun h => hA _ (Array.getElem?_eq_some_iff.mp h).1
  refine ⟨?_, ?_, ?_, ?_, va_Zof hw2 (ht _ wd142) (va_eqt h2) hA, h9 A hA⟩
  · obtain ⟨cell, g1, g2, g3, -⟩ := hs0.1
    exact ⟨cell, g1, g2, g3, out g1⟩
  · obtain ⟨cf, k, i, f, cell, g1, g2, g3, g4, g5, -⟩ := hs0.2.1
    exact ⟨cf, k, i, f, cell, g1, g2, g3, g4, g5, out g3⟩
  · obtain ⟨cf, k, i, f, cell, g1, g2, g3, g4, g5, -⟩ := hs0.2.2.1
    exact ⟨cf, k, i, f, cell, g1, g2, g3, g4, g5, out g3⟩
  · obtain ⟨cell, g1, g2, g3, g4, g5, g6, -⟩ := hs0.2.2.2
    exact ⟨cell, g1, g2, g3, g4, g5, g6, out g1⟩
/-- at the law's entry all that AM asks of the tables holds -/
theorem am_known {args : Array Value} {s : State} {b : Nat} (hts : ∀ w ∈ lw_tbl, w.before args s = true) (hn : narrow_1.before args s = true) : ∃ G : am_G, G.1 = s.heap.size ∧ G.2.1.1 0 = b ∧ G.2.1.2 = s.heap ∧ am_Kn G s := by
  have ht : ∀ w ∈ am_ws, w.before args s = true := fun w hw => hts w (am_ws_in w hw)
  have K : ∀ (i : Nat), i < 12 → ∃ q : ClassId × (Nat → Nat), ∀ r : vw_C, vwCl[i]? = some r → u_Kn s r.1 r.2.1 r.2.2 q.1 q.2 := by
    intro i hi
    have key : ∀ (C : String) (T : u_T) (N : Nat), vwCl[i]? = some (C, T, N) → (∀ w ∈ u_ws C T N, w ∈ am_ws) → Cond.instantiable C N ∈ am_ws → ∃ q : ClassId × (Nat → Nat), ∀ r : vw_C, vwCl[i]? = some r → u_Kn s r.1 r.2.1 r.2.2 q.1 q.2 := by
      intro C T N e1 e2 e3
      obtain ⟨cC, iS, h⟩ := u_known (C := C) (T := T) (N := N) (n := N) ht e2 (ht _ e3)
      exact ⟨(cC, iS), fun r hr => by cases hr.symm.trans e1; exact h⟩
    match i, hi with
    | 0, _ => exact key RX0 TX0 3 rfl inX0 wd197
    | 1, _ => exact key RX1 TX1 1 rfl inX1 wd508
    | 2, _ => exact key RX2 TX2 2 rfl inX2 wd368
    | 3, _ => exact key RX3 TX3 10 rfl inX3 wd374
    | 4, _ => exact key RX4 TX4 4 rfl inX4 wd215
    | 5, _ => exact key RX5 TX5 14 rfl inX5 wd163
    | 6, _ => exact key RX6 TX6 13 rfl inX6 wd234
    | 7, _ => exact key RX7 TX7 4 rfl inX7 wd171
    | 8, _ => exact key RX8 TX8 17 rfl inX8 wd477
    | 9, _ => exact key RX9 TX9 5 rfl inX9 wd483
    | 10, _ => exact key RX10 TX10 17 rfl inX10 wd155
    | 11, _ => exact key RX11 TX11 83 rfl inX11 wd1328
  obtain ⟨dq, hdq⟩ : ∃ dq : Nat → ClassId × (Nat → Nat), ∀ (i : Nat) (r : vw_C), vwCl[i]? = some r → u_Kn s r.1 r.2.1 r.2.2 (dq i).1 (dq i).2 := by
    have h0 : ∀ i : Nat, ∃ q : ClassId × (Nat → Nat), ∀ r : vw_C, vwCl[i]? = some r → u_Kn s r.1 r.2.1 r.2.2 q.1 q.2 := by
      intro i
      by_cases hi : i < 12
      · exact K i hi
      · exact ⟨(0, fun _ => 0), fun r hr => absurd (List.getElem?_eq_some_iff.mp hr).1 hi⟩
    exact Classical.axiomOfChoice h0
  obtain ⟨c0, k0, p0, f0, g0, e0⟩ := Cond.arrayClass_spec (ht _ wd195)
  obtain ⟨c1, k1, p1, f1, g1, e1⟩ := Cond.arrayClass_spec (ht _ wd303)
  obtain ⟨c2, k2, p2, f2, g2, e2⟩ := Cond.arrayClass_spec (ht _ wd304)
  obtain ⟨p3, c3, k3, a3, b3, g3, e3, f3⟩ := Cond.arrayOver_spec (hts (Cond.arrayOver (.object "ToldTracks$Ship")) (List.mem_append_right _ (List.mem_append_left _ (List.mem_of_getElem? (i := 36) rfl))))
  obtain ⟨p4, c4, k4, a4, b4, g4, e4, f4⟩ := Cond.arrayOver_spec (hts (Cond.arrayOver (.object "ToldTracks$Track")) (List.mem_append_right _ (List.mem_append_right _ (List.mem_append_left _ (List.mem_of_getElem? (i := 103) rfl)))))
  obtain ⟨p5, c5, k5, a5, b5, g5, e5, f5⟩ := am_aolong (hts (Cond.arrayOver (.array .long)) (List.mem_append_right _ (List.mem_append_right _ (List.mem_append_left _ (List.mem_of_getElem? (i := 116) rfl)))))
  have hJ : p5 = c1 := by
    have e : "[" ++ FieldType.long.toString = "[J" := by decide +kernel
    rw [e] at f1
    exact Option.some.inj (a5.symm.trans f1)
  subst hJ
  obtain ⟨b1, b2, b3, b4, hbR, hbS⟩ := am_strs hts hn b
  refine ⟨(s.heap.size, (am_of b b1 b2 b3 b4, s.heap), (fun k => match k with | 0 => c0 | 1 => p5 | 2 => c2 | 3 => c3 | 4 => c4 | _ => c5), (fun i => (dq i).1, fun i => (dq i).2)), rfl, rfl, rfl, ⟨hdq, ?_⟩, ?_, ?_, ?_, ?_, hbR, hbS _ (fun a ha h => absurd h (by omega))⟩
  · intro k q hk
    match k, hk with
    | 0, hk => cases hk; exact ⟨am_arrT g0 e0, f0⟩
    | 1, hk => cases hk; exact ⟨am_arrT g1 e1, f1⟩
    | 2, hk => cases hk; exact ⟨am_arrT g2 e2, f2⟩
    | 3, hk => cases hk; exact ⟨am_arrT g3 e3, k3, p3, g3, e3, a3, f3⟩
    | 4, hk => cases hk; exact ⟨am_arrT g4 e4, k4, p4, g4, e4, a4, f4⟩
    | 5, hk => cases hk; exact ⟨am_arrT g5 e5, f5⟩
    | k + 6, hk => cases hk
  · intro w hw
    have h1 := (List.mem_filter.mp hw)
    have h2 := hts w h1.1
    have h3 := h1.2
    cases w <;> simp [am_isN] at h3
    exact va_Nw.of rfl h2
  · exact ⟨k5, k1, g5, e5, g1, b5⟩
  · exact va_AO.of (hts (Cond.arrayOver (.object "ToldTracks$Ship")) (List.mem_append_right _ (List.mem_append_left _ (List.mem_of_getElem? (i := 36) rfl))))
  · exact va_AO.of (hts (Cond.arrayOver (.object "ToldTracks$Track")) (List.mem_append_right _ (List.mem_append_right _ (List.mem_append_left _ (List.mem_of_getElem? (i := 103) rfl)))))
