/-! the law's entry: what the tables say of classes and arrays -/
theorem am_aolong {args : Array Value} {s : State} (h : (Cond.arrayOver (.array .long)).before args s = true) : ∃ comp c k, s.vm.findClass "[J" = some comp ∧ (s.vm.classes.findIdx? fun x => match x.kind with | .array component _ => component == comp | _ => false) = some c ∧ s.vm.classes[c]? = some k ∧ k.kind = .array comp (.array .long) ∧ s.vm.findClass ("[" ++ (FieldType.array .long).toString) = some c := by
  have h : (Cond.arrayOver (.array .long)).holds args s none s [] = true := h
  have e : (FieldType.array .long).toString = "[J" := by decide +kernel
  simp only [Cond.holds, Cond.value, beq_iff_eq] at h
  rw [e] at h ⊢
  cases hc : s.vm.findClass "[J" with
  | none => simp [hc] at h
  | some comp =>
    simp only [hc, Option.bind_some, Option.bind_eq_some_iff, Option.map_eq_some_iff] at h
    obtain ⟨c, hi, k, hk, hb⟩ := h
    obtain ⟨hlt, hp, -⟩ := Array.findIdx?_eq_some_iff_getElem.mp hi
    have hkk : s.vm.classes[c] = k := (Array.getElem?_eq_some_iff.mp hk).2
    rw [hkk] at hp
    cases hkind : k.kind with
    | array component ty =>
      rw [hkind] at hb hp
      simp at hb hp
      exact ⟨comp, c, k, rfl, hi, hk, by rw [hkind, hp, hb.1], hb.2⟩
    | _ => rw [hkind] at hb; simp at hb
theorem am_arrT {s : State} {cA : ClassId} {kA : Class} {comp : ClassId} {ty : FieldType} (h1 : s.vm.classes[cA]? = some kA) (h2 : kA.kind = .array comp ty) : ArrOfT s cA ty := fun N z => ⟨(fun k h => by cases h), kA, h1, comp, h2⟩
/-- at the law's entry all that AM asks of the tables holds -/
theorem am_known {args : Array Value} {s : State} {b : Nat} (hts : ∀ w ∈ lw_tbl, w.before args s = true) : ∃ G : am_G, G.1 = s.heap.size ∧ G.2.1.1 0 = b ∧ G.2.1.2 = s.heap ∧ am_Kn G s := by
  have ht : ∀ w ∈ am_ws, w.before args s = true := fun w hw => hts w (am_ws_in w hw)
  have K : ∀ (i : Nat), i < 12 → ∃ q : ClassId × (Nat → Nat), ∀ r : vw_C, vwCl[i]? = some r → u_Kn s r.1 r.2.1 r.2.2 q.1 q.2 := by
    intro i hi
    have key : ∀ (C : String) (T : u_T) (N : Nat), vwCl[i]? = some (C, T, N) → (∀ w ∈ u_ws C T N, w ∈ am_ws) → Cond.instantiable C N ∈ am_ws → ∃ q : ClassId × (Nat → Nat), ∀ r : vw_C, vwCl[i]? = some r → u_Kn s r.1 r.2.1 r.2.2 q.1 q.2 := by
      intro C T N e1 e2 e3
      obtain ⟨cC, iS, h⟩ := u_known (C := C) (T := T) (N := N) (n := N) ht e2 (ht _ e3)
      exact ⟨(cC, iS), fun r hr => by cases hr.symm.trans e1; exact h⟩
    match i, hi with
    | 0, _ => exact key RX0 TX0 3 rfl inX0 wd197
    | 1, _ => exact key RX1 TX1 1 rfl inX1 wd508
    | 2, _ => exact key RX2 TX2 2 rfl inX2 wd368
    | 3, _ => exact key RX3 TX3 10 rfl inX3 wd374
    | 4, _ => exact key RX4 TX4 4 rfl inX4 wd215
    | 5, _ => exact key RX5 TX5 14 rfl inX5 wd163
    | 6, _ => exact key RX6 TX6 13 rfl inX6 wd234
    | 7, _ => exact key RX7 TX7 4 rfl inX7 wd171
    | 8, _ => exact key RX8 TX8 17 rfl inX8 wd477
    | 9, _ => exact key RX9 TX9 5 rfl inX9 wd483
    | 10, _ => exact key RX10 TX10 17 rfl inX10 wd155
    | 11, _ => exact key RX11 TX11 83 rfl inX11 wd1328
  obtain ⟨dq, hdq⟩ : ∃ dq : Nat → ClassId × (Nat → Nat), ∀ (i : Nat) (r : vw_C), vwCl[i]? = some r → u_Kn s r.1 r.2.1 r.2.2 (dq i).1 (dq i).2 := by
    have h0 : ∀ i : Nat, ∃ q : ClassId × (Nat → Nat), ∀ r : vw_C, vwCl[i]? = some r → u_Kn s r.1 r.2.1 r.2.2 q.1 q.2 := by
      intro i
      by_cases hi : i < 12
      · exact K i hi
      · exact ⟨(0, fun _ => 0), fun r hr => absurd (List.getElem?_eq_some_iff.mp hr).1 hi⟩
    exact Classical.axiomOfChoice h0
  obtain ⟨c0, k0, p0, f0, g0, e0⟩ := Cond.arrayClass_spec (ht _ wd195)
  obtain ⟨c1, k1, p1, f1, g1, e1⟩ := Cond.arrayClass_spec (ht _ wd303)
  obtain ⟨c2, k2, p2, f2, g2, e2⟩ := Cond.arrayClass_spec (ht _ wd304)
  obtain ⟨p3, c3, k3, a3, b3, g3, e3, f3⟩ := Cond.arrayOver_spec (hts (Cond.arrayOver (.object "ToldTracks$Ship")) (List.mem_append_right _ (List.mem_append_left _ (List.mem_of_getElem? (i := 36) rfl))))
  obtain ⟨p4, c4, k4, a4, b4, g4, e4, f4⟩ := Cond.arrayOver_spec (hts (Cond.arrayOver (.object "ToldTracks$Track")) (List.mem_append_right _ (List.mem_append_right _ (List.mem_append_left _ (List.mem_of_getElem? (i := 103) rfl)))))
  obtain ⟨p5, c5, k5, a5, b5, g5, e5, f5⟩ := am_aolong (hts (Cond.arrayOver (.array .long)) (List.mem_append_right _ (List.mem_append_right _ (List.mem_append_left _ (List.mem_of_getElem? (i := 116) rfl)))))
  have hJ : p5 = c1 := by
    have e : "[" ++ FieldType.long.toString = "[J" := by decide +kernel
    rw [e] at f1
    exact Option.some.inj (a5.symm.trans f1)
  subst hJ
  refine ⟨(s.heap.size, (fun _ => b, s.heap), (fun k => match k with | 0 => c0 | 1 => p5 | 2 => c2 | 3 => c3 | 4 => c4 | _ => c5), (fun i => (dq i).1, fun i => (dq i).2)), rfl, rfl, rfl, ⟨hdq, ?_⟩, ?_, ?_, ?_, ?_⟩
  · intro k q hk
    match k, hk with
    | 0, hk => cases hk; exact ⟨am_arrT g0 e0, f0⟩
    | 1, hk => cases hk; exact ⟨am_arrT g1 e1, f1⟩
    | 2, hk => cases hk; exact ⟨am_arrT g2 e2, f2⟩
    | 3, hk => cases hk; exact ⟨am_arrT g3 e3, k3, p3, g3, e3, a3, f3⟩
    | 4, hk => cases hk; exact ⟨am_arrT g4 e4, k4, p4, g4, e4, a4, f4⟩
    | 5, hk => cases hk; exact ⟨am_arrT g5 e5, f5⟩
    | k + 6, hk => cases hk
  · intro w hw
    have h1 := (List.mem_filter.mp hw)
    have h2 := hts w h1.1
    have h3 := h1.2
    cases w <;> simp [am_isN] at h3
    exact va_Nw.of rfl h2
  · exact ⟨k5, k1, g5, e5, g1, b5⟩
  · exact va_AO.of (hts (Cond.arrayOver (.object "ToldTracks$Ship")) (List.mem_append_right _ (List.mem_append_left _ (List.mem_of_getElem? (i := 36) rfl))))
  · exact va_AO.of (hts (Cond.arrayOver (.object "ToldTracks$Track")) (List.mem_append_right _ (List.mem_append_right _ (List.mem_append_left _ (List.mem_of_getElem? (i := 103) rfl)))))
