/-! 36.start 36.zmet 37.hp 38.ret 39.whole -/
section
/-! the law's entry: what the tables say of classes and arrays -/
theorem am_aolong {args : Array Value} {s : State} (h : (Cond.arrayOver (.array .long)).before args s = true) : ∃ comp c k, s.vm.findClass "[J" = some comp ∧ (s.vm.classes.findIdx? fun x => match x.kind with | .array component _ => component == comp | _ => false) = some c ∧ s.vm.classes[c]? = some k ∧ k.kind = .array comp (.array .long) ∧ s.vm.findClass ("[" ++ (FieldType.array .long).toString) = some c := by
  have h : (Cond.arrayOver (.array .long)).holds args s none s [] = true := h
  have e : (FieldType.array .long).toString = "[J" := by decide +kernel
  simp only [Cond.holds, Cond.value, beq_iff_eq] at h
  rw [e] at h ⊢
  cases hc : s.vm.findClass "[J" with
  | none => simp [hc] at h
  | some comp =>
    simp only [hc, Option.bind_some, Option.bind_eq_some_iff, Option.map_eq_some_iff] at h
    obtain ⟨c, hi, k, hk, hb⟩ := h
    obtain ⟨hlt, hp, -⟩ := Array.findIdx?_eq_some_iff_getElem.mp hi
    have hkk : s.vm.classes[c] = k := (Array.getElem?_eq_some_iff.mp hk).2
    rw [hkk] at hp
    cases hkind : k.kind with
    | array component ty =>
      rw [hkind] at hb hp
      simp at hb hp
      exact ⟨comp, c, k, rfl, hi, hk, by rw [hkind, hp, hb.1], hb.2⟩
    | _ => rw [hkind] at hb; simp at hb
theorem am_arrT {s : State} {cA : ClassId} {kA : Class} {comp : ClassId} {ty : FieldType} (h1 : s.vm.classes[cA]? = some kA) (h2 : kA.kind = .array comp ty) : ArrOfT s cA ty := fun N z => ⟨(fun k h => by cases h), kA, h1, comp, h2⟩
/-- the text of the words at the law's entry -/
abbrev am_tm : Term := .string "ToldTracks$Reader" 18
abbrev am_tv : Term := .field am_tm "java/lang/String" "value" "[B"
def am_of (b a1 a2 a3 a4 : Nat) : Nat → Nat := fun k => match k with | 0 => b | 1 => a1 | 2 => a2 | 3 => a3 | _ => a4
theorem am_elems : (flatC narrow_1).drop 35 = (List.range 130).map (fun j => Cond.eq (.elem am_tv (.int (Int32.ofNat j))) (.int (am_own.getD j 0))) := by rfl
theorem am_strs {args : Array Value} {s : State} (hts : ∀ w ∈ lw_tbl, w.before args s = true) (hn : narrow_1.before args s = true) (b : Nat) : ∃ a1 a2 a3 a4 : Nat, vk_R RX3 18 am_tx a1 s ∧ (∀ A : Nat → Prop, (∀ a : Nat, a < s.heap.size → ¬ A a) → va_O "java/lang/String" a1 A s s.heap ∧ va_OF "java/lang/String" "coder" "B" (.int 0) a1 A s s.heap ∧ va_OF "java/lang/String" "value" "[B" (.ref a2) a1 A s s.heap ∧ va_T .byte a2 130 (fun j => .int (am_own.getD j 0)) A s s.heap ∧ va_Z "java/lang/String" "COMPACT_STRINGS" "Z" (.int 1) A s s.heap ∧ va_Z "jdk/internal/util/Preconditions" "SIOOBE_FORMATTER" "Ljava/util/function/BiFunction;" (am_ou (am_of b a1 a2 a3 a4) 3) A s s.heap) := by
  have hf := flat_of_before narrow_1 hn
  have hi : ∀ (i : Nat) (w : Cond), (flatC narrow_1)[i]? = some w → w.before args s = true := fun i w h => hf w (List.mem_of_getElem? h)
  have h30 := hi 31 _ (rfl : _ = some (Cond.exactly am_tm "java/lang/String"))
  have h31 := hi 32 _ (rfl : _ = some (Cond.eq (.field am_tm "java/lang/String" "coder" "B") (.int 0)))
  have h32 := hi 33 _ (rfl : _ = some (Cond.arrayOf am_tv .byte))
  have h33 := hi 34 _ (rfl : _ = some (Cond.eq (.length am_tv) (.int (Int32.ofNat 130))))
  have h2 := hi 2 _ (rfl : _ = some (Cond.eq (.static "java/lang/String" "COMPACT_STRINGS" "Z") (.int 1)))
  have h3 := hi 3 _ (rfl : _ = some (Cond.isRef (.static "jdk/internal/util/Preconditions" "SIOOBE_FORMATTER" "Ljava/util/function/BiFunction;")))
  have hel : ∀ j : Nat, j < 130 → (Cond.eq (.elem am_tv (.int (Int32.ofNat j))) (.int (am_own.getD j 0))).before args s = true := by
    intro j hj
    refine hf _ (List.mem_of_mem_drop (i := 35) ?_)
    rw [am_elems]
    exact List.mem_map.mpr ⟨j, List.mem_range.mpr hj, rfl⟩
  have hw1 : (Cond.stringRef RX3 18 am_tx).before args s = true := hts _ (List.mem_append_right _ (List.mem_append_right _ (List.mem_append_left _ (List.mem_of_getElem? (i := 6) rfl))))
  have hw2 : (Cond.laysStatic "java/lang/String" "COMPACT_STRINGS" "Z").before args s = true := hts _ (List.mem_append_right _ (List.mem_append_right _ (List.mem_append_left _ (List.mem_of_getElem? (i := 16) rfl))))
  have hw3 : (Cond.laysStatic "jdk/internal/util/Preconditions" "SIOOBE_FORMATTER" "Ljava/util/function/BiFunction;").before args s = true := hts _ (List.mem_append_right _ (List.mem_append_right _ (List.mem_append_left _ (List.mem_of_getElem? (i := 32) rfl))))
  have ht : ∀ w ∈ am_ws, w.before args s = true := fun w hw => hts w (am_ws_in w hw)
  have hz : ∀ {i : Nat}, i < 1 → i = 0 := fun h => by omega
  obtain ⟨adK, adV, hS, hE⟩ := vk_Sof (args := args) (s := s) (N := 1) (tm := fun _ => am_tm) (len := [130]) (byt := [am_own]) (A := fun q => s.heap.size ≤ q) (fun i hi => by cases hz hi; decide) (fun i hi => h30) (fun i hi => h31) (fun i hi => h32) (fun i hi => by cases hz hi; exact h33) (fun i hi j hj => by cases hz hi; exact hel j hj) (fun i j hi hj hne => absurd ((hz hi).trans (hz hj).symm) hne) (fun a ha h => absurd h (by omega))
  have hs0 := hS.1 0 (by omega)
  have h9 : ∃ a3 a4 : Nat, ∀ A : Nat → Prop, (∀ a : Nat, a < s.heap.size → ¬ A a) → va_Z "jdk/internal/util/Preconditions" "SIOOBE_FORMATTER" "Ljava/util/function/BiFunction;" (am_ou (am_of b (adK 0) (adV 0) a3 a4) 3) A s s.heap := by
    rcases va_Zqof (A := fun q => s.heap.size ≤ q) hw3 (ht _ wd144) h3 (fun a ha h => absurd h (by omega)) with hz | ⟨t, hz⟩
    · refine ⟨0, 0, fun A hA => ?_⟩
      obtain ⟨cf, kf, fi, f, a, cell, g1, g2, g3, g4, g5, g6, g7, -⟩ := hz
      exact ⟨cf, kf, fi, f, a, cell, g1, g2, g3, g4, g5, g6, g7, hA _ (Array.getElem?_eq_some_iff.mp g5).1⟩
    · refine ⟨t, 1, fun A hA => ?_⟩
      obtain ⟨cf, kf, fi, f, a, cell, g1, g2, g3, g4, g5, g6, g7, -⟩ := hz
      exact ⟨cf, kf, fi, f, a, cell, g1, g2, g3, g4, g5, g6, g7, hA _ (Array.getElem?_eq_some_iff.mp g5).1⟩
  obtain ⟨a3, a4, h9⟩ := h9
  refine ⟨adK 0, adV 0, a3, a4, vk_R.of hw1 (hE 0 (by omega)), fun A hA => ?_⟩
  have out : ∀ {a : Nat} {cell : Cell}, s.heap[a]? = some cell → ¬ A a := fun h => hA _ (Array.getElem?_eq_some_iff.mp h).1
  refine ⟨?_, ?_, ?_, ?_, va_Zof hw2 (ht _ wd142) (va_eqt h2) hA, h9 A hA⟩
  · obtain ⟨cell, g1, g2, g3, -⟩ := hs0.1
    exact ⟨cell, g1, g2, g3, out g1⟩
  · obtain ⟨cf, k, i, f, cell, g1, g2, g3, g4, g5, -⟩ := hs0.2.1
    exact ⟨cf, k, i, f, cell, g1, g2, g3, g4, g5, out g3⟩
  · obtain ⟨cf, k, i, f, cell, g1, g2, g3, g4, g5, -⟩ := hs0.2.2.1
    exact ⟨cf, k, i, f, cell, g1, g2, g3, g4, g5, out g3⟩
  · obtain ⟨cell, g1, g2, g3, g4, g5, g6, -⟩ := hs0.2.2.2
    exact ⟨cell, g1, g2, g3, g4, g5, g6, out g1⟩
/-- at the law's entry all that AM asks of the tables holds -/
theorem am_known {args : Array Value} {s : State} {b : Nat} (hts : ∀ w ∈ lw_tbl, w.before args s = true) (hn : narrow_1.before args s = true) : ∃ G : am_G, G.1 = s.heap.size ∧ G.2.1.1 0 = b ∧ G.2.1.2 = s.heap ∧ am_Kn G s := by
  have ht : ∀ w ∈ am_ws, w.before args s = true := fun w hw => hts w (am_ws_in w hw)
  have K : ∀ (i : Nat), i < 12 → ∃ q : ClassId × (Nat → Nat), ∀ r : vw_C, vwCl[i]? = some r → u_Kn s r.1 r.2.1 r.2.2 q.1 q.2 := by
    intro i hi
    have key : ∀ (C : String) (T : u_T) (N : Nat), vwCl[i]? = some (C, T, N) → (∀ w ∈ u_ws C T N, w ∈ am_ws) → Cond.instantiable C N ∈ am_ws → ∃ q : ClassId × (Nat → Nat), ∀ r : vw_C, vwCl[i]? = some r → u_Kn s r.1 r.2.1 r.2.2 q.1 q.2 := by
      intro C T N e1 e2 e3
      obtain ⟨cC, iS, h⟩ := u_known (C := C) (T := T) (N := N) (n := N) ht e2 (ht _ e3)
      exact ⟨(cC, iS), fun r hr => by cases hr.symm.trans e1; exact h⟩
    match i, hi with
    | 0, _ => exact key RX0 TX0 3 rfl inX0 wd197
    | 1, _ => exact key RX1 TX1 1 rfl inX1 wd508
    | 2, _ => exact key RX2 TX2 2 rfl inX2 wd368
    | 3, _ => exact key RX3 TX3 10 rfl inX3 wd374
    | 4, _ => exact key RX4 TX4 4 rfl inX4 wd215
    | 5, _ => exact key RX5 TX5 14 rfl inX5 wd163
    | 6, _ => exact key RX6 TX6 13 rfl inX6 wd234
    | 7, _ => exact key RX7 TX7 4 rfl inX7 wd171
    | 8, _ => exact key RX8 TX8 17 rfl inX8 wd477
    | 9, _ => exact key RX9 TX9 5 rfl inX9 wd483
    | 10, _ => exact key RX10 TX10 17 rfl inX10 wd155
    | 11, _ => exact key RX11 TX11 83 rfl inX11 wd1328
  obtain ⟨dq, hdq⟩ : ∃ dq : Nat → ClassId × (Nat → Nat), ∀ (i : Nat) (r : vw_C), vwCl[i]? = some r → u_Kn s r.1 r.2.1 r.2.2 (dq i).1 (dq i).2 := by
    have h0 : ∀ i : Nat, ∃ q : ClassId × (Nat → Nat), ∀ r : vw_C, vwCl[i]? = some r → u_Kn s r.1 r.2.1 r.2.2 q.1 q.2 := by
      intro i
      by_cases hi : i < 12
      · exact K i hi
      · exact ⟨(0, fun _ => 0), fun r hr => absurd (List.getElem?_eq_some_iff.mp hr).1 hi⟩
    exact Classical.axiomOfChoice h0
  obtain ⟨c0, k0, p0, f0, g0, e0⟩ := Cond.arrayClass_spec (ht _ wd195)
  obtain ⟨c1, k1, p1, f1, g1, e1⟩ := Cond.arrayClass_spec (ht _ wd303)
  obtain ⟨c2, k2, p2, f2, g2, e2⟩ := Cond.arrayClass_spec (ht _ wd304)
  obtain ⟨p3, c3, k3, a3, b3, g3, e3, f3⟩ := Cond.arrayOver_spec (hts (Cond.arrayOver (.object "ToldTracks$Ship")) (List.mem_append_right _ (List.mem_append_left _ (List.mem_of_getElem? (i := 36) rfl))))
  obtain ⟨p4, c4, k4, a4, b4, g4, e4, f4⟩ := Cond.arrayOver_spec (hts (Cond.arrayOver (.object "ToldTracks$Track")) (List.mem_append_right _ (List.mem_append_right _ (List.mem_append_left _ (List.mem_of_getElem? (i := 103) rfl)))))
  obtain ⟨p5, c5, k5, a5, b5, g5, e5, f5⟩ := am_aolong (hts (Cond.arrayOver (.array .long)) (List.mem_append_right _ (List.mem_append_right _ (List.mem_append_left _ (List.mem_of_getElem? (i := 116) rfl)))))
  have hJ : p5 = c1 := by
    have e : "[" ++ FieldType.long.toString = "[J" := by decide +kernel
    rw [e] at f1
    exact Option.some.inj (a5.symm.trans f1)
  subst hJ
  obtain ⟨b1, b2, b3, b4, hbR, hbS⟩ := am_strs hts hn b
  refine ⟨(s.heap.size, (am_of b b1 b2 b3 b4, s.heap), (fun k => match k with | 0 => c0 | 1 => p5 | 2 => c2 | 3 => c3 | 4 => c4 | _ => c5), (fun i => (dq i).1, fun i => (dq i).2)), rfl, rfl, rfl, ⟨hdq, ?_⟩, ?_, ?_, ?_, ?_, hbR, hbS _ (fun a ha h => absurd h (by omega))⟩
  · intro k q hk
    match k, hk with
    | 0, hk => cases hk; exact ⟨am_arrT g0 e0, f0⟩
    | 1, hk => cases hk; exact ⟨am_arrT g1 e1, f1⟩
    | 2, hk => cases hk; exact ⟨am_arrT g2 e2, f2⟩
    | 3, hk => cases hk; exact ⟨am_arrT g3 e3, k3, p3, g3, e3, a3, f3⟩
    | 4, hk => cases hk; exact ⟨am_arrT g4 e4, k4, p4, g4, e4, a4, f4⟩
    | 5, hk => cases hk; exact ⟨am_arrT g5 e5, f5⟩
    | k + 6, hk => cases hk
  · intro w hw
    have h1 := (List.mem_filter.mp hw)
    have h2 := hts w h1.1
    have h3 := h1.2
    cases w <;> simp [am_isN] at h3
    exact va_Nw.of rfl h2
  · exact ⟨k5, k1, g5, e5, g1, b5⟩
  · exact va_AO.of (hts (Cond.arrayOver (.object "ToldTracks$Ship")) (List.mem_append_right _ (List.mem_append_left _ (List.mem_of_getElem? (i := 36) rfl))))
  · exact va_AO.of (hts (Cond.arrayOver (.object "ToldTracks$Track")) (List.mem_append_right _ (List.mem_append_right _ (List.mem_append_left _ (List.mem_of_getElem? (i := 103) rfl)))))
end
section
/-! contracts of methods that no native entry runs instead (plainFor: method by method, so java/lang/Math's too) -/
theorem am_ofWF {l : Launch} {y : MethodName} {ws ws' : List Cond} {rm : Room} {Pc : Array Value → State → Prop} {Qc : Array Value → State → Outcome → State → Prop} {mc ms : Nat} {free : Addr → Prop} {cc : ByteArray} {maxL : Nat} {ret : Option FieldType}
    (hy : plainFor y = true) (hw : ws = Cond.code y cc maxL ret :: ws')
    (body : ∀ p e s m args below meth c s₁, BodyLoose p l y (headSpec ws rm) cc maxL ret e s m args below meth c s₁ → c.maxLocals = maxL → Pc args s →
      W p l e (headSpec ws rm).room s m args below meth c s.heap [] 0 0 (MQ below Qc args s mc ms free) (entryFrame m args maxL)) : Met l y ws rm Pc Qc mc ms free := by
  refine MetFree.of_bodySF (code := cc) (maxLocals := maxL) (ret := ret) hy ?_ ?_
  · intro args s m h hn
    obtain ⟨meth, c, h1, h2, h3, h4, h5, h6, -, -⟩ := Cond.code_spec hn (atoms_spec (ws := ws) h _ (by rw [hw]; exact List.mem_cons_self))
    exact ⟨meth, c, h1, h2, h3, h4, h5, h6⟩
  · intro p e s m args below meth c s₁ B hml hP _
    have hh0 : s₁.heap = s.heap := by rw [B.state]; rfl
    obtain ⟨t, a1, o, b1, b2, b3⟩ := body p e s m args below meth c s₁ B hml hP s₁ hh0 (Stand.of_body B)
    exact ⟨t, o, a1, b1, b2, ⟨b3.1, b3.2⟩⟩
theorem am_metF {P : Nat → am_Y} (hP : ∀ y, am_SndM P y) (hpl : ∀ y, plainFor (P y).1 = true) (G : am_G) (l : Launch) : ∀ (d n y : Nat) (as : List Value) (M : am_M) (r : Option Value) (M2 : am_M), am_aok P y as → am_run P n d (P y).2.2.2.2 0 (am_pad (P y).2.2.1 (am_en as)) [] M = some (r, M2) → am_Met P G l y d as M r M2 := by
  intro d
  induction d using Nat.strongRecOn with
  | _ d ih =>
    intro n y as M r M2 hok hrun
    have hgrow := am_run_grows hP n d _ _ _ _ _ _ _ _ _ _ _ _ (hP y) hrun
    unfold am_Met
    refine am_ofWF (cc := (P y).2.1) (maxL := (P y).2.2.1) (ret := (P y).2.2.2.1) (hpl y) rfl ?_
    intro p e s m args below meth c s₁ B hml hv
    obtain ⟨rfl, hR, hK⟩ := hv
    have hC : am_Cx G (P y).1.cls (P y).2.1 (P y).2.2.1 (P y).2.2.2.1 (P y).1.name p s m (as.map (am_v G)).toArray meth c := ⟨B.exec, B.bytes, hml, findClass_of_methodNamed B.named, fun w hw => atoms_spec (ws := .code (P y).1 (P y).2.1 (P y).2.2.1 (P y).2.2.2.1 :: am_ws) B.pre w (List.mem_cons_of_mem _ hw), B.returns, B.notSynchronized, (name_of_methodNamed B.named B.method).1, hK, by rw [hR.1]; exact Nat.le_add_right _ _⟩
    have key := am_run_V hP (G := G) (l := l) (d0 := d) (fun n' d' y' as' M' r' M2' hd' hok' hrun' => ih d' hd' n' y' as' M' r' M2' hok' hrun') (hP y) (e := e) (below := below) hC (c0 := mC M) (w0 := mW M) (R := am_rm d (mC M2 - mC M) (mW M2 - mW M)) (Q := MQ below (am_Qc G r M2) (as.map (am_v G)).toArray s (mC M2 - mC M) (mW M2 - mW M) (am_free G)) (r := r) (M2 := M2) (by show mC M2 ≤ mC M + (mC M2 - mC M); omega) (by show mW M2 ≤ mW M + (mW M2 - mW M); omega)
      (fun pc lv st heq => ((hP y pc lv st M2).2.1 r M2 heq).2 G p l e _ s m _ below meth c (mC M) (mW M) (am_Qc G r M2) (mC M2 - mC M) (mW M2 - mW M) hC (by omega) (by omega) (fun t hW hR' hF => ⟨rfl, hR', hF⟩)) n d 0 _ [] M (Nat.le_refl _) hrun (Nat.le_refl _) (Nat.le_refl _)
    have key2 := key s.heap [] _ 0 0 hR va_S.rf (am_L_entry G hok.1 hok.2) rfl rfl
    rw [lg_entry_eq]
    exact key2
end
section
/-! every method of the program is followed (by program: wip/whole/tools/gen_hp.py) -/
def am_PR (q : am_Y) : Prop := plainFor q.1 = true ∧ ∀ pc, am_Snd am_P0 q.1.cls q.2.1 q.2.2.1 q.2.2.2.1 q.1.name pc (q.2.2.2.2 pc)
theorem am_Snd_no {P : Nat → am_Y} {own : String} {cc : ByteArray} {nL : Nat} {ret : Option FieldType} {nm : String} {pc : Nat} : am_Snd P own cc nL ret nm pc (fun _ _ _ => none) := fun lv st M => ⟨fun _ _ _ _ h => (by cases h), fun _ _ h => (by cases h), fun _ _ _ _ _ _ h => (by cases h)⟩
theorem am_lkS {P : Nat → am_Y} {own : String} {cc : ByteArray} {nL : Nat} {ret : Option FieldType} {nm : String} : ∀ {t : List (Nat × am_Act)}, (∀ q ∈ t, am_Snd P own cc nL ret nm q.1 q.2) → ∀ pc, am_Snd P own cc nL ret nm pc (am_look t pc) := by
  intro t
  induction t with
  | nil => intro _ pc; exact am_Snd_no
  | cons q t ih =>
    intro h pc
    obtain ⟨k, a⟩ := q
    rw [am_look]
    by_cases e : pc = k
    · rw [if_pos e, e]; exact h (k, a) List.mem_cons_self
    · rw [if_neg e]; exact ih (fun x hx => h x (List.mem_cons_of_mem _ hx)) pc
theorem am_pf0 : ([yJ13_bitCount_95d88, yJ9_floorDiv_f86c9, yJ9_floorMod_f86c9, yJ9_abs_0f7a4, yJ9_max_7cf53, yJ9_max_f86c9, yJ9_min_7cf53, yJ9_min_f86c9, yJ0_length_8abf5, yJ0_charAt_5068e, yJ0_coder_7d493, yJ0_isLatin1_aae02, yJ0_checkIndex_df160, yJ1_charAt_3b067, yJ2_getChar_3b067, yJ2_length_9d52b, yJ2_charAt_3b067, yJ2_checkIndex_2214a, yJ7_rangeCheck_23922, yJ7_fill_d0a16, yJ7_fill_bad5a, yJ7_fill_53178, yJ3_checkIndex_8e157].all plainFor) = true := by decide +kernel
theorem am_pf : ∀ y ∈ [yJ13_bitCount_95d88, yJ9_floorDiv_f86c9, yJ9_floorMod_f86c9, yJ9_abs_0f7a4, yJ9_max_7cf53, yJ9_max_f86c9, yJ9_min_7cf53, yJ9_min_f86c9, yJ0_length_8abf5, yJ0_charAt_5068e, yJ0_coder_7d493, yJ0_isLatin1_aae02, yJ0_checkIndex_df160, yJ1_charAt_3b067, yJ2_getChar_3b067, yJ2_length_9d52b, yJ2_charAt_3b067, yJ2_checkIndex_2214a, yJ7_rangeCheck_23922, yJ7_fill_d0a16, yJ7_fill_bad5a, yJ7_fill_53178, yJ3_checkIndex_8e157], plainFor y = true := List.all_eq_true.mp am_pf0
theorem pnX0 : plainName RX0 = true := by decide +kernel
theorem pnX1 : plainName RX1 = true := by decide +kernel
theorem pnX2 : plainName RX2 = true := by decide +kernel
theorem pnX3 : plainName RX3 = true := by decide +kernel
theorem pnX4 : plainName RX4 = true := by decide +kernel
theorem pnX5 : plainName RX5 = true := by decide +kernel
theorem pnX6 : plainName RX6 = true := by decide +kernel
theorem pnX7 : plainName RX7 = true := by decide +kernel
theorem pnX8 : plainName RX8 = true := by decide +kernel
theorem pnX9 : plainName RX9 = true := by decide +kernel
theorem pnX10 : plainName RX10 = true := by decide +kernel
theorem pnX11 : plainName RX11 = true := by decide +kernel
theorem am_pr0 : ∀ q ∈ am_pg0, am_PR q := by
  unfold am_pg0
  refine List.forall_mem_cons.mpr ⟨⟨plainFor_of_name (x := yX0_init) pnX0, am_lkS sn_tX0_init⟩, ?_⟩
  refine List.forall_mem_cons.mpr ⟨⟨plainFor_of_name (x := yX0_emit) pnX0, am_lkS sn_tX0_emit⟩, ?_⟩
  refine List.forall_mem_cons.mpr ⟨⟨plainFor_of_name (x := yX0_valueOf) pnX0, am_lkS sn_tX0_valueOf⟩, ?_⟩
  refine List.forall_mem_cons.mpr ⟨⟨plainFor_of_name (x := yX0_partOf) pnX0, am_lkS sn_tX0_partOf⟩, ?_⟩
  refine List.forall_mem_cons.mpr ⟨⟨plainFor_of_name (x := yX0_joined) pnX0, am_lkS sn_tX0_joined⟩, ?_⟩
  refine List.forall_mem_cons.mpr ⟨⟨plainFor_of_name (x := yX1_init) pnX1, am_lkS sn_tX1_init⟩, ?_⟩
  refine List.forall_mem_cons.mpr ⟨⟨plainFor_of_name (x := yX1_clear) pnX1, am_lkS sn_tX1_clear⟩, ?_⟩
  refine List.forall_mem_cons.mpr ⟨⟨plainFor_of_name (x := yX1_put) pnX1, am_lkS sn_tX1_put⟩, ?_⟩
  refine List.forall_mem_cons.mpr ⟨⟨plainFor_of_name (x := yX1_holds) pnX1, am_lkS sn_tX1_holds⟩, ?_⟩
  refine List.forall_mem_cons.mpr ⟨⟨plainFor_of_name (x := yX2_init) pnX2, am_lkS sn_tX2_init⟩, ?_⟩
  refine List.forall_mem_cons.mpr ⟨⟨plainFor_of_name (x := yX2_open) pnX2, am_lkS sn_tX2_open⟩, ?_⟩
  refine List.forall_mem_cons.mpr ⟨⟨plainFor_of_name (x := yX2_readStatement) pnX2, am_lkS sn_tX2_readStatement⟩, ?_⟩
  refine List.forall_mem_cons.mpr ⟨⟨plainFor_of_name (x := yX2_readSize) pnX2, am_lkS sn_tX2_readSize⟩, ?_⟩
  refine List.forall_mem_cons.mpr ⟨⟨plainFor_of_name (x := yX2_beginStatement) pnX2, am_lkS sn_tX2_beginStatement⟩, ?_⟩
  refine List.forall_mem_cons.mpr ⟨⟨plainFor_of_name (x := yX2_readRule) pnX2, am_lkS sn_tX2_readRule⟩, ?_⟩
  refine List.forall_mem_cons.mpr ⟨⟨plainFor_of_name (x := yX2_takeAfter) pnX2, am_lkS sn_tX2_takeAfter⟩, ?_⟩
  refine List.forall_mem_cons.mpr ⟨⟨plainFor_of_name (x := yX2_readShip) pnX2, am_lkS sn_tX2_readShip⟩, ?_⟩
  refine List.forall_mem_cons.mpr ⟨⟨plainFor_of_name (x := yX2_takeShip) pnX2, am_lkS sn_tX2_takeShip⟩, ?_⟩
  refine List.forall_mem_cons.mpr ⟨⟨plainFor_of_name (x := yX2_takePlace) pnX2, am_lkS sn_tX2_takePlace⟩, ?_⟩
  refine List.forall_mem_cons.mpr ⟨⟨plainFor_of_name (x := yX2_readSaying) pnX2, am_lkS sn_tX2_readSaying⟩, ?_⟩
  refine List.forall_mem_cons.mpr ⟨⟨plainFor_of_name (x := yX2_readBook) pnX2, am_lkS sn_tX2_readBook⟩, ?_⟩
  refine List.forall_mem_cons.mpr ⟨⟨plainFor_of_name (x := yX2_readSighting) pnX2, am_lkS sn_tX2_readSighting⟩, ?_⟩
  refine List.forall_mem_cons.mpr ⟨⟨plainFor_of_name (x := yX2_readTest) pnX2, am_lkS sn_tX2_readTest⟩, ?_⟩
  refine List.forall_mem_cons.mpr ⟨⟨plainFor_of_name (x := yX2_readBoth) pnX2, am_lkS sn_tX2_readBoth⟩, ?_⟩
  refine List.forall_mem_cons.mpr ⟨⟨plainFor_of_name (x := yX2_readFact) pnX2, am_lkS sn_tX2_readFact⟩, ?_⟩
  refine List.forall_mem_cons.mpr ⟨⟨plainFor_of_name (x := yX2_takeComparison) pnX2, am_lkS sn_tX2_takeComparison⟩, ?_⟩
  refine List.forall_mem_cons.mpr ⟨⟨plainFor_of_name (x := yX2_readSum) pnX2, am_lkS sn_tX2_readSum⟩, ?_⟩
  refine List.forall_mem_cons.mpr ⟨⟨plainFor_of_name (x := yX2_readProduct) pnX2, am_lkS sn_tX2_readProduct⟩, ?_⟩
  refine List.forall_mem_cons.mpr ⟨⟨plainFor_of_name (x := yX2_timesSign) pnX2, am_lkS sn_tX2_timesSign⟩, ?_⟩
  refine List.forall_mem_cons.mpr ⟨⟨plainFor_of_name (x := yX2_readPart) pnX2, am_lkS sn_tX2_readPart⟩, ?_⟩
  refine List.forall_mem_cons.mpr ⟨⟨plainFor_of_name (x := yX2_readLeaf) pnX2, am_lkS sn_tX2_readLeaf⟩, ?_⟩
  refine List.forall_mem_cons.mpr ⟨⟨plainFor_of_name (x := yX2_readChoice) pnX2, am_lkS sn_tX2_readChoice⟩, ?_⟩
  refine List.forall_mem_cons.mpr ⟨⟨plainFor_of_name (x := yX2_takeOpening) pnX2, am_lkS sn_tX2_takeOpening⟩, ?_⟩
  refine List.forall_mem_cons.mpr ⟨⟨plainFor_of_name (x := yX3_init) pnX3, am_lkS sn_tX3_init⟩, ?_⟩
  refine List.forall_mem_cons.mpr ⟨⟨plainFor_of_name (x := yX3_open) pnX3, am_lkS sn_tX3_open⟩, ?_⟩
  refine List.forall_mem_cons.mpr ⟨⟨plainFor_of_name (x := yX3_step) pnX3, am_lkS sn_tX3_step⟩, ?_⟩
  refine List.forall_mem_cons.mpr ⟨⟨plainFor_of_name (x := yX3_ownWord) pnX3, am_lkS sn_tX3_ownWord⟩, ?_⟩
  refine List.forall_mem_cons.mpr ⟨⟨plainFor_of_name (x := yX3_kindOf) pnX3, am_lkS sn_tX3_kindOf⟩, ?_⟩
  refine List.forall_mem_cons.mpr ⟨⟨plainFor_of_name (x := yX3_refuseAt) pnX3, am_lkS sn_tX3_refuseAt⟩, ?_⟩
  refine List.forall_mem_cons.mpr ⟨⟨plainFor_of_name (x := yX3_refuse) pnX3, am_lkS sn_tX3_refuse⟩, ?_⟩
  exact fun _ h => absurd h List.not_mem_nil
theorem am_pr1 : ∀ q ∈ am_pg1, am_PR q := by
  unfold am_pg1
  refine List.forall_mem_cons.mpr ⟨⟨plainFor_of_name (x := yX3_isSign) pnX3, am_lkS sn_tX3_isSign⟩, ?_⟩
  refine List.forall_mem_cons.mpr ⟨⟨plainFor_of_name (x := yX3_takeSign) pnX3, am_lkS sn_tX3_takeSign⟩, ?_⟩
  refine List.forall_mem_cons.mpr ⟨⟨plainFor_of_name (x := yX3_takeWord) pnX3, am_lkS sn_tX3_takeWord⟩, ?_⟩
  refine List.forall_mem_cons.mpr ⟨⟨plainFor_of_name (x := yX3_checkNumber) pnX3, am_lkS sn_tX3_checkNumber⟩, ?_⟩
  refine List.forall_mem_cons.mpr ⟨⟨plainFor_of_name (x := yX3_takeNumber) pnX3, am_lkS sn_tX3_takeNumber⟩, ?_⟩
  refine List.forall_mem_cons.mpr ⟨⟨plainFor_of_name (x := yX3_checkName) pnX3, am_lkS sn_tX3_checkName⟩, ?_⟩
  refine List.forall_mem_cons.mpr ⟨⟨plainFor_of_name (x := yX4_init) pnX4, am_lkS sn_tX4_init⟩, ?_⟩
  refine List.forall_mem_cons.mpr ⟨⟨plainFor_of_name (x := yX4_isFull) pnX4, am_lkS sn_tX4_isFull⟩, ?_⟩
  refine List.forall_mem_cons.mpr ⟨⟨plainFor_of_name (x := yX4_append) pnX4, am_lkS sn_tX4_append⟩, ?_⟩
  refine List.forall_mem_cons.mpr ⟨⟨plainFor_of_name (x := yX4_firstHolding) pnX4, am_lkS sn_tX4_firstHolding⟩, ?_⟩
  refine List.forall_mem_cons.mpr ⟨⟨plainFor_of_name (x := yX4_firstSum) pnX4, am_lkS sn_tX4_firstSum⟩, ?_⟩
  refine List.forall_mem_cons.mpr ⟨⟨plainFor_of_name (x := yX5_init) pnX5, am_lkS sn_tX5_init⟩, ?_⟩
  refine List.forall_mem_cons.mpr ⟨⟨plainFor_of_name (x := yX5_clear) pnX5, am_lkS sn_tX5_clear⟩, ?_⟩
  refine List.forall_mem_cons.mpr ⟨⟨plainFor_of_name (x := yX5_measure) pnX5, am_lkS sn_tX5_measure⟩, ?_⟩
  refine List.forall_mem_cons.mpr ⟨⟨plainFor_of_name (x := yX5_costAt) pnX5, am_lkS sn_tX5_costAt⟩, ?_⟩
  refine List.forall_mem_cons.mpr ⟨⟨plainFor_of_name (x := yX5_isQuiet) pnX5, am_lkS sn_tX5_isQuiet⟩, ?_⟩
  refine List.forall_mem_cons.mpr ⟨⟨plainFor_of_name (x := yX5_placeAt) pnX5, am_lkS sn_tX5_placeAt⟩, ?_⟩
  refine List.forall_mem_cons.mpr ⟨⟨plainFor_of_name (x := yX5_placeOf) pnX5, am_lkS sn_tX5_placeOf⟩, ?_⟩
  refine List.forall_mem_cons.mpr ⟨⟨plainFor_of_name (x := yX5_numberOf) pnX5, am_lkS sn_tX5_numberOf⟩, ?_⟩
  refine List.forall_mem_cons.mpr ⟨⟨plainFor_of_name (x := yX5_countSayings) pnX5, am_lkS sn_tX5_countSayings⟩, ?_⟩
  refine List.forall_mem_cons.mpr ⟨⟨plainFor_of_name (x := yX5_countSayers) pnX5, am_lkS sn_tX5_countSayers⟩, ?_⟩
  refine List.forall_mem_cons.mpr ⟨⟨plainFor_of_name (x := yX5_countBooks) pnX5, am_lkS sn_tX5_countBooks⟩, ?_⟩
  refine List.forall_mem_cons.mpr ⟨⟨plainFor_of_name (x := yX5_shipNamed) pnX5, am_lkS sn_tX5_shipNamed⟩, ?_⟩
  refine List.forall_mem_cons.mpr ⟨⟨plainFor_of_name (x := yX5_launch) pnX5, am_lkS sn_tX5_launch⟩, ?_⟩
  refine List.forall_mem_cons.mpr ⟨⟨plainFor_of_name (x := yX6_init) pnX6, am_lkS sn_tX6_init⟩, ?_⟩
  refine List.forall_mem_cons.mpr ⟨⟨plainFor_of_name (x := yX6_hasSaid) pnX6, am_lkS sn_tX6_hasSaid⟩, ?_⟩
  refine List.forall_mem_cons.mpr ⟨⟨plainFor_of_name (x := yX6_insert) pnX6, am_lkS sn_tX6_insert⟩, ?_⟩
  refine List.forall_mem_cons.mpr ⟨⟨plainFor_of_name (x := yX6_remove) pnX6, am_lkS sn_tX6_remove⟩, ?_⟩
  refine List.forall_mem_cons.mpr ⟨⟨plainFor_of_name (x := yX6_enterBook) pnX6, am_lkS sn_tX6_enterBook⟩, ?_⟩
  refine List.forall_mem_cons.mpr ⟨⟨plainFor_of_name (x := yX6_hoursToBook) pnX6, am_lkS sn_tX6_hoursToBook⟩, ?_⟩
  refine List.forall_mem_cons.mpr ⟨⟨plainFor_of_name (x := yX7_init) pnX7, am_lkS sn_tX7_init⟩, ?_⟩
  refine List.forall_mem_cons.mpr ⟨⟨plainFor_of_name (x := yX7_append) pnX7, am_lkS sn_tX7_append⟩, ?_⟩
  refine List.forall_mem_cons.mpr ⟨⟨plainFor_of_name (x := yX8_init) pnX8, am_lkS sn_tX8_init⟩, ?_⟩
  refine List.forall_mem_cons.mpr ⟨⟨plainFor_of_name (x := yX8_begin) pnX8, am_lkS sn_tX8_begin⟩, ?_⟩
  refine List.forall_mem_cons.mpr ⟨⟨plainFor_of_name (x := yX8_forget) pnX8, am_lkS sn_tX8_forget⟩, ?_⟩
  refine List.forall_mem_cons.mpr ⟨⟨plainFor_of_name (x := yX8_isSound) pnX8, am_lkS sn_tX8_isSound⟩, ?_⟩
  refine List.forall_mem_cons.mpr ⟨⟨plainFor_of_name (x := yX8_goTogether) pnX8, am_lkS sn_tX8_goTogether⟩, ?_⟩
  refine List.forall_mem_cons.mpr ⟨⟨plainFor_of_name (x := yX8_layBooks) pnX8, am_lkS sn_tX8_layBooks⟩, ?_⟩
  refine List.forall_mem_cons.mpr ⟨⟨plainFor_of_name (x := yX8_laySayings) pnX8, am_lkS sn_tX8_laySayings⟩, ?_⟩
  refine List.forall_mem_cons.mpr ⟨⟨plainFor_of_name (x := yX8_fits) pnX8, am_lkS sn_tX8_fits⟩, ?_⟩
  exact fun _ h => absurd h List.not_mem_nil
theorem am_pr2 : ∀ q ∈ am_pg2, am_PR q := by
  unfold am_pg2
  refine List.forall_mem_cons.mpr ⟨⟨plainFor_of_name (x := yX8_firstBar) pnX8, am_lkS sn_tX8_firstBar⟩, ?_⟩
  refine List.forall_mem_cons.mpr ⟨⟨plainFor_of_name (x := yX8_findClock) pnX8, am_lkS sn_tX8_findClock⟩, ?_⟩
  refine List.forall_mem_cons.mpr ⟨⟨plainFor_of_name (x := yX8_staysWith) pnX8, am_lkS sn_tX8_staysWith⟩, ?_⟩
  refine List.forall_mem_cons.mpr ⟨⟨plainFor_of_name (x := yX8_settle) pnX8, am_lkS sn_tX8_settle⟩, ?_⟩
  refine List.forall_mem_cons.mpr ⟨⟨plainFor_of_name (x := yX8_markAlone) pnX8, am_lkS sn_tX8_markAlone⟩, ?_⟩
  refine List.forall_mem_cons.mpr ⟨⟨plainFor_of_name (x := yX8_countChains) pnX8, am_lkS sn_tX8_countChains⟩, ?_⟩
  refine List.forall_mem_cons.mpr ⟨⟨plainFor_of_name (x := yX8_keep) pnX8, am_lkS sn_tX8_keep⟩, ?_⟩
  refine List.forall_mem_cons.mpr ⟨⟨plainFor_of_name (x := yX8_findMay) pnX8, am_lkS sn_tX8_findMay⟩, ?_⟩
  refine List.forall_mem_cons.mpr ⟨⟨plainFor_of_name (x := yX8_mayBe) pnX8, am_lkS sn_tX8_mayBe⟩, ?_⟩
  refine List.forall_mem_cons.mpr ⟨⟨plainFor_of_name (x := yX8_countMay) pnX8, am_lkS sn_tX8_countMay⟩, ?_⟩
  refine List.forall_mem_cons.mpr ⟨⟨plainFor_of_name (x := yX8_countShared) pnX8, am_lkS sn_tX8_countShared⟩, ?_⟩
  refine List.forall_mem_cons.mpr ⟨⟨plainFor_of_name (x := yX8_clashAlone) pnX8, am_lkS sn_tX8_clashAlone⟩, ?_⟩
  refine List.forall_mem_cons.mpr ⟨⟨plainFor_of_name (x := yX8_clashOfTwo) pnX8, am_lkS sn_tX8_clashOfTwo⟩, ?_⟩
  refine List.forall_mem_cons.mpr ⟨⟨plainFor_of_name (x := yX8_ownKinds) pnX8, am_lkS sn_tX8_ownKinds⟩, ?_⟩
  refine List.forall_mem_cons.mpr ⟨⟨plainFor_of_name (x := yX8_canPart) pnX8, am_lkS sn_tX8_canPart⟩, ?_⟩
  refine List.forall_mem_cons.mpr ⟨⟨plainFor_of_name (x := yX8_pushApart) pnX8, am_lkS sn_tX8_pushApart⟩, ?_⟩
  refine List.forall_mem_cons.mpr ⟨⟨plainFor_of_name (x := yX8_isMarked) pnX8, am_lkS sn_tX8_isMarked⟩, ?_⟩
  refine List.forall_mem_cons.mpr ⟨⟨plainFor_of_name (x := yX8_hoursBetweenEnds) pnX8, am_lkS sn_tX8_hoursBetweenEnds⟩, ?_⟩
  refine List.forall_mem_cons.mpr ⟨⟨plainFor_of_name (x := yX8_countGaps) pnX8, am_lkS sn_tX8_countGaps⟩, ?_⟩
  refine List.forall_mem_cons.mpr ⟨⟨plainFor_of_name (x := yX8_isHonest) pnX8, am_lkS sn_tX8_isHonest⟩, ?_⟩
  refine List.forall_mem_cons.mpr ⟨⟨plainFor_of_name (x := yX8_hoursOfChange) pnX8, am_lkS sn_tX8_hoursOfChange⟩, ?_⟩
  refine List.forall_mem_cons.mpr ⟨⟨plainFor_of_name (x := yX9_init) pnX9, am_lkS sn_tX9_init⟩, ?_⟩
  refine List.forall_mem_cons.mpr ⟨⟨plainFor_of_name (x := yX9_begin) pnX9, am_lkS sn_tX9_begin⟩, ?_⟩
  refine List.forall_mem_cons.mpr ⟨⟨plainFor_of_name (x := yX9_isWater) pnX9, am_lkS sn_tX9_isWater⟩, ?_⟩
  refine List.forall_mem_cons.mpr ⟨⟨plainFor_of_name (x := yX9_isWithin) pnX9, am_lkS sn_tX9_isWithin⟩, ?_⟩
  refine List.forall_mem_cons.mpr ⟨⟨plainFor_of_name (x := yX9_ringsOf) pnX9, am_lkS sn_tX9_ringsOf⟩, ?_⟩
  refine List.forall_mem_cons.mpr ⟨⟨plainFor_of_name (x := yX9_widen) pnX9, am_lkS sn_tX9_widen⟩, ?_⟩
  refine List.forall_mem_cons.mpr ⟨⟨plainFor_of_name (x := yX9_hoursBetween) pnX9, am_lkS sn_tX9_hoursBetween⟩, ?_⟩
  refine List.forall_mem_cons.mpr ⟨⟨plainFor_of_name (x := yX10_init) pnX10, am_lkS sn_tX10_init⟩, ?_⟩
  refine List.forall_mem_cons.mpr ⟨⟨plainFor_of_name (x := yX10_feed) pnX10, am_lkS sn_tX10_feed⟩, ?_⟩
  refine List.forall_mem_cons.mpr ⟨⟨plainFor_of_name (x := yX10_end) pnX10, am_lkS sn_tX10_end⟩, ?_⟩
  refine List.forall_mem_cons.mpr ⟨⟨plainFor_of_name (x := yX10_sea) pnX10, am_lkS sn_tX10_sea⟩, ?_⟩
  refine List.forall_mem_cons.mpr ⟨⟨plainFor_of_name (x := yX10_fault) pnX10, am_lkS sn_tX10_fault⟩, ?_⟩
  refine List.forall_mem_cons.mpr ⟨⟨plainFor_of_name (x := yX10_has) pnX10, am_lkS sn_tX10_has⟩, ?_⟩
  refine List.forall_mem_cons.mpr ⟨⟨plainFor_of_name (x := yX10_letter) pnX10, am_lkS sn_tX10_letter⟩, ?_⟩
  refine List.forall_mem_cons.mpr ⟨⟨plainFor_of_name (x := yX10_ship) pnX10, am_lkS sn_tX10_ship⟩, ?_⟩
  refine List.forall_mem_cons.mpr ⟨⟨plainFor_of_name (x := yX10_saying) pnX10, am_lkS sn_tX10_saying⟩, ?_⟩
  refine List.forall_mem_cons.mpr ⟨⟨plainFor_of_name (x := yX10_cell) pnX10, am_lkS sn_tX10_cell⟩, ?_⟩
  refine List.forall_mem_cons.mpr ⟨⟨plainFor_of_name (x := yX10_far) pnX10, am_lkS sn_tX10_far⟩, ?_⟩
  refine List.forall_mem_cons.mpr ⟨⟨plainFor_of_name (x := yX10_can) pnX10, am_lkS sn_tX10_can⟩, ?_⟩
  exact fun _ h => absurd h List.not_mem_nil
theorem am_pr3 : ∀ q ∈ am_pg3, am_PR q := by
  unfold am_pg3
  refine List.forall_mem_cons.mpr ⟨⟨plainFor_of_name (x := yX10_reach) pnX10, am_lkS sn_tX10_reach⟩, ?_⟩
  refine List.forall_mem_cons.mpr ⟨⟨plainFor_of_name (x := yX10_may) pnX10, am_lkS sn_tX10_may⟩, ?_⟩
  refine List.forall_mem_cons.mpr ⟨⟨plainFor_of_name (x := yX10_judge) pnX10, am_lkS sn_tX10_judge⟩, ?_⟩
  refine List.forall_mem_cons.mpr ⟨⟨plainFor_of_name (x := yX10_tale) pnX10, am_lkS sn_tX10_tale⟩, ?_⟩
  refine List.forall_mem_cons.mpr ⟨⟨plainFor_of_name (x := yX10_bars) pnX10, am_lkS sn_tX10_bars⟩, ?_⟩
  refine List.forall_mem_cons.mpr ⟨⟨plainFor_of_name (x := yX10_clash) pnX10, am_lkS sn_tX10_clash⟩, ?_⟩
  refine List.forall_mem_cons.mpr ⟨⟨plainFor_of_name (x := yX10_who) pnX10, am_lkS sn_tX10_who⟩, ?_⟩
  refine List.forall_mem_cons.mpr ⟨⟨plainFor_of_name (x := yX10_swap) pnX10, am_lkS sn_tX10_swap⟩, ?_⟩
  refine List.forall_mem_cons.mpr ⟨⟨plainFor_of_name (x := yX10_kinds) pnX10, am_lkS sn_tX10_kinds⟩, ?_⟩
  refine List.forall_mem_cons.mpr ⟨⟨plainFor_of_name (x := yX10_lies) pnX10, am_lkS sn_tX10_lies⟩, ?_⟩
  refine List.forall_mem_cons.mpr ⟨⟨plainFor_of_name (x := yX10_met) pnX10, am_lkS sn_tX10_met⟩, ?_⟩
  refine List.forall_mem_cons.mpr ⟨⟨plainFor_of_name (x := yX10_sighting) pnX10, am_lkS sn_tX10_sighting⟩, ?_⟩
  refine List.forall_mem_cons.mpr ⟨⟨plainFor_of_name (x := yX10_strange) pnX10, am_lkS sn_tX10_strange⟩, ?_⟩
  refine List.forall_mem_cons.mpr ⟨⟨plainFor_of_name (x := yX10_doubted) pnX10, am_lkS sn_tX10_doubted⟩, ?_⟩
  refine List.forall_mem_cons.mpr ⟨⟨plainFor_of_name (x := yX10_gaps) pnX10, am_lkS sn_tX10_gaps⟩, ?_⟩
  refine List.forall_mem_cons.mpr ⟨⟨plainFor_of_name (x := yX10_chance) pnX10, am_lkS sn_tX10_chance⟩, ?_⟩
  refine List.forall_mem_cons.mpr ⟨⟨plainFor_of_name (x := yX10_beyond) pnX10, am_lkS sn_tX10_beyond⟩, ?_⟩
  refine List.forall_mem_cons.mpr ⟨⟨plainFor_of_name (x := yX10_settles) pnX10, am_lkS sn_tX10_settles⟩, ?_⟩
  refine List.forall_mem_cons.mpr ⟨⟨plainFor_of_name (x := yX10_next) pnX10, am_lkS sn_tX10_next⟩, ?_⟩
  refine List.forall_mem_cons.mpr ⟨⟨plainFor_of_name (x := yX10_off) pnX10, am_lkS sn_tX10_off⟩, ?_⟩
  refine List.forall_mem_cons.mpr ⟨⟨plainFor_of_name (x := yX10_whose) pnX10, am_lkS sn_tX10_whose⟩, ?_⟩
  refine List.forall_mem_cons.mpr ⟨⟨plainFor_of_name (x := yX10_add) pnX10, am_lkS sn_tX10_add⟩, ?_⟩
  refine List.forall_mem_cons.mpr ⟨⟨plainFor_of_name (x := yX10_drop) pnX10, am_lkS sn_tX10_drop⟩, ?_⟩
  refine List.forall_mem_cons.mpr ⟨⟨plainFor_of_name (x := yX10_spot) pnX10, am_lkS sn_tX10_spot⟩, ?_⟩
  refine List.forall_mem_cons.mpr ⟨⟨plainFor_of_name (x := yX10_image) pnX10, am_lkS sn_tX10_image⟩, ?_⟩
  refine List.forall_mem_cons.mpr ⟨⟨plainFor_of_name (x := yX10_octet) pnX10, am_lkS sn_tX10_octet⟩, ?_⟩
  refine List.forall_mem_cons.mpr ⟨⟨plainFor_of_name (x := yX10_on) pnX10, am_lkS sn_tX10_on⟩, ?_⟩
  refine List.forall_mem_cons.mpr ⟨⟨plainFor_of_name (x := yX10_status) pnX10, am_lkS sn_tX10_status⟩, ?_⟩
  refine List.forall_mem_cons.mpr ⟨⟨plainFor_of_name (x := yX10_bit) pnX10, am_lkS sn_tX10_bit⟩, ?_⟩
  refine List.forall_mem_cons.mpr ⟨⟨plainFor_of_name (x := yX10_isHour) pnX10, am_lkS sn_tX10_isHour⟩, ?_⟩
  refine List.forall_mem_cons.mpr ⟨⟨plainFor_of_name (x := yX10_isShip) pnX10, am_lkS sn_tX10_isShip⟩, ?_⟩
  refine List.forall_mem_cons.mpr ⟨⟨plainFor_of_name (x := yX10_isSaying) pnX10, am_lkS sn_tX10_isSaying⟩, ?_⟩
  refine List.forall_mem_cons.mpr ⟨⟨plainFor_of_name (x := yX10_putFour) pnX10, am_lkS sn_tX10_putFour⟩, ?_⟩
  refine List.forall_mem_cons.mpr ⟨⟨plainFor_of_name (x := yX10_forget) pnX10, am_lkS sn_tX10_forget⟩, ?_⟩
  refine List.forall_mem_cons.mpr ⟨⟨plainFor_of_name (x := yX10_settled) pnX10, am_lkS sn_tX10_settled⟩, ?_⟩
  refine List.forall_mem_cons.mpr ⟨⟨plainFor_of_name (x := yX10_sayersOf) pnX10, am_lkS sn_tX10_sayersOf⟩, ?_⟩
  refine List.forall_mem_cons.mpr ⟨⟨plainFor_of_name (x := yX10_kindsOf) pnX10, am_lkS sn_tX10_kindsOf⟩, ?_⟩
  refine List.forall_mem_cons.mpr ⟨⟨plainFor_of_name (x := yX10_plainestOf) pnX10, am_lkS sn_tX10_plainestOf⟩, ?_⟩
  refine List.forall_mem_cons.mpr ⟨⟨plainFor_of_name (x := yX10_explainersOf) pnX10, am_lkS sn_tX10_explainersOf⟩, ?_⟩
  refine List.forall_mem_cons.mpr ⟨⟨plainFor_of_name (x := yX10_chanceOf) pnX10, am_lkS sn_tX10_chanceOf⟩, ?_⟩
  exact fun _ h => absurd h List.not_mem_nil
theorem am_pr4 : ∀ q ∈ am_pg4, am_PR q := by
  unfold am_pg4
  refine List.forall_mem_cons.mpr ⟨⟨plainFor_of_name (x := yX10_findLook) pnX10, am_lkS sn_tX10_findLook⟩, ?_⟩
  refine List.forall_mem_cons.mpr ⟨⟨plainFor_of_name (x := yX10_pileUp) pnX10, am_lkS sn_tX10_pileUp⟩, ?_⟩
  refine List.forall_mem_cons.mpr ⟨⟨plainFor_of_name (x := yX10_write) pnX10, am_lkS sn_tX10_write⟩, ?_⟩
  refine List.forall_mem_cons.mpr ⟨⟨plainFor_of_name (x := yX10_checkOf) pnX10, am_lkS sn_tX10_checkOf⟩, ?_⟩
  refine List.forall_mem_cons.mpr ⟨⟨plainFor_of_name (x := yX10_isImage) pnX10, am_lkS sn_tX10_isImage⟩, ?_⟩
  refine List.forall_mem_cons.mpr ⟨⟨plainFor_of_name (x := yX10_takeImage) pnX10, am_lkS sn_tX10_takeImage⟩, ?_⟩
  refine List.forall_mem_cons.mpr ⟨⟨plainFor_of_name (x := yX11_init) pnX11, am_lkS sn_tX11_init⟩, ?_⟩
  refine List.forall_mem_cons.mpr ⟨⟨plainFor_of_name (x := yX11_is) pnX11, am_lkS sn_tX11_is⟩, ?_⟩
  refine List.forall_mem_cons.mpr ⟨⟨plainFor_of_name (x := yX11_put) pnX11, am_lkS sn_tX11_put⟩, ?_⟩
  refine List.forall_mem_cons.mpr ⟨⟨plainFor_of_name (x := yX11_feed) pnX11, am_lkS sn_tX11_feed⟩, ?_⟩
  refine List.forall_mem_cons.mpr ⟨⟨plainFor_of_name (x := yX11_end) pnX11, am_lkS sn_tX11_end⟩, ?_⟩
  refine List.forall_mem_cons.mpr ⟨⟨plainFor_of_name (x := yX11_blame) pnX11, am_lkS sn_tX11_blame⟩, ?_⟩
  refine List.forall_mem_cons.mpr ⟨⟨plainFor_of_name (x := yX11_isLetter) pnX11, am_lkS sn_tX11_isLetter⟩, ?_⟩
  refine List.forall_mem_cons.mpr ⟨⟨plainFor_of_name (x := yX11_isDigit) pnX11, am_lkS sn_tX11_isDigit⟩, ?_⟩
  refine List.forall_mem_cons.mpr ⟨⟨plainFor_of_name (x := yX11_ahead) pnX11, am_lkS sn_tX11_ahead⟩, ?_⟩
  refine List.forall_mem_cons.mpr ⟨⟨plainFor_of_name (x := yX11_isSign) pnX11, am_lkS sn_tX11_isSign⟩, ?_⟩
  refine List.forall_mem_cons.mpr ⟨⟨plainFor_of_name (x := yX11_isWord) pnX11, am_lkS sn_tX11_isWord⟩, ?_⟩
  refine List.forall_mem_cons.mpr ⟨⟨plainFor_of_name (x := yX11_must) pnX11, am_lkS sn_tX11_must⟩, ?_⟩
  refine List.forall_mem_cons.mpr ⟨⟨plainFor_of_name (x := yX11_isOwn) pnX11, am_lkS sn_tX11_isOwn⟩, ?_⟩
  refine List.forall_mem_cons.mpr ⟨⟨plainFor_of_name (x := yX11_firstRule) pnX11, am_lkS sn_tX11_firstRule⟩, ?_⟩
  refine List.forall_mem_cons.mpr ⟨⟨plainFor_of_name (x := yX11_mostRules) pnX11, am_lkS sn_tX11_mostRules⟩, ?_⟩
  refine List.forall_mem_cons.mpr ⟨⟨plainFor_of_name (x := yX11_named) pnX11, am_lkS sn_tX11_named⟩, ?_⟩
  refine List.forall_mem_cons.mpr ⟨⟨plainFor_of_name (x := yX11_number) pnX11, am_lkS sn_tX11_number⟩, ?_⟩
  refine List.forall_mem_cons.mpr ⟨⟨plainFor_of_name (x := yX11_add) pnX11, am_lkS sn_tX11_add⟩, ?_⟩
  refine List.forall_mem_cons.mpr ⟨⟨plainFor_of_name (x := yX11_rank) pnX11, am_lkS sn_tX11_rank⟩, ?_⟩
  refine List.forall_mem_cons.mpr ⟨⟨plainFor_of_name (x := yX11_joins) pnX11, am_lkS sn_tX11_joins⟩, ?_⟩
  refine List.forall_mem_cons.mpr ⟨⟨plainFor_of_name (x := yX11_holdsBack) pnX11, am_lkS sn_tX11_holdsBack⟩, ?_⟩
  refine List.forall_mem_cons.mpr ⟨⟨plainFor_of_name (x := yX11_pushes) pnX11, am_lkS sn_tX11_pushes⟩, ?_⟩
  refine List.forall_mem_cons.mpr ⟨⟨plainFor_of_name (x := yX11_opens) pnX11, am_lkS sn_tX11_opens⟩, ?_⟩
  refine List.forall_mem_cons.mpr ⟨⟨plainFor_of_name (x := yX11_isTest) pnX11, am_lkS sn_tX11_isTest⟩, ?_⟩
  refine List.forall_mem_cons.mpr ⟨⟨plainFor_of_name (x := yX11_operand) pnX11, am_lkS sn_tX11_operand⟩, ?_⟩
  refine List.forall_mem_cons.mpr ⟨⟨plainFor_of_name (x := yX11_goesOn) pnX11, am_lkS sn_tX11_goesOn⟩, ?_⟩
  refine List.forall_mem_cons.mpr ⟨⟨plainFor_of_name (x := yX11_reads) pnX11, am_lkS sn_tX11_reads⟩, ?_⟩
  refine List.forall_mem_cons.mpr ⟨⟨plainFor_of_name (x := yX11_counts) pnX11, am_lkS sn_tX11_counts⟩, ?_⟩
  refine List.forall_mem_cons.mpr ⟨⟨plainFor_of_name (x := yX11_must_) pnX11, am_lkS sn_tX11_must_⟩, ?_⟩
  refine List.forall_mem_cons.mpr ⟨⟨plainFor_of_name (x := yX11_fresh) pnX11, am_lkS sn_tX11_fresh⟩, ?_⟩
  refine List.forall_mem_cons.mpr ⟨⟨plainFor_of_name (x := yX11_asked) pnX11, am_lkS sn_tX11_asked⟩, ?_⟩
  refine List.forall_mem_cons.mpr ⟨⟨plainFor_of_name (x := yX11_sizes) pnX11, am_lkS sn_tX11_sizes⟩, ?_⟩
  refine List.forall_mem_cons.mpr ⟨⟨plainFor_of_name (x := yX11_rule) pnX11, am_lkS sn_tX11_rule⟩, ?_⟩
  refine List.forall_mem_cons.mpr ⟨⟨plainFor_of_name (x := yX11_ship) pnX11, am_lkS sn_tX11_ship⟩, ?_⟩
  exact fun _ h => absurd h List.not_mem_nil
theorem am_pr5 : ∀ q ∈ am_pg5, am_PR q := by
  unfold am_pg5
  refine List.forall_mem_cons.mpr ⟨⟨plainFor_of_name (x := yX11_cellHere) pnX11, am_lkS sn_tX11_cellHere⟩, ?_⟩
  refine List.forall_mem_cons.mpr ⟨⟨plainFor_of_name (x := yX11_says) pnX11, am_lkS sn_tX11_says⟩, ?_⟩
  refine List.forall_mem_cons.mpr ⟨⟨plainFor_of_name (x := yX11_book) pnX11, am_lkS sn_tX11_book⟩, ?_⟩
  refine List.forall_mem_cons.mpr ⟨⟨plainFor_of_name (x := yX11_seen) pnX11, am_lkS sn_tX11_seen⟩, ?_⟩
  refine List.forall_mem_cons.mpr ⟨⟨plainFor_of_name (x := yX11_lucks) pnX11, am_lkS sn_tX11_lucks⟩, ?_⟩
  refine List.forall_mem_cons.mpr ⟨⟨plainFor_of_name (x := yX11_statement) pnX11, am_lkS sn_tX11_statement⟩, ?_⟩
  refine List.forall_mem_cons.mpr ⟨⟨plainFor_of_name (x := yX11_sea) pnX11, am_lkS sn_tX11_sea⟩, ?_⟩
  refine List.forall_mem_cons.mpr ⟨⟨plainFor_of_name (x := yX11_fault) pnX11, am_lkS sn_tX11_fault⟩, ?_⟩
  refine List.forall_mem_cons.mpr ⟨⟨plainFor_of_name (x := yX11_refuses) pnX11, am_lkS sn_tX11_refuses⟩, ?_⟩
  refine List.forall_mem_cons.mpr ⟨⟨plainFor_of_name (x := yX11_status) pnX11, am_lkS sn_tX11_status⟩, ?_⟩
  refine List.forall_mem_cons.mpr ⟨⟨plainFor_of_name (x := yX11_bounded) pnX11, am_lkS sn_tX11_bounded⟩, ?_⟩
  refine List.forall_mem_cons.mpr ⟨⟨plainFor_of_name (x := yX11_over) pnX11, am_lkS sn_tX11_over⟩, ?_⟩
  refine List.forall_mem_cons.mpr ⟨⟨plainFor_of_name (x := yX11_made) pnX11, am_lkS sn_tX11_made⟩, ?_⟩
  refine List.forall_mem_cons.mpr ⟨⟨plainFor_of_name (x := yX11_works) pnX11, am_lkS sn_tX11_works⟩, ?_⟩
  refine List.forall_mem_cons.mpr ⟨⟨plainFor_of_name (x := yX11_cells) pnX11, am_lkS sn_tX11_cells⟩, ?_⟩
  refine List.forall_mem_cons.mpr ⟨⟨plainFor_of_name (x := yX11_columnOf) pnX11, am_lkS sn_tX11_columnOf⟩, ?_⟩
  refine List.forall_mem_cons.mpr ⟨⟨plainFor_of_name (x := yX11_rowOf) pnX11, am_lkS sn_tX11_rowOf⟩, ?_⟩
  refine List.forall_mem_cons.mpr ⟨⟨plainFor_of_name (x := yX11_isCell) pnX11, am_lkS sn_tX11_isCell⟩, ?_⟩
  refine List.forall_mem_cons.mpr ⟨⟨plainFor_of_name (x := yX11_at) pnX11, am_lkS sn_tX11_at⟩, ?_⟩
  refine List.forall_mem_cons.mpr ⟨⟨plainFor_of_name (x := yX11_isHour) pnX11, am_lkS sn_tX11_isHour⟩, ?_⟩
  refine List.forall_mem_cons.mpr ⟨⟨plainFor_of_name (x := yX11_isShip) pnX11, am_lkS sn_tX11_isShip⟩, ?_⟩
  refine List.forall_mem_cons.mpr ⟨⟨plainFor_of_name (x := yX11_ruleOf) pnX11, am_lkS sn_tX11_ruleOf⟩, ?_⟩
  refine List.forall_mem_cons.mpr ⟨⟨plainFor_of_name (x := yX11_sumOf) pnX11, am_lkS sn_tX11_sumOf⟩, ?_⟩
  refine List.forall_mem_cons.mpr ⟨⟨plainFor_of_name (x := yX11_lays) pnX11, am_lkS sn_tX11_lays⟩, ?_⟩
  refine List.forall_mem_cons.mpr ⟨⟨plainFor_of_name (x := yX11_isQuiet) pnX11, am_lkS sn_tX11_isQuiet⟩, ?_⟩
  refine List.forall_mem_cons.mpr ⟨⟨plainFor_of_name (x := yX11_cell) pnX11, am_lkS sn_tX11_cell⟩, ?_⟩
  refine List.forall_mem_cons.mpr ⟨⟨plainFor_of_name (x := yX11_said) pnX11, am_lkS sn_tX11_said⟩, ?_⟩
  refine List.forall_mem_cons.mpr ⟨⟨plainFor_of_name (x := yX11_laden) pnX11, am_lkS sn_tX11_laden⟩, ?_⟩
  refine List.forall_mem_cons.mpr ⟨⟨plainFor_of_name (x := yX11_sayingsOf) pnX11, am_lkS sn_tX11_sayingsOf⟩, ?_⟩
  refine List.forall_mem_cons.mpr ⟨⟨plainFor_of_name (x := yX11_hourOf) pnX11, am_lkS sn_tX11_hourOf⟩, ?_⟩
  refine List.forall_mem_cons.mpr ⟨⟨plainFor_of_name (x := yX11_numberOf) pnX11, am_lkS sn_tX11_numberOf⟩, ?_⟩
  refine List.forall_mem_cons.mpr ⟨⟨plainFor_of_name (x := yX11_booksOf) pnX11, am_lkS sn_tX11_booksOf⟩, ?_⟩
  refine List.forall_mem_cons.mpr ⟨⟨plainFor_of_name (x := yX11_has) pnX11, am_lkS sn_tX11_has⟩, ?_⟩
  refine List.forall_mem_cons.mpr ⟨⟨plainFor_of_name (x := yX11_letter) pnX11, am_lkS sn_tX11_letter⟩, ?_⟩
  refine List.forall_mem_cons.mpr ⟨⟨plainFor_of_name (x := yX11_isWater) pnX11, am_lkS sn_tX11_isWater⟩, ?_⟩
  refine List.forall_mem_cons.mpr ⟨⟨plainFor_of_name (x := yX11_isSound) pnX11, am_lkS sn_tX11_isSound⟩, ?_⟩
  refine List.forall_mem_cons.mpr ⟨⟨plainFor_of_name (x := yX11_reaches) pnX11, am_lkS sn_tX11_reaches⟩, ?_⟩
  refine List.forall_mem_cons.mpr ⟨⟨plainFor_of_name (x := yX11_goes) pnX11, am_lkS sn_tX11_goes⟩, ?_⟩
  refine List.forall_mem_cons.mpr ⟨⟨plainFor_of_name (x := yX11_hoursTo) pnX11, am_lkS sn_tX11_hoursTo⟩, ?_⟩
  refine List.forall_mem_cons.mpr ⟨⟨plainFor_of_name (x := yX11_far) pnX11, am_lkS sn_tX11_far⟩, ?_⟩
  exact fun _ h => absurd h List.not_mem_nil
theorem am_pr6 : ∀ q ∈ am_pg6, am_PR q := by
  unfold am_pg6
  refine List.forall_mem_cons.mpr ⟨⟨plainFor_of_name (x := yX11_fact) pnX11, am_lkS sn_tX11_fact⟩, ?_⟩
  refine List.forall_mem_cons.mpr ⟨⟨plainFor_of_name (x := yX11_addBooks) pnX11, am_lkS sn_tX11_addBooks⟩, ?_⟩
  refine List.forall_mem_cons.mpr ⟨⟨plainFor_of_name (x := yX11_addSayings) pnX11, am_lkS sn_tX11_addSayings⟩, ?_⟩
  refine List.forall_mem_cons.mpr ⟨⟨plainFor_of_name (x := yX11_between) pnX11, am_lkS sn_tX11_between⟩, ?_⟩
  refine List.forall_mem_cons.mpr ⟨⟨plainFor_of_name (x := yX11_fit) pnX11, am_lkS sn_tX11_fit⟩, ?_⟩
  refine List.forall_mem_cons.mpr ⟨⟨plainFor_of_name (x := yX11_booksFit) pnX11, am_lkS sn_tX11_booksFit⟩, ?_⟩
  refine List.forall_mem_cons.mpr ⟨⟨plainFor_of_name (x := yX11_withBooks) pnX11, am_lkS sn_tX11_withBooks⟩, ?_⟩
  refine List.forall_mem_cons.mpr ⟨⟨plainFor_of_name (x := yX11_pairs) pnX11, am_lkS sn_tX11_pairs⟩, ?_⟩
  refine List.forall_mem_cons.mpr ⟨⟨plainFor_of_name (x := yX11_keeps) pnX11, am_lkS sn_tX11_keeps⟩, ?_⟩
  refine List.forall_mem_cons.mpr ⟨⟨plainFor_of_name (x := yX11_lays_) pnX11, am_lkS sn_tX11_lays_⟩, ?_⟩
  refine List.forall_mem_cons.mpr ⟨⟨plainFor_of_name (x := yX11_mayBe) pnX11, am_lkS sn_tX11_mayBe⟩, ?_⟩
  refine List.forall_mem_cons.mpr ⟨⟨plainFor_of_name (x := yX11_cellsOf) pnX11, am_lkS sn_tX11_cellsOf⟩, ?_⟩
  refine List.forall_mem_cons.mpr ⟨⟨plainFor_of_name (x := yX11_isHonest) pnX11, am_lkS sn_tX11_isHonest⟩, ?_⟩
  refine List.forall_mem_cons.mpr ⟨⟨plainFor_of_name (x := yX11_ship_) pnX11, am_lkS sn_tX11_ship_⟩, ?_⟩
  refine List.forall_mem_cons.mpr ⟨⟨plainFor_of_name (x := yX11_saying) pnX11, am_lkS sn_tX11_saying⟩, ?_⟩
  refine List.forall_mem_cons.mpr ⟨⟨plainFor_of_name (x := yX11_can) pnX11, am_lkS sn_tX11_can⟩, ?_⟩
  refine List.forall_mem_cons.mpr ⟨⟨plainFor_of_name (x := yX11_reach) pnX11, am_lkS sn_tX11_reach⟩, ?_⟩
  refine List.forall_mem_cons.mpr ⟨⟨plainFor_of_name (x := yX11_may) pnX11, am_lkS sn_tX11_may⟩, ?_⟩
  refine List.forall_mem_cons.mpr ⟨⟨plainFor_of_name (x := yX11_gapsOf) pnX11, am_lkS sn_tX11_gapsOf⟩, ?_⟩
  refine List.forall_mem_cons.mpr ⟨⟨plainFor_of_name (x := yX11_saidBy) pnX11, am_lkS sn_tX11_saidBy⟩, ?_⟩
  refine List.forall_mem_cons.mpr ⟨⟨plainFor_of_name (x := yX11_whoOf) pnX11, am_lkS sn_tX11_whoOf⟩, ?_⟩
  refine List.forall_mem_cons.mpr ⟨⟨plainFor_of_name (x := yX11_parts) pnX11, am_lkS sn_tX11_parts⟩, ?_⟩
  refine List.forall_mem_cons.mpr ⟨⟨plainFor_of_name (x := yX11_isPair) pnX11, am_lkS sn_tX11_isPair⟩, ?_⟩
  refine List.forall_mem_cons.mpr ⟨⟨plainFor_of_name (x := yX11_keepsSets) pnX11, am_lkS sn_tX11_keepsSets⟩, ?_⟩
  refine List.forall_mem_cons.mpr ⟨⟨plainFor_of_name (x := yX11_bringsSets) pnX11, am_lkS sn_tX11_bringsSets⟩, ?_⟩
  refine List.forall_mem_cons.mpr ⟨⟨plainFor_of_name (x := yX11_isKind) pnX11, am_lkS sn_tX11_isKind⟩, ?_⟩
  refine List.forall_mem_cons.mpr ⟨⟨plainFor_of_name (x := yX11_judge) pnX11, am_lkS sn_tX11_judge⟩, ?_⟩
  refine List.forall_mem_cons.mpr ⟨⟨plainFor_of_name (x := yX11_taleOf) pnX11, am_lkS sn_tX11_taleOf⟩, ?_⟩
  refine List.forall_mem_cons.mpr ⟨⟨plainFor_of_name (x := yX11_tale) pnX11, am_lkS sn_tX11_tale⟩, ?_⟩
  refine List.forall_mem_cons.mpr ⟨⟨plainFor_of_name (x := yX11_bars) pnX11, am_lkS sn_tX11_bars⟩, ?_⟩
  refine List.forall_mem_cons.mpr ⟨⟨plainFor_of_name (x := yX11_clash) pnX11, am_lkS sn_tX11_clash⟩, ?_⟩
  refine List.forall_mem_cons.mpr ⟨⟨plainFor_of_name (x := yX11_who) pnX11, am_lkS sn_tX11_who⟩, ?_⟩
  refine List.forall_mem_cons.mpr ⟨⟨plainFor_of_name (x := yX11_isFor) pnX11, am_lkS sn_tX11_isFor⟩, ?_⟩
  refine List.forall_mem_cons.mpr ⟨⟨plainFor_of_name (x := yX11_swap) pnX11, am_lkS sn_tX11_swap⟩, ?_⟩
  refine List.forall_mem_cons.mpr ⟨⟨plainFor_of_name (x := yX11_kinds) pnX11, am_lkS sn_tX11_kinds⟩, ?_⟩
  refine List.forall_mem_cons.mpr ⟨⟨plainFor_of_name (x := yX11_liesOf) pnX11, am_lkS sn_tX11_liesOf⟩, ?_⟩
  refine List.forall_mem_cons.mpr ⟨⟨plainFor_of_name (x := yX11_lies) pnX11, am_lkS sn_tX11_lies⟩, ?_⟩
  refine List.forall_mem_cons.mpr ⟨⟨plainFor_of_name (x := yX11_changes) pnX11, am_lkS sn_tX11_changes⟩, ?_⟩
  refine List.forall_mem_cons.mpr ⟨⟨plainFor_of_name (x := yX11_met) pnX11, am_lkS sn_tX11_met⟩, ?_⟩
  refine List.forall_mem_cons.mpr ⟨⟨plainFor_of_name (x := yX11_explains) pnX11, am_lkS sn_tX11_explains⟩, ?_⟩
  exact fun _ h => absurd h List.not_mem_nil
theorem am_pr7 : ∀ q ∈ am_pg7, am_PR q := by
  unfold am_pg7
  refine List.forall_mem_cons.mpr ⟨⟨plainFor_of_name (x := yX11_sighting) pnX11, am_lkS sn_tX11_sighting⟩, ?_⟩
  refine List.forall_mem_cons.mpr ⟨⟨plainFor_of_name (x := yX11_strange) pnX11, am_lkS sn_tX11_strange⟩, ?_⟩
  refine List.forall_mem_cons.mpr ⟨⟨plainFor_of_name (x := yX11_doubted) pnX11, am_lkS sn_tX11_doubted⟩, ?_⟩
  refine List.forall_mem_cons.mpr ⟨⟨plainFor_of_name (x := yX11_gaps) pnX11, am_lkS sn_tX11_gaps⟩, ?_⟩
  refine List.forall_mem_cons.mpr ⟨⟨plainFor_of_name (x := yX11_chanceOf) pnX11, am_lkS sn_tX11_chanceOf⟩, ?_⟩
  refine List.forall_mem_cons.mpr ⟨⟨plainFor_of_name (x := yX11_chance) pnX11, am_lkS sn_tX11_chance⟩, ?_⟩
  refine List.forall_mem_cons.mpr ⟨⟨plainFor_of_name (x := yX11_beyond) pnX11, am_lkS sn_tX11_beyond⟩, ?_⟩
  refine List.forall_mem_cons.mpr ⟨⟨plainFor_of_name (x := yX11_settlesAll) pnX11, am_lkS sn_tX11_settlesAll⟩, ?_⟩
  refine List.forall_mem_cons.mpr ⟨⟨plainFor_of_name (x := yX11_settles) pnX11, am_lkS sn_tX11_settles⟩, ?_⟩
  refine List.forall_mem_cons.mpr ⟨⟨plainFor_of_name (x := yX11_next) pnX11, am_lkS sn_tX11_next⟩, ?_⟩
  refine List.forall_mem_cons.mpr ⟨⟨plainFor_of_name (x := yX11_offOf) pnX11, am_lkS sn_tX11_offOf⟩, ?_⟩
  refine List.forall_mem_cons.mpr ⟨⟨plainFor_of_name (x := yX11_off) pnX11, am_lkS sn_tX11_off⟩, ?_⟩
  refine List.forall_mem_cons.mpr ⟨⟨plainFor_of_name (x := yX11_whose) pnX11, am_lkS sn_tX11_whose⟩, ?_⟩
  refine List.forall_mem_cons.mpr ⟨⟨plainFor_of_name (x := yX11_says_) pnX11, am_lkS sn_tX11_says_⟩, ?_⟩
  refine List.forall_mem_cons.mpr ⟨⟨plainFor_of_name (x := yX11_add_) pnX11, am_lkS sn_tX11_add_⟩, ?_⟩
  refine List.forall_mem_cons.mpr ⟨⟨plainFor_of_name (x := yX11_drop) pnX11, am_lkS sn_tX11_drop⟩, ?_⟩
  refine List.forall_mem_cons.mpr ⟨⟨plainFor_of_name (x := yX11_spots) pnX11, am_lkS sn_tX11_spots⟩, ?_⟩
  refine List.forall_mem_cons.mpr ⟨⟨plainFor_of_name (x := yX11_spot) pnX11, am_lkS sn_tX11_spot⟩, ?_⟩
  refine List.forall_mem_cons.mpr ⟨⟨plainFor_of_name (x := yX11_writes) pnX11, am_lkS sn_tX11_writes⟩, ?_⟩
  refine List.forall_mem_cons.mpr ⟨⟨plainFor_of_name (x := yX11_image) pnX11, am_lkS sn_tX11_image⟩, ?_⟩
  refine List.forall_mem_cons.mpr ⟨⟨plainFor_of_name (x := yX11_octet) pnX11, am_lkS sn_tX11_octet⟩, ?_⟩
  refine List.forall_mem_cons.mpr ⟨⟨plainFor_of_name (x := yX11_isWhole) pnX11, am_lkS sn_tX11_isWhole⟩, ?_⟩
  refine List.forall_mem_cons.mpr ⟨⟨plainFor_of_name (x := yX11_on) pnX11, am_lkS sn_tX11_on⟩, ?_⟩
  refine List.forall_mem_cons.mpr ⟨⟨am_pf yJ13_bitCount_95d88 (List.mem_of_getElem? (i := 0) rfl), am_lkS sn_tJ13_bitCount_95d88⟩, ?_⟩
  refine List.forall_mem_cons.mpr ⟨⟨am_pf yJ9_floorDiv_f86c9 (List.mem_of_getElem? (i := 1) rfl), am_lkS sn_tJ9_floorDiv_f86c9⟩, ?_⟩
  refine List.forall_mem_cons.mpr ⟨⟨am_pf yJ9_floorMod_f86c9 (List.mem_of_getElem? (i := 2) rfl), am_lkS sn_tJ9_floorMod_f86c9⟩, ?_⟩
  refine List.forall_mem_cons.mpr ⟨⟨am_pf yJ9_abs_0f7a4 (List.mem_of_getElem? (i := 3) rfl), am_lkS sn_tJ9_abs_0f7a4⟩, ?_⟩
  refine List.forall_mem_cons.mpr ⟨⟨am_pf yJ9_max_7cf53 (List.mem_of_getElem? (i := 4) rfl), am_lkS sn_tJ9_max_7cf53⟩, ?_⟩
  refine List.forall_mem_cons.mpr ⟨⟨am_pf yJ9_max_f86c9 (List.mem_of_getElem? (i := 5) rfl), am_lkS sn_tJ9_max_f86c9⟩, ?_⟩
  refine List.forall_mem_cons.mpr ⟨⟨am_pf yJ9_min_7cf53 (List.mem_of_getElem? (i := 6) rfl), am_lkS sn_tJ9_min_7cf53⟩, ?_⟩
  refine List.forall_mem_cons.mpr ⟨⟨am_pf yJ9_min_f86c9 (List.mem_of_getElem? (i := 7) rfl), am_lkS sn_tJ9_min_f86c9⟩, ?_⟩
  refine List.forall_mem_cons.mpr ⟨⟨am_pf yJ0_length_8abf5 (List.mem_of_getElem? (i := 8) rfl), am_lkS sn_tJ0_length_8abf5⟩, ?_⟩
  refine List.forall_mem_cons.mpr ⟨⟨am_pf yJ0_charAt_5068e (List.mem_of_getElem? (i := 9) rfl), am_lkS sn_tJ0_charAt_5068e⟩, ?_⟩
  refine List.forall_mem_cons.mpr ⟨⟨am_pf yJ0_coder_7d493 (List.mem_of_getElem? (i := 10) rfl), am_lkS sn_tJ0_coder_7d493⟩, ?_⟩
  refine List.forall_mem_cons.mpr ⟨⟨am_pf yJ0_isLatin1_aae02 (List.mem_of_getElem? (i := 11) rfl), am_lkS sn_tJ0_isLatin1_aae02⟩, ?_⟩
  refine List.forall_mem_cons.mpr ⟨⟨am_pf yJ0_checkIndex_df160 (List.mem_of_getElem? (i := 12) rfl), am_lkS sn_tJ0_checkIndex_df160⟩, ?_⟩
  refine List.forall_mem_cons.mpr ⟨⟨am_pf yJ1_charAt_3b067 (List.mem_of_getElem? (i := 13) rfl), am_lkS sn_tJ1_charAt_3b067⟩, ?_⟩
  refine List.forall_mem_cons.mpr ⟨⟨am_pf yJ2_getChar_3b067 (List.mem_of_getElem? (i := 14) rfl), am_lkS sn_tJ2_getChar_3b067⟩, ?_⟩
  refine List.forall_mem_cons.mpr ⟨⟨am_pf yJ2_length_9d52b (List.mem_of_getElem? (i := 15) rfl), am_lkS sn_tJ2_length_9d52b⟩, ?_⟩
  refine List.forall_mem_cons.mpr ⟨⟨am_pf yJ2_charAt_3b067 (List.mem_of_getElem? (i := 16) rfl), am_lkS sn_tJ2_charAt_3b067⟩, ?_⟩
  exact fun _ h => absurd h List.not_mem_nil
theorem am_pr8 : ∀ q ∈ am_pg8, am_PR q := by
  unfold am_pg8
  refine List.forall_mem_cons.mpr ⟨⟨am_pf yJ2_checkIndex_2214a (List.mem_of_getElem? (i := 17) rfl), am_lkS sn_tJ2_checkIndex_2214a⟩, ?_⟩
  refine List.forall_mem_cons.mpr ⟨⟨am_pf yJ7_rangeCheck_23922 (List.mem_of_getElem? (i := 18) rfl), am_lkS sn_tJ7_rangeCheck_23922⟩, ?_⟩
  refine List.forall_mem_cons.mpr ⟨⟨am_pf yJ7_fill_d0a16 (List.mem_of_getElem? (i := 19) rfl), am_lkS sn_tJ7_fill_d0a16⟩, ?_⟩
  refine List.forall_mem_cons.mpr ⟨⟨am_pf yJ7_fill_bad5a (List.mem_of_getElem? (i := 20) rfl), am_lkS sn_tJ7_fill_bad5a⟩, ?_⟩
  refine List.forall_mem_cons.mpr ⟨⟨am_pf yJ7_fill_53178 (List.mem_of_getElem? (i := 21) rfl), am_lkS sn_tJ7_fill_53178⟩, ?_⟩
  refine List.forall_mem_cons.mpr ⟨⟨am_pf yJ3_checkIndex_8e157 (List.mem_of_getElem? (i := 22) rfl), am_lkS sn_tJ3_checkIndex_8e157⟩, ?_⟩
  exact fun _ h => absurd h List.not_mem_nil
theorem am_getD_pr {l : List am_Y} (h : ∀ q ∈ l, am_PR q) (h0 : am_PR am_nil) (i : Nat) : am_PR (l.getD i am_nil) := by
  rw [List.getD_eq_getElem?_getD]
  cases e : l[i]? with
  | none => exact h0
  | some q => exact h q (List.mem_of_getElem? e)
theorem am_pr_nil : am_PR am_nil := ⟨by decide, fun _ => am_Snd_no⟩
theorem am_pr (y : Nat) : am_PR (am_P0 y) := by
  unfold am_P0
  have h : ∀ l ∈ [am_pg0, am_pg1, am_pg2, am_pg3, am_pg4, am_pg5, am_pg6, am_pg7, am_pg8], ∀ q ∈ l, am_PR q := 
    List.forall_mem_cons.mpr ⟨am_pr0, List.forall_mem_cons.mpr ⟨am_pr1, List.forall_mem_cons.mpr ⟨am_pr2, List.forall_mem_cons.mpr ⟨am_pr3, List.forall_mem_cons.mpr ⟨am_pr4, List.forall_mem_cons.mpr ⟨am_pr5, List.forall_mem_cons.mpr ⟨am_pr6, List.forall_mem_cons.mpr ⟨am_pr7, List.forall_mem_cons.mpr ⟨am_pr8, fun _ h => absurd h List.not_mem_nil⟩⟩⟩⟩⟩⟩⟩⟩⟩
  generalize [am_pg0, am_pg1, am_pg2, am_pg3, am_pg4, am_pg5, am_pg6, am_pg7, am_pg8] = ll at h
  refine am_getD_pr ?_ am_pr_nil _
  rw [List.getD_eq_getElem?_getD]
  cases e : ll[y / 40]? with
  | none => exact fun _ h => absurd h List.not_mem_nil
  | some l => exact h l (List.mem_of_getElem? e)
theorem am_hP : ∀ y, am_SndM am_P0 y := fun y => (am_pr y).2
theorem am_hpl : ∀ y, plainFor (am_P0 y).1 = true := fun y => (am_pr y).1
/-- the contract of every method, out of its AM run -/
theorem am_metP (G : am_G) (l : Launch) : ∀ (d n y : Nat) (as : List Value) (M : am_M) (r : Option Value) (M2 : am_M), am_aok am_P0 y as → am_run am_P0 n d (am_P0 y).2.2.2.2 0 (am_pad (am_P0 y).2.2.1 (am_en as)) [] M = some (r, M2) → am_Met am_P0 G l y d as M r M2 := am_metF am_hP am_hpl G l
end
section
/-! where the law answers (by program: wip/whole/tools/gen_ret.py) -/
def am_Rt (q : Nat × am_Act) : Prop := ∀ (lv st : List Value) (M : am_M) (v : Option Value) (M' : am_M), q.2 lv st M = some (.inr (.inl (v, M'))) → decode code q.1 = .ok (.ireturn, 1) ∧ ∃ x, st = [.int x] ∧ v = some (.int x)
theorem rt_nx {pc : Nat} {f : am_F} : am_Rt (pc, k_nx f) := by
  intro lv st M v M' h
  have h : k_nx f lv st M = some (.inr (.inl (v, M'))) := h
  unfold k_nx at h
  cases e : f lv st M with
  | none => rw [e] at h; cases h
  | some x => rw [e] at h; cases h
theorem rt_cv {pc y ci n mx nx : Nat} : am_Rt (pc, k_cv y ci n mx nx) := by
  intro lv st M v M' h
  have h : k_cv y ci n mx nx lv st M = some (.inr (.inl (v, M'))) := h
  unfold k_cv at h
  split at h
  · split at h <;> cases h
  · cases h
theorem rt_z {pc : Nat} (hd : decode code pc = .ok (.ireturn, 1)) : am_Rt (pc, k_zret) := by
  intro lv st M v M' h
  have h : k_zret lv st M = some (.inr (.inl (v, M'))) := h
  unfold k_zret at h
  split at h
  · split at h
    · cases h
      exact ⟨hd, _, rfl, rfl⟩
    · cases h
  · cases h
theorem rtL_0 (xs : Nat → Int32) (L : Nat) : ∀ q ∈ tL_0 xs L, am_Rt q := by
  unfold tL_0
  refine List.forall_mem_cons.mpr ⟨rt_nx, ?_⟩
  refine List.forall_mem_cons.mpr ⟨rt_nx, ?_⟩
  refine List.forall_mem_cons.mpr ⟨rt_cv, ?_⟩
  refine List.forall_mem_cons.mpr ⟨rt_nx, ?_⟩
  refine List.forall_mem_cons.mpr ⟨rt_nx, ?_⟩
  refine List.forall_mem_cons.mpr ⟨rt_nx, ?_⟩
  refine List.forall_mem_cons.mpr ⟨rt_cv, ?_⟩
  refine List.forall_mem_cons.mpr ⟨rt_nx, ?_⟩
  refine List.forall_mem_cons.mpr ⟨rt_nx, ?_⟩
  refine List.forall_mem_cons.mpr ⟨rt_nx, ?_⟩
  refine List.forall_mem_cons.mpr ⟨rt_nx, ?_⟩
  refine List.forall_mem_cons.mpr ⟨rt_nx, ?_⟩
  refine List.forall_mem_cons.mpr ⟨rt_nx, ?_⟩
  refine List.forall_mem_cons.mpr ⟨rt_nx, ?_⟩
  refine List.forall_mem_cons.mpr ⟨rt_nx, ?_⟩
  refine List.forall_mem_cons.mpr ⟨rt_nx, ?_⟩
  refine List.forall_mem_cons.mpr ⟨rt_nx, ?_⟩
  refine List.forall_mem_cons.mpr ⟨rt_nx, ?_⟩
  refine List.forall_mem_cons.mpr ⟨rt_nx, ?_⟩
  refine List.forall_mem_cons.mpr ⟨rt_nx, ?_⟩
  refine List.forall_mem_cons.mpr ⟨rt_nx, ?_⟩
  refine List.forall_mem_cons.mpr ⟨rt_nx, ?_⟩
  refine List.forall_mem_cons.mpr ⟨rt_nx, ?_⟩
  refine List.forall_mem_cons.mpr ⟨rt_nx, ?_⟩
  refine List.forall_mem_cons.mpr ⟨rt_nx, ?_⟩
  refine List.forall_mem_cons.mpr ⟨rt_nx, ?_⟩
  refine List.forall_mem_cons.mpr ⟨rt_nx, ?_⟩
  refine List.forall_mem_cons.mpr ⟨rt_nx, ?_⟩
  refine List.forall_mem_cons.mpr ⟨rt_nx, ?_⟩
  refine List.forall_mem_cons.mpr ⟨rt_nx, ?_⟩
  refine List.forall_mem_cons.mpr ⟨rt_nx, ?_⟩
  refine List.forall_mem_cons.mpr ⟨rt_nx, ?_⟩
  refine List.forall_mem_cons.mpr ⟨rt_nx, ?_⟩
  refine List.forall_mem_cons.mpr ⟨rt_nx, ?_⟩
  refine List.forall_mem_cons.mpr ⟨rt_nx, ?_⟩
  refine List.forall_mem_cons.mpr ⟨rt_nx, ?_⟩
  refine List.forall_mem_cons.mpr ⟨rt_nx, ?_⟩
  refine List.forall_mem_cons.mpr ⟨rt_nx, ?_⟩
  refine List.forall_mem_cons.mpr ⟨rt_nx, ?_⟩
  refine List.forall_mem_cons.mpr ⟨rt_nx, ?_⟩
  refine List.forall_mem_cons.mpr ⟨rt_nx, ?_⟩
  refine List.forall_mem_cons.mpr ⟨rt_nx, ?_⟩
  refine List.forall_mem_cons.mpr ⟨rt_nx, ?_⟩
  refine List.forall_mem_cons.mpr ⟨rt_nx, ?_⟩
  refine List.forall_mem_cons.mpr ⟨rt_nx, ?_⟩
  refine List.forall_mem_cons.mpr ⟨rt_nx, ?_⟩
  refine List.forall_mem_cons.mpr ⟨rt_nx, ?_⟩
  refine List.forall_mem_cons.mpr ⟨rt_nx, ?_⟩
  refine List.forall_mem_cons.mpr ⟨rt_cv, ?_⟩
  refine List.forall_mem_cons.mpr ⟨rt_nx, ?_⟩
  refine List.forall_mem_cons.mpr ⟨rt_nx, ?_⟩
  refine List.forall_mem_cons.mpr ⟨rt_nx, ?_⟩
  refine List.forall_mem_cons.mpr ⟨rt_nx, ?_⟩
  refine List.forall_mem_cons.mpr ⟨rt_nx, ?_⟩
  refine List.forall_mem_cons.mpr ⟨rt_nx, ?_⟩
  refine List.forall_mem_cons.mpr ⟨rt_nx, ?_⟩
  refine List.forall_mem_cons.mpr ⟨rt_nx, ?_⟩
  refine List.forall_mem_cons.mpr ⟨rt_nx, ?_⟩
  refine List.forall_mem_cons.mpr ⟨rt_nx, ?_⟩
  refine List.forall_mem_cons.mpr ⟨rt_nx, ?_⟩
  exact fun _ h => absurd h List.not_mem_nil
theorem rtL_1 (xs : Nat → Int32) (L : Nat) : ∀ q ∈ tL_1 xs L, am_Rt q := by
  unfold tL_1
  refine List.forall_mem_cons.mpr ⟨rt_nx, ?_⟩
  refine List.forall_mem_cons.mpr ⟨rt_nx, ?_⟩
  refine List.forall_mem_cons.mpr ⟨rt_nx, ?_⟩
  refine List.forall_mem_cons.mpr ⟨rt_nx, ?_⟩
  refine List.forall_mem_cons.mpr ⟨rt_nx, ?_⟩
  refine List.forall_mem_cons.mpr ⟨rt_nx, ?_⟩
  refine List.forall_mem_cons.mpr ⟨rt_nx, ?_⟩
  refine List.forall_mem_cons.mpr ⟨rt_nx, ?_⟩
  refine List.forall_mem_cons.mpr ⟨rt_nx, ?_⟩
  refine List.forall_mem_cons.mpr ⟨rt_nx, ?_⟩
  refine List.forall_mem_cons.mpr ⟨rt_nx, ?_⟩
  refine List.forall_mem_cons.mpr ⟨rt_nx, ?_⟩
  refine List.forall_mem_cons.mpr ⟨rt_nx, ?_⟩
  refine List.forall_mem_cons.mpr ⟨rt_nx, ?_⟩
  refine List.forall_mem_cons.mpr ⟨rt_nx, ?_⟩
  refine List.forall_mem_cons.mpr ⟨rt_nx, ?_⟩
  refine List.forall_mem_cons.mpr ⟨rt_cv, ?_⟩
  refine List.forall_mem_cons.mpr ⟨rt_nx, ?_⟩
  refine List.forall_mem_cons.mpr ⟨rt_nx, ?_⟩
  refine List.forall_mem_cons.mpr ⟨rt_nx, ?_⟩
  refine List.forall_mem_cons.mpr ⟨rt_nx, ?_⟩
  refine List.forall_mem_cons.mpr ⟨rt_nx, ?_⟩
  refine List.forall_mem_cons.mpr ⟨rt_nx, ?_⟩
  refine List.forall_mem_cons.mpr ⟨rt_nx, ?_⟩
  refine List.forall_mem_cons.mpr ⟨rt_nx, ?_⟩
  refine List.forall_mem_cons.mpr ⟨rt_cv, ?_⟩
  refine List.forall_mem_cons.mpr ⟨rt_nx, ?_⟩
  refine List.forall_mem_cons.mpr ⟨rt_nx, ?_⟩
  refine List.forall_mem_cons.mpr ⟨rt_nx, ?_⟩
  refine List.forall_mem_cons.mpr ⟨rt_nx, ?_⟩
  refine List.forall_mem_cons.mpr ⟨rt_nx, ?_⟩
  refine List.forall_mem_cons.mpr ⟨rt_nx, ?_⟩
  refine List.forall_mem_cons.mpr ⟨rt_nx, ?_⟩
  refine List.forall_mem_cons.mpr ⟨rt_cv, ?_⟩
  refine List.forall_mem_cons.mpr ⟨rt_nx, ?_⟩
  refine List.forall_mem_cons.mpr ⟨rt_nx, ?_⟩
  refine List.forall_mem_cons.mpr ⟨rt_nx, ?_⟩
  refine List.forall_mem_cons.mpr ⟨rt_cv, ?_⟩
  refine List.forall_mem_cons.mpr ⟨rt_nx, ?_⟩
  refine List.forall_mem_cons.mpr ⟨rt_nx, ?_⟩
  refine List.forall_mem_cons.mpr ⟨rt_cv, ?_⟩
  refine List.forall_mem_cons.mpr ⟨rt_nx, ?_⟩
  refine List.forall_mem_cons.mpr ⟨rt_nx, ?_⟩
  refine List.forall_mem_cons.mpr ⟨rt_nx, ?_⟩
  refine List.forall_mem_cons.mpr ⟨rt_nx, ?_⟩
  refine List.forall_mem_cons.mpr ⟨rt_nx, ?_⟩
  refine List.forall_mem_cons.mpr ⟨rt_nx, ?_⟩
  refine List.forall_mem_cons.mpr ⟨rt_nx, ?_⟩
  refine List.forall_mem_cons.mpr ⟨rt_nx, ?_⟩
  refine List.forall_mem_cons.mpr ⟨rt_cv, ?_⟩
  refine List.forall_mem_cons.mpr ⟨rt_nx, ?_⟩
  refine List.forall_mem_cons.mpr ⟨rt_nx, ?_⟩
  refine List.forall_mem_cons.mpr ⟨rt_nx, ?_⟩
  refine List.forall_mem_cons.mpr ⟨rt_nx, ?_⟩
  refine List.forall_mem_cons.mpr ⟨rt_nx, ?_⟩
  refine List.forall_mem_cons.mpr ⟨rt_nx, ?_⟩
  refine List.forall_mem_cons.mpr ⟨rt_nx, ?_⟩
  refine List.forall_mem_cons.mpr ⟨rt_cv, ?_⟩
  refine List.forall_mem_cons.mpr ⟨rt_nx, ?_⟩
  refine List.forall_mem_cons.mpr ⟨rt_nx, ?_⟩
  exact fun _ h => absurd h List.not_mem_nil
theorem rtL_2 (xs : Nat → Int32) (L : Nat) : ∀ q ∈ tL_2 xs L, am_Rt q := by
  unfold tL_2
  refine List.forall_mem_cons.mpr ⟨rt_nx, ?_⟩
  refine List.forall_mem_cons.mpr ⟨rt_nx, ?_⟩
  refine List.forall_mem_cons.mpr ⟨rt_nx, ?_⟩
  refine List.forall_mem_cons.mpr ⟨rt_nx, ?_⟩
  refine List.forall_mem_cons.mpr ⟨rt_nx, ?_⟩
  refine List.forall_mem_cons.mpr ⟨rt_nx, ?_⟩
  refine List.forall_mem_cons.mpr ⟨rt_cv, ?_⟩
  refine List.forall_mem_cons.mpr ⟨rt_nx, ?_⟩
  refine List.forall_mem_cons.mpr ⟨rt_nx, ?_⟩
  refine List.forall_mem_cons.mpr ⟨rt_nx, ?_⟩
  refine List.forall_mem_cons.mpr ⟨rt_nx, ?_⟩
  refine List.forall_mem_cons.mpr ⟨rt_nx, ?_⟩
  refine List.forall_mem_cons.mpr ⟨rt_nx, ?_⟩
  refine List.forall_mem_cons.mpr ⟨rt_nx, ?_⟩
  refine List.forall_mem_cons.mpr ⟨rt_cv, ?_⟩
  refine List.forall_mem_cons.mpr ⟨rt_nx, ?_⟩
  refine List.forall_mem_cons.mpr ⟨rt_nx, ?_⟩
  refine List.forall_mem_cons.mpr ⟨rt_nx, ?_⟩
  refine List.forall_mem_cons.mpr ⟨rt_nx, ?_⟩
  refine List.forall_mem_cons.mpr ⟨rt_nx, ?_⟩
  refine List.forall_mem_cons.mpr ⟨rt_nx, ?_⟩
  refine List.forall_mem_cons.mpr ⟨rt_nx, ?_⟩
  refine List.forall_mem_cons.mpr ⟨rt_nx, ?_⟩
  refine List.forall_mem_cons.mpr ⟨rt_nx, ?_⟩
  refine List.forall_mem_cons.mpr ⟨rt_nx, ?_⟩
  refine List.forall_mem_cons.mpr ⟨rt_nx, ?_⟩
  refine List.forall_mem_cons.mpr ⟨rt_nx, ?_⟩
  refine List.forall_mem_cons.mpr ⟨rt_nx, ?_⟩
  refine List.forall_mem_cons.mpr ⟨rt_cv, ?_⟩
  refine List.forall_mem_cons.mpr ⟨rt_nx, ?_⟩
  refine List.forall_mem_cons.mpr ⟨rt_nx, ?_⟩
  refine List.forall_mem_cons.mpr ⟨rt_nx, ?_⟩
  refine List.forall_mem_cons.mpr ⟨rt_nx, ?_⟩
  refine List.forall_mem_cons.mpr ⟨rt_nx, ?_⟩
  refine List.forall_mem_cons.mpr ⟨rt_nx, ?_⟩
  refine List.forall_mem_cons.mpr ⟨rt_nx, ?_⟩
  refine List.forall_mem_cons.mpr ⟨rt_nx, ?_⟩
  refine List.forall_mem_cons.mpr ⟨rt_nx, ?_⟩
  refine List.forall_mem_cons.mpr ⟨rt_nx, ?_⟩
  refine List.forall_mem_cons.mpr ⟨rt_nx, ?_⟩
  refine List.forall_mem_cons.mpr ⟨rt_nx, ?_⟩
  refine List.forall_mem_cons.mpr ⟨rt_cv, ?_⟩
  refine List.forall_mem_cons.mpr ⟨rt_nx, ?_⟩
  refine List.forall_mem_cons.mpr ⟨rt_nx, ?_⟩
  refine List.forall_mem_cons.mpr ⟨rt_nx, ?_⟩
  refine List.forall_mem_cons.mpr ⟨rt_nx, ?_⟩
  refine List.forall_mem_cons.mpr ⟨rt_nx, ?_⟩
  refine List.forall_mem_cons.mpr ⟨rt_nx, ?_⟩
  refine List.forall_mem_cons.mpr ⟨rt_nx, ?_⟩
  refine List.forall_mem_cons.mpr ⟨rt_nx, ?_⟩
  refine List.forall_mem_cons.mpr ⟨rt_nx, ?_⟩
  refine List.forall_mem_cons.mpr ⟨rt_nx, ?_⟩
  refine List.forall_mem_cons.mpr ⟨rt_nx, ?_⟩
  refine List.forall_mem_cons.mpr ⟨rt_nx, ?_⟩
  refine List.forall_mem_cons.mpr ⟨rt_nx, ?_⟩
  refine List.forall_mem_cons.mpr ⟨rt_cv, ?_⟩
  refine List.forall_mem_cons.mpr ⟨rt_nx, ?_⟩
  refine List.forall_mem_cons.mpr ⟨rt_nx, ?_⟩
  refine List.forall_mem_cons.mpr ⟨rt_nx, ?_⟩
  refine List.forall_mem_cons.mpr ⟨rt_nx, ?_⟩
  exact fun _ h => absurd h List.not_mem_nil
theorem rtL_3 (xs : Nat → Int32) (L : Nat) : ∀ q ∈ tL_3 xs L, am_Rt q := by
  unfold tL_3
  refine List.forall_mem_cons.mpr ⟨rt_nx, ?_⟩
  refine List.forall_mem_cons.mpr ⟨rt_nx, ?_⟩
  refine List.forall_mem_cons.mpr ⟨rt_nx, ?_⟩
  refine List.forall_mem_cons.mpr ⟨rt_nx, ?_⟩
  refine List.forall_mem_cons.mpr ⟨rt_nx, ?_⟩
  refine List.forall_mem_cons.mpr ⟨rt_nx, ?_⟩
  refine List.forall_mem_cons.mpr ⟨rt_nx, ?_⟩
  refine List.forall_mem_cons.mpr ⟨rt_nx, ?_⟩
  refine List.forall_mem_cons.mpr ⟨rt_cv, ?_⟩
  refine List.forall_mem_cons.mpr ⟨rt_nx, ?_⟩
  refine List.forall_mem_cons.mpr ⟨rt_nx, ?_⟩
  refine List.forall_mem_cons.mpr ⟨rt_nx, ?_⟩
  refine List.forall_mem_cons.mpr ⟨rt_nx, ?_⟩
  refine List.forall_mem_cons.mpr ⟨rt_nx, ?_⟩
  refine List.forall_mem_cons.mpr ⟨rt_nx, ?_⟩
  refine List.forall_mem_cons.mpr ⟨rt_nx, ?_⟩
  refine List.forall_mem_cons.mpr ⟨rt_nx, ?_⟩
  refine List.forall_mem_cons.mpr ⟨rt_nx, ?_⟩
  refine List.forall_mem_cons.mpr ⟨rt_nx, ?_⟩
  refine List.forall_mem_cons.mpr ⟨rt_nx, ?_⟩
  refine List.forall_mem_cons.mpr ⟨rt_nx, ?_⟩
  refine List.forall_mem_cons.mpr ⟨rt_nx, ?_⟩
  refine List.forall_mem_cons.mpr ⟨rt_nx, ?_⟩
  refine List.forall_mem_cons.mpr ⟨rt_nx, ?_⟩
  refine List.forall_mem_cons.mpr ⟨rt_nx, ?_⟩
  refine List.forall_mem_cons.mpr ⟨rt_nx, ?_⟩
  refine List.forall_mem_cons.mpr ⟨rt_nx, ?_⟩
  refine List.forall_mem_cons.mpr ⟨rt_cv, ?_⟩
  refine List.forall_mem_cons.mpr ⟨rt_nx, ?_⟩
  refine List.forall_mem_cons.mpr ⟨rt_nx, ?_⟩
  refine List.forall_mem_cons.mpr ⟨rt_nx, ?_⟩
  refine List.forall_mem_cons.mpr ⟨rt_nx, ?_⟩
  refine List.forall_mem_cons.mpr ⟨rt_nx, ?_⟩
  refine List.forall_mem_cons.mpr ⟨rt_nx, ?_⟩
  refine List.forall_mem_cons.mpr ⟨rt_nx, ?_⟩
  refine List.forall_mem_cons.mpr ⟨rt_nx, ?_⟩
  refine List.forall_mem_cons.mpr ⟨rt_nx, ?_⟩
  refine List.forall_mem_cons.mpr ⟨rt_nx, ?_⟩
  refine List.forall_mem_cons.mpr ⟨rt_nx, ?_⟩
  refine List.forall_mem_cons.mpr ⟨rt_nx, ?_⟩
  refine List.forall_mem_cons.mpr ⟨rt_nx, ?_⟩
  refine List.forall_mem_cons.mpr ⟨rt_nx, ?_⟩
  refine List.forall_mem_cons.mpr ⟨rt_nx, ?_⟩
  refine List.forall_mem_cons.mpr ⟨rt_nx, ?_⟩
  refine List.forall_mem_cons.mpr ⟨rt_nx, ?_⟩
  refine List.forall_mem_cons.mpr ⟨rt_cv, ?_⟩
  refine List.forall_mem_cons.mpr ⟨rt_nx, ?_⟩
  refine List.forall_mem_cons.mpr ⟨rt_nx, ?_⟩
  refine List.forall_mem_cons.mpr ⟨rt_nx, ?_⟩
  refine List.forall_mem_cons.mpr ⟨rt_nx, ?_⟩
  refine List.forall_mem_cons.mpr ⟨rt_nx, ?_⟩
  refine List.forall_mem_cons.mpr ⟨rt_nx, ?_⟩
  refine List.forall_mem_cons.mpr ⟨rt_nx, ?_⟩
  refine List.forall_mem_cons.mpr ⟨rt_nx, ?_⟩
  refine List.forall_mem_cons.mpr ⟨rt_nx, ?_⟩
  refine List.forall_mem_cons.mpr ⟨rt_nx, ?_⟩
  refine List.forall_mem_cons.mpr ⟨rt_nx, ?_⟩
  refine List.forall_mem_cons.mpr ⟨rt_nx, ?_⟩
  refine List.forall_mem_cons.mpr ⟨rt_nx, ?_⟩
  refine List.forall_mem_cons.mpr ⟨rt_nx, ?_⟩
  exact fun _ h => absurd h List.not_mem_nil
theorem rtL_4 (xs : Nat → Int32) (L : Nat) : ∀ q ∈ tL_4 xs L, am_Rt q := by
  unfold tL_4
  refine List.forall_mem_cons.mpr ⟨rt_nx, ?_⟩
  refine List.forall_mem_cons.mpr ⟨rt_nx, ?_⟩
  refine List.forall_mem_cons.mpr ⟨rt_nx, ?_⟩
  refine List.forall_mem_cons.mpr ⟨rt_nx, ?_⟩
  refine List.forall_mem_cons.mpr ⟨rt_nx, ?_⟩
  refine List.forall_mem_cons.mpr ⟨rt_nx, ?_⟩
  refine List.forall_mem_cons.mpr ⟨rt_nx, ?_⟩
  refine List.forall_mem_cons.mpr ⟨rt_nx, ?_⟩
  refine List.forall_mem_cons.mpr ⟨rt_nx, ?_⟩
  refine List.forall_mem_cons.mpr ⟨rt_cv, ?_⟩
  refine List.forall_mem_cons.mpr ⟨rt_nx, ?_⟩
  refine List.forall_mem_cons.mpr ⟨rt_nx, ?_⟩
  refine List.forall_mem_cons.mpr ⟨rt_nx, ?_⟩
  refine List.forall_mem_cons.mpr ⟨rt_nx, ?_⟩
  refine List.forall_mem_cons.mpr ⟨rt_nx, ?_⟩
  refine List.forall_mem_cons.mpr ⟨rt_nx, ?_⟩
  refine List.forall_mem_cons.mpr ⟨rt_nx, ?_⟩
  refine List.forall_mem_cons.mpr ⟨rt_nx, ?_⟩
  refine List.forall_mem_cons.mpr ⟨rt_nx, ?_⟩
  refine List.forall_mem_cons.mpr ⟨rt_nx, ?_⟩
  refine List.forall_mem_cons.mpr ⟨rt_nx, ?_⟩
  refine List.forall_mem_cons.mpr ⟨rt_nx, ?_⟩
  refine List.forall_mem_cons.mpr ⟨rt_nx, ?_⟩
  refine List.forall_mem_cons.mpr ⟨rt_nx, ?_⟩
  refine List.forall_mem_cons.mpr ⟨rt_nx, ?_⟩
  refine List.forall_mem_cons.mpr ⟨rt_nx, ?_⟩
  refine List.forall_mem_cons.mpr ⟨rt_nx, ?_⟩
  refine List.forall_mem_cons.mpr ⟨rt_nx, ?_⟩
  refine List.forall_mem_cons.mpr ⟨rt_nx, ?_⟩
  refine List.forall_mem_cons.mpr ⟨rt_nx, ?_⟩
  refine List.forall_mem_cons.mpr ⟨rt_nx, ?_⟩
  refine List.forall_mem_cons.mpr ⟨rt_nx, ?_⟩
  refine List.forall_mem_cons.mpr ⟨rt_cv, ?_⟩
  refine List.forall_mem_cons.mpr ⟨rt_nx, ?_⟩
  refine List.forall_mem_cons.mpr ⟨rt_nx, ?_⟩
  refine List.forall_mem_cons.mpr ⟨rt_nx, ?_⟩
  refine List.forall_mem_cons.mpr ⟨rt_nx, ?_⟩
  refine List.forall_mem_cons.mpr ⟨rt_nx, ?_⟩
  refine List.forall_mem_cons.mpr ⟨rt_nx, ?_⟩
  refine List.forall_mem_cons.mpr ⟨rt_nx, ?_⟩
  refine List.forall_mem_cons.mpr ⟨rt_nx, ?_⟩
  refine List.forall_mem_cons.mpr ⟨rt_nx, ?_⟩
  refine List.forall_mem_cons.mpr ⟨rt_nx, ?_⟩
  refine List.forall_mem_cons.mpr ⟨rt_nx, ?_⟩
  refine List.forall_mem_cons.mpr ⟨rt_nx, ?_⟩
  refine List.forall_mem_cons.mpr ⟨rt_nx, ?_⟩
  refine List.forall_mem_cons.mpr ⟨rt_nx, ?_⟩
  refine List.forall_mem_cons.mpr ⟨rt_nx, ?_⟩
  refine List.forall_mem_cons.mpr ⟨rt_nx, ?_⟩
  refine List.forall_mem_cons.mpr ⟨rt_nx, ?_⟩
  refine List.forall_mem_cons.mpr ⟨rt_nx, ?_⟩
  refine List.forall_mem_cons.mpr ⟨rt_nx, ?_⟩
  refine List.forall_mem_cons.mpr ⟨rt_nx, ?_⟩
  refine List.forall_mem_cons.mpr ⟨rt_nx, ?_⟩
  refine List.forall_mem_cons.mpr ⟨rt_nx, ?_⟩
  refine List.forall_mem_cons.mpr ⟨rt_nx, ?_⟩
  refine List.forall_mem_cons.mpr ⟨rt_nx, ?_⟩
  refine List.forall_mem_cons.mpr ⟨rt_nx, ?_⟩
  refine List.forall_mem_cons.mpr ⟨rt_nx, ?_⟩
  refine List.forall_mem_cons.mpr ⟨rt_nx, ?_⟩
  exact fun _ h => absurd h List.not_mem_nil
theorem rtL_5 (xs : Nat → Int32) (L : Nat) : ∀ q ∈ tL_5 xs L, am_Rt q := by
  unfold tL_5
  refine List.forall_mem_cons.mpr ⟨rt_nx, ?_⟩
  refine List.forall_mem_cons.mpr ⟨rt_cv, ?_⟩
  refine List.forall_mem_cons.mpr ⟨rt_nx, ?_⟩
  refine List.forall_mem_cons.mpr ⟨rt_nx, ?_⟩
  refine List.forall_mem_cons.mpr ⟨rt_nx, ?_⟩
  refine List.forall_mem_cons.mpr ⟨rt_nx, ?_⟩
  refine List.forall_mem_cons.mpr ⟨rt_nx, ?_⟩
  refine List.forall_mem_cons.mpr ⟨rt_nx, ?_⟩
  refine List.forall_mem_cons.mpr ⟨rt_nx, ?_⟩
  refine List.forall_mem_cons.mpr ⟨rt_nx, ?_⟩
  refine List.forall_mem_cons.mpr ⟨rt_nx, ?_⟩
  refine List.forall_mem_cons.mpr ⟨rt_nx, ?_⟩
  refine List.forall_mem_cons.mpr ⟨rt_nx, ?_⟩
  refine List.forall_mem_cons.mpr ⟨rt_nx, ?_⟩
  refine List.forall_mem_cons.mpr ⟨rt_nx, ?_⟩
  refine List.forall_mem_cons.mpr ⟨rt_nx, ?_⟩
  refine List.forall_mem_cons.mpr ⟨rt_nx, ?_⟩
  refine List.forall_mem_cons.mpr ⟨rt_nx, ?_⟩
  refine List.forall_mem_cons.mpr ⟨rt_nx, ?_⟩
  refine List.forall_mem_cons.mpr ⟨rt_nx, ?_⟩
  refine List.forall_mem_cons.mpr ⟨rt_nx, ?_⟩
  refine List.forall_mem_cons.mpr ⟨rt_nx, ?_⟩
  refine List.forall_mem_cons.mpr ⟨rt_nx, ?_⟩
  refine List.forall_mem_cons.mpr ⟨rt_nx, ?_⟩
  refine List.forall_mem_cons.mpr ⟨rt_nx, ?_⟩
  refine List.forall_mem_cons.mpr ⟨rt_nx, ?_⟩
  refine List.forall_mem_cons.mpr ⟨rt_nx, ?_⟩
  refine List.forall_mem_cons.mpr ⟨rt_nx, ?_⟩
  refine List.forall_mem_cons.mpr ⟨rt_nx, ?_⟩
  refine List.forall_mem_cons.mpr ⟨rt_cv, ?_⟩
  refine List.forall_mem_cons.mpr ⟨rt_nx, ?_⟩
  refine List.forall_mem_cons.mpr ⟨rt_nx, ?_⟩
  refine List.forall_mem_cons.mpr ⟨rt_nx, ?_⟩
  refine List.forall_mem_cons.mpr ⟨rt_nx, ?_⟩
  refine List.forall_mem_cons.mpr ⟨rt_nx, ?_⟩
  refine List.forall_mem_cons.mpr ⟨rt_nx, ?_⟩
  refine List.forall_mem_cons.mpr ⟨rt_nx, ?_⟩
  refine List.forall_mem_cons.mpr ⟨rt_nx, ?_⟩
  refine List.forall_mem_cons.mpr ⟨rt_nx, ?_⟩
  refine List.forall_mem_cons.mpr ⟨rt_nx, ?_⟩
  refine List.forall_mem_cons.mpr ⟨rt_nx, ?_⟩
  refine List.forall_mem_cons.mpr ⟨rt_nx, ?_⟩
  refine List.forall_mem_cons.mpr ⟨rt_nx, ?_⟩
  refine List.forall_mem_cons.mpr ⟨rt_nx, ?_⟩
  refine List.forall_mem_cons.mpr ⟨rt_nx, ?_⟩
  refine List.forall_mem_cons.mpr ⟨rt_nx, ?_⟩
  refine List.forall_mem_cons.mpr ⟨rt_nx, ?_⟩
  refine List.forall_mem_cons.mpr ⟨rt_nx, ?_⟩
  refine List.forall_mem_cons.mpr ⟨rt_cv, ?_⟩
  refine List.forall_mem_cons.mpr ⟨rt_nx, ?_⟩
  refine List.forall_mem_cons.mpr ⟨rt_nx, ?_⟩
  refine List.forall_mem_cons.mpr ⟨rt_nx, ?_⟩
  refine List.forall_mem_cons.mpr ⟨rt_nx, ?_⟩
  refine List.forall_mem_cons.mpr ⟨rt_nx, ?_⟩
  refine List.forall_mem_cons.mpr ⟨rt_nx, ?_⟩
  refine List.forall_mem_cons.mpr ⟨rt_nx, ?_⟩
  refine List.forall_mem_cons.mpr ⟨rt_nx, ?_⟩
  refine List.forall_mem_cons.mpr ⟨rt_nx, ?_⟩
  refine List.forall_mem_cons.mpr ⟨rt_nx, ?_⟩
  refine List.forall_mem_cons.mpr ⟨rt_nx, ?_⟩
  exact fun _ h => absurd h List.not_mem_nil
theorem rtL_6 (xs : Nat → Int32) (L : Nat) : ∀ q ∈ tL_6 xs L, am_Rt q := by
  unfold tL_6
  refine List.forall_mem_cons.mpr ⟨rt_nx, ?_⟩
  refine List.forall_mem_cons.mpr ⟨rt_nx, ?_⟩
  refine List.forall_mem_cons.mpr ⟨rt_nx, ?_⟩
  refine List.forall_mem_cons.mpr ⟨rt_nx, ?_⟩
  refine List.forall_mem_cons.mpr ⟨rt_nx, ?_⟩
  refine List.forall_mem_cons.mpr ⟨rt_nx, ?_⟩
  refine List.forall_mem_cons.mpr ⟨rt_cv, ?_⟩
  refine List.forall_mem_cons.mpr ⟨rt_nx, ?_⟩
  refine List.forall_mem_cons.mpr ⟨rt_nx, ?_⟩
  refine List.forall_mem_cons.mpr ⟨rt_nx, ?_⟩
  refine List.forall_mem_cons.mpr ⟨rt_nx, ?_⟩
  refine List.forall_mem_cons.mpr ⟨rt_nx, ?_⟩
  refine List.forall_mem_cons.mpr ⟨rt_nx, ?_⟩
  refine List.forall_mem_cons.mpr ⟨rt_nx, ?_⟩
  refine List.forall_mem_cons.mpr ⟨rt_nx, ?_⟩
  refine List.forall_mem_cons.mpr ⟨rt_nx, ?_⟩
  refine List.forall_mem_cons.mpr ⟨rt_nx, ?_⟩
  refine List.forall_mem_cons.mpr ⟨rt_nx, ?_⟩
  refine List.forall_mem_cons.mpr ⟨rt_nx, ?_⟩
  refine List.forall_mem_cons.mpr ⟨rt_nx, ?_⟩
  refine List.forall_mem_cons.mpr ⟨rt_nx, ?_⟩
  refine List.forall_mem_cons.mpr ⟨rt_nx, ?_⟩
  refine List.forall_mem_cons.mpr ⟨rt_nx, ?_⟩
  refine List.forall_mem_cons.mpr ⟨rt_nx, ?_⟩
  refine List.forall_mem_cons.mpr ⟨rt_nx, ?_⟩
  refine List.forall_mem_cons.mpr ⟨rt_cv, ?_⟩
  refine List.forall_mem_cons.mpr ⟨rt_nx, ?_⟩
  refine List.forall_mem_cons.mpr ⟨rt_nx, ?_⟩
  refine List.forall_mem_cons.mpr ⟨rt_nx, ?_⟩
  refine List.forall_mem_cons.mpr ⟨rt_nx, ?_⟩
  refine List.forall_mem_cons.mpr ⟨rt_nx, ?_⟩
  refine List.forall_mem_cons.mpr ⟨rt_nx, ?_⟩
  refine List.forall_mem_cons.mpr ⟨rt_nx, ?_⟩
  refine List.forall_mem_cons.mpr ⟨rt_nx, ?_⟩
  refine List.forall_mem_cons.mpr ⟨rt_nx, ?_⟩
  refine List.forall_mem_cons.mpr ⟨rt_nx, ?_⟩
  refine List.forall_mem_cons.mpr ⟨rt_nx, ?_⟩
  refine List.forall_mem_cons.mpr ⟨rt_nx, ?_⟩
  refine List.forall_mem_cons.mpr ⟨rt_nx, ?_⟩
  refine List.forall_mem_cons.mpr ⟨rt_nx, ?_⟩
  refine List.forall_mem_cons.mpr ⟨rt_nx, ?_⟩
  refine List.forall_mem_cons.mpr ⟨rt_nx, ?_⟩
  refine List.forall_mem_cons.mpr ⟨rt_nx, ?_⟩
  refine List.forall_mem_cons.mpr ⟨rt_cv, ?_⟩
  refine List.forall_mem_cons.mpr ⟨rt_nx, ?_⟩
  refine List.forall_mem_cons.mpr ⟨rt_nx, ?_⟩
  refine List.forall_mem_cons.mpr ⟨rt_nx, ?_⟩
  refine List.forall_mem_cons.mpr ⟨rt_nx, ?_⟩
  refine List.forall_mem_cons.mpr ⟨rt_nx, ?_⟩
  refine List.forall_mem_cons.mpr ⟨rt_nx, ?_⟩
  refine List.forall_mem_cons.mpr ⟨rt_nx, ?_⟩
  refine List.forall_mem_cons.mpr ⟨rt_nx, ?_⟩
  refine List.forall_mem_cons.mpr ⟨rt_nx, ?_⟩
  refine List.forall_mem_cons.mpr ⟨rt_nx, ?_⟩
  refine List.forall_mem_cons.mpr ⟨rt_nx, ?_⟩
  refine List.forall_mem_cons.mpr ⟨rt_nx, ?_⟩
  refine List.forall_mem_cons.mpr ⟨rt_nx, ?_⟩
  refine List.forall_mem_cons.mpr ⟨rt_nx, ?_⟩
  refine List.forall_mem_cons.mpr ⟨rt_nx, ?_⟩
  refine List.forall_mem_cons.mpr ⟨rt_nx, ?_⟩
  exact fun _ h => absurd h List.not_mem_nil
theorem rtL_7 (xs : Nat → Int32) (L : Nat) : ∀ q ∈ tL_7 xs L, am_Rt q := by
  unfold tL_7
  refine List.forall_mem_cons.mpr ⟨rt_nx, ?_⟩
  refine List.forall_mem_cons.mpr ⟨rt_nx, ?_⟩
  refine List.forall_mem_cons.mpr ⟨rt_nx, ?_⟩
  refine List.forall_mem_cons.mpr ⟨rt_nx, ?_⟩
  refine List.forall_mem_cons.mpr ⟨rt_nx, ?_⟩
  refine List.forall_mem_cons.mpr ⟨rt_nx, ?_⟩
  refine List.forall_mem_cons.mpr ⟨rt_nx, ?_⟩
  refine List.forall_mem_cons.mpr ⟨rt_cv, ?_⟩
  refine List.forall_mem_cons.mpr ⟨rt_nx, ?_⟩
  refine List.forall_mem_cons.mpr ⟨rt_nx, ?_⟩
  refine List.forall_mem_cons.mpr ⟨rt_nx, ?_⟩
  refine List.forall_mem_cons.mpr ⟨rt_nx, ?_⟩
  refine List.forall_mem_cons.mpr ⟨rt_nx, ?_⟩
  refine List.forall_mem_cons.mpr ⟨rt_nx, ?_⟩
  refine List.forall_mem_cons.mpr ⟨rt_nx, ?_⟩
  refine List.forall_mem_cons.mpr ⟨rt_nx, ?_⟩
  refine List.forall_mem_cons.mpr ⟨rt_nx, ?_⟩
  refine List.forall_mem_cons.mpr ⟨rt_nx, ?_⟩
  refine List.forall_mem_cons.mpr ⟨rt_nx, ?_⟩
  refine List.forall_mem_cons.mpr ⟨rt_nx, ?_⟩
  refine List.forall_mem_cons.mpr ⟨rt_nx, ?_⟩
  refine List.forall_mem_cons.mpr ⟨rt_nx, ?_⟩
  refine List.forall_mem_cons.mpr ⟨rt_nx, ?_⟩
  refine List.forall_mem_cons.mpr ⟨rt_nx, ?_⟩
  refine List.forall_mem_cons.mpr ⟨rt_nx, ?_⟩
  refine List.forall_mem_cons.mpr ⟨rt_nx, ?_⟩
  refine List.forall_mem_cons.mpr ⟨rt_nx, ?_⟩
  refine List.forall_mem_cons.mpr ⟨rt_nx, ?_⟩
  refine List.forall_mem_cons.mpr ⟨rt_nx, ?_⟩
  refine List.forall_mem_cons.mpr ⟨rt_nx, ?_⟩
  refine List.forall_mem_cons.mpr ⟨rt_cv, ?_⟩
  refine List.forall_mem_cons.mpr ⟨rt_nx, ?_⟩
  refine List.forall_mem_cons.mpr ⟨rt_nx, ?_⟩
  refine List.forall_mem_cons.mpr ⟨rt_nx, ?_⟩
  refine List.forall_mem_cons.mpr ⟨rt_nx, ?_⟩
  refine List.forall_mem_cons.mpr ⟨rt_nx, ?_⟩
  refine List.forall_mem_cons.mpr ⟨rt_nx, ?_⟩
  refine List.forall_mem_cons.mpr ⟨rt_nx, ?_⟩
  refine List.forall_mem_cons.mpr ⟨rt_nx, ?_⟩
  refine List.forall_mem_cons.mpr ⟨rt_nx, ?_⟩
  refine List.forall_mem_cons.mpr ⟨rt_nx, ?_⟩
  refine List.forall_mem_cons.mpr ⟨rt_nx, ?_⟩
  refine List.forall_mem_cons.mpr ⟨rt_nx, ?_⟩
  refine List.forall_mem_cons.mpr ⟨rt_nx, ?_⟩
  refine List.forall_mem_cons.mpr ⟨rt_cv, ?_⟩
  refine List.forall_mem_cons.mpr ⟨rt_nx, ?_⟩
  refine List.forall_mem_cons.mpr ⟨rt_nx, ?_⟩
  refine List.forall_mem_cons.mpr ⟨rt_nx, ?_⟩
  refine List.forall_mem_cons.mpr ⟨rt_nx, ?_⟩
  refine List.forall_mem_cons.mpr ⟨rt_nx, ?_⟩
  refine List.forall_mem_cons.mpr ⟨rt_nx, ?_⟩
  refine List.forall_mem_cons.mpr ⟨rt_nx, ?_⟩
  refine List.forall_mem_cons.mpr ⟨rt_nx, ?_⟩
  refine List.forall_mem_cons.mpr ⟨rt_nx, ?_⟩
  refine List.forall_mem_cons.mpr ⟨rt_nx, ?_⟩
  refine List.forall_mem_cons.mpr ⟨rt_nx, ?_⟩
  refine List.forall_mem_cons.mpr ⟨rt_nx, ?_⟩
  refine List.forall_mem_cons.mpr ⟨rt_cv, ?_⟩
  refine List.forall_mem_cons.mpr ⟨rt_nx, ?_⟩
  refine List.forall_mem_cons.mpr ⟨rt_nx, ?_⟩
  exact fun _ h => absurd h List.not_mem_nil
theorem rtL_8 (xs : Nat → Int32) (L : Nat) : ∀ q ∈ tL_8 xs L, am_Rt q := by
  unfold tL_8
  refine List.forall_mem_cons.mpr ⟨rt_nx, ?_⟩
  refine List.forall_mem_cons.mpr ⟨rt_nx, ?_⟩
  refine List.forall_mem_cons.mpr ⟨rt_nx, ?_⟩
  refine List.forall_mem_cons.mpr ⟨rt_nx, ?_⟩
  refine List.forall_mem_cons.mpr ⟨rt_nx, ?_⟩
  refine List.forall_mem_cons.mpr ⟨rt_nx, ?_⟩
  refine List.forall_mem_cons.mpr ⟨rt_nx, ?_⟩
  refine List.forall_mem_cons.mpr ⟨rt_nx, ?_⟩
  refine List.forall_mem_cons.mpr ⟨rt_nx, ?_⟩
  refine List.forall_mem_cons.mpr ⟨rt_nx, ?_⟩
  refine List.forall_mem_cons.mpr ⟨rt_nx, ?_⟩
  refine List.forall_mem_cons.mpr ⟨rt_cv, ?_⟩
  refine List.forall_mem_cons.mpr ⟨rt_nx, ?_⟩
  refine List.forall_mem_cons.mpr ⟨rt_nx, ?_⟩
  refine List.forall_mem_cons.mpr ⟨rt_nx, ?_⟩
  refine List.forall_mem_cons.mpr ⟨rt_nx, ?_⟩
  refine List.forall_mem_cons.mpr ⟨rt_nx, ?_⟩
  refine List.forall_mem_cons.mpr ⟨rt_nx, ?_⟩
  refine List.forall_mem_cons.mpr ⟨rt_nx, ?_⟩
  refine List.forall_mem_cons.mpr ⟨rt_nx, ?_⟩
  refine List.forall_mem_cons.mpr ⟨rt_nx, ?_⟩
  refine List.forall_mem_cons.mpr ⟨rt_nx, ?_⟩
  refine List.forall_mem_cons.mpr ⟨rt_nx, ?_⟩
  refine List.forall_mem_cons.mpr ⟨rt_nx, ?_⟩
  refine List.forall_mem_cons.mpr ⟨rt_cv, ?_⟩
  refine List.forall_mem_cons.mpr ⟨rt_nx, ?_⟩
  refine List.forall_mem_cons.mpr ⟨rt_nx, ?_⟩
  refine List.forall_mem_cons.mpr ⟨rt_nx, ?_⟩
  refine List.forall_mem_cons.mpr ⟨rt_nx, ?_⟩
  refine List.forall_mem_cons.mpr ⟨rt_nx, ?_⟩
  refine List.forall_mem_cons.mpr ⟨rt_nx, ?_⟩
  refine List.forall_mem_cons.mpr ⟨rt_nx, ?_⟩
  refine List.forall_mem_cons.mpr ⟨rt_nx, ?_⟩
  refine List.forall_mem_cons.mpr ⟨rt_cv, ?_⟩
  refine List.forall_mem_cons.mpr ⟨rt_nx, ?_⟩
  refine List.forall_mem_cons.mpr ⟨rt_nx, ?_⟩
  refine List.forall_mem_cons.mpr ⟨rt_nx, ?_⟩
  refine List.forall_mem_cons.mpr ⟨rt_nx, ?_⟩
  refine List.forall_mem_cons.mpr ⟨rt_nx, ?_⟩
  refine List.forall_mem_cons.mpr ⟨rt_nx, ?_⟩
  refine List.forall_mem_cons.mpr ⟨rt_nx, ?_⟩
  refine List.forall_mem_cons.mpr ⟨rt_cv, ?_⟩
  refine List.forall_mem_cons.mpr ⟨rt_nx, ?_⟩
  refine List.forall_mem_cons.mpr ⟨rt_nx, ?_⟩
  refine List.forall_mem_cons.mpr ⟨rt_nx, ?_⟩
  refine List.forall_mem_cons.mpr ⟨rt_nx, ?_⟩
  refine List.forall_mem_cons.mpr ⟨rt_nx, ?_⟩
  refine List.forall_mem_cons.mpr ⟨rt_nx, ?_⟩
  refine List.forall_mem_cons.mpr ⟨rt_nx, ?_⟩
  refine List.forall_mem_cons.mpr ⟨rt_nx, ?_⟩
  refine List.forall_mem_cons.mpr ⟨rt_nx, ?_⟩
  refine List.forall_mem_cons.mpr ⟨rt_nx, ?_⟩
  refine List.forall_mem_cons.mpr ⟨rt_nx, ?_⟩
  refine List.forall_mem_cons.mpr ⟨rt_nx, ?_⟩
  refine List.forall_mem_cons.mpr ⟨rt_nx, ?_⟩
  refine List.forall_mem_cons.mpr ⟨rt_cv, ?_⟩
  refine List.forall_mem_cons.mpr ⟨rt_nx, ?_⟩
  refine List.forall_mem_cons.mpr ⟨rt_nx, ?_⟩
  refine List.forall_mem_cons.mpr ⟨rt_nx, ?_⟩
  refine List.forall_mem_cons.mpr ⟨rt_nx, ?_⟩
  exact fun _ h => absurd h List.not_mem_nil
theorem rtL_9 (xs : Nat → Int32) (L : Nat) : ∀ q ∈ tL_9 xs L, am_Rt q := by
  unfold tL_9
  refine List.forall_mem_cons.mpr ⟨rt_nx, ?_⟩
  refine List.forall_mem_cons.mpr ⟨rt_nx, ?_⟩
  refine List.forall_mem_cons.mpr ⟨rt_nx, ?_⟩
  refine List.forall_mem_cons.mpr ⟨rt_nx, ?_⟩
  refine List.forall_mem_cons.mpr ⟨rt_nx, ?_⟩
  refine List.forall_mem_cons.mpr ⟨rt_nx, ?_⟩
  refine List.forall_mem_cons.mpr ⟨rt_nx, ?_⟩
  refine List.forall_mem_cons.mpr ⟨rt_nx, ?_⟩
  refine List.forall_mem_cons.mpr ⟨rt_cv, ?_⟩
  refine List.forall_mem_cons.mpr ⟨rt_nx, ?_⟩
  refine List.forall_mem_cons.mpr ⟨rt_nx, ?_⟩
  refine List.forall_mem_cons.mpr ⟨rt_nx, ?_⟩
  refine List.forall_mem_cons.mpr ⟨rt_nx, ?_⟩
  refine List.forall_mem_cons.mpr ⟨rt_nx, ?_⟩
  refine List.forall_mem_cons.mpr ⟨rt_nx, ?_⟩
  refine List.forall_mem_cons.mpr ⟨rt_nx, ?_⟩
  refine List.forall_mem_cons.mpr ⟨rt_nx, ?_⟩
  refine List.forall_mem_cons.mpr ⟨rt_cv, ?_⟩
  refine List.forall_mem_cons.mpr ⟨rt_nx, ?_⟩
  refine List.forall_mem_cons.mpr ⟨rt_nx, ?_⟩
  refine List.forall_mem_cons.mpr ⟨rt_nx, ?_⟩
  refine List.forall_mem_cons.mpr ⟨rt_nx, ?_⟩
  refine List.forall_mem_cons.mpr ⟨rt_nx, ?_⟩
  refine List.forall_mem_cons.mpr ⟨rt_nx, ?_⟩
  refine List.forall_mem_cons.mpr ⟨rt_nx, ?_⟩
  refine List.forall_mem_cons.mpr ⟨rt_cv, ?_⟩
  refine List.forall_mem_cons.mpr ⟨rt_nx, ?_⟩
  refine List.forall_mem_cons.mpr ⟨rt_nx, ?_⟩
  refine List.forall_mem_cons.mpr ⟨rt_nx, ?_⟩
  refine List.forall_mem_cons.mpr ⟨rt_nx, ?_⟩
  refine List.forall_mem_cons.mpr ⟨rt_nx, ?_⟩
  refine List.forall_mem_cons.mpr ⟨rt_nx, ?_⟩
  refine List.forall_mem_cons.mpr ⟨rt_nx, ?_⟩
  refine List.forall_mem_cons.mpr ⟨rt_nx, ?_⟩
  refine List.forall_mem_cons.mpr ⟨rt_nx, ?_⟩
  refine List.forall_mem_cons.mpr ⟨rt_nx, ?_⟩
  refine List.forall_mem_cons.mpr ⟨rt_nx, ?_⟩
  refine List.forall_mem_cons.mpr ⟨rt_nx, ?_⟩
  refine List.forall_mem_cons.mpr ⟨rt_nx, ?_⟩
  refine List.forall_mem_cons.mpr ⟨rt_cv, ?_⟩
  refine List.forall_mem_cons.mpr ⟨rt_nx, ?_⟩
  refine List.forall_mem_cons.mpr ⟨rt_nx, ?_⟩
  refine List.forall_mem_cons.mpr ⟨rt_nx, ?_⟩
  refine List.forall_mem_cons.mpr ⟨rt_nx, ?_⟩
  refine List.forall_mem_cons.mpr ⟨rt_nx, ?_⟩
  refine List.forall_mem_cons.mpr ⟨rt_nx, ?_⟩
  refine List.forall_mem_cons.mpr ⟨rt_nx, ?_⟩
  refine List.forall_mem_cons.mpr ⟨rt_nx, ?_⟩
  refine List.forall_mem_cons.mpr ⟨rt_nx, ?_⟩
  refine List.forall_mem_cons.mpr ⟨rt_nx, ?_⟩
  refine List.forall_mem_cons.mpr ⟨rt_nx, ?_⟩
  refine List.forall_mem_cons.mpr ⟨rt_nx, ?_⟩
  refine List.forall_mem_cons.mpr ⟨rt_cv, ?_⟩
  refine List.forall_mem_cons.mpr ⟨rt_nx, ?_⟩
  refine List.forall_mem_cons.mpr ⟨rt_nx, ?_⟩
  refine List.forall_mem_cons.mpr ⟨rt_nx, ?_⟩
  refine List.forall_mem_cons.mpr ⟨rt_nx, ?_⟩
  refine List.forall_mem_cons.mpr ⟨rt_nx, ?_⟩
  refine List.forall_mem_cons.mpr ⟨rt_nx, ?_⟩
  refine List.forall_mem_cons.mpr ⟨rt_nx, ?_⟩
  exact fun _ h => absurd h List.not_mem_nil
theorem rtL_10 (xs : Nat → Int32) (L : Nat) : ∀ q ∈ tL_10 xs L, am_Rt q := by
  unfold tL_10
  refine List.forall_mem_cons.mpr ⟨rt_nx, ?_⟩
  refine List.forall_mem_cons.mpr ⟨rt_cv, ?_⟩
  refine List.forall_mem_cons.mpr ⟨rt_nx, ?_⟩
  refine List.forall_mem_cons.mpr ⟨rt_nx, ?_⟩
  refine List.forall_mem_cons.mpr ⟨rt_nx, ?_⟩
  refine List.forall_mem_cons.mpr ⟨rt_nx, ?_⟩
  refine List.forall_mem_cons.mpr ⟨rt_nx, ?_⟩
  refine List.forall_mem_cons.mpr ⟨rt_nx, ?_⟩
  refine List.forall_mem_cons.mpr ⟨rt_nx, ?_⟩
  refine List.forall_mem_cons.mpr ⟨rt_cv, ?_⟩
  refine List.forall_mem_cons.mpr ⟨rt_nx, ?_⟩
  refine List.forall_mem_cons.mpr ⟨rt_nx, ?_⟩
  refine List.forall_mem_cons.mpr ⟨rt_nx, ?_⟩
  refine List.forall_mem_cons.mpr ⟨rt_cv, ?_⟩
  refine List.forall_mem_cons.mpr ⟨rt_nx, ?_⟩
  refine List.forall_mem_cons.mpr ⟨rt_nx, ?_⟩
  refine List.forall_mem_cons.mpr ⟨rt_cv, ?_⟩
  refine List.forall_mem_cons.mpr ⟨rt_nx, ?_⟩
  refine List.forall_mem_cons.mpr ⟨rt_nx, ?_⟩
  refine List.forall_mem_cons.mpr ⟨rt_nx, ?_⟩
  refine List.forall_mem_cons.mpr ⟨rt_nx, ?_⟩
  refine List.forall_mem_cons.mpr ⟨rt_nx, ?_⟩
  refine List.forall_mem_cons.mpr ⟨rt_nx, ?_⟩
  refine List.forall_mem_cons.mpr ⟨rt_nx, ?_⟩
  refine List.forall_mem_cons.mpr ⟨rt_nx, ?_⟩
  refine List.forall_mem_cons.mpr ⟨rt_nx, ?_⟩
  refine List.forall_mem_cons.mpr ⟨rt_nx, ?_⟩
  refine List.forall_mem_cons.mpr ⟨rt_nx, ?_⟩
  refine List.forall_mem_cons.mpr ⟨rt_nx, ?_⟩
  refine List.forall_mem_cons.mpr ⟨rt_nx, ?_⟩
  refine List.forall_mem_cons.mpr ⟨rt_nx, ?_⟩
  refine List.forall_mem_cons.mpr ⟨rt_nx, ?_⟩
  refine List.forall_mem_cons.mpr ⟨rt_nx, ?_⟩
  refine List.forall_mem_cons.mpr ⟨rt_nx, ?_⟩
  refine List.forall_mem_cons.mpr ⟨rt_nx, ?_⟩
  refine List.forall_mem_cons.mpr ⟨rt_cv, ?_⟩
  refine List.forall_mem_cons.mpr ⟨rt_nx, ?_⟩
  refine List.forall_mem_cons.mpr ⟨rt_nx, ?_⟩
  refine List.forall_mem_cons.mpr ⟨rt_nx, ?_⟩
  refine List.forall_mem_cons.mpr ⟨rt_nx, ?_⟩
  refine List.forall_mem_cons.mpr ⟨rt_nx, ?_⟩
  refine List.forall_mem_cons.mpr ⟨rt_nx, ?_⟩
  refine List.forall_mem_cons.mpr ⟨rt_nx, ?_⟩
  refine List.forall_mem_cons.mpr ⟨rt_nx, ?_⟩
  refine List.forall_mem_cons.mpr ⟨rt_nx, ?_⟩
  refine List.forall_mem_cons.mpr ⟨rt_nx, ?_⟩
  refine List.forall_mem_cons.mpr ⟨rt_nx, ?_⟩
  refine List.forall_mem_cons.mpr ⟨rt_nx, ?_⟩
  refine List.forall_mem_cons.mpr ⟨rt_nx, ?_⟩
  refine List.forall_mem_cons.mpr ⟨rt_nx, ?_⟩
  refine List.forall_mem_cons.mpr ⟨rt_nx, ?_⟩
  refine List.forall_mem_cons.mpr ⟨rt_nx, ?_⟩
  refine List.forall_mem_cons.mpr ⟨rt_nx, ?_⟩
  refine List.forall_mem_cons.mpr ⟨rt_cv, ?_⟩
  refine List.forall_mem_cons.mpr ⟨rt_nx, ?_⟩
  refine List.forall_mem_cons.mpr ⟨rt_nx, ?_⟩
  refine List.forall_mem_cons.mpr ⟨rt_nx, ?_⟩
  refine List.forall_mem_cons.mpr ⟨rt_nx, ?_⟩
  refine List.forall_mem_cons.mpr ⟨rt_nx, ?_⟩
  refine List.forall_mem_cons.mpr ⟨rt_nx, ?_⟩
  exact fun _ h => absurd h List.not_mem_nil
theorem rtL_11 (xs : Nat → Int32) (L : Nat) : ∀ q ∈ tL_11 xs L, am_Rt q := by
  unfold tL_11
  refine List.forall_mem_cons.mpr ⟨rt_nx, ?_⟩
  refine List.forall_mem_cons.mpr ⟨rt_nx, ?_⟩
  refine List.forall_mem_cons.mpr ⟨rt_nx, ?_⟩
  refine List.forall_mem_cons.mpr ⟨rt_nx, ?_⟩
  refine List.forall_mem_cons.mpr ⟨rt_nx, ?_⟩
  refine List.forall_mem_cons.mpr ⟨rt_nx, ?_⟩
  refine List.forall_mem_cons.mpr ⟨rt_nx, ?_⟩
  refine List.forall_mem_cons.mpr ⟨rt_cv, ?_⟩
  refine List.forall_mem_cons.mpr ⟨rt_nx, ?_⟩
  refine List.forall_mem_cons.mpr ⟨rt_nx, ?_⟩
  refine List.forall_mem_cons.mpr ⟨rt_nx, ?_⟩
  refine List.forall_mem_cons.mpr ⟨rt_nx, ?_⟩
  refine List.forall_mem_cons.mpr ⟨rt_nx, ?_⟩
  refine List.forall_mem_cons.mpr ⟨rt_nx, ?_⟩
  refine List.forall_mem_cons.mpr ⟨rt_nx, ?_⟩
  refine List.forall_mem_cons.mpr ⟨rt_nx, ?_⟩
  refine List.forall_mem_cons.mpr ⟨rt_nx, ?_⟩
  refine List.forall_mem_cons.mpr ⟨rt_nx, ?_⟩
  refine List.forall_mem_cons.mpr ⟨rt_nx, ?_⟩
  refine List.forall_mem_cons.mpr ⟨rt_nx, ?_⟩
  refine List.forall_mem_cons.mpr ⟨rt_cv, ?_⟩
  refine List.forall_mem_cons.mpr ⟨rt_nx, ?_⟩
  refine List.forall_mem_cons.mpr ⟨rt_nx, ?_⟩
  refine List.forall_mem_cons.mpr ⟨rt_nx, ?_⟩
  refine List.forall_mem_cons.mpr ⟨rt_cv, ?_⟩
  refine List.forall_mem_cons.mpr ⟨rt_nx, ?_⟩
  refine List.forall_mem_cons.mpr ⟨rt_cv, ?_⟩
  refine List.forall_mem_cons.mpr ⟨rt_nx, ?_⟩
  refine List.forall_mem_cons.mpr ⟨rt_nx, ?_⟩
  refine List.forall_mem_cons.mpr ⟨rt_z (by decide +kernel), ?_⟩
  refine List.forall_mem_cons.mpr ⟨rt_nx, ?_⟩
  refine List.forall_mem_cons.mpr ⟨rt_cv, ?_⟩
  refine List.forall_mem_cons.mpr ⟨rt_nx, ?_⟩
  refine List.forall_mem_cons.mpr ⟨rt_nx, ?_⟩
  refine List.forall_mem_cons.mpr ⟨rt_cv, ?_⟩
  refine List.forall_mem_cons.mpr ⟨rt_nx, ?_⟩
  refine List.forall_mem_cons.mpr ⟨rt_nx, ?_⟩
  refine List.forall_mem_cons.mpr ⟨rt_nx, ?_⟩
  refine List.forall_mem_cons.mpr ⟨rt_nx, ?_⟩
  refine List.forall_mem_cons.mpr ⟨rt_nx, ?_⟩
  refine List.forall_mem_cons.mpr ⟨rt_nx, ?_⟩
  refine List.forall_mem_cons.mpr ⟨rt_nx, ?_⟩
  refine List.forall_mem_cons.mpr ⟨rt_nx, ?_⟩
  refine List.forall_mem_cons.mpr ⟨rt_nx, ?_⟩
  refine List.forall_mem_cons.mpr ⟨rt_nx, ?_⟩
  refine List.forall_mem_cons.mpr ⟨rt_nx, ?_⟩
  refine List.forall_mem_cons.mpr ⟨rt_nx, ?_⟩
  refine List.forall_mem_cons.mpr ⟨rt_nx, ?_⟩
  refine List.forall_mem_cons.mpr ⟨rt_cv, ?_⟩
  refine List.forall_mem_cons.mpr ⟨rt_nx, ?_⟩
  refine List.forall_mem_cons.mpr ⟨rt_nx, ?_⟩
  refine List.forall_mem_cons.mpr ⟨rt_nx, ?_⟩
  refine List.forall_mem_cons.mpr ⟨rt_nx, ?_⟩
  refine List.forall_mem_cons.mpr ⟨rt_nx, ?_⟩
  refine List.forall_mem_cons.mpr ⟨rt_nx, ?_⟩
  refine List.forall_mem_cons.mpr ⟨rt_nx, ?_⟩
  refine List.forall_mem_cons.mpr ⟨rt_nx, ?_⟩
  refine List.forall_mem_cons.mpr ⟨rt_nx, ?_⟩
  refine List.forall_mem_cons.mpr ⟨rt_nx, ?_⟩
  refine List.forall_mem_cons.mpr ⟨rt_nx, ?_⟩
  exact fun _ h => absurd h List.not_mem_nil
theorem rtL_12 (xs : Nat → Int32) (L : Nat) : ∀ q ∈ tL_12 xs L, am_Rt q := by
  unfold tL_12
  refine List.forall_mem_cons.mpr ⟨rt_nx, ?_⟩
  refine List.forall_mem_cons.mpr ⟨rt_cv, ?_⟩
  refine List.forall_mem_cons.mpr ⟨rt_nx, ?_⟩
  refine List.forall_mem_cons.mpr ⟨rt_nx, ?_⟩
  refine List.forall_mem_cons.mpr ⟨rt_nx, ?_⟩
  refine List.forall_mem_cons.mpr ⟨rt_nx, ?_⟩
  refine List.forall_mem_cons.mpr ⟨rt_nx, ?_⟩
  refine List.forall_mem_cons.mpr ⟨rt_nx, ?_⟩
  refine List.forall_mem_cons.mpr ⟨rt_nx, ?_⟩
  refine List.forall_mem_cons.mpr ⟨rt_nx, ?_⟩
  refine List.forall_mem_cons.mpr ⟨rt_cv, ?_⟩
  refine List.forall_mem_cons.mpr ⟨rt_nx, ?_⟩
  refine List.forall_mem_cons.mpr ⟨rt_nx, ?_⟩
  refine List.forall_mem_cons.mpr ⟨rt_nx, ?_⟩
  refine List.forall_mem_cons.mpr ⟨rt_nx, ?_⟩
  refine List.forall_mem_cons.mpr ⟨rt_nx, ?_⟩
  refine List.forall_mem_cons.mpr ⟨rt_nx, ?_⟩
  refine List.forall_mem_cons.mpr ⟨rt_nx, ?_⟩
  refine List.forall_mem_cons.mpr ⟨rt_cv, ?_⟩
  refine List.forall_mem_cons.mpr ⟨rt_nx, ?_⟩
  refine List.forall_mem_cons.mpr ⟨rt_nx, ?_⟩
  refine List.forall_mem_cons.mpr ⟨rt_nx, ?_⟩
  refine List.forall_mem_cons.mpr ⟨rt_cv, ?_⟩
  refine List.forall_mem_cons.mpr ⟨rt_nx, ?_⟩
  refine List.forall_mem_cons.mpr ⟨rt_nx, ?_⟩
  refine List.forall_mem_cons.mpr ⟨rt_cv, ?_⟩
  refine List.forall_mem_cons.mpr ⟨rt_nx, ?_⟩
  refine List.forall_mem_cons.mpr ⟨rt_nx, ?_⟩
  refine List.forall_mem_cons.mpr ⟨rt_nx, ?_⟩
  refine List.forall_mem_cons.mpr ⟨rt_nx, ?_⟩
  refine List.forall_mem_cons.mpr ⟨rt_nx, ?_⟩
  refine List.forall_mem_cons.mpr ⟨rt_nx, ?_⟩
  refine List.forall_mem_cons.mpr ⟨rt_nx, ?_⟩
  refine List.forall_mem_cons.mpr ⟨rt_nx, ?_⟩
  refine List.forall_mem_cons.mpr ⟨rt_nx, ?_⟩
  refine List.forall_mem_cons.mpr ⟨rt_nx, ?_⟩
  refine List.forall_mem_cons.mpr ⟨rt_nx, ?_⟩
  refine List.forall_mem_cons.mpr ⟨rt_nx, ?_⟩
  refine List.forall_mem_cons.mpr ⟨rt_nx, ?_⟩
  refine List.forall_mem_cons.mpr ⟨rt_nx, ?_⟩
  refine List.forall_mem_cons.mpr ⟨rt_nx, ?_⟩
  refine List.forall_mem_cons.mpr ⟨rt_nx, ?_⟩
  refine List.forall_mem_cons.mpr ⟨rt_nx, ?_⟩
  refine List.forall_mem_cons.mpr ⟨rt_nx, ?_⟩
  refine List.forall_mem_cons.mpr ⟨rt_cv, ?_⟩
  refine List.forall_mem_cons.mpr ⟨rt_nx, ?_⟩
  refine List.forall_mem_cons.mpr ⟨rt_nx, ?_⟩
  refine List.forall_mem_cons.mpr ⟨rt_nx, ?_⟩
  refine List.forall_mem_cons.mpr ⟨rt_nx, ?_⟩
  refine List.forall_mem_cons.mpr ⟨rt_nx, ?_⟩
  refine List.forall_mem_cons.mpr ⟨rt_nx, ?_⟩
  refine List.forall_mem_cons.mpr ⟨rt_nx, ?_⟩
  refine List.forall_mem_cons.mpr ⟨rt_nx, ?_⟩
  refine List.forall_mem_cons.mpr ⟨rt_nx, ?_⟩
  refine List.forall_mem_cons.mpr ⟨rt_nx, ?_⟩
  refine List.forall_mem_cons.mpr ⟨rt_nx, ?_⟩
  refine List.forall_mem_cons.mpr ⟨rt_nx, ?_⟩
  refine List.forall_mem_cons.mpr ⟨rt_nx, ?_⟩
  refine List.forall_mem_cons.mpr ⟨rt_nx, ?_⟩
  refine List.forall_mem_cons.mpr ⟨rt_nx, ?_⟩
  exact fun _ h => absurd h List.not_mem_nil
theorem rtL_13 (xs : Nat → Int32) (L : Nat) : ∀ q ∈ tL_13 xs L, am_Rt q := by
  unfold tL_13
  refine List.forall_mem_cons.mpr ⟨rt_nx, ?_⟩
  refine List.forall_mem_cons.mpr ⟨rt_nx, ?_⟩
  refine List.forall_mem_cons.mpr ⟨rt_cv, ?_⟩
  refine List.forall_mem_cons.mpr ⟨rt_nx, ?_⟩
  refine List.forall_mem_cons.mpr ⟨rt_nx, ?_⟩
  refine List.forall_mem_cons.mpr ⟨rt_nx, ?_⟩
  refine List.forall_mem_cons.mpr ⟨rt_nx, ?_⟩
  refine List.forall_mem_cons.mpr ⟨rt_nx, ?_⟩
  refine List.forall_mem_cons.mpr ⟨rt_nx, ?_⟩
  refine List.forall_mem_cons.mpr ⟨rt_nx, ?_⟩
  refine List.forall_mem_cons.mpr ⟨rt_nx, ?_⟩
  refine List.forall_mem_cons.mpr ⟨rt_cv, ?_⟩
  refine List.forall_mem_cons.mpr ⟨rt_nx, ?_⟩
  refine List.forall_mem_cons.mpr ⟨rt_nx, ?_⟩
  refine List.forall_mem_cons.mpr ⟨rt_nx, ?_⟩
  refine List.forall_mem_cons.mpr ⟨rt_nx, ?_⟩
  refine List.forall_mem_cons.mpr ⟨rt_nx, ?_⟩
  refine List.forall_mem_cons.mpr ⟨rt_nx, ?_⟩
  refine List.forall_mem_cons.mpr ⟨rt_nx, ?_⟩
  refine List.forall_mem_cons.mpr ⟨rt_cv, ?_⟩
  refine List.forall_mem_cons.mpr ⟨rt_nx, ?_⟩
  refine List.forall_mem_cons.mpr ⟨rt_nx, ?_⟩
  refine List.forall_mem_cons.mpr ⟨rt_nx, ?_⟩
  refine List.forall_mem_cons.mpr ⟨rt_nx, ?_⟩
  refine List.forall_mem_cons.mpr ⟨rt_nx, ?_⟩
  refine List.forall_mem_cons.mpr ⟨rt_nx, ?_⟩
  refine List.forall_mem_cons.mpr ⟨rt_nx, ?_⟩
  refine List.forall_mem_cons.mpr ⟨rt_nx, ?_⟩
  refine List.forall_mem_cons.mpr ⟨rt_cv, ?_⟩
  refine List.forall_mem_cons.mpr ⟨rt_nx, ?_⟩
  refine List.forall_mem_cons.mpr ⟨rt_nx, ?_⟩
  refine List.forall_mem_cons.mpr ⟨rt_nx, ?_⟩
  refine List.forall_mem_cons.mpr ⟨rt_nx, ?_⟩
  refine List.forall_mem_cons.mpr ⟨rt_nx, ?_⟩
  refine List.forall_mem_cons.mpr ⟨rt_nx, ?_⟩
  refine List.forall_mem_cons.mpr ⟨rt_nx, ?_⟩
  refine List.forall_mem_cons.mpr ⟨rt_cv, ?_⟩
  refine List.forall_mem_cons.mpr ⟨rt_nx, ?_⟩
  refine List.forall_mem_cons.mpr ⟨rt_nx, ?_⟩
  refine List.forall_mem_cons.mpr ⟨rt_nx, ?_⟩
  refine List.forall_mem_cons.mpr ⟨rt_cv, ?_⟩
  refine List.forall_mem_cons.mpr ⟨rt_nx, ?_⟩
  refine List.forall_mem_cons.mpr ⟨rt_nx, ?_⟩
  refine List.forall_mem_cons.mpr ⟨rt_cv, ?_⟩
  refine List.forall_mem_cons.mpr ⟨rt_nx, ?_⟩
  refine List.forall_mem_cons.mpr ⟨rt_nx, ?_⟩
  refine List.forall_mem_cons.mpr ⟨rt_nx, ?_⟩
  refine List.forall_mem_cons.mpr ⟨rt_nx, ?_⟩
  refine List.forall_mem_cons.mpr ⟨rt_nx, ?_⟩
  refine List.forall_mem_cons.mpr ⟨rt_nx, ?_⟩
  refine List.forall_mem_cons.mpr ⟨rt_nx, ?_⟩
  refine List.forall_mem_cons.mpr ⟨rt_nx, ?_⟩
  refine List.forall_mem_cons.mpr ⟨rt_nx, ?_⟩
  refine List.forall_mem_cons.mpr ⟨rt_nx, ?_⟩
  refine List.forall_mem_cons.mpr ⟨rt_nx, ?_⟩
  refine List.forall_mem_cons.mpr ⟨rt_nx, ?_⟩
  refine List.forall_mem_cons.mpr ⟨rt_nx, ?_⟩
  refine List.forall_mem_cons.mpr ⟨rt_nx, ?_⟩
  refine List.forall_mem_cons.mpr ⟨rt_nx, ?_⟩
  refine List.forall_mem_cons.mpr ⟨rt_nx, ?_⟩
  exact fun _ h => absurd h List.not_mem_nil
theorem rtL_14 (xs : Nat → Int32) (L : Nat) : ∀ q ∈ tL_14 xs L, am_Rt q := by
  unfold tL_14
  refine List.forall_mem_cons.mpr ⟨rt_nx, ?_⟩
  refine List.forall_mem_cons.mpr ⟨rt_nx, ?_⟩
  refine List.forall_mem_cons.mpr ⟨rt_nx, ?_⟩
  refine List.forall_mem_cons.mpr ⟨rt_nx, ?_⟩
  refine List.forall_mem_cons.mpr ⟨rt_nx, ?_⟩
  refine List.forall_mem_cons.mpr ⟨rt_nx, ?_⟩
  refine List.forall_mem_cons.mpr ⟨rt_nx, ?_⟩
  refine List.forall_mem_cons.mpr ⟨rt_nx, ?_⟩
  refine List.forall_mem_cons.mpr ⟨rt_nx, ?_⟩
  refine List.forall_mem_cons.mpr ⟨rt_nx, ?_⟩
  refine List.forall_mem_cons.mpr ⟨rt_nx, ?_⟩
  refine List.forall_mem_cons.mpr ⟨rt_nx, ?_⟩
  refine List.forall_mem_cons.mpr ⟨rt_nx, ?_⟩
  refine List.forall_mem_cons.mpr ⟨rt_nx, ?_⟩
  refine List.forall_mem_cons.mpr ⟨rt_nx, ?_⟩
  refine List.forall_mem_cons.mpr ⟨rt_nx, ?_⟩
  refine List.forall_mem_cons.mpr ⟨rt_cv, ?_⟩
  refine List.forall_mem_cons.mpr ⟨rt_nx, ?_⟩
  refine List.forall_mem_cons.mpr ⟨rt_nx, ?_⟩
  refine List.forall_mem_cons.mpr ⟨rt_nx, ?_⟩
  refine List.forall_mem_cons.mpr ⟨rt_nx, ?_⟩
  refine List.forall_mem_cons.mpr ⟨rt_nx, ?_⟩
  refine List.forall_mem_cons.mpr ⟨rt_nx, ?_⟩
  refine List.forall_mem_cons.mpr ⟨rt_nx, ?_⟩
  refine List.forall_mem_cons.mpr ⟨rt_nx, ?_⟩
  refine List.forall_mem_cons.mpr ⟨rt_nx, ?_⟩
  refine List.forall_mem_cons.mpr ⟨rt_nx, ?_⟩
  refine List.forall_mem_cons.mpr ⟨rt_nx, ?_⟩
  refine List.forall_mem_cons.mpr ⟨rt_nx, ?_⟩
  refine List.forall_mem_cons.mpr ⟨rt_nx, ?_⟩
  refine List.forall_mem_cons.mpr ⟨rt_nx, ?_⟩
  refine List.forall_mem_cons.mpr ⟨rt_nx, ?_⟩
  refine List.forall_mem_cons.mpr ⟨rt_nx, ?_⟩
  refine List.forall_mem_cons.mpr ⟨rt_nx, ?_⟩
  refine List.forall_mem_cons.mpr ⟨rt_nx, ?_⟩
  refine List.forall_mem_cons.mpr ⟨rt_nx, ?_⟩
  refine List.forall_mem_cons.mpr ⟨rt_nx, ?_⟩
  refine List.forall_mem_cons.mpr ⟨rt_nx, ?_⟩
  refine List.forall_mem_cons.mpr ⟨rt_nx, ?_⟩
  refine List.forall_mem_cons.mpr ⟨rt_nx, ?_⟩
  refine List.forall_mem_cons.mpr ⟨rt_nx, ?_⟩
  refine List.forall_mem_cons.mpr ⟨rt_nx, ?_⟩
  refine List.forall_mem_cons.mpr ⟨rt_nx, ?_⟩
  refine List.forall_mem_cons.mpr ⟨rt_nx, ?_⟩
  refine List.forall_mem_cons.mpr ⟨rt_nx, ?_⟩
  refine List.forall_mem_cons.mpr ⟨rt_nx, ?_⟩
  refine List.forall_mem_cons.mpr ⟨rt_nx, ?_⟩
  refine List.forall_mem_cons.mpr ⟨rt_nx, ?_⟩
  refine List.forall_mem_cons.mpr ⟨rt_cv, ?_⟩
  refine List.forall_mem_cons.mpr ⟨rt_nx, ?_⟩
  refine List.forall_mem_cons.mpr ⟨rt_nx, ?_⟩
  refine List.forall_mem_cons.mpr ⟨rt_nx, ?_⟩
  refine List.forall_mem_cons.mpr ⟨rt_nx, ?_⟩
  refine List.forall_mem_cons.mpr ⟨rt_nx, ?_⟩
  refine List.forall_mem_cons.mpr ⟨rt_nx, ?_⟩
  refine List.forall_mem_cons.mpr ⟨rt_nx, ?_⟩
  refine List.forall_mem_cons.mpr ⟨rt_nx, ?_⟩
  refine List.forall_mem_cons.mpr ⟨rt_nx, ?_⟩
  refine List.forall_mem_cons.mpr ⟨rt_nx, ?_⟩
  refine List.forall_mem_cons.mpr ⟨rt_nx, ?_⟩
  exact fun _ h => absurd h List.not_mem_nil
theorem rtL_15 (xs : Nat → Int32) (L : Nat) : ∀ q ∈ tL_15 xs L, am_Rt q := by
  unfold tL_15
  refine List.forall_mem_cons.mpr ⟨rt_nx, ?_⟩
  refine List.forall_mem_cons.mpr ⟨rt_nx, ?_⟩
  refine List.forall_mem_cons.mpr ⟨rt_cv, ?_⟩
  refine List.forall_mem_cons.mpr ⟨rt_nx, ?_⟩
  refine List.forall_mem_cons.mpr ⟨rt_nx, ?_⟩
  refine List.forall_mem_cons.mpr ⟨rt_nx, ?_⟩
  refine List.forall_mem_cons.mpr ⟨rt_nx, ?_⟩
  refine List.forall_mem_cons.mpr ⟨rt_nx, ?_⟩
  refine List.forall_mem_cons.mpr ⟨rt_nx, ?_⟩
  refine List.forall_mem_cons.mpr ⟨rt_nx, ?_⟩
  refine List.forall_mem_cons.mpr ⟨rt_nx, ?_⟩
  refine List.forall_mem_cons.mpr ⟨rt_nx, ?_⟩
  refine List.forall_mem_cons.mpr ⟨rt_nx, ?_⟩
  refine List.forall_mem_cons.mpr ⟨rt_nx, ?_⟩
  refine List.forall_mem_cons.mpr ⟨rt_nx, ?_⟩
  refine List.forall_mem_cons.mpr ⟨rt_cv, ?_⟩
  refine List.forall_mem_cons.mpr ⟨rt_nx, ?_⟩
  refine List.forall_mem_cons.mpr ⟨rt_nx, ?_⟩
  refine List.forall_mem_cons.mpr ⟨rt_nx, ?_⟩
  refine List.forall_mem_cons.mpr ⟨rt_nx, ?_⟩
  refine List.forall_mem_cons.mpr ⟨rt_nx, ?_⟩
  refine List.forall_mem_cons.mpr ⟨rt_nx, ?_⟩
  refine List.forall_mem_cons.mpr ⟨rt_nx, ?_⟩
  refine List.forall_mem_cons.mpr ⟨rt_nx, ?_⟩
  refine List.forall_mem_cons.mpr ⟨rt_nx, ?_⟩
  refine List.forall_mem_cons.mpr ⟨rt_nx, ?_⟩
  refine List.forall_mem_cons.mpr ⟨rt_nx, ?_⟩
  refine List.forall_mem_cons.mpr ⟨rt_nx, ?_⟩
  refine List.forall_mem_cons.mpr ⟨rt_nx, ?_⟩
  refine List.forall_mem_cons.mpr ⟨rt_nx, ?_⟩
  refine List.forall_mem_cons.mpr ⟨rt_nx, ?_⟩
  refine List.forall_mem_cons.mpr ⟨rt_nx, ?_⟩
  refine List.forall_mem_cons.mpr ⟨rt_nx, ?_⟩
  refine List.forall_mem_cons.mpr ⟨rt_nx, ?_⟩
  refine List.forall_mem_cons.mpr ⟨rt_nx, ?_⟩
  refine List.forall_mem_cons.mpr ⟨rt_nx, ?_⟩
  refine List.forall_mem_cons.mpr ⟨rt_nx, ?_⟩
  refine List.forall_mem_cons.mpr ⟨rt_nx, ?_⟩
  refine List.forall_mem_cons.mpr ⟨rt_nx, ?_⟩
  refine List.forall_mem_cons.mpr ⟨rt_cv, ?_⟩
  refine List.forall_mem_cons.mpr ⟨rt_nx, ?_⟩
  refine List.forall_mem_cons.mpr ⟨rt_nx, ?_⟩
  refine List.forall_mem_cons.mpr ⟨rt_nx, ?_⟩
  refine List.forall_mem_cons.mpr ⟨rt_nx, ?_⟩
  refine List.forall_mem_cons.mpr ⟨rt_nx, ?_⟩
  refine List.forall_mem_cons.mpr ⟨rt_nx, ?_⟩
  refine List.forall_mem_cons.mpr ⟨rt_nx, ?_⟩
  refine List.forall_mem_cons.mpr ⟨rt_nx, ?_⟩
  refine List.forall_mem_cons.mpr ⟨rt_nx, ?_⟩
  refine List.forall_mem_cons.mpr ⟨rt_nx, ?_⟩
  refine List.forall_mem_cons.mpr ⟨rt_nx, ?_⟩
  refine List.forall_mem_cons.mpr ⟨rt_nx, ?_⟩
  refine List.forall_mem_cons.mpr ⟨rt_nx, ?_⟩
  refine List.forall_mem_cons.mpr ⟨rt_nx, ?_⟩
  refine List.forall_mem_cons.mpr ⟨rt_nx, ?_⟩
  refine List.forall_mem_cons.mpr ⟨rt_nx, ?_⟩
  refine List.forall_mem_cons.mpr ⟨rt_nx, ?_⟩
  refine List.forall_mem_cons.mpr ⟨rt_nx, ?_⟩
  refine List.forall_mem_cons.mpr ⟨rt_nx, ?_⟩
  refine List.forall_mem_cons.mpr ⟨rt_nx, ?_⟩
  exact fun _ h => absurd h List.not_mem_nil
theorem rtL_16 (xs : Nat → Int32) (L : Nat) : ∀ q ∈ tL_16 xs L, am_Rt q := by
  unfold tL_16
  refine List.forall_mem_cons.mpr ⟨rt_nx, ?_⟩
  refine List.forall_mem_cons.mpr ⟨rt_nx, ?_⟩
  refine List.forall_mem_cons.mpr ⟨rt_cv, ?_⟩
  refine List.forall_mem_cons.mpr ⟨rt_nx, ?_⟩
  refine List.forall_mem_cons.mpr ⟨rt_nx, ?_⟩
  refine List.forall_mem_cons.mpr ⟨rt_nx, ?_⟩
  refine List.forall_mem_cons.mpr ⟨rt_cv, ?_⟩
  refine List.forall_mem_cons.mpr ⟨rt_nx, ?_⟩
  refine List.forall_mem_cons.mpr ⟨rt_nx, ?_⟩
  refine List.forall_mem_cons.mpr ⟨rt_cv, ?_⟩
  refine List.forall_mem_cons.mpr ⟨rt_nx, ?_⟩
  refine List.forall_mem_cons.mpr ⟨rt_nx, ?_⟩
  refine List.forall_mem_cons.mpr ⟨rt_nx, ?_⟩
  refine List.forall_mem_cons.mpr ⟨rt_nx, ?_⟩
  refine List.forall_mem_cons.mpr ⟨rt_nx, ?_⟩
  refine List.forall_mem_cons.mpr ⟨rt_nx, ?_⟩
  refine List.forall_mem_cons.mpr ⟨rt_nx, ?_⟩
  refine List.forall_mem_cons.mpr ⟨rt_nx, ?_⟩
  refine List.forall_mem_cons.mpr ⟨rt_cv, ?_⟩
  refine List.forall_mem_cons.mpr ⟨rt_nx, ?_⟩
  refine List.forall_mem_cons.mpr ⟨rt_nx, ?_⟩
  refine List.forall_mem_cons.mpr ⟨rt_nx, ?_⟩
  refine List.forall_mem_cons.mpr ⟨rt_nx, ?_⟩
  refine List.forall_mem_cons.mpr ⟨rt_nx, ?_⟩
  refine List.forall_mem_cons.mpr ⟨rt_nx, ?_⟩
  refine List.forall_mem_cons.mpr ⟨rt_nx, ?_⟩
  refine List.forall_mem_cons.mpr ⟨rt_cv, ?_⟩
  refine List.forall_mem_cons.mpr ⟨rt_nx, ?_⟩
  refine List.forall_mem_cons.mpr ⟨rt_nx, ?_⟩
  refine List.forall_mem_cons.mpr ⟨rt_nx, ?_⟩
  refine List.forall_mem_cons.mpr ⟨rt_cv, ?_⟩
  refine List.forall_mem_cons.mpr ⟨rt_nx, ?_⟩
  refine List.forall_mem_cons.mpr ⟨rt_nx, ?_⟩
  refine List.forall_mem_cons.mpr ⟨rt_cv, ?_⟩
  refine List.forall_mem_cons.mpr ⟨rt_nx, ?_⟩
  refine List.forall_mem_cons.mpr ⟨rt_nx, ?_⟩
  refine List.forall_mem_cons.mpr ⟨rt_nx, ?_⟩
  refine List.forall_mem_cons.mpr ⟨rt_nx, ?_⟩
  refine List.forall_mem_cons.mpr ⟨rt_nx, ?_⟩
  refine List.forall_mem_cons.mpr ⟨rt_nx, ?_⟩
  refine List.forall_mem_cons.mpr ⟨rt_nx, ?_⟩
  refine List.forall_mem_cons.mpr ⟨rt_nx, ?_⟩
  refine List.forall_mem_cons.mpr ⟨rt_cv, ?_⟩
  refine List.forall_mem_cons.mpr ⟨rt_nx, ?_⟩
  refine List.forall_mem_cons.mpr ⟨rt_nx, ?_⟩
  refine List.forall_mem_cons.mpr ⟨rt_nx, ?_⟩
  refine List.forall_mem_cons.mpr ⟨rt_nx, ?_⟩
  refine List.forall_mem_cons.mpr ⟨rt_nx, ?_⟩
  refine List.forall_mem_cons.mpr ⟨rt_nx, ?_⟩
  refine List.forall_mem_cons.mpr ⟨rt_nx, ?_⟩
  refine List.forall_mem_cons.mpr ⟨rt_cv, ?_⟩
  refine List.forall_mem_cons.mpr ⟨rt_nx, ?_⟩
  refine List.forall_mem_cons.mpr ⟨rt_nx, ?_⟩
  refine List.forall_mem_cons.mpr ⟨rt_nx, ?_⟩
  refine List.forall_mem_cons.mpr ⟨rt_nx, ?_⟩
  refine List.forall_mem_cons.mpr ⟨rt_nx, ?_⟩
  refine List.forall_mem_cons.mpr ⟨rt_z (by decide +kernel), ?_⟩
  exact fun _ h => absurd h List.not_mem_nil
theorem rtL (xs : Nat → Int32) (L : Nat) : ∀ q ∈ tL xs L, am_Rt q := List.forall_mem_append.mpr ⟨rtL_0 xs L, List.forall_mem_append.mpr ⟨rtL_1 xs L, List.forall_mem_append.mpr ⟨rtL_2 xs L, List.forall_mem_append.mpr ⟨rtL_3 xs L, List.forall_mem_append.mpr ⟨rtL_4 xs L, List.forall_mem_append.mpr ⟨rtL_5 xs L, List.forall_mem_append.mpr ⟨rtL_6 xs L, List.forall_mem_append.mpr ⟨rtL_7 xs L, List.forall_mem_append.mpr ⟨rtL_8 xs L, List.forall_mem_append.mpr ⟨rtL_9 xs L, List.forall_mem_append.mpr ⟨rtL_10 xs L, List.forall_mem_append.mpr ⟨rtL_11 xs L, List.forall_mem_append.mpr ⟨rtL_12 xs L, List.forall_mem_append.mpr ⟨rtL_13 xs L, List.forall_mem_append.mpr ⟨rtL_14 xs L, List.forall_mem_append.mpr ⟨rtL_15 xs L, rtL_16 xs L⟩⟩⟩⟩⟩⟩⟩⟩⟩⟩⟩⟩⟩⟩⟩⟩
theorem am_lkR {t : List (Nat × am_Act)} (h : ∀ q ∈ t, am_Rt q) (pc : Nat) : am_Rt (pc, am_look t pc) := by
  induction t with
  | nil => intro lv st M v M' h; cases h
  | cons q t ih =>
    obtain ⟨k, a⟩ := q
    rw [am_look]
    by_cases e : pc = k
    · rw [if_pos e, e]; exact h (k, a) List.mem_cons_self
    · rw [if_neg e]; exact ih (fun x hx => h x (List.mem_cons_of_mem _ hx))
theorem am_lkF {P : Nat → am_Y} {G : am_G} {nL : Nat} {p : Program} {l : Launch} {e : Env} {R : Room} {s : State} {m : MethodId} {args : Array Value} {below : List Frame} {meth : Method} {c : Code} {t : List (Nat × am_Act)} (h : ∀ q ∈ t, am_SndF P G nL p l e R s m args below meth c q.1 q.2) (pc : Nat) : am_SndF P G nL p l e R s m args below meth c pc (am_look t pc) := by
  induction t with
  | nil => exact fun lv st M => ⟨fun _ _ _ _ h => (by cases h), fun _ _ h => (by cases h), fun _ _ _ _ _ _ h => (by cases h)⟩
  | cons q t ih =>
    obtain ⟨k, a⟩ := q
    rw [am_look]
    by_cases e : pc = k
    · rw [if_pos e, e]; exact h (k, a) List.mem_cons_self
    · rw [if_neg e]; exact ih (fun x hx => h x (List.mem_cons_of_mem _ hx))
end
section
/-! the claim out of one AM run of the law (the first rows: the skeleton's) -/
def R_law : String := "ToldTracksLaw"
def lw_P (b : Addr) (xs : List Int32) (args : Array Value) (s : State) : Prop := args = #[.ref b] ∧ s.IntsAt b xs ∧ xs.length ≤ 3072 ∧ (Jvm.Cond.and given_1 narrow_1).before args s = true
def lw_Q (_ : Array Value) (s : State) (o : Outcome) (t : State) : Prop := o = .returned (some (.int 1)) ∧ Framed s o t [] 600000 7302250
def lw_Z (below : List Frame) (a : Array Value) (s : State) : State → Prop := fun t => ∃ o, t.status = .running ∧ Ended t below o ∧ lw_Q a s o t
/-- the law's own end, with 1 on the stack, nothing written that was there before, its room as the claim has it -/
theorem lw_ret {p : Program} {l : Launch} {e : Env} {s : State} {m : MethodId} {below : List Frame} {meth : Method} {c : Code} {b : Nat} (hx : p.tables.exec = Jvm.exec) (hb : c.code = code) (hr : meth.sig.returnType = ret) (hlocks : meth.locks = false) {pc : Nat} {H : Heap} {ls : Array Slot} (hdg : decode code pc = .ok (.ireturn, 1)) : W p l e room_1 s m #[Value.ref b] below meth c H [] 600000 7302250 (lw_Z below #[Value.ref b] s) (F0 m pc ls [.int 1]) := by
  intro T hT X
  obtain ⟨fs, hret, hrun, hended, hW, hframe⟩ := X.leave (v := some (.int 1)) (hlocks := hlocks) (fun h => by rw [hr] at h; cases h)
  have hmeth' : T.vm.method? m = some meth := X.method'
  refine ⟨T.setFrames fs, ?_, .returned (some (.int 1)), hrun, hended, rfl, ⟨_, rfl⟩, hW, hframe⟩
  jvm_step X.here [X.here.top, hx, hb, hdg, hmeth', hr, ret, narrow_b1]
  (try refine ⟨rfl, ?_⟩); (try refine ⟨rfl, ?_⟩)
  first | (intro acts; rw [hret _ acts rfl rfl rfl]) | rw [hret _ _ rfl rfl rfl]
  exact Steps.refl _
/-- what holds at the law's entry: the machine, the code, the tables' words (any of lw_tbl by 'hts w (by decide +kernel)'), the script of L ints xs at the cell b, what the Statement gives of the start (any of its parts by flat_of_before) -/
def lw_At (p : Program) (s : State) (m : MethodId) (meth : Method) (c : Code) (b L : Nat) (xs : Nat → Int32) : Prop :=
  p.tables.exec = Jvm.exec ∧ c.code = code ∧ meth.sig.returnType = ret ∧ c.maxLocals = 4 ∧ s.vm.findClass R_law = some m.cls ∧ (∀ w ∈ lw_tbl, w.before #[Value.ref b] s = true) ∧ va_X b L xs s s.heap ∧ b < s.heap.size ∧ meth.locks = false ∧ (Jvm.Cond.and given_1 narrow_1).before #[Value.ref b] s = true
/-- nothing made yet -/
def am_M0 : am_M := (fun _ _ => 0, fun _ _ => 0, fun _ _ => none, [])
/-- what is left to show of the law: its AM run, on every script -/
def am_Goal (xs : Nat → Int32) (L : Nat) : Prop := am_P am_P0 1000 (am_look (tL xs L)) 0 [.retAddr 0, am_x, am_x, am_x] [] am_M0 (fun r M => r = some (.int 1) ∧ mC M ≤ 600000 ∧ mW M ≤ 7302250)
theorem whole_of {p : Program} {e : Env} {s : State} {m : MethodId} {below : List Frame} {meth : Method} {c : Code} (l : Launch) {b L : Nat} {xs : Nat → Int32} (hrun : am_Goal xs L) (C0 : lw_At p s m meth c b L xs) : W p l e room_1 s m #[Value.ref b] below meth c s.heap [] 0 0 (lw_Z below #[Value.ref b] s) (entryFrame m ([Value.ref b] : List Value).toArray 4) := by
  obtain ⟨hx, hb, hr, hml, hown, hts, hX, hbl, hlocks, hgv⟩ := id C0
  obtain ⟨n, r, M2, hrun, rfl, hc2, hw2⟩ := hrun
  obtain ⟨G, g1, g2, g3, hK⟩ := am_known (b := b) hts (by rw [Cond.before_and, Bool.and_eq_true] at hgv; exact hgv.2)
  have hC : am_Cx G RL code 4 (some .boolean) meth.name p s m #[Value.ref b] meth c := ⟨hx, hb, hml, hown, fun w hw => hts w (am_ws_in w hw), hr, hlocks, rfl, hK, by rw [g1]; exact Nat.le_refl _⟩
  have hbG : G.2.1.1 0 < G.1 := by rw [g2, g1]; exact hbl
  have hXG : va_X (G.2.1.1 0) L xs s s.heap := by rw [g2]; exact hX
  have key := (am_run_VF (P := am_P0) (G := G) (nL := 4) (p := p) (l := l) (e := e) (R := room_1) (s := s) (m := m) (args := #[Value.ref b]) (below := below) (meth := meth) (c := c) am_hP (d0 := 1000) (fun n d y as M r M2 _ => am_metP G l d n y as M r M2) (ac := am_look (tL xs L)) (am_lkF (snL hC hXG hbG)) (c0 := 0) (w0 := 0) (Q := lw_Z below #[Value.ref b] s) (r := some (.int 1)) (M2 := M2) (by rw [Nat.zero_add]; exact hc2) (by rw [Nat.zero_add]; exact hw2) ?_ n 1000 0 _ [] am_M0 (Nat.le_refl _) hrun (by decide) (by decide)).2
  · have hR0 : am_R G am_M0 s.heap := ⟨by rw [g1]; rfl, fun k sh hk => by simp [am_M0, mS] at hk, fun q _ => by rw [g3]⟩
    have hL0 := am_L_entry G (n := 4) (as := [.retAddr 0]) (by decide) (by simp [am_flo])
    have e1 : ([Value.retAddr 0].map (am_v G)) = [Value.ref b] := by show [Value.ref (G.2.1.1 0)] = _; rw [g2]
    rw [e1] at hL0
    rw [lg_entry_eq]
    exact key s.heap [] _ 0 0 hR0 va_S.rf hL0 rfl rfl
  · intro pc lv st heq H locs ls kc ks hR hS hL hkc hks
    obtain ⟨hd, x, rfl, hv⟩ := am_lkR (rtL xs L) pc lv st M2 _ _ heq
    cases hv
    refine va_forget (fun q hq => by have := hS.2.2 q hq; rw [g1] at this; exact this) ?_
    refine W.widen (k := 600000) (n := 7302250) (by omega) (by omega) ?_
    exact lw_ret hx hb hr hlocks hd
end
