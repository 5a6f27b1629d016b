/-! what is needed of a method where it is called -/
def am_mv (P : Nat → am_Y) (y : Nat) (C : String) (n : Nat) (st : Bool) : Prop := (P y).2.2.1 ≤ 45 ∧ (if st = true then Cond.static (P y).1 ∈ am_ws else Cond.instanceMethod (P y).1 ∈ am_ws) ∧ (if st = true ∨ (P y).1.name = "<init>" then True else Cond.selects C (P y).1 (P y).1 ∈ am_ws) ∧ Cond.initialized (P y).1.cls ∈ am_ws ∧ Cond.code (P y).1 (P y).2.1 (P y).2.2.1 (P y).2.2.2.1 ∈ am_ws ∧ ((P y).1.cls ≠ "java/lang/invoke/MethodHandle" ∧ (P y).1.cls ≠ "java/lang/invoke/VarHandle") ∧ (parseMethodDescriptor (P y).1.desc).map (fun d => d.parameters.length) = some n
section
variable {P : Nat → am_Y} {own : String} {cc : ByteArray} {nL : Nat} {ret : Option FieldType} {nm : String} {pc : Nat}
theorem z_cs {y i n : Nat} {C : String} (hdg : decode cc pc = .ok (.invokestatic i, 3)) (h : am_mv P y C n true) (hl : Cond.methodLink own i (P y).1 ∈ am_ws) : am_Snd P own cc nL ret nm pc (k_cs y n (P y).2.2.1 (pc + 3)) := s_cs hdg h.1 hl h.2.1 h.2.2.2.1 h.2.2.2.2.1 h.2.2.2.2.2.1 h.2.2.2.2.2.2
theorem z_cv {y ci i n : Nat} {C : String} {T : u_T} {N : Nat} (hdg : decode cc pc = .ok (.invokevirtual i, 3)) (h : am_mv P y C n false) (hl : Cond.methodLink own i (P y).1 ∈ am_ws) (hc : vwCl[ci]? = some (C, T, N)) (hni : ¬ (P y).1.name = "<init>") : am_Snd P own cc nL ret nm pc (k_cv y ci n (P y).2.2.1 (pc + 3)) := s_cv hdg hc h.1 hl h.2.1 (by have h2 := h.2.2.1; rw [if_neg (by simp [hni])] at h2; exact h2) h.2.2.2.1 h.2.2.2.2.1 h.2.2.2.2.2.1 h.2.2.2.2.2.2
theorem z_ci {y ci i n : Nat} {C : String} (hdg : decode cc pc = .ok (.invokespecial i, 3)) (h : am_mv P y C n false) (hl : Cond.methodLink own i (P y).1 ∈ am_ws) (hret : (P y).2.2.2.1 = none) (hni : (P y).1.name = "<init>") : am_Snd P own cc nL ret nm pc (k_cv y ci n (P y).2.2.1 (pc + 3)) := s_ci hdg h.1 hret hl h.2.1 hni h.2.2.2.1 h.2.2.2.2.1 h.2.2.2.2.2.1 h.2.2.2.2.2.2
theorem z_cin {y ci i n : Nat} {C host : String} (hdg : decode cc pc = .ok (.invokespecial i, 3)) (h : am_mv P y C n false) (hl : Cond.methodLinkNest own i (P y).1 host ∈ am_nw) (hret : (P y).2.2.2.1 = none) (hni : (P y).1.name = "<init>") : am_Snd P own cc nL ret nm pc (k_cv y ci n (P y).2.2.1 (pc + 3)) := s_cin hdg h.1 hret hl h.2.1 hni h.2.2.2.1 h.2.2.2.2.1 h.2.2.2.2.2.1 h.2.2.2.2.2.2
theorem z_cvS {y i n : Nat} (hdg : decode cc pc = .ok (.invokevirtual i, 3)) (h : am_mv P y "java/lang/String" n false) (hl : Cond.methodLink own i (P y).1 ∈ am_ws) (hni : ¬ (P y).1.name = "<init>") : am_Snd P own cc nL ret nm pc (k_cvS y n (P y).2.2.1 (pc + 3)) := s_cvS hdg h.1 hl h.2.1 (by have h2 := h.2.2.1; rw [if_neg (by simp [hni])] at h2; exact h2) h.2.2.2.1 h.2.2.2.2.1 h.2.2.2.2.2.1 h.2.2.2.2.2.2
theorem s_look {dflt : Int} {ps : Array (Int × Int)} {len : Nat} {qs : List (Int × Nat)} {df : Nat} (hdg : decode cc pc = .ok (.lookupswitch dflt ps, len)) (hp : (ps.toList.zip (ps.toList.drop 1)).all (fun (a, next) => a.1 < next.1) = true) (hd : (pc : Int) + dflt = (df : Int)) (ho : ps.toList.map (fun q => (q.1, (pc : Int) + q.2)) = qs.map (fun q => (q.1, (q.2 : Int)))) : am_Snd1 own cc nL ret nm pc (a_sw (am_lk qs df)) := by
  refine s_lookup hdg hp (fun x => ?_)
  have key : ∀ (l : List (Int × Int)) (qs : List (Int × Nat)), l.map (fun q => (q.1, (pc : Int) + q.2)) = qs.map (fun q => (q.1, (q.2 : Int))) → (pc : Int) + Op.lookupswitch.offset l dflt x.toInt = (am_lk qs df x : Int) := by
    intro l
    induction l with
    | nil => intro qs h; cases qs with
      | nil => exact hd
      | cons q qs => cases h
    | cons a l ih => intro qs h; cases qs with
      | nil => cases h
      | cons q qs =>
        simp only [List.map_cons, List.cons.injEq, Prod.mk.injEq] at h
        obtain ⟨⟨h1, h2⟩, h3⟩ := h
        have ih2 := ih qs h3
        obtain ⟨a1, a2⟩ := a
        unfold am_lk at ih2 ⊢
        show (pc : Int) + (if a1 = x.toInt then a2 else Op.lookupswitch.offset l dflt x.toInt) = _
        simp only at h1 h2
        by_cases e : a1 = x.toInt
        · have e2 : (q.1 == x.toInt) = true := by rw [← h1, e]; simp
          rw [if_pos e]
          simp [List.find?_cons, e2, h2]
        · have e2 : (q.1 == x.toInt) = false := by rw [← h1]; simpa using e
          rw [if_neg e]
          simp only [List.find?_cons, e2]
          exact ih2
  exact key _ _ ho
end
theorem mt0 : am_mv am_P0 0 RX0 0 false := ⟨by decide, wd199, trivial, wd137, wd200, by decide, by decide +kernel⟩
theorem mt1 : am_mv am_P0 1 RX0 1 false := ⟨by decide, wd728, wd729, wd137, wd730, by decide, by decide +kernel⟩
theorem mt2 : am_mv am_P0 2 RX0 5 false := ⟨by decide, wd862, wd863, wd137, wd864, by decide, by decide +kernel⟩
theorem mt3 : am_mv am_P0 3 RX0 4 true := ⟨by decide, wd866, trivial, wd137, wd867, by decide, by decide +kernel⟩
theorem mt4 : am_mv am_P0 4 RX0 3 true := ⟨by decide, wd869, trivial, wd137, wd870, by decide, by decide +kernel⟩
theorem mt5 : am_mv am_P0 5 RX1 0 false := ⟨by decide, wd510, trivial, wd148, wd511, by decide, by decide +kernel⟩
theorem mt6 : am_mv am_P0 6 RX1 0 false := ⟨by decide, wd942, wd943, wd148, wd944, by decide, by decide +kernel⟩
theorem mt7 : am_mv am_P0 7 RX1 2 false := ⟨by decide, wd947, wd948, wd148, wd949, by decide, by decide +kernel⟩
theorem mt8 : am_mv am_P0 8 RX1 1 false := ⟨by decide, wd951, wd952, wd148, wd953, by decide, by decide +kernel⟩
theorem mt9 : am_mv am_P0 9 RX2 1 false := ⟨by decide, wd370, trivial, wd140, wd371, by decide, by decide +kernel⟩
theorem mt10 : am_mv am_P0 10 RX2 3 false := ⟨by decide, wd648, wd649, wd140, wd650, by decide, by decide +kernel⟩
theorem mt11 : am_mv am_P0 11 RX2 1 false := ⟨by decide, wd678, wd679, wd140, wd680, by decide, by decide +kernel⟩
theorem mt12 : am_mv am_P0 12 RX2 0 false := ⟨by decide, wd687, wd2, wd140, wd688, by decide, by decide +kernel⟩
theorem mt13 : am_mv am_P0 13 RX2 1 false := ⟨by decide, wd709, wd4, wd140, wd710, by decide, by decide +kernel⟩
theorem mt14 : am_mv am_P0 14 RX2 2 false := ⟨by decide, wd701, wd3, wd140, wd702, by decide, by decide +kernel⟩
theorem mt15 : am_mv am_P0 15 RX2 3 false := ⟨by decide, wd791, wd17, wd140, wd792, by decide, by decide +kernel⟩
theorem mt16 : am_mv am_P0 16 RX2 0 false := ⟨by decide, wd779, wd16, wd140, wd780, by decide, by decide +kernel⟩
theorem mt17 : am_mv am_P0 17 RX2 0 false := ⟨by decide, wd807, wd19, wd140, wd808, by decide, by decide +kernel⟩
theorem mt18 : am_mv am_P0 18 RX2 0 false := ⟨by decide, wd816, wd20, wd140, wd817, by decide, by decide +kernel⟩
theorem mt19 : am_mv am_P0 19 RX2 0 false := ⟨by decide, wd799, wd18, wd140, wd800, by decide, by decide +kernel⟩
theorem mt20 : am_mv am_P0 20 RX2 0 false := ⟨by decide, wd824, wd21, wd140, wd825, by decide, by decide +kernel⟩
theorem mt21 : am_mv am_P0 21 RX2 0 false := ⟨by decide, wd836, wd22, wd140, wd837, by decide, by decide +kernel⟩
theorem mt22 : am_mv am_P0 22 RX2 1 false := ⟨by decide, wd758, wd12, wd140, wd759, by decide, by decide +kernel⟩
theorem mt23 : am_mv am_P0 23 RX2 1 false := ⟨by decide, wd762, wd13, wd140, wd763, by decide, by decide +kernel⟩
theorem mt24 : am_mv am_P0 24 RX2 1 false := ⟨by decide, wd766, wd14, wd140, wd767, by decide, by decide +kernel⟩
theorem mt25 : am_mv am_P0 25 RX2 0 false := ⟨by decide, wd770, wd15, wd140, wd771, by decide, by decide +kernel⟩
theorem mt26 : am_mv am_P0 26 RX2 1 false := ⟨by decide, wd713, wd5, wd140, wd714, by decide, by decide +kernel⟩
theorem mt27 : am_mv am_P0 27 RX2 1 false := ⟨by decide, wd717, wd6, wd140, wd718, by decide, by decide +kernel⟩
theorem mt28 : am_mv am_P0 28 RX2 0 false := ⟨by decide, wd750, wd11, wd140, wd751, by decide, by decide +kernel⟩
theorem mt29 : am_mv am_P0 29 RX2 1 false := ⟨by decide, wd721, wd7, wd140, wd722, by decide, by decide +kernel⟩
theorem mt30 : am_mv am_P0 30 RX2 1 false := ⟨by decide, wd725, wd8, wd140, wd726, by decide, by decide +kernel⟩
theorem mt31 : am_mv am_P0 31 RX2 2 false := ⟨by decide, wd746, wd10, wd140, wd747, by decide, by decide +kernel⟩
theorem mt32 : am_mv am_P0 32 RX2 2 false := ⟨by decide, wd737, wd9, wd140, wd738, by decide, by decide +kernel⟩
theorem mt33 : am_mv am_P0 33 RX3 0 false := ⟨by decide, wd376, trivial, wd141, wd377, by decide, by decide +kernel⟩
theorem mt34 : am_mv am_P0 34 RX3 2 false := ⟨by decide, wd656, wd657, wd141, wd658, by decide, by decide +kernel⟩
theorem mt35 : am_mv am_P0 35 RX3 0 false := ⟨by decide, wd663, wd664, wd141, wd665, by decide, by decide +kernel⟩
theorem mt36 : am_mv am_P0 36 RX3 1 false := ⟨by decide, wd675, wd1, wd141, wd676, by decide, by decide +kernel⟩
theorem mt37 : am_mv am_P0 37 RX3 1 true := ⟨by decide, wd667, trivial, wd141, wd668, by decide, by decide +kernel⟩
theorem mt38 : am_mv am_P0 38 RX3 2 false := ⟨by decide, wd670, wd671, wd141, wd672, by decide, by decide +kernel⟩
theorem mt39 : am_mv am_P0 39 RX3 1 false := ⟨by decide, wd682, wd683, wd141, wd684, by decide, by decide +kernel⟩
theorem mt40 : am_mv am_P0 40 RX3 1 false := ⟨by decide, wd732, wd733, wd141, wd734, by decide, by decide +kernel⟩
theorem mt41 : am_mv am_P0 41 RX3 1 false := ⟨by decide, wd740, wd741, wd141, wd742, by decide, by decide +kernel⟩
theorem mt42 : am_mv am_P0 42 RX3 1 false := ⟨by decide, wd753, wd754, wd141, wd755, by decide, by decide +kernel⟩
theorem mt43 : am_mv am_P0 43 RX3 2 false := ⟨by decide, wd695, wd696, wd141, wd697, by decide, by decide +kernel⟩
theorem mt44 : am_mv am_P0 44 RX3 2 false := ⟨by decide, wd691, wd692, wd141, wd693, by decide, by decide +kernel⟩
theorem mt45 : am_mv am_P0 45 RX3 0 false := ⟨by decide, wd782, wd783, wd141, wd784, by decide, by decide +kernel⟩
theorem mt46 : am_mv am_P0 46 RX4 1 false := ⟨by decide, wd217, trivial, wd138, wd218, by decide, by decide +kernel⟩
theorem mt47 : am_mv am_P0 47 RX4 0 false := ⟨by decide, wd704, wd705, wd138, wd706, by decide, by decide +kernel⟩
theorem mt48 : am_mv am_P0 48 RX4 3 false := ⟨by decide, wd773, wd774, wd138, wd775, by decide, by decide +kernel⟩
theorem mt49 : am_mv am_P0 49 RX4 4 false := ⟨by decide, wd858, wd859, wd138, wd860, by decide, by decide +kernel⟩
theorem mt50 : am_mv am_P0 50 RX4 3 false := ⟨by decide, wd854, wd855, wd138, wd856, by decide, by decide +kernel⟩
theorem mt51 : am_mv am_P0 51 RX5 0 false := ⟨by decide, wd165, trivial, wd135, wd166, by decide, by decide +kernel⟩
theorem mt52 : am_mv am_P0 52 RX5 0 false := ⟨by decide, wd652, wd653, wd135, wd654, by decide, by decide +kernel⟩
theorem mt53 : am_mv am_P0 53 RX5 0 false := ⟨by decide, wd844, wd845, wd135, wd846, by decide, by decide +kernel⟩
theorem mt54 : am_mv am_P0 54 RX5 1 false := ⟨by decide, wd1032, wd1033, wd135, wd1034, by decide, by decide +kernel⟩
theorem mt55 : am_mv am_P0 55 RX5 2 false := ⟨by decide, wd1036, wd1037, wd135, wd1038, by decide, by decide +kernel⟩
theorem mt56 : am_mv am_P0 56 RX5 2 false := ⟨by decide, wd1025, wd1026, wd135, wd1027, by decide, by decide +kernel⟩
theorem mt57 : am_mv am_P0 57 RX5 1 false := ⟨by decide, wd1316, wd1317, wd135, wd1318, by decide, by decide +kernel⟩
theorem mt58 : am_mv am_P0 58 RX5 1 false := ⟨by decide, wd1016, wd1017, wd135, wd1018, by decide, by decide +kernel⟩
theorem mt59 : am_mv am_P0 59 RX5 0 false := ⟨by decide, wd802, wd803, wd135, wd804, by decide, by decide +kernel⟩
theorem mt60 : am_mv am_P0 60 RX5 0 false := ⟨by decide, wd914, wd915, wd135, wd916, by decide, by decide +kernel⟩
theorem mt61 : am_mv am_P0 61 RX5 0 false := ⟨by decide, wd827, wd828, wd135, wd829, by decide, by decide +kernel⟩
theorem mt62 : am_mv am_P0 62 RX5 1 false := ⟨by decide, wd786, wd787, wd135, wd788, by decide, by decide +kernel⟩
theorem mt63 : am_mv am_P0 63 RX5 5 false := ⟨by decide, wd794, wd795, wd135, wd796, by decide, by decide +kernel⟩
theorem mt64 : am_mv am_P0 64 RX6 0 false := ⟨by decide, wd236, trivial, wd139, wd237, by decide, by decide +kernel⟩
theorem mt65 : am_mv am_P0 65 RX6 1 false := ⟨by decide, wd811, wd812, wd139, wd813, by decide, by decide +kernel⟩
theorem mt66 : am_mv am_P0 66 RX6 3 false := ⟨by decide, wd819, wd820, wd139, wd821, by decide, by decide +kernel⟩
theorem mt67 : am_mv am_P0 67 RX6 1 false := ⟨by decide, wd1284, wd1285, wd139, wd1286, by decide, by decide +kernel⟩
theorem mt68 : am_mv am_P0 68 RX6 3 false := ⟨by decide, wd831, wd832, wd139, wd833, by decide, by decide +kernel⟩
theorem mt69 : am_mv am_P0 69 RX6 2 false := ⟨by decide, wd984, wd985, wd139, wd986, by decide, by decide +kernel⟩
theorem mt70 : am_mv am_P0 70 RX7 0 false := ⟨by decide, wd173, trivial, wd136, wd174, by decide, by decide +kernel⟩
theorem mt71 : am_mv am_P0 71 RX7 3 false := ⟨by decide, wd839, wd840, wd136, wd841, by decide, by decide +kernel⟩
theorem mt72 : am_mv am_P0 72 RX8 2 false := ⟨by decide, wd479, trivial, wd146, wd480, by decide, by decide +kernel⟩
theorem mt73 : am_mv am_P0 73 RX8 2 false := ⟨by decide, wd890, wd891, wd146, wd892, by decide, by decide +kernel⟩
theorem mt74 : am_mv am_P0 74 RX8 0 false := ⟨by decide, wd900, wd901, wd146, wd902, by decide, by decide +kernel⟩
theorem mt75 : am_mv am_P0 75 RX8 2 false := ⟨by decide, wd980, wd981, wd146, wd982, by decide, by decide +kernel⟩
theorem mt76 : am_mv am_P0 76 RX8 2 false := ⟨by decide, wd1054, wd1055, wd146, wd1056, by decide, by decide +kernel⟩
theorem mt77 : am_mv am_P0 77 RX8 0 false := ⟨by decide, wd939, wd25, wd146, wd940, by decide, by decide +kernel⟩
theorem mt78 : am_mv am_P0 78 RX8 2 false := ⟨by decide, wd1130, wd38, wd146, wd1131, by decide, by decide +kernel⟩
theorem mt79 : am_mv am_P0 79 RX8 3 false := ⟨by decide, wd1125, wd1126, wd146, wd1127, by decide, by decide +kernel⟩
theorem mt80 : am_mv am_P0 80 RX8 0 false := ⟨by decide, wd1142, wd1143, wd146, wd1144, by decide, by decide +kernel⟩
theorem mt81 : am_mv am_P0 81 RX8 0 false := ⟨by decide, wd1256, wd1257, wd146, wd1258, by decide, by decide +kernel⟩
theorem mt82 : am_mv am_P0 82 RX8 1 false := ⟨by decide, wd1261, wd43, wd146, wd1262, by decide, by decide +kernel⟩
theorem mt83 : am_mv am_P0 83 RX8 0 false := ⟨by decide, wd934, wd935, wd146, wd936, by decide, by decide +kernel⟩
theorem mt84 : am_mv am_P0 84 RX8 0 false := ⟨by decide, wd977, wd27, wd146, wd978, by decide, by decide +kernel⟩
theorem mt85 : am_mv am_P0 85 RX8 0 false := ⟨by decide, wd991, wd28, wd146, wd992, by decide, by decide +kernel⟩
theorem mt86 : am_mv am_P0 86 RX8 1 false := ⟨by decide, wd997, wd29, wd146, wd998, by decide, by decide +kernel⟩
theorem mt87 : am_mv am_P0 87 RX8 0 false := ⟨by decide, wd1001, wd30, wd146, wd1002, by decide, by decide +kernel⟩
theorem mt88 : am_mv am_P0 88 RX8 2 false := ⟨by decide, wd1079, wd1080, wd146, wd1081, by decide, by decide +kernel⟩
theorem mt89 : am_mv am_P0 89 RX8 1 false := ⟨by decide, wd1065, wd1066, wd146, wd1067, by decide, by decide +kernel⟩
theorem mt90 : am_mv am_P0 90 RX8 2 false := ⟨by decide, wd1069, wd1070, wd146, wd1071, by decide, by decide +kernel⟩
theorem mt91 : am_mv am_P0 91 RX8 0 false := ⟨by decide, wd1150, wd1151, wd146, wd1152, by decide, by decide +kernel⟩
theorem mt92 : am_mv am_P0 92 RX8 1 false := ⟨by decide, wd1154, wd1155, wd146, wd1156, by decide, by decide +kernel⟩
theorem mt93 : am_mv am_P0 93 RX8 0 false := ⟨by decide, wd1105, wd1106, wd146, wd1107, by decide, by decide +kernel⟩
theorem mt94 : am_mv am_P0 94 RX8 0 false := ⟨by decide, wd1110, wd34, wd146, wd1111, by decide, by decide +kernel⟩
theorem mt95 : am_mv am_P0 95 RX8 2 false := ⟨by decide, wd1114, wd35, wd146, wd1115, by decide, by decide +kernel⟩
theorem mt96 : am_mv am_P0 96 RX8 1 false := ⟨by decide, wd1118, wd36, wd146, wd1119, by decide, by decide +kernel⟩
theorem mt97 : am_mv am_P0 97 RX8 0 false := ⟨by decide, wd1215, wd1216, wd146, wd1217, by decide, by decide +kernel⟩
theorem mt98 : am_mv am_P0 98 RX8 0 false := ⟨by decide, wd1095, wd1096, wd146, wd1097, by decide, by decide +kernel⟩
theorem mt99 : am_mv am_P0 99 RX8 1 false := ⟨by decide, wd1101, wd33, wd146, wd1102, by decide, by decide +kernel⟩
theorem mt100 : am_mv am_P0 100 RX8 1 false := ⟨by decide, wd1182, wd1183, wd146, wd1184, by decide, by decide +kernel⟩
theorem mt101 : am_mv am_P0 101 RX9 0 false := ⟨by decide, wd485, trivial, wd147, wd486, by decide, by decide +kernel⟩
theorem mt102 : am_mv am_P0 102 RX9 2 false := ⟨by decide, wd894, wd895, wd147, wd896, by decide, by decide +kernel⟩
theorem mt103 : am_mv am_P0 103 RX9 1 false := ⟨by decide, wd955, wd956, wd147, wd957, by decide, by decide +kernel⟩
theorem mt104 : am_mv am_P0 104 RX9 3 false := ⟨by decide, wd959, wd960, wd147, wd961, by decide, by decide +kernel⟩
theorem mt105 : am_mv am_P0 105 RX9 1 false := ⟨by decide, wd963, wd964, wd147, wd965, by decide, by decide +kernel⟩
theorem mt106 : am_mv am_P0 106 RX9 2 false := ⟨by decide, wd971, wd26, wd147, wd972, by decide, by decide +kernel⟩
theorem mt107 : am_mv am_P0 107 RX9 2 false := ⟨by decide, wd1045, wd1046, wd147, wd1047, by decide, by decide +kernel⟩
theorem mt108 : am_mv am_P0 108 RX10 0 false := ⟨by decide, wd157, trivial, wd134, wd158, by decide, by decide +kernel⟩
theorem mt109 : am_mv am_P0 109 RX10 5 false := ⟨by decide, wd632, wd633, wd134, wd634, by decide, by decide +kernel⟩
theorem mt110 : am_mv am_P0 110 RX10 1 false := ⟨by decide, wd640, wd641, wd134, wd642, by decide, by decide +kernel⟩
theorem mt111 : am_mv am_P0 111 RX10 0 false := ⟨by decide, wd644, wd645, wd134, wd646, by decide, by decide +kernel⟩
theorem mt112 : am_mv am_P0 112 RX10 1 false := ⟨by decide, wd904, wd905, wd134, wd906, by decide, by decide +kernel⟩
theorem mt113 : am_mv am_P0 113 RX10 1 false := ⟨by decide, wd908, wd909, wd134, wd910, by decide, by decide +kernel⟩
theorem mt114 : am_mv am_P0 114 RX10 2 false := ⟨by decide, wd918, wd919, wd134, wd920, by decide, by decide +kernel⟩
theorem mt115 : am_mv am_P0 115 RX10 2 false := ⟨by decide, wd926, wd927, wd134, wd928, by decide, by decide +kernel⟩
theorem mt116 : am_mv am_P0 116 RX10 3 false := ⟨by decide, wd1008, wd1009, wd134, wd1010, by decide, by decide +kernel⟩
theorem mt117 : am_mv am_P0 117 RX10 4 false := ⟨by decide, wd1021, wd1022, wd134, wd1023, by decide, by decide +kernel⟩
theorem mt118 : am_mv am_P0 118 RX10 5 false := ⟨by decide, wd1041, wd1042, wd134, wd1043, by decide, by decide +kernel⟩
theorem mt119 : am_mv am_P0 119 RX10 3 false := ⟨by decide, wd1050, wd1051, wd134, wd1052, by decide, by decide +kernel⟩
theorem mt120 : am_mv am_P0 120 RX10 3 false := ⟨by decide, wd1061, wd1062, wd134, wd1063, by decide, by decide +kernel⟩
theorem mt121 : am_mv am_P0 121 RX10 4 false := ⟨by decide, wd1083, wd1084, wd134, wd1085, by decide, by decide +kernel⟩
theorem mt122 : am_mv am_P0 122 RX10 2 false := ⟨by decide, wd1087, wd1088, wd134, wd1089, by decide, by decide +kernel⟩
theorem mt123 : am_mv am_P0 123 RX10 2 false := ⟨by decide, wd1134, wd1135, wd134, wd1136, by decide, by decide +kernel⟩
theorem mt124 : am_mv am_P0 124 RX10 1 false := ⟨by decide, wd1138, wd1139, wd134, wd1140, by decide, by decide +kernel⟩
theorem mt125 : am_mv am_P0 125 RX10 2 false := ⟨by decide, wd1146, wd1147, wd134, wd1148, by decide, by decide +kernel⟩
theorem mt126 : am_mv am_P0 126 RX10 1 false := ⟨by decide, wd1159, wd1160, wd134, wd1161, by decide, by decide +kernel⟩
theorem mt127 : am_mv am_P0 127 RX10 2 false := ⟨by decide, wd1163, wd1164, wd134, wd1165, by decide, by decide +kernel⟩
theorem mt128 : am_mv am_P0 128 RX10 1 false := ⟨by decide, wd1167, wd1168, wd134, wd1169, by decide, by decide +kernel⟩
theorem mt129 : am_mv am_P0 129 RX10 0 false := ⟨by decide, wd1174, wd1175, wd134, wd1176, by decide, by decide +kernel⟩
theorem mt130 : am_mv am_P0 130 RX10 3 false := ⟨by decide, wd1178, wd1179, wd134, wd1180, by decide, by decide +kernel⟩
theorem mt131 : am_mv am_P0 131 RX10 2 false := ⟨by decide, wd1187, wd1188, wd134, wd1189, by decide, by decide +kernel⟩
theorem mt132 : am_mv am_P0 132 RX10 0 false := ⟨by decide, wd1195, wd1196, wd134, wd1197, by decide, by decide +kernel⟩
theorem mt133 : am_mv am_P0 133 RX10 0 false := ⟨by decide, wd1199, wd1200, wd134, wd1201, by decide, by decide +kernel⟩
theorem mt134 : am_mv am_P0 134 RX10 2 false := ⟨by decide, wd1203, wd1204, wd134, wd1205, by decide, by decide +kernel⟩
theorem mt135 : am_mv am_P0 135 RX10 1 false := ⟨by decide, wd1207, wd1208, wd134, wd1209, by decide, by decide +kernel⟩
theorem mt136 : am_mv am_P0 136 RX10 0 false := ⟨by decide, wd1224, wd1225, wd134, wd1226, by decide, by decide +kernel⟩
theorem mt137 : am_mv am_P0 137 RX10 3 false := ⟨by decide, wd1229, wd1230, wd134, wd1231, by decide, by decide +kernel⟩
theorem mt138 : am_mv am_P0 138 RX10 1 false := ⟨by decide, wd1233, wd1234, wd134, wd1235, by decide, by decide +kernel⟩
theorem mt139 : am_mv am_P0 139 RX10 1 false := ⟨by decide, wd1252, wd1253, wd134, wd1254, by decide, by decide +kernel⟩
theorem mt140 : am_mv am_P0 140 RX10 0 false := ⟨by decide, wd1265, wd1266, wd134, wd1267, by decide, by decide +kernel⟩
theorem mt141 : am_mv am_P0 141 RX10 5 false := ⟨by decide, wd1269, wd1270, wd134, wd1271, by decide, by decide +kernel⟩
theorem mt142 : am_mv am_P0 142 RX10 2 false := ⟨by decide, wd1280, wd1281, wd134, wd1282, by decide, by decide +kernel⟩
theorem mt143 : am_mv am_P0 143 RX10 4 false := ⟨by decide, wd1288, wd1289, wd134, wd1290, by decide, by decide +kernel⟩
theorem mt144 : am_mv am_P0 144 RX10 0 false := ⟨by decide, wd1293, wd1294, wd134, wd1295, by decide, by decide +kernel⟩
theorem mt145 : am_mv am_P0 145 RX10 1 false := ⟨by decide, wd1304, wd1305, wd134, wd1306, by decide, by decide +kernel⟩
theorem mt146 : am_mv am_P0 146 RX10 0 false := ⟨by decide, wd1308, wd1309, wd134, wd1310, by decide, by decide +kernel⟩
theorem mt147 : am_mv am_P0 147 RX10 1 false := ⟨by decide, wd1324, wd1325, wd134, wd1326, by decide, by decide +kernel⟩
theorem mt148 : am_mv am_P0 148 RX10 1 true := ⟨by decide, wd1005, trivial, wd134, wd1006, by decide, by decide +kernel⟩
theorem mt149 : am_mv am_P0 149 RX10 1 true := ⟨by decide, wd1029, trivial, wd134, wd1030, by decide, by decide +kernel⟩
theorem mt150 : am_mv am_P0 150 RX10 1 false := ⟨by decide, wd923, wd23, wd134, wd924, by decide, by decide +kernel⟩
theorem mt151 : am_mv am_P0 151 RX10 2 false := ⟨by decide, wd1013, wd31, wd134, wd1014, by decide, by decide +kernel⟩
theorem mt152 : am_mv am_P0 152 RX10 1 false := ⟨by decide, wd637, wd0, wd134, wd638, by decide, by decide +kernel⟩
theorem mt153 : am_mv am_P0 153 RX10 1 false := ⟨by decide, wd1276, wd44, wd134, wd1277, by decide, by decide +kernel⟩
theorem mt154 : am_mv am_P0 154 RX10 1 false := ⟨by decide, wd931, wd24, wd134, wd932, by decide, by decide +kernel⟩
theorem mt155 : am_mv am_P0 155 RX10 1 false := ⟨by decide, wd1122, wd37, wd134, wd1123, by decide, by decide +kernel⟩
theorem mt156 : am_mv am_P0 156 RX10 1 false := ⟨by decide, wd1092, wd32, wd134, wd1093, by decide, by decide +kernel⟩
theorem mt157 : am_mv am_P0 157 RX10 1 true := ⟨by decide, wd1171, trivial, wd134, wd1172, by decide, by decide +kernel⟩
theorem mt158 : am_mv am_P0 158 RX10 1 false := ⟨by decide, wd1192, wd39, wd134, wd1193, by decide, by decide +kernel⟩
theorem mt159 : am_mv am_P0 159 RX10 1 false := ⟨by decide, wd1212, wd40, wd134, wd1213, by decide, by decide +kernel⟩
theorem mt160 : am_mv am_P0 160 RX10 0 false := ⟨by decide, wd1238, wd41, wd134, wd1239, by decide, by decide +kernel⟩
theorem mt161 : am_mv am_P0 161 RX10 1 false := ⟨by decide, wd1242, wd42, wd134, wd1243, by decide, by decide +kernel⟩
theorem mt162 : am_mv am_P0 162 RX10 1 false := ⟨by decide, wd1298, wd45, wd134, wd1299, by decide, by decide +kernel⟩
theorem mt163 : am_mv am_P0 163 RX10 2 true := ⟨by decide, wd1301, trivial, wd134, wd1302, by decide, by decide +kernel⟩
theorem mt164 : am_mv am_P0 164 RX10 1 false := ⟨by decide, wd1313, wd46, wd134, wd1314, by decide, by decide +kernel⟩
theorem mt165 : am_mv am_P0 165 RX10 0 false := ⟨by decide, wd1321, wd47, wd134, wd1322, by decide, by decide +kernel⟩
theorem mt166 : am_mv am_P0 166 RX11 0 false := ⟨by decide, wd1330, trivial, wd149, wd1331, by decide, by decide +kernel⟩
theorem mt167 : am_mv am_P0 167 RX11 3 true := ⟨by decide, wd1631, trivial, wd149, wd1632, by decide, by decide +kernel⟩
theorem mt168 : am_mv am_P0 168 RX11 1 false := ⟨by decide, wd1593, wd49, wd149, wd1594, by decide, by decide +kernel⟩
theorem mt169 : am_mv am_P0 169 RX11 5 false := ⟨by decide, wd1584, wd1585, wd149, wd1586, by decide, by decide +kernel⟩
theorem mt170 : am_mv am_P0 170 RX11 1 false := ⟨by decide, wd1596, wd1597, wd149, wd1598, by decide, by decide +kernel⟩
theorem mt171 : am_mv am_P0 171 RX11 2 false := ⟨by decide, wd1615, wd51, wd149, wd1616, by decide, by decide +kernel⟩
theorem mt172 : am_mv am_P0 172 RX11 1 true := ⟨by decide, wd1608, trivial, wd149, wd1609, by decide, by decide +kernel⟩
theorem mt173 : am_mv am_P0 173 RX11 1 true := ⟨by decide, wd1611, trivial, wd149, wd1612, by decide, by decide +kernel⟩
theorem mt174 : am_mv am_P0 174 RX11 0 false := ⟨by decide, wd1605, wd50, wd149, wd1606, by decide, by decide +kernel⟩
theorem mt175 : am_mv am_P0 175 RX11 1 false := ⟨by decide, wd1639, wd56, wd149, wd1640, by decide, by decide +kernel⟩
theorem mt176 : am_mv am_P0 176 RX11 1 false := ⟨by decide, wd1624, wd53, wd149, wd1625, by decide, by decide +kernel⟩
theorem mt177 : am_mv am_P0 177 RX11 1 false := ⟨by decide, wd1635, wd55, wd149, wd1636, by decide, by decide +kernel⟩
theorem mt178 : am_mv am_P0 178 RX11 1 false := ⟨by decide, wd1725, wd71, wd149, wd1726, by decide, by decide +kernel⟩
theorem mt179 : am_mv am_P0 179 RX11 1 true := ⟨by decide, wd1658, trivial, wd149, wd1659, by decide, by decide +kernel⟩
theorem mt180 : am_mv am_P0 180 RX11 1 true := ⟨by decide, wd1651, trivial, wd149, wd1652, by decide, by decide +kernel⟩
theorem mt181 : am_mv am_P0 181 RX11 1 false := ⟨by decide, wd1741, wd72, wd149, wd1742, by decide, by decide +kernel⟩
theorem mt182 : am_mv am_P0 182 RX11 2 false := ⟨by decide, wd1628, wd54, wd149, wd1629, by decide, by decide +kernel⟩
theorem mt183 : am_mv am_P0 183 RX11 2 false := ⟨by decide, wd1687, wd65, wd149, wd1688, by decide, by decide +kernel⟩
theorem mt184 : am_mv am_P0 184 RX11 1 true := ⟨by decide, wd1703, trivial, wd149, wd1704, by decide, by decide +kernel⟩
theorem mt185 : am_mv am_P0 185 RX11 1 false := ⟨by decide, wd1700, wd67, wd149, wd1701, by decide, by decide +kernel⟩
theorem mt186 : am_mv am_P0 186 RX11 1 false := ⟨by decide, wd1678, wd63, wd149, wd1679, by decide, by decide +kernel⟩
theorem mt187 : am_mv am_P0 187 RX11 1 false := ⟨by decide, wd1666, wd61, wd149, wd1667, by decide, by decide +kernel⟩
theorem mt188 : am_mv am_P0 188 RX11 1 false := ⟨by decide, wd1682, wd64, wd149, wd1683, by decide, by decide +kernel⟩
theorem mt189 : am_mv am_P0 189 RX11 1 true := ⟨by decide, wd1673, trivial, wd149, wd1674, by decide, by decide +kernel⟩
theorem mt190 : am_mv am_P0 190 RX11 0 false := ⟨by decide, wd1670, wd62, wd149, wd1671, by decide, by decide +kernel⟩
theorem mt191 : am_mv am_P0 191 RX11 0 false := ⟨by decide, wd1696, wd66, wd149, wd1697, by decide, by decide +kernel⟩
theorem mt192 : am_mv am_P0 192 RX11 1 false := ⟨by decide, wd1662, wd60, wd149, wd1663, by decide, by decide +kernel⟩
theorem mt193 : am_mv am_P0 193 RX11 1 false := ⟨by decide, wd1655, wd59, wd149, wd1656, by decide, by decide +kernel⟩
theorem mt194 : am_mv am_P0 194 RX11 1 false := ⟨by decide, wd1710, wd68, wd149, wd1711, by decide, by decide +kernel⟩
theorem mt195 : am_mv am_P0 195 RX11 0 false := ⟨by decide, wd1721, wd70, wd149, wd1722, by decide, by decide +kernel⟩
theorem mt196 : am_mv am_P0 196 RX11 0 false := ⟨by decide, wd1749, wd74, wd149, wd1750, by decide, by decide +kernel⟩
theorem mt197 : am_mv am_P0 197 RX11 0 false := ⟨by decide, wd1619, wd52, wd149, wd1620, by decide, by decide +kernel⟩
theorem mt198 : am_mv am_P0 198 RX11 1 false := ⟨by decide, wd1648, wd58, wd149, wd1649, by decide, by decide +kernel⟩
theorem mt199 : am_mv am_P0 199 RX11 0 false := ⟨by decide, wd1717, wd69, wd149, wd1718, by decide, by decide +kernel⟩
theorem mt200 : am_mv am_P0 200 RX11 0 false := ⟨by decide, wd1753, wd75, wd149, wd1754, by decide, by decide +kernel⟩
theorem mt201 : am_mv am_P0 201 RX11 0 false := ⟨by decide, wd1745, wd73, wd149, wd1746, by decide, by decide +kernel⟩
theorem mt202 : am_mv am_P0 202 RX11 0 false := ⟨by decide, wd1757, wd76, wd149, wd1758, by decide, by decide +kernel⟩
theorem mt203 : am_mv am_P0 203 RX11 0 false := ⟨by decide, wd1761, wd77, wd149, wd1762, by decide, by decide +kernel⟩
theorem mt204 : am_mv am_P0 204 RX11 0 false := ⟨by decide, wd1765, wd78, wd149, wd1766, by decide, by decide +kernel⟩
theorem mt205 : am_mv am_P0 205 RX11 0 false := ⟨by decide, wd1643, wd57, wd149, wd1644, by decide, by decide +kernel⟩
theorem mt206 : am_mv am_P0 206 RX11 0 false := ⟨by decide, wd1600, wd1601, wd149, wd1602, by decide, by decide +kernel⟩
theorem mt207 : am_mv am_P0 207 RX11 1 false := ⟨by decide, wd1808, wd1809, wd149, wd1810, by decide, by decide +kernel⟩
theorem mt208 : am_mv am_P0 208 RX11 1 false := ⟨by decide, wd1589, wd48, wd149, wd1590, by decide, by decide +kernel⟩
theorem mt209 : am_mv am_P0 209 RX11 1 false := ⟨by decide, wd1812, wd1813, wd149, wd1814, by decide, by decide +kernel⟩
theorem mt210 : am_mv am_P0 210 RX11 1 true := ⟨by decide, wd1799, trivial, wd149, wd1800, by decide, by decide +kernel⟩
theorem mt211 : am_mv am_P0 211 RX11 2 true := ⟨by decide, wd1804, trivial, wd149, wd1805, by decide, by decide +kernel⟩
theorem mt212 : am_mv am_P0 212 RX11 3 true := ⟨by decide, wd1796, trivial, wd149, wd1797, by decide, by decide +kernel⟩
theorem mt213 : am_mv am_P0 213 RX11 2 false := ⟨by decide, wd1793, wd85, wd149, wd1794, by decide, by decide +kernel⟩
theorem mt214 : am_mv am_P0 214 RX11 0 false := ⟨by decide, wd1773, wd80, wd149, wd1774, by decide, by decide +kernel⟩
theorem mt215 : am_mv am_P0 215 RX11 1 false := ⟨by decide, wd1785, wd83, wd149, wd1786, by decide, by decide +kernel⟩
theorem mt216 : am_mv am_P0 216 RX11 1 false := ⟨by decide, wd1789, wd84, wd149, wd1790, by decide, by decide +kernel⟩
theorem mt217 : am_mv am_P0 217 RX11 2 false := ⟨by decide, wd1821, wd86, wd149, wd1822, by decide, by decide +kernel⟩
theorem mt218 : am_mv am_P0 218 RX11 2 false := ⟨by decide, wd1828, wd87, wd149, wd1829, by decide, by decide +kernel⟩
theorem mt219 : am_mv am_P0 219 RX11 1 true := ⟨by decide, wd1824, trivial, wd149, wd1825, by decide, by decide +kernel⟩
theorem mt220 : am_mv am_P0 220 RX11 1 false := ⟨by decide, wd1852, wd91, wd149, wd1853, by decide, by decide +kernel⟩
theorem mt221 : am_mv am_P0 221 RX11 4 false := ⟨by decide, wd1781, wd82, wd149, wd1782, by decide, by decide +kernel⟩
theorem mt222 : am_mv am_P0 222 RX11 3 false := ⟨by decide, wd1777, wd81, wd149, wd1778, by decide, by decide +kernel⟩
theorem mt223 : am_mv am_P0 223 RX11 0 false := ⟨by decide, wd1769, wd79, wd149, wd1770, by decide, by decide +kernel⟩
theorem mt224 : am_mv am_P0 224 RX11 2 false := ⟨by decide, wd1832, wd88, wd149, wd1833, by decide, by decide +kernel⟩
theorem mt225 : am_mv am_P0 225 RX11 4 false := ⟨by decide, wd1816, wd1817, wd149, wd1818, by decide, by decide +kernel⟩
theorem mt226 : am_mv am_P0 226 RX11 2 false := ⟨by decide, wd1844, wd90, wd149, wd1845, by decide, by decide +kernel⟩
theorem mt227 : am_mv am_P0 227 RX11 2 false := ⟨by decide, wd1912, wd103, wd149, wd1913, by decide, by decide +kernel⟩
theorem mt228 : am_mv am_P0 228 RX11 1 false := ⟨by decide, wd1840, wd89, wd149, wd1841, by decide, by decide +kernel⟩
theorem mt229 : am_mv am_P0 229 RX11 2 false := ⟨by decide, wd1928, wd106, wd149, wd1929, by decide, by decide +kernel⟩
theorem mt230 : am_mv am_P0 230 RX11 2 false := ⟨by decide, wd2116, wd129, wd149, wd2117, by decide, by decide +kernel⟩
theorem mt231 : am_mv am_P0 231 RX11 1 false := ⟨by decide, wd1881, wd96, wd149, wd1882, by decide, by decide +kernel⟩
theorem mt232 : am_mv am_P0 232 RX11 1 false := ⟨by decide, wd1835, wd1836, wd149, wd1837, by decide, by decide +kernel⟩
theorem mt233 : am_mv am_P0 233 RX11 2 false := ⟨by decide, wd1847, wd1848, wd149, wd1849, by decide, by decide +kernel⟩
theorem mt234 : am_mv am_P0 234 RX11 2 false := ⟨by decide, wd1869, wd94, wd149, wd1870, by decide, by decide +kernel⟩
theorem mt235 : am_mv am_P0 235 RX11 3 false := ⟨by decide, wd1916, wd104, wd149, wd1917, by decide, by decide +kernel⟩
theorem mt236 : am_mv am_P0 236 RX11 4 false := ⟨by decide, wd1865, wd93, wd149, wd1866, by decide, by decide +kernel⟩
theorem mt237 : am_mv am_P0 237 RX11 2 false := ⟨by decide, wd1861, wd92, wd149, wd1862, by decide, by decide +kernel⟩
theorem mt238 : am_mv am_P0 238 RX11 2 false := ⟨by decide, wd1873, wd95, wd149, wd1874, by decide, by decide +kernel⟩
theorem mt239 : am_mv am_P0 239 RX11 5 false := ⟨by decide, wd1856, wd1857, wd149, wd1858, by decide, by decide +kernel⟩
theorem mt240 : am_mv am_P0 240 RX11 3 false := ⟨by decide, wd1893, wd99, wd149, wd1894, by decide, by decide +kernel⟩
theorem mt241 : am_mv am_P0 241 RX11 1 false := ⟨by decide, wd1889, wd98, wd149, wd1890, by decide, by decide +kernel⟩
theorem mt242 : am_mv am_P0 242 RX11 3 false := ⟨by decide, wd1972, wd113, wd149, wd1973, by decide, by decide +kernel⟩
theorem mt243 : am_mv am_P0 243 RX11 4 true := ⟨by decide, wd1900, trivial, wd149, wd1901, by decide, by decide +kernel⟩
theorem mt244 : am_mv am_P0 244 RX11 1 false := ⟨by decide, wd1897, wd100, wd149, wd1898, by decide, by decide +kernel⟩
theorem mt245 : am_mv am_P0 245 RX11 1 false := ⟨by decide, wd1885, wd97, wd149, wd1886, by decide, by decide +kernel⟩
theorem mt246 : am_mv am_P0 246 RX11 3 false := ⟨by decide, wd1920, wd105, wd149, wd1921, by decide, by decide +kernel⟩
theorem mt247 : am_mv am_P0 247 RX11 1 false := ⟨by decide, wd1908, wd102, wd149, wd1909, by decide, by decide +kernel⟩
theorem mt248 : am_mv am_P0 248 RX11 1 false := ⟨by decide, wd1904, wd101, wd149, wd1905, by decide, by decide +kernel⟩
theorem mt249 : am_mv am_P0 249 RX11 1 false := ⟨by decide, wd1940, wd107, wd149, wd1941, by decide, by decide +kernel⟩
theorem mt250 : am_mv am_P0 250 RX11 3 false := ⟨by decide, wd1948, wd109, wd149, wd1949, by decide, by decide +kernel⟩
theorem mt251 : am_mv am_P0 251 RX11 2 false := ⟨by decide, wd1944, wd108, wd149, wd1945, by decide, by decide +kernel⟩
theorem mt252 : am_mv am_P0 252 RX11 2 false := ⟨by decide, wd1996, wd119, wd149, wd1997, by decide, by decide +kernel⟩
theorem mt253 : am_mv am_P0 253 RX11 2 false := ⟨by decide, wd1876, wd1877, wd149, wd1878, by decide, by decide +kernel⟩
theorem mt254 : am_mv am_P0 254 RX11 3 false := ⟨by decide, wd1923, wd1924, wd149, wd1925, by decide, by decide +kernel⟩
theorem mt255 : am_mv am_P0 255 RX11 3 false := ⟨by decide, wd1931, wd1932, wd149, wd1933, by decide, by decide +kernel⟩
theorem mt256 : am_mv am_P0 256 RX11 3 false := ⟨by decide, wd1935, wd1936, wd149, wd1937, by decide, by decide +kernel⟩
theorem mt257 : am_mv am_P0 257 RX11 4 false := ⟨by decide, wd1951, wd1952, wd149, wd1953, by decide, by decide +kernel⟩
theorem mt258 : am_mv am_P0 258 RX11 1 false := ⟨by decide, wd1992, wd118, wd149, wd1993, by decide, by decide +kernel⟩
theorem mt259 : am_mv am_P0 259 RX11 2 false := ⟨by decide, wd1968, wd112, wd149, wd1969, by decide, by decide +kernel⟩
theorem mt260 : am_mv am_P0 260 RX11 1 false := ⟨by decide, wd1964, wd111, wd149, wd1965, by decide, by decide +kernel⟩
theorem mt261 : am_mv am_P0 261 RX11 2 false := ⟨by decide, wd1984, wd116, wd149, wd1985, by decide, by decide +kernel⟩
theorem mt262 : am_mv am_P0 262 RX11 1 false := ⟨by decide, wd1976, wd114, wd149, wd1977, by decide, by decide +kernel⟩
theorem mt263 : am_mv am_P0 263 RX11 0 false := ⟨by decide, wd1980, wd115, wd149, wd1981, by decide, by decide +kernel⟩
theorem mt264 : am_mv am_P0 264 RX11 0 false := ⟨by decide, wd1988, wd117, wd149, wd1989, by decide, by decide +kernel⟩
theorem mt265 : am_mv am_P0 265 RX11 2 false := ⟨by decide, wd1960, wd110, wd149, wd1961, by decide, by decide +kernel⟩
theorem mt266 : am_mv am_P0 266 RX11 2 false := ⟨by decide, wd1955, wd1956, wd149, wd1957, by decide, by decide +kernel⟩
theorem mt267 : am_mv am_P0 267 RX11 2 false := ⟨by decide, wd2004, wd120, wd149, wd2005, by decide, by decide +kernel⟩
theorem mt268 : am_mv am_P0 268 RX11 2 false := ⟨by decide, wd1999, wd2000, wd149, wd2001, by decide, by decide +kernel⟩
theorem mt269 : am_mv am_P0 269 RX11 1 false := ⟨by decide, wd2007, wd2008, wd149, wd2009, by decide, by decide +kernel⟩
theorem mt270 : am_mv am_P0 270 RX11 2 false := ⟨by decide, wd2011, wd2012, wd149, wd2013, by decide, by decide +kernel⟩
theorem mt271 : am_mv am_P0 271 RX11 1 false := ⟨by decide, wd2015, wd2016, wd149, wd2017, by decide, by decide +kernel⟩
theorem mt272 : am_mv am_P0 272 RX11 2 false := ⟨by decide, wd2024, wd121, wd149, wd2025, by decide, by decide +kernel⟩
theorem mt273 : am_mv am_P0 273 RX11 2 false := ⟨by decide, wd2019, wd2020, wd149, wd2021, by decide, by decide +kernel⟩
theorem mt274 : am_mv am_P0 274 RX11 1 false := ⟨by decide, wd2027, wd2028, wd149, wd2029, by decide, by decide +kernel⟩
theorem mt275 : am_mv am_P0 275 RX11 1 false := ⟨by decide, wd2036, wd122, wd149, wd2037, by decide, by decide +kernel⟩
theorem mt276 : am_mv am_P0 276 RX11 0 false := ⟨by decide, wd2031, wd2032, wd149, wd2033, by decide, by decide +kernel⟩
theorem mt277 : am_mv am_P0 277 RX11 3 false := ⟨by decide, wd2044, wd123, wd149, wd2045, by decide, by decide +kernel⟩
theorem mt278 : am_mv am_P0 278 RX11 3 false := ⟨by decide, wd2039, wd2040, wd149, wd2041, by decide, by decide +kernel⟩
theorem mt279 : am_mv am_P0 279 RX11 0 false := ⟨by decide, wd2052, wd124, wd149, wd2053, by decide, by decide +kernel⟩
theorem mt280 : am_mv am_P0 280 RX11 2 false := ⟨by decide, wd2047, wd2048, wd149, wd2049, by decide, by decide +kernel⟩
theorem mt281 : am_mv am_P0 281 RX11 0 false := ⟨by decide, wd2055, wd2056, wd149, wd2057, by decide, by decide +kernel⟩
theorem mt282 : am_mv am_P0 282 RX11 0 false := ⟨by decide, wd2059, wd2060, wd149, wd2061, by decide, by decide +kernel⟩
theorem mt283 : am_mv am_P0 283 RX11 2 false := ⟨by decide, wd2063, wd2064, wd149, wd2065, by decide, by decide +kernel⟩
theorem mt284 : am_mv am_P0 284 RX11 1 false := ⟨by decide, wd2072, wd125, wd149, wd2073, by decide, by decide +kernel⟩
theorem mt285 : am_mv am_P0 285 RX11 1 false := ⟨by decide, wd2067, wd2068, wd149, wd2069, by decide, by decide +kernel⟩
theorem mt286 : am_mv am_P0 286 RX11 0 false := ⟨by decide, wd2078, wd2079, wd149, wd2080, by decide, by decide +kernel⟩
theorem mt287 : am_mv am_P0 287 RX11 0 false := ⟨by decide, wd2088, wd126, wd149, wd2089, by decide, by decide +kernel⟩
theorem mt288 : am_mv am_P0 288 RX11 3 false := ⟨by decide, wd2083, wd2084, wd149, wd2085, by decide, by decide +kernel⟩
theorem mt289 : am_mv am_P0 289 RX11 1 false := ⟨by decide, wd2091, wd2092, wd149, wd2093, by decide, by decide +kernel⟩
theorem mt290 : am_mv am_P0 290 RX11 1 false := ⟨by decide, wd2100, wd127, wd149, wd2101, by decide, by decide +kernel⟩
theorem mt291 : am_mv am_P0 291 RX11 1 false := ⟨by decide, wd2095, wd2096, wd149, wd2097, by decide, by decide +kernel⟩
theorem mt292 : am_mv am_P0 292 RX11 0 false := ⟨by decide, wd2103, wd2104, wd149, wd2105, by decide, by decide +kernel⟩
theorem mt293 : am_mv am_P0 293 RX11 4 false := ⟨by decide, wd2112, wd128, wd149, wd2113, by decide, by decide +kernel⟩
theorem mt294 : am_mv am_P0 294 RX11 5 false := ⟨by decide, wd2107, wd2108, wd149, wd2109, by decide, by decide +kernel⟩
theorem mt295 : am_mv am_P0 295 RX11 2 false := ⟨by decide, wd2119, wd2120, wd149, wd2121, by decide, by decide +kernel⟩
theorem mt296 : am_mv am_P0 296 RX11 3 false := ⟨by decide, wd2128, wd130, wd149, wd2129, by decide, by decide +kernel⟩
theorem mt297 : am_mv am_P0 297 RX11 4 false := ⟨by decide, wd2123, wd2124, wd149, wd2125, by decide, by decide +kernel⟩
theorem mt298 : am_mv am_P0 298 RX11 1 false := ⟨by decide, wd2136, wd131, wd149, wd2137, by decide, by decide +kernel⟩
theorem mt299 : am_mv am_P0 299 RX11 0 false := ⟨by decide, wd2131, wd2132, wd149, wd2133, by decide, by decide +kernel⟩
theorem mt300 : am_mv am_P0 300 RX11 1 false := ⟨by decide, wd2139, wd2140, wd149, wd2141, by decide, by decide +kernel⟩
theorem mt301 : am_mv am_P0 301 RX11 1 false := ⟨by decide, wd2148, wd132, wd149, wd2149, by decide, by decide +kernel⟩
theorem mt302 : am_mv am_P0 302 RX11 0 false := ⟨by decide, wd2143, wd2144, wd149, wd2145, by decide, by decide +kernel⟩
theorem mt303 : am_mv am_P0 303 RJ13 1 true := ⟨by decide, wd1073, trivial, wd153, wd1074, by decide, by decide +kernel⟩
theorem mt304 : am_mv am_P0 304 RJ9 2 true := ⟨by decide, wd872, trivial, wd150, wd873, by decide, by decide +kernel⟩
theorem mt305 : am_mv am_P0 305 RJ9 2 true := ⟨by decide, wd875, trivial, wd150, wd876, by decide, by decide +kernel⟩
theorem mt306 : am_mv am_P0 306 RJ9 1 true := ⟨by decide, wd1058, trivial, wd150, wd1059, by decide, by decide +kernel⟩
theorem mt307 : am_mv am_P0 307 RJ9 2 true := ⟨by decide, wd887, trivial, wd150, wd888, by decide, by decide +kernel⟩
theorem mt308 : am_mv am_P0 308 RJ9 2 true := ⟨by decide, wd881, trivial, wd150, wd882, by decide, by decide +kernel⟩
theorem mt309 : am_mv am_P0 309 RJ9 2 true := ⟨by decide, wd660, trivial, wd150, wd661, by decide, by decide +kernel⟩
theorem mt310 : am_mv am_P0 310 RJ9 2 true := ⟨by decide, wd878, trivial, wd150, wd879, by decide, by decide +kernel⟩
theorem mt311 : am_mv am_P0 311 RJ0 0 false := ⟨by decide, wd381, wd382, wd142, wd383, by decide, by decide +kernel⟩
theorem mt312 : am_mv am_P0 312 RJ0 1 false := ⟨by decide, wd391, wd392, wd142, wd393, by decide, by decide +kernel⟩
theorem mt313 : am_mv am_P0 313 RJ0 0 false := ⟨by decide, wd385, wd386, wd142, wd387, by decide, by decide +kernel⟩
theorem mt314 : am_mv am_P0 314 RJ0 0 false := ⟨by decide, wd395, wd396, wd142, wd397, by decide, by decide +kernel⟩
theorem mt315 : am_mv am_P0 315 RJ0 2 true := ⟨by decide, wd402, trivial, wd142, wd403, by decide, by decide +kernel⟩
theorem mt316 : am_mv am_P0 316 RJ1 2 true := ⟨by decide, wd399, trivial, wd143, wd400, by decide, by decide +kernel⟩
theorem mt321 : am_mv am_P0 321 RJ7 3 true := ⟨by decide, wd1248, trivial, wd151, wd1249, by decide, by decide +kernel⟩
theorem mt322 : am_mv am_P0 322 RJ7 2 true := ⟨by decide, wd851, trivial, wd151, wd852, by decide, by decide +kernel⟩
theorem mt323 : am_mv am_P0 323 RJ7 4 true := ⟨by decide, wd1245, trivial, wd151, wd1246, by decide, by decide +kernel⟩
theorem mt324 : am_mv am_P0 324 RJ7 2 true := ⟨by decide, wd848, trivial, wd151, wd849, by decide, by decide +kernel⟩
theorem mt325 : am_mv am_P0 325 RJ3 3 true := ⟨by decide, wd407, trivial, wd144, wd408, by decide, by decide +kernel⟩
section
variable {P : Nat → am_Y} {own : String} {cc : ByteArray} {nL : Nat} {ret : Option FieldType} {nm : String} {pc : Nat}
theorem z_csE {y i n mx : Nat} {C : String} {Y : MethodName} {b : ByteArray} {r : Option FieldType} {cd : am_Code} (e : P y = (Y, b, mx, r, cd)) (hdg : decode cc pc = .ok (.invokestatic i, 3)) (h : am_mv P y C n true) (hl : Cond.methodLink own i Y ∈ am_ws) : am_Snd P own cc nL ret nm pc (k_cs y n mx (pc + 3)) := by
  have h1 := z_cs (nL := nL) (ret := ret) (nm := nm) hdg h (by rw [e]; exact hl)
  rw [e] at h1
  exact h1
theorem z_cvE {y ci i n mx : Nat} {C : String} {T : u_T} {N : Nat} {Y : MethodName} {b : ByteArray} {r : Option FieldType} {cd : am_Code} (e : P y = (Y, b, mx, r, cd)) (hdg : decode cc pc = .ok (.invokevirtual i, 3)) (h : am_mv P y C n false) (hl : Cond.methodLink own i Y ∈ am_ws) (hc : vwCl[ci]? = some (C, T, N)) (hni : ¬ Y.name = "<init>") : am_Snd P own cc nL ret nm pc (k_cv y ci n mx (pc + 3)) := by
  have h1 := z_cv (nL := nL) (ret := ret) (nm := nm) hdg h (by rw [e]; exact hl) hc (by rw [e]; exact hni)
  rw [e] at h1
  exact h1
end
theorem mp1 : am_P0 1 = (yX0_emit, cX0_emit, 2, (Option.none : Option FieldType), am_look tX0_emit) := rfl
theorem zw_cv1 {own : String} {cc : ByteArray} {nL : Nat} {ret : Option FieldType} {nm : String} {pc i : Nat} (hdg : decode cc pc = .ok (.invokevirtual i, 3)) (hl : Cond.methodLink own i yX0_emit ∈ am_ws) : am_Snd am_P0 own cc nL ret nm pc (k_cv 1 0 1 2 (pc + 3)) := z_cvE mp1 hdg mt1 hl (ci := 0) rfl (by decide)
theorem mp2 : am_P0 2 = (yX0_valueOf, cX0_valueOf, 11, (Option.some FieldType.int), am_look tX0_valueOf) := rfl
theorem zw_cv2 {own : String} {cc : ByteArray} {nL : Nat} {ret : Option FieldType} {nm : String} {pc i : Nat} (hdg : decode cc pc = .ok (.invokevirtual i, 3)) (hl : Cond.methodLink own i yX0_valueOf ∈ am_ws) : am_Snd am_P0 own cc nL ret nm pc (k_cv 2 0 5 11 (pc + 3)) := z_cvE mp2 hdg mt2 hl (ci := 0) rfl (by decide)
theorem mp3 : am_P0 3 = (yX0_partOf, cX0_partOf, 4, (Option.some FieldType.int), am_look tX0_partOf) := rfl
theorem zw_cs3 {own : String} {cc : ByteArray} {nL : Nat} {ret : Option FieldType} {nm : String} {pc i : Nat} (hdg : decode cc pc = .ok (.invokestatic i, 3)) (hl : Cond.methodLink own i yX0_partOf ∈ am_ws) : am_Snd am_P0 own cc nL ret nm pc (k_cs 3 4 4 (pc + 3)) := z_csE mp3 hdg mt3 hl
theorem mp4 : am_P0 4 = (yX0_joined, cX0_joined, 5, (Option.some FieldType.long), am_look tX0_joined) := rfl
theorem zw_cs4 {own : String} {cc : ByteArray} {nL : Nat} {ret : Option FieldType} {nm : String} {pc i : Nat} (hdg : decode cc pc = .ok (.invokestatic i, 3)) (hl : Cond.methodLink own i yX0_joined ∈ am_ws) : am_Snd am_P0 own cc nL ret nm pc (k_cs 4 3 5 (pc + 3)) := z_csE mp4 hdg mt4 hl
theorem mp6 : am_P0 6 = (yX1_clear, cX1_clear, 1, (Option.none : Option FieldType), am_look tX1_clear) := rfl
theorem zw_cv6 {own : String} {cc : ByteArray} {nL : Nat} {ret : Option FieldType} {nm : String} {pc i : Nat} (hdg : decode cc pc = .ok (.invokevirtual i, 3)) (hl : Cond.methodLink own i yX1_clear ∈ am_ws) : am_Snd am_P0 own cc nL ret nm pc (k_cv 6 1 0 1 (pc + 3)) := z_cvE mp6 hdg mt6 hl (ci := 1) rfl (by decide)
theorem mp7 : am_P0 7 = (yX1_put, cX1_put, 3, (Option.some FieldType.boolean), am_look tX1_put) := rfl
theorem zw_cv7 {own : String} {cc : ByteArray} {nL : Nat} {ret : Option FieldType} {nm : String} {pc i : Nat} (hdg : decode cc pc = .ok (.invokevirtual i, 3)) (hl : Cond.methodLink own i yX1_put ∈ am_ws) : am_Snd am_P0 own cc nL ret nm pc (k_cv 7 1 2 3 (pc + 3)) := z_cvE mp7 hdg mt7 hl (ci := 1) rfl (by decide)
theorem mp8 : am_P0 8 = (yX1_holds, cX1_holds, 5, (Option.some FieldType.boolean), am_look tX1_holds) := rfl
theorem zw_cv8 {own : String} {cc : ByteArray} {nL : Nat} {ret : Option FieldType} {nm : String} {pc i : Nat} (hdg : decode cc pc = .ok (.invokevirtual i, 3)) (hl : Cond.methodLink own i yX1_holds ∈ am_ws) : am_Snd am_P0 own cc nL ret nm pc (k_cv 8 1 1 5 (pc + 3)) := z_cvE mp8 hdg mt8 hl (ci := 1) rfl (by decide)
theorem mp10 : am_P0 10 = (yX2_open, cX2_open, 4, (Option.none : Option FieldType), am_look tX2_open) := rfl
theorem zw_cv10 {own : String} {cc : ByteArray} {nL : Nat} {ret : Option FieldType} {nm : String} {pc i : Nat} (hdg : decode cc pc = .ok (.invokevirtual i, 3)) (hl : Cond.methodLink own i yX2_open ∈ am_ws) : am_Snd am_P0 own cc nL ret nm pc (k_cv 10 2 3 4 (pc + 3)) := z_cvE mp10 hdg mt10 hl (ci := 2) rfl (by decide)
theorem mp11 : am_P0 11 = (yX2_readStatement, cX2_readStatement, 2, (Option.none : Option FieldType), am_look tX2_readStatement) := rfl
theorem zw_cv11 {own : String} {cc : ByteArray} {nL : Nat} {ret : Option FieldType} {nm : String} {pc i : Nat} (hdg : decode cc pc = .ok (.invokevirtual i, 3)) (hl : Cond.methodLink own i yX2_readStatement ∈ am_ws) : am_Snd am_P0 own cc nL ret nm pc (k_cv 11 2 1 2 (pc + 3)) := z_cvE mp11 hdg mt11 hl (ci := 2) rfl (by decide)
theorem mp12 : am_P0 12 = (yX2_readSize, cX2_readSize, 1, (Option.none : Option FieldType), am_look tX2_readSize) := rfl
theorem zw_cv12 {own : String} {cc : ByteArray} {nL : Nat} {ret : Option FieldType} {nm : String} {pc i : Nat} (hdg : decode cc pc = .ok (.invokevirtual i, 3)) (hl : Cond.methodLink own i yX2_readSize ∈ am_ws) : am_Snd am_P0 own cc nL ret nm pc (k_cv 12 2 0 1 (pc + 3)) := z_cvE mp12 hdg mt12 hl (ci := 2) rfl (by decide)
theorem mp13 : am_P0 13 = (yX2_beginStatement, cX2_beginStatement, 2, (Option.some FieldType.boolean), am_look tX2_beginStatement) := rfl
theorem zw_cv13 {own : String} {cc : ByteArray} {nL : Nat} {ret : Option FieldType} {nm : String} {pc i : Nat} (hdg : decode cc pc = .ok (.invokevirtual i, 3)) (hl : Cond.methodLink own i yX2_beginStatement ∈ am_ws) : am_Snd am_P0 own cc nL ret nm pc (k_cv 13 2 1 2 (pc + 3)) := z_cvE mp13 hdg mt13 hl (ci := 2) rfl (by decide)
theorem mp14 : am_P0 14 = (yX2_readRule, cX2_readRule, 5, (Option.none : Option FieldType), am_look tX2_readRule) := rfl
theorem zw_cv14 {own : String} {cc : ByteArray} {nL : Nat} {ret : Option FieldType} {nm : String} {pc i : Nat} (hdg : decode cc pc = .ok (.invokevirtual i, 3)) (hl : Cond.methodLink own i yX2_readRule ∈ am_ws) : am_Snd am_P0 own cc nL ret nm pc (k_cv 14 2 2 5 (pc + 3)) := z_cvE mp14 hdg mt14 hl (ci := 2) rfl (by decide)
theorem mp15 : am_P0 15 = (yX2_takeAfter, cX2_takeAfter, 4, (Option.some FieldType.int), am_look tX2_takeAfter) := rfl
theorem zw_cv15 {own : String} {cc : ByteArray} {nL : Nat} {ret : Option FieldType} {nm : String} {pc i : Nat} (hdg : decode cc pc = .ok (.invokevirtual i, 3)) (hl : Cond.methodLink own i yX2_takeAfter ∈ am_ws) : am_Snd am_P0 own cc nL ret nm pc (k_cv 15 2 3 4 (pc + 3)) := z_cvE mp15 hdg mt15 hl (ci := 2) rfl (by decide)
theorem mp16 : am_P0 16 = (yX2_readShip, cX2_readShip, 6, (Option.none : Option FieldType), am_look tX2_readShip) := rfl
theorem zw_cv16 {own : String} {cc : ByteArray} {nL : Nat} {ret : Option FieldType} {nm : String} {pc i : Nat} (hdg : decode cc pc = .ok (.invokevirtual i, 3)) (hl : Cond.methodLink own i yX2_readShip ∈ am_ws) : am_Snd am_P0 own cc nL ret nm pc (k_cv 16 2 0 6 (pc + 3)) := z_cvE mp16 hdg mt16 hl (ci := 2) rfl (by decide)
theorem mp17 : am_P0 17 = (yX2_takeShip, cX2_takeShip, 2, (Option.some FieldType.int), am_look tX2_takeShip) := rfl
theorem zw_cv17 {own : String} {cc : ByteArray} {nL : Nat} {ret : Option FieldType} {nm : String} {pc i : Nat} (hdg : decode cc pc = .ok (.invokevirtual i, 3)) (hl : Cond.methodLink own i yX2_takeShip ∈ am_ws) : am_Snd am_P0 own cc nL ret nm pc (k_cv 17 2 0 2 (pc + 3)) := z_cvE mp17 hdg mt17 hl (ci := 2) rfl (by decide)
theorem mp18 : am_P0 18 = (yX2_takePlace, cX2_takePlace, 3, (Option.some FieldType.int), am_look tX2_takePlace) := rfl
theorem zw_cv18 {own : String} {cc : ByteArray} {nL : Nat} {ret : Option FieldType} {nm : String} {pc i : Nat} (hdg : decode cc pc = .ok (.invokevirtual i, 3)) (hl : Cond.methodLink own i yX2_takePlace ∈ am_ws) : am_Snd am_P0 own cc nL ret nm pc (k_cv 18 2 0 3 (pc + 3)) := z_cvE mp18 hdg mt18 hl (ci := 2) rfl (by decide)
theorem mp19 : am_P0 19 = (yX2_readSaying, cX2_readSaying, 5, (Option.none : Option FieldType), am_look tX2_readSaying) := rfl
theorem zw_cv19 {own : String} {cc : ByteArray} {nL : Nat} {ret : Option FieldType} {nm : String} {pc i : Nat} (hdg : decode cc pc = .ok (.invokevirtual i, 3)) (hl : Cond.methodLink own i yX2_readSaying ∈ am_ws) : am_Snd am_P0 own cc nL ret nm pc (k_cv 19 2 0 5 (pc + 3)) := z_cvE mp19 hdg mt19 hl (ci := 2) rfl (by decide)
theorem mp20 : am_P0 20 = (yX2_readBook, cX2_readBook, 5, (Option.none : Option FieldType), am_look tX2_readBook) := rfl
theorem zw_cv20 {own : String} {cc : ByteArray} {nL : Nat} {ret : Option FieldType} {nm : String} {pc i : Nat} (hdg : decode cc pc = .ok (.invokevirtual i, 3)) (hl : Cond.methodLink own i yX2_readBook ∈ am_ws) : am_Snd am_P0 own cc nL ret nm pc (k_cv 20 2 0 5 (pc + 3)) := z_cvE mp20 hdg mt20 hl (ci := 2) rfl (by decide)
theorem mp21 : am_P0 21 = (yX2_readSighting, cX2_readSighting, 4, (Option.none : Option FieldType), am_look tX2_readSighting) := rfl
theorem zw_cv21 {own : String} {cc : ByteArray} {nL : Nat} {ret : Option FieldType} {nm : String} {pc i : Nat} (hdg : decode cc pc = .ok (.invokevirtual i, 3)) (hl : Cond.methodLink own i yX2_readSighting ∈ am_ws) : am_Snd am_P0 own cc nL ret nm pc (k_cv 21 2 0 4 (pc + 3)) := z_cvE mp21 hdg mt21 hl (ci := 2) rfl (by decide)
theorem mp22 : am_P0 22 = (yX2_readTest, cX2_readTest, 3, (Option.none : Option FieldType), am_look tX2_readTest) := rfl
theorem zw_cv22 {own : String} {cc : ByteArray} {nL : Nat} {ret : Option FieldType} {nm : String} {pc i : Nat} (hdg : decode cc pc = .ok (.invokevirtual i, 3)) (hl : Cond.methodLink own i yX2_readTest ∈ am_ws) : am_Snd am_P0 own cc nL ret nm pc (k_cv 22 2 1 3 (pc + 3)) := z_cvE mp22 hdg mt22 hl (ci := 2) rfl (by decide)
theorem mp23 : am_P0 23 = (yX2_readBoth, cX2_readBoth, 3, (Option.none : Option FieldType), am_look tX2_readBoth) := rfl
theorem zw_cv23 {own : String} {cc : ByteArray} {nL : Nat} {ret : Option FieldType} {nm : String} {pc i : Nat} (hdg : decode cc pc = .ok (.invokevirtual i, 3)) (hl : Cond.methodLink own i yX2_readBoth ∈ am_ws) : am_Snd am_P0 own cc nL ret nm pc (k_cv 23 2 1 3 (pc + 3)) := z_cvE mp23 hdg mt23 hl (ci := 2) rfl (by decide)
theorem mp24 : am_P0 24 = (yX2_readFact, cX2_readFact, 4, (Option.none : Option FieldType), am_look tX2_readFact) := rfl
theorem zw_cv24 {own : String} {cc : ByteArray} {nL : Nat} {ret : Option FieldType} {nm : String} {pc i : Nat} (hdg : decode cc pc = .ok (.invokevirtual i, 3)) (hl : Cond.methodLink own i yX2_readFact ∈ am_ws) : am_Snd am_P0 own cc nL ret nm pc (k_cv 24 2 1 4 (pc + 3)) := z_cvE mp24 hdg mt24 hl (ci := 2) rfl (by decide)
theorem mp25 : am_P0 25 = (yX2_takeComparison, cX2_takeComparison, 1, (Option.some FieldType.int), am_look tX2_takeComparison) := rfl
theorem zw_cv25 {own : String} {cc : ByteArray} {nL : Nat} {ret : Option FieldType} {nm : String} {pc i : Nat} (hdg : decode cc pc = .ok (.invokevirtual i, 3)) (hl : Cond.methodLink own i yX2_takeComparison ∈ am_ws) : am_Snd am_P0 own cc nL ret nm pc (k_cv 25 2 0 1 (pc + 3)) := z_cvE mp25 hdg mt25 hl (ci := 2) rfl (by decide)
theorem mp26 : am_P0 26 = (yX2_readSum, cX2_readSum, 4, (Option.none : Option FieldType), am_look tX2_readSum) := rfl
theorem zw_cv26 {own : String} {cc : ByteArray} {nL : Nat} {ret : Option FieldType} {nm : String} {pc i : Nat} (hdg : decode cc pc = .ok (.invokevirtual i, 3)) (hl : Cond.methodLink own i yX2_readSum ∈ am_ws) : am_Snd am_P0 own cc nL ret nm pc (k_cv 26 2 1 4 (pc + 3)) := z_cvE mp26 hdg mt26 hl (ci := 2) rfl (by decide)
theorem mp27 : am_P0 27 = (yX2_readProduct, cX2_readProduct, 4, (Option.none : Option FieldType), am_look tX2_readProduct) := rfl
theorem zw_cv27 {own : String} {cc : ByteArray} {nL : Nat} {ret : Option FieldType} {nm : String} {pc i : Nat} (hdg : decode cc pc = .ok (.invokevirtual i, 3)) (hl : Cond.methodLink own i yX2_readProduct ∈ am_ws) : am_Snd am_P0 own cc nL ret nm pc (k_cv 27 2 1 4 (pc + 3)) := z_cvE mp27 hdg mt27 hl (ci := 2) rfl (by decide)
theorem mp28 : am_P0 28 = (yX2_timesSign, cX2_timesSign, 1, (Option.some FieldType.int), am_look tX2_timesSign) := rfl
theorem zw_cv28 {own : String} {cc : ByteArray} {nL : Nat} {ret : Option FieldType} {nm : String} {pc i : Nat} (hdg : decode cc pc = .ok (.invokevirtual i, 3)) (hl : Cond.methodLink own i yX2_timesSign ∈ am_ws) : am_Snd am_P0 own cc nL ret nm pc (k_cv 28 2 0 1 (pc + 3)) := z_cvE mp28 hdg mt28 hl (ci := 2) rfl (by decide)
theorem mp29 : am_P0 29 = (yX2_readPart, cX2_readPart, 2, (Option.none : Option FieldType), am_look tX2_readPart) := rfl
theorem zw_cv29 {own : String} {cc : ByteArray} {nL : Nat} {ret : Option FieldType} {nm : String} {pc i : Nat} (hdg : decode cc pc = .ok (.invokevirtual i, 3)) (hl : Cond.methodLink own i yX2_readPart ∈ am_ws) : am_Snd am_P0 own cc nL ret nm pc (k_cv 29 2 1 2 (pc + 3)) := z_cvE mp29 hdg mt29 hl (ci := 2) rfl (by decide)
theorem mp30 : am_P0 30 = (yX2_readLeaf, cX2_readLeaf, 2, (Option.none : Option FieldType), am_look tX2_readLeaf) := rfl
theorem zw_cv30 {own : String} {cc : ByteArray} {nL : Nat} {ret : Option FieldType} {nm : String} {pc i : Nat} (hdg : decode cc pc = .ok (.invokevirtual i, 3)) (hl : Cond.methodLink own i yX2_readLeaf ∈ am_ws) : am_Snd am_P0 own cc nL ret nm pc (k_cv 30 2 1 2 (pc + 3)) := z_cvE mp30 hdg mt30 hl (ci := 2) rfl (by decide)
theorem mp31 : am_P0 31 = (yX2_readChoice, cX2_readChoice, 3, (Option.none : Option FieldType), am_look tX2_readChoice) := rfl
theorem zw_cv31 {own : String} {cc : ByteArray} {nL : Nat} {ret : Option FieldType} {nm : String} {pc i : Nat} (hdg : decode cc pc = .ok (.invokevirtual i, 3)) (hl : Cond.methodLink own i yX2_readChoice ∈ am_ws) : am_Snd am_P0 own cc nL ret nm pc (k_cv 31 2 2 3 (pc + 3)) := z_cvE mp31 hdg mt31 hl (ci := 2) rfl (by decide)
theorem mp32 : am_P0 32 = (yX2_takeOpening, cX2_takeOpening, 3, (Option.some FieldType.boolean), am_look tX2_takeOpening) := rfl
theorem zw_cv32 {own : String} {cc : ByteArray} {nL : Nat} {ret : Option FieldType} {nm : String} {pc i : Nat} (hdg : decode cc pc = .ok (.invokevirtual i, 3)) (hl : Cond.methodLink own i yX2_takeOpening ∈ am_ws) : am_Snd am_P0 own cc nL ret nm pc (k_cv 32 2 2 3 (pc + 3)) := z_cvE mp32 hdg mt32 hl (ci := 2) rfl (by decide)
theorem mp34 : am_P0 34 = (yX3_open, cX3_open, 3, (Option.none : Option FieldType), am_look tX3_open) := rfl
theorem zw_cv34 {own : String} {cc : ByteArray} {nL : Nat} {ret : Option FieldType} {nm : String} {pc i : Nat} (hdg : decode cc pc = .ok (.invokevirtual i, 3)) (hl : Cond.methodLink own i yX3_open ∈ am_ws) : am_Snd am_P0 own cc nL ret nm pc (k_cv 34 3 2 3 (pc + 3)) := z_cvE mp34 hdg mt34 hl (ci := 3) rfl (by decide)
theorem mp35 : am_P0 35 = (yX3_step, cX3_step, 3, (Option.none : Option FieldType), am_look tX3_step) := rfl
theorem zw_cv35 {own : String} {cc : ByteArray} {nL : Nat} {ret : Option FieldType} {nm : String} {pc i : Nat} (hdg : decode cc pc = .ok (.invokevirtual i, 3)) (hl : Cond.methodLink own i yX3_step ∈ am_ws) : am_Snd am_P0 own cc nL ret nm pc (k_cv 35 3 0 3 (pc + 3)) := z_cvE mp35 hdg mt35 hl (ci := 3) rfl (by decide)
theorem mp36 : am_P0 36 = (yX3_ownWord, cX3_ownWord, 3, (Option.some FieldType.int), am_look tX3_ownWord) := rfl
theorem zw_cv36 {own : String} {cc : ByteArray} {nL : Nat} {ret : Option FieldType} {nm : String} {pc i : Nat} (hdg : decode cc pc = .ok (.invokevirtual i, 3)) (hl : Cond.methodLink own i yX3_ownWord ∈ am_ws) : am_Snd am_P0 own cc nL ret nm pc (k_cv 36 3 1 3 (pc + 3)) := z_cvE mp36 hdg mt36 hl (ci := 3) rfl (by decide)
theorem mp37 : am_P0 37 = (yX3_kindOf, cX3_kindOf, 1, (Option.some FieldType.int), am_look tX3_kindOf) := rfl
theorem zw_cs37 {own : String} {cc : ByteArray} {nL : Nat} {ret : Option FieldType} {nm : String} {pc i : Nat} (hdg : decode cc pc = .ok (.invokestatic i, 3)) (hl : Cond.methodLink own i yX3_kindOf ∈ am_ws) : am_Snd am_P0 own cc nL ret nm pc (k_cs 37 1 1 (pc + 3)) := z_csE mp37 hdg mt37 hl
theorem mp38 : am_P0 38 = (yX3_refuseAt, cX3_refuseAt, 3, (Option.none : Option FieldType), am_look tX3_refuseAt) := rfl
theorem zw_cv38 {own : String} {cc : ByteArray} {nL : Nat} {ret : Option FieldType} {nm : String} {pc i : Nat} (hdg : decode cc pc = .ok (.invokevirtual i, 3)) (hl : Cond.methodLink own i yX3_refuseAt ∈ am_ws) : am_Snd am_P0 own cc nL ret nm pc (k_cv 38 3 2 3 (pc + 3)) := z_cvE mp38 hdg mt38 hl (ci := 3) rfl (by decide)
theorem mp39 : am_P0 39 = (yX3_refuse, cX3_refuse, 2, (Option.none : Option FieldType), am_look tX3_refuse) := rfl
theorem zw_cv39 {own : String} {cc : ByteArray} {nL : Nat} {ret : Option FieldType} {nm : String} {pc i : Nat} (hdg : decode cc pc = .ok (.invokevirtual i, 3)) (hl : Cond.methodLink own i yX3_refuse ∈ am_ws) : am_Snd am_P0 own cc nL ret nm pc (k_cv 39 3 1 2 (pc + 3)) := z_cvE mp39 hdg mt39 hl (ci := 3) rfl (by decide)
theorem mp40 : am_P0 40 = (yX3_isSign, cX3_isSign, 2, (Option.some FieldType.boolean), am_look tX3_isSign) := rfl
theorem zw_cv40 {own : String} {cc : ByteArray} {nL : Nat} {ret : Option FieldType} {nm : String} {pc i : Nat} (hdg : decode cc pc = .ok (.invokevirtual i, 3)) (hl : Cond.methodLink own i yX3_isSign ∈ am_ws) : am_Snd am_P0 own cc nL ret nm pc (k_cv 40 3 1 2 (pc + 3)) := z_cvE mp40 hdg mt40 hl (ci := 3) rfl (by decide)
theorem mp41 : am_P0 41 = (yX3_takeSign, cX3_takeSign, 2, (Option.none : Option FieldType), am_look tX3_takeSign) := rfl
theorem zw_cv41 {own : String} {cc : ByteArray} {nL : Nat} {ret : Option FieldType} {nm : String} {pc i : Nat} (hdg : decode cc pc = .ok (.invokevirtual i, 3)) (hl : Cond.methodLink own i yX3_takeSign ∈ am_ws) : am_Snd am_P0 own cc nL ret nm pc (k_cv 41 3 1 2 (pc + 3)) := z_cvE mp41 hdg mt41 hl (ci := 3) rfl (by decide)
theorem mp42 : am_P0 42 = (yX3_takeWord, cX3_takeWord, 2, (Option.none : Option FieldType), am_look tX3_takeWord) := rfl
theorem zw_cv42 {own : String} {cc : ByteArray} {nL : Nat} {ret : Option FieldType} {nm : String} {pc i : Nat} (hdg : decode cc pc = .ok (.invokevirtual i, 3)) (hl : Cond.methodLink own i yX3_takeWord ∈ am_ws) : am_Snd am_P0 own cc nL ret nm pc (k_cv 42 3 1 2 (pc + 3)) := z_cvE mp42 hdg mt42 hl (ci := 3) rfl (by decide)
theorem mp43 : am_P0 43 = (yX3_checkNumber, cX3_checkNumber, 3, (Option.some FieldType.boolean), am_look tX3_checkNumber) := rfl
theorem zw_cv43 {own : String} {cc : ByteArray} {nL : Nat} {ret : Option FieldType} {nm : String} {pc i : Nat} (hdg : decode cc pc = .ok (.invokevirtual i, 3)) (hl : Cond.methodLink own i yX3_checkNumber ∈ am_ws) : am_Snd am_P0 own cc nL ret nm pc (k_cv 43 3 2 3 (pc + 3)) := z_cvE mp43 hdg mt43 hl (ci := 3) rfl (by decide)
theorem mp44 : am_P0 44 = (yX3_takeNumber, cX3_takeNumber, 4, (Option.some FieldType.int), am_look tX3_takeNumber) := rfl
theorem zw_cv44 {own : String} {cc : ByteArray} {nL : Nat} {ret : Option FieldType} {nm : String} {pc i : Nat} (hdg : decode cc pc = .ok (.invokevirtual i, 3)) (hl : Cond.methodLink own i yX3_takeNumber ∈ am_ws) : am_Snd am_P0 own cc nL ret nm pc (k_cv 44 3 2 4 (pc + 3)) := z_cvE mp44 hdg mt44 hl (ci := 3) rfl (by decide)
theorem mp45 : am_P0 45 = (yX3_checkName, cX3_checkName, 1, (Option.some FieldType.boolean), am_look tX3_checkName) := rfl
theorem zw_cv45 {own : String} {cc : ByteArray} {nL : Nat} {ret : Option FieldType} {nm : String} {pc i : Nat} (hdg : decode cc pc = .ok (.invokevirtual i, 3)) (hl : Cond.methodLink own i yX3_checkName ∈ am_ws) : am_Snd am_P0 own cc nL ret nm pc (k_cv 45 3 0 1 (pc + 3)) := z_cvE mp45 hdg mt45 hl (ci := 3) rfl (by decide)
theorem mp47 : am_P0 47 = (yX4_isFull, cX4_isFull, 1, (Option.some FieldType.boolean), am_look tX4_isFull) := rfl
theorem zw_cv47 {own : String} {cc : ByteArray} {nL : Nat} {ret : Option FieldType} {nm : String} {pc i : Nat} (hdg : decode cc pc = .ok (.invokevirtual i, 3)) (hl : Cond.methodLink own i yX4_isFull ∈ am_ws) : am_Snd am_P0 own cc nL ret nm pc (k_cv 47 4 0 1 (pc + 3)) := z_cvE mp47 hdg mt47 hl (ci := 4) rfl (by decide)
theorem mp48 : am_P0 48 = (yX4_append, cX4_append, 4, (Option.none : Option FieldType), am_look tX4_append) := rfl
theorem zw_cv48 {own : String} {cc : ByteArray} {nL : Nat} {ret : Option FieldType} {nm : String} {pc i : Nat} (hdg : decode cc pc = .ok (.invokevirtual i, 3)) (hl : Cond.methodLink own i yX4_append ∈ am_ws) : am_Snd am_P0 own cc nL ret nm pc (k_cv 48 4 3 4 (pc + 3)) := z_cvE mp48 hdg mt48 hl (ci := 4) rfl (by decide)
theorem mp49 : am_P0 49 = (yX4_firstHolding, cX4_firstHolding, 6, (Option.some FieldType.int), am_look tX4_firstHolding) := rfl
theorem zw_cv49 {own : String} {cc : ByteArray} {nL : Nat} {ret : Option FieldType} {nm : String} {pc i : Nat} (hdg : decode cc pc = .ok (.invokevirtual i, 3)) (hl : Cond.methodLink own i yX4_firstHolding ∈ am_ws) : am_Snd am_P0 own cc nL ret nm pc (k_cv 49 4 4 6 (pc + 3)) := z_cvE mp49 hdg mt49 hl (ci := 4) rfl (by decide)
theorem mp50 : am_P0 50 = (yX4_firstSum, cX4_firstSum, 6, (Option.some FieldType.int), am_look tX4_firstSum) := rfl
theorem zw_cv50 {own : String} {cc : ByteArray} {nL : Nat} {ret : Option FieldType} {nm : String} {pc i : Nat} (hdg : decode cc pc = .ok (.invokevirtual i, 3)) (hl : Cond.methodLink own i yX4_firstSum ∈ am_ws) : am_Snd am_P0 own cc nL ret nm pc (k_cv 50 4 3 6 (pc + 3)) := z_cvE mp50 hdg mt50 hl (ci := 4) rfl (by decide)
theorem mp52 : am_P0 52 = (yX5_clear, cX5_clear, 1, (Option.none : Option FieldType), am_look tX5_clear) := rfl
theorem zw_cv52 {own : String} {cc : ByteArray} {nL : Nat} {ret : Option FieldType} {nm : String} {pc i : Nat} (hdg : decode cc pc = .ok (.invokevirtual i, 3)) (hl : Cond.methodLink own i yX5_clear ∈ am_ws) : am_Snd am_P0 own cc nL ret nm pc (k_cv 52 5 0 1 (pc + 3)) := z_cvE mp52 hdg mt52 hl (ci := 5) rfl (by decide)
theorem mp53 : am_P0 53 = (yX5_measure, cX5_measure, 4, (Option.none : Option FieldType), am_look tX5_measure) := rfl
theorem zw_cv53 {own : String} {cc : ByteArray} {nL : Nat} {ret : Option FieldType} {nm : String} {pc i : Nat} (hdg : decode cc pc = .ok (.invokevirtual i, 3)) (hl : Cond.methodLink own i yX5_measure ∈ am_ws) : am_Snd am_P0 own cc nL ret nm pc (k_cv 53 5 0 4 (pc + 3)) := z_cvE mp53 hdg mt53 hl (ci := 5) rfl (by decide)
theorem mp54 : am_P0 54 = (yX5_costAt, cX5_costAt, 2, (Option.some FieldType.int), am_look tX5_costAt) := rfl
theorem zw_cv54 {own : String} {cc : ByteArray} {nL : Nat} {ret : Option FieldType} {nm : String} {pc i : Nat} (hdg : decode cc pc = .ok (.invokevirtual i, 3)) (hl : Cond.methodLink own i yX5_costAt ∈ am_ws) : am_Snd am_P0 own cc nL ret nm pc (k_cv 54 5 1 2 (pc + 3)) := z_cvE mp54 hdg mt54 hl (ci := 5) rfl (by decide)
theorem mp55 : am_P0 55 = (yX5_isQuiet, cX5_isQuiet, 6, (Option.some FieldType.boolean), am_look tX5_isQuiet) := rfl
theorem zw_cv55 {own : String} {cc : ByteArray} {nL : Nat} {ret : Option FieldType} {nm : String} {pc i : Nat} (hdg : decode cc pc = .ok (.invokevirtual i, 3)) (hl : Cond.methodLink own i yX5_isQuiet ∈ am_ws) : am_Snd am_P0 own cc nL ret nm pc (k_cv 55 5 2 6 (pc + 3)) := z_cvE mp55 hdg mt55 hl (ci := 5) rfl (by decide)
theorem mp56 : am_P0 56 = (yX5_placeAt, cX5_placeAt, 3, (Option.some FieldType.int), am_look tX5_placeAt) := rfl
theorem zw_cv56 {own : String} {cc : ByteArray} {nL : Nat} {ret : Option FieldType} {nm : String} {pc i : Nat} (hdg : decode cc pc = .ok (.invokevirtual i, 3)) (hl : Cond.methodLink own i yX5_placeAt ∈ am_ws) : am_Snd am_P0 own cc nL ret nm pc (k_cv 56 5 2 3 (pc + 3)) := z_cvE mp56 hdg mt56 hl (ci := 5) rfl (by decide)
theorem mp57 : am_P0 57 = (yX5_placeOf, cX5_placeOf, 2, (Option.some FieldType.int), am_look tX5_placeOf) := rfl
theorem zw_cv57 {own : String} {cc : ByteArray} {nL : Nat} {ret : Option FieldType} {nm : String} {pc i : Nat} (hdg : decode cc pc = .ok (.invokevirtual i, 3)) (hl : Cond.methodLink own i yX5_placeOf ∈ am_ws) : am_Snd am_P0 own cc nL ret nm pc (k_cv 57 5 1 2 (pc + 3)) := z_cvE mp57 hdg mt57 hl (ci := 5) rfl (by decide)
theorem mp58 : am_P0 58 = (yX5_numberOf, cX5_numberOf, 2, (Option.some FieldType.int), am_look tX5_numberOf) := rfl
theorem zw_cv58 {own : String} {cc : ByteArray} {nL : Nat} {ret : Option FieldType} {nm : String} {pc i : Nat} (hdg : decode cc pc = .ok (.invokevirtual i, 3)) (hl : Cond.methodLink own i yX5_numberOf ∈ am_ws) : am_Snd am_P0 own cc nL ret nm pc (k_cv 58 5 1 2 (pc + 3)) := z_cvE mp58 hdg mt58 hl (ci := 5) rfl (by decide)
theorem mp59 : am_P0 59 = (yX5_countSayings, cX5_countSayings, 3, (Option.some FieldType.int), am_look tX5_countSayings) := rfl
theorem zw_cv59 {own : String} {cc : ByteArray} {nL : Nat} {ret : Option FieldType} {nm : String} {pc i : Nat} (hdg : decode cc pc = .ok (.invokevirtual i, 3)) (hl : Cond.methodLink own i yX5_countSayings ∈ am_ws) : am_Snd am_P0 own cc nL ret nm pc (k_cv 59 5 0 3 (pc + 3)) := z_cvE mp59 hdg mt59 hl (ci := 5) rfl (by decide)
theorem mp60 : am_P0 60 = (yX5_countSayers, cX5_countSayers, 3, (Option.some FieldType.int), am_look tX5_countSayers) := rfl
theorem zw_cv60 {own : String} {cc : ByteArray} {nL : Nat} {ret : Option FieldType} {nm : String} {pc i : Nat} (hdg : decode cc pc = .ok (.invokevirtual i, 3)) (hl : Cond.methodLink own i yX5_countSayers ∈ am_ws) : am_Snd am_P0 own cc nL ret nm pc (k_cv 60 5 0 3 (pc + 3)) := z_cvE mp60 hdg mt60 hl (ci := 5) rfl (by decide)
theorem mp61 : am_P0 61 = (yX5_countBooks, cX5_countBooks, 3, (Option.some FieldType.int), am_look tX5_countBooks) := rfl
theorem zw_cv61 {own : String} {cc : ByteArray} {nL : Nat} {ret : Option FieldType} {nm : String} {pc i : Nat} (hdg : decode cc pc = .ok (.invokevirtual i, 3)) (hl : Cond.methodLink own i yX5_countBooks ∈ am_ws) : am_Snd am_P0 own cc nL ret nm pc (k_cv 61 5 0 3 (pc + 3)) := z_cvE mp61 hdg mt61 hl (ci := 5) rfl (by decide)
theorem mp62 : am_P0 62 = (yX5_shipNamed, cX5_shipNamed, 3, (Option.some FieldType.int), am_look tX5_shipNamed) := rfl
theorem zw_cv62 {own : String} {cc : ByteArray} {nL : Nat} {ret : Option FieldType} {nm : String} {pc i : Nat} (hdg : decode cc pc = .ok (.invokevirtual i, 3)) (hl : Cond.methodLink own i yX5_shipNamed ∈ am_ws) : am_Snd am_P0 own cc nL ret nm pc (k_cv 62 5 1 3 (pc + 3)) := z_cvE mp62 hdg mt62 hl (ci := 5) rfl (by decide)
theorem mp63 : am_P0 63 = (yX5_launch, cX5_launch, 7, (Option.none : Option FieldType), am_look tX5_launch) := rfl
theorem zw_cv63 {own : String} {cc : ByteArray} {nL : Nat} {ret : Option FieldType} {nm : String} {pc i : Nat} (hdg : decode cc pc = .ok (.invokevirtual i, 3)) (hl : Cond.methodLink own i yX5_launch ∈ am_ws) : am_Snd am_P0 own cc nL ret nm pc (k_cv 63 5 5 7 (pc + 3)) := z_cvE mp63 hdg mt63 hl (ci := 5) rfl (by decide)
theorem mp65 : am_P0 65 = (yX6_hasSaid, cX6_hasSaid, 3, (Option.some FieldType.boolean), am_look tX6_hasSaid) := rfl
theorem zw_cv65 {own : String} {cc : ByteArray} {nL : Nat} {ret : Option FieldType} {nm : String} {pc i : Nat} (hdg : decode cc pc = .ok (.invokevirtual i, 3)) (hl : Cond.methodLink own i yX6_hasSaid ∈ am_ws) : am_Snd am_P0 own cc nL ret nm pc (k_cv 65 6 1 3 (pc + 3)) := z_cvE mp65 hdg mt65 hl (ci := 6) rfl (by decide)
theorem mp66 : am_P0 66 = (yX6_insert, cX6_insert, 5, (Option.some FieldType.int), am_look tX6_insert) := rfl
theorem zw_cv66 {own : String} {cc : ByteArray} {nL : Nat} {ret : Option FieldType} {nm : String} {pc i : Nat} (hdg : decode cc pc = .ok (.invokevirtual i, 3)) (hl : Cond.methodLink own i yX6_insert ∈ am_ws) : am_Snd am_P0 own cc nL ret nm pc (k_cv 66 6 3 5 (pc + 3)) := z_cvE mp66 hdg mt66 hl (ci := 6) rfl (by decide)
theorem mp67 : am_P0 67 = (yX6_remove, cX6_remove, 3, (Option.none : Option FieldType), am_look tX6_remove) := rfl
theorem zw_cv67 {own : String} {cc : ByteArray} {nL : Nat} {ret : Option FieldType} {nm : String} {pc i : Nat} (hdg : decode cc pc = .ok (.invokevirtual i, 3)) (hl : Cond.methodLink own i yX6_remove ∈ am_ws) : am_Snd am_P0 own cc nL ret nm pc (k_cv 67 6 1 3 (pc + 3)) := z_cvE mp67 hdg mt67 hl (ci := 6) rfl (by decide)
theorem mp68 : am_P0 68 = (yX6_enterBook, cX6_enterBook, 4, (Option.none : Option FieldType), am_look tX6_enterBook) := rfl
theorem zw_cv68 {own : String} {cc : ByteArray} {nL : Nat} {ret : Option FieldType} {nm : String} {pc i : Nat} (hdg : decode cc pc = .ok (.invokevirtual i, 3)) (hl : Cond.methodLink own i yX6_enterBook ∈ am_ws) : am_Snd am_P0 own cc nL ret nm pc (k_cv 68 6 3 4 (pc + 3)) := z_cvE mp68 hdg mt68 hl (ci := 6) rfl (by decide)
theorem mp69 : am_P0 69 = (yX6_hoursToBook, cX6_hoursToBook, 3, (Option.some FieldType.int), am_look tX6_hoursToBook) := rfl
theorem zw_cv69 {own : String} {cc : ByteArray} {nL : Nat} {ret : Option FieldType} {nm : String} {pc i : Nat} (hdg : decode cc pc = .ok (.invokevirtual i, 3)) (hl : Cond.methodLink own i yX6_hoursToBook ∈ am_ws) : am_Snd am_P0 own cc nL ret nm pc (k_cv 69 6 2 3 (pc + 3)) := z_cvE mp69 hdg mt69 hl (ci := 6) rfl (by decide)
theorem mp71 : am_P0 71 = (yX7_append, cX7_append, 4, (Option.none : Option FieldType), am_look tX7_append) := rfl
theorem zw_cv71 {own : String} {cc : ByteArray} {nL : Nat} {ret : Option FieldType} {nm : String} {pc i : Nat} (hdg : decode cc pc = .ok (.invokevirtual i, 3)) (hl : Cond.methodLink own i yX7_append ∈ am_ws) : am_Snd am_P0 own cc nL ret nm pc (k_cv 71 7 3 4 (pc + 3)) := z_cvE mp71 hdg mt71 hl (ci := 7) rfl (by decide)
theorem mp73 : am_P0 73 = (yX8_begin, cX8_begin, 3, (Option.none : Option FieldType), am_look tX8_begin) := rfl
theorem zw_cv73 {own : String} {cc : ByteArray} {nL : Nat} {ret : Option FieldType} {nm : String} {pc i : Nat} (hdg : decode cc pc = .ok (.invokevirtual i, 3)) (hl : Cond.methodLink own i yX8_begin ∈ am_ws) : am_Snd am_P0 own cc nL ret nm pc (k_cv 73 8 2 3 (pc + 3)) := z_cvE mp73 hdg mt73 hl (ci := 8) rfl (by decide)
theorem mp74 : am_P0 74 = (yX8_forget, cX8_forget, 1, (Option.none : Option FieldType), am_look tX8_forget) := rfl
theorem zw_cv74 {own : String} {cc : ByteArray} {nL : Nat} {ret : Option FieldType} {nm : String} {pc i : Nat} (hdg : decode cc pc = .ok (.invokevirtual i, 3)) (hl : Cond.methodLink own i yX8_forget ∈ am_ws) : am_Snd am_P0 own cc nL ret nm pc (k_cv 74 8 0 1 (pc + 3)) := z_cvE mp74 hdg mt74 hl (ci := 8) rfl (by decide)
theorem mp75 : am_P0 75 = (yX8_isSound, cX8_isSound, 3, (Option.some FieldType.boolean), am_look tX8_isSound) := rfl
theorem zw_cv75 {own : String} {cc : ByteArray} {nL : Nat} {ret : Option FieldType} {nm : String} {pc i : Nat} (hdg : decode cc pc = .ok (.invokevirtual i, 3)) (hl : Cond.methodLink own i yX8_isSound ∈ am_ws) : am_Snd am_P0 own cc nL ret nm pc (k_cv 75 8 2 3 (pc + 3)) := z_cvE mp75 hdg mt75 hl (ci := 8) rfl (by decide)
theorem mp76 : am_P0 76 = (yX8_goTogether, cX8_goTogether, 4, (Option.some FieldType.boolean), am_look tX8_goTogether) := rfl
theorem zw_cv76 {own : String} {cc : ByteArray} {nL : Nat} {ret : Option FieldType} {nm : String} {pc i : Nat} (hdg : decode cc pc = .ok (.invokevirtual i, 3)) (hl : Cond.methodLink own i yX8_goTogether ∈ am_ws) : am_Snd am_P0 own cc nL ret nm pc (k_cv 76 8 2 4 (pc + 3)) := z_cvE mp76 hdg mt76 hl (ci := 8) rfl (by decide)
theorem mp77 : am_P0 77 = (yX8_layBooks, cX8_layBooks, 3, (Option.some FieldType.boolean), am_look tX8_layBooks) := rfl
theorem zw_cv77 {own : String} {cc : ByteArray} {nL : Nat} {ret : Option FieldType} {nm : String} {pc i : Nat} (hdg : decode cc pc = .ok (.invokevirtual i, 3)) (hl : Cond.methodLink own i yX8_layBooks ∈ am_ws) : am_Snd am_P0 own cc nL ret nm pc (k_cv 77 8 0 3 (pc + 3)) := z_cvE mp77 hdg mt77 hl (ci := 8) rfl (by decide)
theorem mp78 : am_P0 78 = (yX8_laySayings, cX8_laySayings, 5, (Option.some FieldType.boolean), am_look tX8_laySayings) := rfl
theorem zw_cv78 {own : String} {cc : ByteArray} {nL : Nat} {ret : Option FieldType} {nm : String} {pc i : Nat} (hdg : decode cc pc = .ok (.invokevirtual i, 3)) (hl : Cond.methodLink own i yX8_laySayings ∈ am_ws) : am_Snd am_P0 own cc nL ret nm pc (k_cv 78 8 2 5 (pc + 3)) := z_cvE mp78 hdg mt78 hl (ci := 8) rfl (by decide)
theorem mp79 : am_P0 79 = (yX8_fits, cX8_fits, 4, (Option.some FieldType.boolean), am_look tX8_fits) := rfl
theorem zw_cv79 {own : String} {cc : ByteArray} {nL : Nat} {ret : Option FieldType} {nm : String} {pc i : Nat} (hdg : decode cc pc = .ok (.invokevirtual i, 3)) (hl : Cond.methodLink own i yX8_fits ∈ am_ws) : am_Snd am_P0 own cc nL ret nm pc (k_cv 79 8 3 4 (pc + 3)) := z_cvE mp79 hdg mt79 hl (ci := 8) rfl (by decide)
theorem mp80 : am_P0 80 = (yX8_firstBar, cX8_firstBar, 3, (Option.some FieldType.int), am_look tX8_firstBar) := rfl
theorem zw_cv80 {own : String} {cc : ByteArray} {nL : Nat} {ret : Option FieldType} {nm : String} {pc i : Nat} (hdg : decode cc pc = .ok (.invokevirtual i, 3)) (hl : Cond.methodLink own i yX8_firstBar ∈ am_ws) : am_Snd am_P0 own cc nL ret nm pc (k_cv 80 8 0 3 (pc + 3)) := z_cvE mp80 hdg mt80 hl (ci := 8) rfl (by decide)
theorem mp81 : am_P0 81 = (yX8_findClock, cX8_findClock, 2, (Option.some FieldType.int), am_look tX8_findClock) := rfl
theorem zw_cv81 {own : String} {cc : ByteArray} {nL : Nat} {ret : Option FieldType} {nm : String} {pc i : Nat} (hdg : decode cc pc = .ok (.invokevirtual i, 3)) (hl : Cond.methodLink own i yX8_findClock ∈ am_ws) : am_Snd am_P0 own cc nL ret nm pc (k_cv 81 8 0 2 (pc + 3)) := z_cvE mp81 hdg mt81 hl (ci := 8) rfl (by decide)
theorem mp82 : am_P0 82 = (yX8_staysWith, cX8_staysWith, 3, (Option.some FieldType.boolean), am_look tX8_staysWith) := rfl
theorem zw_cv82 {own : String} {cc : ByteArray} {nL : Nat} {ret : Option FieldType} {nm : String} {pc i : Nat} (hdg : decode cc pc = .ok (.invokevirtual i, 3)) (hl : Cond.methodLink own i yX8_staysWith ∈ am_ws) : am_Snd am_P0 own cc nL ret nm pc (k_cv 82 8 1 3 (pc + 3)) := z_cvE mp82 hdg mt82 hl (ci := 8) rfl (by decide)
theorem mp83 : am_P0 83 = (yX8_settle, cX8_settle, 1, (Option.none : Option FieldType), am_look tX8_settle) := rfl
theorem zw_cv83 {own : String} {cc : ByteArray} {nL : Nat} {ret : Option FieldType} {nm : String} {pc i : Nat} (hdg : decode cc pc = .ok (.invokevirtual i, 3)) (hl : Cond.methodLink own i yX8_settle ∈ am_ws) : am_Snd am_P0 own cc nL ret nm pc (k_cv 83 8 0 1 (pc + 3)) := z_cvE mp83 hdg mt83 hl (ci := 8) rfl (by decide)
theorem mp84 : am_P0 84 = (yX8_markAlone, cX8_markAlone, 5, (Option.none : Option FieldType), am_look tX8_markAlone) := rfl
theorem zw_cv84 {own : String} {cc : ByteArray} {nL : Nat} {ret : Option FieldType} {nm : String} {pc i : Nat} (hdg : decode cc pc = .ok (.invokevirtual i, 3)) (hl : Cond.methodLink own i yX8_markAlone ∈ am_ws) : am_Snd am_P0 own cc nL ret nm pc (k_cv 84 8 0 5 (pc + 3)) := z_cvE mp84 hdg mt84 hl (ci := 8) rfl (by decide)
theorem mp85 : am_P0 85 = (yX8_countChains, cX8_countChains, 6, (Option.some FieldType.int), am_look tX8_countChains) := rfl
theorem zw_cv85 {own : String} {cc : ByteArray} {nL : Nat} {ret : Option FieldType} {nm : String} {pc i : Nat} (hdg : decode cc pc = .ok (.invokevirtual i, 3)) (hl : Cond.methodLink own i yX8_countChains ∈ am_ws) : am_Snd am_P0 own cc nL ret nm pc (k_cv 85 8 0 6 (pc + 3)) := z_cvE mp85 hdg mt85 hl (ci := 8) rfl (by decide)
theorem mp86 : am_P0 86 = (yX8_keep, cX8_keep, 4, (Option.none : Option FieldType), am_look tX8_keep) := rfl
theorem zw_cv86 {own : String} {cc : ByteArray} {nL : Nat} {ret : Option FieldType} {nm : String} {pc i : Nat} (hdg : decode cc pc = .ok (.invokevirtual i, 3)) (hl : Cond.methodLink own i yX8_keep ∈ am_ws) : am_Snd am_P0 own cc nL ret nm pc (k_cv 86 8 1 4 (pc + 3)) := z_cvE mp86 hdg mt86 hl (ci := 8) rfl (by decide)
theorem mp87 : am_P0 87 = (yX8_findMay, cX8_findMay, 5, (Option.none : Option FieldType), am_look tX8_findMay) := rfl
theorem zw_cv87 {own : String} {cc : ByteArray} {nL : Nat} {ret : Option FieldType} {nm : String} {pc i : Nat} (hdg : decode cc pc = .ok (.invokevirtual i, 3)) (hl : Cond.methodLink own i yX8_findMay ∈ am_ws) : am_Snd am_P0 own cc nL ret nm pc (k_cv 87 8 0 5 (pc + 3)) := z_cvE mp87 hdg mt87 hl (ci := 8) rfl (by decide)
theorem mp88 : am_P0 88 = (yX8_mayBe, cX8_mayBe, 3, (Option.some FieldType.boolean), am_look tX8_mayBe) := rfl
theorem zw_cv88 {own : String} {cc : ByteArray} {nL : Nat} {ret : Option FieldType} {nm : String} {pc i : Nat} (hdg : decode cc pc = .ok (.invokevirtual i, 3)) (hl : Cond.methodLink own i yX8_mayBe ∈ am_ws) : am_Snd am_P0 own cc nL ret nm pc (k_cv 88 8 2 3 (pc + 3)) := z_cvE mp88 hdg mt88 hl (ci := 8) rfl (by decide)
theorem mp89 : am_P0 89 = (yX8_countMay, cX8_countMay, 2, (Option.some FieldType.int), am_look tX8_countMay) := rfl
theorem zw_cv89 {own : String} {cc : ByteArray} {nL : Nat} {ret : Option FieldType} {nm : String} {pc i : Nat} (hdg : decode cc pc = .ok (.invokevirtual i, 3)) (hl : Cond.methodLink own i yX8_countMay ∈ am_ws) : am_Snd am_P0 own cc nL ret nm pc (k_cv 89 8 1 2 (pc + 3)) := z_cvE mp89 hdg mt89 hl (ci := 8) rfl (by decide)
theorem mp90 : am_P0 90 = (yX8_countShared, cX8_countShared, 5, (Option.some FieldType.int), am_look tX8_countShared) := rfl
theorem zw_cv90 {own : String} {cc : ByteArray} {nL : Nat} {ret : Option FieldType} {nm : String} {pc i : Nat} (hdg : decode cc pc = .ok (.invokevirtual i, 3)) (hl : Cond.methodLink own i yX8_countShared ∈ am_ws) : am_Snd am_P0 own cc nL ret nm pc (k_cv 90 8 2 5 (pc + 3)) := z_cvE mp90 hdg mt90 hl (ci := 8) rfl (by decide)
theorem mp91 : am_P0 91 = (yX8_clashAlone, cX8_clashAlone, 2, (Option.some FieldType.int), am_look tX8_clashAlone) := rfl
theorem zw_cv91 {own : String} {cc : ByteArray} {nL : Nat} {ret : Option FieldType} {nm : String} {pc i : Nat} (hdg : decode cc pc = .ok (.invokevirtual i, 3)) (hl : Cond.methodLink own i yX8_clashAlone ∈ am_ws) : am_Snd am_P0 own cc nL ret nm pc (k_cv 91 8 0 2 (pc + 3)) := z_cvE mp91 hdg mt91 hl (ci := 8) rfl (by decide)
theorem mp92 : am_P0 92 = (yX8_clashOfTwo, cX8_clashOfTwo, 5, (Option.some FieldType.int), am_look tX8_clashOfTwo) := rfl
theorem zw_cv92 {own : String} {cc : ByteArray} {nL : Nat} {ret : Option FieldType} {nm : String} {pc i : Nat} (hdg : decode cc pc = .ok (.invokevirtual i, 3)) (hl : Cond.methodLink own i yX8_clashOfTwo ∈ am_ws) : am_Snd am_P0 own cc nL ret nm pc (k_cv 92 8 1 5 (pc + 3)) := z_cvE mp92 hdg mt92 hl (ci := 8) rfl (by decide)
theorem mp93 : am_P0 93 = (yX8_ownKinds, cX8_ownKinds, 2, (Option.some FieldType.int), am_look tX8_ownKinds) := rfl
theorem zw_cv93 {own : String} {cc : ByteArray} {nL : Nat} {ret : Option FieldType} {nm : String} {pc i : Nat} (hdg : decode cc pc = .ok (.invokevirtual i, 3)) (hl : Cond.methodLink own i yX8_ownKinds ∈ am_ws) : am_Snd am_P0 own cc nL ret nm pc (k_cv 93 8 0 2 (pc + 3)) := z_cvE mp93 hdg mt93 hl (ci := 8) rfl (by decide)
theorem mp94 : am_P0 94 = (yX8_canPart, cX8_canPart, 3, (Option.some FieldType.boolean), am_look tX8_canPart) := rfl
theorem zw_cv94 {own : String} {cc : ByteArray} {nL : Nat} {ret : Option FieldType} {nm : String} {pc i : Nat} (hdg : decode cc pc = .ok (.invokevirtual i, 3)) (hl : Cond.methodLink own i yX8_canPart ∈ am_ws) : am_Snd am_P0 own cc nL ret nm pc (k_cv 94 8 0 3 (pc + 3)) := z_cvE mp94 hdg mt94 hl (ci := 8) rfl (by decide)
theorem mp95 : am_P0 95 = (yX8_pushApart, cX8_pushApart, 8, (Option.some FieldType.int), am_look tX8_pushApart) := rfl
theorem zw_cv95 {own : String} {cc : ByteArray} {nL : Nat} {ret : Option FieldType} {nm : String} {pc i : Nat} (hdg : decode cc pc = .ok (.invokevirtual i, 3)) (hl : Cond.methodLink own i yX8_pushApart ∈ am_ws) : am_Snd am_P0 own cc nL ret nm pc (k_cv 95 8 2 8 (pc + 3)) := z_cvE mp95 hdg mt95 hl (ci := 8) rfl (by decide)
theorem mp96 : am_P0 96 = (yX8_isMarked, cX8_isMarked, 3, (Option.some FieldType.boolean), am_look tX8_isMarked) := rfl
theorem zw_cv96 {own : String} {cc : ByteArray} {nL : Nat} {ret : Option FieldType} {nm : String} {pc i : Nat} (hdg : decode cc pc = .ok (.invokevirtual i, 3)) (hl : Cond.methodLink own i yX8_isMarked ∈ am_ws) : am_Snd am_P0 own cc nL ret nm pc (k_cv 96 8 1 3 (pc + 3)) := z_cvE mp96 hdg mt96 hl (ci := 8) rfl (by decide)
theorem mp97 : am_P0 97 = (yX8_hoursBetweenEnds, cX8_hoursBetweenEnds, 1, (Option.some FieldType.int), am_look tX8_hoursBetweenEnds) := rfl
theorem zw_cv97 {own : String} {cc : ByteArray} {nL : Nat} {ret : Option FieldType} {nm : String} {pc i : Nat} (hdg : decode cc pc = .ok (.invokevirtual i, 3)) (hl : Cond.methodLink own i yX8_hoursBetweenEnds ∈ am_ws) : am_Snd am_P0 own cc nL ret nm pc (k_cv 97 8 0 1 (pc + 3)) := z_cvE mp97 hdg mt97 hl (ci := 8) rfl (by decide)
theorem mp98 : am_P0 98 = (yX8_countGaps, cX8_countGaps, 3, (Option.none : Option FieldType), am_look tX8_countGaps) := rfl
theorem zw_cv98 {own : String} {cc : ByteArray} {nL : Nat} {ret : Option FieldType} {nm : String} {pc i : Nat} (hdg : decode cc pc = .ok (.invokevirtual i, 3)) (hl : Cond.methodLink own i yX8_countGaps ∈ am_ws) : am_Snd am_P0 own cc nL ret nm pc (k_cv 98 8 0 3 (pc + 3)) := z_cvE mp98 hdg mt98 hl (ci := 8) rfl (by decide)
theorem mp99 : am_P0 99 = (yX8_isHonest, cX8_isHonest, 6, (Option.some FieldType.boolean), am_look tX8_isHonest) := rfl
theorem zw_cv99 {own : String} {cc : ByteArray} {nL : Nat} {ret : Option FieldType} {nm : String} {pc i : Nat} (hdg : decode cc pc = .ok (.invokevirtual i, 3)) (hl : Cond.methodLink own i yX8_isHonest ∈ am_ws) : am_Snd am_P0 own cc nL ret nm pc (k_cv 99 8 1 6 (pc + 3)) := z_cvE mp99 hdg mt99 hl (ci := 8) rfl (by decide)
theorem mp100 : am_P0 100 = (yX8_hoursOfChange, cX8_hoursOfChange, 7, (Option.some FieldType.long), am_look tX8_hoursOfChange) := rfl
theorem zw_cv100 {own : String} {cc : ByteArray} {nL : Nat} {ret : Option FieldType} {nm : String} {pc i : Nat} (hdg : decode cc pc = .ok (.invokevirtual i, 3)) (hl : Cond.methodLink own i yX8_hoursOfChange ∈ am_ws) : am_Snd am_P0 own cc nL ret nm pc (k_cv 100 8 1 7 (pc + 3)) := z_cvE mp100 hdg mt100 hl (ci := 8) rfl (by decide)
theorem mp102 : am_P0 102 = (yX9_begin, cX9_begin, 4, (Option.none : Option FieldType), am_look tX9_begin) := rfl
theorem zw_cv102 {own : String} {cc : ByteArray} {nL : Nat} {ret : Option FieldType} {nm : String} {pc i : Nat} (hdg : decode cc pc = .ok (.invokevirtual i, 3)) (hl : Cond.methodLink own i yX9_begin ∈ am_ws) : am_Snd am_P0 own cc nL ret nm pc (k_cv 102 9 2 4 (pc + 3)) := z_cvE mp102 hdg mt102 hl (ci := 9) rfl (by decide)
theorem mp103 : am_P0 103 = (yX9_isWater, cX9_isWater, 2, (Option.some FieldType.boolean), am_look tX9_isWater) := rfl
theorem zw_cv103 {own : String} {cc : ByteArray} {nL : Nat} {ret : Option FieldType} {nm : String} {pc i : Nat} (hdg : decode cc pc = .ok (.invokevirtual i, 3)) (hl : Cond.methodLink own i yX9_isWater ∈ am_ws) : am_Snd am_P0 own cc nL ret nm pc (k_cv 103 9 1 2 (pc + 3)) := z_cvE mp103 hdg mt103 hl (ci := 9) rfl (by decide)
theorem mp104 : am_P0 104 = (yX9_isWithin, cX9_isWithin, 4, (Option.some FieldType.boolean), am_look tX9_isWithin) := rfl
theorem zw_cv104 {own : String} {cc : ByteArray} {nL : Nat} {ret : Option FieldType} {nm : String} {pc i : Nat} (hdg : decode cc pc = .ok (.invokevirtual i, 3)) (hl : Cond.methodLink own i yX9_isWithin ∈ am_ws) : am_Snd am_P0 own cc nL ret nm pc (k_cv 104 9 3 4 (pc + 3)) := z_cvE mp104 hdg mt104 hl (ci := 9) rfl (by decide)
theorem mp105 : am_P0 105 = (yX9_ringsOf, cX9_ringsOf, 6, (Option.some (FieldType.array FieldType.long)), am_look tX9_ringsOf) := rfl
theorem zw_cv105 {own : String} {cc : ByteArray} {nL : Nat} {ret : Option FieldType} {nm : String} {pc i : Nat} (hdg : decode cc pc = .ok (.invokevirtual i, 3)) (hl : Cond.methodLink own i yX9_ringsOf ∈ am_ws) : am_Snd am_P0 own cc nL ret nm pc (k_cv 105 9 1 6 (pc + 3)) := z_cvE mp105 hdg mt105 hl (ci := 9) rfl (by decide)
theorem mp106 : am_P0 106 = (yX9_widen, cX9_widen, 17, (Option.some FieldType.boolean), am_look tX9_widen) := rfl
theorem zw_cv106 {own : String} {cc : ByteArray} {nL : Nat} {ret : Option FieldType} {nm : String} {pc i : Nat} (hdg : decode cc pc = .ok (.invokevirtual i, 3)) (hl : Cond.methodLink own i yX9_widen ∈ am_ws) : am_Snd am_P0 own cc nL ret nm pc (k_cv 106 9 2 17 (pc + 3)) := z_cvE mp106 hdg mt106 hl (ci := 9) rfl (by decide)
theorem mp107 : am_P0 107 = (yX9_hoursBetween, cX9_hoursBetween, 4, (Option.some FieldType.int), am_look tX9_hoursBetween) := rfl
theorem zw_cv107 {own : String} {cc : ByteArray} {nL : Nat} {ret : Option FieldType} {nm : String} {pc i : Nat} (hdg : decode cc pc = .ok (.invokevirtual i, 3)) (hl : Cond.methodLink own i yX9_hoursBetween ∈ am_ws) : am_Snd am_P0 own cc nL ret nm pc (k_cv 107 9 2 4 (pc + 3)) := z_cvE mp107 hdg mt107 hl (ci := 9) rfl (by decide)
theorem mp109 : am_P0 109 = (yX10_feed, cX10_feed, 6, (Option.some FieldType.int), am_look tX10_feed) := rfl
theorem zw_cv109 {own : String} {cc : ByteArray} {nL : Nat} {ret : Option FieldType} {nm : String} {pc i : Nat} (hdg : decode cc pc = .ok (.invokevirtual i, 3)) (hl : Cond.methodLink own i yX10_feed ∈ am_ws) : am_Snd am_P0 own cc nL ret nm pc (k_cv 109 10 5 6 (pc + 3)) := z_cvE mp109 hdg mt109 hl (ci := 10) rfl (by decide)
theorem mp110 : am_P0 110 = (yX10_end, cX10_end, 2, (Option.some FieldType.boolean), am_look tX10_end) := rfl
theorem zw_cv110 {own : String} {cc : ByteArray} {nL : Nat} {ret : Option FieldType} {nm : String} {pc i : Nat} (hdg : decode cc pc = .ok (.invokevirtual i, 3)) (hl : Cond.methodLink own i yX10_end ∈ am_ws) : am_Snd am_P0 own cc nL ret nm pc (k_cv 110 10 1 2 (pc + 3)) := z_cvE mp110 hdg mt110 hl (ci := 10) rfl (by decide)
theorem mp111 : am_P0 111 = (yX10_sea, cX10_sea, 4, (Option.some FieldType.int), am_look tX10_sea) := rfl
theorem zw_cv111 {own : String} {cc : ByteArray} {nL : Nat} {ret : Option FieldType} {nm : String} {pc i : Nat} (hdg : decode cc pc = .ok (.invokevirtual i, 3)) (hl : Cond.methodLink own i yX10_sea ∈ am_ws) : am_Snd am_P0 own cc nL ret nm pc (k_cv 111 10 0 4 (pc + 3)) := z_cvE mp111 hdg mt111 hl (ci := 10) rfl (by decide)
theorem mp112 : am_P0 112 = (yX10_fault, cX10_fault, 2, (Option.some FieldType.int), am_look tX10_fault) := rfl
theorem zw_cv112 {own : String} {cc : ByteArray} {nL : Nat} {ret : Option FieldType} {nm : String} {pc i : Nat} (hdg : decode cc pc = .ok (.invokevirtual i, 3)) (hl : Cond.methodLink own i yX10_fault ∈ am_ws) : am_Snd am_P0 own cc nL ret nm pc (k_cv 112 10 1 2 (pc + 3)) := z_cvE mp112 hdg mt112 hl (ci := 10) rfl (by decide)
theorem mp113 : am_P0 113 = (yX10_has, cX10_has, 2, (Option.some FieldType.int), am_look tX10_has) := rfl
theorem zw_cv113 {own : String} {cc : ByteArray} {nL : Nat} {ret : Option FieldType} {nm : String} {pc i : Nat} (hdg : decode cc pc = .ok (.invokevirtual i, 3)) (hl : Cond.methodLink own i yX10_has ∈ am_ws) : am_Snd am_P0 own cc nL ret nm pc (k_cv 113 10 1 2 (pc + 3)) := z_cvE mp113 hdg mt113 hl (ci := 10) rfl (by decide)
theorem mp114 : am_P0 114 = (yX10_letter, cX10_letter, 4, (Option.some FieldType.int), am_look tX10_letter) := rfl
theorem zw_cv114 {own : String} {cc : ByteArray} {nL : Nat} {ret : Option FieldType} {nm : String} {pc i : Nat} (hdg : decode cc pc = .ok (.invokevirtual i, 3)) (hl : Cond.methodLink own i yX10_letter ∈ am_ws) : am_Snd am_P0 own cc nL ret nm pc (k_cv 114 10 2 4 (pc + 3)) := z_cvE mp114 hdg mt114 hl (ci := 10) rfl (by decide)
theorem mp115 : am_P0 115 = (yX10_ship, cX10_ship, 4, (Option.some FieldType.int), am_look tX10_ship) := rfl
theorem zw_cv115 {own : String} {cc : ByteArray} {nL : Nat} {ret : Option FieldType} {nm : String} {pc i : Nat} (hdg : decode cc pc = .ok (.invokevirtual i, 3)) (hl : Cond.methodLink own i yX10_ship ∈ am_ws) : am_Snd am_P0 own cc nL ret nm pc (k_cv 115 10 2 4 (pc + 3)) := z_cvE mp115 hdg mt115 hl (ci := 10) rfl (by decide)
theorem mp116 : am_P0 116 = (yX10_saying, cX10_saying, 5, (Option.some FieldType.int), am_look tX10_saying) := rfl
theorem zw_cv116 {own : String} {cc : ByteArray} {nL : Nat} {ret : Option FieldType} {nm : String} {pc i : Nat} (hdg : decode cc pc = .ok (.invokevirtual i, 3)) (hl : Cond.methodLink own i yX10_saying ∈ am_ws) : am_Snd am_P0 own cc nL ret nm pc (k_cv 116 10 3 5 (pc + 3)) := z_cvE mp116 hdg mt116 hl (ci := 10) rfl (by decide)
theorem mp117 : am_P0 117 = (yX10_cell, cX10_cell, 6, (Option.some FieldType.int), am_look tX10_cell) := rfl
theorem zw_cv117 {own : String} {cc : ByteArray} {nL : Nat} {ret : Option FieldType} {nm : String} {pc i : Nat} (hdg : decode cc pc = .ok (.invokevirtual i, 3)) (hl : Cond.methodLink own i yX10_cell ∈ am_ws) : am_Snd am_P0 own cc nL ret nm pc (k_cv 117 10 4 6 (pc + 3)) := z_cvE mp117 hdg mt117 hl (ci := 10) rfl (by decide)
theorem mp118 : am_P0 118 = (yX10_far, cX10_far, 8, (Option.some FieldType.int), am_look tX10_far) := rfl
theorem zw_cv118 {own : String} {cc : ByteArray} {nL : Nat} {ret : Option FieldType} {nm : String} {pc i : Nat} (hdg : decode cc pc = .ok (.invokevirtual i, 3)) (hl : Cond.methodLink own i yX10_far ∈ am_ws) : am_Snd am_P0 own cc nL ret nm pc (k_cv 118 10 5 8 (pc + 3)) := z_cvE mp118 hdg mt118 hl (ci := 10) rfl (by decide)
theorem mp119 : am_P0 119 = (yX10_can, cX10_can, 4, (Option.some FieldType.int), am_look tX10_can) := rfl
theorem zw_cv119 {own : String} {cc : ByteArray} {nL : Nat} {ret : Option FieldType} {nm : String} {pc i : Nat} (hdg : decode cc pc = .ok (.invokevirtual i, 3)) (hl : Cond.methodLink own i yX10_can ∈ am_ws) : am_Snd am_P0 own cc nL ret nm pc (k_cv 119 10 3 4 (pc + 3)) := z_cvE mp119 hdg mt119 hl (ci := 10) rfl (by decide)
theorem mp120 : am_P0 120 = (yX10_reach, cX10_reach, 7, (Option.some FieldType.int), am_look tX10_reach) := rfl
theorem zw_cv120 {own : String} {cc : ByteArray} {nL : Nat} {ret : Option FieldType} {nm : String} {pc i : Nat} (hdg : decode cc pc = .ok (.invokevirtual i, 3)) (hl : Cond.methodLink own i yX10_reach ∈ am_ws) : am_Snd am_P0 own cc nL ret nm pc (k_cv 120 10 3 7 (pc + 3)) := z_cvE mp120 hdg mt120 hl (ci := 10) rfl (by decide)
theorem mp121 : am_P0 121 = (yX10_may, cX10_may, 6, (Option.some FieldType.int), am_look tX10_may) := rfl
theorem zw_cv121 {own : String} {cc : ByteArray} {nL : Nat} {ret : Option FieldType} {nm : String} {pc i : Nat} (hdg : decode cc pc = .ok (.invokevirtual i, 3)) (hl : Cond.methodLink own i yX10_may ∈ am_ws) : am_Snd am_P0 own cc nL ret nm pc (k_cv 121 10 4 6 (pc + 3)) := z_cvE mp121 hdg mt121 hl (ci := 10) rfl (by decide)
theorem mp122 : am_P0 122 = (yX10_judge, cX10_judge, 3, (Option.some FieldType.int), am_look tX10_judge) := rfl
theorem zw_cv122 {own : String} {cc : ByteArray} {nL : Nat} {ret : Option FieldType} {nm : String} {pc i : Nat} (hdg : decode cc pc = .ok (.invokevirtual i, 3)) (hl : Cond.methodLink own i yX10_judge ∈ am_ws) : am_Snd am_P0 own cc nL ret nm pc (k_cv 122 10 2 3 (pc + 3)) := z_cvE mp122 hdg mt122 hl (ci := 10) rfl (by decide)
theorem mp123 : am_P0 123 = (yX10_tale, cX10_tale, 6, (Option.some FieldType.int), am_look tX10_tale) := rfl
theorem zw_cv123 {own : String} {cc : ByteArray} {nL : Nat} {ret : Option FieldType} {nm : String} {pc i : Nat} (hdg : decode cc pc = .ok (.invokevirtual i, 3)) (hl : Cond.methodLink own i yX10_tale ∈ am_ws) : am_Snd am_P0 own cc nL ret nm pc (k_cv 123 10 2 6 (pc + 3)) := z_cvE mp123 hdg mt123 hl (ci := 10) rfl (by decide)
theorem mp124 : am_P0 124 = (yX10_bars, cX10_bars, 2, (Option.some FieldType.int), am_look tX10_bars) := rfl
theorem zw_cv124 {own : String} {cc : ByteArray} {nL : Nat} {ret : Option FieldType} {nm : String} {pc i : Nat} (hdg : decode cc pc = .ok (.invokevirtual i, 3)) (hl : Cond.methodLink own i yX10_bars ∈ am_ws) : am_Snd am_P0 own cc nL ret nm pc (k_cv 124 10 1 2 (pc + 3)) := z_cvE mp124 hdg mt124 hl (ci := 10) rfl (by decide)
theorem mp125 : am_P0 125 = (yX10_clash, cX10_clash, 7, (Option.some FieldType.int), am_look tX10_clash) := rfl
theorem zw_cv125 {own : String} {cc : ByteArray} {nL : Nat} {ret : Option FieldType} {nm : String} {pc i : Nat} (hdg : decode cc pc = .ok (.invokevirtual i, 3)) (hl : Cond.methodLink own i yX10_clash ∈ am_ws) : am_Snd am_P0 own cc nL ret nm pc (k_cv 125 10 2 7 (pc + 3)) := z_cvE mp125 hdg mt125 hl (ci := 10) rfl (by decide)
theorem mp126 : am_P0 126 = (yX10_who, cX10_who, 2, (Option.some FieldType.int), am_look tX10_who) := rfl
theorem zw_cv126 {own : String} {cc : ByteArray} {nL : Nat} {ret : Option FieldType} {nm : String} {pc i : Nat} (hdg : decode cc pc = .ok (.invokevirtual i, 3)) (hl : Cond.methodLink own i yX10_who ∈ am_ws) : am_Snd am_P0 own cc nL ret nm pc (k_cv 126 10 1 2 (pc + 3)) := z_cvE mp126 hdg mt126 hl (ci := 10) rfl (by decide)
theorem mp127 : am_P0 127 = (yX10_swap, cX10_swap, 5, (Option.some FieldType.int), am_look tX10_swap) := rfl
theorem zw_cv127 {own : String} {cc : ByteArray} {nL : Nat} {ret : Option FieldType} {nm : String} {pc i : Nat} (hdg : decode cc pc = .ok (.invokevirtual i, 3)) (hl : Cond.methodLink own i yX10_swap ∈ am_ws) : am_Snd am_P0 own cc nL ret nm pc (k_cv 127 10 2 5 (pc + 3)) := z_cvE mp127 hdg mt127 hl (ci := 10) rfl (by decide)
theorem mp128 : am_P0 128 = (yX10_kinds, cX10_kinds, 4, (Option.some FieldType.int), am_look tX10_kinds) := rfl
theorem zw_cv128 {own : String} {cc : ByteArray} {nL : Nat} {ret : Option FieldType} {nm : String} {pc i : Nat} (hdg : decode cc pc = .ok (.invokevirtual i, 3)) (hl : Cond.methodLink own i yX10_kinds ∈ am_ws) : am_Snd am_P0 own cc nL ret nm pc (k_cv 128 10 1 4 (pc + 3)) := z_cvE mp128 hdg mt128 hl (ci := 10) rfl (by decide)
theorem mp129 : am_P0 129 = (yX10_lies, cX10_lies, 3, (Option.some FieldType.int), am_look tX10_lies) := rfl
theorem zw_cv129 {own : String} {cc : ByteArray} {nL : Nat} {ret : Option FieldType} {nm : String} {pc i : Nat} (hdg : decode cc pc = .ok (.invokevirtual i, 3)) (hl : Cond.methodLink own i yX10_lies ∈ am_ws) : am_Snd am_P0 own cc nL ret nm pc (k_cv 129 10 0 3 (pc + 3)) := z_cvE mp129 hdg mt129 hl (ci := 10) rfl (by decide)
theorem mp130 : am_P0 130 = (yX10_met, cX10_met, 13, (Option.some FieldType.int), am_look tX10_met) := rfl
theorem zw_cv130 {own : String} {cc : ByteArray} {nL : Nat} {ret : Option FieldType} {nm : String} {pc i : Nat} (hdg : decode cc pc = .ok (.invokevirtual i, 3)) (hl : Cond.methodLink own i yX10_met ∈ am_ws) : am_Snd am_P0 own cc nL ret nm pc (k_cv 130 10 3 13 (pc + 3)) := z_cvE mp130 hdg mt130 hl (ci := 10) rfl (by decide)
theorem mp131 : am_P0 131 = (yX10_sighting, cX10_sighting, 3, (Option.some FieldType.int), am_look tX10_sighting) := rfl
theorem zw_cv131 {own : String} {cc : ByteArray} {nL : Nat} {ret : Option FieldType} {nm : String} {pc i : Nat} (hdg : decode cc pc = .ok (.invokevirtual i, 3)) (hl : Cond.methodLink own i yX10_sighting ∈ am_ws) : am_Snd am_P0 own cc nL ret nm pc (k_cv 131 10 2 3 (pc + 3)) := z_cvE mp131 hdg mt131 hl (ci := 10) rfl (by decide)
theorem mp132 : am_P0 132 = (yX10_strange, cX10_strange, 3, (Option.some FieldType.int), am_look tX10_strange) := rfl
theorem zw_cv132 {own : String} {cc : ByteArray} {nL : Nat} {ret : Option FieldType} {nm : String} {pc i : Nat} (hdg : decode cc pc = .ok (.invokevirtual i, 3)) (hl : Cond.methodLink own i yX10_strange ∈ am_ws) : am_Snd am_P0 own cc nL ret nm pc (k_cv 132 10 0 3 (pc + 3)) := z_cvE mp132 hdg mt132 hl (ci := 10) rfl (by decide)
theorem mp133 : am_P0 133 = (yX10_doubted, cX10_doubted, 4, (Option.some FieldType.int), am_look tX10_doubted) := rfl
theorem zw_cv133 {own : String} {cc : ByteArray} {nL : Nat} {ret : Option FieldType} {nm : String} {pc i : Nat} (hdg : decode cc pc = .ok (.invokevirtual i, 3)) (hl : Cond.methodLink own i yX10_doubted ∈ am_ws) : am_Snd am_P0 own cc nL ret nm pc (k_cv 133 10 0 4 (pc + 3)) := z_cvE mp133 hdg mt133 hl (ci := 10) rfl (by decide)
theorem mp134 : am_P0 134 = (yX10_gaps, cX10_gaps, 4, (Option.some FieldType.int), am_look tX10_gaps) := rfl
theorem zw_cv134 {own : String} {cc : ByteArray} {nL : Nat} {ret : Option FieldType} {nm : String} {pc i : Nat} (hdg : decode cc pc = .ok (.invokevirtual i, 3)) (hl : Cond.methodLink own i yX10_gaps ∈ am_ws) : am_Snd am_P0 own cc nL ret nm pc (k_cv 134 10 2 4 (pc + 3)) := z_cvE mp134 hdg mt134 hl (ci := 10) rfl (by decide)
theorem mp135 : am_P0 135 = (yX10_chance, cX10_chance, 2, (Option.some FieldType.long), am_look tX10_chance) := rfl
theorem zw_cv135 {own : String} {cc : ByteArray} {nL : Nat} {ret : Option FieldType} {nm : String} {pc i : Nat} (hdg : decode cc pc = .ok (.invokevirtual i, 3)) (hl : Cond.methodLink own i yX10_chance ∈ am_ws) : am_Snd am_P0 own cc nL ret nm pc (k_cv 135 10 1 2 (pc + 3)) := z_cvE mp135 hdg mt135 hl (ci := 10) rfl (by decide)
theorem mp136 : am_P0 136 = (yX10_beyond, cX10_beyond, 5, (Option.some FieldType.int), am_look tX10_beyond) := rfl
theorem zw_cv136 {own : String} {cc : ByteArray} {nL : Nat} {ret : Option FieldType} {nm : String} {pc i : Nat} (hdg : decode cc pc = .ok (.invokevirtual i, 3)) (hl : Cond.methodLink own i yX10_beyond ∈ am_ws) : am_Snd am_P0 own cc nL ret nm pc (k_cv 136 10 0 5 (pc + 3)) := z_cvE mp136 hdg mt136 hl (ci := 10) rfl (by decide)
theorem mp137 : am_P0 137 = (yX10_settles, cX10_settles, 8, (Option.some FieldType.int), am_look tX10_settles) := rfl
theorem zw_cv137 {own : String} {cc : ByteArray} {nL : Nat} {ret : Option FieldType} {nm : String} {pc i : Nat} (hdg : decode cc pc = .ok (.invokevirtual i, 3)) (hl : Cond.methodLink own i yX10_settles ∈ am_ws) : am_Snd am_P0 own cc nL ret nm pc (k_cv 137 10 3 8 (pc + 3)) := z_cvE mp137 hdg mt137 hl (ci := 10) rfl (by decide)
theorem mp138 : am_P0 138 = (yX10_next, cX10_next, 2, (Option.some FieldType.int), am_look tX10_next) := rfl
theorem zw_cv138 {own : String} {cc : ByteArray} {nL : Nat} {ret : Option FieldType} {nm : String} {pc i : Nat} (hdg : decode cc pc = .ok (.invokevirtual i, 3)) (hl : Cond.methodLink own i yX10_next ∈ am_ws) : am_Snd am_P0 own cc nL ret nm pc (k_cv 138 10 1 2 (pc + 3)) := z_cvE mp138 hdg mt138 hl (ci := 10) rfl (by decide)
theorem mp139 : am_P0 139 = (yX10_off, cX10_off, 2, (Option.some FieldType.int), am_look tX10_off) := rfl
theorem zw_cv139 {own : String} {cc : ByteArray} {nL : Nat} {ret : Option FieldType} {nm : String} {pc i : Nat} (hdg : decode cc pc = .ok (.invokevirtual i, 3)) (hl : Cond.methodLink own i yX10_off ∈ am_ws) : am_Snd am_P0 own cc nL ret nm pc (k_cv 139 10 1 2 (pc + 3)) := z_cvE mp139 hdg mt139 hl (ci := 10) rfl (by decide)
theorem mp140 : am_P0 140 = (yX10_whose, cX10_whose, 4, (Option.some FieldType.int), am_look tX10_whose) := rfl
theorem zw_cv140 {own : String} {cc : ByteArray} {nL : Nat} {ret : Option FieldType} {nm : String} {pc i : Nat} (hdg : decode cc pc = .ok (.invokevirtual i, 3)) (hl : Cond.methodLink own i yX10_whose ∈ am_ws) : am_Snd am_P0 own cc nL ret nm pc (k_cv 140 10 0 4 (pc + 3)) := z_cvE mp140 hdg mt140 hl (ci := 10) rfl (by decide)
theorem mp141 : am_P0 141 = (yX10_add, cX10_add, 8, (Option.some FieldType.int), am_look tX10_add) := rfl
theorem zw_cv141 {own : String} {cc : ByteArray} {nL : Nat} {ret : Option FieldType} {nm : String} {pc i : Nat} (hdg : decode cc pc = .ok (.invokevirtual i, 3)) (hl : Cond.methodLink own i yX10_add ∈ am_ws) : am_Snd am_P0 own cc nL ret nm pc (k_cv 141 10 5 8 (pc + 3)) := z_cvE mp141 hdg mt141 hl (ci := 10) rfl (by decide)
theorem mp142 : am_P0 142 = (yX10_drop, cX10_drop, 3, (Option.some FieldType.int), am_look tX10_drop) := rfl
theorem zw_cv142 {own : String} {cc : ByteArray} {nL : Nat} {ret : Option FieldType} {nm : String} {pc i : Nat} (hdg : decode cc pc = .ok (.invokevirtual i, 3)) (hl : Cond.methodLink own i yX10_drop ∈ am_ws) : am_Snd am_P0 own cc nL ret nm pc (k_cv 142 10 2 3 (pc + 3)) := z_cvE mp142 hdg mt142 hl (ci := 10) rfl (by decide)
theorem mp143 : am_P0 143 = (yX10_spot, cX10_spot, 6, (Option.some FieldType.int), am_look tX10_spot) := rfl
theorem zw_cv143 {own : String} {cc : ByteArray} {nL : Nat} {ret : Option FieldType} {nm : String} {pc i : Nat} (hdg : decode cc pc = .ok (.invokevirtual i, 3)) (hl : Cond.methodLink own i yX10_spot ∈ am_ws) : am_Snd am_P0 own cc nL ret nm pc (k_cv 143 10 4 6 (pc + 3)) := z_cvE mp143 hdg mt143 hl (ci := 10) rfl (by decide)
theorem mp144 : am_P0 144 = (yX10_image, cX10_image, 4, (Option.some FieldType.int), am_look tX10_image) := rfl
theorem zw_cv144 {own : String} {cc : ByteArray} {nL : Nat} {ret : Option FieldType} {nm : String} {pc i : Nat} (hdg : decode cc pc = .ok (.invokevirtual i, 3)) (hl : Cond.methodLink own i yX10_image ∈ am_ws) : am_Snd am_P0 own cc nL ret nm pc (k_cv 144 10 0 4 (pc + 3)) := z_cvE mp144 hdg mt144 hl (ci := 10) rfl (by decide)
theorem mp145 : am_P0 145 = (yX10_octet, cX10_octet, 2, (Option.some FieldType.int), am_look tX10_octet) := rfl
theorem zw_cv145 {own : String} {cc : ByteArray} {nL : Nat} {ret : Option FieldType} {nm : String} {pc i : Nat} (hdg : decode cc pc = .ok (.invokevirtual i, 3)) (hl : Cond.methodLink own i yX10_octet ∈ am_ws) : am_Snd am_P0 own cc nL ret nm pc (k_cv 145 10 1 2 (pc + 3)) := z_cvE mp145 hdg mt145 hl (ci := 10) rfl (by decide)
theorem mp146 : am_P0 146 = (yX10_on, cX10_on, 3, (Option.some FieldType.boolean), am_look tX10_on) := rfl
theorem zw_cv146 {own : String} {cc : ByteArray} {nL : Nat} {ret : Option FieldType} {nm : String} {pc i : Nat} (hdg : decode cc pc = .ok (.invokevirtual i, 3)) (hl : Cond.methodLink own i yX10_on ∈ am_ws) : am_Snd am_P0 own cc nL ret nm pc (k_cv 146 10 0 3 (pc + 3)) := z_cvE mp146 hdg mt146 hl (ci := 10) rfl (by decide)
theorem mp147 : am_P0 147 = (yX10_status, cX10_status, 2, (Option.some FieldType.int), am_look tX10_status) := rfl
theorem zw_cv147 {own : String} {cc : ByteArray} {nL : Nat} {ret : Option FieldType} {nm : String} {pc i : Nat} (hdg : decode cc pc = .ok (.invokevirtual i, 3)) (hl : Cond.methodLink own i yX10_status ∈ am_ws) : am_Snd am_P0 own cc nL ret nm pc (k_cv 147 10 1 2 (pc + 3)) := z_cvE mp147 hdg mt147 hl (ci := 10) rfl (by decide)
theorem mp148 : am_P0 148 = (yX10_bit, cX10_bit, 1, (Option.some FieldType.int), am_look tX10_bit) := rfl
theorem zw_cs148 {own : String} {cc : ByteArray} {nL : Nat} {ret : Option FieldType} {nm : String} {pc i : Nat} (hdg : decode cc pc = .ok (.invokestatic i, 3)) (hl : Cond.methodLink own i yX10_bit ∈ am_ws) : am_Snd am_P0 own cc nL ret nm pc (k_cs 148 1 1 (pc + 3)) := z_csE mp148 hdg mt148 hl
theorem mp149 : am_P0 149 = (yX10_isHour, cX10_isHour, 1, (Option.some FieldType.boolean), am_look tX10_isHour) := rfl
theorem zw_cs149 {own : String} {cc : ByteArray} {nL : Nat} {ret : Option FieldType} {nm : String} {pc i : Nat} (hdg : decode cc pc = .ok (.invokestatic i, 3)) (hl : Cond.methodLink own i yX10_isHour ∈ am_ws) : am_Snd am_P0 own cc nL ret nm pc (k_cs 149 1 1 (pc + 3)) := z_csE mp149 hdg mt149 hl
theorem mp150 : am_P0 150 = (yX10_isShip, cX10_isShip, 2, (Option.some FieldType.boolean), am_look tX10_isShip) := rfl
theorem zw_cv150 {own : String} {cc : ByteArray} {nL : Nat} {ret : Option FieldType} {nm : String} {pc i : Nat} (hdg : decode cc pc = .ok (.invokevirtual i, 3)) (hl : Cond.methodLink own i yX10_isShip ∈ am_ws) : am_Snd am_P0 own cc nL ret nm pc (k_cv 150 10 1 2 (pc + 3)) := z_cvE mp150 hdg mt150 hl (ci := 10) rfl (by decide)
theorem mp151 : am_P0 151 = (yX10_isSaying, cX10_isSaying, 3, (Option.some FieldType.boolean), am_look tX10_isSaying) := rfl
theorem zw_cv151 {own : String} {cc : ByteArray} {nL : Nat} {ret : Option FieldType} {nm : String} {pc i : Nat} (hdg : decode cc pc = .ok (.invokevirtual i, 3)) (hl : Cond.methodLink own i yX10_isSaying ∈ am_ws) : am_Snd am_P0 own cc nL ret nm pc (k_cv 151 10 2 3 (pc + 3)) := z_cvE mp151 hdg mt151 hl (ci := 10) rfl (by decide)
theorem mp152 : am_P0 152 = (yX10_putFour, cX10_putFour, 3, (Option.none : Option FieldType), am_look tX10_putFour) := rfl
theorem zw_cv152 {own : String} {cc : ByteArray} {nL : Nat} {ret : Option FieldType} {nm : String} {pc i : Nat} (hdg : decode cc pc = .ok (.invokevirtual i, 3)) (hl : Cond.methodLink own i yX10_putFour ∈ am_ws) : am_Snd am_P0 own cc nL ret nm pc (k_cv 152 10 1 3 (pc + 3)) := z_cvE mp152 hdg mt152 hl (ci := 10) rfl (by decide)
theorem mp153 : am_P0 153 = (yX10_forget, cX10_forget, 3, (Option.none : Option FieldType), am_look tX10_forget) := rfl
theorem zw_cv153 {own : String} {cc : ByteArray} {nL : Nat} {ret : Option FieldType} {nm : String} {pc i : Nat} (hdg : decode cc pc = .ok (.invokevirtual i, 3)) (hl : Cond.methodLink own i yX10_forget ∈ am_ws) : am_Snd am_P0 own cc nL ret nm pc (k_cv 153 10 1 3 (pc + 3)) := z_cvE mp153 hdg mt153 hl (ci := 10) rfl (by decide)
theorem mp154 : am_P0 154 = (yX10_settled, cX10_settled, 2, (Option.some (FieldType.object "ToldTracks$Track")), am_look tX10_settled) := rfl
theorem zw_cv154 {own : String} {cc : ByteArray} {nL : Nat} {ret : Option FieldType} {nm : String} {pc i : Nat} (hdg : decode cc pc = .ok (.invokevirtual i, 3)) (hl : Cond.methodLink own i yX10_settled ∈ am_ws) : am_Snd am_P0 own cc nL ret nm pc (k_cv 154 10 1 2 (pc + 3)) := z_cvE mp154 hdg mt154 hl (ci := 10) rfl (by decide)
theorem mp155 : am_P0 155 = (yX10_sayersOf, cX10_sayersOf, 5, (Option.some FieldType.int), am_look tX10_sayersOf) := rfl
theorem zw_cv155 {own : String} {cc : ByteArray} {nL : Nat} {ret : Option FieldType} {nm : String} {pc i : Nat} (hdg : decode cc pc = .ok (.invokevirtual i, 3)) (hl : Cond.methodLink own i yX10_sayersOf ∈ am_ws) : am_Snd am_P0 own cc nL ret nm pc (k_cv 155 10 1 5 (pc + 3)) := z_cvE mp155 hdg mt155 hl (ci := 10) rfl (by decide)
theorem mp156 : am_P0 156 = (yX10_kindsOf, cX10_kindsOf, 3, (Option.some FieldType.int), am_look tX10_kindsOf) := rfl
theorem zw_cv156 {own : String} {cc : ByteArray} {nL : Nat} {ret : Option FieldType} {nm : String} {pc i : Nat} (hdg : decode cc pc = .ok (.invokevirtual i, 3)) (hl : Cond.methodLink own i yX10_kindsOf ∈ am_ws) : am_Snd am_P0 own cc nL ret nm pc (k_cv 156 10 1 3 (pc + 3)) := z_cvE mp156 hdg mt156 hl (ci := 10) rfl (by decide)
theorem mp157 : am_P0 157 = (yX10_plainestOf, cX10_plainestOf, 2, (Option.some FieldType.int), am_look tX10_plainestOf) := rfl
theorem zw_cs157 {own : String} {cc : ByteArray} {nL : Nat} {ret : Option FieldType} {nm : String} {pc i : Nat} (hdg : decode cc pc = .ok (.invokestatic i, 3)) (hl : Cond.methodLink own i yX10_plainestOf ∈ am_ws) : am_Snd am_P0 own cc nL ret nm pc (k_cs 157 1 2 (pc + 3)) := z_csE mp157 hdg mt157 hl
theorem mp158 : am_P0 158 = (yX10_explainersOf, cX10_explainersOf, 5, (Option.some FieldType.int), am_look tX10_explainersOf) := rfl
theorem zw_cv158 {own : String} {cc : ByteArray} {nL : Nat} {ret : Option FieldType} {nm : String} {pc i : Nat} (hdg : decode cc pc = .ok (.invokevirtual i, 3)) (hl : Cond.methodLink own i yX10_explainersOf ∈ am_ws) : am_Snd am_P0 own cc nL ret nm pc (k_cv 158 10 1 5 (pc + 3)) := z_cvE mp158 hdg mt158 hl (ci := 10) rfl (by decide)
theorem mp159 : am_P0 159 = (yX10_chanceOf, cX10_chanceOf, 8, (Option.some FieldType.long), am_look tX10_chanceOf) := rfl
theorem zw_cv159 {own : String} {cc : ByteArray} {nL : Nat} {ret : Option FieldType} {nm : String} {pc i : Nat} (hdg : decode cc pc = .ok (.invokevirtual i, 3)) (hl : Cond.methodLink own i yX10_chanceOf ∈ am_ws) : am_Snd am_P0 own cc nL ret nm pc (k_cv 159 10 1 8 (pc + 3)) := z_cvE mp159 hdg mt159 hl (ci := 10) rfl (by decide)
theorem mp160 : am_P0 160 = (yX10_findLook, cX10_findLook, 6, (Option.none : Option FieldType), am_look tX10_findLook) := rfl
theorem zw_cv160 {own : String} {cc : ByteArray} {nL : Nat} {ret : Option FieldType} {nm : String} {pc i : Nat} (hdg : decode cc pc = .ok (.invokevirtual i, 3)) (hl : Cond.methodLink own i yX10_findLook ∈ am_ws) : am_Snd am_P0 own cc nL ret nm pc (k_cv 160 10 0 6 (pc + 3)) := z_cvE mp160 hdg mt160 hl (ci := 10) rfl (by decide)
theorem mp161 : am_P0 161 = (yX10_pileUp, cX10_pileUp, 7, (Option.some FieldType.int), am_look tX10_pileUp) := rfl
theorem zw_cv161 {own : String} {cc : ByteArray} {nL : Nat} {ret : Option FieldType} {nm : String} {pc i : Nat} (hdg : decode cc pc = .ok (.invokevirtual i, 3)) (hl : Cond.methodLink own i yX10_pileUp ∈ am_ws) : am_Snd am_P0 own cc nL ret nm pc (k_cv 161 10 1 7 (pc + 3)) := z_cvE mp161 hdg mt161 hl (ci := 10) rfl (by decide)
theorem mp162 : am_P0 162 = (yX10_write, cX10_write, 2, (Option.none : Option FieldType), am_look tX10_write) := rfl
theorem zw_cv162 {own : String} {cc : ByteArray} {nL : Nat} {ret : Option FieldType} {nm : String} {pc i : Nat} (hdg : decode cc pc = .ok (.invokevirtual i, 3)) (hl : Cond.methodLink own i yX10_write ∈ am_ws) : am_Snd am_P0 own cc nL ret nm pc (k_cv 162 10 1 2 (pc + 3)) := z_cvE mp162 hdg mt162 hl (ci := 10) rfl (by decide)
theorem mp163 : am_P0 163 = (yX10_checkOf, cX10_checkOf, 4, (Option.some FieldType.int), am_look tX10_checkOf) := rfl
theorem zw_cs163 {own : String} {cc : ByteArray} {nL : Nat} {ret : Option FieldType} {nm : String} {pc i : Nat} (hdg : decode cc pc = .ok (.invokestatic i, 3)) (hl : Cond.methodLink own i yX10_checkOf ∈ am_ws) : am_Snd am_P0 own cc nL ret nm pc (k_cs 163 2 4 (pc + 3)) := z_csE mp163 hdg mt163 hl
theorem mp164 : am_P0 164 = (yX10_isImage, cX10_isImage, 6, (Option.some FieldType.boolean), am_look tX10_isImage) := rfl
theorem zw_cv164 {own : String} {cc : ByteArray} {nL : Nat} {ret : Option FieldType} {nm : String} {pc i : Nat} (hdg : decode cc pc = .ok (.invokevirtual i, 3)) (hl : Cond.methodLink own i yX10_isImage ∈ am_ws) : am_Snd am_P0 own cc nL ret nm pc (k_cv 164 10 1 6 (pc + 3)) := z_cvE mp164 hdg mt164 hl (ci := 10) rfl (by decide)
theorem mp165 : am_P0 165 = (yX10_takeImage, cX10_takeImage, 4, (Option.none : Option FieldType), am_look tX10_takeImage) := rfl
theorem zw_cv165 {own : String} {cc : ByteArray} {nL : Nat} {ret : Option FieldType} {nm : String} {pc i : Nat} (hdg : decode cc pc = .ok (.invokevirtual i, 3)) (hl : Cond.methodLink own i yX10_takeImage ∈ am_ws) : am_Snd am_P0 own cc nL ret nm pc (k_cv 165 10 0 4 (pc + 3)) := z_cvE mp165 hdg mt165 hl (ci := 10) rfl (by decide)
theorem mp167 : am_P0 167 = (yX11_is, cX11_is, 3, (Option.some FieldType.boolean), am_look tX11_is) := rfl
theorem zw_cs167 {own : String} {cc : ByteArray} {nL : Nat} {ret : Option FieldType} {nm : String} {pc i : Nat} (hdg : decode cc pc = .ok (.invokestatic i, 3)) (hl : Cond.methodLink own i yX11_is ∈ am_ws) : am_Snd am_P0 own cc nL ret nm pc (k_cs 167 3 3 (pc + 3)) := z_csE mp167 hdg mt167 hl
theorem mp168 : am_P0 168 = (yX11_put, cX11_put, 3, (Option.none : Option FieldType), am_look tX11_put) := rfl
theorem zw_cv168 {own : String} {cc : ByteArray} {nL : Nat} {ret : Option FieldType} {nm : String} {pc i : Nat} (hdg : decode cc pc = .ok (.invokevirtual i, 3)) (hl : Cond.methodLink own i yX11_put ∈ am_ws) : am_Snd am_P0 own cc nL ret nm pc (k_cv 168 11 1 3 (pc + 3)) := z_cvE mp168 hdg mt168 hl (ci := 11) rfl (by decide)
theorem mp169 : am_P0 169 = (yX11_feed, cX11_feed, 6, (Option.some FieldType.int), am_look tX11_feed) := rfl
theorem zw_cv169 {own : String} {cc : ByteArray} {nL : Nat} {ret : Option FieldType} {nm : String} {pc i : Nat} (hdg : decode cc pc = .ok (.invokevirtual i, 3)) (hl : Cond.methodLink own i yX11_feed ∈ am_ws) : am_Snd am_P0 own cc nL ret nm pc (k_cv 169 11 5 6 (pc + 3)) := z_cvE mp169 hdg mt169 hl (ci := 11) rfl (by decide)
theorem mp170 : am_P0 170 = (yX11_end, cX11_end, 2, (Option.some FieldType.boolean), am_look tX11_end) := rfl
theorem zw_cv170 {own : String} {cc : ByteArray} {nL : Nat} {ret : Option FieldType} {nm : String} {pc i : Nat} (hdg : decode cc pc = .ok (.invokevirtual i, 3)) (hl : Cond.methodLink own i yX11_end ∈ am_ws) : am_Snd am_P0 own cc nL ret nm pc (k_cv 170 11 1 2 (pc + 3)) := z_cvE mp170 hdg mt170 hl (ci := 11) rfl (by decide)
theorem mp171 : am_P0 171 = (yX11_blame, cX11_blame, 3, (Option.none : Option FieldType), am_look tX11_blame) := rfl
theorem zw_cv171 {own : String} {cc : ByteArray} {nL : Nat} {ret : Option FieldType} {nm : String} {pc i : Nat} (hdg : decode cc pc = .ok (.invokevirtual i, 3)) (hl : Cond.methodLink own i yX11_blame ∈ am_ws) : am_Snd am_P0 own cc nL ret nm pc (k_cv 171 11 2 3 (pc + 3)) := z_cvE mp171 hdg mt171 hl (ci := 11) rfl (by decide)
theorem mp172 : am_P0 172 = (yX11_isLetter, cX11_isLetter, 1, (Option.some FieldType.boolean), am_look tX11_isLetter) := rfl
theorem zw_cs172 {own : String} {cc : ByteArray} {nL : Nat} {ret : Option FieldType} {nm : String} {pc i : Nat} (hdg : decode cc pc = .ok (.invokestatic i, 3)) (hl : Cond.methodLink own i yX11_isLetter ∈ am_ws) : am_Snd am_P0 own cc nL ret nm pc (k_cs 172 1 1 (pc + 3)) := z_csE mp172 hdg mt172 hl
theorem mp173 : am_P0 173 = (yX11_isDigit, cX11_isDigit, 1, (Option.some FieldType.boolean), am_look tX11_isDigit) := rfl
theorem zw_cs173 {own : String} {cc : ByteArray} {nL : Nat} {ret : Option FieldType} {nm : String} {pc i : Nat} (hdg : decode cc pc = .ok (.invokestatic i, 3)) (hl : Cond.methodLink own i yX11_isDigit ∈ am_ws) : am_Snd am_P0 own cc nL ret nm pc (k_cs 173 1 1 (pc + 3)) := z_csE mp173 hdg mt173 hl
theorem mp174 : am_P0 174 = (yX11_ahead, cX11_ahead, 6, (Option.none : Option FieldType), am_look tX11_ahead) := rfl
theorem zw_cv174 {own : String} {cc : ByteArray} {nL : Nat} {ret : Option FieldType} {nm : String} {pc i : Nat} (hdg : decode cc pc = .ok (.invokevirtual i, 3)) (hl : Cond.methodLink own i yX11_ahead ∈ am_ws) : am_Snd am_P0 own cc nL ret nm pc (k_cv 174 11 0 6 (pc + 3)) := z_cvE mp174 hdg mt174 hl (ci := 11) rfl (by decide)
theorem mp175 : am_P0 175 = (yX11_isSign, cX11_isSign, 2, (Option.some FieldType.boolean), am_look tX11_isSign) := rfl
theorem zw_cv175 {own : String} {cc : ByteArray} {nL : Nat} {ret : Option FieldType} {nm : String} {pc i : Nat} (hdg : decode cc pc = .ok (.invokevirtual i, 3)) (hl : Cond.methodLink own i yX11_isSign ∈ am_ws) : am_Snd am_P0 own cc nL ret nm pc (k_cv 175 11 1 2 (pc + 3)) := z_cvE mp175 hdg mt175 hl (ci := 11) rfl (by decide)
theorem mp176 : am_P0 176 = (yX11_isWord, cX11_isWord, 3, (Option.some FieldType.boolean), am_look tX11_isWord) := rfl
theorem zw_cv176 {own : String} {cc : ByteArray} {nL : Nat} {ret : Option FieldType} {nm : String} {pc i : Nat} (hdg : decode cc pc = .ok (.invokevirtual i, 3)) (hl : Cond.methodLink own i yX11_isWord ∈ am_ws) : am_Snd am_P0 own cc nL ret nm pc (k_cv 176 11 1 3 (pc + 3)) := z_cvE mp176 hdg mt176 hl (ci := 11) rfl (by decide)
theorem mp177 : am_P0 177 = (yX11_must, cX11_must, 2, (Option.none : Option FieldType), am_look tX11_must) := rfl
theorem zw_cv177 {own : String} {cc : ByteArray} {nL : Nat} {ret : Option FieldType} {nm : String} {pc i : Nat} (hdg : decode cc pc = .ok (.invokevirtual i, 3)) (hl : Cond.methodLink own i yX11_must ∈ am_ws) : am_Snd am_P0 own cc nL ret nm pc (k_cv 177 11 1 2 (pc + 3)) := z_cvE mp177 hdg mt177 hl (ci := 11) rfl (by decide)
theorem mp178 : am_P0 178 = (yX11_isOwn, cX11_isOwn, 3, (Option.some FieldType.boolean), am_look tX11_isOwn) := rfl
theorem zw_cv178 {own : String} {cc : ByteArray} {nL : Nat} {ret : Option FieldType} {nm : String} {pc i : Nat} (hdg : decode cc pc = .ok (.invokevirtual i, 3)) (hl : Cond.methodLink own i yX11_isOwn ∈ am_ws) : am_Snd am_P0 own cc nL ret nm pc (k_cv 178 11 1 3 (pc + 3)) := z_cvE mp178 hdg mt178 hl (ci := 11) rfl (by decide)
theorem mp179 : am_P0 179 = (yX11_firstRule, cX11_firstRule, 1, (Option.some FieldType.int), am_look tX11_firstRule) := rfl
theorem zw_cs179 {own : String} {cc : ByteArray} {nL : Nat} {ret : Option FieldType} {nm : String} {pc i : Nat} (hdg : decode cc pc = .ok (.invokestatic i, 3)) (hl : Cond.methodLink own i yX11_firstRule ∈ am_ws) : am_Snd am_P0 own cc nL ret nm pc (k_cs 179 1 1 (pc + 3)) := z_csE mp179 hdg mt179 hl
theorem mp180 : am_P0 180 = (yX11_mostRules, cX11_mostRules, 1, (Option.some FieldType.int), am_look tX11_mostRules) := rfl
theorem zw_cs180 {own : String} {cc : ByteArray} {nL : Nat} {ret : Option FieldType} {nm : String} {pc i : Nat} (hdg : decode cc pc = .ok (.invokestatic i, 3)) (hl : Cond.methodLink own i yX11_mostRules ∈ am_ws) : am_Snd am_P0 own cc nL ret nm pc (k_cs 180 1 1 (pc + 3)) := z_csE mp180 hdg mt180 hl
theorem mp181 : am_P0 181 = (yX11_named, cX11_named, 4, (Option.some FieldType.int), am_look tX11_named) := rfl
theorem zw_cv181 {own : String} {cc : ByteArray} {nL : Nat} {ret : Option FieldType} {nm : String} {pc i : Nat} (hdg : decode cc pc = .ok (.invokevirtual i, 3)) (hl : Cond.methodLink own i yX11_named ∈ am_ws) : am_Snd am_P0 own cc nL ret nm pc (k_cv 181 11 1 4 (pc + 3)) := z_cvE mp181 hdg mt181 hl (ci := 11) rfl (by decide)
theorem mp182 : am_P0 182 = (yX11_number, cX11_number, 4, (Option.some FieldType.int), am_look tX11_number) := rfl
theorem zw_cv182 {own : String} {cc : ByteArray} {nL : Nat} {ret : Option FieldType} {nm : String} {pc i : Nat} (hdg : decode cc pc = .ok (.invokevirtual i, 3)) (hl : Cond.methodLink own i yX11_number ∈ am_ws) : am_Snd am_P0 own cc nL ret nm pc (k_cv 182 11 2 4 (pc + 3)) := z_cvE mp182 hdg mt182 hl (ci := 11) rfl (by decide)
theorem mp183 : am_P0 183 = (yX11_add, cX11_add, 3, (Option.none : Option FieldType), am_look tX11_add) := rfl
theorem zw_cv183 {own : String} {cc : ByteArray} {nL : Nat} {ret : Option FieldType} {nm : String} {pc i : Nat} (hdg : decode cc pc = .ok (.invokevirtual i, 3)) (hl : Cond.methodLink own i yX11_add ∈ am_ws) : am_Snd am_P0 own cc nL ret nm pc (k_cv 183 11 2 3 (pc + 3)) := z_cvE mp183 hdg mt183 hl (ci := 11) rfl (by decide)
theorem mp184 : am_P0 184 = (yX11_rank, cX11_rank, 1, (Option.some FieldType.int), am_look tX11_rank) := rfl
theorem zw_cs184 {own : String} {cc : ByteArray} {nL : Nat} {ret : Option FieldType} {nm : String} {pc i : Nat} (hdg : decode cc pc = .ok (.invokestatic i, 3)) (hl : Cond.methodLink own i yX11_rank ∈ am_ws) : am_Snd am_P0 own cc nL ret nm pc (k_cs 184 1 1 (pc + 3)) := z_csE mp184 hdg mt184 hl
theorem mp185 : am_P0 185 = (yX11_joins, cX11_joins, 2, (Option.none : Option FieldType), am_look tX11_joins) := rfl
theorem zw_cv185 {own : String} {cc : ByteArray} {nL : Nat} {ret : Option FieldType} {nm : String} {pc i : Nat} (hdg : decode cc pc = .ok (.invokevirtual i, 3)) (hl : Cond.methodLink own i yX11_joins ∈ am_ws) : am_Snd am_P0 own cc nL ret nm pc (k_cv 185 11 1 2 (pc + 3)) := z_cvE mp185 hdg mt185 hl (ci := 11) rfl (by decide)
theorem mp186 : am_P0 186 = (yX11_holdsBack, cX11_holdsBack, 2, (Option.none : Option FieldType), am_look tX11_holdsBack) := rfl
theorem zw_cv186 {own : String} {cc : ByteArray} {nL : Nat} {ret : Option FieldType} {nm : String} {pc i : Nat} (hdg : decode cc pc = .ok (.invokevirtual i, 3)) (hl : Cond.methodLink own i yX11_holdsBack ∈ am_ws) : am_Snd am_P0 own cc nL ret nm pc (k_cv 186 11 1 2 (pc + 3)) := z_cvE mp186 hdg mt186 hl (ci := 11) rfl (by decide)
theorem mp187 : am_P0 187 = (yX11_pushes, cX11_pushes, 2, (Option.none : Option FieldType), am_look tX11_pushes) := rfl
theorem zw_cv187 {own : String} {cc : ByteArray} {nL : Nat} {ret : Option FieldType} {nm : String} {pc i : Nat} (hdg : decode cc pc = .ok (.invokevirtual i, 3)) (hl : Cond.methodLink own i yX11_pushes ∈ am_ws) : am_Snd am_P0 own cc nL ret nm pc (k_cv 187 11 1 2 (pc + 3)) := z_cvE mp187 hdg mt187 hl (ci := 11) rfl (by decide)
theorem mp188 : am_P0 188 = (yX11_opens, cX11_opens, 2, (Option.none : Option FieldType), am_look tX11_opens) := rfl
theorem zw_cv188 {own : String} {cc : ByteArray} {nL : Nat} {ret : Option FieldType} {nm : String} {pc i : Nat} (hdg : decode cc pc = .ok (.invokevirtual i, 3)) (hl : Cond.methodLink own i yX11_opens ∈ am_ws) : am_Snd am_P0 own cc nL ret nm pc (k_cv 188 11 1 2 (pc + 3)) := z_cvE mp188 hdg mt188 hl (ci := 11) rfl (by decide)
theorem mp189 : am_P0 189 = (yX11_isTest, cX11_isTest, 1, (Option.some FieldType.boolean), am_look tX11_isTest) := rfl
theorem zw_cs189 {own : String} {cc : ByteArray} {nL : Nat} {ret : Option FieldType} {nm : String} {pc i : Nat} (hdg : decode cc pc = .ok (.invokestatic i, 3)) (hl : Cond.methodLink own i yX11_isTest ∈ am_ws) : am_Snd am_P0 own cc nL ret nm pc (k_cs 189 1 1 (pc + 3)) := z_csE mp189 hdg mt189 hl
theorem mp190 : am_P0 190 = (yX11_operand, cX11_operand, 4, (Option.some FieldType.boolean), am_look tX11_operand) := rfl
theorem zw_cv190 {own : String} {cc : ByteArray} {nL : Nat} {ret : Option FieldType} {nm : String} {pc i : Nat} (hdg : decode cc pc = .ok (.invokevirtual i, 3)) (hl : Cond.methodLink own i yX11_operand ∈ am_ws) : am_Snd am_P0 own cc nL ret nm pc (k_cv 190 11 0 4 (pc + 3)) := z_cvE mp190 hdg mt190 hl (ci := 11) rfl (by decide)
theorem mp191 : am_P0 191 = (yX11_goesOn, cX11_goesOn, 5, (Option.some FieldType.boolean), am_look tX11_goesOn) := rfl
theorem zw_cv191 {own : String} {cc : ByteArray} {nL : Nat} {ret : Option FieldType} {nm : String} {pc i : Nat} (hdg : decode cc pc = .ok (.invokevirtual i, 3)) (hl : Cond.methodLink own i yX11_goesOn ∈ am_ws) : am_Snd am_P0 own cc nL ret nm pc (k_cv 191 11 0 5 (pc + 3)) := z_cvE mp191 hdg mt191 hl (ci := 11) rfl (by decide)
theorem mp192 : am_P0 192 = (yX11_reads, cX11_reads, 3, (Option.none : Option FieldType), am_look tX11_reads) := rfl
theorem zw_cv192 {own : String} {cc : ByteArray} {nL : Nat} {ret : Option FieldType} {nm : String} {pc i : Nat} (hdg : decode cc pc = .ok (.invokevirtual i, 3)) (hl : Cond.methodLink own i yX11_reads ∈ am_ws) : am_Snd am_P0 own cc nL ret nm pc (k_cv 192 11 1 3 (pc + 3)) := z_cvE mp192 hdg mt192 hl (ci := 11) rfl (by decide)
theorem mp193 : am_P0 193 = (yX11_counts, cX11_counts, 2, (Option.some FieldType.boolean), am_look tX11_counts) := rfl
theorem zw_cv193 {own : String} {cc : ByteArray} {nL : Nat} {ret : Option FieldType} {nm : String} {pc i : Nat} (hdg : decode cc pc = .ok (.invokevirtual i, 3)) (hl : Cond.methodLink own i yX11_counts ∈ am_ws) : am_Snd am_P0 own cc nL ret nm pc (k_cv 193 11 1 2 (pc + 3)) := z_cvE mp193 hdg mt193 hl (ci := 11) rfl (by decide)
theorem mp194 : am_P0 194 = (yX11_must_, cX11_must_, 3, (Option.none : Option FieldType), am_look tX11_must_) := rfl
theorem zw_cv194 {own : String} {cc : ByteArray} {nL : Nat} {ret : Option FieldType} {nm : String} {pc i : Nat} (hdg : decode cc pc = .ok (.invokevirtual i, 3)) (hl : Cond.methodLink own i yX11_must_ ∈ am_ws) : am_Snd am_P0 own cc nL ret nm pc (k_cv 194 11 1 3 (pc + 3)) := z_cvE mp194 hdg mt194 hl (ci := 11) rfl (by decide)
theorem mp195 : am_P0 195 = (yX11_fresh, cX11_fresh, 3, (Option.some FieldType.long), am_look tX11_fresh) := rfl
theorem zw_cv195 {own : String} {cc : ByteArray} {nL : Nat} {ret : Option FieldType} {nm : String} {pc i : Nat} (hdg : decode cc pc = .ok (.invokevirtual i, 3)) (hl : Cond.methodLink own i yX11_fresh ∈ am_ws) : am_Snd am_P0 own cc nL ret nm pc (k_cv 195 11 0 3 (pc + 3)) := z_cvE mp195 hdg mt195 hl (ci := 11) rfl (by decide)
theorem mp196 : am_P0 196 = (yX11_asked, cX11_asked, 2, (Option.some FieldType.int), am_look tX11_asked) := rfl
theorem zw_cv196 {own : String} {cc : ByteArray} {nL : Nat} {ret : Option FieldType} {nm : String} {pc i : Nat} (hdg : decode cc pc = .ok (.invokevirtual i, 3)) (hl : Cond.methodLink own i yX11_asked ∈ am_ws) : am_Snd am_P0 own cc nL ret nm pc (k_cv 196 11 0 2 (pc + 3)) := z_cvE mp196 hdg mt196 hl (ci := 11) rfl (by decide)
theorem mp197 : am_P0 197 = (yX11_sizes, cX11_sizes, 1, (Option.none : Option FieldType), am_look tX11_sizes) := rfl
theorem zw_cv197 {own : String} {cc : ByteArray} {nL : Nat} {ret : Option FieldType} {nm : String} {pc i : Nat} (hdg : decode cc pc = .ok (.invokevirtual i, 3)) (hl : Cond.methodLink own i yX11_sizes ∈ am_ws) : am_Snd am_P0 own cc nL ret nm pc (k_cv 197 11 0 1 (pc + 3)) := z_cvE mp197 hdg mt197 hl (ci := 11) rfl (by decide)
theorem mp198 : am_P0 198 = (yX11_rule, cX11_rule, 3, (Option.none : Option FieldType), am_look tX11_rule) := rfl
theorem zw_cv198 {own : String} {cc : ByteArray} {nL : Nat} {ret : Option FieldType} {nm : String} {pc i : Nat} (hdg : decode cc pc = .ok (.invokevirtual i, 3)) (hl : Cond.methodLink own i yX11_rule ∈ am_ws) : am_Snd am_P0 own cc nL ret nm pc (k_cv 198 11 1 3 (pc + 3)) := z_cvE mp198 hdg mt198 hl (ci := 11) rfl (by decide)
theorem mp199 : am_P0 199 = (yX11_ship, cX11_ship, 2, (Option.none : Option FieldType), am_look tX11_ship) := rfl
theorem zw_cv199 {own : String} {cc : ByteArray} {nL : Nat} {ret : Option FieldType} {nm : String} {pc i : Nat} (hdg : decode cc pc = .ok (.invokevirtual i, 3)) (hl : Cond.methodLink own i yX11_ship ∈ am_ws) : am_Snd am_P0 own cc nL ret nm pc (k_cv 199 11 0 2 (pc + 3)) := z_cvE mp199 hdg mt199 hl (ci := 11) rfl (by decide)
theorem mp200 : am_P0 200 = (yX11_cellHere, cX11_cellHere, 3, (Option.some FieldType.int), am_look tX11_cellHere) := rfl
theorem zw_cv200 {own : String} {cc : ByteArray} {nL : Nat} {ret : Option FieldType} {nm : String} {pc i : Nat} (hdg : decode cc pc = .ok (.invokevirtual i, 3)) (hl : Cond.methodLink own i yX11_cellHere ∈ am_ws) : am_Snd am_P0 own cc nL ret nm pc (k_cv 200 11 0 3 (pc + 3)) := z_cvE mp200 hdg mt200 hl (ci := 11) rfl (by decide)
theorem mp201 : am_P0 201 = (yX11_says, cX11_says, 6, (Option.none : Option FieldType), am_look tX11_says) := rfl
theorem zw_cv201 {own : String} {cc : ByteArray} {nL : Nat} {ret : Option FieldType} {nm : String} {pc i : Nat} (hdg : decode cc pc = .ok (.invokevirtual i, 3)) (hl : Cond.methodLink own i yX11_says ∈ am_ws) : am_Snd am_P0 own cc nL ret nm pc (k_cv 201 11 0 6 (pc + 3)) := z_cvE mp201 hdg mt201 hl (ci := 11) rfl (by decide)
theorem mp202 : am_P0 202 = (yX11_book, cX11_book, 2, (Option.none : Option FieldType), am_look tX11_book) := rfl
theorem zw_cv202 {own : String} {cc : ByteArray} {nL : Nat} {ret : Option FieldType} {nm : String} {pc i : Nat} (hdg : decode cc pc = .ok (.invokevirtual i, 3)) (hl : Cond.methodLink own i yX11_book ∈ am_ws) : am_Snd am_P0 own cc nL ret nm pc (k_cv 202 11 0 2 (pc + 3)) := z_cvE mp202 hdg mt202 hl (ci := 11) rfl (by decide)
theorem mp203 : am_P0 203 = (yX11_seen, cX11_seen, 2, (Option.none : Option FieldType), am_look tX11_seen) := rfl
theorem zw_cv203 {own : String} {cc : ByteArray} {nL : Nat} {ret : Option FieldType} {nm : String} {pc i : Nat} (hdg : decode cc pc = .ok (.invokevirtual i, 3)) (hl : Cond.methodLink own i yX11_seen ∈ am_ws) : am_Snd am_P0 own cc nL ret nm pc (k_cv 203 11 0 2 (pc + 3)) := z_cvE mp203 hdg mt203 hl (ci := 11) rfl (by decide)
theorem mp204 : am_P0 204 = (yX11_lucks, cX11_lucks, 1, (Option.none : Option FieldType), am_look tX11_lucks) := rfl
theorem zw_cv204 {own : String} {cc : ByteArray} {nL : Nat} {ret : Option FieldType} {nm : String} {pc i : Nat} (hdg : decode cc pc = .ok (.invokevirtual i, 3)) (hl : Cond.methodLink own i yX11_lucks ∈ am_ws) : am_Snd am_P0 own cc nL ret nm pc (k_cv 204 11 0 1 (pc + 3)) := z_cvE mp204 hdg mt204 hl (ci := 11) rfl (by decide)
theorem mp205 : am_P0 205 = (yX11_statement, cX11_statement, 1, (Option.none : Option FieldType), am_look tX11_statement) := rfl
theorem zw_cv205 {own : String} {cc : ByteArray} {nL : Nat} {ret : Option FieldType} {nm : String} {pc i : Nat} (hdg : decode cc pc = .ok (.invokevirtual i, 3)) (hl : Cond.methodLink own i yX11_statement ∈ am_ws) : am_Snd am_P0 own cc nL ret nm pc (k_cv 205 11 0 1 (pc + 3)) := z_cvE mp205 hdg mt205 hl (ci := 11) rfl (by decide)
theorem mp206 : am_P0 206 = (yX11_sea, cX11_sea, 2, (Option.some FieldType.int), am_look tX11_sea) := rfl
theorem zw_cv206 {own : String} {cc : ByteArray} {nL : Nat} {ret : Option FieldType} {nm : String} {pc i : Nat} (hdg : decode cc pc = .ok (.invokevirtual i, 3)) (hl : Cond.methodLink own i yX11_sea ∈ am_ws) : am_Snd am_P0 own cc nL ret nm pc (k_cv 206 11 0 2 (pc + 3)) := z_cvE mp206 hdg mt206 hl (ci := 11) rfl (by decide)
theorem mp207 : am_P0 207 = (yX11_fault, cX11_fault, 2, (Option.some FieldType.int), am_look tX11_fault) := rfl
theorem zw_cv207 {own : String} {cc : ByteArray} {nL : Nat} {ret : Option FieldType} {nm : String} {pc i : Nat} (hdg : decode cc pc = .ok (.invokevirtual i, 3)) (hl : Cond.methodLink own i yX11_fault ∈ am_ws) : am_Snd am_P0 own cc nL ret nm pc (k_cv 207 11 1 2 (pc + 3)) := z_cvE mp207 hdg mt207 hl (ci := 11) rfl (by decide)
theorem mp208 : am_P0 208 = (yX11_refuses, cX11_refuses, 2, (Option.some FieldType.int), am_look tX11_refuses) := rfl
theorem zw_cv208 {own : String} {cc : ByteArray} {nL : Nat} {ret : Option FieldType} {nm : String} {pc i : Nat} (hdg : decode cc pc = .ok (.invokevirtual i, 3)) (hl : Cond.methodLink own i yX11_refuses ∈ am_ws) : am_Snd am_P0 own cc nL ret nm pc (k_cv 208 11 1 2 (pc + 3)) := z_cvE mp208 hdg mt208 hl (ci := 11) rfl (by decide)
theorem mp209 : am_P0 209 = (yX11_status, cX11_status, 2, (Option.some FieldType.int), am_look tX11_status) := rfl
theorem zw_cv209 {own : String} {cc : ByteArray} {nL : Nat} {ret : Option FieldType} {nm : String} {pc i : Nat} (hdg : decode cc pc = .ok (.invokevirtual i, 3)) (hl : Cond.methodLink own i yX11_status ∈ am_ws) : am_Snd am_P0 own cc nL ret nm pc (k_cv 209 11 1 2 (pc + 3)) := z_cvE mp209 hdg mt209 hl (ci := 11) rfl (by decide)
theorem mp210 : am_P0 210 = (yX11_bounded, cX11_bounded, 2, (Option.some FieldType.long), am_look tX11_bounded) := rfl
theorem zw_cs210 {own : String} {cc : ByteArray} {nL : Nat} {ret : Option FieldType} {nm : String} {pc i : Nat} (hdg : decode cc pc = .ok (.invokestatic i, 3)) (hl : Cond.methodLink own i yX11_bounded ∈ am_ws) : am_Snd am_P0 own cc nL ret nm pc (k_cs 210 1 2 (pc + 3)) := z_csE mp210 hdg mt210 hl
theorem mp211 : am_P0 211 = (yX11_over, cX11_over, 6, (Option.some FieldType.long), am_look tX11_over) := rfl
theorem zw_cs211 {own : String} {cc : ByteArray} {nL : Nat} {ret : Option FieldType} {nm : String} {pc i : Nat} (hdg : decode cc pc = .ok (.invokestatic i, 3)) (hl : Cond.methodLink own i yX11_over ∈ am_ws) : am_Snd am_P0 own cc nL ret nm pc (k_cs 211 2 6 (pc + 3)) := z_csE mp211 hdg mt211 hl
theorem mp212 : am_P0 212 = (yX11_made, cX11_made, 5, (Option.some FieldType.long), am_look tX11_made) := rfl
theorem zw_cs212 {own : String} {cc : ByteArray} {nL : Nat} {ret : Option FieldType} {nm : String} {pc i : Nat} (hdg : decode cc pc = .ok (.invokestatic i, 3)) (hl : Cond.methodLink own i yX11_made ∈ am_ws) : am_Snd am_P0 own cc nL ret nm pc (k_cs 212 3 5 (pc + 3)) := z_csE mp212 hdg mt212 hl
theorem mp213 : am_P0 213 = (yX11_works, cX11_works, 6, (Option.some FieldType.long), am_look tX11_works) := rfl
theorem zw_cv213 {own : String} {cc : ByteArray} {nL : Nat} {ret : Option FieldType} {nm : String} {pc i : Nat} (hdg : decode cc pc = .ok (.invokevirtual i, 3)) (hl : Cond.methodLink own i yX11_works ∈ am_ws) : am_Snd am_P0 own cc nL ret nm pc (k_cv 213 11 2 6 (pc + 3)) := z_cvE mp213 hdg mt213 hl (ci := 11) rfl (by decide)
theorem mp214 : am_P0 214 = (yX11_cells, cX11_cells, 1, (Option.some FieldType.int), am_look tX11_cells) := rfl
theorem zw_cv214 {own : String} {cc : ByteArray} {nL : Nat} {ret : Option FieldType} {nm : String} {pc i : Nat} (hdg : decode cc pc = .ok (.invokevirtual i, 3)) (hl : Cond.methodLink own i yX11_cells ∈ am_ws) : am_Snd am_P0 own cc nL ret nm pc (k_cv 214 11 0 1 (pc + 3)) := z_cvE mp214 hdg mt214 hl (ci := 11) rfl (by decide)
theorem mp215 : am_P0 215 = (yX11_columnOf, cX11_columnOf, 2, (Option.some FieldType.int), am_look tX11_columnOf) := rfl
theorem zw_cv215 {own : String} {cc : ByteArray} {nL : Nat} {ret : Option FieldType} {nm : String} {pc i : Nat} (hdg : decode cc pc = .ok (.invokevirtual i, 3)) (hl : Cond.methodLink own i yX11_columnOf ∈ am_ws) : am_Snd am_P0 own cc nL ret nm pc (k_cv 215 11 1 2 (pc + 3)) := z_cvE mp215 hdg mt215 hl (ci := 11) rfl (by decide)
theorem mp216 : am_P0 216 = (yX11_rowOf, cX11_rowOf, 2, (Option.some FieldType.int), am_look tX11_rowOf) := rfl
theorem zw_cv216 {own : String} {cc : ByteArray} {nL : Nat} {ret : Option FieldType} {nm : String} {pc i : Nat} (hdg : decode cc pc = .ok (.invokevirtual i, 3)) (hl : Cond.methodLink own i yX11_rowOf ∈ am_ws) : am_Snd am_P0 own cc nL ret nm pc (k_cv 216 11 1 2 (pc + 3)) := z_cvE mp216 hdg mt216 hl (ci := 11) rfl (by decide)
theorem mp217 : am_P0 217 = (yX11_isCell, cX11_isCell, 3, (Option.some FieldType.boolean), am_look tX11_isCell) := rfl
theorem zw_cv217 {own : String} {cc : ByteArray} {nL : Nat} {ret : Option FieldType} {nm : String} {pc i : Nat} (hdg : decode cc pc = .ok (.invokevirtual i, 3)) (hl : Cond.methodLink own i yX11_isCell ∈ am_ws) : am_Snd am_P0 own cc nL ret nm pc (k_cv 217 11 2 3 (pc + 3)) := z_cvE mp217 hdg mt217 hl (ci := 11) rfl (by decide)
theorem mp218 : am_P0 218 = (yX11_at, cX11_at, 3, (Option.some FieldType.int), am_look tX11_at) := rfl
theorem zw_cv218 {own : String} {cc : ByteArray} {nL : Nat} {ret : Option FieldType} {nm : String} {pc i : Nat} (hdg : decode cc pc = .ok (.invokevirtual i, 3)) (hl : Cond.methodLink own i yX11_at ∈ am_ws) : am_Snd am_P0 own cc nL ret nm pc (k_cv 218 11 2 3 (pc + 3)) := z_cvE mp218 hdg mt218 hl (ci := 11) rfl (by decide)
theorem mp219 : am_P0 219 = (yX11_isHour, cX11_isHour, 1, (Option.some FieldType.boolean), am_look tX11_isHour) := rfl
theorem zw_cs219 {own : String} {cc : ByteArray} {nL : Nat} {ret : Option FieldType} {nm : String} {pc i : Nat} (hdg : decode cc pc = .ok (.invokestatic i, 3)) (hl : Cond.methodLink own i yX11_isHour ∈ am_ws) : am_Snd am_P0 own cc nL ret nm pc (k_cs 219 1 1 (pc + 3)) := z_csE mp219 hdg mt219 hl
theorem mp220 : am_P0 220 = (yX11_isShip, cX11_isShip, 2, (Option.some FieldType.boolean), am_look tX11_isShip) := rfl
theorem zw_cv220 {own : String} {cc : ByteArray} {nL : Nat} {ret : Option FieldType} {nm : String} {pc i : Nat} (hdg : decode cc pc = .ok (.invokevirtual i, 3)) (hl : Cond.methodLink own i yX11_isShip ∈ am_ws) : am_Snd am_P0 own cc nL ret nm pc (k_cv 220 11 1 2 (pc + 3)) := z_cvE mp220 hdg mt220 hl (ci := 11) rfl (by decide)
theorem mp221 : am_P0 221 = (yX11_ruleOf, cX11_ruleOf, 7, (Option.some FieldType.int), am_look tX11_ruleOf) := rfl
theorem zw_cv221 {own : String} {cc : ByteArray} {nL : Nat} {ret : Option FieldType} {nm : String} {pc i : Nat} (hdg : decode cc pc = .ok (.invokevirtual i, 3)) (hl : Cond.methodLink own i yX11_ruleOf ∈ am_ws) : am_Snd am_P0 own cc nL ret nm pc (k_cv 221 11 4 7 (pc + 3)) := z_cvE mp221 hdg mt221 hl (ci := 11) rfl (by decide)
theorem mp222 : am_P0 222 = (yX11_sumOf, cX11_sumOf, 7, (Option.some FieldType.int), am_look tX11_sumOf) := rfl
theorem zw_cv222 {own : String} {cc : ByteArray} {nL : Nat} {ret : Option FieldType} {nm : String} {pc i : Nat} (hdg : decode cc pc = .ok (.invokevirtual i, 3)) (hl : Cond.methodLink own i yX11_sumOf ∈ am_ws) : am_Snd am_P0 own cc nL ret nm pc (k_cv 222 11 3 7 (pc + 3)) := z_cvE mp222 hdg mt222 hl (ci := 11) rfl (by decide)
theorem mp223 : am_P0 223 = (yX11_lays, cX11_lays, 2, (Option.none : Option FieldType), am_look tX11_lays) := rfl
theorem zw_cv223 {own : String} {cc : ByteArray} {nL : Nat} {ret : Option FieldType} {nm : String} {pc i : Nat} (hdg : decode cc pc = .ok (.invokevirtual i, 3)) (hl : Cond.methodLink own i yX11_lays ∈ am_ws) : am_Snd am_P0 own cc nL ret nm pc (k_cv 223 11 0 2 (pc + 3)) := z_cvE mp223 hdg mt223 hl (ci := 11) rfl (by decide)
theorem mp224 : am_P0 224 = (yX11_isQuiet, cX11_isQuiet, 3, (Option.some FieldType.boolean), am_look tX11_isQuiet) := rfl
theorem zw_cv224 {own : String} {cc : ByteArray} {nL : Nat} {ret : Option FieldType} {nm : String} {pc i : Nat} (hdg : decode cc pc = .ok (.invokevirtual i, 3)) (hl : Cond.methodLink own i yX11_isQuiet ∈ am_ws) : am_Snd am_P0 own cc nL ret nm pc (k_cv 224 11 2 3 (pc + 3)) := z_cvE mp224 hdg mt224 hl (ci := 11) rfl (by decide)
theorem mp225 : am_P0 225 = (yX11_cell, cX11_cell, 6, (Option.some FieldType.int), am_look tX11_cell) := rfl
theorem zw_cv225 {own : String} {cc : ByteArray} {nL : Nat} {ret : Option FieldType} {nm : String} {pc i : Nat} (hdg : decode cc pc = .ok (.invokevirtual i, 3)) (hl : Cond.methodLink own i yX11_cell ∈ am_ws) : am_Snd am_P0 own cc nL ret nm pc (k_cv 225 11 4 6 (pc + 3)) := z_cvE mp225 hdg mt225 hl (ci := 11) rfl (by decide)
theorem mp226 : am_P0 226 = (yX11_said, cX11_said, 3, (Option.some FieldType.int), am_look tX11_said) := rfl
theorem zw_cv226 {own : String} {cc : ByteArray} {nL : Nat} {ret : Option FieldType} {nm : String} {pc i : Nat} (hdg : decode cc pc = .ok (.invokevirtual i, 3)) (hl : Cond.methodLink own i yX11_said ∈ am_ws) : am_Snd am_P0 own cc nL ret nm pc (k_cv 226 11 2 3 (pc + 3)) := z_cvE mp226 hdg mt226 hl (ci := 11) rfl (by decide)
theorem mp227 : am_P0 227 = (yX11_laden, cX11_laden, 3, (Option.some FieldType.boolean), am_look tX11_laden) := rfl
theorem zw_cv227 {own : String} {cc : ByteArray} {nL : Nat} {ret : Option FieldType} {nm : String} {pc i : Nat} (hdg : decode cc pc = .ok (.invokevirtual i, 3)) (hl : Cond.methodLink own i yX11_laden ∈ am_ws) : am_Snd am_P0 own cc nL ret nm pc (k_cv 227 11 2 3 (pc + 3)) := z_cvE mp227 hdg mt227 hl (ci := 11) rfl (by decide)
theorem mp228 : am_P0 228 = (yX11_sayingsOf, cX11_sayingsOf, 4, (Option.some FieldType.int), am_look tX11_sayingsOf) := rfl
theorem zw_cv228 {own : String} {cc : ByteArray} {nL : Nat} {ret : Option FieldType} {nm : String} {pc i : Nat} (hdg : decode cc pc = .ok (.invokevirtual i, 3)) (hl : Cond.methodLink own i yX11_sayingsOf ∈ am_ws) : am_Snd am_P0 own cc nL ret nm pc (k_cv 228 11 1 4 (pc + 3)) := z_cvE mp228 hdg mt228 hl (ci := 11) rfl (by decide)
theorem mp229 : am_P0 229 = (yX11_hourOf, cX11_hourOf, 5, (Option.some FieldType.int), am_look tX11_hourOf) := rfl
theorem zw_cv229 {own : String} {cc : ByteArray} {nL : Nat} {ret : Option FieldType} {nm : String} {pc i : Nat} (hdg : decode cc pc = .ok (.invokevirtual i, 3)) (hl : Cond.methodLink own i yX11_hourOf ∈ am_ws) : am_Snd am_P0 own cc nL ret nm pc (k_cv 229 11 2 5 (pc + 3)) := z_cvE mp229 hdg mt229 hl (ci := 11) rfl (by decide)
theorem mp230 : am_P0 230 = (yX11_numberOf, cX11_numberOf, 5, (Option.some FieldType.int), am_look tX11_numberOf) := rfl
theorem zw_cv230 {own : String} {cc : ByteArray} {nL : Nat} {ret : Option FieldType} {nm : String} {pc i : Nat} (hdg : decode cc pc = .ok (.invokevirtual i, 3)) (hl : Cond.methodLink own i yX11_numberOf ∈ am_ws) : am_Snd am_P0 own cc nL ret nm pc (k_cv 230 11 2 5 (pc + 3)) := z_cvE mp230 hdg mt230 hl (ci := 11) rfl (by decide)
theorem mp231 : am_P0 231 = (yX11_booksOf, cX11_booksOf, 4, (Option.some FieldType.int), am_look tX11_booksOf) := rfl
theorem zw_cv231 {own : String} {cc : ByteArray} {nL : Nat} {ret : Option FieldType} {nm : String} {pc i : Nat} (hdg : decode cc pc = .ok (.invokevirtual i, 3)) (hl : Cond.methodLink own i yX11_booksOf ∈ am_ws) : am_Snd am_P0 own cc nL ret nm pc (k_cv 231 11 1 4 (pc + 3)) := z_cvE mp231 hdg mt231 hl (ci := 11) rfl (by decide)
theorem mp232 : am_P0 232 = (yX11_has, cX11_has, 4, (Option.some FieldType.int), am_look tX11_has) := rfl
theorem zw_cv232 {own : String} {cc : ByteArray} {nL : Nat} {ret : Option FieldType} {nm : String} {pc i : Nat} (hdg : decode cc pc = .ok (.invokevirtual i, 3)) (hl : Cond.methodLink own i yX11_has ∈ am_ws) : am_Snd am_P0 own cc nL ret nm pc (k_cv 232 11 1 4 (pc + 3)) := z_cvE mp232 hdg mt232 hl (ci := 11) rfl (by decide)
theorem mp233 : am_P0 233 = (yX11_letter, cX11_letter, 8, (Option.some FieldType.int), am_look tX11_letter) := rfl
theorem zw_cv233 {own : String} {cc : ByteArray} {nL : Nat} {ret : Option FieldType} {nm : String} {pc i : Nat} (hdg : decode cc pc = .ok (.invokevirtual i, 3)) (hl : Cond.methodLink own i yX11_letter ∈ am_ws) : am_Snd am_P0 own cc nL ret nm pc (k_cv 233 11 2 8 (pc + 3)) := z_cvE mp233 hdg mt233 hl (ci := 11) rfl (by decide)
theorem mp234 : am_P0 234 = (yX11_isWater, cX11_isWater, 3, (Option.some FieldType.boolean), am_look tX11_isWater) := rfl
theorem zw_cv234 {own : String} {cc : ByteArray} {nL : Nat} {ret : Option FieldType} {nm : String} {pc i : Nat} (hdg : decode cc pc = .ok (.invokevirtual i, 3)) (hl : Cond.methodLink own i yX11_isWater ∈ am_ws) : am_Snd am_P0 own cc nL ret nm pc (k_cv 234 11 2 3 (pc + 3)) := z_cvE mp234 hdg mt234 hl (ci := 11) rfl (by decide)
theorem mp235 : am_P0 235 = (yX11_isSound, cX11_isSound, 4, (Option.some FieldType.boolean), am_look tX11_isSound) := rfl
theorem zw_cv235 {own : String} {cc : ByteArray} {nL : Nat} {ret : Option FieldType} {nm : String} {pc i : Nat} (hdg : decode cc pc = .ok (.invokevirtual i, 3)) (hl : Cond.methodLink own i yX11_isSound ∈ am_ws) : am_Snd am_P0 own cc nL ret nm pc (k_cv 235 11 3 4 (pc + 3)) := z_cvE mp235 hdg mt235 hl (ci := 11) rfl (by decide)
theorem mp236 : am_P0 236 = (yX11_reaches, cX11_reaches, 6, (Option.none : Option FieldType), am_look tX11_reaches) := rfl
theorem zw_cv236 {own : String} {cc : ByteArray} {nL : Nat} {ret : Option FieldType} {nm : String} {pc i : Nat} (hdg : decode cc pc = .ok (.invokevirtual i, 3)) (hl : Cond.methodLink own i yX11_reaches ∈ am_ws) : am_Snd am_P0 own cc nL ret nm pc (k_cv 236 11 4 6 (pc + 3)) := z_cvE mp236 hdg mt236 hl (ci := 11) rfl (by decide)
theorem mp237 : am_P0 237 = (yX11_goes, cX11_goes, 7, (Option.none : Option FieldType), am_look tX11_goes) := rfl
theorem zw_cv237 {own : String} {cc : ByteArray} {nL : Nat} {ret : Option FieldType} {nm : String} {pc i : Nat} (hdg : decode cc pc = .ok (.invokevirtual i, 3)) (hl : Cond.methodLink own i yX11_goes ∈ am_ws) : am_Snd am_P0 own cc nL ret nm pc (k_cv 237 11 2 7 (pc + 3)) := z_cvE mp237 hdg mt237 hl (ci := 11) rfl (by decide)
theorem mp238 : am_P0 238 = (yX11_hoursTo, cX11_hoursTo, 4, (Option.some FieldType.int), am_look tX11_hoursTo) := rfl
theorem zw_cv238 {own : String} {cc : ByteArray} {nL : Nat} {ret : Option FieldType} {nm : String} {pc i : Nat} (hdg : decode cc pc = .ok (.invokevirtual i, 3)) (hl : Cond.methodLink own i yX11_hoursTo ∈ am_ws) : am_Snd am_P0 own cc nL ret nm pc (k_cv 238 11 2 4 (pc + 3)) := z_cvE mp238 hdg mt238 hl (ci := 11) rfl (by decide)
theorem mp239 : am_P0 239 = (yX11_far, cX11_far, 7, (Option.some FieldType.int), am_look tX11_far) := rfl
theorem zw_cv239 {own : String} {cc : ByteArray} {nL : Nat} {ret : Option FieldType} {nm : String} {pc i : Nat} (hdg : decode cc pc = .ok (.invokevirtual i, 3)) (hl : Cond.methodLink own i yX11_far ∈ am_ws) : am_Snd am_P0 own cc nL ret nm pc (k_cv 239 11 5 7 (pc + 3)) := z_cvE mp239 hdg mt239 hl (ci := 11) rfl (by decide)
theorem mp240 : am_P0 240 = (yX11_fact, cX11_fact, 4, (Option.none : Option FieldType), am_look tX11_fact) := rfl
theorem zw_cv240 {own : String} {cc : ByteArray} {nL : Nat} {ret : Option FieldType} {nm : String} {pc i : Nat} (hdg : decode cc pc = .ok (.invokevirtual i, 3)) (hl : Cond.methodLink own i yX11_fact ∈ am_ws) : am_Snd am_P0 own cc nL ret nm pc (k_cv 240 11 3 4 (pc + 3)) := z_cvE mp240 hdg mt240 hl (ci := 11) rfl (by decide)
theorem mp241 : am_P0 241 = (yX11_addBooks, cX11_addBooks, 3, (Option.none : Option FieldType), am_look tX11_addBooks) := rfl
theorem zw_cv241 {own : String} {cc : ByteArray} {nL : Nat} {ret : Option FieldType} {nm : String} {pc i : Nat} (hdg : decode cc pc = .ok (.invokevirtual i, 3)) (hl : Cond.methodLink own i yX11_addBooks ∈ am_ws) : am_Snd am_P0 own cc nL ret nm pc (k_cv 241 11 1 3 (pc + 3)) := z_cvE mp241 hdg mt241 hl (ci := 11) rfl (by decide)
theorem mp242 : am_P0 242 = (yX11_addSayings, cX11_addSayings, 6, (Option.some FieldType.boolean), am_look tX11_addSayings) := rfl
theorem zw_cv242 {own : String} {cc : ByteArray} {nL : Nat} {ret : Option FieldType} {nm : String} {pc i : Nat} (hdg : decode cc pc = .ok (.invokevirtual i, 3)) (hl : Cond.methodLink own i yX11_addSayings ∈ am_ws) : am_Snd am_P0 own cc nL ret nm pc (k_cv 242 11 3 6 (pc + 3)) := z_cvE mp242 hdg mt242 hl (ci := 11) rfl (by decide)
theorem mp243 : am_P0 243 = (yX11_between, cX11_between, 4, (Option.some FieldType.int), am_look tX11_between) := rfl
theorem zw_cs243 {own : String} {cc : ByteArray} {nL : Nat} {ret : Option FieldType} {nm : String} {pc i : Nat} (hdg : decode cc pc = .ok (.invokestatic i, 3)) (hl : Cond.methodLink own i yX11_between ∈ am_ws) : am_Snd am_P0 own cc nL ret nm pc (k_cs 243 4 4 (pc + 3)) := z_csE mp243 hdg mt243 hl
theorem mp244 : am_P0 244 = (yX11_fit, cX11_fit, 4, (Option.some FieldType.boolean), am_look tX11_fit) := rfl
theorem zw_cv244 {own : String} {cc : ByteArray} {nL : Nat} {ret : Option FieldType} {nm : String} {pc i : Nat} (hdg : decode cc pc = .ok (.invokevirtual i, 3)) (hl : Cond.methodLink own i yX11_fit ∈ am_ws) : am_Snd am_P0 own cc nL ret nm pc (k_cv 244 11 1 4 (pc + 3)) := z_cvE mp244 hdg mt244 hl (ci := 11) rfl (by decide)
theorem mp245 : am_P0 245 = (yX11_booksFit, cX11_booksFit, 2, (Option.some FieldType.boolean), am_look tX11_booksFit) := rfl
theorem zw_cv245 {own : String} {cc : ByteArray} {nL : Nat} {ret : Option FieldType} {nm : String} {pc i : Nat} (hdg : decode cc pc = .ok (.invokevirtual i, 3)) (hl : Cond.methodLink own i yX11_booksFit ∈ am_ws) : am_Snd am_P0 own cc nL ret nm pc (k_cv 245 11 1 2 (pc + 3)) := z_cvE mp245 hdg mt245 hl (ci := 11) rfl (by decide)
theorem mp246 : am_P0 246 = (yX11_withBooks, cX11_withBooks, 5, (Option.some FieldType.boolean), am_look tX11_withBooks) := rfl
theorem zw_cv246 {own : String} {cc : ByteArray} {nL : Nat} {ret : Option FieldType} {nm : String} {pc i : Nat} (hdg : decode cc pc = .ok (.invokevirtual i, 3)) (hl : Cond.methodLink own i yX11_withBooks ∈ am_ws) : am_Snd am_P0 own cc nL ret nm pc (k_cv 246 11 3 5 (pc + 3)) := z_cvE mp246 hdg mt246 hl (ci := 11) rfl (by decide)
theorem mp247 : am_P0 247 = (yX11_pairs, cX11_pairs, 5, (Option.none : Option FieldType), am_look tX11_pairs) := rfl
theorem zw_cv247 {own : String} {cc : ByteArray} {nL : Nat} {ret : Option FieldType} {nm : String} {pc i : Nat} (hdg : decode cc pc = .ok (.invokevirtual i, 3)) (hl : Cond.methodLink own i yX11_pairs ∈ am_ws) : am_Snd am_P0 own cc nL ret nm pc (k_cv 247 11 1 5 (pc + 3)) := z_cvE mp247 hdg mt247 hl (ci := 11) rfl (by decide)
theorem mp248 : am_P0 248 = (yX11_keeps, cX11_keeps, 5, (Option.none : Option FieldType), am_look tX11_keeps) := rfl
theorem zw_cv248 {own : String} {cc : ByteArray} {nL : Nat} {ret : Option FieldType} {nm : String} {pc i : Nat} (hdg : decode cc pc = .ok (.invokevirtual i, 3)) (hl : Cond.methodLink own i yX11_keeps ∈ am_ws) : am_Snd am_P0 own cc nL ret nm pc (k_cv 248 11 1 5 (pc + 3)) := z_cvE mp248 hdg mt248 hl (ci := 11) rfl (by decide)
theorem mp249 : am_P0 249 = (yX11_lays_, cX11_lays_, 4, (Option.none : Option FieldType), am_look tX11_lays_) := rfl
theorem zw_cv249 {own : String} {cc : ByteArray} {nL : Nat} {ret : Option FieldType} {nm : String} {pc i : Nat} (hdg : decode cc pc = .ok (.invokevirtual i, 3)) (hl : Cond.methodLink own i yX11_lays_ ∈ am_ws) : am_Snd am_P0 own cc nL ret nm pc (k_cv 249 11 1 4 (pc + 3)) := z_cvE mp249 hdg mt249 hl (ci := 11) rfl (by decide)
theorem mp250 : am_P0 250 = (yX11_mayBe, cX11_mayBe, 5, (Option.some FieldType.boolean), am_look tX11_mayBe) := rfl
theorem zw_cv250 {own : String} {cc : ByteArray} {nL : Nat} {ret : Option FieldType} {nm : String} {pc i : Nat} (hdg : decode cc pc = .ok (.invokevirtual i, 3)) (hl : Cond.methodLink own i yX11_mayBe ∈ am_ws) : am_Snd am_P0 own cc nL ret nm pc (k_cv 250 11 3 5 (pc + 3)) := z_cvE mp250 hdg mt250 hl (ci := 11) rfl (by decide)
theorem mp251 : am_P0 251 = (yX11_cellsOf, cX11_cellsOf, 5, (Option.some FieldType.int), am_look tX11_cellsOf) := rfl
theorem zw_cv251 {own : String} {cc : ByteArray} {nL : Nat} {ret : Option FieldType} {nm : String} {pc i : Nat} (hdg : decode cc pc = .ok (.invokevirtual i, 3)) (hl : Cond.methodLink own i yX11_cellsOf ∈ am_ws) : am_Snd am_P0 own cc nL ret nm pc (k_cv 251 11 2 5 (pc + 3)) := z_cvE mp251 hdg mt251 hl (ci := 11) rfl (by decide)
theorem mp252 : am_P0 252 = (yX11_isHonest, cX11_isHonest, 4, (Option.some FieldType.boolean), am_look tX11_isHonest) := rfl
theorem zw_cv252 {own : String} {cc : ByteArray} {nL : Nat} {ret : Option FieldType} {nm : String} {pc i : Nat} (hdg : decode cc pc = .ok (.invokevirtual i, 3)) (hl : Cond.methodLink own i yX11_isHonest ∈ am_ws) : am_Snd am_P0 own cc nL ret nm pc (k_cv 252 11 2 4 (pc + 3)) := z_cvE mp252 hdg mt252 hl (ci := 11) rfl (by decide)
theorem mp253 : am_P0 253 = (yX11_ship_, cX11_ship_, 4, (Option.some FieldType.int), am_look tX11_ship_) := rfl
theorem zw_cv253 {own : String} {cc : ByteArray} {nL : Nat} {ret : Option FieldType} {nm : String} {pc i : Nat} (hdg : decode cc pc = .ok (.invokevirtual i, 3)) (hl : Cond.methodLink own i yX11_ship_ ∈ am_ws) : am_Snd am_P0 own cc nL ret nm pc (k_cv 253 11 2 4 (pc + 3)) := z_cvE mp253 hdg mt253 hl (ci := 11) rfl (by decide)
theorem mp254 : am_P0 254 = (yX11_saying, cX11_saying, 5, (Option.some FieldType.int), am_look tX11_saying) := rfl
theorem zw_cv254 {own : String} {cc : ByteArray} {nL : Nat} {ret : Option FieldType} {nm : String} {pc i : Nat} (hdg : decode cc pc = .ok (.invokevirtual i, 3)) (hl : Cond.methodLink own i yX11_saying ∈ am_ws) : am_Snd am_P0 own cc nL ret nm pc (k_cv 254 11 3 5 (pc + 3)) := z_cvE mp254 hdg mt254 hl (ci := 11) rfl (by decide)
theorem mp255 : am_P0 255 = (yX11_can, cX11_can, 4, (Option.some FieldType.int), am_look tX11_can) := rfl
theorem zw_cv255 {own : String} {cc : ByteArray} {nL : Nat} {ret : Option FieldType} {nm : String} {pc i : Nat} (hdg : decode cc pc = .ok (.invokevirtual i, 3)) (hl : Cond.methodLink own i yX11_can ∈ am_ws) : am_Snd am_P0 own cc nL ret nm pc (k_cv 255 11 3 4 (pc + 3)) := z_cvE mp255 hdg mt255 hl (ci := 11) rfl (by decide)
theorem mp256 : am_P0 256 = (yX11_reach, cX11_reach, 6, (Option.some FieldType.int), am_look tX11_reach) := rfl
theorem zw_cv256 {own : String} {cc : ByteArray} {nL : Nat} {ret : Option FieldType} {nm : String} {pc i : Nat} (hdg : decode cc pc = .ok (.invokevirtual i, 3)) (hl : Cond.methodLink own i yX11_reach ∈ am_ws) : am_Snd am_P0 own cc nL ret nm pc (k_cv 256 11 3 6 (pc + 3)) := z_cvE mp256 hdg mt256 hl (ci := 11) rfl (by decide)
theorem mp257 : am_P0 257 = (yX11_may, cX11_may, 5, (Option.some FieldType.int), am_look tX11_may) := rfl
theorem zw_cv257 {own : String} {cc : ByteArray} {nL : Nat} {ret : Option FieldType} {nm : String} {pc i : Nat} (hdg : decode cc pc = .ok (.invokevirtual i, 3)) (hl : Cond.methodLink own i yX11_may ∈ am_ws) : am_Snd am_P0 own cc nL ret nm pc (k_cv 257 11 4 5 (pc + 3)) := z_cvE mp257 hdg mt257 hl (ci := 11) rfl (by decide)
theorem mp258 : am_P0 258 = (yX11_gapsOf, cX11_gapsOf, 4, (Option.some FieldType.int), am_look tX11_gapsOf) := rfl
theorem zw_cv258 {own : String} {cc : ByteArray} {nL : Nat} {ret : Option FieldType} {nm : String} {pc i : Nat} (hdg : decode cc pc = .ok (.invokevirtual i, 3)) (hl : Cond.methodLink own i yX11_gapsOf ∈ am_ws) : am_Snd am_P0 own cc nL ret nm pc (k_cv 258 11 1 4 (pc + 3)) := z_cvE mp258 hdg mt258 hl (ci := 11) rfl (by decide)
theorem mp259 : am_P0 259 = (yX11_saidBy, cX11_saidBy, 4, (Option.some FieldType.boolean), am_look tX11_saidBy) := rfl
theorem zw_cv259 {own : String} {cc : ByteArray} {nL : Nat} {ret : Option FieldType} {nm : String} {pc i : Nat} (hdg : decode cc pc = .ok (.invokevirtual i, 3)) (hl : Cond.methodLink own i yX11_saidBy ∈ am_ws) : am_Snd am_P0 own cc nL ret nm pc (k_cv 259 11 2 4 (pc + 3)) := z_cvE mp259 hdg mt259 hl (ci := 11) rfl (by decide)
theorem mp260 : am_P0 260 = (yX11_whoOf, cX11_whoOf, 4, (Option.some FieldType.int), am_look tX11_whoOf) := rfl
theorem zw_cv260 {own : String} {cc : ByteArray} {nL : Nat} {ret : Option FieldType} {nm : String} {pc i : Nat} (hdg : decode cc pc = .ok (.invokevirtual i, 3)) (hl : Cond.methodLink own i yX11_whoOf ∈ am_ws) : am_Snd am_P0 own cc nL ret nm pc (k_cv 260 11 1 4 (pc + 3)) := z_cvE mp260 hdg mt260 hl (ci := 11) rfl (by decide)
theorem mp261 : am_P0 261 = (yX11_parts, cX11_parts, 6, (Option.some FieldType.boolean), am_look tX11_parts) := rfl
theorem zw_cv261 {own : String} {cc : ByteArray} {nL : Nat} {ret : Option FieldType} {nm : String} {pc i : Nat} (hdg : decode cc pc = .ok (.invokevirtual i, 3)) (hl : Cond.methodLink own i yX11_parts ∈ am_ws) : am_Snd am_P0 own cc nL ret nm pc (k_cv 261 11 2 6 (pc + 3)) := z_cvE mp261 hdg mt261 hl (ci := 11) rfl (by decide)
theorem mp262 : am_P0 262 = (yX11_isPair, cX11_isPair, 5, (Option.some FieldType.boolean), am_look tX11_isPair) := rfl
theorem zw_cv262 {own : String} {cc : ByteArray} {nL : Nat} {ret : Option FieldType} {nm : String} {pc i : Nat} (hdg : decode cc pc = .ok (.invokevirtual i, 3)) (hl : Cond.methodLink own i yX11_isPair ∈ am_ws) : am_Snd am_P0 own cc nL ret nm pc (k_cv 262 11 1 5 (pc + 3)) := z_cvE mp262 hdg mt262 hl (ci := 11) rfl (by decide)
theorem mp263 : am_P0 263 = (yX11_keepsSets, cX11_keepsSets, 2, (Option.none : Option FieldType), am_look tX11_keepsSets) := rfl
theorem zw_cv263 {own : String} {cc : ByteArray} {nL : Nat} {ret : Option FieldType} {nm : String} {pc i : Nat} (hdg : decode cc pc = .ok (.invokevirtual i, 3)) (hl : Cond.methodLink own i yX11_keepsSets ∈ am_ws) : am_Snd am_P0 own cc nL ret nm pc (k_cv 263 11 0 2 (pc + 3)) := z_cvE mp263 hdg mt263 hl (ci := 11) rfl (by decide)
theorem mp264 : am_P0 264 = (yX11_bringsSets, cX11_bringsSets, 2, (Option.none : Option FieldType), am_look tX11_bringsSets) := rfl
theorem zw_cv264 {own : String} {cc : ByteArray} {nL : Nat} {ret : Option FieldType} {nm : String} {pc i : Nat} (hdg : decode cc pc = .ok (.invokevirtual i, 3)) (hl : Cond.methodLink own i yX11_bringsSets ∈ am_ws) : am_Snd am_P0 own cc nL ret nm pc (k_cv 264 11 0 2 (pc + 3)) := z_cvE mp264 hdg mt264 hl (ci := 11) rfl (by decide)
theorem mp265 : am_P0 265 = (yX11_isKind, cX11_isKind, 4, (Option.some FieldType.boolean), am_look tX11_isKind) := rfl
theorem zw_cv265 {own : String} {cc : ByteArray} {nL : Nat} {ret : Option FieldType} {nm : String} {pc i : Nat} (hdg : decode cc pc = .ok (.invokevirtual i, 3)) (hl : Cond.methodLink own i yX11_isKind ∈ am_ws) : am_Snd am_P0 own cc nL ret nm pc (k_cv 265 11 2 4 (pc + 3)) := z_cvE mp265 hdg mt265 hl (ci := 11) rfl (by decide)
theorem mp266 : am_P0 266 = (yX11_judge, cX11_judge, 3, (Option.some FieldType.int), am_look tX11_judge) := rfl
theorem zw_cv266 {own : String} {cc : ByteArray} {nL : Nat} {ret : Option FieldType} {nm : String} {pc i : Nat} (hdg : decode cc pc = .ok (.invokevirtual i, 3)) (hl : Cond.methodLink own i yX11_judge ∈ am_ws) : am_Snd am_P0 own cc nL ret nm pc (k_cv 266 11 2 3 (pc + 3)) := z_cvE mp266 hdg mt266 hl (ci := 11) rfl (by decide)
theorem mp267 : am_P0 267 = (yX11_taleOf, cX11_taleOf, 5, (Option.some FieldType.int), am_look tX11_taleOf) := rfl
theorem zw_cv267 {own : String} {cc : ByteArray} {nL : Nat} {ret : Option FieldType} {nm : String} {pc i : Nat} (hdg : decode cc pc = .ok (.invokevirtual i, 3)) (hl : Cond.methodLink own i yX11_taleOf ∈ am_ws) : am_Snd am_P0 own cc nL ret nm pc (k_cv 267 11 2 5 (pc + 3)) := z_cvE mp267 hdg mt267 hl (ci := 11) rfl (by decide)
theorem mp268 : am_P0 268 = (yX11_tale, cX11_tale, 3, (Option.some FieldType.int), am_look tX11_tale) := rfl
theorem zw_cv268 {own : String} {cc : ByteArray} {nL : Nat} {ret : Option FieldType} {nm : String} {pc i : Nat} (hdg : decode cc pc = .ok (.invokevirtual i, 3)) (hl : Cond.methodLink own i yX11_tale ∈ am_ws) : am_Snd am_P0 own cc nL ret nm pc (k_cv 268 11 2 3 (pc + 3)) := z_cvE mp268 hdg mt268 hl (ci := 11) rfl (by decide)
theorem mp269 : am_P0 269 = (yX11_bars, cX11_bars, 5, (Option.some FieldType.int), am_look tX11_bars) := rfl
theorem zw_cv269 {own : String} {cc : ByteArray} {nL : Nat} {ret : Option FieldType} {nm : String} {pc i : Nat} (hdg : decode cc pc = .ok (.invokevirtual i, 3)) (hl : Cond.methodLink own i yX11_bars ∈ am_ws) : am_Snd am_P0 own cc nL ret nm pc (k_cv 269 11 1 5 (pc + 3)) := z_cvE mp269 hdg mt269 hl (ci := 11) rfl (by decide)
theorem mp270 : am_P0 270 = (yX11_clash, cX11_clash, 8, (Option.some FieldType.int), am_look tX11_clash) := rfl
theorem zw_cv270 {own : String} {cc : ByteArray} {nL : Nat} {ret : Option FieldType} {nm : String} {pc i : Nat} (hdg : decode cc pc = .ok (.invokevirtual i, 3)) (hl : Cond.methodLink own i yX11_clash ∈ am_ws) : am_Snd am_P0 own cc nL ret nm pc (k_cv 270 11 2 8 (pc + 3)) := z_cvE mp270 hdg mt270 hl (ci := 11) rfl (by decide)
theorem mp271 : am_P0 271 = (yX11_who, cX11_who, 2, (Option.some FieldType.int), am_look tX11_who) := rfl
theorem zw_cv271 {own : String} {cc : ByteArray} {nL : Nat} {ret : Option FieldType} {nm : String} {pc i : Nat} (hdg : decode cc pc = .ok (.invokevirtual i, 3)) (hl : Cond.methodLink own i yX11_who ∈ am_ws) : am_Snd am_P0 own cc nL ret nm pc (k_cv 271 11 1 2 (pc + 3)) := z_cvE mp271 hdg mt271 hl (ci := 11) rfl (by decide)
theorem mp272 : am_P0 272 = (yX11_isFor, cX11_isFor, 4, (Option.some FieldType.boolean), am_look tX11_isFor) := rfl
theorem zw_cv272 {own : String} {cc : ByteArray} {nL : Nat} {ret : Option FieldType} {nm : String} {pc i : Nat} (hdg : decode cc pc = .ok (.invokevirtual i, 3)) (hl : Cond.methodLink own i yX11_isFor ∈ am_ws) : am_Snd am_P0 own cc nL ret nm pc (k_cv 272 11 2 4 (pc + 3)) := z_cvE mp272 hdg mt272 hl (ci := 11) rfl (by decide)
theorem mp273 : am_P0 273 = (yX11_swap, cX11_swap, 3, (Option.some FieldType.int), am_look tX11_swap) := rfl
theorem zw_cv273 {own : String} {cc : ByteArray} {nL : Nat} {ret : Option FieldType} {nm : String} {pc i : Nat} (hdg : decode cc pc = .ok (.invokevirtual i, 3)) (hl : Cond.methodLink own i yX11_swap ∈ am_ws) : am_Snd am_P0 own cc nL ret nm pc (k_cv 273 11 2 3 (pc + 3)) := z_cvE mp273 hdg mt273 hl (ci := 11) rfl (by decide)
theorem mp274 : am_P0 274 = (yX11_kinds, cX11_kinds, 4, (Option.some FieldType.int), am_look tX11_kinds) := rfl
theorem zw_cv274 {own : String} {cc : ByteArray} {nL : Nat} {ret : Option FieldType} {nm : String} {pc i : Nat} (hdg : decode cc pc = .ok (.invokevirtual i, 3)) (hl : Cond.methodLink own i yX11_kinds ∈ am_ws) : am_Snd am_P0 own cc nL ret nm pc (k_cv 274 11 1 4 (pc + 3)) := z_cvE mp274 hdg mt274 hl (ci := 11) rfl (by decide)
theorem mp275 : am_P0 275 = (yX11_liesOf, cX11_liesOf, 2, (Option.some FieldType.int), am_look tX11_liesOf) := rfl
theorem zw_cv275 {own : String} {cc : ByteArray} {nL : Nat} {ret : Option FieldType} {nm : String} {pc i : Nat} (hdg : decode cc pc = .ok (.invokevirtual i, 3)) (hl : Cond.methodLink own i yX11_liesOf ∈ am_ws) : am_Snd am_P0 own cc nL ret nm pc (k_cv 275 11 1 2 (pc + 3)) := z_cvE mp275 hdg mt275 hl (ci := 11) rfl (by decide)
theorem mp276 : am_P0 276 = (yX11_lies, cX11_lies, 3, (Option.some FieldType.int), am_look tX11_lies) := rfl
theorem zw_cv276 {own : String} {cc : ByteArray} {nL : Nat} {ret : Option FieldType} {nm : String} {pc i : Nat} (hdg : decode cc pc = .ok (.invokevirtual i, 3)) (hl : Cond.methodLink own i yX11_lies ∈ am_ws) : am_Snd am_P0 own cc nL ret nm pc (k_cv 276 11 0 3 (pc + 3)) := z_cvE mp276 hdg mt276 hl (ci := 11) rfl (by decide)
theorem mp277 : am_P0 277 = (yX11_changes, cX11_changes, 6, (Option.some FieldType.boolean), am_look tX11_changes) := rfl
theorem zw_cv277 {own : String} {cc : ByteArray} {nL : Nat} {ret : Option FieldType} {nm : String} {pc i : Nat} (hdg : decode cc pc = .ok (.invokevirtual i, 3)) (hl : Cond.methodLink own i yX11_changes ∈ am_ws) : am_Snd am_P0 own cc nL ret nm pc (k_cv 277 11 3 6 (pc + 3)) := z_cvE mp277 hdg mt277 hl (ci := 11) rfl (by decide)
theorem mp278 : am_P0 278 = (yX11_met, cX11_met, 10, (Option.some FieldType.int), am_look tX11_met) := rfl
theorem zw_cv278 {own : String} {cc : ByteArray} {nL : Nat} {ret : Option FieldType} {nm : String} {pc i : Nat} (hdg : decode cc pc = .ok (.invokevirtual i, 3)) (hl : Cond.methodLink own i yX11_met ∈ am_ws) : am_Snd am_P0 own cc nL ret nm pc (k_cv 278 11 3 10 (pc + 3)) := z_cvE mp278 hdg mt278 hl (ci := 11) rfl (by decide)
theorem mp279 : am_P0 279 = (yX11_explains, cX11_explains, 4, (Option.none : Option FieldType), am_look tX11_explains) := rfl
theorem zw_cv279 {own : String} {cc : ByteArray} {nL : Nat} {ret : Option FieldType} {nm : String} {pc i : Nat} (hdg : decode cc pc = .ok (.invokevirtual i, 3)) (hl : Cond.methodLink own i yX11_explains ∈ am_ws) : am_Snd am_P0 own cc nL ret nm pc (k_cv 279 11 0 4 (pc + 3)) := z_cvE mp279 hdg mt279 hl (ci := 11) rfl (by decide)
theorem mp280 : am_P0 280 = (yX11_sighting, cX11_sighting, 4, (Option.some FieldType.int), am_look tX11_sighting) := rfl
theorem zw_cv280 {own : String} {cc : ByteArray} {nL : Nat} {ret : Option FieldType} {nm : String} {pc i : Nat} (hdg : decode cc pc = .ok (.invokevirtual i, 3)) (hl : Cond.methodLink own i yX11_sighting ∈ am_ws) : am_Snd am_P0 own cc nL ret nm pc (k_cv 280 11 2 4 (pc + 3)) := z_cvE mp280 hdg mt280 hl (ci := 11) rfl (by decide)
theorem mp281 : am_P0 281 = (yX11_strange, cX11_strange, 3, (Option.some FieldType.int), am_look tX11_strange) := rfl
theorem zw_cv281 {own : String} {cc : ByteArray} {nL : Nat} {ret : Option FieldType} {nm : String} {pc i : Nat} (hdg : decode cc pc = .ok (.invokevirtual i, 3)) (hl : Cond.methodLink own i yX11_strange ∈ am_ws) : am_Snd am_P0 own cc nL ret nm pc (k_cv 281 11 0 3 (pc + 3)) := z_cvE mp281 hdg mt281 hl (ci := 11) rfl (by decide)
theorem mp282 : am_P0 282 = (yX11_doubted, cX11_doubted, 5, (Option.some FieldType.int), am_look tX11_doubted) := rfl
theorem zw_cv282 {own : String} {cc : ByteArray} {nL : Nat} {ret : Option FieldType} {nm : String} {pc i : Nat} (hdg : decode cc pc = .ok (.invokevirtual i, 3)) (hl : Cond.methodLink own i yX11_doubted ∈ am_ws) : am_Snd am_P0 own cc nL ret nm pc (k_cv 282 11 0 5 (pc + 3)) := z_cvE mp282 hdg mt282 hl (ci := 11) rfl (by decide)
theorem mp283 : am_P0 283 = (yX11_gaps, cX11_gaps, 4, (Option.some FieldType.int), am_look tX11_gaps) := rfl
theorem zw_cv283 {own : String} {cc : ByteArray} {nL : Nat} {ret : Option FieldType} {nm : String} {pc i : Nat} (hdg : decode cc pc = .ok (.invokevirtual i, 3)) (hl : Cond.methodLink own i yX11_gaps ∈ am_ws) : am_Snd am_P0 own cc nL ret nm pc (k_cv 283 11 2 4 (pc + 3)) := z_cvE mp283 hdg mt283 hl (ci := 11) rfl (by decide)
theorem mp284 : am_P0 284 = (yX11_chanceOf, cX11_chanceOf, 7, (Option.some FieldType.long), am_look tX11_chanceOf) := rfl
theorem zw_cv284 {own : String} {cc : ByteArray} {nL : Nat} {ret : Option FieldType} {nm : String} {pc i : Nat} (hdg : decode cc pc = .ok (.invokevirtual i, 3)) (hl : Cond.methodLink own i yX11_chanceOf ∈ am_ws) : am_Snd am_P0 own cc nL ret nm pc (k_cv 284 11 1 7 (pc + 3)) := z_cvE mp284 hdg mt284 hl (ci := 11) rfl (by decide)
theorem mp285 : am_P0 285 = (yX11_chance, cX11_chance, 2, (Option.some FieldType.long), am_look tX11_chance) := rfl
theorem zw_cv285 {own : String} {cc : ByteArray} {nL : Nat} {ret : Option FieldType} {nm : String} {pc i : Nat} (hdg : decode cc pc = .ok (.invokevirtual i, 3)) (hl : Cond.methodLink own i yX11_chance ∈ am_ws) : am_Snd am_P0 own cc nL ret nm pc (k_cv 285 11 1 2 (pc + 3)) := z_cvE mp285 hdg mt285 hl (ci := 11) rfl (by decide)
theorem mp286 : am_P0 286 = (yX11_beyond, cX11_beyond, 3, (Option.some FieldType.int), am_look tX11_beyond) := rfl
theorem zw_cv286 {own : String} {cc : ByteArray} {nL : Nat} {ret : Option FieldType} {nm : String} {pc i : Nat} (hdg : decode cc pc = .ok (.invokevirtual i, 3)) (hl : Cond.methodLink own i yX11_beyond ∈ am_ws) : am_Snd am_P0 own cc nL ret nm pc (k_cv 286 11 0 3 (pc + 3)) := z_cvE mp286 hdg mt286 hl (ci := 11) rfl (by decide)
theorem mp287 : am_P0 287 = (yX11_settlesAll, cX11_settlesAll, 4, (Option.none : Option FieldType), am_look tX11_settlesAll) := rfl
theorem zw_cv287 {own : String} {cc : ByteArray} {nL : Nat} {ret : Option FieldType} {nm : String} {pc i : Nat} (hdg : decode cc pc = .ok (.invokevirtual i, 3)) (hl : Cond.methodLink own i yX11_settlesAll ∈ am_ws) : am_Snd am_P0 own cc nL ret nm pc (k_cv 287 11 0 4 (pc + 3)) := z_cvE mp287 hdg mt287 hl (ci := 11) rfl (by decide)
theorem mp288 : am_P0 288 = (yX11_settles, cX11_settles, 4, (Option.some FieldType.int), am_look tX11_settles) := rfl
theorem zw_cv288 {own : String} {cc : ByteArray} {nL : Nat} {ret : Option FieldType} {nm : String} {pc i : Nat} (hdg : decode cc pc = .ok (.invokevirtual i, 3)) (hl : Cond.methodLink own i yX11_settles ∈ am_ws) : am_Snd am_P0 own cc nL ret nm pc (k_cv 288 11 3 4 (pc + 3)) := z_cvE mp288 hdg mt288 hl (ci := 11) rfl (by decide)
theorem mp289 : am_P0 289 = (yX11_next, cX11_next, 7, (Option.some FieldType.int), am_look tX11_next) := rfl
theorem zw_cv289 {own : String} {cc : ByteArray} {nL : Nat} {ret : Option FieldType} {nm : String} {pc i : Nat} (hdg : decode cc pc = .ok (.invokevirtual i, 3)) (hl : Cond.methodLink own i yX11_next ∈ am_ws) : am_Snd am_P0 own cc nL ret nm pc (k_cv 289 11 1 7 (pc + 3)) := z_cvE mp289 hdg mt289 hl (ci := 11) rfl (by decide)
theorem mp290 : am_P0 290 = (yX11_offOf, cX11_offOf, 6, (Option.some FieldType.int), am_look tX11_offOf) := rfl
theorem zw_cv290 {own : String} {cc : ByteArray} {nL : Nat} {ret : Option FieldType} {nm : String} {pc i : Nat} (hdg : decode cc pc = .ok (.invokevirtual i, 3)) (hl : Cond.methodLink own i yX11_offOf ∈ am_ws) : am_Snd am_P0 own cc nL ret nm pc (k_cv 290 11 1 6 (pc + 3)) := z_cvE mp290 hdg mt290 hl (ci := 11) rfl (by decide)
theorem mp291 : am_P0 291 = (yX11_off, cX11_off, 2, (Option.some FieldType.int), am_look tX11_off) := rfl
theorem zw_cv291 {own : String} {cc : ByteArray} {nL : Nat} {ret : Option FieldType} {nm : String} {pc i : Nat} (hdg : decode cc pc = .ok (.invokevirtual i, 3)) (hl : Cond.methodLink own i yX11_off ∈ am_ws) : am_Snd am_P0 own cc nL ret nm pc (k_cv 291 11 1 2 (pc + 3)) := z_cvE mp291 hdg mt291 hl (ci := 11) rfl (by decide)
theorem mp292 : am_P0 292 = (yX11_whose, cX11_whose, 4, (Option.some FieldType.int), am_look tX11_whose) := rfl
theorem zw_cv292 {own : String} {cc : ByteArray} {nL : Nat} {ret : Option FieldType} {nm : String} {pc i : Nat} (hdg : decode cc pc = .ok (.invokevirtual i, 3)) (hl : Cond.methodLink own i yX11_whose ∈ am_ws) : am_Snd am_P0 own cc nL ret nm pc (k_cv 292 11 0 4 (pc + 3)) := z_cvE mp292 hdg mt292 hl (ci := 11) rfl (by decide)
theorem mp293 : am_P0 293 = (yX11_says_, cX11_says_, 5, (Option.none : Option FieldType), am_look tX11_says_) := rfl
theorem zw_cv293 {own : String} {cc : ByteArray} {nL : Nat} {ret : Option FieldType} {nm : String} {pc i : Nat} (hdg : decode cc pc = .ok (.invokevirtual i, 3)) (hl : Cond.methodLink own i yX11_says_ ∈ am_ws) : am_Snd am_P0 own cc nL ret nm pc (k_cv 293 11 4 5 (pc + 3)) := z_cvE mp293 hdg mt293 hl (ci := 11) rfl (by decide)
theorem mp294 : am_P0 294 = (yX11_add_, cX11_add_, 6, (Option.some FieldType.int), am_look tX11_add_) := rfl
theorem zw_cv294 {own : String} {cc : ByteArray} {nL : Nat} {ret : Option FieldType} {nm : String} {pc i : Nat} (hdg : decode cc pc = .ok (.invokevirtual i, 3)) (hl : Cond.methodLink own i yX11_add_ ∈ am_ws) : am_Snd am_P0 own cc nL ret nm pc (k_cv 294 11 5 6 (pc + 3)) := z_cvE mp294 hdg mt294 hl (ci := 11) rfl (by decide)
theorem mp295 : am_P0 295 = (yX11_drop, cX11_drop, 4, (Option.some FieldType.int), am_look tX11_drop) := rfl
theorem zw_cv295 {own : String} {cc : ByteArray} {nL : Nat} {ret : Option FieldType} {nm : String} {pc i : Nat} (hdg : decode cc pc = .ok (.invokevirtual i, 3)) (hl : Cond.methodLink own i yX11_drop ∈ am_ws) : am_Snd am_P0 own cc nL ret nm pc (k_cv 295 11 2 4 (pc + 3)) := z_cvE mp295 hdg mt295 hl (ci := 11) rfl (by decide)
theorem mp296 : am_P0 296 = (yX11_spots, cX11_spots, 5, (Option.none : Option FieldType), am_look tX11_spots) := rfl
theorem zw_cv296 {own : String} {cc : ByteArray} {nL : Nat} {ret : Option FieldType} {nm : String} {pc i : Nat} (hdg : decode cc pc = .ok (.invokevirtual i, 3)) (hl : Cond.methodLink own i yX11_spots ∈ am_ws) : am_Snd am_P0 own cc nL ret nm pc (k_cv 296 11 3 5 (pc + 3)) := z_cvE mp296 hdg mt296 hl (ci := 11) rfl (by decide)
theorem mp297 : am_P0 297 = (yX11_spot, cX11_spot, 5, (Option.some FieldType.int), am_look tX11_spot) := rfl
theorem zw_cv297 {own : String} {cc : ByteArray} {nL : Nat} {ret : Option FieldType} {nm : String} {pc i : Nat} (hdg : decode cc pc = .ok (.invokevirtual i, 3)) (hl : Cond.methodLink own i yX11_spot ∈ am_ws) : am_Snd am_P0 own cc nL ret nm pc (k_cv 297 11 4 5 (pc + 3)) := z_cvE mp297 hdg mt297 hl (ci := 11) rfl (by decide)
theorem mp298 : am_P0 298 = (yX11_writes, cX11_writes, 2, (Option.none : Option FieldType), am_look tX11_writes) := rfl
theorem zw_cv298 {own : String} {cc : ByteArray} {nL : Nat} {ret : Option FieldType} {nm : String} {pc i : Nat} (hdg : decode cc pc = .ok (.invokevirtual i, 3)) (hl : Cond.methodLink own i yX11_writes ∈ am_ws) : am_Snd am_P0 own cc nL ret nm pc (k_cv 298 11 1 2 (pc + 3)) := z_cvE mp298 hdg mt298 hl (ci := 11) rfl (by decide)
theorem mp299 : am_P0 299 = (yX11_image, cX11_image, 3, (Option.some FieldType.int), am_look tX11_image) := rfl
theorem zw_cv299 {own : String} {cc : ByteArray} {nL : Nat} {ret : Option FieldType} {nm : String} {pc i : Nat} (hdg : decode cc pc = .ok (.invokevirtual i, 3)) (hl : Cond.methodLink own i yX11_image ∈ am_ws) : am_Snd am_P0 own cc nL ret nm pc (k_cv 299 11 0 3 (pc + 3)) := z_cvE mp299 hdg mt299 hl (ci := 11) rfl (by decide)
theorem mp300 : am_P0 300 = (yX11_octet, cX11_octet, 2, (Option.some FieldType.int), am_look tX11_octet) := rfl
theorem zw_cv300 {own : String} {cc : ByteArray} {nL : Nat} {ret : Option FieldType} {nm : String} {pc i : Nat} (hdg : decode cc pc = .ok (.invokevirtual i, 3)) (hl : Cond.methodLink own i yX11_octet ∈ am_ws) : am_Snd am_P0 own cc nL ret nm pc (k_cv 300 11 1 2 (pc + 3)) := z_cvE mp300 hdg mt300 hl (ci := 11) rfl (by decide)
theorem mp301 : am_P0 301 = (yX11_isWhole, cX11_isWhole, 7, (Option.some FieldType.boolean), am_look tX11_isWhole) := rfl
theorem zw_cv301 {own : String} {cc : ByteArray} {nL : Nat} {ret : Option FieldType} {nm : String} {pc i : Nat} (hdg : decode cc pc = .ok (.invokevirtual i, 3)) (hl : Cond.methodLink own i yX11_isWhole ∈ am_ws) : am_Snd am_P0 own cc nL ret nm pc (k_cv 301 11 1 7 (pc + 3)) := z_cvE mp301 hdg mt301 hl (ci := 11) rfl (by decide)
theorem mp302 : am_P0 302 = (yX11_on, cX11_on, 4, (Option.some FieldType.boolean), am_look tX11_on) := rfl
theorem zw_cv302 {own : String} {cc : ByteArray} {nL : Nat} {ret : Option FieldType} {nm : String} {pc i : Nat} (hdg : decode cc pc = .ok (.invokevirtual i, 3)) (hl : Cond.methodLink own i yX11_on ∈ am_ws) : am_Snd am_P0 own cc nL ret nm pc (k_cv 302 11 0 4 (pc + 3)) := z_cvE mp302 hdg mt302 hl (ci := 11) rfl (by decide)
theorem mp303 : am_P0 303 = (yJ13_bitCount_95d88, cJ13_bitCount_95d88, 2, (Option.some FieldType.int), am_look tJ13_bitCount_95d88) := rfl
theorem zw_cs303 {own : String} {cc : ByteArray} {nL : Nat} {ret : Option FieldType} {nm : String} {pc i : Nat} (hdg : decode cc pc = .ok (.invokestatic i, 3)) (hl : Cond.methodLink own i yJ13_bitCount_95d88 ∈ am_ws) : am_Snd am_P0 own cc nL ret nm pc (k_cs 303 1 2 (pc + 3)) := z_csE mp303 hdg mt303 hl
theorem mp304 : am_P0 304 = (yJ9_floorDiv_f86c9, cJ9_floorDiv_f86c9, 6, (Option.some FieldType.long), am_look tJ9_floorDiv_f86c9) := rfl
theorem zw_cs304 {own : String} {cc : ByteArray} {nL : Nat} {ret : Option FieldType} {nm : String} {pc i : Nat} (hdg : decode cc pc = .ok (.invokestatic i, 3)) (hl : Cond.methodLink own i yJ9_floorDiv_f86c9 ∈ am_ws) : am_Snd am_P0 own cc nL ret nm pc (k_cs 304 2 6 (pc + 3)) := z_csE mp304 hdg mt304 hl
theorem mp305 : am_P0 305 = (yJ9_floorMod_f86c9, cJ9_floorMod_f86c9, 6, (Option.some FieldType.long), am_look tJ9_floorMod_f86c9) := rfl
theorem zw_cs305 {own : String} {cc : ByteArray} {nL : Nat} {ret : Option FieldType} {nm : String} {pc i : Nat} (hdg : decode cc pc = .ok (.invokestatic i, 3)) (hl : Cond.methodLink own i yJ9_floorMod_f86c9 ∈ am_ws) : am_Snd am_P0 own cc nL ret nm pc (k_cs 305 2 6 (pc + 3)) := z_csE mp305 hdg mt305 hl
theorem mp306 : am_P0 306 = (yJ9_abs_0f7a4, cJ9_abs_0f7a4, 1, (Option.some FieldType.int), am_look tJ9_abs_0f7a4) := rfl
theorem zw_cs306 {own : String} {cc : ByteArray} {nL : Nat} {ret : Option FieldType} {nm : String} {pc i : Nat} (hdg : decode cc pc = .ok (.invokestatic i, 3)) (hl : Cond.methodLink own i yJ9_abs_0f7a4 ∈ am_ws) : am_Snd am_P0 own cc nL ret nm pc (k_cs 306 1 1 (pc + 3)) := z_csE mp306 hdg mt306 hl
theorem mp307 : am_P0 307 = (yJ9_max_7cf53, cJ9_max_7cf53, 2, (Option.some FieldType.int), am_look tJ9_max_7cf53) := rfl
theorem zw_cs307 {own : String} {cc : ByteArray} {nL : Nat} {ret : Option FieldType} {nm : String} {pc i : Nat} (hdg : decode cc pc = .ok (.invokestatic i, 3)) (hl : Cond.methodLink own i yJ9_max_7cf53 ∈ am_ws) : am_Snd am_P0 own cc nL ret nm pc (k_cs 307 2 2 (pc + 3)) := z_csE mp307 hdg mt307 hl
theorem mp308 : am_P0 308 = (yJ9_max_f86c9, cJ9_max_f86c9, 4, (Option.some FieldType.long), am_look tJ9_max_f86c9) := rfl
theorem zw_cs308 {own : String} {cc : ByteArray} {nL : Nat} {ret : Option FieldType} {nm : String} {pc i : Nat} (hdg : decode cc pc = .ok (.invokestatic i, 3)) (hl : Cond.methodLink own i yJ9_max_f86c9 ∈ am_ws) : am_Snd am_P0 own cc nL ret nm pc (k_cs 308 2 4 (pc + 3)) := z_csE mp308 hdg mt308 hl
theorem mp309 : am_P0 309 = (yJ9_min_7cf53, cJ9_min_7cf53, 2, (Option.some FieldType.int), am_look tJ9_min_7cf53) := rfl
theorem zw_cs309 {own : String} {cc : ByteArray} {nL : Nat} {ret : Option FieldType} {nm : String} {pc i : Nat} (hdg : decode cc pc = .ok (.invokestatic i, 3)) (hl : Cond.methodLink own i yJ9_min_7cf53 ∈ am_ws) : am_Snd am_P0 own cc nL ret nm pc (k_cs 309 2 2 (pc + 3)) := z_csE mp309 hdg mt309 hl
theorem mp310 : am_P0 310 = (yJ9_min_f86c9, cJ9_min_f86c9, 4, (Option.some FieldType.long), am_look tJ9_min_f86c9) := rfl
theorem zw_cs310 {own : String} {cc : ByteArray} {nL : Nat} {ret : Option FieldType} {nm : String} {pc i : Nat} (hdg : decode cc pc = .ok (.invokestatic i, 3)) (hl : Cond.methodLink own i yJ9_min_f86c9 ∈ am_ws) : am_Snd am_P0 own cc nL ret nm pc (k_cs 310 2 4 (pc + 3)) := z_csE mp310 hdg mt310 hl
theorem mp315 : am_P0 315 = (yJ0_checkIndex_df160, cJ0_checkIndex_df160, 2, (Option.none : Option FieldType), am_look tJ0_checkIndex_df160) := rfl
theorem zw_cs315 {own : String} {cc : ByteArray} {nL : Nat} {ret : Option FieldType} {nm : String} {pc i : Nat} (hdg : decode cc pc = .ok (.invokestatic i, 3)) (hl : Cond.methodLink own i yJ0_checkIndex_df160 ∈ am_ws) : am_Snd am_P0 own cc nL ret nm pc (k_cs 315 2 2 (pc + 3)) := z_csE mp315 hdg mt315 hl
theorem mp316 : am_P0 316 = (yJ1_charAt_3b067, cJ1_charAt_3b067, 2, (Option.some FieldType.char), am_look tJ1_charAt_3b067) := rfl
theorem zw_cs316 {own : String} {cc : ByteArray} {nL : Nat} {ret : Option FieldType} {nm : String} {pc i : Nat} (hdg : decode cc pc = .ok (.invokestatic i, 3)) (hl : Cond.methodLink own i yJ1_charAt_3b067 ∈ am_ws) : am_Snd am_P0 own cc nL ret nm pc (k_cs 316 2 2 (pc + 3)) := z_csE mp316 hdg mt316 hl
theorem mp321 : am_P0 321 = (yJ7_rangeCheck_23922, cJ7_rangeCheck_23922, 3, (Option.none : Option FieldType), am_look tJ7_rangeCheck_23922) := rfl
theorem zw_cs321 {own : String} {cc : ByteArray} {nL : Nat} {ret : Option FieldType} {nm : String} {pc i : Nat} (hdg : decode cc pc = .ok (.invokestatic i, 3)) (hl : Cond.methodLink own i yJ7_rangeCheck_23922 ∈ am_ws) : am_Snd am_P0 own cc nL ret nm pc (k_cs 321 3 3 (pc + 3)) := z_csE mp321 hdg mt321 hl
theorem mp322 : am_P0 322 = (yJ7_fill_d0a16, cJ7_fill_d0a16, 5, (Option.none : Option FieldType), am_look tJ7_fill_d0a16) := rfl
theorem zw_cs322 {own : String} {cc : ByteArray} {nL : Nat} {ret : Option FieldType} {nm : String} {pc i : Nat} (hdg : decode cc pc = .ok (.invokestatic i, 3)) (hl : Cond.methodLink own i yJ7_fill_d0a16 ∈ am_ws) : am_Snd am_P0 own cc nL ret nm pc (k_cs 322 2 5 (pc + 3)) := z_csE mp322 hdg mt322 hl
theorem mp323 : am_P0 323 = (yJ7_fill_bad5a, cJ7_fill_bad5a, 6, (Option.none : Option FieldType), am_look tJ7_fill_bad5a) := rfl
theorem zw_cs323 {own : String} {cc : ByteArray} {nL : Nat} {ret : Option FieldType} {nm : String} {pc i : Nat} (hdg : decode cc pc = .ok (.invokestatic i, 3)) (hl : Cond.methodLink own i yJ7_fill_bad5a ∈ am_ws) : am_Snd am_P0 own cc nL ret nm pc (k_cs 323 4 6 (pc + 3)) := z_csE mp323 hdg mt323 hl
theorem mp324 : am_P0 324 = (yJ7_fill_53178, cJ7_fill_53178, 4, (Option.none : Option FieldType), am_look tJ7_fill_53178) := rfl
theorem zw_cs324 {own : String} {cc : ByteArray} {nL : Nat} {ret : Option FieldType} {nm : String} {pc i : Nat} (hdg : decode cc pc = .ok (.invokestatic i, 3)) (hl : Cond.methodLink own i yJ7_fill_53178 ∈ am_ws) : am_Snd am_P0 own cc nL ret nm pc (k_cs 324 2 4 (pc + 3)) := z_csE mp324 hdg mt324 hl
theorem mp325 : am_P0 325 = (yJ3_checkIndex_8e157, cJ3_checkIndex_8e157, 3, (Option.some FieldType.int), am_look tJ3_checkIndex_8e157) := rfl
theorem zw_cs325 {own : String} {cc : ByteArray} {nL : Nat} {ret : Option FieldType} {nm : String} {pc i : Nat} (hdg : decode cc pc = .ok (.invokestatic i, 3)) (hl : Cond.methodLink own i yJ3_checkIndex_8e157 ∈ am_ws) : am_Snd am_P0 own cc nL ret nm pc (k_cs 325 3 3 (pc + 3)) := z_csE mp325 hdg mt325 hl
