/-! every method of the program is followed (by program: wip/whole/tools/gen_hp.py) -/
def am_PR (q : am_Y) : Prop := plainFor q.1 = true ∧ ∀ pc, am_Snd am_P0 q.1.cls q.2.1 q.2.2.1 q.2.2.2.1 q.1.name pc (q.2.2.2.2 pc)
theorem am_Snd_no {P : Nat → am_Y} {own : String} {cc : ByteArray} {nL : Nat} {ret : Option FieldType} {nm : String} {pc : Nat} : am_Snd P own cc nL ret nm pc (fun _ _ _ => none) := fun lv st M => ⟨fun _ _ _ _ h => (by cases h), fun _ _ h => (by cases h), fun _ _ _ _ _ _ h => (by cases h)⟩
theorem am_lkS {P : Nat → am_Y} {own : String} {cc : ByteArray} {nL : Nat} {ret : Option FieldType} {nm : String} : ∀ {t : List (Nat × am_Act)}, (∀ q ∈ t, am_Snd P own cc nL ret nm q.1 q.2) → ∀ pc, am_Snd P own cc nL ret nm pc (am_look t pc) := by
  intro t
  induction t with
  | nil => intro _ pc; exact am_Snd_no
  | cons q t ih =>
    intro h pc
    obtain ⟨k, a⟩ := q
    rw [am_look]
    by_cases e : pc = k
    · rw [if_pos e, e]; exact h (k, a) List.mem_cons_self
    · rw [if_neg e]; exact ih (fun x hx => h x (List.mem_cons_of_mem _ hx)) pc
theorem am_pf0 : ([yJ13_bitCount_95d88, yJ9_floorDiv_f86c9, yJ9_floorMod_f86c9, yJ9_abs_0f7a4, yJ9_max_7cf53, yJ9_max_f86c9, yJ9_min_7cf53, yJ9_min_f86c9, yJ0_length_8abf5, yJ0_charAt_5068e, yJ0_coder_7d493, yJ0_isLatin1_aae02, yJ0_checkIndex_df160, yJ1_charAt_3b067, yJ2_getChar_3b067, yJ2_length_9d52b, yJ2_charAt_3b067, yJ2_checkIndex_2214a, yJ7_rangeCheck_23922, yJ7_fill_d0a16, yJ7_fill_bad5a, yJ7_fill_53178, yJ3_checkIndex_8e157].all plainFor) = true := by decide +kernel
theorem am_pf : ∀ y ∈ [yJ13_bitCount_95d88, yJ9_floorDiv_f86c9, yJ9_floorMod_f86c9, yJ9_abs_0f7a4, yJ9_max_7cf53, yJ9_max_f86c9, yJ9_min_7cf53, yJ9_min_f86c9, yJ0_length_8abf5, yJ0_charAt_5068e, yJ0_coder_7d493, yJ0_isLatin1_aae02, yJ0_checkIndex_df160, yJ1_charAt_3b067, yJ2_getChar_3b067, yJ2_length_9d52b, yJ2_charAt_3b067, yJ2_checkIndex_2214a, yJ7_rangeCheck_23922, yJ7_fill_d0a16, yJ7_fill_bad5a, yJ7_fill_53178, yJ3_checkIndex_8e157], plainFor y = true := List.all_eq_true.mp am_pf0
theorem pnX0 : plainName RX0 = true := by decide +kernel
theorem pnX1 : plainName RX1 = true := by decide +kernel
theorem pnX2 : plainName RX2 = true := by decide +kernel
theorem pnX3 : plainName RX3 = true := by decide +kernel
theorem pnX4 : plainName RX4 = true := by decide +kernel
theorem pnX5 : plainName RX5 = true := by decide +kernel
theorem pnX6 : plainName RX6 = true := by decide +kernel
theorem pnX7 : plainName RX7 = true := by decide +kernel
theorem pnX8 : plainName RX8 = true := by decide +kernel
theorem pnX9 : plainName RX9 = true := by decide +kernel
theorem pnX10 : plainName RX10 = true := by decide +kernel
theorem pnX11 : plainName RX11 = true := by decide +kernel
theorem am_pr0 : ∀ q ∈ am_pg0, am_PR q := by
  unfold am_pg0
  refine List.forall_mem_cons.mpr ⟨⟨plainFor_of_name (x := yX0_init) pnX0, am_lkS sn_tX0_init⟩, ?_⟩
  refine List.forall_mem_cons.mpr ⟨⟨plainFor_of_name (x := yX0_emit) pnX0, am_lkS sn_tX0_emit⟩, ?_⟩
  refine List.forall_mem_cons.mpr ⟨⟨plainFor_of_name (x := yX0_valueOf) pnX0, am_lkS sn_tX0_valueOf⟩, ?_⟩
  refine List.forall_mem_cons.mpr ⟨⟨plainFor_of_name (x := yX0_partOf) pnX0, am_lkS sn_tX0_partOf⟩, ?_⟩
  refine List.forall_mem_cons.mpr ⟨⟨plainFor_of_name (x := yX0_joined) pnX0, am_lkS sn_tX0_joined⟩, ?_⟩
  refine List.forall_mem_cons.mpr ⟨⟨plainFor_of_name (x := yX1_init) pnX1, am_lkS sn_tX1_init⟩, ?_⟩
  refine List.forall_mem_cons.mpr ⟨⟨plainFor_of_name (x := yX1_clear) pnX1, am_lkS sn_tX1_clear⟩, ?_⟩
  refine List.forall_mem_cons.mpr ⟨⟨plainFor_of_name (x := yX1_put) pnX1, am_lkS sn_tX1_put⟩, ?_⟩
  refine List.forall_mem_cons.mpr ⟨⟨plainFor_of_name (x := yX1_holds) pnX1, am_lkS sn_tX1_holds⟩, ?_⟩
  refine List.forall_mem_cons.mpr ⟨⟨plainFor_of_name (x := yX2_init) pnX2, am_lkS sn_tX2_init⟩, ?_⟩
  refine List.forall_mem_cons.mpr ⟨⟨plainFor_of_name (x := yX2_open) pnX2, am_lkS sn_tX2_open⟩, ?_⟩
  refine List.forall_mem_cons.mpr ⟨⟨plainFor_of_name (x := yX2_readStatement) pnX2, am_lkS sn_tX2_readStatement⟩, ?_⟩
  refine List.forall_mem_cons.mpr ⟨⟨plainFor_of_name (x := yX2_readSize) pnX2, am_lkS sn_tX2_readSize⟩, ?_⟩
  refine List.forall_mem_cons.mpr ⟨⟨plainFor_of_name (x := yX2_beginStatement) pnX2, am_lkS sn_tX2_beginStatement⟩, ?_⟩
  refine List.forall_mem_cons.mpr ⟨⟨plainFor_of_name (x := yX2_readRule) pnX2, am_lkS sn_tX2_readRule⟩, ?_⟩
  refine List.forall_mem_cons.mpr ⟨⟨plainFor_of_name (x := yX2_takeAfter) pnX2, am_lkS sn_tX2_takeAfter⟩, ?_⟩
  refine List.forall_mem_cons.mpr ⟨⟨plainFor_of_name (x := yX2_readShip) pnX2, am_lkS sn_tX2_readShip⟩, ?_⟩
  refine List.forall_mem_cons.mpr ⟨⟨plainFor_of_name (x := yX2_takeShip) pnX2, am_lkS sn_tX2_takeShip⟩, ?_⟩
  refine List.forall_mem_cons.mpr ⟨⟨plainFor_of_name (x := yX2_takePlace) pnX2, am_lkS sn_tX2_takePlace⟩, ?_⟩
  refine List.forall_mem_cons.mpr ⟨⟨plainFor_of_name (x := yX2_readSaying) pnX2, am_lkS sn_tX2_readSaying⟩, ?_⟩
  refine List.forall_mem_cons.mpr ⟨⟨plainFor_of_name (x := yX2_readBook) pnX2, am_lkS sn_tX2_readBook⟩, ?_⟩
  refine List.forall_mem_cons.mpr ⟨⟨plainFor_of_name (x := yX2_readSighting) pnX2, am_lkS sn_tX2_readSighting⟩, ?_⟩
  refine List.forall_mem_cons.mpr ⟨⟨plainFor_of_name (x := yX2_readTest) pnX2, am_lkS sn_tX2_readTest⟩, ?_⟩
  refine List.forall_mem_cons.mpr ⟨⟨plainFor_of_name (x := yX2_readBoth) pnX2, am_lkS sn_tX2_readBoth⟩, ?_⟩
  refine List.forall_mem_cons.mpr ⟨⟨plainFor_of_name (x := yX2_readFact) pnX2, am_lkS sn_tX2_readFact⟩, ?_⟩
  refine List.forall_mem_cons.mpr ⟨⟨plainFor_of_name (x := yX2_takeComparison) pnX2, am_lkS sn_tX2_takeComparison⟩, ?_⟩
  refine List.forall_mem_cons.mpr ⟨⟨plainFor_of_name (x := yX2_readSum) pnX2, am_lkS sn_tX2_readSum⟩, ?_⟩
  refine List.forall_mem_cons.mpr ⟨⟨plainFor_of_name (x := yX2_readProduct) pnX2, am_lkS sn_tX2_readProduct⟩, ?_⟩
  refine List.forall_mem_cons.mpr ⟨⟨plainFor_of_name (x := yX2_timesSign) pnX2, am_lkS sn_tX2_timesSign⟩, ?_⟩
  refine List.forall_mem_cons.mpr ⟨⟨plainFor_of_name (x := yX2_readPart) pnX2, am_lkS sn_tX2_readPart⟩, ?_⟩
  refine List.forall_mem_cons.mpr ⟨⟨plainFor_of_name (x := yX2_readLeaf) pnX2, am_lkS sn_tX2_readLeaf⟩, ?_⟩
  refine List.forall_mem_cons.mpr ⟨⟨plainFor_of_name (x := yX2_readChoice) pnX2, am_lkS sn_tX2_readChoice⟩, ?_⟩
  refine List.forall_mem_cons.mpr ⟨⟨plainFor_of_name (x := yX2_takeOpening) pnX2, am_lkS sn_tX2_takeOpening⟩, ?_⟩
  refine List.forall_mem_cons.mpr ⟨⟨plainFor_of_name (x := yX3_init) pnX3, am_lkS sn_tX3_init⟩, ?_⟩
  refine List.forall_mem_cons.mpr ⟨⟨plainFor_of_name (x := yX3_open) pnX3, am_lkS sn_tX3_open⟩, ?_⟩
  refine List.forall_mem_cons.mpr ⟨⟨plainFor_of_name (x := yX3_step) pnX3, am_lkS sn_tX3_step⟩, ?_⟩
  refine List.forall_mem_cons.mpr ⟨⟨plainFor_of_name (x := yX3_ownWord) pnX3, am_lkS sn_tX3_ownWord⟩, ?_⟩
  refine List.forall_mem_cons.mpr ⟨⟨plainFor_of_name (x := yX3_kindOf) pnX3, am_lkS sn_tX3_kindOf⟩, ?_⟩
  refine List.forall_mem_cons.mpr ⟨⟨plainFor_of_name (x := yX3_refuseAt) pnX3, am_lkS sn_tX3_refuseAt⟩, ?_⟩
  refine List.forall_mem_cons.mpr ⟨⟨plainFor_of_name (x := yX3_refuse) pnX3, am_lkS sn_tX3_refuse⟩, ?_⟩
  exact fun _ h => absurd h List.not_mem_nil
theorem am_pr1 : ∀ q ∈ am_pg1, am_PR q := by
  unfold am_pg1
  refine List.forall_mem_cons.mpr ⟨⟨plainFor_of_name (x := yX3_isSign) pnX3, am_lkS sn_tX3_isSign⟩, ?_⟩
  refine List.forall_mem_cons.mpr ⟨⟨plainFor_of_name (x := yX3_takeSign) pnX3, am_lkS sn_tX3_takeSign⟩, ?_⟩
  refine List.forall_mem_cons.mpr ⟨⟨plainFor_of_name (x := yX3_takeWord) pnX3, am_lkS sn_tX3_takeWord⟩, ?_⟩
  refine List.forall_mem_cons.mpr ⟨⟨plainFor_of_name (x := yX3_checkNumber) pnX3, am_lkS sn_tX3_checkNumber⟩, ?_⟩
  refine List.forall_mem_cons.mpr ⟨⟨plainFor_of_name (x := yX3_takeNumber) pnX3, am_lkS sn_tX3_takeNumber⟩, ?_⟩
  refine List.forall_mem_cons.mpr ⟨⟨plainFor_of_name (x := yX3_checkName) pnX3, am_lkS sn_tX3_checkName⟩, ?_⟩
  refine List.forall_mem_cons.mpr ⟨⟨plainFor_of_name (x := yX4_init) pnX4, am_lkS sn_tX4_init⟩, ?_⟩
  refine List.forall_mem_cons.mpr ⟨⟨plainFor_of_name (x := yX4_isFull) pnX4, am_lkS sn_tX4_isFull⟩, ?_⟩
  refine List.forall_mem_cons.mpr ⟨⟨plainFor_of_name (x := yX4_append) pnX4, am_lkS sn_tX4_append⟩, ?_⟩
  refine List.forall_mem_cons.mpr ⟨⟨plainFor_of_name (x := yX4_firstHolding) pnX4, am_lkS sn_tX4_firstHolding⟩, ?_⟩
  refine List.forall_mem_cons.mpr ⟨⟨plainFor_of_name (x := yX4_firstSum) pnX4, am_lkS sn_tX4_firstSum⟩, ?_⟩
  refine List.forall_mem_cons.mpr ⟨⟨plainFor_of_name (x := yX5_init) pnX5, am_lkS sn_tX5_init⟩, ?_⟩
  refine List.forall_mem_cons.mpr ⟨⟨plainFor_of_name (x := yX5_clear) pnX5, am_lkS sn_tX5_clear⟩, ?_⟩
  refine List.forall_mem_cons.mpr ⟨⟨plainFor_of_name (x := yX5_measure) pnX5, am_lkS sn_tX5_measure⟩, ?_⟩
  refine List.forall_mem_cons.mpr ⟨⟨plainFor_of_name (x := yX5_costAt) pnX5, am_lkS sn_tX5_costAt⟩, ?_⟩
  refine List.forall_mem_cons.mpr ⟨⟨plainFor_of_name (x := yX5_isQuiet) pnX5, am_lkS sn_tX5_isQuiet⟩, ?_⟩
  refine List.forall_mem_cons.mpr ⟨⟨plainFor_of_name (x := yX5_placeAt) pnX5, am_lkS sn_tX5_placeAt⟩, ?_⟩
  refine List.forall_mem_cons.mpr ⟨⟨plainFor_of_name (x := yX5_placeOf) pnX5, am_lkS sn_tX5_placeOf⟩, ?_⟩
  refine List.forall_mem_cons.mpr ⟨⟨plainFor_of_name (x := yX5_numberOf) pnX5, am_lkS sn_tX5_numberOf⟩, ?_⟩
  refine List.forall_mem_cons.mpr ⟨⟨plainFor_of_name (x := yX5_countSayings) pnX5, am_lkS sn_tX5_countSayings⟩, ?_⟩
  refine List.forall_mem_cons.mpr ⟨⟨plainFor_of_name (x := yX5_countSayers) pnX5, am_lkS sn_tX5_countSayers⟩, ?_⟩
  refine List.forall_mem_cons.mpr ⟨⟨plainFor_of_name (x := yX5_countBooks) pnX5, am_lkS sn_tX5_countBooks⟩, ?_⟩
  refine List.forall_mem_cons.mpr ⟨⟨plainFor_of_name (x := yX5_shipNamed) pnX5, am_lkS sn_tX5_shipNamed⟩, ?_⟩
  refine List.forall_mem_cons.mpr ⟨⟨plainFor_of_name (x := yX5_launch) pnX5, am_lkS sn_tX5_launch⟩, ?_⟩
  refine List.forall_mem_cons.mpr ⟨⟨plainFor_of_name (x := yX6_init) pnX6, am_lkS sn_tX6_init⟩, ?_⟩
  refine List.forall_mem_cons.mpr ⟨⟨plainFor_of_name (x := yX6_hasSaid) pnX6, am_lkS sn_tX6_hasSaid⟩, ?_⟩
  refine List.forall_mem_cons.mpr ⟨⟨plainFor_of_name (x := yX6_insert) pnX6, am_lkS sn_tX6_insert⟩, ?_⟩
  refine List.forall_mem_cons.mpr ⟨⟨plainFor_of_name (x := yX6_remove) pnX6, am_lkS sn_tX6_remove⟩, ?_⟩
  refine List.forall_mem_cons.mpr ⟨⟨plainFor_of_name (x := yX6_enterBook) pnX6, am_lkS sn_tX6_enterBook⟩, ?_⟩
  refine List.forall_mem_cons.mpr ⟨⟨plainFor_of_name (x := yX6_hoursToBook) pnX6, am_lkS sn_tX6_hoursToBook⟩, ?_⟩
  refine List.forall_mem_cons.mpr ⟨⟨plainFor_of_name (x := yX7_init) pnX7, am_lkS sn_tX7_init⟩, ?_⟩
  refine List.forall_mem_cons.mpr ⟨⟨plainFor_of_name (x := yX7_append) pnX7, am_lkS sn_tX7_append⟩, ?_⟩
  refine List.forall_mem_cons.mpr ⟨⟨plainFor_of_name (x := yX8_init) pnX8, am_lkS sn_tX8_init⟩, ?_⟩
  refine List.forall_mem_cons.mpr ⟨⟨plainFor_of_name (x := yX8_begin) pnX8, am_lkS sn_tX8_begin⟩, ?_⟩
  refine List.forall_mem_cons.mpr ⟨⟨plainFor_of_name (x := yX8_forget) pnX8, am_lkS sn_tX8_forget⟩, ?_⟩
  refine List.forall_mem_cons.mpr ⟨⟨plainFor_of_name (x := yX8_isSound) pnX8, am_lkS sn_tX8_isSound⟩, ?_⟩
  refine List.forall_mem_cons.mpr ⟨⟨plainFor_of_name (x := yX8_goTogether) pnX8, am_lkS sn_tX8_goTogether⟩, ?_⟩
  refine List.forall_mem_cons.mpr ⟨⟨plainFor_of_name (x := yX8_layBooks) pnX8, am_lkS sn_tX8_layBooks⟩, ?_⟩
  refine List.forall_mem_cons.mpr ⟨⟨plainFor_of_name (x := yX8_laySayings) pnX8, am_lkS sn_tX8_laySayings⟩, ?_⟩
  refine List.forall_mem_cons.mpr ⟨⟨plainFor_of_name (x := yX8_fits) pnX8, am_lkS sn_tX8_fits⟩, ?_⟩
  exact fun _ h => absurd h List.not_mem_nil
theorem am_pr2 : ∀ q ∈ am_pg2, am_PR q := by
  unfold am_pg2
  refine List.forall_mem_cons.mpr ⟨⟨plainFor_of_name (x := yX8_firstBar) pnX8, am_lkS sn_tX8_firstBar⟩, ?_⟩
  refine List.forall_mem_cons.mpr ⟨⟨plainFor_of_name (x := yX8_findClock) pnX8, am_lkS sn_tX8_findClock⟩, ?_⟩
  refine List.forall_mem_cons.mpr ⟨⟨plainFor_of_name (x := yX8_staysWith) pnX8, am_lkS sn_tX8_staysWith⟩, ?_⟩
  refine List.forall_mem_cons.mpr ⟨⟨plainFor_of_name (x := yX8_settle) pnX8, am_lkS sn_tX8_settle⟩, ?_⟩
  refine List.forall_mem_cons.mpr ⟨⟨plainFor_of_name (x := yX8_markAlone) pnX8, am_lkS sn_tX8_markAlone⟩, ?_⟩
  refine List.forall_mem_cons.mpr ⟨⟨plainFor_of_name (x := yX8_countChains) pnX8, am_lkS sn_tX8_countChains⟩, ?_⟩
  refine List.forall_mem_cons.mpr ⟨⟨plainFor_of_name (x := yX8_keep) pnX8, am_lkS sn_tX8_keep⟩, ?_⟩
  refine List.forall_mem_cons.mpr ⟨⟨plainFor_of_name (x := yX8_findMay) pnX8, am_lkS sn_tX8_findMay⟩, ?_⟩
  refine List.forall_mem_cons.mpr ⟨⟨plainFor_of_name (x := yX8_mayBe) pnX8, am_lkS sn_tX8_mayBe⟩, ?_⟩
  refine List.forall_mem_cons.mpr ⟨⟨plainFor_of_name (x := yX8_countMay) pnX8, am_lkS sn_tX8_countMay⟩, ?_⟩
  refine List.forall_mem_cons.mpr ⟨⟨plainFor_of_name (x := yX8_countShared) pnX8, am_lkS sn_tX8_countShared⟩, ?_⟩
  refine List.forall_mem_cons.mpr ⟨⟨plainFor_of_name (x := yX8_clashAlone) pnX8, am_lkS sn_tX8_clashAlone⟩, ?_⟩
  refine List.forall_mem_cons.mpr ⟨⟨plainFor_of_name (x := yX8_clashOfTwo) pnX8, am_lkS sn_tX8_clashOfTwo⟩, ?_⟩
  refine List.forall_mem_cons.mpr ⟨⟨plainFor_of_name (x := yX8_ownKinds) pnX8, am_lkS sn_tX8_ownKinds⟩, ?_⟩
  refine List.forall_mem_cons.mpr ⟨⟨plainFor_of_name (x := yX8_canPart) pnX8, am_lkS sn_tX8_canPart⟩, ?_⟩
  refine List.forall_mem_cons.mpr ⟨⟨plainFor_of_name (x := yX8_pushApart) pnX8, am_lkS sn_tX8_pushApart⟩, ?_⟩
  refine List.forall_mem_cons.mpr ⟨⟨plainFor_of_name (x := yX8_isMarked) pnX8, am_lkS sn_tX8_isMarked⟩, ?_⟩
  refine List.forall_mem_cons.mpr ⟨⟨plainFor_of_name (x := yX8_hoursBetweenEnds) pnX8, am_lkS sn_tX8_hoursBetweenEnds⟩, ?_⟩
  refine List.forall_mem_cons.mpr ⟨⟨plainFor_of_name (x := yX8_countGaps) pnX8, am_lkS sn_tX8_countGaps⟩, ?_⟩
  refine List.forall_mem_cons.mpr ⟨⟨plainFor_of_name (x := yX8_isHonest) pnX8, am_lkS sn_tX8_isHonest⟩, ?_⟩
  refine List.forall_mem_cons.mpr ⟨⟨plainFor_of_name (x := yX8_hoursOfChange) pnX8, am_lkS sn_tX8_hoursOfChange⟩, ?_⟩
  refine List.forall_mem_cons.mpr ⟨⟨plainFor_of_name (x := yX9_init) pnX9, am_lkS sn_tX9_init⟩, ?_⟩
  refine List.forall_mem_cons.mpr ⟨⟨plainFor_of_name (x := yX9_begin) pnX9, am_lkS sn_tX9_begin⟩, ?_⟩
  refine List.forall_mem_cons.mpr ⟨⟨plainFor_of_name (x := yX9_isWater) pnX9, am_lkS sn_tX9_isWater⟩, ?_⟩
  refine List.forall_mem_cons.mpr ⟨⟨plainFor_of_name (x := yX9_isWithin) pnX9, am_lkS sn_tX9_isWithin⟩, ?_⟩
  refine List.forall_mem_cons.mpr ⟨⟨plainFor_of_name (x := yX9_ringsOf) pnX9, am_lkS sn_tX9_ringsOf⟩, ?_⟩
  refine List.forall_mem_cons.mpr ⟨⟨plainFor_of_name (x := yX9_widen) pnX9, am_lkS sn_tX9_widen⟩, ?_⟩
  refine List.forall_mem_cons.mpr ⟨⟨plainFor_of_name (x := yX9_hoursBetween) pnX9, am_lkS sn_tX9_hoursBetween⟩, ?_⟩
  refine List.forall_mem_cons.mpr ⟨⟨plainFor_of_name (x := yX10_init) pnX10, am_lkS sn_tX10_init⟩, ?_⟩
  refine List.forall_mem_cons.mpr ⟨⟨plainFor_of_name (x := yX10_feed) pnX10, am_lkS sn_tX10_feed⟩, ?_⟩
  refine List.forall_mem_cons.mpr ⟨⟨plainFor_of_name (x := yX10_end) pnX10, am_lkS sn_tX10_end⟩, ?_⟩
  refine List.forall_mem_cons.mpr ⟨⟨plainFor_of_name (x := yX10_sea) pnX10, am_lkS sn_tX10_sea⟩, ?_⟩
  refine List.forall_mem_cons.mpr ⟨⟨plainFor_of_name (x := yX10_fault) pnX10, am_lkS sn_tX10_fault⟩, ?_⟩
  refine List.forall_mem_cons.mpr ⟨⟨plainFor_of_name (x := yX10_has) pnX10, am_lkS sn_tX10_has⟩, ?_⟩
  refine List.forall_mem_cons.mpr ⟨⟨plainFor_of_name (x := yX10_letter) pnX10, am_lkS sn_tX10_letter⟩, ?_⟩
  refine List.forall_mem_cons.mpr ⟨⟨plainFor_of_name (x := yX10_ship) pnX10, am_lkS sn_tX10_ship⟩, ?_⟩
  refine List.forall_mem_cons.mpr ⟨⟨plainFor_of_name (x := yX10_saying) pnX10, am_lkS sn_tX10_saying⟩, ?_⟩
  refine List.forall_mem_cons.mpr ⟨⟨plainFor_of_name (x := yX10_cell) pnX10, am_lkS sn_tX10_cell⟩, ?_⟩
  refine List.forall_mem_cons.mpr ⟨⟨plainFor_of_name (x := yX10_far) pnX10, am_lkS sn_tX10_far⟩, ?_⟩
  refine List.forall_mem_cons.mpr ⟨⟨plainFor_of_name (x := yX10_can) pnX10, am_lkS sn_tX10_can⟩, ?_⟩
  exact fun _ h => absurd h List.not_mem_nil
theorem am_pr3 : ∀ q ∈ am_pg3, am_PR q := by
  unfold am_pg3
  refine List.forall_mem_cons.mpr ⟨⟨plainFor_of_name (x := yX10_reach) pnX10, am_lkS sn_tX10_reach⟩, ?_⟩
  refine List.forall_mem_cons.mpr ⟨⟨plainFor_of_name (x := yX10_may) pnX10, am_lkS sn_tX10_may⟩, ?_⟩
  refine List.forall_mem_cons.mpr ⟨⟨plainFor_of_name (x := yX10_judge) pnX10, am_lkS sn_tX10_judge⟩, ?_⟩
  refine List.forall_mem_cons.mpr ⟨⟨plainFor_of_name (x := yX10_tale) pnX10, am_lkS sn_tX10_tale⟩, ?_⟩
  refine List.forall_mem_cons.mpr ⟨⟨plainFor_of_name (x := yX10_bars) pnX10, am_lkS sn_tX10_bars⟩, ?_⟩
  refine List.forall_mem_cons.mpr ⟨⟨plainFor_of_name (x := yX10_clash) pnX10, am_lkS sn_tX10_clash⟩, ?_⟩
  refine List.forall_mem_cons.mpr ⟨⟨plainFor_of_name (x := yX10_who) pnX10, am_lkS sn_tX10_who⟩, ?_⟩
  refine List.forall_mem_cons.mpr ⟨⟨plainFor_of_name (x := yX10_swap) pnX10, am_lkS sn_tX10_swap⟩, ?_⟩
  refine List.forall_mem_cons.mpr ⟨⟨plainFor_of_name (x := yX10_kinds) pnX10, am_lkS sn_tX10_kinds⟩, ?_⟩
  refine List.forall_mem_cons.mpr ⟨⟨plainFor_of_name (x := yX10_lies) pnX10, am_lkS sn_tX10_lies⟩, ?_⟩
  refine List.forall_mem_cons.mpr ⟨⟨plainFor_of_name (x := yX10_met) pnX10, am_lkS sn_tX10_met⟩, ?_⟩
  refine List.forall_mem_cons.mpr ⟨⟨plainFor_of_name (x := yX10_sighting) pnX10, am_lkS sn_tX10_sighting⟩, ?_⟩
  refine List.forall_mem_cons.mpr ⟨⟨plainFor_of_name (x := yX10_strange) pnX10, am_lkS sn_tX10_strange⟩, ?_⟩
  refine List.forall_mem_cons.mpr ⟨⟨plainFor_of_name (x := yX10_doubted) pnX10, am_lkS sn_tX10_doubted⟩, ?_⟩
  refine List.forall_mem_cons.mpr ⟨⟨plainFor_of_name (x := yX10_gaps) pnX10, am_lkS sn_tX10_gaps⟩, ?_⟩
  refine List.forall_mem_cons.mpr ⟨⟨plainFor_of_name (x := yX10_chance) pnX10, am_lkS sn_tX10_chance⟩, ?_⟩
  refine List.forall_mem_cons.mpr ⟨⟨plainFor_of_name (x := yX10_beyond) pnX10, am_lkS sn_tX10_beyond⟩, ?_⟩
  refine List.forall_mem_cons.mpr ⟨⟨plainFor_of_name (x := yX10_settles) pnX10, am_lkS sn_tX10_settles⟩, ?_⟩
  refine List.forall_mem_cons.mpr ⟨⟨plainFor_of_name (x := yX10_next) pnX10, am_lkS sn_tX10_next⟩, ?_⟩
  refine List.forall_mem_cons.mpr ⟨⟨plainFor_of_name (x := yX10_off) pnX10, am_lkS sn_tX10_off⟩, ?_⟩
  refine List.forall_mem_cons.mpr ⟨⟨plainFor_of_name (x := yX10_whose) pnX10, am_lkS sn_tX10_whose⟩, ?_⟩
  refine List.forall_mem_cons.mpr ⟨⟨plainFor_of_name (x := yX10_add) pnX10, am_lkS sn_tX10_add⟩, ?_⟩
  refine List.forall_mem_cons.mpr ⟨⟨plainFor_of_name (x := yX10_drop) pnX10, am_lkS sn_tX10_drop⟩, ?_⟩
  refine List.forall_mem_cons.mpr ⟨⟨plainFor_of_name (x := yX10_spot) pnX10, am_lkS sn_tX10_spot⟩, ?_⟩
  refine List.forall_mem_cons.mpr ⟨⟨plainFor_of_name (x := yX10_image) pnX10, am_lkS sn_tX10_image⟩, ?_⟩
  refine List.forall_mem_cons.mpr ⟨⟨plainFor_of_name (x := yX10_octet) pnX10, am_lkS sn_tX10_octet⟩, ?_⟩
  refine List.forall_mem_cons.mpr ⟨⟨plainFor_of_name (x := yX10_on) pnX10, am_lkS sn_tX10_on⟩, ?_⟩
  refine List.forall_mem_cons.mpr ⟨⟨plainFor_of_name (x := yX10_status) pnX10, am_lkS sn_tX10_status⟩, ?_⟩
  refine List.forall_mem_cons.mpr ⟨⟨plainFor_of_name (x := yX10_bit) pnX10, am_lkS sn_tX10_bit⟩, ?_⟩
  refine List.forall_mem_cons.mpr ⟨⟨plainFor_of_name (x := yX10_isHour) pnX10, am_lkS sn_tX10_isHour⟩, ?_⟩
  refine List.forall_mem_cons.mpr ⟨⟨plainFor_of_name (x := yX10_isShip) pnX10, am_lkS sn_tX10_isShip⟩, ?_⟩
  refine List.forall_mem_cons.mpr ⟨⟨plainFor_of_name (x := yX10_isSaying) pnX10, am_lkS sn_tX10_isSaying⟩, ?_⟩
  refine List.forall_mem_cons.mpr ⟨⟨plainFor_of_name (x := yX10_putFour) pnX10, am_lkS sn_tX10_putFour⟩, ?_⟩
  refine List.forall_mem_cons.mpr ⟨⟨plainFor_of_name (x := yX10_forget) pnX10, am_lkS sn_tX10_forget⟩, ?_⟩
  refine List.forall_mem_cons.mpr ⟨⟨plainFor_of_name (x := yX10_settled) pnX10, am_lkS sn_tX10_settled⟩, ?_⟩
  refine List.forall_mem_cons.mpr ⟨⟨plainFor_of_name (x := yX10_sayersOf) pnX10, am_lkS sn_tX10_sayersOf⟩, ?_⟩
  refine List.forall_mem_cons.mpr ⟨⟨plainFor_of_name (x := yX10_kindsOf) pnX10, am_lkS sn_tX10_kindsOf⟩, ?_⟩
  refine List.forall_mem_cons.mpr ⟨⟨plainFor_of_name (x := yX10_plainestOf) pnX10, am_lkS sn_tX10_plainestOf⟩, ?_⟩
  refine List.forall_mem_cons.mpr ⟨⟨plainFor_of_name (x := yX10_explainersOf) pnX10, am_lkS sn_tX10_explainersOf⟩, ?_⟩
  refine List.forall_mem_cons.mpr ⟨⟨plainFor_of_name (x := yX10_chanceOf) pnX10, am_lkS sn_tX10_chanceOf⟩, ?_⟩
  exact fun _ h => absurd h List.not_mem_nil
theorem am_pr4 : ∀ q ∈ am_pg4, am_PR q := by
  unfold am_pg4
  refine List.forall_mem_cons.mpr ⟨⟨plainFor_of_name (x := yX10_findLook) pnX10, am_lkS sn_tX10_findLook⟩, ?_⟩
  refine List.forall_mem_cons.mpr ⟨⟨plainFor_of_name (x := yX10_pileUp) pnX10, am_lkS sn_tX10_pileUp⟩, ?_⟩
  refine List.forall_mem_cons.mpr ⟨⟨plainFor_of_name (x := yX10_write) pnX10, am_lkS sn_tX10_write⟩, ?_⟩
  refine List.forall_mem_cons.mpr ⟨⟨plainFor_of_name (x := yX10_checkOf) pnX10, am_lkS sn_tX10_checkOf⟩, ?_⟩
  refine List.forall_mem_cons.mpr ⟨⟨plainFor_of_name (x := yX10_isImage) pnX10, am_lkS sn_tX10_isImage⟩, ?_⟩
  refine List.forall_mem_cons.mpr ⟨⟨plainFor_of_name (x := yX10_takeImage) pnX10, am_lkS sn_tX10_takeImage⟩, ?_⟩
  refine List.forall_mem_cons.mpr ⟨⟨plainFor_of_name (x := yX11_init) pnX11, am_lkS sn_tX11_init⟩, ?_⟩
  refine List.forall_mem_cons.mpr ⟨⟨plainFor_of_name (x := yX11_is) pnX11, am_lkS sn_tX11_is⟩, ?_⟩
  refine List.forall_mem_cons.mpr ⟨⟨plainFor_of_name (x := yX11_put) pnX11, am_lkS sn_tX11_put⟩, ?_⟩
  refine List.forall_mem_cons.mpr ⟨⟨plainFor_of_name (x := yX11_feed) pnX11, am_lkS sn_tX11_feed⟩, ?_⟩
  refine List.forall_mem_cons.mpr ⟨⟨plainFor_of_name (x := yX11_end) pnX11, am_lkS sn_tX11_end⟩, ?_⟩
  refine List.forall_mem_cons.mpr ⟨⟨plainFor_of_name (x := yX11_blame) pnX11, am_lkS sn_tX11_blame⟩, ?_⟩
  refine List.forall_mem_cons.mpr ⟨⟨plainFor_of_name (x := yX11_isLetter) pnX11, am_lkS sn_tX11_isLetter⟩, ?_⟩
  refine List.forall_mem_cons.mpr ⟨⟨plainFor_of_name (x := yX11_isDigit) pnX11, am_lkS sn_tX11_isDigit⟩, ?_⟩
  refine List.forall_mem_cons.mpr ⟨⟨plainFor_of_name (x := yX11_ahead) pnX11, am_lkS sn_tX11_ahead⟩, ?_⟩
  refine List.forall_mem_cons.mpr ⟨⟨plainFor_of_name (x := yX11_isSign) pnX11, am_lkS sn_tX11_isSign⟩, ?_⟩
  refine List.forall_mem_cons.mpr ⟨⟨plainFor_of_name (x := yX11_isWord) pnX11, am_lkS sn_tX11_isWord⟩, ?_⟩
  refine List.forall_mem_cons.mpr ⟨⟨plainFor_of_name (x := yX11_must) pnX11, am_lkS sn_tX11_must⟩, ?_⟩
  refine List.forall_mem_cons.mpr ⟨⟨plainFor_of_name (x := yX11_isOwn) pnX11, am_lkS sn_tX11_isOwn⟩, ?_⟩
  refine List.forall_mem_cons.mpr ⟨⟨plainFor_of_name (x := yX11_firstRule) pnX11, am_lkS sn_tX11_firstRule⟩, ?_⟩
  refine List.forall_mem_cons.mpr ⟨⟨plainFor_of_name (x := yX11_mostRules) pnX11, am_lkS sn_tX11_mostRules⟩, ?_⟩
  refine List.forall_mem_cons.mpr ⟨⟨plainFor_of_name (x := yX11_named) pnX11, am_lkS sn_tX11_named⟩, ?_⟩
  refine List.forall_mem_cons.mpr ⟨⟨plainFor_of_name (x := yX11_number) pnX11, am_lkS sn_tX11_number⟩, ?_⟩
  refine List.forall_mem_cons.mpr ⟨⟨plainFor_of_name (x := yX11_add) pnX11, am_lkS sn_tX11_add⟩, ?_⟩
  refine List.forall_mem_cons.mpr ⟨⟨plainFor_of_name (x := yX11_rank) pnX11, am_lkS sn_tX11_rank⟩, ?_⟩
  refine List.forall_mem_cons.mpr ⟨⟨plainFor_of_name (x := yX11_joins) pnX11, am_lkS sn_tX11_joins⟩, ?_⟩
  refine List.forall_mem_cons.mpr ⟨⟨plainFor_of_name (x := yX11_holdsBack) pnX11, am_lkS sn_tX11_holdsBack⟩, ?_⟩
  refine List.forall_mem_cons.mpr ⟨⟨plainFor_of_name (x := yX11_pushes) pnX11, am_lkS sn_tX11_pushes⟩, ?_⟩
  refine List.forall_mem_cons.mpr ⟨⟨plainFor_of_name (x := yX11_opens) pnX11, am_lkS sn_tX11_opens⟩, ?_⟩
  refine List.forall_mem_cons.mpr ⟨⟨plainFor_of_name (x := yX11_isTest) pnX11, am_lkS sn_tX11_isTest⟩, ?_⟩
  refine List.forall_mem_cons.mpr ⟨⟨plainFor_of_name (x := yX11_operand) pnX11, am_lkS sn_tX11_operand⟩, ?_⟩
  refine List.forall_mem_cons.mpr ⟨⟨plainFor_of_name (x := yX11_goesOn) pnX11, am_lkS sn_tX11_goesOn⟩, ?_⟩
  refine List.forall_mem_cons.mpr ⟨⟨plainFor_of_name (x := yX11_reads) pnX11, am_lkS sn_tX11_reads⟩, ?_⟩
  refine List.forall_mem_cons.mpr ⟨⟨plainFor_of_name (x := yX11_counts) pnX11, am_lkS sn_tX11_counts⟩, ?_⟩
  refine List.forall_mem_cons.mpr ⟨⟨plainFor_of_name (x := yX11_must_) pnX11, am_lkS sn_tX11_must_⟩, ?_⟩
  refine List.forall_mem_cons.mpr ⟨⟨plainFor_of_name (x := yX11_fresh) pnX11, am_lkS sn_tX11_fresh⟩, ?_⟩
  refine List.forall_mem_cons.mpr ⟨⟨plainFor_of_name (x := yX11_asked) pnX11, am_lkS sn_tX11_asked⟩, ?_⟩
  refine List.forall_mem_cons.mpr ⟨⟨plainFor_of_name (x := yX11_sizes) pnX11, am_lkS sn_tX11_sizes⟩, ?_⟩
  refine List.forall_mem_cons.mpr ⟨⟨plainFor_of_name (x := yX11_rule) pnX11, am_lkS sn_tX11_rule⟩, ?_⟩
  refine List.forall_mem_cons.mpr ⟨⟨plainFor_of_name (x := yX11_ship) pnX11, am_lkS sn_tX11_ship⟩, ?_⟩
  exact fun _ h => absurd h List.not_mem_nil
theorem am_pr5 : ∀ q ∈ am_pg5, am_PR q := by
  unfold am_pg5
  refine List.forall_mem_cons.mpr ⟨⟨plainFor_of_name (x := yX11_cellHere) pnX11, am_lkS sn_tX11_cellHere⟩, ?_⟩
  refine List.forall_mem_cons.mpr ⟨⟨plainFor_of_name (x := yX11_says) pnX11, am_lkS sn_tX11_says⟩, ?_⟩
  refine List.forall_mem_cons.mpr ⟨⟨plainFor_of_name (x := yX11_book) pnX11, am_lkS sn_tX11_book⟩, ?_⟩
  refine List.forall_mem_cons.mpr ⟨⟨plainFor_of_name (x := yX11_seen) pnX11, am_lkS sn_tX11_seen⟩, ?_⟩
  refine List.forall_mem_cons.mpr ⟨⟨plainFor_of_name (x := yX11_lucks) pnX11, am_lkS sn_tX11_lucks⟩, ?_⟩
  refine List.forall_mem_cons.mpr ⟨⟨plainFor_of_name (x := yX11_statement) pnX11, am_lkS sn_tX11_statement⟩, ?_⟩
  refine List.forall_mem_cons.mpr ⟨⟨plainFor_of_name (x := yX11_sea) pnX11, am_lkS sn_tX11_sea⟩, ?_⟩
  refine List.forall_mem_cons.mpr ⟨⟨plainFor_of_name (x := yX11_fault) pnX11, am_lkS sn_tX11_fault⟩, ?_⟩
  refine List.forall_mem_cons.mpr ⟨⟨plainFor_of_name (x := yX11_refuses) pnX11, am_lkS sn_tX11_refuses⟩, ?_⟩
  refine List.forall_mem_cons.mpr ⟨⟨plainFor_of_name (x := yX11_status) pnX11, am_lkS sn_tX11_status⟩, ?_⟩
  refine List.forall_mem_cons.mpr ⟨⟨plainFor_of_name (x := yX11_bounded) pnX11, am_lkS sn_tX11_bounded⟩, ?_⟩
  refine List.forall_mem_cons.mpr ⟨⟨plainFor_of_name (x := yX11_over) pnX11, am_lkS sn_tX11_over⟩, ?_⟩
  refine List.forall_mem_cons.mpr ⟨⟨plainFor_of_name (x := yX11_made) pnX11, am_lkS sn_tX11_made⟩, ?_⟩
  refine List.forall_mem_cons.mpr ⟨⟨plainFor_of_name (x := yX11_works) pnX11, am_lkS sn_tX11_works⟩, ?_⟩
  refine List.forall_mem_cons.mpr ⟨⟨plainFor_of_name (x := yX11_cells) pnX11, am_lkS sn_tX11_cells⟩, ?_⟩
  refine List.forall_mem_cons.mpr ⟨⟨plainFor_of_name (x := yX11_columnOf) pnX11, am_lkS sn_tX11_columnOf⟩, ?_⟩
  refine List.forall_mem_cons.mpr ⟨⟨plainFor_of_name (x := yX11_rowOf) pnX11, am_lkS sn_tX11_rowOf⟩, ?_⟩
  refine List.forall_mem_cons.mpr ⟨⟨plainFor_of_name (x := yX11_isCell) pnX11, am_lkS sn_tX11_isCell⟩, ?_⟩
  refine List.forall_mem_cons.mpr ⟨⟨plainFor_of_name (x := yX11_at) pnX11, am_lkS sn_tX11_at⟩, ?_⟩
  refine List.forall_mem_cons.mpr ⟨⟨plainFor_of_name (x := yX11_isHour) pnX11, am_lkS sn_tX11_isHour⟩, ?_⟩
  refine List.forall_mem_cons.mpr ⟨⟨plainFor_of_name (x := yX11_isShip) pnX11, am_lkS sn_tX11_isShip⟩, ?_⟩
  refine List.forall_mem_cons.mpr ⟨⟨plainFor_of_name (x := yX11_ruleOf) pnX11, am_lkS sn_tX11_ruleOf⟩, ?_⟩
  refine List.forall_mem_cons.mpr ⟨⟨plainFor_of_name (x := yX11_sumOf) pnX11, am_lkS sn_tX11_sumOf⟩, ?_⟩
  refine List.forall_mem_cons.mpr ⟨⟨plainFor_of_name (x := yX11_lays) pnX11, am_lkS sn_tX11_lays⟩, ?_⟩
  refine List.forall_mem_cons.mpr ⟨⟨plainFor_of_name (x := yX11_isQuiet) pnX11, am_lkS sn_tX11_isQuiet⟩, ?_⟩
  refine List.forall_mem_cons.mpr ⟨⟨plainFor_of_name (x := yX11_cell) pnX11, am_lkS sn_tX11_cell⟩, ?_⟩
  refine List.forall_mem_cons.mpr ⟨⟨plainFor_of_name (x := yX11_said) pnX11, am_lkS sn_tX11_said⟩, ?_⟩
  refine List.forall_mem_cons.mpr ⟨⟨plainFor_of_name (x := yX11_laden) pnX11, am_lkS sn_tX11_laden⟩, ?_⟩
  refine List.forall_mem_cons.mpr ⟨⟨plainFor_of_name (x := yX11_sayingsOf) pnX11, am_lkS sn_tX11_sayingsOf⟩, ?_⟩
  refine List.forall_mem_cons.mpr ⟨⟨plainFor_of_name (x := yX11_hourOf) pnX11, am_lkS sn_tX11_hourOf⟩, ?_⟩
  refine List.forall_mem_cons.mpr ⟨⟨plainFor_of_name (x := yX11_numberOf) pnX11, am_lkS sn_tX11_numberOf⟩, ?_⟩
  refine List.forall_mem_cons.mpr ⟨⟨plainFor_of_name (x := yX11_booksOf) pnX11, am_lkS sn_tX11_booksOf⟩, ?_⟩
  refine List.forall_mem_cons.mpr ⟨⟨plainFor_of_name (x := yX11_has) pnX11, am_lkS sn_tX11_has⟩, ?_⟩
  refine List.forall_mem_cons.mpr ⟨⟨plainFor_of_name (x := yX11_letter) pnX11, am_lkS sn_tX11_letter⟩, ?_⟩
  refine List.forall_mem_cons.mpr ⟨⟨plainFor_of_name (x := yX11_isWater) pnX11, am_lkS sn_tX11_isWater⟩, ?_⟩
  refine List.forall_mem_cons.mpr ⟨⟨plainFor_of_name (x := yX11_isSound) pnX11, am_lkS sn_tX11_isSound⟩, ?_⟩
  refine List.forall_mem_cons.mpr ⟨⟨plainFor_of_name (x := yX11_reaches) pnX11, am_lkS sn_tX11_reaches⟩, ?_⟩
  refine List.forall_mem_cons.mpr ⟨⟨plainFor_of_name (x := yX11_goes) pnX11, am_lkS sn_tX11_goes⟩, ?_⟩
  refine List.forall_mem_cons.mpr ⟨⟨plainFor_of_name (x := yX11_hoursTo) pnX11, am_lkS sn_tX11_hoursTo⟩, ?_⟩
  refine List.forall_mem_cons.mpr ⟨⟨plainFor_of_name (x := yX11_far) pnX11, am_lkS sn_tX11_far⟩, ?_⟩
  exact fun _ h => absurd h List.not_mem_nil
theorem am_pr6 : ∀ q ∈ am_pg6, am_PR q := by
  unfold am_pg6
  refine List.forall_mem_cons.mpr ⟨⟨plainFor_of_name (x := yX11_fact) pnX11, am_lkS sn_tX11_fact⟩, ?_⟩
  refine List.forall_mem_cons.mpr ⟨⟨plainFor_of_name (x := yX11_addBooks) pnX11, am_lkS sn_tX11_addBooks⟩, ?_⟩
  refine List.forall_mem_cons.mpr ⟨⟨plainFor_of_name (x := yX11_addSayings) pnX11, am_lkS sn_tX11_addSayings⟩, ?_⟩
  refine List.forall_mem_cons.mpr ⟨⟨plainFor_of_name (x := yX11_between) pnX11, am_lkS sn_tX11_between⟩, ?_⟩
  refine List.forall_mem_cons.mpr ⟨⟨plainFor_of_name (x := yX11_fit) pnX11, am_lkS sn_tX11_fit⟩, ?_⟩
  refine List.forall_mem_cons.mpr ⟨⟨plainFor_of_name (x := yX11_booksFit) pnX11, am_lkS sn_tX11_booksFit⟩, ?_⟩
  refine List.forall_mem_cons.mpr ⟨⟨plainFor_of_name (x := yX11_withBooks) pnX11, am_lkS sn_tX11_withBooks⟩, ?_⟩
  refine List.forall_mem_cons.mpr ⟨⟨plainFor_of_name (x := yX11_pairs) pnX11, am_lkS sn_tX11_pairs⟩, ?_⟩
  refine List.forall_mem_cons.mpr ⟨⟨plainFor_of_name (x := yX11_keeps) pnX11, am_lkS sn_tX11_keeps⟩, ?_⟩
  refine List.forall_mem_cons.mpr ⟨⟨plainFor_of_name (x := yX11_lays_) pnX11, am_lkS sn_tX11_lays_⟩, ?_⟩
  refine List.forall_mem_cons.mpr ⟨⟨plainFor_of_name (x := yX11_mayBe) pnX11, am_lkS sn_tX11_mayBe⟩, ?_⟩
  refine List.forall_mem_cons.mpr ⟨⟨plainFor_of_name (x := yX11_cellsOf) pnX11, am_lkS sn_tX11_cellsOf⟩, ?_⟩
  refine List.forall_mem_cons.mpr ⟨⟨plainFor_of_name (x := yX11_isHonest) pnX11, am_lkS sn_tX11_isHonest⟩, ?_⟩
  refine List.forall_mem_cons.mpr ⟨⟨plainFor_of_name (x := yX11_ship_) pnX11, am_lkS sn_tX11_ship_⟩, ?_⟩
  refine List.forall_mem_cons.mpr ⟨⟨plainFor_of_name (x := yX11_saying) pnX11, am_lkS sn_tX11_saying⟩, ?_⟩
  refine List.forall_mem_cons.mpr ⟨⟨plainFor_of_name (x := yX11_can) pnX11, am_lkS sn_tX11_can⟩, ?_⟩
  refine List.forall_mem_cons.mpr ⟨⟨plainFor_of_name (x := yX11_reach) pnX11, am_lkS sn_tX11_reach⟩, ?_⟩
  refine List.forall_mem_cons.mpr ⟨⟨plainFor_of_name (x := yX11_may) pnX11, am_lkS sn_tX11_may⟩, ?_⟩
  refine List.forall_mem_cons.mpr ⟨⟨plainFor_of_name (x := yX11_gapsOf) pnX11, am_lkS sn_tX11_gapsOf⟩, ?_⟩
  refine List.forall_mem_cons.mpr ⟨⟨plainFor_of_name (x := yX11_saidBy) pnX11, am_lkS sn_tX11_saidBy⟩, ?_⟩
  refine List.forall_mem_cons.mpr ⟨⟨plainFor_of_name (x := yX11_whoOf) pnX11, am_lkS sn_tX11_whoOf⟩, ?_⟩
  refine List.forall_mem_cons.mpr ⟨⟨plainFor_of_name (x := yX11_parts) pnX11, am_lkS sn_tX11_parts⟩, ?_⟩
  refine List.forall_mem_cons.mpr ⟨⟨plainFor_of_name (x := yX11_isPair) pnX11, am_lkS sn_tX11_isPair⟩, ?_⟩
  refine List.forall_mem_cons.mpr ⟨⟨plainFor_of_name (x := yX11_keepsSets) pnX11, am_lkS sn_tX11_keepsSets⟩, ?_⟩
  refine List.forall_mem_cons.mpr ⟨⟨plainFor_of_name (x := yX11_bringsSets) pnX11, am_lkS sn_tX11_bringsSets⟩, ?_⟩
  refine List.forall_mem_cons.mpr ⟨⟨plainFor_of_name (x := yX11_isKind) pnX11, am_lkS sn_tX11_isKind⟩, ?_⟩
  refine List.forall_mem_cons.mpr ⟨⟨plainFor_of_name (x := yX11_judge) pnX11, am_lkS sn_tX11_judge⟩, ?_⟩
  refine List.forall_mem_cons.mpr ⟨⟨plainFor_of_name (x := yX11_taleOf) pnX11, am_lkS sn_tX11_taleOf⟩, ?_⟩
  refine List.forall_mem_cons.mpr ⟨⟨plainFor_of_name (x := yX11_tale) pnX11, am_lkS sn_tX11_tale⟩, ?_⟩
  refine List.forall_mem_cons.mpr ⟨⟨plainFor_of_name (x := yX11_bars) pnX11, am_lkS sn_tX11_bars⟩, ?_⟩
  refine List.forall_mem_cons.mpr ⟨⟨plainFor_of_name (x := yX11_clash) pnX11, am_lkS sn_tX11_clash⟩, ?_⟩
  refine List.forall_mem_cons.mpr ⟨⟨plainFor_of_name (x := yX11_who) pnX11, am_lkS sn_tX11_who⟩, ?_⟩
  refine List.forall_mem_cons.mpr ⟨⟨plainFor_of_name (x := yX11_isFor) pnX11, am_lkS sn_tX11_isFor⟩, ?_⟩
  refine List.forall_mem_cons.mpr ⟨⟨plainFor_of_name (x := yX11_swap) pnX11, am_lkS sn_tX11_swap⟩, ?_⟩
  refine List.forall_mem_cons.mpr ⟨⟨plainFor_of_name (x := yX11_kinds) pnX11, am_lkS sn_tX11_kinds⟩, ?_⟩
  refine List.forall_mem_cons.mpr ⟨⟨plainFor_of_name (x := yX11_liesOf) pnX11, am_lkS sn_tX11_liesOf⟩, ?_⟩
  refine List.forall_mem_cons.mpr ⟨⟨plainFor_of_name (x := yX11_lies) pnX11, am_lkS sn_tX11_lies⟩, ?_⟩
  refine List.forall_mem_cons.mpr ⟨⟨plainFor_of_name (x := yX11_changes) pnX11, am_lkS sn_tX11_changes⟩, ?_⟩
  refine List.forall_mem_cons.mpr ⟨⟨plainFor_of_name (x := yX11_met) pnX11, am_lkS sn_tX11_met⟩, ?_⟩
  refine List.forall_mem_cons.mpr ⟨⟨plainFor_of_name (x := yX11_explains) pnX11, am_lkS sn_tX11_explains⟩, ?_⟩
  exact fun _ h => absurd h List.not_mem_nil
theorem am_pr7 : ∀ q ∈ am_pg7, am_PR q := by
  unfold am_pg7
  refine List.forall_mem_cons.mpr ⟨⟨plainFor_of_name (x := yX11_sighting) pnX11, am_lkS sn_tX11_sighting⟩, ?_⟩
  refine List.forall_mem_cons.mpr ⟨⟨plainFor_of_name (x := yX11_strange) pnX11, am_lkS sn_tX11_strange⟩, ?_⟩
  refine List.forall_mem_cons.mpr ⟨⟨plainFor_of_name (x := yX11_doubted) pnX11, am_lkS sn_tX11_doubted⟩, ?_⟩
  refine List.forall_mem_cons.mpr ⟨⟨plainFor_of_name (x := yX11_gaps) pnX11, am_lkS sn_tX11_gaps⟩, ?_⟩
  refine List.forall_mem_cons.mpr ⟨⟨plainFor_of_name (x := yX11_chanceOf) pnX11, am_lkS sn_tX11_chanceOf⟩, ?_⟩
  refine List.forall_mem_cons.mpr ⟨⟨plainFor_of_name (x := yX11_chance) pnX11, am_lkS sn_tX11_chance⟩, ?_⟩
  refine List.forall_mem_cons.mpr ⟨⟨plainFor_of_name (x := yX11_beyond) pnX11, am_lkS sn_tX11_beyond⟩, ?_⟩
  refine List.forall_mem_cons.mpr ⟨⟨plainFor_of_name (x := yX11_settlesAll) pnX11, am_lkS sn_tX11_settlesAll⟩, ?_⟩
  refine List.forall_mem_cons.mpr ⟨⟨plainFor_of_name (x := yX11_settles) pnX11, am_lkS sn_tX11_settles⟩, ?_⟩
  refine List.forall_mem_cons.mpr ⟨⟨plainFor_of_name (x := yX11_next) pnX11, am_lkS sn_tX11_next⟩, ?_⟩
  refine List.forall_mem_cons.mpr ⟨⟨plainFor_of_name (x := yX11_offOf) pnX11, am_lkS sn_tX11_offOf⟩, ?_⟩
  refine List.forall_mem_cons.mpr ⟨⟨plainFor_of_name (x := yX11_off) pnX11, am_lkS sn_tX11_off⟩, ?_⟩
  refine List.forall_mem_cons.mpr ⟨⟨plainFor_of_name (x := yX11_whose) pnX11, am_lkS sn_tX11_whose⟩, ?_⟩
  refine List.forall_mem_cons.mpr ⟨⟨plainFor_of_name (x := yX11_says_) pnX11, am_lkS sn_tX11_says_⟩, ?_⟩
  refine List.forall_mem_cons.mpr ⟨⟨plainFor_of_name (x := yX11_add_) pnX11, am_lkS sn_tX11_add_⟩, ?_⟩
  refine List.forall_mem_cons.mpr ⟨⟨plainFor_of_name (x := yX11_drop) pnX11, am_lkS sn_tX11_drop⟩, ?_⟩
  refine List.forall_mem_cons.mpr ⟨⟨plainFor_of_name (x := yX11_spots) pnX11, am_lkS sn_tX11_spots⟩, ?_⟩
  refine List.forall_mem_cons.mpr ⟨⟨plainFor_of_name (x := yX11_spot) pnX11, am_lkS sn_tX11_spot⟩, ?_⟩
  refine List.forall_mem_cons.mpr ⟨⟨plainFor_of_name (x := yX11_writes) pnX11, am_lkS sn_tX11_writes⟩, ?_⟩
  refine List.forall_mem_cons.mpr ⟨⟨plainFor_of_name (x := yX11_image) pnX11, am_lkS sn_tX11_image⟩, ?_⟩
  refine List.forall_mem_cons.mpr ⟨⟨plainFor_of_name (x := yX11_octet) pnX11, am_lkS sn_tX11_octet⟩, ?_⟩
  refine List.forall_mem_cons.mpr ⟨⟨plainFor_of_name (x := yX11_isWhole) pnX11, am_lkS sn_tX11_isWhole⟩, ?_⟩
  refine List.forall_mem_cons.mpr ⟨⟨plainFor_of_name (x := yX11_on) pnX11, am_lkS sn_tX11_on⟩, ?_⟩
  refine List.forall_mem_cons.mpr ⟨⟨am_pf yJ13_bitCount_95d88 (List.mem_of_getElem? (i := 0) rfl), am_lkS sn_tJ13_bitCount_95d88⟩, ?_⟩
  refine List.forall_mem_cons.mpr ⟨⟨am_pf yJ9_floorDiv_f86c9 (List.mem_of_getElem? (i := 1) rfl), am_lkS sn_tJ9_floorDiv_f86c9⟩, ?_⟩
  refine List.forall_mem_cons.mpr ⟨⟨am_pf yJ9_floorMod_f86c9 (List.mem_of_getElem? (i := 2) rfl), am_lkS sn_tJ9_floorMod_f86c9⟩, ?_⟩
  refine List.forall_mem_cons.mpr ⟨⟨am_pf yJ9_abs_0f7a4 (List.mem_of_getElem? (i := 3) rfl), am_lkS sn_tJ9_abs_0f7a4⟩, ?_⟩
  refine List.forall_mem_cons.mpr ⟨⟨am_pf yJ9_max_7cf53 (List.mem_of_getElem? (i := 4) rfl), am_lkS sn_tJ9_max_7cf53⟩, ?_⟩
  refine List.forall_mem_cons.mpr ⟨⟨am_pf yJ9_max_f86c9 (List.mem_of_getElem? (i := 5) rfl), am_lkS sn_tJ9_max_f86c9⟩, ?_⟩
  refine List.forall_mem_cons.mpr ⟨⟨am_pf yJ9_min_7cf53 (List.mem_of_getElem? (i := 6) rfl), am_lkS sn_tJ9_min_7cf53⟩, ?_⟩
  refine List.forall_mem_cons.mpr ⟨⟨am_pf yJ9_min_f86c9 (List.mem_of_getElem? (i := 7) rfl), am_lkS sn_tJ9_min_f86c9⟩, ?_⟩
  refine List.forall_mem_cons.mpr ⟨⟨am_pf yJ0_length_8abf5 (List.mem_of_getElem? (i := 8) rfl), am_lkS sn_tJ0_length_8abf5⟩, ?_⟩
  refine List.forall_mem_cons.mpr ⟨⟨am_pf yJ0_charAt_5068e (List.mem_of_getElem? (i := 9) rfl), am_lkS sn_tJ0_charAt_5068e⟩, ?_⟩
  refine List.forall_mem_cons.mpr ⟨⟨am_pf yJ0_coder_7d493 (List.mem_of_getElem? (i := 10) rfl), am_lkS sn_tJ0_coder_7d493⟩, ?_⟩
  refine List.forall_mem_cons.mpr ⟨⟨am_pf yJ0_isLatin1_aae02 (List.mem_of_getElem? (i := 11) rfl), am_lkS sn_tJ0_isLatin1_aae02⟩, ?_⟩
  refine List.forall_mem_cons.mpr ⟨⟨am_pf yJ0_checkIndex_df160 (List.mem_of_getElem? (i := 12) rfl), am_lkS sn_tJ0_checkIndex_df160⟩, ?_⟩
  refine List.forall_mem_cons.mpr ⟨⟨am_pf yJ1_charAt_3b067 (List.mem_of_getElem? (i := 13) rfl), am_lkS sn_tJ1_charAt_3b067⟩, ?_⟩
  refine List.forall_mem_cons.mpr ⟨⟨am_pf yJ2_getChar_3b067 (List.mem_of_getElem? (i := 14) rfl), am_lkS sn_tJ2_getChar_3b067⟩, ?_⟩
  refine List.forall_mem_cons.mpr ⟨⟨am_pf yJ2_length_9d52b (List.mem_of_getElem? (i := 15) rfl), am_lkS sn_tJ2_length_9d52b⟩, ?_⟩
  refine List.forall_mem_cons.mpr ⟨⟨am_pf yJ2_charAt_3b067 (List.mem_of_getElem? (i := 16) rfl), am_lkS sn_tJ2_charAt_3b067⟩, ?_⟩
  exact fun _ h => absurd h List.not_mem_nil
theorem am_pr8 : ∀ q ∈ am_pg8, am_PR q := by
  unfold am_pg8
  refine List.forall_mem_cons.mpr ⟨⟨am_pf yJ2_checkIndex_2214a (List.mem_of_getElem? (i := 17) rfl), am_lkS sn_tJ2_checkIndex_2214a⟩, ?_⟩
  refine List.forall_mem_cons.mpr ⟨⟨am_pf yJ7_rangeCheck_23922 (List.mem_of_getElem? (i := 18) rfl), am_lkS sn_tJ7_rangeCheck_23922⟩, ?_⟩
  refine List.forall_mem_cons.mpr ⟨⟨am_pf yJ7_fill_d0a16 (List.mem_of_getElem? (i := 19) rfl), am_lkS sn_tJ7_fill_d0a16⟩, ?_⟩
  refine List.forall_mem_cons.mpr ⟨⟨am_pf yJ7_fill_bad5a (List.mem_of_getElem? (i := 20) rfl), am_lkS sn_tJ7_fill_bad5a⟩, ?_⟩
  refine List.forall_mem_cons.mpr ⟨⟨am_pf yJ7_fill_53178 (List.mem_of_getElem? (i := 21) rfl), am_lkS sn_tJ7_fill_53178⟩, ?_⟩
  refine List.forall_mem_cons.mpr ⟨⟨am_pf yJ3_checkIndex_8e157 (List.mem_of_getElem? (i := 22) rfl), am_lkS sn_tJ3_checkIndex_8e157⟩, ?_⟩
  exact fun _ h => absurd h List.not_mem_nil
theorem am_getD_pr {l : List am_Y} (h : ∀ q ∈ l, am_PR q) (h0 : am_PR am_nil) (i : Nat) : am_PR (l.getD i am_nil) := by
  rw [List.getD_eq_getElem?_getD]
  cases e : l[i]? with
  | none => exact h0
  | some q => exact h q (List.mem_of_getElem? e)
theorem am_pr_nil : am_PR am_nil := ⟨by decide, fun _ => am_Snd_no⟩
theorem am_pr (y : Nat) : am_PR (am_P0 y) := by
  unfold am_P0
  have h : ∀ l ∈ [am_pg0, am_pg1, am_pg2, am_pg3, am_pg4, am_pg5, am_pg6, am_pg7, am_pg8], ∀ q ∈ l, am_PR q := 
    List.forall_mem_cons.mpr ⟨am_pr0, List.forall_mem_cons.mpr ⟨am_pr1, List.forall_mem_cons.mpr ⟨am_pr2, List.forall_mem_cons.mpr ⟨am_pr3, List.forall_mem_cons.mpr ⟨am_pr4, List.forall_mem_cons.mpr ⟨am_pr5, List.forall_mem_cons.mpr ⟨am_pr6, List.forall_mem_cons.mpr ⟨am_pr7, List.forall_mem_cons.mpr ⟨am_pr8, fun _ h => absurd h List.not_mem_nil⟩⟩⟩⟩⟩⟩⟩⟩⟩
  generalize [am_pg0, am_pg1, am_pg2, am_pg3, am_pg4, am_pg5, am_pg6, am_pg7, am_pg8] = ll at h
  refine am_getD_pr ?_ am_pr_nil _
  rw [List.getD_eq_getElem?_getD]
  cases e : ll[y / 40]? with
  | none => exact fun _ h => absurd h List.not_mem_nil
  | some l => exact h l (List.mem_of_getElem? e)
theorem am_hP : ∀ y, am_SndM am_P0 y := fun y => (am_pr y).2
theorem am_hpl : ∀ y, plainFor (am_P0 y).1 = true := fun y => (am_pr y).1
/-- the contract of every method, out of its AM run -/
theorem am_metP (G : am_G) (l : Launch) : ∀ (d n y : Nat) (as : List Value) (M : am_M) (r : Option Value) (M2 : am_M), am_aok am_P0 y as → am_run am_P0 n d (am_P0 y).2.2.2.2 0 (am_pad (am_P0 y).2.2.1 (am_en as)) [] M = some (r, M2) → am_Met am_P0 G l y d as M r M2 := am_metF am_hP am_hpl G l
