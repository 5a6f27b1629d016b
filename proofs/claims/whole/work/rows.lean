section
-- ===== PART A: goes FIRST, ahead of the names: the tables' words, and 'selects' of the private methods out of them =====
/-- a private method of a class that the tables say can be made, by its rows of tables_1 -/
def lw_okq (q : MethodName × Nat) : Prop := (q.1.cls ≠ "java/lang/invoke/MethodHandle" ∧ q.1.cls ≠ "java/lang/invoke/VarHandle") ∧ Cond.instantiable q.1.cls q.2 ∈ tables_1 ∧ Cond.privateMethod q.1 ∈ tables_1 ∧ Cond.instanceMethod q.1 ∈ tables_1
theorem lw_p0 : lw_okq (⟨"ToldTracks", "putFour", "(I)V"⟩, 17) := ⟨⟨by decide +kernel, by decide +kernel⟩, List.mem_of_getElem? (i := 22) (by decide +kernel), List.mem_of_getElem? (i := 503) (by decide +kernel), List.mem_of_getElem? (i := 504) (by decide +kernel)⟩
theorem lw_p1 : lw_okq (⟨"ToldTracks$Reader", "ownWord", "(I)I"⟩, 10) := ⟨⟨by decide +kernel, by decide +kernel⟩, List.mem_of_getElem? (i := 241) (by decide +kernel), List.mem_of_getElem? (i := 541) (by decide +kernel), List.mem_of_getElem? (i := 542) (by decide +kernel)⟩
theorem lw_p2 : lw_okq (⟨"ToldTracks$Parser", "readSize", "()V"⟩, 2) := ⟨⟨by decide +kernel, by decide +kernel⟩, List.mem_of_getElem? (i := 235) (by decide +kernel), List.mem_of_getElem? (i := 553) (by decide +kernel), List.mem_of_getElem? (i := 554) (by decide +kernel)⟩
theorem lw_p3 : lw_okq (⟨"ToldTracks$Parser", "readRule", "(LToldTracks$Rules;Z)V"⟩, 2) := ⟨⟨by decide +kernel, by decide +kernel⟩, List.mem_of_getElem? (i := 235) (by decide +kernel), List.mem_of_getElem? (i := 567) (by decide +kernel), List.mem_of_getElem? (i := 568) (by decide +kernel)⟩
theorem lw_p4 : lw_okq (⟨"ToldTracks$Parser", "isOneMore", "(Z)Z"⟩, 2) := ⟨⟨by decide +kernel, by decide +kernel⟩, List.mem_of_getElem? (i := 235) (by decide +kernel), List.mem_of_getElem? (i := 575) (by decide +kernel), List.mem_of_getElem? (i := 576) (by decide +kernel)⟩
theorem lw_p5 : lw_okq (⟨"ToldTracks$Parser", "readSum", "(I)V"⟩, 2) := ⟨⟨by decide +kernel, by decide +kernel⟩, List.mem_of_getElem? (i := 235) (by decide +kernel), List.mem_of_getElem? (i := 579) (by decide +kernel), List.mem_of_getElem? (i := 580) (by decide +kernel)⟩
theorem lw_p6 : lw_okq (⟨"ToldTracks$Parser", "readProduct", "(I)V"⟩, 2) := ⟨⟨by decide +kernel, by decide +kernel⟩, List.mem_of_getElem? (i := 235) (by decide +kernel), List.mem_of_getElem? (i := 583) (by decide +kernel), List.mem_of_getElem? (i := 584) (by decide +kernel)⟩
theorem lw_p7 : lw_okq (⟨"ToldTracks$Parser", "readPart", "(I)V"⟩, 2) := ⟨⟨by decide +kernel, by decide +kernel⟩, List.mem_of_getElem? (i := 235) (by decide +kernel), List.mem_of_getElem? (i := 587) (by decide +kernel), List.mem_of_getElem? (i := 588) (by decide +kernel)⟩
theorem lw_p8 : lw_okq (⟨"ToldTracks$Parser", "readLeaf", "(I)V"⟩, 2) := ⟨⟨by decide +kernel, by decide +kernel⟩, List.mem_of_getElem? (i := 235) (by decide +kernel), List.mem_of_getElem? (i := 591) (by decide +kernel), List.mem_of_getElem? (i := 592) (by decide +kernel)⟩
theorem lw_p9 : lw_okq (⟨"ToldTracks$Parser", "takeOpening", "(II)Z"⟩, 2) := ⟨⟨by decide +kernel, by decide +kernel⟩, List.mem_of_getElem? (i := 235) (by decide +kernel), List.mem_of_getElem? (i := 603) (by decide +kernel), List.mem_of_getElem? (i := 604) (by decide +kernel)⟩
theorem lw_p10 : lw_okq (⟨"ToldTracks$Parser", "readChoice", "(II)V"⟩, 2) := ⟨⟨by decide +kernel, by decide +kernel⟩, List.mem_of_getElem? (i := 235) (by decide +kernel), List.mem_of_getElem? (i := 612) (by decide +kernel), List.mem_of_getElem? (i := 613) (by decide +kernel)⟩
theorem lw_p11 : lw_okq (⟨"ToldTracks$Parser", "timesSign", "()I"⟩, 2) := ⟨⟨by decide +kernel, by decide +kernel⟩, List.mem_of_getElem? (i := 235) (by decide +kernel), List.mem_of_getElem? (i := 616) (by decide +kernel), List.mem_of_getElem? (i := 617) (by decide +kernel)⟩
theorem lw_p12 : lw_okq (⟨"ToldTracks$Parser", "readTest", "(I)V"⟩, 2) := ⟨⟨by decide +kernel, by decide +kernel⟩, List.mem_of_getElem? (i := 235) (by decide +kernel), List.mem_of_getElem? (i := 624) (by decide +kernel), List.mem_of_getElem? (i := 625) (by decide +kernel)⟩
theorem lw_p13 : lw_okq (⟨"ToldTracks$Parser", "readBoth", "(I)V"⟩, 2) := ⟨⟨by decide +kernel, by decide +kernel⟩, List.mem_of_getElem? (i := 235) (by decide +kernel), List.mem_of_getElem? (i := 628) (by decide +kernel), List.mem_of_getElem? (i := 629) (by decide +kernel)⟩
theorem lw_p14 : lw_okq (⟨"ToldTracks$Parser", "readFact", "(I)V"⟩, 2) := ⟨⟨by decide +kernel, by decide +kernel⟩, List.mem_of_getElem? (i := 235) (by decide +kernel), List.mem_of_getElem? (i := 632) (by decide +kernel), List.mem_of_getElem? (i := 633) (by decide +kernel)⟩
theorem lw_p15 : lw_okq (⟨"ToldTracks$Parser", "takeComparison", "()I"⟩, 2) := ⟨⟨by decide +kernel, by decide +kernel⟩, List.mem_of_getElem? (i := 235) (by decide +kernel), List.mem_of_getElem? (i := 636) (by decide +kernel), List.mem_of_getElem? (i := 637) (by decide +kernel)⟩
def lw_privs_1 : List (MethodName × Nat) := [(⟨"ToldTracks", "putFour", "(I)V"⟩, 17), (⟨"ToldTracks$Reader", "ownWord", "(I)I"⟩, 10), (⟨"ToldTracks$Parser", "readSize", "()V"⟩, 2), (⟨"ToldTracks$Parser", "readRule", "(LToldTracks$Rules;Z)V"⟩, 2), (⟨"ToldTracks$Parser", "isOneMore", "(Z)Z"⟩, 2), (⟨"ToldTracks$Parser", "readSum", "(I)V"⟩, 2), (⟨"ToldTracks$Parser", "readProduct", "(I)V"⟩, 2), (⟨"ToldTracks$Parser", "readPart", "(I)V"⟩, 2), (⟨"ToldTracks$Parser", "readLeaf", "(I)V"⟩, 2), (⟨"ToldTracks$Parser", "takeOpening", "(II)Z"⟩, 2), (⟨"ToldTracks$Parser", "readChoice", "(II)V"⟩, 2), (⟨"ToldTracks$Parser", "timesSign", "()I"⟩, 2), (⟨"ToldTracks$Parser", "readTest", "(I)V"⟩, 2), (⟨"ToldTracks$Parser", "readBoth", "(I)V"⟩, 2), (⟨"ToldTracks$Parser", "readFact", "(I)V"⟩, 2), (⟨"ToldTracks$Parser", "takeComparison", "()I"⟩, 2)]
theorem lw_r1 : ∀ q ∈ lw_privs_1, lw_okq q := List.forall_mem_cons.mpr ⟨lw_p0, List.forall_mem_cons.mpr ⟨lw_p1, List.forall_mem_cons.mpr ⟨lw_p2, List.forall_mem_cons.mpr ⟨lw_p3, List.forall_mem_cons.mpr ⟨lw_p4, List.forall_mem_cons.mpr ⟨lw_p5, List.forall_mem_cons.mpr ⟨lw_p6, List.forall_mem_cons.mpr ⟨lw_p7, List.forall_mem_cons.mpr ⟨lw_p8, List.forall_mem_cons.mpr ⟨lw_p9, List.forall_mem_cons.mpr ⟨lw_p10, List.forall_mem_cons.mpr ⟨lw_p11, List.forall_mem_cons.mpr ⟨lw_p12, List.forall_mem_cons.mpr ⟨lw_p13, List.forall_mem_cons.mpr ⟨lw_p14, List.forall_mem_cons.mpr ⟨lw_p15, fun _ h => absurd h List.not_mem_nil⟩⟩⟩⟩⟩⟩⟩⟩⟩⟩⟩⟩⟩⟩⟩⟩
theorem lw_p16 : lw_okq (⟨"ToldTracks$Parser", "readShip", "()V"⟩, 2) := ⟨⟨by decide +kernel, by decide +kernel⟩, List.mem_of_getElem? (i := 235) (by decide +kernel), List.mem_of_getElem? (i := 645) (by decide +kernel), List.mem_of_getElem? (i := 646) (by decide +kernel)⟩
theorem lw_p17 : lw_okq (⟨"ToldTracks$Parser", "takeAfter", "(III)I"⟩, 2) := ⟨⟨by decide +kernel, by decide +kernel⟩, List.mem_of_getElem? (i := 235) (by decide +kernel), List.mem_of_getElem? (i := 657) (by decide +kernel), List.mem_of_getElem? (i := 658) (by decide +kernel)⟩
theorem lw_p18 : lw_okq (⟨"ToldTracks$Parser", "readSaying", "()V"⟩, 2) := ⟨⟨by decide +kernel, by decide +kernel⟩, List.mem_of_getElem? (i := 235) (by decide +kernel), List.mem_of_getElem? (i := 665) (by decide +kernel), List.mem_of_getElem? (i := 666) (by decide +kernel)⟩
theorem lw_p19 : lw_okq (⟨"ToldTracks$Parser", "takeShip", "()I"⟩, 2) := ⟨⟨by decide +kernel, by decide +kernel⟩, List.mem_of_getElem? (i := 235) (by decide +kernel), List.mem_of_getElem? (i := 673) (by decide +kernel), List.mem_of_getElem? (i := 674) (by decide +kernel)⟩
theorem lw_p20 : lw_okq (⟨"ToldTracks$Parser", "takePlace", "()I"⟩, 2) := ⟨⟨by decide +kernel, by decide +kernel⟩, List.mem_of_getElem? (i := 235) (by decide +kernel), List.mem_of_getElem? (i := 682) (by decide +kernel), List.mem_of_getElem? (i := 683) (by decide +kernel)⟩
theorem lw_p21 : lw_okq (⟨"ToldTracks$Parser", "readBook", "()V"⟩, 2) := ⟨⟨by decide +kernel, by decide +kernel⟩, List.mem_of_getElem? (i := 235) (by decide +kernel), List.mem_of_getElem? (i := 690) (by decide +kernel), List.mem_of_getElem? (i := 691) (by decide +kernel)⟩
theorem lw_p22 : lw_okq (⟨"ToldTracks$Parser", "readSighting", "()V"⟩, 2) := ⟨⟨by decide +kernel, by decide +kernel⟩, List.mem_of_getElem? (i := 235) (by decide +kernel), List.mem_of_getElem? (i := 702) (by decide +kernel), List.mem_of_getElem? (i := 703) (by decide +kernel)⟩
theorem lw_p23 : lw_okq (⟨"ToldTracks", "isShip", "(I)Z"⟩, 17) := ⟨⟨by decide +kernel, by decide +kernel⟩, List.mem_of_getElem? (i := 22) (by decide +kernel), List.mem_of_getElem? (i := 789) (by decide +kernel), List.mem_of_getElem? (i := 790) (by decide +kernel)⟩
theorem lw_p24 : lw_okq (⟨"ToldTracks", "settled", "(I)LToldTracks$Track;"⟩, 17) := ⟨⟨by decide +kernel, by decide +kernel⟩, List.mem_of_getElem? (i := 22) (by decide +kernel), List.mem_of_getElem? (i := 797) (by decide +kernel), List.mem_of_getElem? (i := 798) (by decide +kernel)⟩
theorem lw_p25 : lw_okq (⟨"ToldTracks$Track", "layBooks", "()Z"⟩, 17) := ⟨⟨by decide +kernel, by decide +kernel⟩, List.mem_of_getElem? (i := 344) (by decide +kernel), List.mem_of_getElem? (i := 805) (by decide +kernel), List.mem_of_getElem? (i := 806) (by decide +kernel)⟩
theorem lw_p26 : lw_okq (⟨"ToldTracks$Waters", "widen", "([JI)Z"⟩, 5) := ⟨⟨by decide +kernel, by decide +kernel⟩, List.mem_of_getElem? (i := 350) (by decide +kernel), List.mem_of_getElem? (i := 837) (by decide +kernel), List.mem_of_getElem? (i := 838) (by decide +kernel)⟩
theorem lw_p27 : lw_okq (⟨"ToldTracks$Track", "markAlone", "()V"⟩, 17) := ⟨⟨by decide +kernel, by decide +kernel⟩, List.mem_of_getElem? (i := 344) (by decide +kernel), List.mem_of_getElem? (i := 843) (by decide +kernel), List.mem_of_getElem? (i := 844) (by decide +kernel)⟩
theorem lw_p28 : lw_okq (⟨"ToldTracks$Track", "countChains", "()I"⟩, 17) := ⟨⟨by decide +kernel, by decide +kernel⟩, List.mem_of_getElem? (i := 344) (by decide +kernel), List.mem_of_getElem? (i := 857) (by decide +kernel), List.mem_of_getElem? (i := 858) (by decide +kernel)⟩
theorem lw_p29 : lw_okq (⟨"ToldTracks$Track", "keep", "(I)V"⟩, 17) := ⟨⟨by decide +kernel, by decide +kernel⟩, List.mem_of_getElem? (i := 344) (by decide +kernel), List.mem_of_getElem? (i := 863) (by decide +kernel), List.mem_of_getElem? (i := 864) (by decide +kernel)⟩
theorem lw_p30 : lw_okq (⟨"ToldTracks$Track", "findMay", "()V"⟩, 17) := ⟨⟨by decide +kernel, by decide +kernel⟩, List.mem_of_getElem? (i := 344) (by decide +kernel), List.mem_of_getElem? (i := 867) (by decide +kernel), List.mem_of_getElem? (i := 868) (by decide +kernel)⟩
theorem lw_p31 : lw_okq (⟨"ToldTracks", "isSaying", "(II)Z"⟩, 17) := ⟨⟨by decide +kernel, by decide +kernel⟩, List.mem_of_getElem? (i := 22) (by decide +kernel), List.mem_of_getElem? (i := 879) (by decide +kernel), List.mem_of_getElem? (i := 880) (by decide +kernel)⟩
def lw_privs_2 : List (MethodName × Nat) := [(⟨"ToldTracks$Parser", "readShip", "()V"⟩, 2), (⟨"ToldTracks$Parser", "takeAfter", "(III)I"⟩, 2), (⟨"ToldTracks$Parser", "readSaying", "()V"⟩, 2), (⟨"ToldTracks$Parser", "takeShip", "()I"⟩, 2), (⟨"ToldTracks$Parser", "takePlace", "()I"⟩, 2), (⟨"ToldTracks$Parser", "readBook", "()V"⟩, 2), (⟨"ToldTracks$Parser", "readSighting", "()V"⟩, 2), (⟨"ToldTracks", "isShip", "(I)Z"⟩, 17), (⟨"ToldTracks", "settled", "(I)LToldTracks$Track;"⟩, 17), (⟨"ToldTracks$Track", "layBooks", "()Z"⟩, 17), (⟨"ToldTracks$Waters", "widen", "([JI)Z"⟩, 5), (⟨"ToldTracks$Track", "markAlone", "()V"⟩, 17), (⟨"ToldTracks$Track", "countChains", "()I"⟩, 17), (⟨"ToldTracks$Track", "keep", "(I)V"⟩, 17), (⟨"ToldTracks$Track", "findMay", "()V"⟩, 17), (⟨"ToldTracks", "isSaying", "(II)Z"⟩, 17)]
theorem lw_r2 : ∀ q ∈ lw_privs_2, lw_okq q := List.forall_mem_cons.mpr ⟨lw_p16, List.forall_mem_cons.mpr ⟨lw_p17, List.forall_mem_cons.mpr ⟨lw_p18, List.forall_mem_cons.mpr ⟨lw_p19, List.forall_mem_cons.mpr ⟨lw_p20, List.forall_mem_cons.mpr ⟨lw_p21, List.forall_mem_cons.mpr ⟨lw_p22, List.forall_mem_cons.mpr ⟨lw_p23, List.forall_mem_cons.mpr ⟨lw_p24, List.forall_mem_cons.mpr ⟨lw_p25, List.forall_mem_cons.mpr ⟨lw_p26, List.forall_mem_cons.mpr ⟨lw_p27, List.forall_mem_cons.mpr ⟨lw_p28, List.forall_mem_cons.mpr ⟨lw_p29, List.forall_mem_cons.mpr ⟨lw_p30, List.forall_mem_cons.mpr ⟨lw_p31, fun _ h => absurd h List.not_mem_nil⟩⟩⟩⟩⟩⟩⟩⟩⟩⟩⟩⟩⟩⟩⟩⟩
theorem lw_p32 : lw_okq (⟨"ToldTracks", "kindsOf", "(I)I"⟩, 17) := ⟨⟨by decide +kernel, by decide +kernel⟩, List.mem_of_getElem? (i := 22) (by decide +kernel), List.mem_of_getElem? (i := 958) (by decide +kernel), List.mem_of_getElem? (i := 959) (by decide +kernel)⟩
theorem lw_p33 : lw_okq (⟨"ToldTracks$Track", "isHonest", "(I)Z"⟩, 17) := ⟨⟨by decide +kernel, by decide +kernel⟩, List.mem_of_getElem? (i := 344) (by decide +kernel), List.mem_of_getElem? (i := 967) (by decide +kernel), List.mem_of_getElem? (i := 968) (by decide +kernel)⟩
theorem lw_p34 : lw_okq (⟨"ToldTracks$Track", "canPart", "()Z"⟩, 17) := ⟨⟨by decide +kernel, by decide +kernel⟩, List.mem_of_getElem? (i := 344) (by decide +kernel), List.mem_of_getElem? (i := 976) (by decide +kernel), List.mem_of_getElem? (i := 977) (by decide +kernel)⟩
theorem lw_p35 : lw_okq (⟨"ToldTracks$Track", "pushApart", "(II)I"⟩, 17) := ⟨⟨by decide +kernel, by decide +kernel⟩, List.mem_of_getElem? (i := 344) (by decide +kernel), List.mem_of_getElem? (i := 980) (by decide +kernel), List.mem_of_getElem? (i := 981) (by decide +kernel)⟩
theorem lw_p36 : lw_okq (⟨"ToldTracks$Track", "isMarked", "(I)Z"⟩, 17) := ⟨⟨by decide +kernel, by decide +kernel⟩, List.mem_of_getElem? (i := 344) (by decide +kernel), List.mem_of_getElem? (i := 984) (by decide +kernel), List.mem_of_getElem? (i := 985) (by decide +kernel)⟩
theorem lw_p37 : lw_okq (⟨"ToldTracks", "sayersOf", "(I)I"⟩, 17) := ⟨⟨by decide +kernel, by decide +kernel⟩, List.mem_of_getElem? (i := 22) (by decide +kernel), List.mem_of_getElem? (i := 988) (by decide +kernel), List.mem_of_getElem? (i := 989) (by decide +kernel)⟩
theorem lw_p38 : lw_okq (⟨"ToldTracks$Track", "laySayings", "(LToldTracks$Ship;I)Z"⟩, 17) := ⟨⟨by decide +kernel, by decide +kernel⟩, List.mem_of_getElem? (i := 344) (by decide +kernel), List.mem_of_getElem? (i := 996) (by decide +kernel), List.mem_of_getElem? (i := 997) (by decide +kernel)⟩
theorem lw_p39 : lw_okq (⟨"ToldTracks", "explainersOf", "(I)I"⟩, 17) := ⟨⟨by decide +kernel, by decide +kernel⟩, List.mem_of_getElem? (i := 22) (by decide +kernel), List.mem_of_getElem? (i := 1058) (by decide +kernel), List.mem_of_getElem? (i := 1059) (by decide +kernel)⟩
theorem lw_p40 : lw_okq (⟨"ToldTracks", "chanceOf", "(I)J"⟩, 17) := ⟨⟨by decide +kernel, by decide +kernel⟩, List.mem_of_getElem? (i := 22) (by decide +kernel), List.mem_of_getElem? (i := 1078) (by decide +kernel), List.mem_of_getElem? (i := 1079) (by decide +kernel)⟩
theorem lw_p41 : lw_okq (⟨"ToldTracks", "findLook", "()V"⟩, 17) := ⟨⟨by decide +kernel, by decide +kernel⟩, List.mem_of_getElem? (i := 22) (by decide +kernel), List.mem_of_getElem? (i := 1104) (by decide +kernel), List.mem_of_getElem? (i := 1105) (by decide +kernel)⟩
theorem lw_p42 : lw_okq (⟨"ToldTracks", "pileUp", "(I)I"⟩, 17) := ⟨⟨by decide +kernel, by decide +kernel⟩, List.mem_of_getElem? (i := 22) (by decide +kernel), List.mem_of_getElem? (i := 1108) (by decide +kernel), List.mem_of_getElem? (i := 1109) (by decide +kernel)⟩
theorem lw_p43 : lw_okq (⟨"ToldTracks$Track", "staysWith", "(I)Z"⟩, 17) := ⟨⟨by decide +kernel, by decide +kernel⟩, List.mem_of_getElem? (i := 344) (by decide +kernel), List.mem_of_getElem? (i := 1127) (by decide +kernel), List.mem_of_getElem? (i := 1128) (by decide +kernel)⟩
theorem lw_p44 : lw_okq (⟨"ToldTracks", "forget", "(I)V"⟩, 17) := ⟨⟨by decide +kernel, by decide +kernel⟩, List.mem_of_getElem? (i := 22) (by decide +kernel), List.mem_of_getElem? (i := 1142) (by decide +kernel), List.mem_of_getElem? (i := 1143) (by decide +kernel)⟩
theorem lw_p45 : lw_okq (⟨"ToldTracks", "write", "(I)V"⟩, 17) := ⟨⟨by decide +kernel, by decide +kernel⟩, List.mem_of_getElem? (i := 22) (by decide +kernel), List.mem_of_getElem? (i := 1164) (by decide +kernel), List.mem_of_getElem? (i := 1165) (by decide +kernel)⟩
theorem lw_p46 : lw_okq (⟨"ToldTracks", "isImage", "(I)Z"⟩, 17) := ⟨⟨by decide +kernel, by decide +kernel⟩, List.mem_of_getElem? (i := 22) (by decide +kernel), List.mem_of_getElem? (i := 1179) (by decide +kernel), List.mem_of_getElem? (i := 1180) (by decide +kernel)⟩
theorem lw_p47 : lw_okq (⟨"ToldTracks", "takeImage", "()V"⟩, 17) := ⟨⟨by decide +kernel, by decide +kernel⟩, List.mem_of_getElem? (i := 22) (by decide +kernel), List.mem_of_getElem? (i := 1187) (by decide +kernel), List.mem_of_getElem? (i := 1188) (by decide +kernel)⟩
def lw_privs_3 : List (MethodName × Nat) := [(⟨"ToldTracks", "kindsOf", "(I)I"⟩, 17), (⟨"ToldTracks$Track", "isHonest", "(I)Z"⟩, 17), (⟨"ToldTracks$Track", "canPart", "()Z"⟩, 17), (⟨"ToldTracks$Track", "pushApart", "(II)I"⟩, 17), (⟨"ToldTracks$Track", "isMarked", "(I)Z"⟩, 17), (⟨"ToldTracks", "sayersOf", "(I)I"⟩, 17), (⟨"ToldTracks$Track", "laySayings", "(LToldTracks$Ship;I)Z"⟩, 17), (⟨"ToldTracks", "explainersOf", "(I)I"⟩, 17), (⟨"ToldTracks", "chanceOf", "(I)J"⟩, 17), (⟨"ToldTracks", "findLook", "()V"⟩, 17), (⟨"ToldTracks", "pileUp", "(I)I"⟩, 17), (⟨"ToldTracks$Track", "staysWith", "(I)Z"⟩, 17), (⟨"ToldTracks", "forget", "(I)V"⟩, 17), (⟨"ToldTracks", "write", "(I)V"⟩, 17), (⟨"ToldTracks", "isImage", "(I)Z"⟩, 17), (⟨"ToldTracks", "takeImage", "()V"⟩, 17)]
theorem lw_r3 : ∀ q ∈ lw_privs_3, lw_okq q := List.forall_mem_cons.mpr ⟨lw_p32, List.forall_mem_cons.mpr ⟨lw_p33, List.forall_mem_cons.mpr ⟨lw_p34, List.forall_mem_cons.mpr ⟨lw_p35, List.forall_mem_cons.mpr ⟨lw_p36, List.forall_mem_cons.mpr ⟨lw_p37, List.forall_mem_cons.mpr ⟨lw_p38, List.forall_mem_cons.mpr ⟨lw_p39, List.forall_mem_cons.mpr ⟨lw_p40, List.forall_mem_cons.mpr ⟨lw_p41, List.forall_mem_cons.mpr ⟨lw_p42, List.forall_mem_cons.mpr ⟨lw_p43, List.forall_mem_cons.mpr ⟨lw_p44, List.forall_mem_cons.mpr ⟨lw_p45, List.forall_mem_cons.mpr ⟨lw_p46, List.forall_mem_cons.mpr ⟨lw_p47, fun _ h => absurd h List.not_mem_nil⟩⟩⟩⟩⟩⟩⟩⟩⟩⟩⟩⟩⟩⟩⟩⟩
theorem lw_p48 : lw_okq (⟨"ToldTracksModel", "refuses", "(I)I"⟩, 83) := ⟨⟨by decide +kernel, by decide +kernel⟩, List.mem_of_getElem? (i := 1195) (by decide +kernel), List.mem_of_getElem? (i := 1455) (by decide +kernel), List.mem_of_getElem? (i := 1456) (by decide +kernel)⟩
theorem lw_p49 : lw_okq (⟨"ToldTracksModel", "put", "(I)V"⟩, 83) := ⟨⟨by decide +kernel, by decide +kernel⟩, List.mem_of_getElem? (i := 1195) (by decide +kernel), List.mem_of_getElem? (i := 1459) (by decide +kernel), List.mem_of_getElem? (i := 1460) (by decide +kernel)⟩
theorem lw_p50 : lw_okq (⟨"ToldTracksModel", "ahead", "()V"⟩, 83) := ⟨⟨by decide +kernel, by decide +kernel⟩, List.mem_of_getElem? (i := 1195) (by decide +kernel), List.mem_of_getElem? (i := 1471) (by decide +kernel), List.mem_of_getElem? (i := 1472) (by decide +kernel)⟩
theorem lw_p51 : lw_okq (⟨"ToldTracksModel", "blame", "(II)V"⟩, 83) := ⟨⟨by decide +kernel, by decide +kernel⟩, List.mem_of_getElem? (i := 1195) (by decide +kernel), List.mem_of_getElem? (i := 1481) (by decide +kernel), List.mem_of_getElem? (i := 1482) (by decide +kernel)⟩
theorem lw_p52 : lw_okq (⟨"ToldTracksModel", "sizes", "()V"⟩, 83) := ⟨⟨by decide +kernel, by decide +kernel⟩, List.mem_of_getElem? (i := 1195) (by decide +kernel), List.mem_of_getElem? (i := 1485) (by decide +kernel), List.mem_of_getElem? (i := 1486) (by decide +kernel)⟩
theorem lw_p53 : lw_okq (⟨"ToldTracksModel", "isWord", "(J)Z"⟩, 83) := ⟨⟨by decide +kernel, by decide +kernel⟩, List.mem_of_getElem? (i := 1195) (by decide +kernel), List.mem_of_getElem? (i := 1490) (by decide +kernel), List.mem_of_getElem? (i := 1491) (by decide +kernel)⟩
theorem lw_p54 : lw_okq (⟨"ToldTracksModel", "number", "(II)I"⟩, 83) := ⟨⟨by decide +kernel, by decide +kernel⟩, List.mem_of_getElem? (i := 1195) (by decide +kernel), List.mem_of_getElem? (i := 1494) (by decide +kernel), List.mem_of_getElem? (i := 1495) (by decide +kernel)⟩
theorem lw_p55 : lw_okq (⟨"ToldTracksModel", "must", "(I)V"⟩, 83) := ⟨⟨by decide +kernel, by decide +kernel⟩, List.mem_of_getElem? (i := 1195) (by decide +kernel), List.mem_of_getElem? (i := 1501) (by decide +kernel), List.mem_of_getElem? (i := 1502) (by decide +kernel)⟩
theorem lw_p56 : lw_okq (⟨"ToldTracksModel", "isSign", "(I)Z"⟩, 83) := ⟨⟨by decide +kernel, by decide +kernel⟩, List.mem_of_getElem? (i := 1195) (by decide +kernel), List.mem_of_getElem? (i := 1505) (by decide +kernel), List.mem_of_getElem? (i := 1506) (by decide +kernel)⟩
theorem lw_p57 : lw_okq (⟨"ToldTracksModel", "statement", "()V"⟩, 83) := ⟨⟨by decide +kernel, by decide +kernel⟩, List.mem_of_getElem? (i := 1195) (by decide +kernel), List.mem_of_getElem? (i := 1509) (by decide +kernel), List.mem_of_getElem? (i := 1510) (by decide +kernel)⟩
theorem lw_p58 : lw_okq (⟨"ToldTracksModel", "rule", "(I)V"⟩, 83) := ⟨⟨by decide +kernel, by decide +kernel⟩, List.mem_of_getElem? (i := 1195) (by decide +kernel), List.mem_of_getElem? (i := 1514) (by decide +kernel), List.mem_of_getElem? (i := 1515) (by decide +kernel)⟩
theorem lw_p59 : lw_okq (⟨"ToldTracksModel", "counts", "(Z)Z"⟩, 83) := ⟨⟨by decide +kernel, by decide +kernel⟩, List.mem_of_getElem? (i := 1195) (by decide +kernel), List.mem_of_getElem? (i := 1521) (by decide +kernel), List.mem_of_getElem? (i := 1522) (by decide +kernel)⟩
theorem lw_p60 : lw_okq (⟨"ToldTracksModel", "reads", "(Z)V"⟩, 83) := ⟨⟨by decide +kernel, by decide +kernel⟩, List.mem_of_getElem? (i := 1195) (by decide +kernel), List.mem_of_getElem? (i := 1528) (by decide +kernel), List.mem_of_getElem? (i := 1529) (by decide +kernel)⟩
theorem lw_p61 : lw_okq (⟨"ToldTracksModel", "pushes", "(I)V"⟩, 83) := ⟨⟨by decide +kernel, by decide +kernel⟩, List.mem_of_getElem? (i := 1195) (by decide +kernel), List.mem_of_getElem? (i := 1532) (by decide +kernel), List.mem_of_getElem? (i := 1533) (by decide +kernel)⟩
theorem lw_p62 : lw_okq (⟨"ToldTracksModel", "operand", "()Z"⟩, 83) := ⟨⟨by decide +kernel, by decide +kernel⟩, List.mem_of_getElem? (i := 1195) (by decide +kernel), List.mem_of_getElem? (i := 1536) (by decide +kernel), List.mem_of_getElem? (i := 1537) (by decide +kernel)⟩
theorem lw_p63 : lw_okq (⟨"ToldTracksModel", "holdsBack", "(I)V"⟩, 83) := ⟨⟨by decide +kernel, by decide +kernel⟩, List.mem_of_getElem? (i := 1195) (by decide +kernel), List.mem_of_getElem? (i := 1544) (by decide +kernel), List.mem_of_getElem? (i := 1545) (by decide +kernel)⟩
def lw_privs_4 : List (MethodName × Nat) := [(⟨"ToldTracksModel", "refuses", "(I)I"⟩, 83), (⟨"ToldTracksModel", "put", "(I)V"⟩, 83), (⟨"ToldTracksModel", "ahead", "()V"⟩, 83), (⟨"ToldTracksModel", "blame", "(II)V"⟩, 83), (⟨"ToldTracksModel", "sizes", "()V"⟩, 83), (⟨"ToldTracksModel", "isWord", "(J)Z"⟩, 83), (⟨"ToldTracksModel", "number", "(II)I"⟩, 83), (⟨"ToldTracksModel", "must", "(I)V"⟩, 83), (⟨"ToldTracksModel", "isSign", "(I)Z"⟩, 83), (⟨"ToldTracksModel", "statement", "()V"⟩, 83), (⟨"ToldTracksModel", "rule", "(I)V"⟩, 83), (⟨"ToldTracksModel", "counts", "(Z)Z"⟩, 83), (⟨"ToldTracksModel", "reads", "(Z)V"⟩, 83), (⟨"ToldTracksModel", "pushes", "(I)V"⟩, 83), (⟨"ToldTracksModel", "operand", "()Z"⟩, 83), (⟨"ToldTracksModel", "holdsBack", "(I)V"⟩, 83)]
theorem lw_r4 : ∀ q ∈ lw_privs_4, lw_okq q := List.forall_mem_cons.mpr ⟨lw_p48, List.forall_mem_cons.mpr ⟨lw_p49, List.forall_mem_cons.mpr ⟨lw_p50, List.forall_mem_cons.mpr ⟨lw_p51, List.forall_mem_cons.mpr ⟨lw_p52, List.forall_mem_cons.mpr ⟨lw_p53, List.forall_mem_cons.mpr ⟨lw_p54, List.forall_mem_cons.mpr ⟨lw_p55, List.forall_mem_cons.mpr ⟨lw_p56, List.forall_mem_cons.mpr ⟨lw_p57, List.forall_mem_cons.mpr ⟨lw_p58, List.forall_mem_cons.mpr ⟨lw_p59, List.forall_mem_cons.mpr ⟨lw_p60, List.forall_mem_cons.mpr ⟨lw_p61, List.forall_mem_cons.mpr ⟨lw_p62, List.forall_mem_cons.mpr ⟨lw_p63, fun _ h => absurd h List.not_mem_nil⟩⟩⟩⟩⟩⟩⟩⟩⟩⟩⟩⟩⟩⟩⟩⟩
theorem lw_p64 : lw_okq (⟨"ToldTracksModel", "opens", "(I)V"⟩, 83) := ⟨⟨by decide +kernel, by decide +kernel⟩, List.mem_of_getElem? (i := 1195) (by decide +kernel), List.mem_of_getElem? (i := 1548) (by decide +kernel), List.mem_of_getElem? (i := 1549) (by decide +kernel)⟩
theorem lw_p65 : lw_okq (⟨"ToldTracksModel", "add", "(II)V"⟩, 83) := ⟨⟨by decide +kernel, by decide +kernel⟩, List.mem_of_getElem? (i := 1195) (by decide +kernel), List.mem_of_getElem? (i := 1553) (by decide +kernel), List.mem_of_getElem? (i := 1554) (by decide +kernel)⟩
theorem lw_p66 : lw_okq (⟨"ToldTracksModel", "goesOn", "()Z"⟩, 83) := ⟨⟨by decide +kernel, by decide +kernel⟩, List.mem_of_getElem? (i := 1195) (by decide +kernel), List.mem_of_getElem? (i := 1562) (by decide +kernel), List.mem_of_getElem? (i := 1563) (by decide +kernel)⟩
theorem lw_p67 : lw_okq (⟨"ToldTracksModel", "joins", "(I)V"⟩, 83) := ⟨⟨by decide +kernel, by decide +kernel⟩, List.mem_of_getElem? (i := 1195) (by decide +kernel), List.mem_of_getElem? (i := 1566) (by decide +kernel), List.mem_of_getElem? (i := 1567) (by decide +kernel)⟩
theorem lw_p68 : lw_okq (⟨"ToldTracksModel", "must", "(J)V"⟩, 83) := ⟨⟨by decide +kernel, by decide +kernel⟩, List.mem_of_getElem? (i := 1195) (by decide +kernel), List.mem_of_getElem? (i := 1576) (by decide +kernel), List.mem_of_getElem? (i := 1577) (by decide +kernel)⟩
theorem lw_p69 : lw_okq (⟨"ToldTracksModel", "ship", "()V"⟩, 83) := ⟨⟨by decide +kernel, by decide +kernel⟩, List.mem_of_getElem? (i := 1195) (by decide +kernel), List.mem_of_getElem? (i := 1583) (by decide +kernel), List.mem_of_getElem? (i := 1584) (by decide +kernel)⟩
theorem lw_p70 : lw_okq (⟨"ToldTracksModel", "fresh", "()J"⟩, 83) := ⟨⟨by decide +kernel, by decide +kernel⟩, List.mem_of_getElem? (i := 1195) (by decide +kernel), List.mem_of_getElem? (i := 1587) (by decide +kernel), List.mem_of_getElem? (i := 1588) (by decide +kernel)⟩
theorem lw_p71 : lw_okq (⟨"ToldTracksModel", "isOwn", "(J)Z"⟩, 83) := ⟨⟨by decide +kernel, by decide +kernel⟩, List.mem_of_getElem? (i := 1195) (by decide +kernel), List.mem_of_getElem? (i := 1591) (by decide +kernel), List.mem_of_getElem? (i := 1592) (by decide +kernel)⟩
theorem lw_p72 : lw_okq (⟨"ToldTracksModel", "named", "(J)I"⟩, 83) := ⟨⟨by decide +kernel, by decide +kernel⟩, List.mem_of_getElem? (i := 1195) (by decide +kernel), List.mem_of_getElem? (i := 1607) (by decide +kernel), List.mem_of_getElem? (i := 1608) (by decide +kernel)⟩
theorem lw_p73 : lw_okq (⟨"ToldTracksModel", "says", "()V"⟩, 83) := ⟨⟨by decide +kernel, by decide +kernel⟩, List.mem_of_getElem? (i := 1195) (by decide +kernel), List.mem_of_getElem? (i := 1611) (by decide +kernel), List.mem_of_getElem? (i := 1612) (by decide +kernel)⟩
theorem lw_p74 : lw_okq (⟨"ToldTracksModel", "asked", "()I"⟩, 83) := ⟨⟨by decide +kernel, by decide +kernel⟩, List.mem_of_getElem? (i := 1195) (by decide +kernel), List.mem_of_getElem? (i := 1615) (by decide +kernel), List.mem_of_getElem? (i := 1616) (by decide +kernel)⟩
theorem lw_p75 : lw_okq (⟨"ToldTracksModel", "cellHere", "()I"⟩, 83) := ⟨⟨by decide +kernel, by decide +kernel⟩, List.mem_of_getElem? (i := 1195) (by decide +kernel), List.mem_of_getElem? (i := 1619) (by decide +kernel), List.mem_of_getElem? (i := 1620) (by decide +kernel)⟩
theorem lw_p76 : lw_okq (⟨"ToldTracksModel", "book", "()V"⟩, 83) := ⟨⟨by decide +kernel, by decide +kernel⟩, List.mem_of_getElem? (i := 1195) (by decide +kernel), List.mem_of_getElem? (i := 1623) (by decide +kernel), List.mem_of_getElem? (i := 1624) (by decide +kernel)⟩
theorem lw_p77 : lw_okq (⟨"ToldTracksModel", "seen", "()V"⟩, 83) := ⟨⟨by decide +kernel, by decide +kernel⟩, List.mem_of_getElem? (i := 1195) (by decide +kernel), List.mem_of_getElem? (i := 1627) (by decide +kernel), List.mem_of_getElem? (i := 1628) (by decide +kernel)⟩
theorem lw_p78 : lw_okq (⟨"ToldTracksModel", "lucks", "()V"⟩, 83) := ⟨⟨by decide +kernel, by decide +kernel⟩, List.mem_of_getElem? (i := 1195) (by decide +kernel), List.mem_of_getElem? (i := 1631) (by decide +kernel), List.mem_of_getElem? (i := 1632) (by decide +kernel)⟩
theorem lw_p79 : lw_okq (⟨"ToldTracksModel", "lays", "()V"⟩, 83) := ⟨⟨by decide +kernel, by decide +kernel⟩, List.mem_of_getElem? (i := 1195) (by decide +kernel), List.mem_of_getElem? (i := 1635) (by decide +kernel), List.mem_of_getElem? (i := 1636) (by decide +kernel)⟩
def lw_privs_5 : List (MethodName × Nat) := [(⟨"ToldTracksModel", "opens", "(I)V"⟩, 83), (⟨"ToldTracksModel", "add", "(II)V"⟩, 83), (⟨"ToldTracksModel", "goesOn", "()Z"⟩, 83), (⟨"ToldTracksModel", "joins", "(I)V"⟩, 83), (⟨"ToldTracksModel", "must", "(J)V"⟩, 83), (⟨"ToldTracksModel", "ship", "()V"⟩, 83), (⟨"ToldTracksModel", "fresh", "()J"⟩, 83), (⟨"ToldTracksModel", "isOwn", "(J)Z"⟩, 83), (⟨"ToldTracksModel", "named", "(J)I"⟩, 83), (⟨"ToldTracksModel", "says", "()V"⟩, 83), (⟨"ToldTracksModel", "asked", "()I"⟩, 83), (⟨"ToldTracksModel", "cellHere", "()I"⟩, 83), (⟨"ToldTracksModel", "book", "()V"⟩, 83), (⟨"ToldTracksModel", "seen", "()V"⟩, 83), (⟨"ToldTracksModel", "lucks", "()V"⟩, 83), (⟨"ToldTracksModel", "lays", "()V"⟩, 83)]
theorem lw_r5 : ∀ q ∈ lw_privs_5, lw_okq q := List.forall_mem_cons.mpr ⟨lw_p64, List.forall_mem_cons.mpr ⟨lw_p65, List.forall_mem_cons.mpr ⟨lw_p66, List.forall_mem_cons.mpr ⟨lw_p67, List.forall_mem_cons.mpr ⟨lw_p68, List.forall_mem_cons.mpr ⟨lw_p69, List.forall_mem_cons.mpr ⟨lw_p70, List.forall_mem_cons.mpr ⟨lw_p71, List.forall_mem_cons.mpr ⟨lw_p72, List.forall_mem_cons.mpr ⟨lw_p73, List.forall_mem_cons.mpr ⟨lw_p74, List.forall_mem_cons.mpr ⟨lw_p75, List.forall_mem_cons.mpr ⟨lw_p76, List.forall_mem_cons.mpr ⟨lw_p77, List.forall_mem_cons.mpr ⟨lw_p78, List.forall_mem_cons.mpr ⟨lw_p79, fun _ h => absurd h List.not_mem_nil⟩⟩⟩⟩⟩⟩⟩⟩⟩⟩⟩⟩⟩⟩⟩⟩
theorem lw_p80 : lw_okq (⟨"ToldTracksModel", "cells", "()I"⟩, 83) := ⟨⟨by decide +kernel, by decide +kernel⟩, List.mem_of_getElem? (i := 1195) (by decide +kernel), List.mem_of_getElem? (i := 1639) (by decide +kernel), List.mem_of_getElem? (i := 1640) (by decide +kernel)⟩
theorem lw_p81 : lw_okq (⟨"ToldTracksModel", "sumOf", "(III)I"⟩, 83) := ⟨⟨by decide +kernel, by decide +kernel⟩, List.mem_of_getElem? (i := 1195) (by decide +kernel), List.mem_of_getElem? (i := 1643) (by decide +kernel), List.mem_of_getElem? (i := 1644) (by decide +kernel)⟩
theorem lw_p82 : lw_okq (⟨"ToldTracksModel", "ruleOf", "(IIII)I"⟩, 83) := ⟨⟨by decide +kernel, by decide +kernel⟩, List.mem_of_getElem? (i := 1195) (by decide +kernel), List.mem_of_getElem? (i := 1647) (by decide +kernel), List.mem_of_getElem? (i := 1648) (by decide +kernel)⟩
theorem lw_p83 : lw_okq (⟨"ToldTracksModel", "columnOf", "(I)I"⟩, 83) := ⟨⟨by decide +kernel, by decide +kernel⟩, List.mem_of_getElem? (i := 1195) (by decide +kernel), List.mem_of_getElem? (i := 1651) (by decide +kernel), List.mem_of_getElem? (i := 1652) (by decide +kernel)⟩
theorem lw_p84 : lw_okq (⟨"ToldTracksModel", "rowOf", "(I)I"⟩, 83) := ⟨⟨by decide +kernel, by decide +kernel⟩, List.mem_of_getElem? (i := 1195) (by decide +kernel), List.mem_of_getElem? (i := 1655) (by decide +kernel), List.mem_of_getElem? (i := 1656) (by decide +kernel)⟩
theorem lw_p85 : lw_okq (⟨"ToldTracksModel", "works", "(II)J"⟩, 83) := ⟨⟨by decide +kernel, by decide +kernel⟩, List.mem_of_getElem? (i := 1195) (by decide +kernel), List.mem_of_getElem? (i := 1659) (by decide +kernel), List.mem_of_getElem? (i := 1660) (by decide +kernel)⟩
theorem lw_p86 : lw_okq (⟨"ToldTracksModel", "isCell", "(II)Z"⟩, 83) := ⟨⟨by decide +kernel, by decide +kernel⟩, List.mem_of_getElem? (i := 1195) (by decide +kernel), List.mem_of_getElem? (i := 1687) (by decide +kernel), List.mem_of_getElem? (i := 1688) (by decide +kernel)⟩
theorem lw_p87 : lw_okq (⟨"ToldTracksModel", "at", "(II)I"⟩, 83) := ⟨⟨by decide +kernel, by decide +kernel⟩, List.mem_of_getElem? (i := 1195) (by decide +kernel), List.mem_of_getElem? (i := 1694) (by decide +kernel), List.mem_of_getElem? (i := 1695) (by decide +kernel)⟩
theorem lw_p88 : lw_okq (⟨"ToldTracksModel", "isQuiet", "(II)Z"⟩, 83) := ⟨⟨by decide +kernel, by decide +kernel⟩, List.mem_of_getElem? (i := 1195) (by decide +kernel), List.mem_of_getElem? (i := 1698) (by decide +kernel), List.mem_of_getElem? (i := 1699) (by decide +kernel)⟩
theorem lw_p89 : lw_okq (⟨"ToldTracksModel", "sayingsOf", "(I)I"⟩, 83) := ⟨⟨by decide +kernel, by decide +kernel⟩, List.mem_of_getElem? (i := 1195) (by decide +kernel), List.mem_of_getElem? (i := 1706) (by decide +kernel), List.mem_of_getElem? (i := 1707) (by decide +kernel)⟩
theorem lw_p90 : lw_okq (⟨"ToldTracksModel", "said", "(II)I"⟩, 83) := ⟨⟨by decide +kernel, by decide +kernel⟩, List.mem_of_getElem? (i := 1195) (by decide +kernel), List.mem_of_getElem? (i := 1710) (by decide +kernel), List.mem_of_getElem? (i := 1711) (by decide +kernel)⟩
theorem lw_p91 : lw_okq (⟨"ToldTracksModel", "isShip", "(I)Z"⟩, 83) := ⟨⟨by decide +kernel, by decide +kernel⟩, List.mem_of_getElem? (i := 1195) (by decide +kernel), List.mem_of_getElem? (i := 1718) (by decide +kernel), List.mem_of_getElem? (i := 1719) (by decide +kernel)⟩
theorem lw_p92 : lw_okq (⟨"ToldTracksModel", "goes", "(II)V"⟩, 83) := ⟨⟨by decide +kernel, by decide +kernel⟩, List.mem_of_getElem? (i := 1195) (by decide +kernel), List.mem_of_getElem? (i := 1727) (by decide +kernel), List.mem_of_getElem? (i := 1728) (by decide +kernel)⟩
theorem lw_p93 : lw_okq (⟨"ToldTracksModel", "reaches", "(IIII)V"⟩, 83) := ⟨⟨by decide +kernel, by decide +kernel⟩, List.mem_of_getElem? (i := 1195) (by decide +kernel), List.mem_of_getElem? (i := 1731) (by decide +kernel), List.mem_of_getElem? (i := 1732) (by decide +kernel)⟩
theorem lw_p94 : lw_okq (⟨"ToldTracksModel", "isWater", "(II)Z"⟩, 83) := ⟨⟨by decide +kernel, by decide +kernel⟩, List.mem_of_getElem? (i := 1195) (by decide +kernel), List.mem_of_getElem? (i := 1735) (by decide +kernel), List.mem_of_getElem? (i := 1736) (by decide +kernel)⟩
theorem lw_p95 : lw_okq (⟨"ToldTracksModel", "hoursTo", "(II)I"⟩, 83) := ⟨⟨by decide +kernel, by decide +kernel⟩, List.mem_of_getElem? (i := 1195) (by decide +kernel), List.mem_of_getElem? (i := 1739) (by decide +kernel), List.mem_of_getElem? (i := 1740) (by decide +kernel)⟩
def lw_privs_6 : List (MethodName × Nat) := [(⟨"ToldTracksModel", "cells", "()I"⟩, 83), (⟨"ToldTracksModel", "sumOf", "(III)I"⟩, 83), (⟨"ToldTracksModel", "ruleOf", "(IIII)I"⟩, 83), (⟨"ToldTracksModel", "columnOf", "(I)I"⟩, 83), (⟨"ToldTracksModel", "rowOf", "(I)I"⟩, 83), (⟨"ToldTracksModel", "works", "(II)J"⟩, 83), (⟨"ToldTracksModel", "isCell", "(II)Z"⟩, 83), (⟨"ToldTracksModel", "at", "(II)I"⟩, 83), (⟨"ToldTracksModel", "isQuiet", "(II)Z"⟩, 83), (⟨"ToldTracksModel", "sayingsOf", "(I)I"⟩, 83), (⟨"ToldTracksModel", "said", "(II)I"⟩, 83), (⟨"ToldTracksModel", "isShip", "(I)Z"⟩, 83), (⟨"ToldTracksModel", "goes", "(II)V"⟩, 83), (⟨"ToldTracksModel", "reaches", "(IIII)V"⟩, 83), (⟨"ToldTracksModel", "isWater", "(II)Z"⟩, 83), (⟨"ToldTracksModel", "hoursTo", "(II)I"⟩, 83)]
theorem lw_r6 : ∀ q ∈ lw_privs_6, lw_okq q := List.forall_mem_cons.mpr ⟨lw_p80, List.forall_mem_cons.mpr ⟨lw_p81, List.forall_mem_cons.mpr ⟨lw_p82, List.forall_mem_cons.mpr ⟨lw_p83, List.forall_mem_cons.mpr ⟨lw_p84, List.forall_mem_cons.mpr ⟨lw_p85, List.forall_mem_cons.mpr ⟨lw_p86, List.forall_mem_cons.mpr ⟨lw_p87, List.forall_mem_cons.mpr ⟨lw_p88, List.forall_mem_cons.mpr ⟨lw_p89, List.forall_mem_cons.mpr ⟨lw_p90, List.forall_mem_cons.mpr ⟨lw_p91, List.forall_mem_cons.mpr ⟨lw_p92, List.forall_mem_cons.mpr ⟨lw_p93, List.forall_mem_cons.mpr ⟨lw_p94, List.forall_mem_cons.mpr ⟨lw_p95, fun _ h => absurd h List.not_mem_nil⟩⟩⟩⟩⟩⟩⟩⟩⟩⟩⟩⟩⟩⟩⟩⟩
theorem lw_p96 : lw_okq (⟨"ToldTracksModel", "booksOf", "(I)I"⟩, 83) := ⟨⟨by decide +kernel, by decide +kernel⟩, List.mem_of_getElem? (i := 1195) (by decide +kernel), List.mem_of_getElem? (i := 1747) (by decide +kernel), List.mem_of_getElem? (i := 1748) (by decide +kernel)⟩
theorem lw_p97 : lw_okq (⟨"ToldTracksModel", "booksFit", "(I)Z"⟩, 83) := ⟨⟨by decide +kernel, by decide +kernel⟩, List.mem_of_getElem? (i := 1195) (by decide +kernel), List.mem_of_getElem? (i := 1751) (by decide +kernel), List.mem_of_getElem? (i := 1752) (by decide +kernel)⟩
theorem lw_p98 : lw_okq (⟨"ToldTracksModel", "addBooks", "(I)V"⟩, 83) := ⟨⟨by decide +kernel, by decide +kernel⟩, List.mem_of_getElem? (i := 1195) (by decide +kernel), List.mem_of_getElem? (i := 1755) (by decide +kernel), List.mem_of_getElem? (i := 1756) (by decide +kernel)⟩
theorem lw_p99 : lw_okq (⟨"ToldTracksModel", "fact", "(III)V"⟩, 83) := ⟨⟨by decide +kernel, by decide +kernel⟩, List.mem_of_getElem? (i := 1195) (by decide +kernel), List.mem_of_getElem? (i := 1759) (by decide +kernel), List.mem_of_getElem? (i := 1760) (by decide +kernel)⟩
theorem lw_p100 : lw_okq (⟨"ToldTracksModel", "fit", "(I)Z"⟩, 83) := ⟨⟨by decide +kernel, by decide +kernel⟩, List.mem_of_getElem? (i := 1195) (by decide +kernel), List.mem_of_getElem? (i := 1763) (by decide +kernel), List.mem_of_getElem? (i := 1764) (by decide +kernel)⟩
theorem lw_p101 : lw_okq (⟨"ToldTracksModel", "keeps", "(I)V"⟩, 83) := ⟨⟨by decide +kernel, by decide +kernel⟩, List.mem_of_getElem? (i := 1195) (by decide +kernel), List.mem_of_getElem? (i := 1770) (by decide +kernel), List.mem_of_getElem? (i := 1771) (by decide +kernel)⟩
theorem lw_p102 : lw_okq (⟨"ToldTracksModel", "pairs", "(I)V"⟩, 83) := ⟨⟨by decide +kernel, by decide +kernel⟩, List.mem_of_getElem? (i := 1195) (by decide +kernel), List.mem_of_getElem? (i := 1774) (by decide +kernel), List.mem_of_getElem? (i := 1775) (by decide +kernel)⟩
theorem lw_p103 : lw_okq (⟨"ToldTracksModel", "laden", "(II)Z"⟩, 83) := ⟨⟨by decide +kernel, by decide +kernel⟩, List.mem_of_getElem? (i := 1195) (by decide +kernel), List.mem_of_getElem? (i := 1778) (by decide +kernel), List.mem_of_getElem? (i := 1779) (by decide +kernel)⟩
theorem lw_p104 : lw_okq (⟨"ToldTracksModel", "isSound", "(IIZ)Z"⟩, 83) := ⟨⟨by decide +kernel, by decide +kernel⟩, List.mem_of_getElem? (i := 1195) (by decide +kernel), List.mem_of_getElem? (i := 1782) (by decide +kernel), List.mem_of_getElem? (i := 1783) (by decide +kernel)⟩
theorem lw_p105 : lw_okq (⟨"ToldTracksModel", "withBooks", "(III)Z"⟩, 83) := ⟨⟨by decide +kernel, by decide +kernel⟩, List.mem_of_getElem? (i := 1195) (by decide +kernel), List.mem_of_getElem? (i := 1786) (by decide +kernel), List.mem_of_getElem? (i := 1787) (by decide +kernel)⟩
theorem lw_p106 : lw_okq (⟨"ToldTracksModel", "hourOf", "(II)I"⟩, 83) := ⟨⟨by decide +kernel, by decide +kernel⟩, List.mem_of_getElem? (i := 1195) (by decide +kernel), List.mem_of_getElem? (i := 1794) (by decide +kernel), List.mem_of_getElem? (i := 1795) (by decide +kernel)⟩
theorem lw_p107 : lw_okq (⟨"ToldTracksModel", "lays", "(I)V"⟩, 83) := ⟨⟨by decide +kernel, by decide +kernel⟩, List.mem_of_getElem? (i := 1195) (by decide +kernel), List.mem_of_getElem? (i := 1806) (by decide +kernel), List.mem_of_getElem? (i := 1807) (by decide +kernel)⟩
theorem lw_p108 : lw_okq (⟨"ToldTracksModel", "cellsOf", "(II)I"⟩, 83) := ⟨⟨by decide +kernel, by decide +kernel⟩, List.mem_of_getElem? (i := 1195) (by decide +kernel), List.mem_of_getElem? (i := 1810) (by decide +kernel), List.mem_of_getElem? (i := 1811) (by decide +kernel)⟩
theorem lw_p109 : lw_okq (⟨"ToldTracksModel", "mayBe", "(III)Z"⟩, 83) := ⟨⟨by decide +kernel, by decide +kernel⟩, List.mem_of_getElem? (i := 1195) (by decide +kernel), List.mem_of_getElem? (i := 1814) (by decide +kernel), List.mem_of_getElem? (i := 1815) (by decide +kernel)⟩
theorem lw_p110 : lw_okq (⟨"ToldTracksModel", "isKind", "(II)Z"⟩, 83) := ⟨⟨by decide +kernel, by decide +kernel⟩, List.mem_of_getElem? (i := 1195) (by decide +kernel), List.mem_of_getElem? (i := 1826) (by decide +kernel), List.mem_of_getElem? (i := 1827) (by decide +kernel)⟩
theorem lw_p111 : lw_okq (⟨"ToldTracksModel", "whoOf", "(I)I"⟩, 83) := ⟨⟨by decide +kernel, by decide +kernel⟩, List.mem_of_getElem? (i := 1195) (by decide +kernel), List.mem_of_getElem? (i := 1830) (by decide +kernel), List.mem_of_getElem? (i := 1831) (by decide +kernel)⟩
def lw_privs_7 : List (MethodName × Nat) := [(⟨"ToldTracksModel", "booksOf", "(I)I"⟩, 83), (⟨"ToldTracksModel", "booksFit", "(I)Z"⟩, 83), (⟨"ToldTracksModel", "addBooks", "(I)V"⟩, 83), (⟨"ToldTracksModel", "fact", "(III)V"⟩, 83), (⟨"ToldTracksModel", "fit", "(I)Z"⟩, 83), (⟨"ToldTracksModel", "keeps", "(I)V"⟩, 83), (⟨"ToldTracksModel", "pairs", "(I)V"⟩, 83), (⟨"ToldTracksModel", "laden", "(II)Z"⟩, 83), (⟨"ToldTracksModel", "isSound", "(IIZ)Z"⟩, 83), (⟨"ToldTracksModel", "withBooks", "(III)Z"⟩, 83), (⟨"ToldTracksModel", "hourOf", "(II)I"⟩, 83), (⟨"ToldTracksModel", "lays", "(I)V"⟩, 83), (⟨"ToldTracksModel", "cellsOf", "(II)I"⟩, 83), (⟨"ToldTracksModel", "mayBe", "(III)Z"⟩, 83), (⟨"ToldTracksModel", "isKind", "(II)Z"⟩, 83), (⟨"ToldTracksModel", "whoOf", "(I)I"⟩, 83)]
theorem lw_r7 : ∀ q ∈ lw_privs_7, lw_okq q := List.forall_mem_cons.mpr ⟨lw_p96, List.forall_mem_cons.mpr ⟨lw_p97, List.forall_mem_cons.mpr ⟨lw_p98, List.forall_mem_cons.mpr ⟨lw_p99, List.forall_mem_cons.mpr ⟨lw_p100, List.forall_mem_cons.mpr ⟨lw_p101, List.forall_mem_cons.mpr ⟨lw_p102, List.forall_mem_cons.mpr ⟨lw_p103, List.forall_mem_cons.mpr ⟨lw_p104, List.forall_mem_cons.mpr ⟨lw_p105, List.forall_mem_cons.mpr ⟨lw_p106, List.forall_mem_cons.mpr ⟨lw_p107, List.forall_mem_cons.mpr ⟨lw_p108, List.forall_mem_cons.mpr ⟨lw_p109, List.forall_mem_cons.mpr ⟨lw_p110, List.forall_mem_cons.mpr ⟨lw_p111, fun _ h => absurd h List.not_mem_nil⟩⟩⟩⟩⟩⟩⟩⟩⟩⟩⟩⟩⟩⟩⟩⟩
theorem lw_p112 : lw_okq (⟨"ToldTracksModel", "saidBy", "(II)Z"⟩, 83) := ⟨⟨by decide +kernel, by decide +kernel⟩, List.mem_of_getElem? (i := 1195) (by decide +kernel), List.mem_of_getElem? (i := 1834) (by decide +kernel), List.mem_of_getElem? (i := 1835) (by decide +kernel)⟩
theorem lw_p113 : lw_okq (⟨"ToldTracksModel", "addSayings", "(III)Z"⟩, 83) := ⟨⟨by decide +kernel, by decide +kernel⟩, List.mem_of_getElem? (i := 1195) (by decide +kernel), List.mem_of_getElem? (i := 1838) (by decide +kernel), List.mem_of_getElem? (i := 1839) (by decide +kernel)⟩
theorem lw_p114 : lw_okq (⟨"ToldTracksModel", "isPair", "(I)Z"⟩, 83) := ⟨⟨by decide +kernel, by decide +kernel⟩, List.mem_of_getElem? (i := 1195) (by decide +kernel), List.mem_of_getElem? (i := 1842) (by decide +kernel), List.mem_of_getElem? (i := 1843) (by decide +kernel)⟩
theorem lw_p115 : lw_okq (⟨"ToldTracksModel", "keepsSets", "()V"⟩, 83) := ⟨⟨by decide +kernel, by decide +kernel⟩, List.mem_of_getElem? (i := 1195) (by decide +kernel), List.mem_of_getElem? (i := 1846) (by decide +kernel), List.mem_of_getElem? (i := 1847) (by decide +kernel)⟩
theorem lw_p116 : lw_okq (⟨"ToldTracksModel", "parts", "(II)Z"⟩, 83) := ⟨⟨by decide +kernel, by decide +kernel⟩, List.mem_of_getElem? (i := 1195) (by decide +kernel), List.mem_of_getElem? (i := 1850) (by decide +kernel), List.mem_of_getElem? (i := 1851) (by decide +kernel)⟩
theorem lw_p117 : lw_okq (⟨"ToldTracksModel", "bringsSets", "()V"⟩, 83) := ⟨⟨by decide +kernel, by decide +kernel⟩, List.mem_of_getElem? (i := 1195) (by decide +kernel), List.mem_of_getElem? (i := 1854) (by decide +kernel), List.mem_of_getElem? (i := 1855) (by decide +kernel)⟩
theorem lw_p118 : lw_okq (⟨"ToldTracksModel", "gapsOf", "(I)I"⟩, 83) := ⟨⟨by decide +kernel, by decide +kernel⟩, List.mem_of_getElem? (i := 1195) (by decide +kernel), List.mem_of_getElem? (i := 1858) (by decide +kernel), List.mem_of_getElem? (i := 1859) (by decide +kernel)⟩
theorem lw_p119 : lw_okq (⟨"ToldTracksModel", "isHonest", "(II)Z"⟩, 83) := ⟨⟨by decide +kernel, by decide +kernel⟩, List.mem_of_getElem? (i := 1195) (by decide +kernel), List.mem_of_getElem? (i := 1862) (by decide +kernel), List.mem_of_getElem? (i := 1863) (by decide +kernel)⟩
theorem lw_p120 : lw_okq (⟨"ToldTracksModel", "taleOf", "(II)I"⟩, 83) := ⟨⟨by decide +kernel, by decide +kernel⟩, List.mem_of_getElem? (i := 1195) (by decide +kernel), List.mem_of_getElem? (i := 1870) (by decide +kernel), List.mem_of_getElem? (i := 1871) (by decide +kernel)⟩
theorem lw_p121 : lw_okq (⟨"ToldTracksModel", "isFor", "(II)Z"⟩, 83) := ⟨⟨by decide +kernel, by decide +kernel⟩, List.mem_of_getElem? (i := 1195) (by decide +kernel), List.mem_of_getElem? (i := 1890) (by decide +kernel), List.mem_of_getElem? (i := 1891) (by decide +kernel)⟩
theorem lw_p122 : lw_okq (⟨"ToldTracksModel", "liesOf", "(I)I"⟩, 83) := ⟨⟨by decide +kernel, by decide +kernel⟩, List.mem_of_getElem? (i := 1195) (by decide +kernel), List.mem_of_getElem? (i := 1902) (by decide +kernel), List.mem_of_getElem? (i := 1903) (by decide +kernel)⟩
theorem lw_p123 : lw_okq (⟨"ToldTracksModel", "changes", "(IIZ)Z"⟩, 83) := ⟨⟨by decide +kernel, by decide +kernel⟩, List.mem_of_getElem? (i := 1195) (by decide +kernel), List.mem_of_getElem? (i := 1910) (by decide +kernel), List.mem_of_getElem? (i := 1911) (by decide +kernel)⟩
theorem lw_p124 : lw_okq (⟨"ToldTracksModel", "explains", "()V"⟩, 83) := ⟨⟨by decide +kernel, by decide +kernel⟩, List.mem_of_getElem? (i := 1195) (by decide +kernel), List.mem_of_getElem? (i := 1918) (by decide +kernel), List.mem_of_getElem? (i := 1919) (by decide +kernel)⟩
theorem lw_p125 : lw_okq (⟨"ToldTracksModel", "chanceOf", "(I)J"⟩, 83) := ⟨⟨by decide +kernel, by decide +kernel⟩, List.mem_of_getElem? (i := 1195) (by decide +kernel), List.mem_of_getElem? (i := 1938) (by decide +kernel), List.mem_of_getElem? (i := 1939) (by decide +kernel)⟩
theorem lw_p126 : lw_okq (⟨"ToldTracksModel", "settlesAll", "()V"⟩, 83) := ⟨⟨by decide +kernel, by decide +kernel⟩, List.mem_of_getElem? (i := 1195) (by decide +kernel), List.mem_of_getElem? (i := 1954) (by decide +kernel), List.mem_of_getElem? (i := 1955) (by decide +kernel)⟩
theorem lw_p127 : lw_okq (⟨"ToldTracksModel", "offOf", "(I)I"⟩, 83) := ⟨⟨by decide +kernel, by decide +kernel⟩, List.mem_of_getElem? (i := 1195) (by decide +kernel), List.mem_of_getElem? (i := 1966) (by decide +kernel), List.mem_of_getElem? (i := 1967) (by decide +kernel)⟩
def lw_privs_8 : List (MethodName × Nat) := [(⟨"ToldTracksModel", "saidBy", "(II)Z"⟩, 83), (⟨"ToldTracksModel", "addSayings", "(III)Z"⟩, 83), (⟨"ToldTracksModel", "isPair", "(I)Z"⟩, 83), (⟨"ToldTracksModel", "keepsSets", "()V"⟩, 83), (⟨"ToldTracksModel", "parts", "(II)Z"⟩, 83), (⟨"ToldTracksModel", "bringsSets", "()V"⟩, 83), (⟨"ToldTracksModel", "gapsOf", "(I)I"⟩, 83), (⟨"ToldTracksModel", "isHonest", "(II)Z"⟩, 83), (⟨"ToldTracksModel", "taleOf", "(II)I"⟩, 83), (⟨"ToldTracksModel", "isFor", "(II)Z"⟩, 83), (⟨"ToldTracksModel", "liesOf", "(I)I"⟩, 83), (⟨"ToldTracksModel", "changes", "(IIZ)Z"⟩, 83), (⟨"ToldTracksModel", "explains", "()V"⟩, 83), (⟨"ToldTracksModel", "chanceOf", "(I)J"⟩, 83), (⟨"ToldTracksModel", "settlesAll", "()V"⟩, 83), (⟨"ToldTracksModel", "offOf", "(I)I"⟩, 83)]
theorem lw_r8 : ∀ q ∈ lw_privs_8, lw_okq q := List.forall_mem_cons.mpr ⟨lw_p112, List.forall_mem_cons.mpr ⟨lw_p113, List.forall_mem_cons.mpr ⟨lw_p114, List.forall_mem_cons.mpr ⟨lw_p115, List.forall_mem_cons.mpr ⟨lw_p116, List.forall_mem_cons.mpr ⟨lw_p117, List.forall_mem_cons.mpr ⟨lw_p118, List.forall_mem_cons.mpr ⟨lw_p119, List.forall_mem_cons.mpr ⟨lw_p120, List.forall_mem_cons.mpr ⟨lw_p121, List.forall_mem_cons.mpr ⟨lw_p122, List.forall_mem_cons.mpr ⟨lw_p123, List.forall_mem_cons.mpr ⟨lw_p124, List.forall_mem_cons.mpr ⟨lw_p125, List.forall_mem_cons.mpr ⟨lw_p126, List.forall_mem_cons.mpr ⟨lw_p127, fun _ h => absurd h List.not_mem_nil⟩⟩⟩⟩⟩⟩⟩⟩⟩⟩⟩⟩⟩⟩⟩⟩
theorem lw_p128 : lw_okq (⟨"ToldTracksModel", "says", "(IIIZ)V"⟩, 83) := ⟨⟨by decide +kernel, by decide +kernel⟩, List.mem_of_getElem? (i := 1195) (by decide +kernel), List.mem_of_getElem? (i := 1978) (by decide +kernel), List.mem_of_getElem? (i := 1979) (by decide +kernel)⟩
theorem lw_p129 : lw_okq (⟨"ToldTracksModel", "numberOf", "(II)I"⟩, 83) := ⟨⟨by decide +kernel, by decide +kernel⟩, List.mem_of_getElem? (i := 1195) (by decide +kernel), List.mem_of_getElem? (i := 1982) (by decide +kernel), List.mem_of_getElem? (i := 1983) (by decide +kernel)⟩
theorem lw_p130 : lw_okq (⟨"ToldTracksModel", "spots", "(III)V"⟩, 83) := ⟨⟨by decide +kernel, by decide +kernel⟩, List.mem_of_getElem? (i := 1195) (by decide +kernel), List.mem_of_getElem? (i := 1994) (by decide +kernel), List.mem_of_getElem? (i := 1995) (by decide +kernel)⟩
theorem lw_p131 : lw_okq (⟨"ToldTracksModel", "writes", "(I)V"⟩, 83) := ⟨⟨by decide +kernel, by decide +kernel⟩, List.mem_of_getElem? (i := 1195) (by decide +kernel), List.mem_of_getElem? (i := 2002) (by decide +kernel), List.mem_of_getElem? (i := 2003) (by decide +kernel)⟩
theorem lw_p132 : lw_okq (⟨"ToldTracksModel", "isWhole", "(I)Z"⟩, 83) := ⟨⟨by decide +kernel, by decide +kernel⟩, List.mem_of_getElem? (i := 1195) (by decide +kernel), List.mem_of_getElem? (i := 2014) (by decide +kernel), List.mem_of_getElem? (i := 2015) (by decide +kernel)⟩
def lw_privs_9 : List (MethodName × Nat) := [(⟨"ToldTracksModel", "says", "(IIIZ)V"⟩, 83), (⟨"ToldTracksModel", "numberOf", "(II)I"⟩, 83), (⟨"ToldTracksModel", "spots", "(III)V"⟩, 83), (⟨"ToldTracksModel", "writes", "(I)V"⟩, 83), (⟨"ToldTracksModel", "isWhole", "(I)Z"⟩, 83)]
theorem lw_r9 : ∀ q ∈ lw_privs_9, lw_okq q := List.forall_mem_cons.mpr ⟨lw_p128, List.forall_mem_cons.mpr ⟨lw_p129, List.forall_mem_cons.mpr ⟨lw_p130, List.forall_mem_cons.mpr ⟨lw_p131, List.forall_mem_cons.mpr ⟨lw_p132, fun _ h => absurd h List.not_mem_nil⟩⟩⟩⟩⟩
def lw_privs : List (MethodName × Nat) := lw_privs_1 ++ (lw_privs_2 ++ (lw_privs_3 ++ (lw_privs_4 ++ (lw_privs_5 ++ (lw_privs_6 ++ (lw_privs_7 ++ (lw_privs_8 ++ (lw_privs_9))))))))
def lw_tbl : List Cond := k2_sels lw_privs ++ tables_1
theorem lw_privs_ok : ∀ q ∈ lw_privs, lw_okq q := by
  show ∀ q ∈ lw_privs_1 ++ (lw_privs_2 ++ (lw_privs_3 ++ (lw_privs_4 ++ (lw_privs_5 ++ (lw_privs_6 ++ (lw_privs_7 ++ (lw_privs_8 ++ (lw_privs_9)))))))), lw_okq q
  exact List.forall_mem_append.mpr ⟨lw_r1, List.forall_mem_append.mpr ⟨lw_r2, List.forall_mem_append.mpr ⟨lw_r3, List.forall_mem_append.mpr ⟨lw_r4, List.forall_mem_append.mpr ⟨lw_r5, List.forall_mem_append.mpr ⟨lw_r6, List.forall_mem_append.mpr ⟨lw_r7, List.forall_mem_append.mpr ⟨lw_r8, lw_r9⟩⟩⟩⟩⟩⟩⟩⟩
end
section
def RX0 : String := "ToldTracks$Formula"
def TX0 : u_T := fun k => match k with
  | 0 => ("ToldTracks$Formula", "steps", "[I", true)
  | 1 => ("ToldTracks$Formula", "count", "I", false)
  | _ => ("ToldTracks$Formula", "pile", "[I", true)
def tyX0 : Nat → FieldType := fun k => match k with
  | 0 => .array .int
  | 1 => .int
  | _ => .array .int
abbrev wsX00 : List Cond := u_ws RX0 TX0 3
theorem nmX0 : ∀ a, a < 3 → ∀ b, b < 3 → a ≠ b → (TX0 a).2.1 ≠ (TX0 b).2.1 := by decide +kernel
theorem tyX0_ok : ∀ k, k < 3 → parseFieldDescriptor (TX0 k).2.2.1 = some (tyX0 k) := by decide +kernel
abbrev cX0_init : ByteArray := prog_2_method_1_code
def yX0_init : MethodName := ⟨RX0, "<init>", "()V"⟩
abbrev cX0_emit : ByteArray := prog_2_method_2_code
def yX0_emit : MethodName := ⟨RX0, "emit", "(I)V"⟩
abbrev cX0_valueOf : ByteArray := prog_2_method_3_code
def yX0_valueOf : MethodName := ⟨RX0, "valueOf", "(IIIII)I"⟩
abbrev cX0_partOf : ByteArray := prog_2_method_4_code
def yX0_partOf : MethodName := ⟨RX0, "partOf", "(IIII)I"⟩
abbrev cX0_joined : ByteArray := prog_2_method_5_code
def yX0_joined : MethodName := ⟨RX0, "joined", "(IJJ)J"⟩
def RX1 : String := "ToldTracks$Line"
def TX1 : u_T := fun k => match k with
  | _ => ("ToldTracks$Line", "places", "[I", true)
def tyX1 : Nat → FieldType := fun k => match k with
  | _ => .array .int
abbrev wsX10 : List Cond := u_ws RX1 TX1 1
theorem nmX1 : ∀ a, a < 1 → ∀ b, b < 1 → a ≠ b → (TX1 a).2.1 ≠ (TX1 b).2.1 := by decide +kernel
theorem tyX1_ok : ∀ k, k < 1 → parseFieldDescriptor (TX1 k).2.2.1 = some (tyX1 k) := by decide +kernel
abbrev cX1_init : ByteArray := prog_3_method_1_code
def yX1_init : MethodName := ⟨RX1, "<init>", "()V"⟩
abbrev cX1_clear : ByteArray := prog_3_method_2_code
def yX1_clear : MethodName := ⟨RX1, "clear", "()V"⟩
abbrev cX1_put : ByteArray := prog_3_method_3_code
def yX1_put : MethodName := ⟨RX1, "put", "(II)Z"⟩
abbrev cX1_holds : ByteArray := prog_3_method_4_code
def yX1_holds : MethodName := ⟨RX1, "holds", "(LToldTracks$Waters;)Z"⟩
def RX2 : String := "ToldTracks$Parser"
def TX2 : u_T := fun k => match k with
  | 0 => ("ToldTracks$Parser", "reader", "LToldTracks$Reader;", true)
  | _ => ("ToldTracks$Parser", "sea", "LToldTracks$Sea;", false)
def tyX2 : Nat → FieldType := fun k => match k with
  | 0 => .object "ToldTracks$Reader"
  | _ => .object "ToldTracks$Sea"
abbrev wsX20 : List Cond := u_ws RX2 TX2 2
theorem nmX2 : ∀ a, a < 2 → ∀ b, b < 2 → a ≠ b → (TX2 a).2.1 ≠ (TX2 b).2.1 := by decide +kernel
theorem tyX2_ok : ∀ k, k < 2 → parseFieldDescriptor (TX2 k).2.2.1 = some (tyX2 k) := by decide +kernel
abbrev cX2_init : ByteArray := prog_4_method_1_code
def yX2_init : MethodName := ⟨RX2, "<init>", "(LToldTracks$Sea;)V"⟩
abbrev cX2_open : ByteArray := prog_4_method_2_code
def yX2_open : MethodName := ⟨RX2, "open", "(LToldTracks$Sea;[II)V"⟩
abbrev cX2_readStatement : ByteArray := prog_4_method_3_code
def yX2_readStatement : MethodName := ⟨RX2, "readStatement", "(Z)V"⟩
abbrev cX2_readSize : ByteArray := prog_4_method_4_code
def yX2_readSize : MethodName := ⟨RX2, "readSize", "()V"⟩
abbrev cX2_isOneMore : ByteArray := prog_4_method_5_code
def yX2_isOneMore : MethodName := ⟨RX2, "isOneMore", "(Z)Z"⟩
abbrev cX2_readRule : ByteArray := prog_4_method_6_code
def yX2_readRule : MethodName := ⟨RX2, "readRule", "(LToldTracks$Rules;Z)V"⟩
abbrev cX2_takeAfter : ByteArray := prog_4_method_7_code
def yX2_takeAfter : MethodName := ⟨RX2, "takeAfter", "(III)I"⟩
abbrev cX2_readShip : ByteArray := prog_4_method_8_code
def yX2_readShip : MethodName := ⟨RX2, "readShip", "()V"⟩
abbrev cX2_takeShip : ByteArray := prog_4_method_9_code
def yX2_takeShip : MethodName := ⟨RX2, "takeShip", "()I"⟩
abbrev cX2_takePlace : ByteArray := prog_4_method_10_code
def yX2_takePlace : MethodName := ⟨RX2, "takePlace", "()I"⟩
abbrev cX2_readSaying : ByteArray := prog_4_method_11_code
def yX2_readSaying : MethodName := ⟨RX2, "readSaying", "()V"⟩
abbrev cX2_readBook : ByteArray := prog_4_method_12_code
def yX2_readBook : MethodName := ⟨RX2, "readBook", "()V"⟩
abbrev cX2_readSighting : ByteArray := prog_4_method_13_code
def yX2_readSighting : MethodName := ⟨RX2, "readSighting", "()V"⟩
abbrev cX2_readTest : ByteArray := prog_4_method_14_code
def yX2_readTest : MethodName := ⟨RX2, "readTest", "(I)V"⟩
abbrev cX2_readBoth : ByteArray := prog_4_method_15_code
def yX2_readBoth : MethodName := ⟨RX2, "readBoth", "(I)V"⟩
abbrev cX2_readFact : ByteArray := prog_4_method_16_code
def yX2_readFact : MethodName := ⟨RX2, "readFact", "(I)V"⟩
abbrev cX2_takeComparison : ByteArray := prog_4_method_17_code
def yX2_takeComparison : MethodName := ⟨RX2, "takeComparison", "()I"⟩
abbrev cX2_readSum : ByteArray := prog_4_method_18_code
def yX2_readSum : MethodName := ⟨RX2, "readSum", "(I)V"⟩
abbrev cX2_readProduct : ByteArray := prog_4_method_19_code
def yX2_readProduct : MethodName := ⟨RX2, "readProduct", "(I)V"⟩
abbrev cX2_timesSign : ByteArray := prog_4_method_20_code
def yX2_timesSign : MethodName := ⟨RX2, "timesSign", "()I"⟩
abbrev cX2_readPart : ByteArray := prog_4_method_21_code
def yX2_readPart : MethodName := ⟨RX2, "readPart", "(I)V"⟩
abbrev cX2_readLeaf : ByteArray := prog_4_method_22_code
def yX2_readLeaf : MethodName := ⟨RX2, "readLeaf", "(I)V"⟩
abbrev cX2_readChoice : ByteArray := prog_4_method_23_code
def yX2_readChoice : MethodName := ⟨RX2, "readChoice", "(II)V"⟩
abbrev cX2_takeOpening : ByteArray := prog_4_method_24_code
def yX2_takeOpening : MethodName := ⟨RX2, "takeOpening", "(II)Z"⟩
def RX3 : String := "ToldTracks$Reader"
def TX3 : u_T := fun k => match k with
  | 0 => ("ToldTracks$Reader", "own", "[I", true)
  | 1 => ("ToldTracks$Reader", "text", "[I", false)
  | 2 => ("ToldTracks$Reader", "length", "I", false)
  | 3 => ("ToldTracks$Reader", "at", "I", false)
  | 4 => ("ToldTracks$Reader", "kind", "I", false)
  | 5 => ("ToldTracks$Reader", "value", "I", false)
  | 6 => ("ToldTracks$Reader", "word", "I", false)
  | 7 => ("ToldTracks$Reader", "start", "I", false)
  | 8 => ("ToldTracks$Reader", "fault", "I", false)
  | _ => ("ToldTracks$Reader", "faultPlace", "I", false)
def tyX3 : Nat → FieldType := fun k => match k with
  | 0 => .array .int
  | 1 => .array .int
  | 2 => .int
  | 3 => .int
  | 4 => .int
  | 5 => .int
  | 6 => .int
  | 7 => .int
  | 8 => .int
  | _ => .int
abbrev wsX30 : List Cond := u_ws RX3 TX3 10
theorem nmX3 : ∀ a, a < 10 → ∀ b, b < 10 → a ≠ b → (TX3 a).2.1 ≠ (TX3 b).2.1 := by decide +kernel
theorem tyX3_ok : ∀ k, k < 10 → parseFieldDescriptor (TX3 k).2.2.1 = some (tyX3 k) := by decide +kernel
abbrev cX3_init : ByteArray := prog_5_method_1_code
def yX3_init : MethodName := ⟨RX3, "<init>", "()V"⟩
abbrev cX3_open : ByteArray := prog_5_method_2_code
def yX3_open : MethodName := ⟨RX3, "open", "([II)V"⟩
abbrev cX3_step : ByteArray := prog_5_method_3_code
def yX3_step : MethodName := ⟨RX3, "step", "()V"⟩
abbrev cX3_ownWord : ByteArray := prog_5_method_4_code
def yX3_ownWord : MethodName := ⟨RX3, "ownWord", "(I)I"⟩
abbrev cX3_kindOf : ByteArray := prog_5_method_5_code
def yX3_kindOf : MethodName := ⟨RX3, "kindOf", "(I)I"⟩
abbrev cX3_refuseAt : ByteArray := prog_5_method_6_code
def yX3_refuseAt : MethodName := ⟨RX3, "refuseAt", "(II)V"⟩
abbrev cX3_refuse : ByteArray := prog_5_method_7_code
def yX3_refuse : MethodName := ⟨RX3, "refuse", "(I)V"⟩
abbrev cX3_isSign : ByteArray := prog_5_method_8_code
def yX3_isSign : MethodName := ⟨RX3, "isSign", "(I)Z"⟩
abbrev cX3_takeSign : ByteArray := prog_5_method_9_code
def yX3_takeSign : MethodName := ⟨RX3, "takeSign", "(I)V"⟩
abbrev cX3_takeWord : ByteArray := prog_5_method_10_code
def yX3_takeWord : MethodName := ⟨RX3, "takeWord", "(I)V"⟩
abbrev cX3_isNumber : ByteArray := prog_5_method_11_code
def yX3_isNumber : MethodName := ⟨RX3, "isNumber", "(II)Z"⟩
abbrev cX3_takeNumber : ByteArray := prog_5_method_12_code
def yX3_takeNumber : MethodName := ⟨RX3, "takeNumber", "(II)I"⟩
abbrev cX3_isName : ByteArray := prog_5_method_13_code
def yX3_isName : MethodName := ⟨RX3, "isName", "()Z"⟩
def RX4 : String := "ToldTracks$Rules"
def TX4 : u_T := fun k => match k with
  | 0 => ("ToldTracks$Rules", "count", "I", false)
  | 1 => ("ToldTracks$Rules", "sumFrom", "[I", true)
  | 2 => ("ToldTracks$Rules", "testFrom", "[I", true)
  | _ => ("ToldTracks$Rules", "testTo", "[I", true)
def tyX4 : Nat → FieldType := fun k => match k with
  | 0 => .int
  | 1 => .array .int
  | 2 => .array .int
  | _ => .array .int
abbrev wsX40 : List Cond := u_ws RX4 TX4 4
theorem nmX4 : ∀ a, a < 4 → ∀ b, b < 4 → a ≠ b → (TX4 a).2.1 ≠ (TX4 b).2.1 := by decide +kernel
theorem tyX4_ok : ∀ k, k < 4 → parseFieldDescriptor (TX4 k).2.2.1 = some (tyX4 k) := by decide +kernel
abbrev cX4_init : ByteArray := prog_6_method_1_code
def yX4_init : MethodName := ⟨RX4, "<init>", "(I)V"⟩
abbrev cX4_isFull : ByteArray := prog_6_method_2_code
def yX4_isFull : MethodName := ⟨RX4, "isFull", "()Z"⟩
abbrev cX4_append : ByteArray := prog_6_method_3_code
def yX4_append : MethodName := ⟨RX4, "append", "(III)V"⟩
abbrev cX4_firstHolding : ByteArray := prog_6_method_4_code
def yX4_firstHolding : MethodName := ⟨RX4, "firstHolding", "(LToldTracks$Formula;III)I"⟩
abbrev cX4_firstSum : ByteArray := prog_6_method_5_code
def yX4_firstSum : MethodName := ⟨RX4, "firstSum", "(LToldTracks$Formula;II)I"⟩
def RX5 : String := "ToldTracks$Sea"
def TX5 : u_T := fun k => match k with
  | 0 => ("ToldTracks$Sea", "columns", "I", false)
  | 1 => ("ToldTracks$Sea", "rows", "I", false)
  | 2 => ("ToldTracks$Sea", "luck", "I", false)
  | 3 => ("ToldTracks$Sea", "shipCount", "I", false)
  | 4 => ("ToldTracks$Sea", "ships", "[LToldTracks$Ship;", true)
  | 5 => ("ToldTracks$Sea", "sights", "LToldTracks$Sights;", true)
  | 6 => ("ToldTracks$Sea", "formula", "LToldTracks$Formula;", true)
  | 7 => ("ToldTracks$Sea", "depths", "LToldTracks$Rules;", true)
  | 8 => ("ToldTracks$Sea", "costs", "LToldTracks$Rules;", true)
  | 9 => ("ToldTracks$Sea", "quiets", "LToldTracks$Rules;", true)
  | 10 => ("ToldTracks$Sea", "depth", "[I", true)
  | 11 => ("ToldTracks$Sea", "cost", "[I", true)
  | 12 => ("ToldTracks$Sea", "quietKnown", "[J", true)
  | _ => ("ToldTracks$Sea", "quiet", "[J", true)
def tyX5 : Nat → FieldType := fun k => match k with
  | 0 => .int
  | 1 => .int
  | 2 => .int
  | 3 => .int
  | 4 => .array (.object "ToldTracks$Ship")
  | 5 => .object "ToldTracks$Sights"
  | 6 => .object "ToldTracks$Formula"
  | 7 => .object "ToldTracks$Rules"
  | 8 => .object "ToldTracks$Rules"
  | 9 => .object "ToldTracks$Rules"
  | 10 => .array .int
  | 11 => .array .int
  | 12 => .array .long
  | _ => .array .long
abbrev wsX50 : List Cond := u_ws RX5 TX5 14
theorem nmX5 : ∀ a, a < 14 → ∀ b, b < 14 → a ≠ b → (TX5 a).2.1 ≠ (TX5 b).2.1 := by decide +kernel
theorem tyX5_ok : ∀ k, k < 14 → parseFieldDescriptor (TX5 k).2.2.1 = some (tyX5 k) := by decide +kernel
abbrev cX5_init : ByteArray := prog_7_method_1_code
def yX5_init : MethodName := ⟨RX5, "<init>", "()V"⟩
abbrev cX5_clear : ByteArray := prog_7_method_2_code
def yX5_clear : MethodName := ⟨RX5, "clear", "()V"⟩
abbrev cX5_measure : ByteArray := prog_7_method_3_code
def yX5_measure : MethodName := ⟨RX5, "measure", "()V"⟩
abbrev cX5_costAt : ByteArray := prog_7_method_4_code
def yX5_costAt : MethodName := ⟨RX5, "costAt", "(I)I"⟩
abbrev cX5_isQuiet : ByteArray := prog_7_method_5_code
def yX5_isQuiet : MethodName := ⟨RX5, "isQuiet", "(II)Z"⟩
abbrev cX5_placeAt : ByteArray := prog_7_method_6_code
def yX5_placeAt : MethodName := ⟨RX5, "placeAt", "(II)I"⟩
abbrev cX5_placeOf : ByteArray := prog_7_method_7_code
def yX5_placeOf : MethodName := ⟨RX5, "placeOf", "(I)I"⟩
abbrev cX5_numberOf : ByteArray := prog_7_method_8_code
def yX5_numberOf : MethodName := ⟨RX5, "numberOf", "(I)I"⟩
abbrev cX5_countSayings : ByteArray := prog_7_method_9_code
def yX5_countSayings : MethodName := ⟨RX5, "countSayings", "()I"⟩
abbrev cX5_countSayers : ByteArray := prog_7_method_10_code
def yX5_countSayers : MethodName := ⟨RX5, "countSayers", "()I"⟩
abbrev cX5_countBooks : ByteArray := prog_7_method_11_code
def yX5_countBooks : MethodName := ⟨RX5, "countBooks", "()I"⟩
abbrev cX5_shipNamed : ByteArray := prog_7_method_12_code
def yX5_shipNamed : MethodName := ⟨RX5, "shipNamed", "(I)I"⟩
abbrev cX5_launch : ByteArray := prog_7_method_13_code
def yX5_launch : MethodName := ⟨RX5, "launch", "(IIIII)V"⟩
def RX6 : String := "ToldTracks$Ship"
def TX6 : u_T := fun k => match k with
  | 0 => ("ToldTracks$Ship", "name", "I", false)
  | 1 => ("ToldTracks$Ship", "look", "I", false)
  | 2 => ("ToldTracks$Ship", "speed", "I", false)
  | 3 => ("ToldTracks$Ship", "draft", "I", false)
  | 4 => ("ToldTracks$Ship", "load", "I", false)
  | 5 => ("ToldTracks$Ship", "count", "I", false)
  | 6 => ("ToldTracks$Ship", "hours", "[I", true)
  | 7 => ("ToldTracks$Ship", "places", "[I", true)
  | 8 => ("ToldTracks$Ship", "laden", "[Z", true)
  | 9 => ("ToldTracks$Ship", "bookCount", "I", false)
  | 10 => ("ToldTracks$Ship", "bookPlaces", "[I", true)
  | 11 => ("ToldTracks$Ship", "bookFroms", "[I", true)
  | _ => ("ToldTracks$Ship", "bookTos", "[I", true)
def tyX6 : Nat → FieldType := fun k => match k with
  | 0 => .int
  | 1 => .int
  | 2 => .int
  | 3 => .int
  | 4 => .int
  | 5 => .int
  | 6 => .array .int
  | 7 => .array .int
  | 8 => .array .boolean
  | 9 => .int
  | 10 => .array .int
  | 11 => .array .int
  | _ => .array .int
abbrev wsX60 : List Cond := u_ws RX6 TX6 13
theorem nmX6 : ∀ a, a < 13 → ∀ b, b < 13 → a ≠ b → (TX6 a).2.1 ≠ (TX6 b).2.1 := by decide +kernel
theorem tyX6_ok : ∀ k, k < 13 → parseFieldDescriptor (TX6 k).2.2.1 = some (tyX6 k) := by decide +kernel
abbrev cX6_init : ByteArray := prog_8_method_1_code
def yX6_init : MethodName := ⟨RX6, "<init>", "()V"⟩
abbrev cX6_hasSaid : ByteArray := prog_8_method_2_code
def yX6_hasSaid : MethodName := ⟨RX6, "hasSaid", "(I)Z"⟩
abbrev cX6_insert : ByteArray := prog_8_method_3_code
def yX6_insert : MethodName := ⟨RX6, "insert", "(IIZ)I"⟩
abbrev cX6_remove : ByteArray := prog_8_method_4_code
def yX6_remove : MethodName := ⟨RX6, "remove", "(I)V"⟩
abbrev cX6_enterBook : ByteArray := prog_8_method_5_code
def yX6_enterBook : MethodName := ⟨RX6, "enterBook", "(III)V"⟩
abbrev cX6_hoursToBook : ByteArray := prog_8_method_6_code
def yX6_hoursToBook : MethodName := ⟨RX6, "hoursToBook", "(II)I"⟩
def RX7 : String := "ToldTracks$Sights"
def TX7 : u_T := fun k => match k with
  | 0 => ("ToldTracks$Sights", "count", "I", false)
  | 1 => ("ToldTracks$Sights", "looks", "[I", true)
  | 2 => ("ToldTracks$Sights", "places", "[I", true)
  | _ => ("ToldTracks$Sights", "hours", "[I", true)
def tyX7 : Nat → FieldType := fun k => match k with
  | 0 => .int
  | 1 => .array .int
  | 2 => .array .int
  | _ => .array .int
abbrev wsX70 : List Cond := u_ws RX7 TX7 4
theorem nmX7 : ∀ a, a < 4 → ∀ b, b < 4 → a ≠ b → (TX7 a).2.1 ≠ (TX7 b).2.1 := by decide +kernel
theorem tyX7_ok : ∀ k, k < 4 → parseFieldDescriptor (TX7 k).2.2.1 = some (tyX7 k) := by decide +kernel
abbrev cX7_init : ByteArray := prog_9_method_1_code
def yX7_init : MethodName := ⟨RX7, "<init>", "()V"⟩
abbrev cX7_append : ByteArray := prog_9_method_2_code
def yX7_append : MethodName := ⟨RX7, "append", "(III)V"⟩
def RX8 : String := "ToldTracks$Track"
def TX8 : u_T := fun k => match k with
  | 0 => ("ToldTracks$Track", "ship", "LToldTracks$Ship;", false)
  | 1 => ("ToldTracks$Track", "sea", "LToldTracks$Sea;", false)
  | 2 => ("ToldTracks$Track", "waters", "LToldTracks$Waters;", true)
  | 3 => ("ToldTracks$Track", "line", "LToldTracks$Line;", true)
  | 4 => ("ToldTracks$Track", "isSettled", "Z", false)
  | 5 => ("ToldTracks$Track", "isCounted", "Z", false)
  | 6 => ("ToldTracks$Track", "kindsKnown", "Z", false)
  | 7 => ("ToldTracks$Track", "kinds", "I", false)
  | 8 => ("ToldTracks$Track", "booksFit", "Z", false)
  | 9 => ("ToldTracks$Track", "alone", "[Z", true)
  | 10 => ("ToldTracks$Track", "kept", "[Z", true)
  | 11 => ("ToldTracks$Track", "keptCount", "I", false)
  | 12 => ("ToldTracks$Track", "may", "[J", true)
  | 13 => ("ToldTracks$Track", "unsaidHours", "I", false)
  | 14 => ("ToldTracks$Track", "gapCount", "I", false)
  | 15 => ("ToldTracks$Track", "marks", "[I", true)
  | _ => ("ToldTracks$Track", "queue", "[I", true)
def tyX8 : Nat → FieldType := fun k => match k with
  | 0 => .object "ToldTracks$Ship"
  | 1 => .object "ToldTracks$Sea"
  | 2 => .object "ToldTracks$Waters"
  | 3 => .object "ToldTracks$Line"
  | 4 => .boolean
  | 5 => .boolean
  | 6 => .boolean
  | 7 => .int
  | 8 => .boolean
  | 9 => .array .boolean
  | 10 => .array .boolean
  | 11 => .int
  | 12 => .array .long
  | 13 => .int
  | 14 => .int
  | 15 => .array .int
  | _ => .array .int
abbrev wsX80 : List Cond := u_ws RX8 TX8 17
theorem nmX8 : ∀ a, a < 17 → ∀ b, b < 17 → a ≠ b → (TX8 a).2.1 ≠ (TX8 b).2.1 := by decide +kernel
theorem tyX8_ok : ∀ k, k < 17 → parseFieldDescriptor (TX8 k).2.2.1 = some (tyX8 k) := by decide +kernel
abbrev cX8_init : ByteArray := prog_10_method_1_code
def yX8_init : MethodName := ⟨RX8, "<init>", "(LToldTracks$Sea;LToldTracks$Ship;)V"⟩
abbrev cX8_begin : ByteArray := prog_10_method_2_code
def yX8_begin : MethodName := ⟨RX8, "begin", "(LToldTracks$Sea;LToldTracks$Ship;)V"⟩
abbrev cX8_forget : ByteArray := prog_10_method_3_code
def yX8_forget : MethodName := ⟨RX8, "forget", "()V"⟩
abbrev cX8_isSound : ByteArray := prog_10_method_4_code
def yX8_isSound : MethodName := ⟨RX8, "isSound", "(IZ)Z"⟩
abbrev cX8_goTogether : ByteArray := prog_10_method_5_code
def yX8_goTogether : MethodName := ⟨RX8, "goTogether", "(II)Z"⟩
abbrev cX8_layBooks : ByteArray := prog_10_method_6_code
def yX8_layBooks : MethodName := ⟨RX8, "layBooks", "()Z"⟩
abbrev cX8_laySayings : ByteArray := prog_10_method_7_code
def yX8_laySayings : MethodName := ⟨RX8, "laySayings", "(LToldTracks$Ship;I)Z"⟩
abbrev cX8_fits : ByteArray := prog_10_method_8_code
def yX8_fits : MethodName := ⟨RX8, "fits", "(LToldTracks$Ship;IZ)Z"⟩
abbrev cX8_firstBar : ByteArray := prog_10_method_9_code
def yX8_firstBar : MethodName := ⟨RX8, "firstBar", "()I"⟩
abbrev cX8_findClock : ByteArray := prog_10_method_10_code
def yX8_findClock : MethodName := ⟨RX8, "findClock", "()I"⟩
abbrev cX8_staysWith : ByteArray := prog_10_method_11_code
def yX8_staysWith : MethodName := ⟨RX8, "staysWith", "(I)Z"⟩
abbrev cX8_settle : ByteArray := prog_10_method_12_code
def yX8_settle : MethodName := ⟨RX8, "settle", "()V"⟩
abbrev cX8_markAlone : ByteArray := prog_10_method_13_code
def yX8_markAlone : MethodName := ⟨RX8, "markAlone", "()V"⟩
abbrev cX8_countChains : ByteArray := prog_10_method_14_code
def yX8_countChains : MethodName := ⟨RX8, "countChains", "()I"⟩
abbrev cX8_keep : ByteArray := prog_10_method_15_code
def yX8_keep : MethodName := ⟨RX8, "keep", "(I)V"⟩
abbrev cX8_findMay : ByteArray := prog_10_method_16_code
def yX8_findMay : MethodName := ⟨RX8, "findMay", "()V"⟩
abbrev cX8_mayBe : ByteArray := prog_10_method_17_code
def yX8_mayBe : MethodName := ⟨RX8, "mayBe", "(II)Z"⟩
abbrev cX8_countMay : ByteArray := prog_10_method_18_code
def yX8_countMay : MethodName := ⟨RX8, "countMay", "(I)I"⟩
abbrev cX8_countShared : ByteArray := prog_10_method_19_code
def yX8_countShared : MethodName := ⟨RX8, "countShared", "(LToldTracks$Track;I)I"⟩
abbrev cX8_clashAlone : ByteArray := prog_10_method_20_code
def yX8_clashAlone : MethodName := ⟨RX8, "clashAlone", "()I"⟩
abbrev cX8_clashOfTwo : ByteArray := prog_10_method_21_code
def yX8_clashOfTwo : MethodName := ⟨RX8, "clashOfTwo", "(I)I"⟩
abbrev cX8_ownKinds : ByteArray := prog_10_method_22_code
def yX8_ownKinds : MethodName := ⟨RX8, "ownKinds", "()I"⟩
abbrev cX8_canPart : ByteArray := prog_10_method_23_code
def yX8_canPart : MethodName := ⟨RX8, "canPart", "()Z"⟩
abbrev cX8_pushApart : ByteArray := prog_10_method_24_code
def yX8_pushApart : MethodName := ⟨RX8, "pushApart", "(II)I"⟩
abbrev cX8_isMarked : ByteArray := prog_10_method_25_code
def yX8_isMarked : MethodName := ⟨RX8, "isMarked", "(I)Z"⟩
abbrev cX8_hoursBetweenEnds : ByteArray := prog_10_method_26_code
def yX8_hoursBetweenEnds : MethodName := ⟨RX8, "hoursBetweenEnds", "()I"⟩
abbrev cX8_countGaps : ByteArray := prog_10_method_27_code
def yX8_countGaps : MethodName := ⟨RX8, "countGaps", "()V"⟩
abbrev cX8_isHonest : ByteArray := prog_10_method_28_code
def yX8_isHonest : MethodName := ⟨RX8, "isHonest", "(I)Z"⟩
abbrev cX8_hoursOfChange : ByteArray := prog_10_method_29_code
def yX8_hoursOfChange : MethodName := ⟨RX8, "hoursOfChange", "(Z)J"⟩
def RX9 : String := "ToldTracks$Waters"
def TX9 : u_T := fun k => match k with
  | 0 => ("ToldTracks$Waters", "water", "[J", true)
  | 1 => ("ToldTracks$Waters", "speed", "I", false)
  | 2 => ("ToldTracks$Waters", "rings", "[[J", true)
  | 3 => ("ToldTracks$Waters", "known", "[Z", true)
  | _ => ("ToldTracks$Waters", "spread", "[J", true)
def tyX9 : Nat → FieldType := fun k => match k with
  | 0 => .array .long
  | 1 => .int
  | 2 => .array (.array .long)
  | 3 => .array .boolean
  | _ => .array .long
abbrev wsX90 : List Cond := u_ws RX9 TX9 5
theorem nmX9 : ∀ a, a < 5 → ∀ b, b < 5 → a ≠ b → (TX9 a).2.1 ≠ (TX9 b).2.1 := by decide +kernel
theorem tyX9_ok : ∀ k, k < 5 → parseFieldDescriptor (TX9 k).2.2.1 = some (tyX9 k) := by decide +kernel
abbrev cX9_init : ByteArray := prog_11_method_1_code
def yX9_init : MethodName := ⟨RX9, "<init>", "()V"⟩
abbrev cX9_begin : ByteArray := prog_11_method_2_code
def yX9_begin : MethodName := ⟨RX9, "begin", "(LToldTracks$Sea;LToldTracks$Ship;)V"⟩
abbrev cX9_isWater : ByteArray := prog_11_method_3_code
def yX9_isWater : MethodName := ⟨RX9, "isWater", "(I)Z"⟩
abbrev cX9_isWithin : ByteArray := prog_11_method_4_code
def yX9_isWithin : MethodName := ⟨RX9, "isWithin", "(III)Z"⟩
abbrev cX9_ringsOf : ByteArray := prog_11_method_5_code
def yX9_ringsOf : MethodName := ⟨RX9, "ringsOf", "(I)[J"⟩
abbrev cX9_widen : ByteArray := prog_11_method_6_code
def yX9_widen : MethodName := ⟨RX9, "widen", "([JI)Z"⟩
abbrev cX9_hoursBetween : ByteArray := prog_11_method_7_code
def yX9_hoursBetween : MethodName := ⟨RX9, "hoursBetween", "(II)I"⟩
def RX10 : String := "ToldTracks"
def TX10 : u_T := fun k => match k with
  | 0 => ("ToldTracks", "tape", "[I", true)
  | 1 => ("ToldTracks", "tapeLength", "I", false)
  | 2 => ("ToldTracks", "sea", "LToldTracks$Sea;", false)
  | 3 => ("ToldTracks", "spare", "LToldTracks$Sea;", false)
  | 4 => ("ToldTracks", "parser", "LToldTracks$Parser;", true)
  | 5 => ("ToldTracks", "faultKind", "I", false)
  | 6 => ("ToldTracks", "faultPlace", "I", false)
  | 7 => ("ToldTracks", "tracks", "[LToldTracks$Track;", true)
  | 8 => ("ToldTracks", "refusals", "[I", true)
  | 9 => ("ToldTracks", "written", "[I", true)
  | 10 => ("ToldTracks", "writtenLength", "I", false)
  | 11 => ("ToldTracks", "odds", "[J", true)
  | 12 => ("ToldTracks", "levels", "[J", true)
  | 13 => ("ToldTracks", "lookKnown", "Z", false)
  | 14 => ("ToldTracks", "lookHour", "I", false)
  | 15 => ("ToldTracks", "lookPlace", "I", false)
  | _ => ("ToldTracks", "lookSettles", "I", false)
def tyX10 : Nat → FieldType := fun k => match k with
  | 0 => .array .int
  | 1 => .int
  | 2 => .object "ToldTracks$Sea"
  | 3 => .object "ToldTracks$Sea"
  | 4 => .object "ToldTracks$Parser"
  | 5 => .int
  | 6 => .int
  | 7 => .array (.object "ToldTracks$Track")
  | 8 => .array .int
  | 9 => .array .int
  | 10 => .int
  | 11 => .array .long
  | 12 => .array .long
  | 13 => .boolean
  | 14 => .int
  | 15 => .int
  | _ => .int
abbrev wsX100 : List Cond := u_ws RX10 TX10 17
theorem nmX10 : ∀ a, a < 17 → ∀ b, b < 17 → a ≠ b → (TX10 a).2.1 ≠ (TX10 b).2.1 := by decide +kernel
theorem tyX10_ok : ∀ k, k < 17 → parseFieldDescriptor (TX10 k).2.2.1 = some (tyX10 k) := by decide +kernel
abbrev cX10_init : ByteArray := prog_1_method_1_code
def yX10_init : MethodName := ⟨RX10, "<init>", "()V"⟩
abbrev cX10_feed : ByteArray := prog_1_method_2_code
def yX10_feed : MethodName := ⟨RX10, "feed", "(IIIII)I"⟩
abbrev cX10_end : ByteArray := prog_1_method_3_code
def yX10_end : MethodName := ⟨RX10, "end", "(I)Z"⟩
abbrev cX10_sea : ByteArray := prog_1_method_4_code
def yX10_sea : MethodName := ⟨RX10, "sea", "()I"⟩
abbrev cX10_fault : ByteArray := prog_1_method_5_code
def yX10_fault : MethodName := ⟨RX10, "fault", "(I)I"⟩
abbrev cX10_has : ByteArray := prog_1_method_6_code
def yX10_has : MethodName := ⟨RX10, "has", "(I)I"⟩
abbrev cX10_letter : ByteArray := prog_1_method_7_code
def yX10_letter : MethodName := ⟨RX10, "letter", "(II)I"⟩
abbrev cX10_ship : ByteArray := prog_1_method_8_code
def yX10_ship : MethodName := ⟨RX10, "ship", "(II)I"⟩
abbrev cX10_saying : ByteArray := prog_1_method_9_code
def yX10_saying : MethodName := ⟨RX10, "saying", "(III)I"⟩
abbrev cX10_cell : ByteArray := prog_1_method_10_code
def yX10_cell : MethodName := ⟨RX10, "cell", "(IIII)I"⟩
abbrev cX10_far : ByteArray := prog_1_method_11_code
def yX10_far : MethodName := ⟨RX10, "far", "(IIIII)I"⟩
abbrev cX10_can : ByteArray := prog_1_method_12_code
def yX10_can : MethodName := ⟨RX10, "can", "(III)I"⟩
abbrev cX10_reach : ByteArray := prog_1_method_13_code
def yX10_reach : MethodName := ⟨RX10, "reach", "(III)I"⟩
abbrev cX10_may : ByteArray := prog_1_method_14_code
def yX10_may : MethodName := ⟨RX10, "may", "(IIII)I"⟩
abbrev cX10_judge : ByteArray := prog_1_method_15_code
def yX10_judge : MethodName := ⟨RX10, "judge", "(II)I"⟩
abbrev cX10_tale : ByteArray := prog_1_method_16_code
def yX10_tale : MethodName := ⟨RX10, "tale", "(II)I"⟩
abbrev cX10_bars : ByteArray := prog_1_method_17_code
def yX10_bars : MethodName := ⟨RX10, "bars", "(I)I"⟩
abbrev cX10_clash : ByteArray := prog_1_method_18_code
def yX10_clash : MethodName := ⟨RX10, "clash", "(II)I"⟩
abbrev cX10_who : ByteArray := prog_1_method_19_code
def yX10_who : MethodName := ⟨RX10, "who", "(I)I"⟩
abbrev cX10_swap : ByteArray := prog_1_method_20_code
def yX10_swap : MethodName := ⟨RX10, "swap", "(II)I"⟩
abbrev cX10_kinds : ByteArray := prog_1_method_21_code
def yX10_kinds : MethodName := ⟨RX10, "kinds", "(I)I"⟩
abbrev cX10_lies : ByteArray := prog_1_method_22_code
def yX10_lies : MethodName := ⟨RX10, "lies", "()I"⟩
abbrev cX10_met : ByteArray := prog_1_method_23_code
def yX10_met : MethodName := ⟨RX10, "met", "(III)I"⟩
abbrev cX10_sighting : ByteArray := prog_1_method_24_code
def yX10_sighting : MethodName := ⟨RX10, "sighting", "(II)I"⟩
abbrev cX10_strange : ByteArray := prog_1_method_25_code
def yX10_strange : MethodName := ⟨RX10, "strange", "()I"⟩
abbrev cX10_doubted : ByteArray := prog_1_method_26_code
def yX10_doubted : MethodName := ⟨RX10, "doubted", "()I"⟩
abbrev cX10_gaps : ByteArray := prog_1_method_27_code
def yX10_gaps : MethodName := ⟨RX10, "gaps", "(II)I"⟩
abbrev cX10_chance : ByteArray := prog_1_method_28_code
def yX10_chance : MethodName := ⟨RX10, "chance", "(I)J"⟩
abbrev cX10_beyond : ByteArray := prog_1_method_29_code
def yX10_beyond : MethodName := ⟨RX10, "beyond", "()I"⟩
abbrev cX10_settles : ByteArray := prog_1_method_30_code
def yX10_settles : MethodName := ⟨RX10, "settles", "(III)I"⟩
abbrev cX10_next : ByteArray := prog_1_method_31_code
def yX10_next : MethodName := ⟨RX10, "next", "(I)I"⟩
abbrev cX10_off : ByteArray := prog_1_method_32_code
def yX10_off : MethodName := ⟨RX10, "off", "(I)I"⟩
abbrev cX10_whose : ByteArray := prog_1_method_33_code
def yX10_whose : MethodName := ⟨RX10, "whose", "()I"⟩
abbrev cX10_add : ByteArray := prog_1_method_34_code
def yX10_add : MethodName := ⟨RX10, "add", "(IIIIZ)I"⟩
abbrev cX10_drop : ByteArray := prog_1_method_35_code
def yX10_drop : MethodName := ⟨RX10, "drop", "(II)I"⟩
abbrev cX10_spot : ByteArray := prog_1_method_36_code
def yX10_spot : MethodName := ⟨RX10, "spot", "(IIII)I"⟩
abbrev cX10_image : ByteArray := prog_1_method_37_code
def yX10_image : MethodName := ⟨RX10, "image", "()I"⟩
abbrev cX10_octet : ByteArray := prog_1_method_38_code
def yX10_octet : MethodName := ⟨RX10, "octet", "(I)I"⟩
abbrev cX10_on : ByteArray := prog_1_method_39_code
def yX10_on : MethodName := ⟨RX10, "on", "()Z"⟩
abbrev cX10_status : ByteArray := prog_1_method_40_code
def yX10_status : MethodName := ⟨RX10, "status", "(I)I"⟩
abbrev cX10_bit : ByteArray := prog_1_method_41_code
def yX10_bit : MethodName := ⟨RX10, "bit", "(Z)I"⟩
abbrev cX10_isHour : ByteArray := prog_1_method_42_code
def yX10_isHour : MethodName := ⟨RX10, "isHour", "(I)Z"⟩
abbrev cX10_isShip : ByteArray := prog_1_method_43_code
def yX10_isShip : MethodName := ⟨RX10, "isShip", "(I)Z"⟩
abbrev cX10_isSaying : ByteArray := prog_1_method_44_code
def yX10_isSaying : MethodName := ⟨RX10, "isSaying", "(II)Z"⟩
abbrev cX10_putFour : ByteArray := prog_1_method_45_code
def yX10_putFour : MethodName := ⟨RX10, "putFour", "(I)V"⟩
abbrev cX10_forget : ByteArray := prog_1_method_46_code
def yX10_forget : MethodName := ⟨RX10, "forget", "(I)V"⟩
abbrev cX10_settled : ByteArray := prog_1_method_47_code
def yX10_settled : MethodName := ⟨RX10, "settled", "(I)LToldTracks$Track;"⟩
abbrev cX10_sayersOf : ByteArray := prog_1_method_48_code
def yX10_sayersOf : MethodName := ⟨RX10, "sayersOf", "(I)I"⟩
abbrev cX10_kindsOf : ByteArray := prog_1_method_49_code
def yX10_kindsOf : MethodName := ⟨RX10, "kindsOf", "(I)I"⟩
abbrev cX10_plainestOf : ByteArray := prog_1_method_50_code
def yX10_plainestOf : MethodName := ⟨RX10, "plainestOf", "(I)I"⟩
abbrev cX10_explainersOf : ByteArray := prog_1_method_51_code
def yX10_explainersOf : MethodName := ⟨RX10, "explainersOf", "(I)I"⟩
abbrev cX10_chanceOf : ByteArray := prog_1_method_52_code
def yX10_chanceOf : MethodName := ⟨RX10, "chanceOf", "(I)J"⟩
abbrev cX10_findLook : ByteArray := prog_1_method_53_code
def yX10_findLook : MethodName := ⟨RX10, "findLook", "()V"⟩
abbrev cX10_pileUp : ByteArray := prog_1_method_54_code
def yX10_pileUp : MethodName := ⟨RX10, "pileUp", "(I)I"⟩
abbrev cX10_write : ByteArray := prog_1_method_55_code
def yX10_write : MethodName := ⟨RX10, "write", "(I)V"⟩
abbrev cX10_checkOf : ByteArray := prog_1_method_56_code
def yX10_checkOf : MethodName := ⟨RX10, "checkOf", "([II)I"⟩
abbrev cX10_isImage : ByteArray := prog_1_method_57_code
def yX10_isImage : MethodName := ⟨RX10, "isImage", "(I)Z"⟩
abbrev cX10_takeImage : ByteArray := prog_1_method_58_code
def yX10_takeImage : MethodName := ⟨RX10, "takeImage", "()V"⟩
def RX11 : String := "ToldTracksModel"
def TX11 : u_T := fun k => match k with
  | 0 => ("ToldTracksModel", "tape", "[I", true)
  | 1 => ("ToldTracksModel", "taped", "I", false)
  | 2 => ("ToldTracksModel", "size", "I", false)
  | 3 => ("ToldTracksModel", "sign", "I", false)
  | 4 => ("ToldTracksModel", "signAt", "I", false)
  | 5 => ("ToldTracksModel", "signEnd", "I", false)
  | 6 => ("ToldTracksModel", "value", "I", false)
  | 7 => ("ToldTracksModel", "word", "J", false)
  | 8 => ("ToldTracksModel", "faultKind", "I", false)
  | 9 => ("ToldTracksModel", "faultPlace", "I", false)
  | 10 => ("ToldTracksModel", "toldKind", "I", false)
  | 11 => ("ToldTracksModel", "toldPlace", "I", false)
  | 12 => ("ToldTracksModel", "bank", "I", false)
  | 13 => ("ToldTracksModel", "columns", "[I", true)
  | 14 => ("ToldTracksModel", "rows", "[I", true)
  | 15 => ("ToldTracksModel", "many", "[I", true)
  | 16 => ("ToldTracksModel", "sumFrom", "[I", true)
  | 17 => ("ToldTracksModel", "testFrom", "[I", true)
  | 18 => ("ToldTracksModel", "testTo", "[I", true)
  | 19 => ("ToldTracksModel", "ships", "[I", true)
  | 20 => ("ToldTracksModel", "shipName", "[J", true)
  | 21 => ("ToldTracksModel", "look", "[I", true)
  | 22 => ("ToldTracksModel", "speed", "[I", true)
  | 23 => ("ToldTracksModel", "draft", "[I", true)
  | 24 => ("ToldTracksModel", "load", "[I", true)
  | 25 => ("ToldTracksModel", "sayings", "[I", true)
  | 26 => ("ToldTracksModel", "cellSaid", "[I", true)
  | 27 => ("ToldTracksModel", "isLaden", "[Z", true)
  | 28 => ("ToldTracksModel", "books", "[I", true)
  | 29 => ("ToldTracksModel", "bookShip", "[I", true)
  | 30 => ("ToldTracksModel", "bookCell", "[I", true)
  | 31 => ("ToldTracksModel", "bookFrom", "[I", true)
  | 32 => ("ToldTracksModel", "bookTo", "[I", true)
  | 33 => ("ToldTracksModel", "sights", "[I", true)
  | 34 => ("ToldTracksModel", "sightLook", "[I", true)
  | 35 => ("ToldTracksModel", "sightCell", "[I", true)
  | 36 => ("ToldTracksModel", "sightHour", "[I", true)
  | 37 => ("ToldTracksModel", "luck", "[I", true)
  | 38 => ("ToldTracksModel", "codeSort", "[I", true)
  | 39 => ("ToldTracksModel", "codeValue", "[I", true)
  | 40 => ("ToldTracksModel", "codes", "I", false)
  | 41 => ("ToldTracksModel", "in", "I", false)
  | 42 => ("ToldTracksModel", "frame", "[I", true)
  | 43 => ("ToldTracksModel", "phase", "[I", true)
  | 44 => ("ToldTracksModel", "begins", "[Z", true)
  | 45 => ("ToldTracksModel", "pair", "[I", true)
  | 46 => ("ToldTracksModel", "base", "[I", true)
  | 47 => ("ToldTracksModel", "deep", "I", false)
  | 48 => ("ToldTracksModel", "open", "I", false)
  | 49 => ("ToldTracksModel", "ops", "[I", true)
  | 50 => ("ToldTracksModel", "opMany", "I", false)
  | 51 => ("ToldTracksModel", "operand", "Z", false)
  | 52 => ("ToldTracksModel", "refused", "[I", true)
  | 53 => ("ToldTracksModel", "heap", "[J", true)
  | 54 => ("ToldTracksModel", "moment", "[I", true)
  | 55 => ("ToldTracksModel", "depths", "[I", true)
  | 56 => ("ToldTracksModel", "costs", "[I", true)
  | 57 => ("ToldTracksModel", "steps", "[I", true)
  | 58 => ("ToldTracksModel", "queue", "[I", true)
  | 59 => ("ToldTracksModel", "queued", "I", false)
  | 60 => ("ToldTracksModel", "facts", "I", false)
  | 61 => ("ToldTracksModel", "factCell", "[I", true)
  | 62 => ("ToldTracksModel", "factFrom", "[I", true)
  | 63 => ("ToldTracksModel", "factTo", "[I", true)
  | 64 => ("ToldTracksModel", "isLaid", "Z", false)
  | 65 => ("ToldTracksModel", "many48", "I", false)
  | 66 => ("ToldTracksModel", "keptMany", "I", false)
  | 67 => ("ToldTracksModel", "hours", "[I", true)
  | 68 => ("ToldTracksModel", "isGood", "[Z", true)
  | 69 => ("ToldTracksModel", "isKept", "[Z", true)
  | 70 => ("ToldTracksModel", "goesWith", "[Z", true)
  | 71 => ("ToldTracksModel", "longest", "[I", true)
  | 72 => ("ToldTracksModel", "farFrom", "[I", true)
  | 73 => ("ToldTracksModel", "silentHours", "I", false)
  | 74 => ("ToldTracksModel", "set", "[I", true)
  | 75 => ("ToldTracksModel", "oldSet", "[I", true)
  | 76 => ("ToldTracksModel", "firstMay", "[Z", true)
  | 77 => ("ToldTracksModel", "firstHour", "[Z", true)
  | 78 => ("ToldTracksModel", "explained", "[I", true)
  | 79 => ("ToldTracksModel", "missed", "[J", true)
  | 80 => ("ToldTracksModel", "settled", "[I", true)
  | 81 => ("ToldTracksModel", "out", "[I", true)
  | _ => ("ToldTracksModel", "outs", "I", false)
def tyX11 : Nat → FieldType := fun k => match k with
  | 0 => .array .int
  | 1 => .int
  | 2 => .int
  | 3 => .int
  | 4 => .int
  | 5 => .int
  | 6 => .int
  | 7 => .long
  | 8 => .int
  | 9 => .int
  | 10 => .int
  | 11 => .int
  | 12 => .int
  | 13 => .array .int
  | 14 => .array .int
  | 15 => .array .int
  | 16 => .array .int
  | 17 => .array .int
  | 18 => .array .int
  | 19 => .array .int
  | 20 => .array .long
  | 21 => .array .int
  | 22 => .array .int
  | 23 => .array .int
  | 24 => .array .int
  | 25 => .array .int
  | 26 => .array .int
  | 27 => .array .boolean
  | 28 => .array .int
  | 29 => .array .int
  | 30 => .array .int
  | 31 => .array .int
  | 32 => .array .int
  | 33 => .array .int
  | 34 => .array .int
  | 35 => .array .int
  | 36 => .array .int
  | 37 => .array .int
  | 38 => .array .int
  | 39 => .array .int
  | 40 => .int
  | 41 => .int
  | 42 => .array .int
  | 43 => .array .int
  | 44 => .array .boolean
  | 45 => .array .int
  | 46 => .array .int
  | 47 => .int
  | 48 => .int
  | 49 => .array .int
  | 50 => .int
  | 51 => .boolean
  | 52 => .array .int
  | 53 => .array .long
  | 54 => .array .int
  | 55 => .array .int
  | 56 => .array .int
  | 57 => .array .int
  | 58 => .array .int
  | 59 => .int
  | 60 => .int
  | 61 => .array .int
  | 62 => .array .int
  | 63 => .array .int
  | 64 => .boolean
  | 65 => .int
  | 66 => .int
  | 67 => .array .int
  | 68 => .array .boolean
  | 69 => .array .boolean
  | 70 => .array .boolean
  | 71 => .array .int
  | 72 => .array .int
  | 73 => .int
  | 74 => .array .int
  | 75 => .array .int
  | 76 => .array .boolean
  | 77 => .array .boolean
  | 78 => .array .int
  | 79 => .array .long
  | 80 => .array .int
  | 81 => .array .int
  | _ => .int
abbrev wsX110 : List Cond := u_ws RX11 TX11 83
theorem nmX11 : ∀ a, a < 83 → ∀ b, b < 83 → a ≠ b → (TX11 a).2.1 ≠ (TX11 b).2.1 := by decide +kernel
theorem tyX11_ok : ∀ k, k < 83 → parseFieldDescriptor (TX11 k).2.2.1 = some (tyX11 k) := by decide +kernel
abbrev cX11_init : ByteArray := prog_13_method_1_code
def yX11_init : MethodName := ⟨RX11, "<init>", "()V"⟩
abbrev cX11_is : ByteArray := prog_13_method_2_code
def yX11_is : MethodName := ⟨RX11, "is", "(III)Z"⟩
abbrev cX11_put : ByteArray := prog_13_method_3_code
def yX11_put : MethodName := ⟨RX11, "put", "(I)V"⟩
abbrev cX11_feed : ByteArray := prog_13_method_4_code
def yX11_feed : MethodName := ⟨RX11, "feed", "(IIIII)I"⟩
abbrev cX11_end : ByteArray := prog_13_method_5_code
def yX11_end : MethodName := ⟨RX11, "end", "(I)Z"⟩
abbrev cX11_blame : ByteArray := prog_13_method_6_code
def yX11_blame : MethodName := ⟨RX11, "blame", "(II)V"⟩
abbrev cX11_isLetter : ByteArray := prog_13_method_7_code
def yX11_isLetter : MethodName := ⟨RX11, "isLetter", "(I)Z"⟩
abbrev cX11_isDigit : ByteArray := prog_13_method_8_code
def yX11_isDigit : MethodName := ⟨RX11, "isDigit", "(I)Z"⟩
abbrev cX11_ahead : ByteArray := prog_13_method_9_code
def yX11_ahead : MethodName := ⟨RX11, "ahead", "()V"⟩
abbrev cX11_isSign : ByteArray := prog_13_method_10_code
def yX11_isSign : MethodName := ⟨RX11, "isSign", "(I)Z"⟩
abbrev cX11_isWord : ByteArray := prog_13_method_11_code
def yX11_isWord : MethodName := ⟨RX11, "isWord", "(J)Z"⟩
abbrev cX11_must : ByteArray := prog_13_method_12_code
def yX11_must : MethodName := ⟨RX11, "must", "(I)V"⟩
abbrev cX11_isOwn : ByteArray := prog_13_method_13_code
def yX11_isOwn : MethodName := ⟨RX11, "isOwn", "(J)Z"⟩
abbrev cX11_firstRule : ByteArray := prog_13_method_14_code
def yX11_firstRule : MethodName := ⟨RX11, "firstRule", "(I)I"⟩
abbrev cX11_mostRules : ByteArray := prog_13_method_15_code
def yX11_mostRules : MethodName := ⟨RX11, "mostRules", "(I)I"⟩
abbrev cX11_named : ByteArray := prog_13_method_16_code
def yX11_named : MethodName := ⟨RX11, "named", "(J)I"⟩
abbrev cX11_number : ByteArray := prog_13_method_17_code
def yX11_number : MethodName := ⟨RX11, "number", "(II)I"⟩
abbrev cX11_add : ByteArray := prog_13_method_18_code
def yX11_add : MethodName := ⟨RX11, "add", "(II)V"⟩
abbrev cX11_rank : ByteArray := prog_13_method_19_code
def yX11_rank : MethodName := ⟨RX11, "rank", "(I)I"⟩
abbrev cX11_joins : ByteArray := prog_13_method_20_code
def yX11_joins : MethodName := ⟨RX11, "joins", "(I)V"⟩
abbrev cX11_holdsBack : ByteArray := prog_13_method_21_code
def yX11_holdsBack : MethodName := ⟨RX11, "holdsBack", "(I)V"⟩
abbrev cX11_pushes : ByteArray := prog_13_method_22_code
def yX11_pushes : MethodName := ⟨RX11, "pushes", "(I)V"⟩
abbrev cX11_opens : ByteArray := prog_13_method_23_code
def yX11_opens : MethodName := ⟨RX11, "opens", "(I)V"⟩
abbrev cX11_isTest : ByteArray := prog_13_method_24_code
def yX11_isTest : MethodName := ⟨RX11, "isTest", "(I)Z"⟩
abbrev cX11_operand : ByteArray := prog_13_method_25_code
def yX11_operand : MethodName := ⟨RX11, "operand", "()Z"⟩
abbrev cX11_goesOn : ByteArray := prog_13_method_26_code
def yX11_goesOn : MethodName := ⟨RX11, "goesOn", "()Z"⟩
abbrev cX11_reads : ByteArray := prog_13_method_27_code
def yX11_reads : MethodName := ⟨RX11, "reads", "(Z)V"⟩
abbrev cX11_counts : ByteArray := prog_13_method_28_code
def yX11_counts : MethodName := ⟨RX11, "counts", "(Z)Z"⟩
abbrev cX11_must_ : ByteArray := prog_13_method_29_code
def yX11_must_ : MethodName := ⟨RX11, "must", "(J)V"⟩
abbrev cX11_fresh : ByteArray := prog_13_method_30_code
def yX11_fresh : MethodName := ⟨RX11, "fresh", "()J"⟩
abbrev cX11_asked : ByteArray := prog_13_method_31_code
def yX11_asked : MethodName := ⟨RX11, "asked", "()I"⟩
abbrev cX11_sizes : ByteArray := prog_13_method_32_code
def yX11_sizes : MethodName := ⟨RX11, "sizes", "()V"⟩
abbrev cX11_rule : ByteArray := prog_13_method_33_code
def yX11_rule : MethodName := ⟨RX11, "rule", "(I)V"⟩
abbrev cX11_ship : ByteArray := prog_13_method_34_code
def yX11_ship : MethodName := ⟨RX11, "ship", "()V"⟩
abbrev cX11_cellHere : ByteArray := prog_13_method_35_code
def yX11_cellHere : MethodName := ⟨RX11, "cellHere", "()I"⟩
abbrev cX11_says : ByteArray := prog_13_method_36_code
def yX11_says : MethodName := ⟨RX11, "says", "()V"⟩
abbrev cX11_book : ByteArray := prog_13_method_37_code
def yX11_book : MethodName := ⟨RX11, "book", "()V"⟩
abbrev cX11_seen : ByteArray := prog_13_method_38_code
def yX11_seen : MethodName := ⟨RX11, "seen", "()V"⟩
abbrev cX11_lucks : ByteArray := prog_13_method_39_code
def yX11_lucks : MethodName := ⟨RX11, "lucks", "()V"⟩
abbrev cX11_statement : ByteArray := prog_13_method_40_code
def yX11_statement : MethodName := ⟨RX11, "statement", "()V"⟩
abbrev cX11_sea : ByteArray := prog_13_method_41_code
def yX11_sea : MethodName := ⟨RX11, "sea", "()I"⟩
abbrev cX11_fault : ByteArray := prog_13_method_42_code
def yX11_fault : MethodName := ⟨RX11, "fault", "(I)I"⟩
abbrev cX11_refuses : ByteArray := prog_13_method_43_code
def yX11_refuses : MethodName := ⟨RX11, "refuses", "(I)I"⟩
abbrev cX11_status : ByteArray := prog_13_method_44_code
def yX11_status : MethodName := ⟨RX11, "status", "(I)I"⟩
abbrev cX11_bounded : ByteArray := prog_13_method_45_code
def yX11_bounded : MethodName := ⟨RX11, "bounded", "(J)J"⟩
abbrev cX11_over : ByteArray := prog_13_method_46_code
def yX11_over : MethodName := ⟨RX11, "over", "(JJ)J"⟩
abbrev cX11_made : ByteArray := prog_13_method_47_code
def yX11_made : MethodName := ⟨RX11, "made", "(IJJ)J"⟩
abbrev cX11_works : ByteArray := prog_13_method_48_code
def yX11_works : MethodName := ⟨RX11, "works", "(II)J"⟩
abbrev cX11_cells : ByteArray := prog_13_method_49_code
def yX11_cells : MethodName := ⟨RX11, "cells", "()I"⟩
abbrev cX11_columnOf : ByteArray := prog_13_method_50_code
def yX11_columnOf : MethodName := ⟨RX11, "columnOf", "(I)I"⟩
abbrev cX11_rowOf : ByteArray := prog_13_method_51_code
def yX11_rowOf : MethodName := ⟨RX11, "rowOf", "(I)I"⟩
abbrev cX11_isCell : ByteArray := prog_13_method_52_code
def yX11_isCell : MethodName := ⟨RX11, "isCell", "(II)Z"⟩
abbrev cX11_at : ByteArray := prog_13_method_53_code
def yX11_at : MethodName := ⟨RX11, "at", "(II)I"⟩
abbrev cX11_isHour : ByteArray := prog_13_method_54_code
def yX11_isHour : MethodName := ⟨RX11, "isHour", "(I)Z"⟩
abbrev cX11_isShip : ByteArray := prog_13_method_55_code
def yX11_isShip : MethodName := ⟨RX11, "isShip", "(I)Z"⟩
abbrev cX11_ruleOf : ByteArray := prog_13_method_56_code
def yX11_ruleOf : MethodName := ⟨RX11, "ruleOf", "(IIII)I"⟩
abbrev cX11_sumOf : ByteArray := prog_13_method_57_code
def yX11_sumOf : MethodName := ⟨RX11, "sumOf", "(III)I"⟩
abbrev cX11_lays : ByteArray := prog_13_method_58_code
def yX11_lays : MethodName := ⟨RX11, "lays", "()V"⟩
abbrev cX11_isQuiet : ByteArray := prog_13_method_59_code
def yX11_isQuiet : MethodName := ⟨RX11, "isQuiet", "(II)Z"⟩
abbrev cX11_cell : ByteArray := prog_13_method_60_code
def yX11_cell : MethodName := ⟨RX11, "cell", "(IIII)I"⟩
abbrev cX11_said : ByteArray := prog_13_method_61_code
def yX11_said : MethodName := ⟨RX11, "said", "(II)I"⟩
abbrev cX11_laden : ByteArray := prog_13_method_62_code
def yX11_laden : MethodName := ⟨RX11, "laden", "(II)Z"⟩
abbrev cX11_sayingsOf : ByteArray := prog_13_method_63_code
def yX11_sayingsOf : MethodName := ⟨RX11, "sayingsOf", "(I)I"⟩
abbrev cX11_hourOf : ByteArray := prog_13_method_64_code
def yX11_hourOf : MethodName := ⟨RX11, "hourOf", "(II)I"⟩
abbrev cX11_numberOf : ByteArray := prog_13_method_65_code
def yX11_numberOf : MethodName := ⟨RX11, "numberOf", "(II)I"⟩
abbrev cX11_booksOf : ByteArray := prog_13_method_66_code
def yX11_booksOf : MethodName := ⟨RX11, "booksOf", "(I)I"⟩
abbrev cX11_has : ByteArray := prog_13_method_67_code
def yX11_has : MethodName := ⟨RX11, "has", "(I)I"⟩
abbrev cX11_letter : ByteArray := prog_13_method_68_code
def yX11_letter : MethodName := ⟨RX11, "letter", "(II)I"⟩
abbrev cX11_isWater : ByteArray := prog_13_method_69_code
def yX11_isWater : MethodName := ⟨RX11, "isWater", "(II)Z"⟩
abbrev cX11_isSound : ByteArray := prog_13_method_70_code
def yX11_isSound : MethodName := ⟨RX11, "isSound", "(IIZ)Z"⟩
abbrev cX11_reaches : ByteArray := prog_13_method_71_code
def yX11_reaches : MethodName := ⟨RX11, "reaches", "(IIII)V"⟩
abbrev cX11_goes : ByteArray := prog_13_method_72_code
def yX11_goes : MethodName := ⟨RX11, "goes", "(II)V"⟩
abbrev cX11_hoursTo : ByteArray := prog_13_method_73_code
def yX11_hoursTo : MethodName := ⟨RX11, "hoursTo", "(II)I"⟩
abbrev cX11_far : ByteArray := prog_13_method_74_code
def yX11_far : MethodName := ⟨RX11, "far", "(IIIII)I"⟩
abbrev cX11_fact : ByteArray := prog_13_method_75_code
def yX11_fact : MethodName := ⟨RX11, "fact", "(III)V"⟩
abbrev cX11_addBooks : ByteArray := prog_13_method_76_code
def yX11_addBooks : MethodName := ⟨RX11, "addBooks", "(I)V"⟩
abbrev cX11_addSayings : ByteArray := prog_13_method_77_code
def yX11_addSayings : MethodName := ⟨RX11, "addSayings", "(III)Z"⟩
abbrev cX11_between : ByteArray := prog_13_method_78_code
def yX11_between : MethodName := ⟨RX11, "between", "(IIII)I"⟩
abbrev cX11_fit : ByteArray := prog_13_method_79_code
def yX11_fit : MethodName := ⟨RX11, "fit", "(I)Z"⟩
abbrev cX11_booksFit : ByteArray := prog_13_method_80_code
def yX11_booksFit : MethodName := ⟨RX11, "booksFit", "(I)Z"⟩
abbrev cX11_withBooks : ByteArray := prog_13_method_81_code
def yX11_withBooks : MethodName := ⟨RX11, "withBooks", "(III)Z"⟩
abbrev cX11_pairs : ByteArray := prog_13_method_82_code
def yX11_pairs : MethodName := ⟨RX11, "pairs", "(I)V"⟩
abbrev cX11_keeps : ByteArray := prog_13_method_83_code
def yX11_keeps : MethodName := ⟨RX11, "keeps", "(I)V"⟩
abbrev cX11_lays_ : ByteArray := prog_13_method_84_code
def yX11_lays_ : MethodName := ⟨RX11, "lays", "(I)V"⟩
abbrev cX11_mayBe : ByteArray := prog_13_method_85_code
def yX11_mayBe : MethodName := ⟨RX11, "mayBe", "(III)Z"⟩
abbrev cX11_cellsOf : ByteArray := prog_13_method_86_code
def yX11_cellsOf : MethodName := ⟨RX11, "cellsOf", "(II)I"⟩
abbrev cX11_isHonest : ByteArray := prog_13_method_87_code
def yX11_isHonest : MethodName := ⟨RX11, "isHonest", "(II)Z"⟩
abbrev cX11_ship_ : ByteArray := prog_13_method_88_code
def yX11_ship_ : MethodName := ⟨RX11, "ship", "(II)I"⟩
abbrev cX11_saying : ByteArray := prog_13_method_89_code
def yX11_saying : MethodName := ⟨RX11, "saying", "(III)I"⟩
abbrev cX11_can : ByteArray := prog_13_method_90_code
def yX11_can : MethodName := ⟨RX11, "can", "(III)I"⟩
abbrev cX11_reach : ByteArray := prog_13_method_91_code
def yX11_reach : MethodName := ⟨RX11, "reach", "(III)I"⟩
abbrev cX11_may : ByteArray := prog_13_method_92_code
def yX11_may : MethodName := ⟨RX11, "may", "(IIII)I"⟩
abbrev cX11_gapsOf : ByteArray := prog_13_method_93_code
def yX11_gapsOf : MethodName := ⟨RX11, "gapsOf", "(I)I"⟩
abbrev cX11_saidBy : ByteArray := prog_13_method_94_code
def yX11_saidBy : MethodName := ⟨RX11, "saidBy", "(II)Z"⟩
abbrev cX11_whoOf : ByteArray := prog_13_method_95_code
def yX11_whoOf : MethodName := ⟨RX11, "whoOf", "(I)I"⟩
abbrev cX11_parts : ByteArray := prog_13_method_96_code
def yX11_parts : MethodName := ⟨RX11, "parts", "(II)Z"⟩
abbrev cX11_isPair : ByteArray := prog_13_method_97_code
def yX11_isPair : MethodName := ⟨RX11, "isPair", "(I)Z"⟩
abbrev cX11_keepsSets : ByteArray := prog_13_method_98_code
def yX11_keepsSets : MethodName := ⟨RX11, "keepsSets", "()V"⟩
abbrev cX11_bringsSets : ByteArray := prog_13_method_99_code
def yX11_bringsSets : MethodName := ⟨RX11, "bringsSets", "()V"⟩
abbrev cX11_isKind : ByteArray := prog_13_method_100_code
def yX11_isKind : MethodName := ⟨RX11, "isKind", "(II)Z"⟩
abbrev cX11_judge : ByteArray := prog_13_method_101_code
def yX11_judge : MethodName := ⟨RX11, "judge", "(II)I"⟩
abbrev cX11_taleOf : ByteArray := prog_13_method_102_code
def yX11_taleOf : MethodName := ⟨RX11, "taleOf", "(II)I"⟩
abbrev cX11_tale : ByteArray := prog_13_method_103_code
def yX11_tale : MethodName := ⟨RX11, "tale", "(II)I"⟩
abbrev cX11_bars : ByteArray := prog_13_method_104_code
def yX11_bars : MethodName := ⟨RX11, "bars", "(I)I"⟩
abbrev cX11_clash : ByteArray := prog_13_method_105_code
def yX11_clash : MethodName := ⟨RX11, "clash", "(II)I"⟩
abbrev cX11_who : ByteArray := prog_13_method_106_code
def yX11_who : MethodName := ⟨RX11, "who", "(I)I"⟩
abbrev cX11_isFor : ByteArray := prog_13_method_107_code
def yX11_isFor : MethodName := ⟨RX11, "isFor", "(II)Z"⟩
abbrev cX11_swap : ByteArray := prog_13_method_108_code
def yX11_swap : MethodName := ⟨RX11, "swap", "(II)I"⟩
abbrev cX11_kinds : ByteArray := prog_13_method_109_code
def yX11_kinds : MethodName := ⟨RX11, "kinds", "(I)I"⟩
abbrev cX11_liesOf : ByteArray := prog_13_method_110_code
def yX11_liesOf : MethodName := ⟨RX11, "liesOf", "(I)I"⟩
abbrev cX11_lies : ByteArray := prog_13_method_111_code
def yX11_lies : MethodName := ⟨RX11, "lies", "()I"⟩
abbrev cX11_changes : ByteArray := prog_13_method_112_code
def yX11_changes : MethodName := ⟨RX11, "changes", "(IIZ)Z"⟩
abbrev cX11_met : ByteArray := prog_13_method_113_code
def yX11_met : MethodName := ⟨RX11, "met", "(III)I"⟩
abbrev cX11_explains : ByteArray := prog_13_method_114_code
def yX11_explains : MethodName := ⟨RX11, "explains", "()V"⟩
abbrev cX11_sighting : ByteArray := prog_13_method_115_code
def yX11_sighting : MethodName := ⟨RX11, "sighting", "(II)I"⟩
abbrev cX11_strange : ByteArray := prog_13_method_116_code
def yX11_strange : MethodName := ⟨RX11, "strange", "()I"⟩
abbrev cX11_doubted : ByteArray := prog_13_method_117_code
def yX11_doubted : MethodName := ⟨RX11, "doubted", "()I"⟩
abbrev cX11_gaps : ByteArray := prog_13_method_118_code
def yX11_gaps : MethodName := ⟨RX11, "gaps", "(II)I"⟩
abbrev cX11_chanceOf : ByteArray := prog_13_method_119_code
def yX11_chanceOf : MethodName := ⟨RX11, "chanceOf", "(I)J"⟩
abbrev cX11_chance : ByteArray := prog_13_method_120_code
def yX11_chance : MethodName := ⟨RX11, "chance", "(I)J"⟩
abbrev cX11_beyond : ByteArray := prog_13_method_121_code
def yX11_beyond : MethodName := ⟨RX11, "beyond", "()I"⟩
abbrev cX11_settlesAll : ByteArray := prog_13_method_122_code
def yX11_settlesAll : MethodName := ⟨RX11, "settlesAll", "()V"⟩
abbrev cX11_settles : ByteArray := prog_13_method_123_code
def yX11_settles : MethodName := ⟨RX11, "settles", "(III)I"⟩
abbrev cX11_next : ByteArray := prog_13_method_124_code
def yX11_next : MethodName := ⟨RX11, "next", "(I)I"⟩
abbrev cX11_offOf : ByteArray := prog_13_method_125_code
def yX11_offOf : MethodName := ⟨RX11, "offOf", "(I)I"⟩
abbrev cX11_off : ByteArray := prog_13_method_126_code
def yX11_off : MethodName := ⟨RX11, "off", "(I)I"⟩
abbrev cX11_whose : ByteArray := prog_13_method_127_code
def yX11_whose : MethodName := ⟨RX11, "whose", "()I"⟩
abbrev cX11_says_ : ByteArray := prog_13_method_128_code
def yX11_says_ : MethodName := ⟨RX11, "says", "(IIIZ)V"⟩
abbrev cX11_add_ : ByteArray := prog_13_method_129_code
def yX11_add_ : MethodName := ⟨RX11, "add", "(IIIIZ)I"⟩
abbrev cX11_drop : ByteArray := prog_13_method_130_code
def yX11_drop : MethodName := ⟨RX11, "drop", "(II)I"⟩
abbrev cX11_spots : ByteArray := prog_13_method_131_code
def yX11_spots : MethodName := ⟨RX11, "spots", "(III)V"⟩
abbrev cX11_spot : ByteArray := prog_13_method_132_code
def yX11_spot : MethodName := ⟨RX11, "spot", "(IIII)I"⟩
abbrev cX11_writes : ByteArray := prog_13_method_133_code
def yX11_writes : MethodName := ⟨RX11, "writes", "(I)V"⟩
abbrev cX11_image : ByteArray := prog_13_method_134_code
def yX11_image : MethodName := ⟨RX11, "image", "()I"⟩
abbrev cX11_octet : ByteArray := prog_13_method_135_code
def yX11_octet : MethodName := ⟨RX11, "octet", "(I)I"⟩
abbrev cX11_isWhole : ByteArray := prog_13_method_136_code
def yX11_isWhole : MethodName := ⟨RX11, "isWhole", "(I)Z"⟩
abbrev cX11_on : ByteArray := prog_13_method_137_code
def yX11_on : MethodName := ⟨RX11, "on", "()Z"⟩
def RJx145de : String := "java/io/Serializable"
def TJx145de : u_T := fun k => match k with
  | _ => ("", "", "", false)
def tyJx145de : Nat → FieldType := fun k => match k with
  | _ => .int
abbrev wsJx145de0 : List Cond := u_ws RJx145de TJx145de 0
theorem nmJx145de : ∀ a, a < 0 → ∀ b, b < 0 → a ≠ b → (TJx145de a).2.1 ≠ (TJx145de b).2.1 := by decide +kernel
theorem tyJx145de_ok : ∀ k, k < 0 → parseFieldDescriptor (TJx145de k).2.2.1 = some (tyJx145de k) := by decide +kernel
def RJx9f9b0 : String := "java/lang/CharSequence"
def TJx9f9b0 : u_T := fun k => match k with
  | _ => ("", "", "", false)
def tyJx9f9b0 : Nat → FieldType := fun k => match k with
  | _ => .int
abbrev wsJx9f9b00 : List Cond := u_ws RJx9f9b0 TJx9f9b0 0
theorem nmJx9f9b0 : ∀ a, a < 0 → ∀ b, b < 0 → a ≠ b → (TJx9f9b0 a).2.1 ≠ (TJx9f9b0 b).2.1 := by decide +kernel
theorem tyJx9f9b0_ok : ∀ k, k < 0 → parseFieldDescriptor (TJx9f9b0 k).2.2.1 = some (tyJx9f9b0 k) := by decide +kernel
def RJxb160c : String := "java/lang/Comparable"
def TJxb160c : u_T := fun k => match k with
  | _ => ("", "", "", false)
def tyJxb160c : Nat → FieldType := fun k => match k with
  | _ => .int
abbrev wsJxb160c0 : List Cond := u_ws RJxb160c TJxb160c 0
theorem nmJxb160c : ∀ a, a < 0 → ∀ b, b < 0 → a ≠ b → (TJxb160c a).2.1 ≠ (TJxb160c b).2.1 := by decide +kernel
theorem tyJxb160c_ok : ∀ k, k < 0 → parseFieldDescriptor (TJxb160c k).2.2.1 = some (tyJxb160c k) := by decide +kernel
def RJ13 : String := "java/lang/Long"
def TJ13 : u_T := fun k => match k with
  | _ => ("", "", "", false)
def tyJ13 : Nat → FieldType := fun k => match k with
  | _ => .int
abbrev wsJ130 : List Cond := u_ws RJ13 TJ13 0
theorem nmJ13 : ∀ a, a < 0 → ∀ b, b < 0 → a ≠ b → (TJ13 a).2.1 ≠ (TJ13 b).2.1 := by decide +kernel
theorem tyJ13_ok : ∀ k, k < 0 → parseFieldDescriptor (TJ13 k).2.2.1 = some (tyJ13 k) := by decide +kernel
abbrev cJ13_bitCount_95d88 : ByteArray := prog_14_method_50_code
def yJ13_bitCount_95d88 : MethodName := ⟨RJ13, "bitCount", "(J)I"⟩
def RJ9 : String := "java/lang/Math"
def TJ9 : u_T := fun k => match k with
  | _ => ("", "", "", false)
def tyJ9 : Nat → FieldType := fun k => match k with
  | _ => .int
abbrev wsJ90 : List Cond := u_ws RJ9 TJ9 0
theorem nmJ9 : ∀ a, a < 0 → ∀ b, b < 0 → a ≠ b → (TJ9 a).2.1 ≠ (TJ9 b).2.1 := by decide +kernel
theorem tyJ9_ok : ∀ k, k < 0 → parseFieldDescriptor (TJ9 k).2.2.1 = some (tyJ9 k) := by decide +kernel
abbrev cJ9_floorDiv_f86c9 : ByteArray := prog_15_method_49_code
def yJ9_floorDiv_f86c9 : MethodName := ⟨RJ9, "floorDiv", "(JJ)J"⟩
abbrev cJ9_floorMod_f86c9 : ByteArray := prog_15_method_52_code
def yJ9_floorMod_f86c9 : MethodName := ⟨RJ9, "floorMod", "(JJ)J"⟩
abbrev cJ9_abs_0f7a4 : ByteArray := prog_15_method_59_code
def yJ9_abs_0f7a4 : MethodName := ⟨RJ9, "abs", "(I)I"⟩
abbrev cJ9_max_7cf53 : ByteArray := prog_15_method_65_code
def yJ9_max_7cf53 : MethodName := ⟨RJ9, "max", "(II)I"⟩
abbrev cJ9_max_f86c9 : ByteArray := prog_15_method_66_code
def yJ9_max_f86c9 : MethodName := ⟨RJ9, "max", "(JJ)J"⟩
abbrev cJ9_min_7cf53 : ByteArray := prog_15_method_69_code
def yJ9_min_7cf53 : MethodName := ⟨RJ9, "min", "(II)I"⟩
abbrev cJ9_min_f86c9 : ByteArray := prog_15_method_70_code
def yJ9_min_f86c9 : MethodName := ⟨RJ9, "min", "(JJ)J"⟩
def RJ0 : String := "java/lang/String"
def TJ0 : u_T := fun k => match k with
  | _ => ("", "", "", false)
def tyJ0 : Nat → FieldType := fun k => match k with
  | _ => .int
abbrev wsJ00 : List Cond := u_ws RJ0 TJ0 0
theorem nmJ0 : ∀ a, a < 0 → ∀ b, b < 0 → a ≠ b → (TJ0 a).2.1 ≠ (TJ0 b).2.1 := by decide +kernel
theorem tyJ0_ok : ∀ k, k < 0 → parseFieldDescriptor (TJ0 k).2.2.1 = some (tyJ0 k) := by decide +kernel
abbrev cJ0_length_8abf5 : ByteArray := prog_16_method_54_code
def yJ0_length_8abf5 : MethodName := ⟨RJ0, "length", "()I"⟩
abbrev cJ0_charAt_5068e : ByteArray := prog_16_method_56_code
def yJ0_charAt_5068e : MethodName := ⟨RJ0, "charAt", "(I)C"⟩
abbrev cJ0_coder_7d493 : ByteArray := prog_16_method_152_code
def yJ0_coder_7d493 : MethodName := ⟨RJ0, "coder", "()B"⟩
abbrev cJ0_isLatin1_aae02 : ByteArray := prog_16_method_154_code
def yJ0_isLatin1_aae02 : MethodName := ⟨RJ0, "isLatin1", "()Z"⟩
abbrev cJ0_checkIndex_df160 : ByteArray := prog_16_method_155_code
def yJ0_checkIndex_df160 : MethodName := ⟨RJ0, "checkIndex", "(II)V"⟩
def RJ1 : String := "java/lang/StringLatin1"
def TJ1 : u_T := fun k => match k with
  | _ => ("", "", "", false)
def tyJ1 : Nat → FieldType := fun k => match k with
  | _ => .int
abbrev wsJ10 : List Cond := u_ws RJ1 TJ1 0
theorem nmJ1 : ∀ a, a < 0 → ∀ b, b < 0 → a ≠ b → (TJ1 a).2.1 ≠ (TJ1 b).2.1 := by decide +kernel
theorem tyJ1_ok : ∀ k, k < 0 → parseFieldDescriptor (TJ1 k).2.2.1 = some (tyJ1 k) := by decide +kernel
abbrev cJ1_charAt_3b067 : ByteArray := prog_17_method_2_code
def yJ1_charAt_3b067 : MethodName := ⟨RJ1, "charAt", "([BI)C"⟩
def RJ2 : String := "java/lang/StringUTF16"
def TJ2 : u_T := fun k => match k with
  | _ => ("", "", "", false)
def tyJ2 : Nat → FieldType := fun k => match k with
  | _ => .int
abbrev wsJ20 : List Cond := u_ws RJ2 TJ2 0
theorem nmJ2 : ∀ a, a < 0 → ∀ b, b < 0 → a ≠ b → (TJ2 a).2.1 ≠ (TJ2 b).2.1 := by decide +kernel
theorem tyJ2_ok : ∀ k, k < 0 → parseFieldDescriptor (TJ2 k).2.2.1 = some (tyJ2 k) := by decide +kernel
abbrev cJ2_getChar_3b067 : ByteArray := prog_18_method_5_code
def yJ2_getChar_3b067 : MethodName := ⟨RJ2, "getChar", "([BI)C"⟩
abbrev cJ2_length_9d52b : ByteArray := prog_18_method_6_code
def yJ2_length_9d52b : MethodName := ⟨RJ2, "length", "([B)I"⟩
abbrev cJ2_charAt_3b067 : ByteArray := prog_18_method_83_code
def yJ2_charAt_3b067 : MethodName := ⟨RJ2, "charAt", "([BI)C"⟩
abbrev cJ2_checkIndex_2214a : ByteArray := prog_18_method_91_code
def yJ2_checkIndex_2214a : MethodName := ⟨RJ2, "checkIndex", "(I[B)V"⟩
def RJ10 : String := "java/lang/System"
def TJ10 : u_T := fun k => match k with
  | _ => ("", "", "", false)
def tyJ10 : Nat → FieldType := fun k => match k with
  | _ => .int
abbrev wsJ100 : List Cond := u_ws RJ10 TJ10 0
theorem nmJ10 : ∀ a, a < 0 → ∀ b, b < 0 → a ≠ b → (TJ10 a).2.1 ≠ (TJ10 b).2.1 := by decide +kernel
theorem tyJ10_ok : ∀ k, k < 0 → parseFieldDescriptor (TJ10 k).2.2.1 = some (tyJ10 k) := by decide +kernel
def RJxfd54e : String := "java/lang/constant/Constable"
def TJxfd54e : u_T := fun k => match k with
  | _ => ("", "", "", false)
def tyJxfd54e : Nat → FieldType := fun k => match k with
  | _ => .int
abbrev wsJxfd54e0 : List Cond := u_ws RJxfd54e TJxfd54e 0
theorem nmJxfd54e : ∀ a, a < 0 → ∀ b, b < 0 → a ≠ b → (TJxfd54e a).2.1 ≠ (TJxfd54e b).2.1 := by decide +kernel
theorem tyJxfd54e_ok : ∀ k, k < 0 → parseFieldDescriptor (TJxfd54e k).2.2.1 = some (tyJxfd54e k) := by decide +kernel
def RJx3cf43 : String := "java/lang/constant/ConstantDesc"
def TJx3cf43 : u_T := fun k => match k with
  | _ => ("", "", "", false)
def tyJx3cf43 : Nat → FieldType := fun k => match k with
  | _ => .int
abbrev wsJx3cf430 : List Cond := u_ws RJx3cf43 TJx3cf43 0
theorem nmJx3cf43 : ∀ a, a < 0 → ∀ b, b < 0 → a ≠ b → (TJx3cf43 a).2.1 ≠ (TJx3cf43 b).2.1 := by decide +kernel
theorem tyJx3cf43_ok : ∀ k, k < 0 → parseFieldDescriptor (TJx3cf43 k).2.2.1 = some (tyJx3cf43 k) := by decide +kernel
def RJ7 : String := "java/util/Arrays"
def TJ7 : u_T := fun k => match k with
  | _ => ("", "", "", false)
def tyJ7 : Nat → FieldType := fun k => match k with
  | _ => .int
abbrev wsJ70 : List Cond := u_ws RJ7 TJ7 0
theorem nmJ7 : ∀ a, a < 0 → ∀ b, b < 0 → a ≠ b → (TJ7 a).2.1 ≠ (TJ7 b).2.1 := by decide +kernel
theorem tyJ7_ok : ∀ k, k < 0 → parseFieldDescriptor (TJ7 k).2.2.1 = some (tyJ7 k) := by decide +kernel
abbrev cJ7_rangeCheck_23922 : ByteArray := prog_20_method_30_code
def yJ7_rangeCheck_23922 : MethodName := ⟨RJ7, "rangeCheck", "(III)V"⟩
abbrev cJ7_fill_d0a16 : ByteArray := prog_20_method_101_code
def yJ7_fill_d0a16 : MethodName := ⟨RJ7, "fill", "([JJ)V"⟩
abbrev cJ7_fill_bad5a : ByteArray := prog_20_method_102_code
def yJ7_fill_bad5a : MethodName := ⟨RJ7, "fill", "([JIIJ)V"⟩
abbrev cJ7_fill_53178 : ByteArray := prog_20_method_103_code
def yJ7_fill_53178 : MethodName := ⟨RJ7, "fill", "([II)V"⟩
def RJ3 : String := "jdk/internal/util/Preconditions"
def TJ3 : u_T := fun k => match k with
  | _ => ("", "", "", false)
def tyJ3 : Nat → FieldType := fun k => match k with
  | _ => .int
abbrev wsJ30 : List Cond := u_ws RJ3 TJ3 0
theorem nmJ3 : ∀ a, a < 0 → ∀ b, b < 0 → a ≠ b → (TJ3 a).2.1 ≠ (TJ3 b).2.1 := by decide +kernel
theorem tyJ3_ok : ∀ k, k < 0 → parseFieldDescriptor (TJ3 k).2.2.1 = some (tyJ3 k) := by decide +kernel
abbrev cJ3_checkIndex_8e157 : ByteArray := prog_21_method_11_code
def yJ3_checkIndex_8e157 : MethodName := ⟨RJ3, "checkIndex", "(IILjava/util/function/BiFunction;)I"⟩
def RL : String := "ToldTracksLaw"
abbrev cL_law : ByteArray := code
def yL_law : MethodName := ⟨RL, "law", "([I)Z"⟩
abbrev vwCl : List vw_C := [(RX0, TX0, 3), (RX1, TX1, 1), (RX2, TX2, 2), (RX3, TX3, 10), (RX4, TX4, 4), (RX5, TX5, 14), (RX6, TX6, 13), (RX7, TX7, 4), (RX8, TX8, 17), (RX9, TX9, 5), (RX10, TX10, 17), (RX11, TX11, 83)]
end
section
/-! THE ABSTRACT MACHINE (AM): typed memory, numbered cells, one step a function; part 04: the machine follows it. -/
/-- a cell's kind and its length: kinds 0 .. 9 are arrays (am_ety), 10 + c an object of the class vwCl[c] -/
abbrev am_S : Type := Nat × Nat
/-- ints, longs, references by cell and place; the cells' kinds -/
abbrev am_M : Type := (Nat → Nat → Int32) × (Nat → Nat → Int64) × (Nat → Nat → Option Nat) × List am_S
def mI (M : am_M) (a j : Nat) : Int32 := M.1 a j
def mL (M : am_M) (a j : Nat) : Int64 := M.2.1 a j
def mR (M : am_M) (a j : Nat) : Option Nat := M.2.2.1 a j
def mS (M : am_M) : List am_S := M.2.2.2
def mK (M : am_M) (a : Nat) : Nat := ((mS M).getD a (99, 0)).1
def mN (M : am_M) (a : Nat) : Nat := ((mS M).getD a (99, 0)).2
def mC (M : am_M) : Nat := (mS M).length
def mW (M : am_M) : Nat := ((mS M).map Prod.snd).sum
def am_u {α : Type} (f : Nat → Nat → α) (a j : Nat) (v : α) : Nat → Nat → α := fun b k => if b = a ∧ k = j then v else f b k
def am_z {α : Type} (f : Nat → Nat → α) (a : Nat) (v : α) : Nat → Nat → α := fun b k => if b = a then v else f b k
def uI (M : am_M) (a j : Nat) (v : Int32) : am_M := (am_u M.1 a j v, M.2)
def uL (M : am_M) (a j : Nat) (v : Int64) : am_M := (M.1, am_u M.2.1 a j v, M.2.2)
def uR (M : am_M) (a j : Nat) (v : Option Nat) : am_M := (M.1, M.2.1, am_u M.2.2.1 a j v, M.2.2.2)
def uN (M : am_M) (sh : am_S) : am_M := (am_z M.1 (mC M) 0, am_z M.2.1 (mC M) 0, am_z M.2.2.1 (mC M) none, M.2.2.2 ++ [sh])
/-- n longs of the cell a from sp on, into the cell b from dp on -/
def uCL (M : am_M) (a sp b dp n : Nat) : am_M := (M.1, (fun c k => if c = b ∧ dp ≤ k ∧ k < dp + n then M.2.1 a (sp + (k - dp)) else M.2.1 c k), M.2.2)
/-- what comes of a step: the next place with locals, stack and memory; or an answer; or a call -/
abbrev am_O : Type := Option ((Nat × List Value × List Value × am_M) ⊕ ((Option Value × am_M) ⊕ (Nat × List Value × Nat × List Value × List Value × am_M)))
abbrev am_Act : Type := List Value → List Value → am_M → am_O
abbrev am_F : Type := List Value → List Value → am_M → Option (Nat × List Value × List Value × am_M)
abbrev am_Code : Type := Nat → am_Act
def k_nx (f : am_F) : am_Act := fun lv st M => (f lv st M).map Sum.inl
/-- a local that holds nothing -/
abbrev am_x : Value := .float 0
def am_long : Value → Bool
  | .long _ => true
  | _ => false
def am_flo : Value → Bool
  | .float _ => true
  | .double _ => true
  | _ => false
/-- a local is set; a long whose second half it was is gone -/
def am_st : List Value → Nat → Value → List Value
  | [], _, _ => []
  | _ :: xs, 0, v => v :: xs
  | x :: xs, i + 1, v => (if i = 0 ∧ am_long x = true then am_x else x) :: am_st xs i v
/-- a method's locals at its entry -/
def am_en : List Value → List Value
  | [] => []
  | v :: vs => if am_long v = true then v :: am_x :: am_en vs else v :: am_en vs
def am_pad (n : Nat) (l : List Value) : List Value := l ++ List.replicate (n - l.length) am_x
abbrev am_in (i : Int32) (n : Nat) : Prop := 0 ≤ i.toInt ∧ i.toInt < (n : Int)
def am_push : Option Value → List Value → List Value
  | none, st => st
  | some v, st => v :: st
/-- a method: its name, bytes, locals, type, and what its bytes do -/
abbrev am_Y : Type := MethodName × ByteArray × Nat × Option FieldType × am_Code
def am_run (P : Nat → am_Y) : Nat → Nat → am_Code → Nat → List Value → List Value → am_M → Option (Option Value × am_M)
  | 0, _, _, _, _, _, _ => none
  | n + 1, d, c, pc, lv, st, M =>
    match c pc lv st M with
    | none => none
    | some (.inl (pc', lv', st', M')) => am_run P n d c pc' lv' st' M'
    | some (.inr (.inl (v, M'))) => some (v, M')
    | some (.inr (.inr (y, as, pc', lv', st', M'))) =>
      match d with
      | 0 => none
      | d' + 1 =>
        match am_run P n d' (P y).2.2.2.2 0 (am_pad (P y).2.2.1 (am_en as)) [] M' with
        | none => none
        | some (r, M2) => am_run P n (d' + 1) c pc' lv' (am_push r st') M2
/-- from here the method comes to an end with Q -/
def am_P (P : Nat → am_Y) (d : Nat) (c : am_Code) (pc : Nat) (lv st : List Value) (M : am_M) (Q : Option Value → am_M → Prop) : Prop := ∃ n r M', am_run P n d c pc lv st M = some (r, M') ∧ Q r M'
/-- the method y, called with as at M, comes to an end with Q -/
def am_E (P : Nat → am_Y) (d : Nat) (y : Nat) (as : List Value) (M : am_M) (Q : Option Value → am_M → Prop) : Prop := am_P P d (P y).2.2.2.2 0 (am_pad (P y).2.2.1 (am_en as)) [] M Q
theorem am_run_more {P : Nat → am_Y} : ∀ (n d k e : Nat) (c : am_Code) (pc : Nat) (lv st : List Value) (M : am_M) (x : Option Value × am_M), am_run P n d c pc lv st M = some x → am_run P (n + k) (d + e) c pc lv st M = some x := by
  intro n
  induction n with
  | zero => intro d k e c pc lv st M x h; simp [am_run] at h
  | succ n ih =>
    intro d k e c pc lv st M x h
    rw [Nat.add_right_comm n 1 k]
    rw [am_run] at h ⊢
    split at h
    · cases h
    · exact ih _ _ _ _ _ _ _ _ _ h
    · exact h
    · cases d with
      | zero => cases h
      | succ d' =>
        rw [Nat.add_right_comm d' 1 e]
        dsimp only at h ⊢
        split at h
        · cases h
        · rename_i r M2 h2
          rw [ih d' k e _ _ _ _ _ _ h2]
          have h3 := ih (d' + 1) k e _ _ _ _ _ _ h
          rw [Nat.add_right_comm d' 1 e] at h3
          exact h3
theorem am_P_mono {P : Nat → am_Y} {d : Nat} {c : am_Code} {pc : Nat} {lv st : List Value} {M : am_M} {Q Q' : Option Value → am_M → Prop} (h : am_P P d c pc lv st M Q) (hq : ∀ r M', Q r M' → Q' r M') : am_P P d c pc lv st M Q' := by
  obtain ⟨n, r, M', h1, h2⟩ := h
  exact ⟨n, r, M', h1, hq _ _ h2⟩
theorem am_P_deep {P : Nat → am_Y} {d d2 : Nat} {c : am_Code} {pc : Nat} {lv st : List Value} {M : am_M} {Q : Option Value → am_M → Prop} (h : am_P P d c pc lv st M Q) (hd : d ≤ d2) : am_P P d2 c pc lv st M Q := by
  obtain ⟨n, r, M', h1, h2⟩ := h
  obtain ⟨k, rfl⟩ := Nat.exists_eq_add_of_le hd
  exact ⟨n, r, M', am_run_more n d 0 k c pc lv st M _ h1, h2⟩
/-- what is to be shown of a step's outcome -/
def am_W (P : Nat → am_Y) (d : Nat) (c : am_Code) (Q : Option Value → am_M → Prop) : am_O → Prop
  | none => False
  | some (.inl (pc', lv', st', M')) => am_P P d c pc' lv' st' M' Q
  | some (.inr (.inl (v, M'))) => Q v M'
  | some (.inr (.inr (y, as, pc', lv', st', M'))) => ∃ d', d = d' + 1 ∧ am_E P d' y as M' (fun r M2 => am_P P d c pc' lv' (am_push r st') M2 Q)
theorem am_P_step {P : Nat → am_Y} {d : Nat} {c : am_Code} {pc : Nat} {lv st : List Value} {M : am_M} {Q : Option Value → am_M → Prop} : am_P P d c pc lv st M Q ↔ am_W P d c Q (c pc lv st M) := by
  constructor
  · rintro ⟨n, r, M', h1, h2⟩
    cases n with
    | zero => simp [am_run] at h1
    | succ n =>
      rw [am_run] at h1
      split at h1
      · cases h1
      · rename_i heq
        rw [heq]
        exact ⟨n, r, M', h1, h2⟩
      · rename_i heq
        rw [heq]
        cases h1
        exact h2
      · rename_i heq
        rw [heq]
        cases d with
        | zero => cases h1
        | succ d' =>
          dsimp only at h1
          split at h1
          · cases h1
          · rename_i r2 M2 h3
            exact ⟨d', rfl, n, r2, M2, h3, n, r, M', h1, h2⟩
  · intro h
    match heq : c pc lv st M with
    | none => rw [heq] at h; exact h.elim
    | some (.inl (pc', lv', st', M')) =>
      rw [heq] at h
      obtain ⟨n, r, M2, h1, h2⟩ := h
      exact ⟨n + 1, r, M2, by rw [am_run, heq]; exact h1, h2⟩
    | some (.inr (.inl (v, M'))) =>
      rw [heq] at h
      exact ⟨1, v, M', by rw [am_run, heq], h⟩
    | some (.inr (.inr (y, as, pc', lv', st', M'))) =>
      rw [heq] at h
      obtain ⟨d', rfl, n, r, M2, h1, n2, r2, M3, h2, h3⟩ := h
      refine ⟨n + n2 + 1, r2, M3, ?_, h3⟩
      rw [am_run, heq]
      dsimp only
      have h5 : am_run P (n + n2) d' (P y).2.2.2.2 0 (am_pad (P y).2.2.1 (am_en as)) [] M' = some (r, M2) := am_run_more n d' n2 0 _ _ _ _ _ _ h1
      rw [h5]
      dsimp only
      have h4 := am_run_more n2 (d' + 1) n 0 _ _ _ _ _ _ h2
      rw [Nat.add_comm n2 n] at h4
      exact h4
end
section
/-! AM and the machine's heap: the cells of AM lie from G.1 on; G = (first address, addresses of what lies outside and the heap as it was, array classes by kind, classes and slots) -/
abbrev am_G : Type := Nat × ((Nat → Nat) × Heap) × (Nat → ClassId) × va_G
def am_ety : List FieldType := [.int, .long, .boolean, .object RX6, .object RX8, .array .long]
def am_fty (ci : Nat) : Nat → FieldType := match ci with
  | 0 => tyX0 | 1 => tyX1 | 2 => tyX2 | 3 => tyX3 | 4 => tyX4 | 5 => tyX5 | 6 => tyX6 | 7 => tyX7 | 8 => tyX8 | 9 => tyX9 | 10 => tyX10 | _ => tyX11
def am_fv (ty : FieldType) (M : am_M) (a j : Nat) : Value := match ty with
  | .long => .long (mL M a j)
  | .object _ => va_rf (mR M a j)
  | .array _ => va_rf (mR M a j)
  | _ => .int (mI M a j)
def am_v (G : am_G) : Value → Value
  | .ref k => .ref (G.1 + k)
  | .retAddr z => .ref (G.2.1.1 z)
  | v => v
theorem am_v_cat (G : am_G) (v : Value) : (am_v G v).category = v.category := by cases v <;> rfl
theorem am_v_int (G : am_G) (x : Int32) : am_v G (.int x) = .int x := rfl
theorem am_v_long (G : am_G) (x : Int64) : am_v G (.long x) = .long x := rfl
def am_at (G : am_G) (M : am_M) (k : Nat) (sh : am_S) (H : Heap) : Prop :=
  (∀ ty, am_ety[sh.1]? = some ty → H[G.1 + k]? = some (arrV (G.2.2.1 sh.1) sh.2 (fun j => am_v G (am_fv ty M k j)))) ∧
  ∀ (ci : Nat) (r : vw_C), sh.1 = 10 + ci → vwCl[ci]? = some r → sh.2 = r.2.2 ∧ t_OB (G.1 + k) (G.2.2.2.1 ci) r.2.2 (G.2.2.2.2 ci) H (fun j => am_v G (am_fv (am_fty ci j) M k j))
def am_R (G : am_G) (M : am_M) (H : Heap) : Prop := H.size = G.1 + mC M ∧ (∀ (k : Nat) (sh : am_S), (mS M)[k]? = some sh → am_at G M k sh H) ∧ ∀ q, q < G.1 → H[q]? = G.2.1.2[q]?
theorem am_at.kept {G : am_G} {M M' : am_M} {k : Nat} {sh : am_S} {H H' : Heap} (h : am_at G M k sh H) (hv : ∀ ty j, am_fv ty M' k j = am_fv ty M k j) (hc : H'[G.1 + k]? = H[G.1 + k]?) : am_at G M' k sh H' := by
  refine ⟨fun ty hty => ?_, fun ci r e hr => ?_⟩
  · rw [hc, h.1 ty hty]
    simp only [hv]
  · obtain ⟨h1, h2⟩ := h.2 ci r e hr
    refine ⟨h1, ?_⟩
    simp only [hv]
    exact h2.kept hc
theorem am_R.set {G : am_G} {M M' : am_M} {H H' : Heap} {a : Nat} (h : am_R G M H) (hS : mS M' = mS M) (hv : ∀ k, k ≠ a → ∀ ty j, am_fv ty M' k j = am_fv ty M k j) (hz : H'.size = H.size) (ho : ∀ q, q ≠ G.1 + a → H'[q]? = H[q]?) (ha : ∀ sh, (mS M)[a]? = some sh → am_at G M' a sh H') : am_R G M' H' := by
  refine ⟨by rw [hz, h.1]; show _ = _ + (mS M').length; rw [hS]; rfl, fun k sh hk => ?_, fun q hq => by rw [ho q (by omega)]; exact h.2.2 q hq⟩
  rw [hS] at hk
  by_cases e : k = a
  · subst e
    exact ha sh hk
  · exact (h.2.1 k sh hk).kept (hv k e) (ho _ (by omega))
theorem am_R.new {G : am_G} {M : am_M} {H H' : Heap} {sh : am_S} (h : am_R G M H) (hz : H'.size = H.size + 1) (ho : ∀ q, q < H.size → H'[q]? = H[q]?) (ha : am_at G (uN M sh) (mC M) sh H') : am_R G (uN M sh) H' := by
  have e : mS (uN M sh) = mS M ++ [sh] := rfl
  refine ⟨?_, fun k sh' hk => ?_, fun q hq => by rw [ho q (by rw [h.1]; omega)]; exact h.2.2 q hq⟩
  · rw [hz, h.1]
    show _ = _ + (mS (uN M sh)).length
    rw [e, List.length_append]
    rfl
  · rw [e] at hk
    by_cases hl : k < (mS M).length
    · rw [List.getElem?_append_left hl] at hk
      have hne : k ≠ mC M := Nat.ne_of_lt hl
      refine (h.2.1 k sh' hk).kept (fun ty j => ?_) (ho _ (by rw [h.1]; exact Nat.add_lt_add_left hl _))
      unfold am_fv
      cases ty <;> simp [uN, mI, mL, mR, am_z, hne]
    · rw [List.getElem?_append_right (by omega)] at hk
      have h2 := (List.getElem?_eq_some_iff.mp hk).1
      have h3 : k = (mS M).length := by simp at h2; omega
      subst h3
      simp at hk
      subst hk
      exact ha
/-- the locals -/
def am_L (G : am_G) (nL : Nat) (ls : Array Slot) (lv : List Value) : Prop := lv.length = nL ∧ ls.size = nL ∧ lv_wf ls ∧ ∀ (i : Nat) (v : Value), lv[i]? = some v → am_flo v = false → ls[i]? = some (.val (am_v G v))
def am_al (G : am_G) (lv : List Value) : List (Nat × Value) := (List.range lv.length).filterMap (fun i => (lv[i]?).bind fun v => if am_flo v = true then none else some (i, am_v G v))
theorem am_al_mem {G : am_G} {lv : List Value} {j : Nat} {w : Value} : (j, w) ∈ am_al G lv ↔ ∃ v, lv[j]? = some v ∧ am_flo v = false ∧ w = am_v G v := by
  unfold am_al
  rw [List.mem_filterMap]
  constructor
  · rintro ⟨i, -, h⟩
    rw [Option.bind_eq_some_iff] at h
    obtain ⟨v, h1, h2⟩ := h
    split at h2
    · cases h2
    · rename_i hf
      cases h2
      exact ⟨v, h1, by simpa using hf, rfl⟩
  · rintro ⟨v, h1, h2, rfl⟩
    refine ⟨j, List.mem_range.mpr (List.getElem?_eq_some_iff.mp h1).1, ?_⟩
    rw [h1, Option.bind_some, if_neg (by rw [h2]; simp)]
theorem am_L.has {G : am_G} {nL : Nat} {ls : Array Slot} {lv : List Value} (h : am_L G nL ls lv) : lv_has ls nL (am_al G lv) := by
  refine ⟨h.2.1, h.2.2.1, fun q hq => ?_⟩
  obtain ⟨v, h1, h2, h3⟩ := am_al_mem.mp (show (q.1, q.2) ∈ am_al G lv from hq)
  rw [h3]
  exact h.2.2.2 _ _ h1 h2
theorem am_st_len (lv : List Value) (i : Nat) (x : Value) : (am_st lv i x).length = lv.length := by
  induction lv generalizing i with
  | nil => rfl
  | cons v vs ih => cases i with
    | zero => rfl
    | succ i => simp [am_st, ih]
theorem am_st_get (lv : List Value) : ∀ (i : Nat) (x : Value) (j : Nat) (v : Value), (am_st lv i x)[j]? = some v → am_flo v = false → (j = i ∧ v = x) ∨ (j ≠ i ∧ lv[j]? = some v ∧ ¬ (j + 1 = i ∧ am_long v = true)) := by
  induction lv with
  | nil => intro i x j v h; simp [am_st] at h
  | cons y ys ih =>
    intro i x j v h hf
    cases i with
    | zero =>
      cases j with
      | zero => left; simp [am_st] at h; exact ⟨rfl, h.symm⟩
      | succ j => right; simp [am_st] at h; exact ⟨by omega, by simpa using h, by omega⟩
    | succ i =>
      cases j with
      | zero =>
        right
        simp only [am_st, List.getElem?_cons_zero, Option.some.injEq] at h
        by_cases hc : i = 0 ∧ am_long y = true
        · rw [if_pos hc] at h; subst h; simp [am_flo] at hf
        · rw [if_neg hc] at h
          subst h
          exact ⟨by omega, rfl, fun q => hc ⟨by omega, q.2⟩⟩
      | succ j =>
        simp only [am_st, List.getElem?_cons_succ] at h
        rcases ih i x j v h hf with ⟨h1, h2⟩ | ⟨h1, h2, h3⟩
        · left; exact ⟨by omega, h2⟩
        · right; exact ⟨by omega, by simpa using h2, fun q => h3 ⟨by omega, q.2⟩⟩
theorem am_long_cat {G : am_G} {v : Value} (hf : am_flo v = false) (h : (am_v G v).category = 2) : am_long v = true := by
  rw [am_v_cat] at h
  cases v <;> simp_all [Value.category, am_long, am_flo]
theorem am_L.put {G : am_G} {nL i : Nat} {ls ls' : Array Slot} {lv : List Value} {x : Value} (h : am_L G nL ls lv) (h' : lv_has ls' nL ((i, am_v G x) :: (am_al G lv).filter (fun q => !(q.1 == i) && !(q.1 + 1 == i && q.2.category == 2)))) : am_L G nL ls' (am_st lv i x) := by
  refine ⟨by rw [am_st_len]; exact h.1, h'.1, h'.2.1, fun j v hj hf => ?_⟩
  rcases am_st_get lv i x j v hj hf with ⟨rfl, rfl⟩ | ⟨h1, h2, h3⟩
  · exact h'.2.2 _ List.mem_cons_self
  · refine h'.2.2 (j, am_v G v) (List.mem_cons_of_mem _ (List.mem_filter.mpr ⟨am_al_mem.mpr ⟨v, h2, hf, rfl⟩, ?_⟩))
    have e1 : (j == i) = false := by simpa using h1
    rw [e1]
    by_cases e2 : j + 1 = i
    · have e3 : ((am_v G v).category == 2) = false := by
        rw [beq_eq_false_iff_ne]
        exact fun q => h3 ⟨e2, am_long_cat hf q⟩
      simp [e3]
    · have e3 : (j + 1 == i) = false := by simpa using e2
      simp [e3]
theorem am_L.put2 {G : am_G} {nL i : Nat} {ls ls' : Array Slot} {lv : List Value} {x : Value} (h : am_L G nL ls lv) (h' : lv_has ls' nL ((i, am_v G x) :: (am_al G lv).filter (fun q => !(q.1 == i) && (!(q.1 == i + 1) && !(q.1 + 1 == i && q.2.category == 2))))) : am_L G nL ls' ((am_st lv i x).set (i + 1) am_x) := by
  refine ⟨by rw [List.length_set, am_st_len]; exact h.1, h'.1, h'.2.1, fun j v hj hf => ?_⟩
  rw [List.getElem?_set] at hj
  by_cases e : i + 1 = j
  · rw [if_pos e] at hj
    split at hj
    · cases hj; simp [am_flo] at hf
    · cases hj
  rw [if_neg e] at hj
  rcases am_st_get lv i x j v hj hf with ⟨rfl, rfl⟩ | ⟨h1, h2, h3⟩
  · exact h'.2.2 _ List.mem_cons_self
  · refine h'.2.2 (j, am_v G v) (List.mem_cons_of_mem _ (List.mem_filter.mpr ⟨am_al_mem.mpr ⟨v, h2, hf, rfl⟩, ?_⟩))
    have e1 : (j == i) = false := by simpa using h1
    have e4 : (j == i + 1) = false := by simpa using (fun q => e q.symm)
    rw [e1, e4]
    by_cases e2 : j + 1 = i
    · have e3 : ((am_v G v).category == 2) = false := by
        rw [beq_eq_false_iff_ne]
        exact fun q => h3 ⟨e2, am_long_cat hf q⟩
      simp [e3]
    · have e3 : (j + 1 == i) = false := by simpa using e2
      simp [e3]
theorem am_in_vp {i : Int32} {n : Nat} (h : am_in i n) : vp_in i n := by
  unfold vp_in
  rintro (q | q)
  · have := Int32.lt_iff_toInt_lt.mp q
    simp at this
    have h1 := h.1
    omega
  · have h1 := h.1
    have h2 := h.2
    have e : i.toNatClampNeg = i.toInt.toNat := rfl
    rw [e] at q
    omega
end
section
/-! what it is that the machine follows AM -/
def am_ws : List Cond := lw_tbl.filter goodWord
theorem am_mem {w : Cond} (i : Nat) (h : lw_tbl[i]? = some w) (hg : goodWord w = true) : w ∈ am_ws := List.mem_filter.mpr ⟨List.mem_of_getElem? h, hg⟩
theorem am_ws_in : ∀ w ∈ am_ws, w ∈ lw_tbl := fun _ h => (List.mem_filter.mp h).1
def am_tys (G : am_G) : List (ClassId × FieldType) := [(G.2.2.1 0, .int), (G.2.2.1 1, .long), (G.2.2.1 2, .boolean), (G.2.2.1 3, .object RX6), (G.2.2.1 4, .object RX8), (G.2.2.1 5, .array .long)]
/-- words that aren't carried by their kind: links of nest mates' constructors -/
def am_isN : Cond → Bool
  | .methodLinkNest .. => true
  | _ => false
def am_nw : List Cond := lw_tbl.filter am_isN
/-- an array of rows of longs -/
def am_LL (G : am_G) (s : State) : Prop := ∃ kA kJ : Class, s.vm.classes[G.2.2.1 5]? = some kA ∧ kA.kind = .array (G.2.2.1 1) (.array .long) ∧ s.vm.classes[G.2.2.1 1]? = some kJ ∧ (s.vm.classes.findIdx? fun (x : Class) => match x.kind with | .array component _ => component == G.2.2.1 1 | _ => false) = some (G.2.2.1 5)
def am_Kn (G : am_G) (s : State) : Prop := va_K G.2.2.2 vwCl (am_tys G) s ∧ (∀ w ∈ am_nw, va_Nw w s) ∧ am_LL G s ∧ va_AO RX6 s ∧ va_AO RX8 s
theorem am_LL.moved {G : am_G} {u U : State} (hvm : u.vm.Alike U.vm) (h : am_LL G u) : am_LL G U := by
  obtain ⟨kA, kJ, h1, h2, h3, h4⟩ := h
  obtain ⟨k', hk', he⟩ := hvm.2.2 _ _ h1
  obtain ⟨k2, hk2, -⟩ := hvm.2.2 _ _ h3
  refine ⟨k', k2, hk', by rw [he]; exact h2, hk2, ?_⟩
  rw [hvm.findIdx?_eq _ (fun _ => rfl)]
  exact h4
theorem am_Kn.warm {G : am_G} {s U : State} (hW : s.WarmedH U.vm) (h : am_Kn G s) : am_Kn G U := by
  refine ⟨va_K.moved hW.alike h.1, fun w hw => ?_, h.2.2.1.moved hW.alike, h.2.2.2.1.moved hW.alike, h.2.2.2.2.moved hW.alike⟩
  have h1 := h.2.1 w hw
  have h2 := (List.mem_filter.mp hw).2
  cases w <;> simp [am_isN] at h2
  exact va_Nw.warmM hW h1
theorem am_Kn.vm {G : am_G} {s U : State} (e : s.vm = U.vm) (h : am_Kn G s) : am_Kn G U := by
  have hal : s.vm.Alike U.vm := by rw [e]; exact Vm.Alike.refl _
  refine ⟨va_K.moved hal h.1, fun w hw => ?_, h.2.2.1.moved hal, h.2.2.2.1.moved hal, h.2.2.2.2.moved hal⟩
  have h1 := h.2.1 w hw
  have h2 := (List.mem_filter.mp hw).2
  cases w <;> simp [am_isN] at h2
  exact va_Nw.same rfl e h1
def am_Cx (G : am_G) (own : String) (cc : ByteArray) (nL : Nat) (ret : Option FieldType) (nm : String) (p : Program) (s : State) (m : MethodId) (args : Array Value) (meth : Method) (c : Code) : Prop :=
  p.tables.exec = Jvm.exec ∧ c.code = cc ∧ c.maxLocals = nL ∧ s.vm.findClass own = some m.cls ∧ (∀ w ∈ am_ws, w.before args s = true) ∧ meth.sig.returnType = ret ∧ meth.locks = false ∧ meth.name = nm ∧ am_Kn G s ∧ G.1 ≤ s.heap.size
def am_V (G : am_G) (nL : Nat) (p : Program) (l : Launch) (e : Env) (R : Room) (s : State) (m : MethodId) (args : Array Value) (below : List Frame) (meth : Method) (c : Code) (c0 w0 : Nat) (Q : State → Prop) (pc : Nat) (lv st : List Value) (M : am_M) : Prop :=
  ∀ (H : Heap) (locs : List Loc) (ls : Array Slot) (kc ks : Nat), am_R G M H → va_S (fun q => G.1 ≤ q) s.heap H locs → am_L G nL ls lv → mC M = c0 + kc → mW M = w0 + ks → W p l e R s m args below meth c H locs kc ks Q (F0 m pc ls (st.map (am_v G)))
/-- a step that goes on in its own method -/
def am_Snd1 (own : String) (cc : ByteArray) (nL : Nat) (ret : Option FieldType) (nm : String) (pc : Nat) (f : am_F) : Prop :=
  ∀ (lv st : List Value) (M : am_M) (pc' : Nat) (lv' st' : List Value) (M' : am_M), f lv st M = some (pc', lv', st', M') → (mC M ≤ mC M' ∧ mW M ≤ mW M') ∧
    ∀ (G : am_G) (p : Program) (l : Launch) (e : Env) (R : Room) (s : State) (m : MethodId) (args : Array Value) (below : List Frame) (meth : Method) (c : Code) (c0 w0 : Nat) (Q : State → Prop), am_Cx G own cc nL ret nm p s m args meth c → mC M' ≤ c0 + R.cells → mW M' ≤ w0 + R.slots → 1 ≤ R.frames → 64 ≤ R.locals → am_V G nL p l e R s m args below meth c c0 w0 Q pc' lv' st' M' → am_V G nL p l e R s m args below meth c c0 w0 Q pc lv st M
abbrev am_free (G : am_G) : Nat → Prop := fun q => G.1 ≤ q
/-- a contract out of AM: the method, called with as at M, answers r and leaves M2 -/
def am_Pc (G : am_G) (as : List Value) (M : am_M) : Array Value → State → Prop := fun v U => v = (as.map (am_v G)).toArray ∧ am_R G M U.heap ∧ am_Kn G U
def am_Qc (G : am_G) (r : Option Value) (M2 : am_M) : Array Value → State → Outcome → State → Prop := fun _ st o t => o = .returned (r.map (am_v G)) ∧ am_R G M2 t.heap ∧ va_F (am_free G) st t
def am_rm (d mc ms : Nat) : Room := { frames := d + 1, cells := mc, slots := ms, locals := 64 * (d + 1) }
def am_Met (P : Nat → am_Y) (G : am_G) (l : Launch) (y d : Nat) (as : List Value) (M : am_M) (r : Option Value) (M2 : am_M) : Prop :=
  Met l (P y).1 (.code (P y).1 (P y).2.1 (P y).2.2.1 (P y).2.2.2.1 :: am_ws) (am_rm d (mC M2 - mC M) (mW M2 - mW M)) (am_Pc G as M) (am_Qc G r M2) (mC M2 - mC M) (mW M2 - mW M) (am_free G)
/-- arguments that a method can take -/
def am_aok (P : Nat → am_Y) (y : Nat) (as : List Value) : Prop := (am_en as).length ≤ (P y).2.2.1 ∧ ∀ v ∈ as, am_flo v = false
def am_Snd (P : Nat → am_Y) (own : String) (cc : ByteArray) (nL : Nat) (ret : Option FieldType) (nm : String) (pc : Nat) (act : am_Act) : Prop :=
  ∀ (lv st : List Value) (M : am_M),
  (∀ (pc' : Nat) (lv' st' : List Value) (M' : am_M), act lv st M = some (.inl (pc', lv', st', M')) → (mC M ≤ mC M' ∧ mW M ≤ mW M') ∧
    ∀ (G : am_G) (p : Program) (l : Launch) (e : Env) (R : Room) (s : State) (m : MethodId) (args : Array Value) (below : List Frame) (meth : Method) (c : Code) (c0 w0 : Nat) (Q : State → Prop), am_Cx G own cc nL ret nm p s m args meth c → mC M' ≤ c0 + R.cells → mW M' ≤ w0 + R.slots → 1 ≤ R.frames → 64 ≤ R.locals → am_V G nL p l e R s m args below meth c c0 w0 Q pc' lv' st' M' → am_V G nL p l e R s m args below meth c c0 w0 Q pc lv st M) ∧
  (∀ (v : Option Value) (M' : am_M), act lv st M = some (.inr (.inl (v, M'))) → M' = M ∧
    ∀ (G : am_G) (p : Program) (l : Launch) (e : Env) (R : Room) (s : State) (m : MethodId) (args : Array Value) (below : List Frame) (meth : Method) (c : Code) (c0 w0 : Nat) (Qc : Array Value → State → Outcome → State → Prop) (mc ms : Nat), am_Cx G own cc nL ret nm p s m args meth c → mC M = c0 + mc → mW M = w0 + ms → (∀ (t : State), s.WarmedH t.vm → am_R G M t.heap → va_F (am_free G) s t → Qc args s (.returned (v.map (am_v G))) t) → am_V G nL p l e R s m args below meth c c0 w0 (MQ below Qc args s mc ms (am_free G)) pc lv st M) ∧
  (∀ (y : Nat) (as : List Value) (pc' : Nat) (lv' st' : List Value) (M' : am_M), act lv st M = some (.inr (.inr (y, as, pc', lv', st', M'))) → M' = M ∧ am_aok P y as ∧
    ∀ (G : am_G) (p : Program) (l : Launch) (e : Env) (R : Room) (s : State) (m : MethodId) (args : Array Value) (below : List Frame) (meth : Method) (c : Code) (c0 w0 d : Nat) (r : Option Value) (M2 : am_M) (Q : State → Prop), am_Cx G own cc nL ret nm p s m args meth c → am_Met P G l y d as M r M2 → mC M ≤ mC M2 → mW M ≤ mW M2 → mC M2 ≤ c0 + R.cells → mW M2 ≤ w0 + R.slots → d + 2 ≤ R.frames → 64 * (d + 2) ≤ R.locals → am_V G nL p l e R s m args below meth c c0 w0 Q pc' lv' (am_push r st') M2 → am_V G nL p l e R s m args below meth c c0 w0 Q pc lv st M)
theorem am_Snd1.to {P : Nat → am_Y} {own : String} {cc : ByteArray} {nL : Nat} {ret : Option FieldType} {nm : String} {pc : Nat} {f : am_F} (h : am_Snd1 own cc nL ret nm pc f) : am_Snd P own cc nL ret nm pc (k_nx f) := by
  intro lv st M
  refine ⟨fun pc' lv' st' M' he => ?_, fun v M' he => ?_, fun y as pc' lv' st' M' he => ?_⟩
  · unfold k_nx at he
    cases hf : f lv st M with
    | none => rw [hf] at he; cases he
    | some x => rw [hf] at he; cases he; exact h lv st M pc' lv' st' M' hf
  · unfold k_nx at he
    cases hf : f lv st M with
    | none => rw [hf] at he; cases he
    | some x => rw [hf] at he; cases he
  · unfold k_nx at he
    cases hf : f lv st M with
    | none => rw [hf] at he; cases he
    | some x => rw [hf] at he; cases he
/-- a method of the program whose every instruction the machine follows -/
def am_SndM (P : Nat → am_Y) (y : Nat) : Prop := ∀ (pc : Nat), am_Snd P (P y).1.cls (P y).2.1 (P y).2.2.1 (P y).2.2.2.1 (P y).1.name pc ((P y).2.2.2.2 pc)
/-- cells and slots only grow -/
theorem am_run_grows {P : Nat → am_Y} (hP : ∀ y, am_SndM P y) : ∀ (n d : Nat) (own : String) (cc : ByteArray) (nL : Nat) (ret : Option FieldType) (nm : String) (c : am_Code) (pc : Nat) (lv st : List Value) (M : am_M) (r : Option Value) (M2 : am_M), (∀ pc, am_Snd P own cc nL ret nm pc (c pc)) → am_run P n d c pc lv st M = some (r, M2) → mC M ≤ mC M2 ∧ mW M ≤ mW M2 := by
  intro n
  induction n with
  | zero => intro d own cc nL ret nm c pc lv st M r M2 hc h; simp [am_run] at h
  | succ n ih =>
    intro d own cc nL ret nm c pc lv st M r M2 hc h
    rw [am_run] at h
    split at h
    · cases h
    · rename_i heq
      have h1 := ((hc pc lv st M).1 _ _ _ _ heq).1
      have h2 := ih _ own cc nL ret nm _ _ _ _ _ _ _ hc h
      exact ⟨Nat.le_trans h1.1 h2.1, Nat.le_trans h1.2 h2.2⟩
    · rename_i heq
      have h1 := ((hc pc lv st M).2.1 _ _ heq).1
      cases h
      rw [h1]
      exact ⟨Nat.le_refl _, Nat.le_refl _⟩
    · rename_i heq
      have h1 := ((hc pc lv st M).2.2 _ _ _ _ _ _ heq).1
      subst h1
      cases d with
      | zero => cases h
      | succ d' =>
        dsimp only at h
        split at h
        · cases h
        · rename_i r2 M3 h3
          have h4 := ih d' _ _ _ _ _ _ _ _ _ _ _ _ (hP _) h3
          have h2 := ih _ own cc nL ret nm _ _ _ _ _ _ _ hc h
          exact ⟨Nat.le_trans h4.1 h2.1, Nat.le_trans h4.2 h2.2⟩
/-- the machine follows a run: what a run that ends in M2 with r needs at its end is enough at its beginning -/
theorem am_run_V {P : Nat → am_Y} (hP : ∀ y, am_SndM P y) {G : am_G} {l : Launch} {d0 : Nat} (hmet : ∀ (n d y : Nat) (as : List Value) (M : am_M) (r : Option Value) (M2 : am_M), d < d0 → am_aok P y as → am_run P n d (P y).2.2.2.2 0 (am_pad (P y).2.2.1 (am_en as)) [] M = some (r, M2) → am_Met P G l y d as M r M2)
    {own : String} {cc : ByteArray} {nL : Nat} {ret : Option FieldType} {nm : String} {ac : am_Code} (hc : ∀ pc, am_Snd P own cc nL ret nm pc (ac pc)) {p : Program} {e : Env} {R : Room} {s : State} {m : MethodId} {args : Array Value} {below : List Frame} {meth : Method} {c : Code} {c0 w0 : Nat} {Q : State → Prop} (hC : am_Cx G own cc nL ret nm p s m args meth c)
    {r : Option Value} {M2 : am_M} (hc2 : mC M2 ≤ c0 + R.cells) (hw2 : mW M2 ≤ w0 + R.slots) (hend : ∀ (pc : Nat) (lv st : List Value), ac pc lv st M2 = some (.inr (.inl (r, M2))) → am_V G nL p l e R s m args below meth c c0 w0 Q pc lv st M2) :
    ∀ (n d : Nat) (pc : Nat) (lv st : List Value) (M : am_M), d ≤ d0 → am_run P n d ac pc lv st M = some (r, M2) → d + 1 ≤ R.frames → 64 * (d + 1) ≤ R.locals → am_V G nL p l e R s m args below meth c c0 w0 Q pc lv st M := by
  intro n
  induction n with
  | zero => intro d pc lv st M _ h; simp [am_run] at h
  | succ n ih =>
    intro d pc lv st M hd h hfr hlo
    rw [am_run] at h
    split at h
    · cases h
    · rename_i pc' lv' st' M' heq
      obtain ⟨h1, h2⟩ := (hc pc lv st M).1 _ _ _ _ heq
      have h3 := am_run_grows hP n d own cc nL ret nm ac _ _ _ _ _ _ hc h
      exact h2 G p l e R s m args below meth c c0 w0 Q hC (Nat.le_trans h3.1 hc2) (Nat.le_trans h3.2 hw2) (by omega) (by omega) (ih d _ _ _ _ hd h hfr hlo)
    · rename_i v M' heq
      have h1 := ((hc pc lv st M).2.1 _ _ heq).1
      cases h
      subst h1
      exact hend pc lv st heq
    · rename_i y as pc' lv' st' M' heq
      obtain ⟨h1, h0, h2⟩ := (hc pc lv st M).2.2 _ _ _ _ _ _ heq
      subst h1
      cases d with
      | zero => cases h
      | succ d' =>
        dsimp only at h
        split at h
        · cases h
        · rename_i r2 M3 h3
          have h4 := am_run_grows hP n d' _ _ _ _ _ _ _ _ _ _ _ _ (hP _) h3
          have h5 := am_run_grows hP n (d' + 1) own cc nL ret nm ac _ _ _ _ _ _ hc h
          exact h2 G p l e R s m args below meth c c0 w0 d' r2 M3 Q hC (hmet n d' _ _ _ _ _ (by omega) h0 h3) h4.1 h4.2 (Nat.le_trans h5.1 hc2) (Nat.le_trans h5.2 hw2) (by omega) (by omega) (ih (d' + 1) _ _ _ _ hd h hfr hlo)
end
section
/-! AM's steps that leave memory as it is, and that the machine follows them -/
def a_c (v : Value) (nx : Nat) : am_F := fun lv st M => some (nx, lv, v :: st, M)
def a_ild (k nx : Nat) : am_F := fun lv st M => match lv[k]? with
  | some (.int x) => some (nx, lv, .int x :: st, M)
  | _ => none
def a_lld (k nx : Nat) : am_F := fun lv st M => match lv[k]? with
  | some (.long x) => some (nx, lv, .long x :: st, M)
  | _ => none
def a_ald (k nx : Nat) : am_F := fun lv st M => match lv[k]? with
  | some (.ref x) => some (nx, lv, .ref x :: st, M)
  | some .null => some (nx, lv, .null :: st, M)
  | some (.retAddr z) => some (nx, lv, .retAddr z :: st, M)
  | _ => none
def a_ist (k nx : Nat) : am_F := fun lv st M => match st with
  | .int x :: st' => some (nx, am_st lv k (.int x), st', M)
  | _ => none
def a_lst (k nx : Nat) : am_F := fun lv st M => match st with
  | .long x :: st' => some (nx, (am_st lv k (.long x)).set (k + 1) am_x, st', M)
  | _ => none
def a_ast (k nx : Nat) : am_F := fun lv st M => match st with
  | .ref x :: st' => some (nx, am_st lv k (.ref x), st', M)
  | .null :: st' => some (nx, am_st lv k .null, st', M)
  | _ => none
def a_inc (k : Nat) (d : Int32) (nx : Nat) : am_F := fun lv st M => match lv[k]? with
  | some (.int x) => some (nx, am_st lv k (.int (x + d)), st, M)
  | _ => none
def a_bi (f : Int32 → Int32 → Int32) (nx : Nat) : am_F := fun lv st M => match st with
  | .int y :: .int x :: st' => some (nx, lv, .int (f x y) :: st', M)
  | _ => none
def a_bd (f : Int32 → Int32 → Int32) (nx : Nat) : am_F := fun lv st M => match st with
  | .int y :: .int x :: st' => if y = 0 then none else some (nx, lv, .int (f x y) :: st', M)
  | _ => none
def a_ui (f : Int32 → Int32) (nx : Nat) : am_F := fun lv st M => match st with
  | .int x :: st' => some (nx, lv, .int (f x) :: st', M)
  | _ => none
def a_bl (f : Int64 → Int64 → Int64) (nx : Nat) : am_F := fun lv st M => match st with
  | .long y :: .long x :: st' => some (nx, lv, .long (f x y) :: st', M)
  | _ => none
def a_bm (f : Int64 → Int64 → Int64) (nx : Nat) : am_F := fun lv st M => match st with
  | .long y :: .long x :: st' => if y = 0 then none else some (nx, lv, .long (f x y) :: st', M)
  | _ => none
def a_ls (f : Int64 → Int32 → Int64) (nx : Nat) : am_F := fun lv st M => match st with
  | .int y :: .long x :: st' => some (nx, lv, .long (f x y) :: st', M)
  | _ => none
def a_i2l (nx : Nat) : am_F := fun lv st M => match st with
  | .int x :: st' => some (nx, lv, .long x.toInt64 :: st', M)
  | _ => none
def a_l2i (nx : Nat) : am_F := fun lv st M => match st with
  | .long x :: st' => some (nx, lv, .int x.toInt32 :: st', M)
  | _ => none
def a_lcmp (nx : Nat) : am_F := fun lv st M => match st with
  | .long y :: .long x :: st' => some (nx, lv, .int (lg_cmp x y) :: st', M)
  | _ => none
def a_dup (nx : Nat) : am_F := fun lv st M => match st with
  | v :: st' => if v.category = 1 then some (nx, lv, v :: v :: st', M) else none
  | _ => none
def a_dup2 (nx : Nat) : am_F := fun lv st M => match st with
  | v :: w :: st' => if v.category = 1 ∧ w.category = 1 then some (nx, lv, v :: w :: v :: w :: st', M) else none
  | _ => none
def a_dup2l (nx : Nat) : am_F := fun lv st M => match st with
  | .long x :: st' => some (nx, lv, .long x :: .long x :: st', M)
  | _ => none
def a_pop (nx : Nat) : am_F := fun lv st M => match st with
  | v :: st' => if v.category = 1 then some (nx, lv, st', M) else none
  | _ => none
def a_if (b : Int32 → Bool) (tg nx : Nat) : am_F := fun lv st M => match st with
  | .int x :: st' => some (if b x = true then tg else nx, lv, st', M)
  | _ => none
def a_icmp (b : Int32 → Int32 → Bool) (tg nx : Nat) : am_F := fun lv st M => match st with
  | .int y :: .int x :: st' => some (if b x y = true then tg else nx, lv, st', M)
  | _ => none
def a_goto (tg : Nat) : am_F := fun lv st M => some (tg, lv, st, M)
def a_ifnn (tg nx : Nat) : am_F := fun lv st M => match st with
  | .null :: st' => some (nx, lv, st', M)
  | .ref _ :: st' => some (tg, lv, st', M)
  | _ => none
def a_sw (t : Int32 → Nat) : am_F := fun lv st M => match st with
  | .int x :: st' => some (t x, lv, st', M)
  | _ => none
section
variable {own : String} {cc : ByteArray} {nL : Nat} {ret : Option FieldType} {nm : String} {pc : Nat}
theorem am_s0 {f : am_F} (h : ∀ (lv st : List Value) (M : am_M) (pc' : Nat) (lv' st' : List Value) (M' : am_M), f lv st M = some (pc', lv', st', M') → lv' = lv ∧ M' = M ∧
    ∀ (G : am_G) (p : Program) (l : Launch) (e : Env) (R : Room) (s : State) (m : MethodId) (args : Array Value) (below : List Frame) (meth : Method) (c : Code) (H : Heap) (locs : List Loc) (ls : Array Slot) (kc ks : Nat) (Q : State → Prop), am_Cx G own cc nL ret nm p s m args meth c → am_L G nL ls lv → W p l e R s m args below meth c H locs kc ks Q (F0 m pc' ls (st'.map (am_v G))) → W p l e R s m args below meth c H locs kc ks Q (F0 m pc ls (st.map (am_v G)))) : am_Snd1 own cc nL ret nm pc f := by
  intro lv st M pc' lv' st' M' he
  obtain ⟨rfl, rfl, h3⟩ := h lv st M pc' lv' st' M' he
  refine ⟨⟨Nat.le_refl _, Nat.le_refl _⟩, ?_⟩
  intro G p l e R s m args below meth c c0 w0 Q hC _ _ _ _ hV H locs ls kc ks hR hS hL hkc hks
  exact h3 G p l e R s m args below meth c H locs ls kc ks Q hC hL (hV H locs ls kc ks hR hS hL hkc hks)
theorem s_iconst {n : Int} {v : Int32} (hdg : decode cc pc = .ok (.iconst n, 1)) (hv : Int32.ofInt n = v) : am_Snd1 own cc nL ret nm pc (a_c (.int v) (pc + 1)) := by
  refine am_s0 fun lv st M pc' lv' st' M' he => ?_
  cases he
  exact ⟨rfl, rfl, fun G p l e R s m args below meth c H locs ls kc ks Q hC hL k => lv_iconst hC.1 hC.2.1 hdg hv k⟩
theorem s_bipush {n : Int} {v : Int32} (hdg : decode cc pc = .ok (.bipush n, 2)) (hv : (Int8.ofInt n).toInt32 = v) : am_Snd1 own cc nL ret nm pc (a_c (.int v) (pc + 2)) := by
  refine am_s0 fun lv st M pc' lv' st' M' he => ?_
  cases he
  exact ⟨rfl, rfl, fun G p l e R s m args below meth c H locs ls kc ks Q hC hL k => lv_bipush hC.1 hC.2.1 hdg hv k⟩
theorem s_sipush {n : Int} {v : Int32} (hdg : decode cc pc = .ok (.sipush n, 3)) (hv : (Int16.ofInt n).toInt32 = v) : am_Snd1 own cc nL ret nm pc (a_c (.int v) (pc + 3)) := by
  refine am_s0 fun lv st M pc' lv' st' M' he => ?_
  cases he
  exact ⟨rfl, rfl, fun G p l e R s m args below meth c H locs ls kc ks Q hC hL k => lv_sipush hC.1 hC.2.1 hdg hv k⟩
theorem s_lconst {n : Fin 2} {v : Int64} (hdg : decode cc pc = .ok (.lconst n, 1)) (hv : Int64.ofNat (n : Nat) = v) : am_Snd1 own cc nL ret nm pc (a_c (.long v) (pc + 1)) := by
  refine am_s0 fun lv st M pc' lv' st' M' he => ?_
  cases he
  exact ⟨rfl, rfl, fun G p l e R s m args below meth c H locs ls kc ks Q hC hL k => lv_lconst hC.1 hC.2.1 hdg hv k⟩
theorem s_ldc2 {i : Nat} {v : Int64} (hdg : decode cc pc = .ok (.ldc2_w i, 3)) (hw : Cond.constantLong own i v ∈ am_ws) : am_Snd1 own cc nL ret nm pc (a_c (.long v) (pc + 3)) := by
  refine am_s0 fun lv st M pc' lv' st' M' he => ?_
  cases he
  exact ⟨rfl, rfl, fun G p l e R s m args below meth c H locs ls kc ks Q hC hL k => lv_ldc2 hC.1 hC.2.1 hC.2.2.2.1 (hC.2.2.2.2.1 _ hw) hdg k⟩
theorem s_ldc {i : Nat} {v : Int32} (hdg : decode cc pc = .ok (.ldc i, 2)) (hw : Cond.constant own i v ∈ am_ws) : am_Snd1 own cc nL ret nm pc (a_c (.int v) (pc + 2)) := by
  refine am_s0 fun lv st M pc' lv' st' M' he => ?_
  cases he
  exact ⟨rfl, rfl, fun G p l e R s m args below meth c H locs ls kc ks Q hC hL k => lv_ldc hC.1 hC.2.1 hC.2.2.2.1 (hC.2.2.2.2.1 _ hw) hdg k⟩
theorem s_iloadn {k : Fin 4} {i : Nat} (hdg : decode cc pc = .ok (.iload_n k, 1)) (hi : (k : Nat) = i) : am_Snd1 own cc nL ret nm pc (a_ild i (pc + 1)) := by
  refine am_s0 fun lv st M pc' lv' st' M' he => ?_
  unfold a_ild at he
  split at he <;> cases he
  rename_i x hx
  exact ⟨rfl, rfl, fun G p l e R s m args below meth c H locs ls kc ks Q hC hL k => lv_iload_n hC.1 hC.2.1 hdg hi (hL.2.2.2 _ _ hx rfl) k⟩
theorem s_iload {i : Nat} (hdg : decode cc pc = .ok (.iload i, 2)) : am_Snd1 own cc nL ret nm pc (a_ild i (pc + 2)) := by
  refine am_s0 fun lv st M pc' lv' st' M' he => ?_
  unfold a_ild at he
  split at he <;> cases he
  rename_i x hx
  exact ⟨rfl, rfl, fun G p l e R s m args below meth c H locs ls kc ks Q hC hL k => lv_iload hC.1 hC.2.1 hdg (hL.2.2.2 _ _ hx rfl) k⟩
theorem s_lloadn {k : Fin 4} {i : Nat} (hdg : decode cc pc = .ok (.lload_n k, 1)) (hi : (k : Nat) = i) : am_Snd1 own cc nL ret nm pc (a_lld i (pc + 1)) := by
  refine am_s0 fun lv st M pc' lv' st' M' he => ?_
  unfold a_lld at he
  split at he <;> cases he
  rename_i x hx
  exact ⟨rfl, rfl, fun G p l e R s m args below meth c H locs ls kc ks Q hC hL k => lv_lload_n hC.1 hC.2.1 hdg hi (hL.2.2.2 _ _ hx rfl) k⟩
theorem s_lload {i : Nat} (hdg : decode cc pc = .ok (.lload i, 2)) : am_Snd1 own cc nL ret nm pc (a_lld i (pc + 2)) := by
  refine am_s0 fun lv st M pc' lv' st' M' he => ?_
  unfold a_lld at he
  split at he <;> cases he
  rename_i x hx
  exact ⟨rfl, rfl, fun G p l e R s m args below meth c H locs ls kc ks Q hC hL k => lv_lload hC.1 hC.2.1 hdg (hL.2.2.2 _ _ hx rfl) k⟩
theorem s_aloadn {k : Fin 4} {i : Nat} (hdg : decode cc pc = .ok (.aload_n k, 1)) (hi : (k : Nat) = i) : am_Snd1 own cc nL ret nm pc (a_ald i (pc + 1)) := by
  refine am_s0 fun lv st M pc' lv' st' M' he => ?_
  unfold a_ald at he
  split at he <;> cases he
  · rename_i x hx
    exact ⟨rfl, rfl, fun G p l e R s m args below meth c H locs ls kc ks Q hC hL k => lv_aload_n hC.1 hC.2.1 hdg hi (hL.2.2.2 _ _ hx rfl) k⟩
  · rename_i hx
    exact ⟨rfl, rfl, fun G p l e R s m args below meth c H locs ls kc ks Q hC hL k => lv_aload_nN hC.1 hC.2.1 hdg hi (hL.2.2.2 _ _ hx rfl) k⟩
  · rename_i x hx
    exact ⟨rfl, rfl, fun G p l e R s m args below meth c H locs ls kc ks Q hC hL k => lv_aload_n hC.1 hC.2.1 hdg hi (hL.2.2.2 _ _ hx rfl) k⟩
theorem s_aload {i : Nat} (hdg : decode cc pc = .ok (.aload i, 2)) : am_Snd1 own cc nL ret nm pc (a_ald i (pc + 2)) := by
  refine am_s0 fun lv st M pc' lv' st' M' he => ?_
  unfold a_ald at he
  split at he <;> cases he
  · rename_i x hx
    exact ⟨rfl, rfl, fun G p l e R s m args below meth c H locs ls kc ks Q hC hL k => lv_aload hC.1 hC.2.1 hdg (hL.2.2.2 _ _ hx rfl) k⟩
  · rename_i hx
    exact ⟨rfl, rfl, fun G p l e R s m args below meth c H locs ls kc ks Q hC hL k => lv_aloadN hC.1 hC.2.1 hdg (hL.2.2.2 _ _ hx rfl) k⟩
  · rename_i x hx
    exact ⟨rfl, rfl, fun G p l e R s m args below meth c H locs ls kc ks Q hC hL k => lv_aload hC.1 hC.2.1 hdg (hL.2.2.2 _ _ hx rfl) k⟩
theorem am_s1 {f : am_F} (h : ∀ (lv st : List Value) (M : am_M) (pc' : Nat) (lv' st' : List Value) (M' : am_M), f lv st M = some (pc', lv', st', M') → M' = M ∧
    ∀ (G : am_G) (p : Program) (l : Launch) (e : Env) (R : Room) (s : State) (m : MethodId) (args : Array Value) (below : List Frame) (meth : Method) (c : Code) (H : Heap) (locs : List Loc) (ls : Array Slot) (kc ks : Nat) (Q : State → Prop), am_Cx G own cc nL ret nm p s m args meth c → am_L G nL ls lv → (∀ ls' : Array Slot, am_L G nL ls' lv' → W p l e R s m args below meth c H locs kc ks Q (F0 m pc' ls' (st'.map (am_v G)))) → W p l e R s m args below meth c H locs kc ks Q (F0 m pc ls (st.map (am_v G)))) : am_Snd1 own cc nL ret nm pc f := by
  intro lv st M pc' lv' st' M' he
  obtain ⟨rfl, h3⟩ := h lv st M pc' lv' st' M' he
  refine ⟨⟨Nat.le_refl _, Nat.le_refl _⟩, ?_⟩
  intro G p l e R s m args below meth c c0 w0 Q hC _ _ _ _ hV H locs ls kc ks hR hS hL hkc hks
  exact h3 G p l e R s m args below meth c H locs ls kc ks Q hC hL (fun ls' hL' => hV H locs ls' kc ks hR hS hL' hkc hks)
theorem s_istoren {k : Fin 4} {i : Nat} (hdg : decode cc pc = .ok (.istore_n k, 1)) (hi : (k : Nat) = i) (hn : i < nL) : am_Snd1 own cc nL ret nm pc (a_ist i (pc + 1)) := by
  refine am_s1 fun lv st M pc' lv' st' M' he => ?_
  unfold a_ist at he
  split at he <;> cases he
  exact ⟨rfl, fun G p l e R s m args below meth c H locs ls kc ks Q hC hL k => lv_istore_n hC.1 hC.2.1 hdg hi hL.has hn rfl (fun ls' h' => k ls' (hL.put h'))⟩
theorem s_istore {i : Nat} (hdg : decode cc pc = .ok (.istore i, 2)) (hn : i < nL) : am_Snd1 own cc nL ret nm pc (a_ist i (pc + 2)) := by
  refine am_s1 fun lv st M pc' lv' st' M' he => ?_
  unfold a_ist at he
  split at he <;> cases he
  exact ⟨rfl, fun G p l e R s m args below meth c H locs ls kc ks Q hC hL k => lv_istore hC.1 hC.2.1 hdg hL.has hn rfl (fun ls' h' => k ls' (hL.put h'))⟩
theorem s_lstoren {k : Fin 4} {i : Nat} (hdg : decode cc pc = .ok (.lstore_n k, 1)) (hi : (k : Nat) = i) (hn : i + 1 < nL) : am_Snd1 own cc nL ret nm pc (a_lst i (pc + 1)) := by
  refine am_s1 fun lv st M pc' lv' st' M' he => ?_
  unfold a_lst at he
  split at he <;> cases he
  exact ⟨rfl, fun G p l e R s m args below meth c H locs ls kc ks Q hC hL k => lv_lstore_n hC.1 hC.2.1 hdg hi hL.has hn rfl (fun ls' h' => k ls' (hL.put2 h'))⟩
theorem s_lstore {i : Nat} (hdg : decode cc pc = .ok (.lstore i, 2)) (hn : i + 1 < nL) : am_Snd1 own cc nL ret nm pc (a_lst i (pc + 2)) := by
  refine am_s1 fun lv st M pc' lv' st' M' he => ?_
  unfold a_lst at he
  split at he <;> cases he
  exact ⟨rfl, fun G p l e R s m args below meth c H locs ls kc ks Q hC hL k => lv_lstore hC.1 hC.2.1 hdg hL.has hn rfl (fun ls' h' => k ls' (hL.put2 h'))⟩
theorem s_astoren {k : Fin 4} {i : Nat} (hdg : decode cc pc = .ok (.astore_n k, 1)) (hi : (k : Nat) = i) (hn : i < nL) : am_Snd1 own cc nL ret nm pc (a_ast i (pc + 1)) := by
  refine am_s1 fun lv st M pc' lv' st' M' he => ?_
  unfold a_ast at he
  split at he <;> cases he
  · exact ⟨rfl, fun G p l e R s m args below meth c H locs ls kc ks Q hC hL k => lv_astore_n hC.1 hC.2.1 hdg hi hL.has hn rfl (fun ls' h' => k ls' (hL.put h'))⟩
  · exact ⟨rfl, fun G p l e R s m args below meth c H locs ls kc ks Q hC hL k => lv_astore_nN hC.1 hC.2.1 hdg hi hL.has hn rfl (fun ls' h' => k ls' (hL.put h'))⟩
theorem s_astore {i : Nat} (hdg : decode cc pc = .ok (.astore i, 2)) (hn : i < nL) : am_Snd1 own cc nL ret nm pc (a_ast i (pc + 2)) := by
  refine am_s1 fun lv st M pc' lv' st' M' he => ?_
  unfold a_ast at he
  split at he <;> cases he
  · exact ⟨rfl, fun G p l e R s m args below meth c H locs ls kc ks Q hC hL k => lv_astore hC.1 hC.2.1 hdg hL.has hn rfl (fun ls' h' => k ls' (hL.put h'))⟩
  · exact ⟨rfl, fun G p l e R s m args below meth c H locs ls kc ks Q hC hL k => lv_astoreN hC.1 hC.2.1 hdg hL.has hn rfl (fun ls' h' => k ls' (hL.put h'))⟩
theorem s_iinc {i : Nat} {n : Int} {d : Int32} (hdg : decode cc pc = .ok (.iinc i n, 3)) (hd : Int32.ofInt n = d) (hn : i < nL) : am_Snd1 own cc nL ret nm pc (a_inc i d (pc + 3)) := by
  refine am_s1 fun lv st M pc' lv' st' M' he => ?_
  unfold a_inc at he
  split at he <;> cases he
  rename_i x hx
  refine ⟨rfl, fun G p l e R s m args below meth c H locs ls kc ks Q hC hL k => ?_⟩
  obtain ⟨j, hj⟩ := List.getElem?_of_mem (am_al_mem.mpr ⟨_, hx, rfl, rfl⟩ : (i, am_v G (.int x)) ∈ am_al G lv)
  exact lv_iinc hC.1 hC.2.1 hdg hL.has hj (by rw [hd]) hn rfl (fun ls' h' => k ls' (hL.put h'))
end
end
section
/-! arithmetic, stack, branches -/
section
variable {own : String} {cc : ByteArray} {nL : Nat} {ret : Option FieldType} {nm : String} {pc : Nat}
theorem s_iadd (hdg : decode cc pc = .ok (.iadd, 1)) : am_Snd1 own cc nL ret nm pc (a_bi (fun x y => x + y) (pc + 1)) := by
  refine am_s0 fun lv st M pc' lv' st' M' he => ?_
  unfold a_bi at he
  split at he <;> cases he
  exact ⟨rfl, rfl, fun G p l e R s m args below meth c H locs ls kc ks Q hC hL k => lv_iadd hC.1 hC.2.1 hdg k⟩
theorem s_isub (hdg : decode cc pc = .ok (.isub, 1)) : am_Snd1 own cc nL ret nm pc (a_bi (fun x y => x - y) (pc + 1)) := by
  refine am_s0 fun lv st M pc' lv' st' M' he => ?_
  unfold a_bi at he
  split at he <;> cases he
  exact ⟨rfl, rfl, fun G p l e R s m args below meth c H locs ls kc ks Q hC hL k => lv_isub hC.1 hC.2.1 hdg k⟩
theorem s_imul (hdg : decode cc pc = .ok (.imul, 1)) : am_Snd1 own cc nL ret nm pc (a_bi (fun x y => x * y) (pc + 1)) := by
  refine am_s0 fun lv st M pc' lv' st' M' he => ?_
  unfold a_bi at he
  split at he <;> cases he
  exact ⟨rfl, rfl, fun G p l e R s m args below meth c H locs ls kc ks Q hC hL k => lv_imul hC.1 hC.2.1 hdg k⟩
theorem s_iand (hdg : decode cc pc = .ok (.iand, 1)) : am_Snd1 own cc nL ret nm pc (a_bi (fun x y => x &&& y) (pc + 1)) := by
  refine am_s0 fun lv st M pc' lv' st' M' he => ?_
  unfold a_bi at he
  split at he <;> cases he
  exact ⟨rfl, rfl, fun G p l e R s m args below meth c H locs ls kc ks Q hC hL k => lv_iand hC.1 hC.2.1 hdg k⟩
theorem s_ior (hdg : decode cc pc = .ok (.ior, 1)) : am_Snd1 own cc nL ret nm pc (a_bi (fun x y => x ||| y) (pc + 1)) := by
  refine am_s0 fun lv st M pc' lv' st' M' he => ?_
  unfold a_bi at he
  split at he <;> cases he
  exact ⟨rfl, rfl, fun G p l e R s m args below meth c H locs ls kc ks Q hC hL k => lv_ior hC.1 hC.2.1 hdg k⟩
theorem s_ixor (hdg : decode cc pc = .ok (.ixor, 1)) : am_Snd1 own cc nL ret nm pc (a_bi (fun x y => x ^^^ y) (pc + 1)) := by
  refine am_s0 fun lv st M pc' lv' st' M' he => ?_
  unfold a_bi at he
  split at he <;> cases he
  exact ⟨rfl, rfl, fun G p l e R s m args below meth c H locs ls kc ks Q hC hL k => lv_ixor hC.1 hC.2.1 hdg k⟩
theorem s_ishl (hdg : decode cc pc = .ok (.ishl, 1)) : am_Snd1 own cc nL ret nm pc (a_bi (fun x y => x <<< (y &&& 31)) (pc + 1)) := by
  refine am_s0 fun lv st M pc' lv' st' M' he => ?_
  unfold a_bi at he
  split at he <;> cases he
  exact ⟨rfl, rfl, fun G p l e R s m args below meth c H locs ls kc ks Q hC hL k => lv_ishl hC.1 hC.2.1 hdg k⟩
theorem s_ishr (hdg : decode cc pc = .ok (.ishr, 1)) : am_Snd1 own cc nL ret nm pc (a_bi (fun x y => x >>> (y &&& 31)) (pc + 1)) := by
  refine am_s0 fun lv st M pc' lv' st' M' he => ?_
  unfold a_bi at he
  split at he <;> cases he
  exact ⟨rfl, rfl, fun G p l e R s m args below meth c H locs ls kc ks Q hC hL k => lv_ishr hC.1 hC.2.1 hdg k⟩
theorem s_ladd (hdg : decode cc pc = .ok (.ladd, 1)) : am_Snd1 own cc nL ret nm pc (a_bl (fun x y => x + y) (pc + 1)) := by
  refine am_s0 fun lv st M pc' lv' st' M' he => ?_
  unfold a_bl at he
  split at he <;> cases he
  exact ⟨rfl, rfl, fun G p l e R s m args below meth c H locs ls kc ks Q hC hL k => lv_ladd hC.1 hC.2.1 hdg k⟩
theorem s_lsub (hdg : decode cc pc = .ok (.lsub, 1)) : am_Snd1 own cc nL ret nm pc (a_bl (fun x y => x - y) (pc + 1)) := by
  refine am_s0 fun lv st M pc' lv' st' M' he => ?_
  unfold a_bl at he
  split at he <;> cases he
  exact ⟨rfl, rfl, fun G p l e R s m args below meth c H locs ls kc ks Q hC hL k => lv_lsub hC.1 hC.2.1 hdg k⟩
theorem s_lmul (hdg : decode cc pc = .ok (.lmul, 1)) : am_Snd1 own cc nL ret nm pc (a_bl (fun x y => x * y) (pc + 1)) := by
  refine am_s0 fun lv st M pc' lv' st' M' he => ?_
  unfold a_bl at he
  split at he <;> cases he
  exact ⟨rfl, rfl, fun G p l e R s m args below meth c H locs ls kc ks Q hC hL k => lv_lmul hC.1 hC.2.1 hdg k⟩
theorem s_land (hdg : decode cc pc = .ok (.land, 1)) : am_Snd1 own cc nL ret nm pc (a_bl (fun x y => x &&& y) (pc + 1)) := by
  refine am_s0 fun lv st M pc' lv' st' M' he => ?_
  unfold a_bl at he
  split at he <;> cases he
  exact ⟨rfl, rfl, fun G p l e R s m args below meth c H locs ls kc ks Q hC hL k => lv_land hC.1 hC.2.1 hdg k⟩
theorem s_lor (hdg : decode cc pc = .ok (.lor, 1)) : am_Snd1 own cc nL ret nm pc (a_bl (fun x y => x ||| y) (pc + 1)) := by
  refine am_s0 fun lv st M pc' lv' st' M' he => ?_
  unfold a_bl at he
  split at he <;> cases he
  exact ⟨rfl, rfl, fun G p l e R s m args below meth c H locs ls kc ks Q hC hL k => lv_lor hC.1 hC.2.1 hdg k⟩
theorem s_lxor (hdg : decode cc pc = .ok (.lxor, 1)) : am_Snd1 own cc nL ret nm pc (a_bl (fun x y => x ^^^ y) (pc + 1)) := by
  refine am_s0 fun lv st M pc' lv' st' M' he => ?_
  unfold a_bl at he
  split at he <;> cases he
  exact ⟨rfl, rfl, fun G p l e R s m args below meth c H locs ls kc ks Q hC hL k => lv_lxor hC.1 hC.2.1 hdg k⟩
theorem s_idiv (hdg : decode cc pc = .ok (.idiv, 1)) : am_Snd1 own cc nL ret nm pc (a_bd (fun x y => x / y) (pc + 1)) := by
  refine am_s0 fun lv st M pc' lv' st' M' he => ?_
  unfold a_bd at he
  split at he
  · split at he <;> cases he
    rename_i hne
    exact ⟨rfl, rfl, fun G p l e R s m args below meth c H locs ls kc ks Q hC hL k => lv_idiv hC.1 hC.2.1 hdg hne k⟩
  · cases he
theorem s_irem (hdg : decode cc pc = .ok (.irem, 1)) : am_Snd1 own cc nL ret nm pc (a_bd (fun x y => x - x / y * y) (pc + 1)) := by
  refine am_s0 fun lv st M pc' lv' st' M' he => ?_
  unfold a_bd at he
  split at he
  · split at he <;> cases he
    rename_i hne
    exact ⟨rfl, rfl, fun G p l e R s m args below meth c H locs ls kc ks Q hC hL k => lv_irem hC.1 hC.2.1 hdg hne k⟩
  · cases he
theorem s_ldiv (hdg : decode cc pc = .ok (.ldiv, 1)) : am_Snd1 own cc nL ret nm pc (a_bm (fun x y => x / y) (pc + 1)) := by
  refine am_s0 fun lv st M pc' lv' st' M' he => ?_
  unfold a_bm at he
  split at he
  · split at he <;> cases he
    rename_i hne
    exact ⟨rfl, rfl, fun G p l e R s m args below meth c H locs ls kc ks Q hC hL k => lv_ldiv hC.1 hC.2.1 hdg hne k⟩
  · cases he
theorem s_lrem (hdg : decode cc pc = .ok (.lrem, 1)) : am_Snd1 own cc nL ret nm pc (a_bm (fun x y => x - x / y * y) (pc + 1)) := by
  refine am_s0 fun lv st M pc' lv' st' M' he => ?_
  unfold a_bm at he
  split at he
  · split at he <;> cases he
    rename_i hne
    exact ⟨rfl, rfl, fun G p l e R s m args below meth c H locs ls kc ks Q hC hL k => lv_lrem hC.1 hC.2.1 hdg hne k⟩
  · cases he
theorem s_lshl (hdg : decode cc pc = .ok (.lshl, 1)) : am_Snd1 own cc nL ret nm pc (a_ls (fun x y => x <<< (y.toInt64 &&& 63)) (pc + 1)) := by
  refine am_s0 fun lv st M pc' lv' st' M' he => ?_
  unfold a_ls at he
  split at he <;> cases he
  exact ⟨rfl, rfl, fun G p l e R s m args below meth c H locs ls kc ks Q hC hL k => lv_lshl hC.1 hC.2.1 hdg rfl k⟩
theorem s_lushr (hdg : decode cc pc = .ok (.lushr, 1)) : am_Snd1 own cc nL ret nm pc (a_ls (fun x y => (x.toUInt64 >>> (y.toInt64 &&& 63).toUInt64).toInt64) (pc + 1)) := by
  refine am_s0 fun lv st M pc' lv' st' M' he => ?_
  unfold a_ls at he
  split at he <;> cases he
  exact ⟨rfl, rfl, fun G p l e R s m args below meth c H locs ls kc ks Q hC hL k => lv_lushr hC.1 hC.2.1 hdg rfl k⟩
theorem s_lshr (hdg : decode cc pc = .ok (.lshr, 1)) : am_Snd1 own cc nL ret nm pc (a_ls (fun x y => x >>> (y.toInt64 &&& 63)) (pc + 1)) := by
  refine am_s0 fun lv st M pc' lv' st' M' he => ?_
  unfold a_ls at he
  split at he <;> cases he
  exact ⟨rfl, rfl, fun G p l e R s m args below meth c H locs ls kc ks Q hC hL k => lv_lshr hC.1 hC.2.1 hdg rfl k⟩
theorem s_iushr (hdg : decode cc pc = .ok (.iushr, 1)) : am_Snd1 own cc nL ret nm pc (a_bi (fun x y => (x.toUInt32 >>> (y &&& 31).toUInt32).toInt32) (pc + 1)) := by
  refine am_s0 fun lv st M pc' lv' st' M' he => ?_
  unfold a_bi at he
  split at he <;> cases he
  exact ⟨rfl, rfl, fun G p l e R s m args below meth c H locs ls kc ks Q hC hL k => lv_iushr hC.1 hC.2.1 hdg rfl k⟩
theorem s_ineg (hdg : decode cc pc = .ok (.ineg, 1)) : am_Snd1 own cc nL ret nm pc (a_ui (fun x => -x) (pc + 1)) := by
  refine am_s0 fun lv st M pc' lv' st' M' he => ?_
  unfold a_ui at he
  split at he <;> cases he
  exact ⟨rfl, rfl, fun G p l e R s m args below meth c H locs ls kc ks Q hC hL k => lv_ineg hC.1 hC.2.1 hdg k⟩
theorem s_i2l (hdg : decode cc pc = .ok (.i2l, 1)) : am_Snd1 own cc nL ret nm pc (a_i2l (pc + 1)) := by
  refine am_s0 fun lv st M pc' lv' st' M' he => ?_
  unfold a_i2l at he
  split at he <;> cases he
  exact ⟨rfl, rfl, fun G p l e R s m args below meth c H locs ls kc ks Q hC hL k => lv_i2l hC.1 hC.2.1 hdg rfl k⟩
theorem s_l2i (hdg : decode cc pc = .ok (.l2i, 1)) : am_Snd1 own cc nL ret nm pc (a_l2i (pc + 1)) := by
  refine am_s0 fun lv st M pc' lv' st' M' he => ?_
  unfold a_l2i at he
  split at he <;> cases he
  exact ⟨rfl, rfl, fun G p l e R s m args below meth c H locs ls kc ks Q hC hL k => lv_l2i hC.1 hC.2.1 hdg rfl k⟩
theorem s_lcmp (hdg : decode cc pc = .ok (.lcmp, 1)) : am_Snd1 own cc nL ret nm pc (a_lcmp (pc + 1)) := by
  refine am_s0 fun lv st M pc' lv' st' M' he => ?_
  unfold a_lcmp at he
  split at he <;> cases he
  exact ⟨rfl, rfl, fun G p l e R s m args below meth c H locs ls kc ks Q hC hL k => W.lcmp hC.1 hC.2.1 hdg k⟩
theorem s_dup2l (hdg : decode cc pc = .ok (.dup2, 1)) : am_Snd1 own cc nL ret nm pc (a_dup2l (pc + 1)) := by
  refine am_s0 fun lv st M pc' lv' st' M' he => ?_
  unfold a_dup2l at he
  split at he <;> cases he
  exact ⟨rfl, rfl, fun G p l e R s m args below meth c H locs ls kc ks Q hC hL k => lv_dup2_2 hC.1 hC.2.1 hdg rfl k⟩
theorem s_dup (hdg : decode cc pc = .ok (.dup, 1)) : am_Snd1 own cc nL ret nm pc (a_dup (pc + 1)) := by
  refine am_s0 fun lv st M pc' lv' st' M' he => ?_
  unfold a_dup at he
  split at he
  · split at he <;> cases he
    rename_i hc
    exact ⟨rfl, rfl, fun G p l e R s m args below meth c H locs ls kc ks Q hC hL k => lv_dup hC.1 hC.2.1 hdg (by rw [am_v_cat]; exact hc) k⟩
  · cases he
theorem s_pop (hdg : decode cc pc = .ok (.pop, 1)) : am_Snd1 own cc nL ret nm pc (a_pop (pc + 1)) := by
  refine am_s0 fun lv st M pc' lv' st' M' he => ?_
  unfold a_pop at he
  split at he
  · split at he <;> cases he
    rename_i hc
    exact ⟨rfl, rfl, fun G p l e R s m args below meth c H locs ls kc ks Q hC hL k => lv_pop hC.1 hC.2.1 hdg (by rw [am_v_cat]; exact hc) k⟩
  · cases he
theorem s_dup2 (hdg : decode cc pc = .ok (.dup2, 1)) : am_Snd1 own cc nL ret nm pc (a_dup2 (pc + 1)) := by
  refine am_s0 fun lv st M pc' lv' st' M' he => ?_
  unfold a_dup2 at he
  split at he
  · split at he <;> cases he
    rename_i hc
    exact ⟨rfl, rfl, fun G p l e R s m args below meth c H locs ls kc ks Q hC hL k => lv_dup2_11 hC.1 hC.2.1 hdg (by rw [am_v_cat]; exact hc.1) (by rw [am_v_cat]; exact hc.2) k⟩
  · cases he
theorem s_if_eq {off : Int} {tg : Nat} (hdg : decode cc pc = .ok (.ifCond .eq off, 3)) (ht : (pc : Int) + off = (tg : Int)) : am_Snd1 own cc nL ret nm pc (a_if (fun x => decide (x = 0)) tg (pc + 3)) := by
  refine am_s0 fun lv st M pc' lv' st' M' he => ?_
  unfold a_if at he
  split at he <;> cases he
  refine ⟨rfl, rfl, fun G p l e R s m args below meth c H locs ls kc ks Q hC hL k => lv_if_eq hC.1 hC.2.1 hdg ht (fun q => ?_) (fun q => ?_)⟩
  · rw [if_pos (decide_eq_true q)] at k; exact k
  · rw [if_neg (by rw [decide_eq_true_eq]; exact q)] at k; exact k
theorem s_icmp_eq {off : Int} {tg : Nat} (hdg : decode cc pc = .ok (.if_icmp .eq off, 3)) (ht : (pc : Int) + off = (tg : Int)) : am_Snd1 own cc nL ret nm pc (a_icmp (fun x y => decide (x = y)) tg (pc + 3)) := by
  refine am_s0 fun lv st M pc' lv' st' M' he => ?_
  unfold a_icmp at he
  split at he <;> cases he
  refine ⟨rfl, rfl, fun G p l e R s m args below meth c H locs ls kc ks Q hC hL k => lv_icmp_eq hC.1 hC.2.1 hdg ht (fun q => ?_) (fun q => ?_)⟩
  · rw [if_pos (decide_eq_true q)] at k; exact k
  · rw [if_neg (by rw [decide_eq_true_eq]; exact q)] at k; exact k
theorem s_if_ne {off : Int} {tg : Nat} (hdg : decode cc pc = .ok (.ifCond .ne off, 3)) (ht : (pc : Int) + off = (tg : Int)) : am_Snd1 own cc nL ret nm pc (a_if (fun x => decide (¬ x = 0)) tg (pc + 3)) := by
  refine am_s0 fun lv st M pc' lv' st' M' he => ?_
  unfold a_if at he
  split at he <;> cases he
  refine ⟨rfl, rfl, fun G p l e R s m args below meth c H locs ls kc ks Q hC hL k => lv_if_ne hC.1 hC.2.1 hdg ht (fun q => ?_) (fun q => ?_)⟩
  · rw [if_pos (decide_eq_true q)] at k; exact k
  · rw [if_neg (by rw [decide_eq_true_eq]; exact fun h => h q)] at k; exact k
theorem s_icmp_ne {off : Int} {tg : Nat} (hdg : decode cc pc = .ok (.if_icmp .ne off, 3)) (ht : (pc : Int) + off = (tg : Int)) : am_Snd1 own cc nL ret nm pc (a_icmp (fun x y => decide (¬ x = y)) tg (pc + 3)) := by
  refine am_s0 fun lv st M pc' lv' st' M' he => ?_
  unfold a_icmp at he
  split at he <;> cases he
  refine ⟨rfl, rfl, fun G p l e R s m args below meth c H locs ls kc ks Q hC hL k => lv_icmp_ne hC.1 hC.2.1 hdg ht (fun q => ?_) (fun q => ?_)⟩
  · rw [if_pos (decide_eq_true q)] at k; exact k
  · rw [if_neg (by rw [decide_eq_true_eq]; exact fun h => h q)] at k; exact k
theorem s_if_lt {off : Int} {tg : Nat} (hdg : decode cc pc = .ok (.ifCond .lt off, 3)) (ht : (pc : Int) + off = (tg : Int)) : am_Snd1 own cc nL ret nm pc (a_if (fun x => decide (x < 0)) tg (pc + 3)) := by
  refine am_s0 fun lv st M pc' lv' st' M' he => ?_
  unfold a_if at he
  split at he <;> cases he
  refine ⟨rfl, rfl, fun G p l e R s m args below meth c H locs ls kc ks Q hC hL k => lv_if_lt hC.1 hC.2.1 hdg ht (fun q => ?_) (fun q => ?_)⟩
  · rw [if_pos (decide_eq_true q)] at k; exact k
  · rw [if_neg (by rw [decide_eq_true_eq]; exact q)] at k; exact k
theorem s_icmp_lt {off : Int} {tg : Nat} (hdg : decode cc pc = .ok (.if_icmp .lt off, 3)) (ht : (pc : Int) + off = (tg : Int)) : am_Snd1 own cc nL ret nm pc (a_icmp (fun x y => decide (x < y)) tg (pc + 3)) := by
  refine am_s0 fun lv st M pc' lv' st' M' he => ?_
  unfold a_icmp at he
  split at he <;> cases he
  refine ⟨rfl, rfl, fun G p l e R s m args below meth c H locs ls kc ks Q hC hL k => lv_icmp_lt hC.1 hC.2.1 hdg ht (fun q => ?_) (fun q => ?_)⟩
  · rw [if_pos (decide_eq_true q)] at k; exact k
  · rw [if_neg (by rw [decide_eq_true_eq]; exact q)] at k; exact k
theorem s_if_ge {off : Int} {tg : Nat} (hdg : decode cc pc = .ok (.ifCond .ge off, 3)) (ht : (pc : Int) + off = (tg : Int)) : am_Snd1 own cc nL ret nm pc (a_if (fun x => decide (0 ≤ x)) tg (pc + 3)) := by
  refine am_s0 fun lv st M pc' lv' st' M' he => ?_
  unfold a_if at he
  split at he <;> cases he
  refine ⟨rfl, rfl, fun G p l e R s m args below meth c H locs ls kc ks Q hC hL k => lv_if_ge hC.1 hC.2.1 hdg ht (fun q => ?_) (fun q => ?_)⟩
  · rw [if_pos (decide_eq_true q)] at k; exact k
  · rw [if_neg (by rw [decide_eq_true_eq]; exact q)] at k; exact k
theorem s_icmp_ge {off : Int} {tg : Nat} (hdg : decode cc pc = .ok (.if_icmp .ge off, 3)) (ht : (pc : Int) + off = (tg : Int)) : am_Snd1 own cc nL ret nm pc (a_icmp (fun x y => decide (y ≤ x)) tg (pc + 3)) := by
  refine am_s0 fun lv st M pc' lv' st' M' he => ?_
  unfold a_icmp at he
  split at he <;> cases he
  refine ⟨rfl, rfl, fun G p l e R s m args below meth c H locs ls kc ks Q hC hL k => lv_icmp_ge hC.1 hC.2.1 hdg ht (fun q => ?_) (fun q => ?_)⟩
  · rw [if_pos (decide_eq_true q)] at k; exact k
  · rw [if_neg (by rw [decide_eq_true_eq]; exact q)] at k; exact k
theorem s_if_gt {off : Int} {tg : Nat} (hdg : decode cc pc = .ok (.ifCond .gt off, 3)) (ht : (pc : Int) + off = (tg : Int)) : am_Snd1 own cc nL ret nm pc (a_if (fun x => decide (0 < x)) tg (pc + 3)) := by
  refine am_s0 fun lv st M pc' lv' st' M' he => ?_
  unfold a_if at he
  split at he <;> cases he
  refine ⟨rfl, rfl, fun G p l e R s m args below meth c H locs ls kc ks Q hC hL k => lv_if_gt hC.1 hC.2.1 hdg ht (fun q => ?_) (fun q => ?_)⟩
  · rw [if_pos (decide_eq_true q)] at k; exact k
  · rw [if_neg (by rw [decide_eq_true_eq]; exact q)] at k; exact k
theorem s_icmp_gt {off : Int} {tg : Nat} (hdg : decode cc pc = .ok (.if_icmp .gt off, 3)) (ht : (pc : Int) + off = (tg : Int)) : am_Snd1 own cc nL ret nm pc (a_icmp (fun x y => decide (y < x)) tg (pc + 3)) := by
  refine am_s0 fun lv st M pc' lv' st' M' he => ?_
  unfold a_icmp at he
  split at he <;> cases he
  refine ⟨rfl, rfl, fun G p l e R s m args below meth c H locs ls kc ks Q hC hL k => lv_icmp_gt hC.1 hC.2.1 hdg ht (fun q => ?_) (fun q => ?_)⟩
  · rw [if_pos (decide_eq_true q)] at k; exact k
  · rw [if_neg (by rw [decide_eq_true_eq]; exact q)] at k; exact k
theorem s_if_le {off : Int} {tg : Nat} (hdg : decode cc pc = .ok (.ifCond .le off, 3)) (ht : (pc : Int) + off = (tg : Int)) : am_Snd1 own cc nL ret nm pc (a_if (fun x => decide (x ≤ 0)) tg (pc + 3)) := by
  refine am_s0 fun lv st M pc' lv' st' M' he => ?_
  unfold a_if at he
  split at he <;> cases he
  refine ⟨rfl, rfl, fun G p l e R s m args below meth c H locs ls kc ks Q hC hL k => lv_if_le hC.1 hC.2.1 hdg ht (fun q => ?_) (fun q => ?_)⟩
  · rw [if_pos (decide_eq_true q)] at k; exact k
  · rw [if_neg (by rw [decide_eq_true_eq]; exact q)] at k; exact k
theorem s_icmp_le {off : Int} {tg : Nat} (hdg : decode cc pc = .ok (.if_icmp .le off, 3)) (ht : (pc : Int) + off = (tg : Int)) : am_Snd1 own cc nL ret nm pc (a_icmp (fun x y => decide (x ≤ y)) tg (pc + 3)) := by
  refine am_s0 fun lv st M pc' lv' st' M' he => ?_
  unfold a_icmp at he
  split at he <;> cases he
  refine ⟨rfl, rfl, fun G p l e R s m args below meth c H locs ls kc ks Q hC hL k => lv_icmp_le hC.1 hC.2.1 hdg ht (fun q => ?_) (fun q => ?_)⟩
  · rw [if_pos (decide_eq_true q)] at k; exact k
  · rw [if_neg (by rw [decide_eq_true_eq]; exact q)] at k; exact k
theorem s_goto {off : Int} {tg : Nat} (hdg : decode cc pc = .ok (.goto off, 3)) (ht : (pc : Int) + off = (tg : Int)) : am_Snd1 own cc nL ret nm pc (a_goto tg) := by
  refine am_s0 fun lv st M pc' lv' st' M' he => ?_
  cases he
  exact ⟨rfl, rfl, fun G p l e R s m args below meth c H locs ls kc ks Q hC hL k => lv_goto hC.1 hC.2.1 hdg ht k⟩
theorem s_ifnn {off : Int} {tg : Nat} (hdg : decode cc pc = .ok (.ifnonnull off, 3)) (ht : (pc : Int) + off = (tg : Int)) : am_Snd1 own cc nL ret nm pc (a_ifnn tg (pc + 3)) := by
  refine am_s0 fun lv st M pc' lv' st' M' he => ?_
  unfold a_ifnn at he
  split at he <;> cases he
  · exact ⟨rfl, rfl, fun G p l e R s m args below meth c H locs ls kc ks Q hC hL k => lv_ifnonnullN hC.1 hC.2.1 hdg k⟩
  · exact ⟨rfl, rfl, fun G p l e R s m args below meth c H locs ls kc ks Q hC hL k => lv_ifnonnull hC.1 hC.2.1 hdg ht k⟩
/-- a table: where it goes by its int -/
def am_tab (lo : Int) (tgs : List Nat) (df : Nat) (x : Int32) : Nat := if x.toInt < lo then df else (tgs[(x.toInt - lo).toNat]?).getD df
theorem s_table {dflt lo hi : Int} {offs : Array Int} {len : Nat} {tgs : List Nat} {df : Nat} (hdg : decode cc pc = .ok (.tableswitch dflt lo hi offs, len)) (hd : (pc : Int) + dflt = (df : Int)) (hn : (hi - lo + 1).toNat = tgs.length) (hlh : lo ≤ hi + 1) (ho : offs.toList.map (fun o => (pc : Int) + o) = tgs.map (fun t : Nat => (t : Int))) : am_Snd1 own cc nL ret nm pc (a_sw (am_tab lo tgs df)) := by
  refine am_s0 fun lv st M pc' lv' st' M' he => ?_
  unfold a_sw at he
  split at he <;> cases he
  rename_i st2 x
  refine ⟨rfl, rfl, fun G p l e R s m args below meth c H locs ls kc ks Q hC hL k => ?_⟩
  unfold am_tab at k
  by_cases h1 : x.toInt < lo
  · rw [if_pos h1] at k
    exact lv_tableOut hC.1 hC.2.1 hdg (Or.inl h1) hd k
  · rw [if_neg h1] at k
    by_cases h2 : hi < x.toInt
    · rw [List.getElem?_eq_none (by omega)] at k
      exact lv_tableOut hC.1 hC.2.1 hdg (Or.inr h2) hd k
    · have hlt : (x.toInt - lo).toNat < tgs.length := by omega
      rw [List.getElem?_eq_getElem hlt] at k
      have hlen : offs.toList.length = tgs.length := by
        have := congrArg List.length ho
        simpa using this
      have hlt2 : (x.toInt - lo).toNat < offs.toList.length := by omega
      have hg := congrArg (fun l : List Int => l[(x.toInt - lo).toNat]?) ho
      simp only [List.getElem?_map, List.getElem?_eq_getElem hlt, List.getElem?_eq_getElem hlt2, Option.map_some, Option.some.injEq] at hg
      refine lv_tableIn hC.1 hC.2.1 hdg h1 h2 (off := offs.toList[(x.toInt - lo).toNat]) ?_ hg k
      rw [← Array.getElem?_toList]
      exact List.getElem?_eq_getElem hlt2
theorem s_lookup {dflt : Int} {ps : Array (Int × Int)} {len : Nat} {t : Int32 → Nat} (hdg : decode cc pc = .ok (.lookupswitch dflt ps, len)) (hp : (ps.toList.zip (ps.toList.drop 1)).all (fun (a, next) => a.1 < next.1) = true) (ho : ∀ x : Int32, (pc : Int) + Op.lookupswitch.offset ps.toList dflt x.toInt = (t x : Int)) : am_Snd1 own cc nL ret nm pc (a_sw t) := by
  refine am_s0 fun lv st M pc' lv' st' M' he => ?_
  unfold a_sw at he
  split at he <;> cases he
  exact ⟨rfl, rfl, fun G p l e R s m args below meth c H locs ls kc ks Q hC hL k => lv_lookup hC.1 hC.2.1 hdg hp rfl (ho _) k⟩
end
end
section
/-! AM's steps at fields, arrays and new cells -/
theorem mS_of {M : am_M} {a k : Nat} (h : mK M a = k) (hk : k ≠ 99) : (mS M)[a]? = some (k, mN M a) := by
  unfold mK mN at *
  rw [List.getD_eq_getElem?_getD] at *
  cases hc : (mS M)[a]? with
  | none => rw [hc] at h; exact absurd h.symm hk
  | some x => rw [hc] at h; simp at h ⊢; exact Prod.ext h rfl
def am_wr (ty : FieldType) (M : am_M) (a k : Nat) (v : Value) : Option am_M := match ty with
  | .long => match v with | .long x => some (uL M a k x) | _ => none
  | .int => match v with | .int x => some (uI M a k x) | _ => none
  | .boolean => match v with | .int x => if x = 0 ∨ x = 1 then some (uI M a k x) else none | _ => none
  | .object _ => match v with | .ref b => some (uR M a k (some b)) | .null => some (uR M a k none) | _ => none
  | .array _ => match v with | .ref b => some (uR M a k (some b)) | .null => some (uR M a k none) | _ => none
  | _ => none
theorem am_wr_s {ty : FieldType} {M M' : am_M} {a k : Nat} {v : Value} (h : am_wr ty M a k v = some M') : mS M' = mS M ∧ (∀ b, b ≠ a → ∀ t j, am_fv t M' b j = am_fv t M b j) ∧ (∀ t j, j ≠ k → am_fv t M' a j = am_fv t M a j) ∧ am_fv ty M' a k = v ∧ ∀ G : am_G, narrow ty (am_v G v) = am_v G v ∧ fits ty (am_v G v) = true := by
  have hI : ∀ (x : Int32), (∀ b, b ≠ a → ∀ t j, am_fv t (uI M a k x) b j = am_fv t M b j) ∧ ∀ t j, j ≠ k → am_fv t (uI M a k x) a j = am_fv t M a j := fun x => ⟨fun b hb t j => by unfold am_fv; cases t <;> simp [uI, mI, mL, mR, am_u, hb], fun t j hj => by unfold am_fv; cases t <;> simp [uI, mI, mL, mR, am_u, hj]⟩
  have hL : ∀ (x : Int64), (∀ b, b ≠ a → ∀ t j, am_fv t (uL M a k x) b j = am_fv t M b j) ∧ ∀ t j, j ≠ k → am_fv t (uL M a k x) a j = am_fv t M a j := fun x => ⟨fun b hb t j => by unfold am_fv; cases t <;> simp [uL, mI, mL, mR, am_u, hb], fun t j hj => by unfold am_fv; cases t <;> simp [uL, mI, mL, mR, am_u, hj]⟩
  have hR : ∀ (x : Option Nat), (∀ b, b ≠ a → ∀ t j, am_fv t (uR M a k x) b j = am_fv t M b j) ∧ ∀ t j, j ≠ k → am_fv t (uR M a k x) a j = am_fv t M a j := fun x => ⟨fun b hb t j => by unfold am_fv; cases t <;> simp [uR, mI, mL, mR, am_u, hb], fun t j hj => by unfold am_fv; cases t <;> simp [uR, mI, mL, mR, am_u, hj]⟩
  unfold am_wr at h
  split at h
  · split at h <;> cases h
    rename_i x
    exact ⟨rfl, (hL x).1, (hL x).2, by simp [am_fv, mL, uL, am_u], fun G => ⟨rfl, rfl⟩⟩
  · split at h <;> cases h
    rename_i x
    exact ⟨rfl, (hI x).1, (hI x).2, by simp [am_fv, mI, uI, am_u], fun G => ⟨rfl, rfl⟩⟩
  · split at h
    · rename_i x
      split at h <;> cases h
      rename_i hx
      exact ⟨rfl, (hI x).1, (hI x).2, by simp [am_fv, mI, uI, am_u], fun G => by rcases hx with rfl | rfl <;> exact ⟨rfl, rfl⟩⟩
    · cases h
  · split at h <;> cases h
    · rename_i x
      exact ⟨rfl, (hR (some x)).1, (hR (some x)).2, by simp [am_fv, mR, uR, am_u, va_rf], fun G => ⟨rfl, rfl⟩⟩
    · exact ⟨rfl, (hR none).1, (hR none).2, by simp [am_fv, mR, uR, am_u, va_rf], fun G => ⟨rfl, rfl⟩⟩
  · split at h <;> cases h
    · rename_i x
      exact ⟨rfl, (hR (some x)).1, (hR (some x)).2, by simp [am_fv, mR, uR, am_u, va_rf], fun G => ⟨rfl, rfl⟩⟩
    · exact ⟨rfl, (hR none).1, (hR none).2, by simp [am_fv, mR, uR, am_u, va_rf], fun G => ⟨rfl, rfl⟩⟩
  · cases h
def a_get (ci k : Nat) (ty : FieldType) (nx : Nat) : am_F := fun lv st M => match st with
  | .ref a :: st' => if mK M a = 10 + ci then some (nx, lv, am_fv ty M a k :: st', M) else none
  | _ => none
def a_put (ci k : Nat) (ty : FieldType) (nx : Nat) : am_F := fun lv st M => match st with
  | v :: .ref a :: st' => if mK M a = 10 + ci then (am_wr ty M a k v).map (fun M' => (nx, lv, st', M')) else none
  | _ => none
def a_arl (kd : Nat) (ty : FieldType) (nx : Nat) : am_F := fun lv st M => match st with
  | .int i :: .ref a :: st' => if mK M a = kd ∧ am_in i (mN M a) then some (nx, lv, am_fv ty M a i.toInt.toNat :: st', M) else none
  | _ => none
def a_aal (nx : Nat) : am_F := fun lv st M => match st with
  | .int i :: .ref a :: st' => if (mK M a = 3 ∨ mK M a = 4 ∨ mK M a = 5) ∧ am_in i (mN M a) then some (nx, lv, va_rf (mR M a i.toInt.toNat) :: st', M) else none
  | _ => none
def a_ars (kd : Nat) (ty : FieldType) (nx : Nat) : am_F := fun lv st M => match st with
  | v :: .int i :: .ref a :: st' => if mK M a = kd ∧ am_in i (mN M a) then (am_wr ty M a i.toInt.toNat v).map (fun M' => (nx, lv, st', M')) else none
  | _ => none
def a_aas (nx : Nat) : am_F := fun lv st M => match st with
  | .ref b :: .int i :: .ref a :: st' => if ((mK M a = 3 ∧ mK M b = 16) ∨ (mK M a = 4 ∧ mK M b = 18) ∨ (mK M a = 5 ∧ mK M b = 1)) ∧ am_in i (mN M a) then some (nx, lv, st', uR M a i.toInt.toNat (some b)) else none
  | _ => none
def a_len (nx : Nat) : am_F := fun lv st M => match st with
  | .ref a :: st' => if mK M a < 6 then some (nx, lv, .int (Int32.ofNat (mN M a)) :: st', M) else none
  | _ => none
def a_newa (kd : Nat) (nx : Nat) : am_F := fun lv st M => match st with
  | .int n :: st' => if 0 ≤ n.toInt ∧ n.toInt ≤ 60000 then some (nx, lv, .ref (mC M) :: st', uN M (kd, n.toInt.toNat)) else none
  | _ => none
def a_new (ci N : Nat) (nx : Nat) : am_F := fun lv st M => some (nx, lv, .ref (mC M) :: st, uN M (10 + ci, N))
def am_cs : List Value → Nat
  | [] => 0
  | v :: vs => v.category + am_cs vs
def a_obj (nx : Nat) : am_F := fun lv st M => match st with
  | .ref _ :: st' => if am_cs st' ≤ 8 then some (nx, lv, st', M) else none
  | _ => none
def a_cpl (nx : Nat) : am_F := fun lv st M => match st with
  | .int n :: .int dp :: .ref b :: .int sp :: .ref a :: st' => if (mK M a = 1 ∧ mK M b = 1) ∧ (0 ≤ sp.toInt ∧ 0 ≤ dp.toInt ∧ 0 ≤ n.toInt) ∧ sp.toInt.toNat + n.toInt.toNat ≤ mN M a ∧ dp.toInt.toNat + n.toInt.toNat ≤ mN M b ∧ am_cs st' ≤ 8 then some (nx, lv, st', uCL M a sp.toInt.toNat b dp.toInt.toNat n.toInt.toNat) else none
  | _ => none
theorem am_cs_eq (G : am_G) (st : List Value) : ((st.map (am_v G)).map fun v => v.category).sum = am_cs st := by
  induction st with
  | nil => rfl
  | cons v vs ih => simp only [List.map_cons, List.sum_cons, ih, am_v_cat]; rfl
section
variable {own : String} {cc : ByteArray} {nL : Nat} {ret : Option FieldType} {nm : String} {pc : Nat}
theorem am_R.obj {G : am_G} {M : am_M} {H : Heap} (h : am_R G M H) {a ci : Nat} {r : vw_C} (hk : mK M a = 10 + ci) (hc : vwCl[ci]? = some r) : mN M a = r.2.2 ∧ t_OB (G.1 + a) (G.2.2.2.1 ci) r.2.2 (G.2.2.2.2 ci) H (fun j => am_v G (am_fv (am_fty ci j) M a j)) := by
  have h1 : ci < 12 := (List.getElem?_eq_some_iff.mp hc).1
  exact (h.2.1 a _ (mS_of hk (by omega))).2 ci r rfl hc
theorem am_R.arr {G : am_G} {M : am_M} {H : Heap} (h : am_R G M H) {a kd : Nat} {ty : FieldType} (hk : mK M a = kd) (hc : am_ety[kd]? = some ty) : H[G.1 + a]? = some (arrV (G.2.2.1 kd) (mN M a) (fun j => am_v G (am_fv ty M a j))) := by
  have h1 : kd < 6 := (List.getElem?_eq_some_iff.mp hc).1
  exact (h.2.1 a _ (mS_of hk (by omega))).1 ty hc
theorem am_Kn.arr {G : am_G} {s : State} (h : am_Kn G s) {kd : Nat} {ty : FieldType} (hc : am_ety[kd]? = some ty) : ArrOfT s (G.2.2.1 kd) ty ∧ va_RA s (G.2.2.1 kd) ty := by
  have h1 : kd < 6 := (List.getElem?_eq_some_iff.mp hc).1
  refine h.1.2 kd (G.2.2.1 kd, ty) ?_
  match kd, h1, hc with
  | 0, _, hc => cases hc; rfl
  | 1, _, hc => cases hc; rfl
  | 2, _, hc => cases hc; rfl
  | 3, _, hc => cases hc; rfl
  | 4, _, hc => cases hc; rfl
  | 5, _, hc => cases hc; rfl
theorem s_get {ci k i : Nat} {C : String} {T : u_T} {N : Nat} {ty : FieldType} (hdg : decode cc pc = .ok (.getfield i, 3)) (hc : vwCl[ci]? = some (C, T, N)) (hk : k < N) (hl : Cond.fieldLink own i (T k).1 (T k).2.1 (T k).2.2.1 ∈ am_ws) (hin : ∀ w ∈ u_ws C T N, w ∈ am_ws) (hty : am_fty ci k = ty) : am_Snd1 own cc nL ret nm pc (a_get ci k ty (pc + 3)) := by
  intro lv st M pc' lv' st' M' he
  unfold a_get at he
  split at he
  · split at he
    · cases he
      rename_i a st2 hka
      refine ⟨⟨Nat.le_refl _, Nat.le_refl _⟩, ?_⟩
      intro G p l e R s m args below meth c c0 w0 Q hC _ _ _ _ hV H locs ls kc ks hR hS hL hkc hks
      obtain ⟨-, cell, q1, q2, q3, q4⟩ := hR.obj hka hc
      obtain ⟨hSl, hfc, kC, hkC, hkind⟩ := hC.2.2.2.2.2.2.2.2.1.1.1 ci _ hc
      obtain ⟨cf, kf, fi, f, hi, hsl⟩ := hSl k hk
      refine W.getf hC.1 hC.2.1 hC.2.2.2.1 (hC.2.2.2.2.1 _ hl) hi (u_facts hfc hkC (u_lays hC.2.2.2.2.1 hin hk) hi).1 q1 (by rw [q3]; exact fun h => by cases h) (v := am_v G (am_fv ty M a k)) ?_ rfl rfl hdg (hV H locs ls kc ks hR hS hL hkc hks)
      rw [hsl, q4 k hk, ← hty]
    · cases he
  · cases he
theorem am_ap {s : State} {args : Array Value} {G : am_G} {C : String} {T : u_T} {N ci : Nat} (hts : ∀ w ∈ am_ws, w.before args s = true) (hin : ∀ w ∈ u_ws C T N, w ∈ am_ws) (hty : ∀ k, k < N → parseFieldDescriptor (T k).2.2.1 = some (am_fty ci k)) (hnm : ∀ a, a < N → ∀ b, b < N → a ≠ b → (T a).2.1 ≠ (T b).2.1) (hK : am_Kn G s) (hc : vwCl[ci]? = some (C, T, N)) : ∀ x y, x < N → y < N → x ≠ y → (G.2.2.2.2 ci) x ≠ (G.2.2.2.2 ci) y :=
  va_apart (own := C) hts hin (am_fty ci) hty hnm hK.1 hc
theorem am_R.put {G : am_G} {M M' : am_M} {H H' : Heap} {a ci k : Nat} {C : String} {T : u_T} {N : Nat} {ty : FieldType} {v : Value} (h : am_R G M H) (hka : mK M a = 10 + ci) (hc : vwCl[ci]? = some (C, T, N)) (hw : am_wr ty M a k v = some M') (hty : am_fty ci k = ty) (hk : k < N) (hap : ∀ x y, x < N → y < N → x ≠ y → (G.2.2.2.2 ci) x ≠ (G.2.2.2.2 ci) y) {cell : Cell} (q1 : H[G.1 + a]? = some cell) (q2 : cell.cls = G.2.2.2.1 ci) (q3 : cell.vm = .none) (q4 : ∀ j, j < N → cell.slots[(G.2.2.2.2 ci) j]? = some (am_v G (am_fv (am_fty ci j) M a j)))
    (e1 : H'[G.1 + a]? = some (cell.setSlot ((G.2.2.2.2 ci) k) (am_v G v))) (e2 : H'.size = H.size) (e3 : ∀ q, q ≠ G.1 + a → H'[q]? = H[q]?) : am_R G M' H' := by
  obtain ⟨w1, w2, w3, w4, -⟩ := am_wr_s hw
  have hci : ci < 12 := (List.getElem?_eq_some_iff.mp hc).1
  refine h.set w1 w2 e2 e3 (fun sh hsh => ?_)
  have hsh2 := mS_of hka (by omega)
  rw [hsh] at hsh2
  cases hsh2
  refine ⟨fun t ht => ?_, fun ci' r e hr => ?_⟩
  · have := (List.getElem?_eq_some_iff.mp ht).1
    simp [am_ety] at this
    omega
  · have e' : ci' = ci := by have : 10 + ci = 10 + ci' := e; omega
    subst e'
    cases hr.symm.trans hc
    refine ⟨(h.obj hka hc).1, ?_⟩
    refine t_OB.to (V := updV (fun j => am_v G (am_fv (am_fty ci' j) M a j)) k (am_v G v)) ⟨_, e1, q2, q3, t_set q4 hap hk (am_v G v)⟩ (fun j _ => ?_)
    unfold updV
    by_cases ej : j = k
    · subst ej
      rw [if_pos rfl, hty, w4]
    · rw [if_neg ej, w3 _ _ ej]
theorem s_put {ci k i : Nat} {C : String} {T : u_T} {N : Nat} {ty : FieldType} (hdg : decode cc pc = .ok (.putfield i, 3)) (hc : vwCl[ci]? = some (C, T, N)) (hk : k < N) (hl : Cond.fieldLink own i (T k).1 (T k).2.1 (T k).2.2.1 ∈ am_ws) (hin : ∀ w ∈ u_ws C T N, w ∈ am_ws) (htys : ∀ k, k < N → parseFieldDescriptor (T k).2.2.1 = some (am_fty ci k)) (hnm : ∀ a, a < N → ∀ b, b < N → a ≠ b → (T a).2.1 ≠ (T b).2.1) (hfin : (T k).2.2.2 = false) (hty : am_fty ci k = ty) : am_Snd1 own cc nL ret nm pc (a_put ci k ty (pc + 3)) := by
  intro lv st M pc' lv' st' M' he
  unfold a_put at he
  split at he
  · split at he
    · rename_i v a st2 hka
      cases hw : am_wr ty M a k v with
      | none => rw [hw] at he; cases he
      | some M2 =>
        rw [hw] at he
        cases he
        have hww := am_wr_s hw
        have hCC : mC M' = mC M := by unfold mC; rw [hww.1]
        have hWW : mW M' = mW M := by unfold mW; rw [hww.1]
        refine ⟨⟨by rw [hCC]; exact Nat.le_refl _, by rw [hWW]; exact Nat.le_refl _⟩, ?_⟩
        intro G p l e R s m args below meth c c0 w0 Q hC _ _ _ _ hV H locs ls kc ks hR hS hL hkc hks
        obtain ⟨-, cell, q1, q2, q3, q4⟩ := hR.obj hka hc
        have hap := am_ap hC.2.2.2.2.1 hin htys hnm hC.2.2.2.2.2.2.2.2.1 hc
        obtain ⟨hSl, hfc, kC, hkC, hkind⟩ := hC.2.2.2.2.2.2.2.2.1.1.1 ci _ hc
        obtain ⟨cf, kf, fi, f, hi, hsl⟩ := hSl k hk
        have hlay : (Cond.lays C (T k).1 (T k).2.1 (T k).2.2.1).before args s = true := by
          have h0 := hC.2.2.2.2.1 (u_lay C T k) (hin _ (List.mem_map.mpr ⟨k, List.mem_range.mpr hk, rfl⟩))
          unfold u_lay at h0
          rw [if_neg (by rw [hfin]; simp)] at h0
          exact h0
        have hst := (u_facts hfc hkC (Or.inl hlay) hi).1
        have h6 := u_store hfc hkC hkind hlay hi (by rw [← hty]; exact htys k hk) (hww.2.2.2.2 G).1 (hww.2.2.2.2 G).2
        refine W.putK hC.1 hC.2.1 (f := f) ⟨hC.2.2.2.1, hC.2.2.2.2.1 _ hl, ⟨_, _, _, hi⟩, hst⟩ (by rw [q2]; exact h6) q1 q3 (by rw [hsl]; exact k2_hasslot (q4 k hk)) rfl rfl hdg fun H' e1 e2 e3 => ?_
        rw [hsl] at e1 ⊢
        exact hV H' _ ls kc ks (hR.put hka hc hw hty hk hap q1 q2 q3 q4 e1 e2 e3) (hS.put e2 e3 (Nat.le_add_right _ _)) hL (by rw [hCC]; exact hkc) (by rw [hWW]; exact hks)
    · cases he
  · cases he
theorem s_putF {ci k i : Nat} {C : String} {T : u_T} {N : Nat} {ty : FieldType} (hdg : decode cc pc = .ok (.putfield i, 3)) (hc : vwCl[ci]? = some (C, T, N)) (hk : k < N) (hl : Cond.fieldLink own i (T k).1 (T k).2.1 (T k).2.2.1 ∈ am_ws) (hin : ∀ w ∈ u_ws C T N, w ∈ am_ws) (htys : ∀ k, k < N → parseFieldDescriptor (T k).2.2.1 = some (am_fty ci k)) (hnm : ∀ a, a < N → ∀ b, b < N → a ≠ b → (T a).2.1 ≠ (T b).2.1) (hfin : (T k).2.2.2 = true) (hini : nm = "<init>") (hdecl : (T k).1 = own) (hty : am_fty ci k = ty) : am_Snd1 own cc nL ret nm pc (a_put ci k ty (pc + 3)) := by
  subst hini
  intro lv st M pc' lv' st' M' he
  unfold a_put at he
  split at he
  · split at he
    · rename_i v a st2 hka
      cases hw : am_wr ty M a k v with
      | none => rw [hw] at he; cases he
      | some M2 =>
        rw [hw] at he
        cases he
        have hww := am_wr_s hw
        have hCC : mC M' = mC M := by unfold mC; rw [hww.1]
        have hWW : mW M' = mW M := by unfold mW; rw [hww.1]
        refine ⟨⟨by rw [hCC]; exact Nat.le_refl _, by rw [hWW]; exact Nat.le_refl _⟩, ?_⟩
        intro G p l e R s m args below meth c c0 w0 Q hC _ _ _ _ hV H locs ls kc ks hR hS hL hkc hks
        have hap := am_ap hC.2.2.2.2.1 hin htys hnm hC.2.2.2.2.2.2.2.2.1 hc
        obtain ⟨-, cell, q1, q2, q3, q4⟩ := hR.obj hka hc
        have hc' := hc
        obtain ⟨hSl, hfc, kC, hkC, hkind⟩ := hC.2.2.2.2.2.2.2.2.1.1.1 ci _ hc
        obtain ⟨cf, kf, fi, f, hi, hsl⟩ := hSl k hk
        have hlay : (Cond.laysFinal C (T k).1 (T k).2.1 (T k).2.2.1).before args s = true := by
          have h0 := hC.2.2.2.2.1 (u_lay C T k) (hin _ (List.mem_map.mpr ⟨k, List.mem_range.mpr hk, rfl⟩))
          unfold u_lay at h0
          rw [if_pos hfin] at h0
          exact h0
        have hst := (u_facts hfc hkC (Or.inr hlay) hi).1
        have hcf : m.cls = cf := by
          obtain ⟨_, _, c', _, _, _, -, -, hf', -, -, -, hown2, -⟩ := Cond.laysFinal_spec hlay
          have e1 : c' = cf := by have := hi.symm.trans hf'; simp at this; exact this.1.symm
          rw [hdecl] at hown2
          rw [← e1]; exact Option.some.inj (hC.2.2.2.1.symm.trans hown2)
        have h6 := u_fits hfc hkC hkind (Or.inr hlay) hi (by rw [← hty]; exact htys k hk) (hww.2.2.2.2 G).1 (hww.2.2.2.2 G).2
        refine W.putFinK hC.1 hC.2.1 hC.2.2.2.1 (hC.2.2.2.2.1 _ hl) hi hst hcf hC.2.2.2.2.2.2.2.1 (by rw [q2]; exact h6) q1 q3 (by rw [hsl]; exact k2_hasslot (q4 k hk)) rfl rfl hdg fun H' e1 e2 e3 => ?_
        rw [hsl] at e1 ⊢
        exact hV H' _ ls kc ks (hR.put hka hc hw hty hk hap q1 q2 q3 q4 e1 e2 e3) (hS.put e2 e3 (Nat.le_add_right _ _)) hL (by rw [hCC]; exact hkc) (by rw [hWW]; exact hks)
    · cases he
  · cases he
end
end
section
/-! arrays and new cells: the machine follows -/
section
variable {own : String} {cc : ByteArray} {nL : Nat} {ret : Option FieldType} {nm : String} {pc : Nat}
theorem am_cl {i : Int32} : i.toNatClampNeg = i.toInt.toNat := rfl
theorem am_in2 {i : Int32} {n : Nat} (h : am_in i n) {cA : ClassId} {f : Nat → Value} : ¬ (i < 0 ∨ (arrV cA n f).slots.size ≤ i.toNatClampNeg) := by
  rw [arrV_size]
  exact am_in_vp h
theorem am_in3 {i : Int32} {n : Nat} (h : am_in i n) {cA : ClassId} {f : Nat → Value} : (arrV cA n f).slots[i.toNatClampNeg]? = some (f i.toInt.toNat) := arrV_read _ _ (by have h1 := h.1; have h2 := h.2; rw [am_cl]; omega)
/-- reading an array, by the row of its kind -/
theorem s_arl {kd : Nat} {ty : FieldType} (hc : am_ety[kd]? = some ty) (row : ∀ {p : Program} {l : Launch} {e : Env} {R : Room} {s : State} {m : MethodId} {args : Array Value} {below : List Frame} {meth : Method} {c : Code} {H : Heap} {locs : List Loc} {cells slots : Nat} {Q : State → Prop} {a : Addr} {cell : Cell} {j : Int32} {v : Value} {ls : Array Slot} {rest : List Value}, p.tables.exec = Jvm.exec → c.code = cc → H[a]? = some cell → s.isArrayOf cell ty → cell.vm ≠ .unknown → ¬ (j < 0 ∨ cell.slots.size ≤ j.toNatClampNeg) → cell.slots[j.toNatClampNeg]? = some v → W p l e R s m args below meth c H locs cells slots Q (F0 m (pc + 1) ls (v :: rest)) → W p l e R s m args below meth c H locs cells slots Q (F0 m pc ls (.int j :: .ref a :: rest))) : am_Snd1 own cc nL ret nm pc (a_arl kd ty (pc + 1)) := by
  intro lv st M pc' lv' st' M' he
  unfold a_arl at he
  split at he
  · split at he
    · cases he
      rename_i i a st2 hka
      refine ⟨⟨Nat.le_refl _, Nat.le_refl _⟩, ?_⟩
      intro G p l e R s m args below meth c c0 w0 Q hC _ _ _ _ hV H locs ls kc ks hR hS hL hkc hks
      have h1 := hR.arr hka.1 hc
      exact row hC.1 hC.2.1 h1 ((hC.2.2.2.2.2.2.2.2.1.arr hc).1 _ _) (fun h => by cases h) (am_in2 hka.2) (am_in3 hka.2) (hV H locs ls kc ks hR hS hL hkc hks)
    · cases he
  · cases he
theorem s_iald (hdg : decode cc pc = .ok (.iaload, 1)) : am_Snd1 own cc nL ret nm pc (a_arl 0 .int (pc + 1)) := s_arl rfl (fun h1 h2 h3 h4 h5 h6 h7 k => W.iald h1 h2 h3 h4 h5 h6 h7 rfl rfl hdg k)
theorem s_zald (hdg : decode cc pc = .ok (.baload, 1)) : am_Snd1 own cc nL ret nm pc (a_arl 2 .boolean (pc + 1)) := s_arl rfl (fun h1 h2 h3 h4 h5 h6 h7 k => W.zald h1 h2 h3 h4 h5 h6 h7 rfl rfl hdg k)
theorem s_lald (hdg : decode cc pc = .ok (.laload, 1)) : am_Snd1 own cc nL ret nm pc (a_arl 1 .long (pc + 1)) := s_arl rfl (fun h1 h2 h3 h4 h5 h6 h7 k => W.lald h1 h2 h3 h4 h5 h6 h7 rfl rfl hdg k)
theorem s_aald (hdg : decode cc pc = .ok (.aaload, 1)) : am_Snd1 own cc nL ret nm pc (a_aal (pc + 1)) := by
  have h3 : am_Snd1 own cc nL ret nm pc (a_arl 3 (.object RX6) (pc + 1)) := s_arl rfl (fun h1 h2 h3 h4 h5 h6 h7 k => W.aald h1 h2 h3 h4 rfl h5 h6 h7 rfl rfl hdg k)
  have h4 : am_Snd1 own cc nL ret nm pc (a_arl 4 (.object RX8) (pc + 1)) := s_arl rfl (fun h1 h2 h3 h4 h5 h6 h7 k => W.aald h1 h2 h3 h4 rfl h5 h6 h7 rfl rfl hdg k)
  have h5 : am_Snd1 own cc nL ret nm pc (a_arl 5 (.array .long) (pc + 1)) := s_arl rfl (fun h1 h2 h3 h4 h5 h6 h7 k => W.aald h1 h2 h3 h4 rfl h5 h6 h7 rfl rfl hdg k)
  intro lv st M pc' lv' st' M' he
  unfold a_aal at he
  split at he
  · split at he
    · cases he
      rename_i i a st2 hka
      obtain ⟨hk | hk | hk, hi⟩ := hka
      · exact h3 _ _ _ _ _ _ _ (by unfold a_arl; dsimp only; rw [if_pos ⟨hk, hi⟩]; rfl)
      · exact h4 _ _ _ _ _ _ _ (by unfold a_arl; dsimp only; rw [if_pos ⟨hk, hi⟩]; rfl)
      · exact h5 _ _ _ _ _ _ _ (by unfold a_arl; dsimp only; rw [if_pos ⟨hk, hi⟩]; rfl)
    · cases he
  · cases he
theorem am_R.ars {G : am_G} {M M' : am_M} {H H' : Heap} {a kd k : Nat} {ty : FieldType} {v : Value} (h : am_R G M H) (hka : mK M a = kd) (hc : am_ety[kd]? = some ty) (hw : am_wr ty M a k v = some M')
    (e1 : H'[G.1 + a]? = some ((arrV (G.2.2.1 kd) (mN M a) (fun j => am_v G (am_fv ty M a j))).setSlot k (am_v G v))) (e2 : H'.size = H.size) (e3 : ∀ q, q ≠ G.1 + a → H'[q]? = H[q]?) : am_R G M' H' := by
  obtain ⟨w1, w2, w3, w4, -⟩ := am_wr_s hw
  have hkd : kd < 6 := (List.getElem?_eq_some_iff.mp hc).1
  refine h.set w1 w2 e2 e3 (fun sh hsh => ?_)
  have hsh2 := mS_of hka (by omega)
  rw [hsh] at hsh2
  cases hsh2
  refine ⟨fun t ht => ?_, fun ci' r e hr => ?_⟩
  · cases ht.symm.trans hc
    rw [e1, arrV_store]
    congr 2
    funext j
    unfold updV
    by_cases ej : j = k
    · subst ej
      rw [if_pos rfl, w4]
    · rw [if_neg ej, w3 _ _ ej]
  · have : kd = 10 + ci' := e
    omega
theorem s_ars {kd : Nat} {ty : FieldType} (hc : am_ety[kd]? = some ty) (row : ∀ {p : Program} {l : Launch} {e : Env} {R : Room} {s : State} {m : MethodId} {args : Array Value} {below : List Frame} {meth : Method} {c : Code} {H : Heap} {locs : List Loc} {cells slots : Nat} {Q : State → Prop} {a : Addr} {cell : Cell} {j : Int32} {G : am_G} {M M' : am_M} {b : Nat} {v : Value} {ls : Array Slot} {rest : List Value}, am_wr ty M b j.toInt.toNat v = some M' → p.tables.exec = Jvm.exec → c.code = cc → H[a]? = some cell → s.isArrayOf cell ty → cell.vm ≠ .unknown → ¬ (j < 0 ∨ cell.slots.size ≤ j.toNatClampNeg) → (∀ H' : Heap, H'[a]? = some (cell.setSlot j.toNatClampNeg (am_v G v)) → H'.size = H.size → (∀ q, q ≠ a → H'[q]? = H[q]?) → W p l e R s m args below meth c H' (locs ++ [⟨a, j.toNatClampNeg⟩]) cells slots Q (F0 m (pc + 1) ls rest)) → W p l e R s m args below meth c H locs cells slots Q (F0 m pc ls (am_v G v :: .int j :: .ref a :: rest))) : am_Snd1 own cc nL ret nm pc (a_ars kd ty (pc + 1)) := by
  intro lv st M pc' lv' st' M' he
  unfold a_ars at he
  split at he
  · split at he
    · rename_i v i a st2 hka
      cases hw : am_wr ty M a i.toInt.toNat v with
      | none => rw [hw] at he; cases he
      | some M2 =>
        rw [hw] at he
        cases he
        have hww := am_wr_s hw
        have hCC : mC M' = mC M := by unfold mC; rw [hww.1]
        have hWW : mW M' = mW M := by unfold mW; rw [hww.1]
        refine ⟨⟨by rw [hCC]; exact Nat.le_refl _, by rw [hWW]; exact Nat.le_refl _⟩, ?_⟩
        intro G p l e R s m args below meth c c0 w0 Q hC _ _ _ _ hV H locs ls kc ks hR hS hL hkc hks
        have h1 := hR.arr hka.1 hc
        refine row hw hC.1 hC.2.1 h1 ((hC.2.2.2.2.2.2.2.2.1.arr hc).1 _ _) (fun h => by cases h) (am_in2 hka.2) (fun H' e1 e2 e3 => ?_)
        exact hV H' _ ls kc ks (hR.ars hka.1 hc hw e1 e2 e3) (hS.put e2 e3 (Nat.le_add_right _ _)) hL (by rw [hCC]; exact hkc) (by rw [hWW]; exact hks)
    · cases he
  · cases he
theorem s_iast (hdg : decode cc pc = .ok (.iastore, 1)) : am_Snd1 own cc nL ret nm pc (a_ars 0 .int (pc + 1)) := s_ars rfl (fun {p l e R s m args below meth c H locs cells slots Q a cell j G M M' b v ls rest} hw h1 h2 h3 h4 h5 h6 k => by
  unfold am_wr at hw
  cases v with
  | int x => exact W.iast h1 h2 h3 h4 h5 h6 rfl rfl hdg k
  | _ => cases hw)
theorem s_last (hdg : decode cc pc = .ok (.lastore, 1)) : am_Snd1 own cc nL ret nm pc (a_ars 1 .long (pc + 1)) := s_ars rfl (fun {p l e R s m args below meth c H locs cells slots Q a cell j G M M' b v ls rest} hw h1 h2 h3 h4 h5 h6 k => by
  unfold am_wr at hw
  cases v with
  | long x => exact W.last h1 h2 h3 h4 h5 h6 rfl rfl hdg k
  | _ => cases hw)
theorem s_zast (hdg : decode cc pc = .ok (.bastore, 1)) : am_Snd1 own cc nL ret nm pc (a_ars 2 .boolean (pc + 1)) := s_ars rfl (fun {p l e R s m args below meth c H locs cells slots Q a cell j G M M' b v ls rest} hw h1 h2 h3 h4 h5 h6 k => by
  have hn := ((am_wr_s hw).2.2.2.2 G).1
  unfold am_wr at hw
  cases v with
  | int x =>
    have hn' : narrow .boolean (.int x) = .int x := hn
    refine W.zast h1 h2 h3 h4 h5 h6 rfl rfl hdg ?_
    rw [hn']
    exact k
  | _ => cases hw)
theorem s_len (hdg : decode cc pc = .ok (.arraylength, 1)) : am_Snd1 own cc nL ret nm pc (a_len (pc + 1)) := by
  intro lv st M pc' lv' st' M' he
  unfold a_len at he
  split at he
  · split at he
    · cases he
      rename_i a st2 hka
      refine ⟨⟨Nat.le_refl _, Nat.le_refl _⟩, ?_⟩
      intro G p l e R s m args below meth c c0 w0 Q hC _ _ _ _ hV H locs ls kc ks hR hS hL hkc hks
      have hlt : mK M a < am_ety.length := hka
      have hc := List.getElem?_eq_getElem hlt
      exact W.alen hC.1 hC.2.1 (hR.arr rfl hc) ((hC.2.2.2.2.2.2.2.2.1.arr hc).1 _ _) (by rw [arrV_size] <;> rfl) rfl rfl hdg (hV H locs ls kc ks hR hS hL hkc hks)
    · cases he
  · cases he
theorem am_uN_C (M : am_M) (sh : am_S) : mC (uN M sh) = mC M + 1 := by
  show (mS M ++ [sh]).length = _
  rw [List.length_append]
  rfl
theorem am_uN_W (M : am_M) (sh : am_S) : mW (uN M sh) = mW M + sh.2 := by
  show ((mS M ++ [sh]).map Prod.snd).sum = _
  simp [mW]
theorem am_fv_new (ty : FieldType) (M : am_M) (sh : am_S) (hty : ty ≠ .float ∧ ty ≠ .double) (G : am_G) (j : Nat) : am_v G (am_fv ty (uN M sh) (mC M) j) = defaultValue ty := by
  unfold am_fv
  cases ty <;> simp [uN, mI, mL, mR, am_z, am_v, defaultValue, va_rf] at hty ⊢
theorem s_newa {kd : Nat} {ty : FieldType} {at' : ArrayType} (hdg : decode cc pc = .ok (.newarray at', 2)) (hc : am_ety[kd]? = some ty) (hat : newarray.typeOf at' = ty) (hw : Cond.arrayClass ty ∈ am_ws) (hby : componentBytes ty ≤ 8) (hty : ty ≠ .float ∧ ty ≠ .double) (hra : ∀ (s : State) (cA : ClassId), va_RA s cA ty → s.vm.findClass ("[" ++ ty.toString) = some cA) : am_Snd1 own cc nL ret nm pc (a_newa kd (pc + 2)) := by
  subst hat
  intro lv st M pc' lv' st' M' he
  unfold a_newa at he
  split at he
  · split at he
    · cases he
      rename_i n st2 hn
      refine ⟨⟨by rw [am_uN_C]; omega, by rw [am_uN_W]; omega⟩, ?_⟩
      intro G p l e R s m args below meth c c0 w0 Q hC hrc hrw _ _ hV H locs ls kc ks hR hS hL hkc hks
      rw [am_uN_C] at hrc
      rw [am_uN_W] at hrw
      have hn0 : ¬ n < 0 := fun q => by
        have := Int32.lt_iff_toInt_lt.mp q
        simp at this
        omega
      have hz := hR.1
      have hle : n.toNatClampNeg ≤ 60000 := by rw [am_cl]; omega
      have hb1 : n.toNatClampNeg * componentBytes (newarray.typeOf at') ≤ 536870912 := Nat.le_trans (Nat.mul_le_mul hle hby) (by decide)
      have hb2 : kc + 1 ≤ R.cells := by omega
      have hb3 : ks + n.toNatClampNeg ≤ R.slots := by rw [am_cl]; simp only at hrw; omega
      refine va_newaK (N := n.toNatClampNeg) hC.1 hC.2.1 (hC.2.2.2.2.1 _ hw) rfl hdg rfl hn0 rfl hb1 hb2 hb3 hz (fun H' cA g1 g2 g3 g4 g5 => ?_)
      have hcA : cA = G.2.2.1 kd := Option.some.inj (g5.symm.trans (hra _ _ (hC.2.2.2.2.2.2.2.2.1.arr hc).2))
      subst hcA
      refine hV H' locs ls (kc + 1) (ks + n.toNatClampNeg) (hR.new (by omega) (fun q hq => g3 q (by omega)) ?_) ⟨by have := hS.1; omega, fun q h1 h2 => by rw [g3 q (by have := hS.1; omega)]; exact hS.2.1 q h1 h2, hS.2.2⟩ hL (by rw [am_uN_C]; omega) (by rw [am_uN_W, am_cl]; simp only; omega)
      refine ⟨fun t ht => ?_, fun ci' r e hr => ?_⟩
      · cases ht.symm.trans hc
        rw [g1]
        congr 2
        funext j
        exact (am_fv_new _ _ _ hty _ _).symm
      · have h1 : kd < 6 := (List.getElem?_eq_some_iff.mp hc).1
        have : kd = 10 + ci' := e
        omega
    · cases he
  · cases he
theorem s_new {ci i : Nat} {C : String} {T : u_T} {N : Nat} (hdg : decode cc pc = .ok (.new i, 3)) (hc : vwCl[ci]? = some (C, T, N)) (hl : Cond.classLink own i C ∈ am_ws) (hinst : Cond.instantiable C N ∈ am_ws) (hini : Cond.initialized C ∈ am_ws) (hin : ∀ w ∈ u_ws C T N, w ∈ am_ws) (htys : ∀ k, k < N → parseFieldDescriptor (T k).2.2.1 = some (am_fty ci k)) (hfl : ∀ k, k < N → am_fty ci k ≠ .float ∧ am_fty ci k ≠ .double) : am_Snd1 own cc nL ret nm pc (a_new ci N (pc + 3)) := by
  intro lv st M pc' lv' st' M' he
  cases he
  refine ⟨⟨by rw [am_uN_C]; omega, by rw [am_uN_W]; omega⟩, ?_⟩
  intro G p l e R s m args below meth c c0 w0 Q hC hrc hrw _ _ hV H locs ls kc ks hR hS hL hkc hks
  rw [am_uN_C] at hrc
  rw [am_uN_W] at hrw
  have hz := hR.1
  have hKn := hC.2.2.2.2.2.2.2.2.1.1.1 ci _ hc
  refine W.newcK hC.1 hC.2.1 hC.2.2.2.1 (hC.2.2.2.2.1 _ hl) (hC.2.2.2.2.1 _ hinst) (hC.2.2.2.2.1 _ hini) rfl hdg (by omega) (by simp only at hrw; omega) hKn.2.1 hz (fun H' kC g0 g1 g2 g3 => ?_)
  refine hV H' locs ls (kc + 1) (ks + N) (hR.new (by omega) (fun q hq => g3 q (by omega)) ?_) ⟨by have := hS.1; omega, fun q h1 h2 => by rw [g3 q (by have := hS.1; omega)]; exact hS.2.1 q h1 h2, hS.2.2⟩ hL (by rw [am_uN_C]; omega) (by rw [am_uN_W]; simp only; omega)
  refine ⟨fun t ht => ?_, fun ci' r e hr => ?_⟩
  · have h1 := (List.getElem?_eq_some_iff.mp ht).1
    simp [am_ety] at h1
    omega
  · have e' : ci' = ci := by have : 10 + ci = 10 + ci' := e; omega
    subst e'
    cases hr.symm.trans hc
    refine ⟨rfl, (u_born (am_fty ci') hC.2.2.2.2.1 hin hKn g0 g1 htys).to (fun k hk => ?_)⟩
    exact (am_fv_new _ _ _ (hfl k hk) _ _).symm
theorem s_obj {i : Nat} (hdg : decode cc pc = .ok (.invokespecial i, 3)) (hl : Cond.methodLink own i objectInit ∈ am_ws) (h2 : Cond.instanceMethod objectInit ∈ am_ws) (h3 : Cond.code objectInit ⟨#[0xb1]⟩ 1 none ∈ am_ws) : am_Snd1 own cc nL ret nm pc (a_obj (pc + 3)) := by
  intro lv st M pc' lv' st' M' he
  unfold a_obj at he
  split at he
  · split at he
    · cases he
      rename_i a st2 hcs
      refine ⟨⟨Nat.le_refl _, Nat.le_refl _⟩, ?_⟩
      intro G p l e R s m args below meth c c0 w0 Q hC _ _ hfr hlo hV H locs ls kc ks hR hS hL hkc hks
      refine W.objInit hC.1 hC.2.1 hC.2.2.2.1 (hC.2.2.2.2.1 _ hl) (hC.2.2.2.2.1 _ h2) (hC.2.2.2.2.1 _ h3) rfl (hL.2.1.trans hC.2.2.1.symm) rfl hdg hfr ?_ (hV H locs ls kc ks hR hS hL hkc hks)
      rw [am_cs_eq]
      show 2 * 0 + _ + 12 ≤ _
      omega
    · cases he
  · cases he
end
end
section
/-! arrays of references, copies, answers -/
section
variable {own : String} {cc : ByteArray} {nL : Nat} {ret : Option FieldType} {nm : String} {pc : Nat}
theorem am_in4 {i : Int32} {n : Nat} (h : am_in i n) {cA : ClassId} {f : Nat → Value} : ¬ i < 0 ∧ i.toNatClampNeg < (arrV cA n f).slots.size := by
  have h1 := am_in2 (cA := cA) (f := f) h
  exact ⟨fun q => h1 (Or.inl q), Nat.not_le.mp fun q => h1 (Or.inr q)⟩
theorem am_aas_o {kd ci : Nat} {C : String} {r : vw_C} (hc : am_ety[kd]? = some (.object C)) (hcl : vwCl[ci]? = some r) (hr : r.1 = C) {p : Program} {l : Launch} {e : Env} {R : Room} {s : State} {m : MethodId} {args : Array Value} {below : List Frame} {meth : Method} {c : Code} {H : Heap} {locs : List Loc} {kc ks : Nat} {Q : State → Prop} {ls : Array Slot} {rest : List Value} {G : am_G} {M : am_M} {a b : Nat} {i : Int32} (hdg : decode cc pc = .ok (.aastore, 1)) (hC : am_Cx G own cc nL ret nm p s m args meth c) (hR : am_R G M H) (hS : va_S (fun q => G.1 ≤ q) s.heap H locs) (ha : mK M a = kd) (hb : mK M b = 10 + ci) (hi : am_in i (mN M a))
    (kk : ∀ (H' : Heap) (locs' : List Loc), am_R G (uR M a i.toInt.toNat (some b)) H' → va_S (fun q => G.1 ≤ q) s.heap H' locs' → W p l e R s m args below meth c H' locs' kc ks Q (F0 m (pc + 1) ls rest)) : W p l e R s m args below meth c H locs kc ks Q (F0 m pc ls (.ref (G.1 + b) :: .int i :: .ref (G.1 + a) :: rest)) := by
  have h1 := hR.arr ha hc
  obtain ⟨-, cellV, g1, g2, g3, -⟩ := hR.obj hb hcl
  have hcls := (hC.2.2.2.2.2.2.2.2.1.1.1 ci r hcl).2
  obtain ⟨kA, comp, k1, k2, k3, -⟩ := (hC.2.2.2.2.2.2.2.2.1.arr hc).2
  rw [← hr] at k3
  have hcomp : comp = G.2.2.2.1 ci := Option.some.inj (k3.symm.trans hcls.1)
  subst hcomp
  have hcls0 := hcls
  obtain ⟨kC, hkC, -⟩ := hcls.2
  refine W.aast hC.1 hC.2.1 h1 (fun q h => by cases h) (fun h => by cases h) k1 k2 rfl hkC (am_in4 hi) g1 (fun q h => by rw [g3] at h; cases h) (by rw [g2]; exact hkC) (by rw [g2]; exact va_assign hcls0) rfl rfl hdg fun H1 e z oq => ?_
  refine kk H1 _ (hR.ars ha hc (v := .ref b) (by rfl) e z oq) (hS.put z oq (Nat.le_add_right _ _))
theorem am_aas_l {p : Program} {l : Launch} {e : Env} {R : Room} {s : State} {m : MethodId} {args : Array Value} {below : List Frame} {meth : Method} {c : Code} {H : Heap} {locs : List Loc} {kc ks : Nat} {Q : State → Prop} {ls : Array Slot} {rest : List Value} {G : am_G} {M : am_M} {a b : Nat} {i : Int32} (hdg : decode cc pc = .ok (.aastore, 1)) (hC : am_Cx G own cc nL ret nm p s m args meth c) (hR : am_R G M H) (hS : va_S (fun q => G.1 ≤ q) s.heap H locs) (ha : mK M a = 5) (hb : mK M b = 1) (hi : am_in i (mN M a))
    (kk : ∀ (H' : Heap) (locs' : List Loc), am_R G (uR M a i.toInt.toNat (some b)) H' → va_S (fun q => G.1 ≤ q) s.heap H' locs' → W p l e R s m args below meth c H' locs' kc ks Q (F0 m (pc + 1) ls rest)) : W p l e R s m args below meth c H locs kc ks Q (F0 m pc ls (.ref (G.1 + b) :: .int i :: .ref (G.1 + a) :: rest)) := by
  have h1 := hR.arr (ty := .array .long) ha rfl
  have h2 := hR.arr (ty := .long) hb rfl
  obtain ⟨kA, kJ, k1, k2, k3, -⟩ := hC.2.2.2.2.2.2.2.2.1.2.2.1
  refine W.aast hC.1 hC.2.1 h1 (fun q h => by cases h) (fun h => by cases h) k1 k2 rfl k3 (am_in4 hi) h2 (fun q h => by cases h) k3 (va_asg _ _) rfl rfl hdg fun H1 e z oq => ?_
  refine kk H1 _ (hR.ars (ty := .array .long) ha rfl (v := .ref b) (by rfl) e z oq) (hS.put z oq (Nat.le_add_right _ _))
theorem s_aas (hdg : decode cc pc = .ok (.aastore, 1)) : am_Snd1 own cc nL ret nm pc (a_aas (pc + 1)) := by
  intro lv st M pc' lv' st' M' he
  unfold a_aas at he
  split at he
  · split at he
    · cases he
      rename_i b i a st2 hka
      refine ⟨⟨Nat.le_refl _, Nat.le_refl _⟩, ?_⟩
      intro G p l e R s m args below meth c c0 w0 Q hC _ _ _ _ hV H locs ls kc ks hR hS hL hkc hks
      obtain ⟨⟨ha, hb⟩ | ⟨ha, hb⟩ | ⟨ha, hb⟩, hi⟩ := hka
      · exact am_aas_o (kd := 3) (ci := 6) rfl rfl rfl hdg hC hR hS ha hb hi (fun H' locs' hR' hS' => hV H' locs' ls kc ks hR' hS' hL hkc hks)
      · exact am_aas_o (kd := 4) (ci := 8) rfl rfl rfl hdg hC hR hS ha hb hi (fun H' locs' hR' hS' => hV H' locs' ls kc ks hR' hS' hL hkc hks)
      · exact am_aas_l hdg hC hR hS ha hb hi (fun H' locs' hR' hS' => hV H' locs' ls kc ks hR' hS' hL hkc hks)
    · cases he
  · cases he
theorem am_newq {kd : Nat} {G : am_G} {M : am_M} {H H' : Heap} {n : Nat} {ty : FieldType} (hc : am_ety[kd]? = some ty) (hR : am_R G M H) (hty : defaultValue ty = .null) (hty2 : ty ≠ .float ∧ ty ≠ .double) (g1 : H'[H.size]? = some (arrV (G.2.2.1 kd) n (fun _ => .null))) (g2 : H'.size = H.size + 1) (g3 : ∀ q, q < H.size → H'[q]? = H[q]?) : am_R G (uN M (kd, n)) H' := by
  refine hR.new g2 g3 ⟨fun t ht => ?_, fun ci' r e hr => ?_⟩
  · cases ht.symm.trans hc
    have hz := hR.1
    rw [hz] at g1
    rw [g1]
    congr 2
    funext j
    rw [am_fv_new _ _ _ hty2, hty]
  · have h1 : kd < 6 := (List.getElem?_eq_some_iff.mp hc).1
    have : kd = 10 + ci' := e
    omega
theorem s_newq {kd i : Nat} {C : String} (hdg : decode cc pc = .ok (.anewarray i, 3)) (hc : am_ety[kd]? = some (.object C)) (hl : Cond.classLink own i C ∈ am_ws) (hw : ∀ (G : am_G) (s : State), am_Kn G s → va_AO C s) : am_Snd1 own cc nL ret nm pc (a_newa kd (pc + 3)) := by
  intro lv st M pc' lv' st' M' he
  unfold a_newa at he
  split at he
  · split at he
    · cases he
      rename_i n st2 hn
      refine ⟨⟨by rw [am_uN_C]; omega, by rw [am_uN_W]; omega⟩, ?_⟩
      intro G p l e R s m args below meth c c0 w0 Q hC hrc hrw _ _ hV H locs ls kc ks hR hS hL hkc hks
      rw [am_uN_C] at hrc
      rw [am_uN_W] at hrw
      have hn0 : ¬ n < 0 := fun q => by
        have := Int32.lt_iff_toInt_lt.mp q
        simp at this
        omega
      have hle : n.toNatClampNeg ≤ 60000 := by rw [am_cl]; omega
      have hb1 : n.toNatClampNeg * 4 ≤ 536870912 := by omega
      have hb2 : kc + 1 ≤ R.cells := by omega
      have hb3 : ks + n.toNatClampNeg ≤ R.slots := by rw [am_cl]; simp only at hrw; omega
      have hz := hR.1
      refine W.anew hC.1 hC.2.1 hC.2.2.2.1 (hC.2.2.2.2.1 _ hl) (va_AO.use (hw _ _ hC.2.2.2.2.2.2.2.2.1)) rfl hdg rfl hn0 hb1 hb2 hb3 fun cA kA comp f1 f2 f3 f4 => ?_
      have hcA : cA = G.2.2.1 kd := by
        obtain ⟨_, _, _, _, _, k4⟩ := (hC.2.2.2.2.2.2.2.2.1.arr hc).2
        exact Option.some.inj (f1.symm.trans k4)
      subst hcA
      generalize hH1 : H.push ({ cls := G.2.2.1 kd, slots := Array.replicate n.toNatClampNeg .null, vm := .none } : Cell) = H1
      have z1 : H1.size = H.size + 1 := by rw [← hH1, Array.size_push]
      have e1 : H1[H.size]? = some (arrV (G.2.2.1 kd) n.toNatClampNeg (fun _ => .null)) := by rw [← hH1, Array.getElem?_push_size, ← arrV_new]
      have o1 : ∀ q : Nat, q < H.size → H1[q]? = H[q]? := fun q hq => by rw [← hH1, Array.getElem?_push, if_neg (Nat.ne_of_lt hq)]
      have hR1 := am_newq hc hR rfl ⟨by simp, by simp⟩ e1 z1 o1
      have e9 : H.size = G.1 + mC M := hz
      have hfin := hV H1 locs ls (kc + 1) (ks + n.toNatClampNeg) hR1 ⟨by have := hS.1; omega, fun q h1 h2 => by rw [o1 q (by have := hS.1; omega)]; exact hS.2.1 q h1 h2, hS.2.2⟩ hL (by rw [am_uN_C]; omega) (by rw [am_uN_W, am_cl]; simp only; omega)
      rw [e9]
      exact hfin
    · cases he
  · cases he
theorem am_nat {z : Int32} (h : 0 ≤ z.toInt) : z.toInt = (z.toNatClampNeg : Int) := by
  show z.toInt = ((z.toInt.toNat : Nat) : Int)
  omega
theorem s_cpl {i : Nat} (hdg : decode cc pc = .ok (.invokestatic i, 3)) (hl : Cond.methodLink own i arraycopyName ∈ am_ws) (h2 : Cond.native arraycopyName ∈ am_ws) (h3 : Cond.static arraycopyName ∈ am_ws) (h4 : Cond.initialized "java/lang/System" ∈ am_ws) : am_Snd1 own cc nL ret nm pc (a_cpl (pc + 3)) := by
  intro lv st M pc' lv' st' M' he
  unfold a_cpl at he
  split at he
  · rename_i n dp b sp a st2
    split at he
    · rename_i hq
      cases he
      obtain ⟨⟨ha, hb⟩, ⟨hsp, hdp, hn⟩, hla, hlb, hcs⟩ := hq
      refine ⟨⟨Nat.le_refl _, Nat.le_refl _⟩, ?_⟩
      intro G p l e R s m args below meth c c0 w0 Q hC _ _ hfr hlo hV H locs ls kc ks hR hS hL hkc hks
      have hn0 : ∀ x : Int32, 0 ≤ x.toInt → ¬ x < 0 := fun x hx q => by
        have := Int32.lt_iff_toInt_lt.mp q
        simp at this
        omega
      have g1 : H[G.1 + a]? = some (arrV (G.2.2.1 1) (mN M a) (fun j => .long (mL M a j))) := hR.arr (ty := .long) ha rfl
      have g2 : H[G.1 + b]? = some (arrV (G.2.2.1 1) (mN M b) (fun j => .long (mL M b j))) := hR.arr (ty := .long) hb rfl
      have hKn := hC.2.2.2.2.2.2.2.2.1.arr (kd := 1) (ty := .long) rfl
      intro T hT X
      obtain ⟨-, k0, hk0, cm0, hkk0⟩ := hKn.1 (mN M a) (fun j => .long (mL M a j))
      obtain ⟨-, k1, hk1, cm1, hkk1⟩ := hKn.1 (mN M b) (fun j => .long (mL M b j))
      obtain ⟨vm', X', step⟩ := X.arraycopy hC.1 hC.2.2.2.1 (hC.2.2.2.2.1 _ hl) (hC.2.2.2.2.1 _ h2) (hC.2.2.2.2.1 _ h3) (hC.2.2.2.2.1 _ h4) (src := G.1 + a) (dst := G.1 + b) (cs := arrV (G.2.2.1 1) (mN M a) (fun j => .long (mL M a j))) (cd := arrV (G.2.2.1 1) (mN M b) (fun j => .long (mL M b j))) (srcPos := sp) (destPos := dp) (n := n) (by rw [hT]; exact g1) (by rw [hT]; exact g2)
        (fun _ h => by cases h) (fun _ h => by cases h) (fun h => by cases h) (fun h => by cases h) hk0 hk1 hkk0 hkk1 (by simp [refKind]) (hn0 _ hsp) (hn0 _ hdp) (hn0 _ hn)
        (by rw [am_nat hsp, am_nat hn, arrV_size, am_cl, am_cl]; omega)
        (by rw [am_nat hdp, am_nat hn, arrV_size, am_cl, am_cl]; omega)
        (fun vm₁ _ i hi => by
          have e : (arrV (G.2.2.1 1) (mN M a) (fun j => .long (mL M a j))).slots.getD (sp.toNatClampNeg + i) .null = .long (mL M a (sp.toNatClampNeg + i)) := by
            rw [Array.getD_eq_getD_getElem?, arrV_read _ _ (by rw [am_cl] at hi ⊢; omega)]
            rfl
          refine ⟨?_, ?_⟩
          · rw [e]; rfl
          · rw [e]; exact trivial)
        (g := F0 m pc ls (.int n :: .int dp :: .ref (G.1 + b) :: .int sp :: .ref (G.1 + a) :: st'.map (am_v G))) rfl (hL.2.1.trans hC.2.2.1.symm) (rest := st'.map (am_v G)) rfl (by rw [hC.2.1]; exact hdg) hfr (by
          rw [am_cs_eq]
          have : nativeFrameWords "java/lang/System" "arraycopy" 5 ≤ 30 := by decide +kernel
          show 2 * 0 + _ + _ ≤ _
          omega)
      have e1 : copied (arrV (G.2.2.1 1) (mN M a) (fun j => .long (mL M a j))) (arrV (G.2.2.1 1) (mN M b) (fun j => .long (mL M b j))) sp dp n = arrV (G.2.2.1 1) (mN M b) (fun j => .long (va_cpy (mL M a) (mL M b) sp.toNatClampNeg dp.toNatClampNeg n.toNatClampNeg j)) := va_copied (fun z => .long z) _ _ _ _ hla
      rw [e1] at X' step
      have hlt : G.1 + b < H.size := (Array.getElem?_eq_some_iff.mp g2).1
      generalize hnew : arrV (G.2.2.1 1) (mN M b) (fun j => .long (va_cpy (mL M a) (mL M b) sp.toNatClampNeg dp.toNatClampNeg n.toNatClampNeg j)) = nw at X' step
      have hheap : ((T.setVm vm').setCell (G.1 + b) nw).heap = H.setIfInBounds (G.1 + b) nw := by rw [← hT]; rfl
      have oq : ∀ q : Nat, q ≠ G.1 + b → (H.setIfInBounds (G.1 + b) nw)[q]? = H[q]? := fun q hq => by simp [Array.getElem?_setIfInBounds, Ne.symm hq]
      have hRn : am_R G (uCL M a sp.toInt.toNat b dp.toInt.toNat n.toInt.toNat) (H.setIfInBounds (G.1 + b) nw) := by
        refine hR.set rfl (fun k hk ty j => ?_) (by simp) oq (fun sh hsh => ?_)
        · unfold am_fv
          cases ty <;> simp [uCL, mI, mL, mR, hk]
        · have hsh2 := mS_of hb (by omega)
          rw [hsh] at hsh2
          cases hsh2
          refine ⟨fun t ht => ?_, fun ci' r e hr => ?_⟩
          · cases ht
            show (H.setIfInBounds (G.1 + b) nw)[G.1 + b]? = _
            rw [Array.getElem?_setIfInBounds, if_pos rfl, if_pos hlt, ← hnew]
            congr 2
            funext j
            show Value.long _ = am_v G (am_fv .long _ b j)
            unfold am_fv
            simp only [am_v, mL, uCL, va_cpy, am_cl, true_and]
          · have : 1 = 10 + ci' := e
            omega
      obtain ⟨t, a1, b1⟩ := hV _ _ ls kc ks hRn ⟨by simp; exact hS.1, fun q g1 g2 => by
          rw [oq q (fun e => g2 (by rw [e]; exact Nat.le_add_right _ _))]
          exact hS.2.1 q g1 g2, fun q hq => by
          rcases List.mem_append.mp hq with h | h
          · exact hS.2.2 q h
          · obtain ⟨z, -, hz⟩ := List.mem_map.mp h
            rw [← hz]
            exact Nat.le_add_right _ _⟩ hL hkc hks _ hheap X'
      exact ⟨t, step t a1, b1⟩
    · cases he
  · cases he
end
end
section
/-! answers and calls; then: the machine follows a whole run -/
def k_vret : am_Act := fun _ st M => match st with
  | [] => some (.inr (.inl (none, M)))
  | _ => none
def k_iret : am_Act := fun _ st M => match st with
  | [.int x] => some (.inr (.inl (some (.int x), M)))
  | _ => none
def k_zret : am_Act := fun _ st M => match st with
  | [.int x] => if x = 0 ∨ x = 1 then some (.inr (.inl (some (.int x), M))) else none
  | _ => none
def k_lret : am_Act := fun _ st M => match st with
  | [.long x] => some (.inr (.inl (some (.long x), M)))
  | _ => none
def k_aret : am_Act := fun _ st M => match st with
  | [.ref x] => some (.inr (.inl (some (.ref x), M)))
  | [.null] => some (.inr (.inl (some .null, M)))
  | _ => none
def am_pop : Nat → List Value → List Value → Option (List Value × List Value)
  | 0, st, acc => some (acc, st)
  | n + 1, v :: st, acc => if am_flo v = true then none else am_pop n st (v :: acc)
  | _ + 1, [], _ => none
def am_okc (mx : Nat) (as st : List Value) : Bool := decide ((am_en as).length ≤ mx) && decide (am_cs st ≤ 8)
def k_cs (y n mx nx : Nat) : am_Act := fun lv st M => match am_pop n st [] with
  | some (as, st') => if am_okc mx as st' = true then some (.inr (.inr (y, as, nx, lv, st', M))) else none
  | none => none
def k_cv (y ci n mx nx : Nat) : am_Act := fun lv st M => match am_pop n st [] with
  | some (as, .ref b :: st') => if mK M b = 10 + ci ∧ am_okc mx (.ref b :: as) st' = true then some (.inr (.inr (y, .ref b :: as, nx, lv, st', M))) else none
  | _ => none
theorem am_pop_s : ∀ (n : Nat) (st acc as st' : List Value), am_pop n st acc = some (as, st') → ∃ l : List Value, st = l ++ st' ∧ l.length = n ∧ as = l.reverse ++ acc ∧ ∀ v ∈ l, am_flo v = false := by
  intro n
  induction n with
  | zero => intro st acc as st' h; cases h; exact ⟨[], rfl, rfl, rfl, fun v h => by cases h⟩
  | succ n ih =>
    intro st acc as st' h
    cases st with
    | nil => cases h
    | cons v st =>
      rw [am_pop] at h
      split at h
      · cases h
      · rename_i hf
        obtain ⟨l, h1, h2, h3, h4⟩ := ih st (v :: acc) as st' h
        refine ⟨v :: l, by rw [h1]; rfl, by simp [h2], by rw [h3]; simp, fun w hw => ?_⟩
        rcases List.mem_cons.mp hw with rfl | hw
        · simpa using hf
        · exact h4 w hw
section
variable {P : Nat → am_Y} {own : String} {cc : ByteArray} {nL : Nat} {ret : Option FieldType} {nm : String} {pc : Nat}
/-- an answer: the rows of the kit by their type -/
theorem am_sr {act : am_Act} (h : ∀ (lv st : List Value) (M : am_M) (o), act lv st M = some o → ∃ v, o = .inr (.inl (v, M)) ∧ ∀ (G : am_G) (p : Program) (l : Launch) (e : Env) (R : Room) (s : State) (m : MethodId) (args : Array Value) (below : List Frame) (meth : Method) (c : Code) (Qc : Array Value → State → Outcome → State → Prop) (H : Heap) (locs : List Loc) (ls : Array Slot) (kc ks : Nat), am_Cx G own cc nL ret nm p s m args meth c → (∀ t : State, t.heap = H → s.WarmedH t.vm → Qc args s (.returned (v.map (am_v G))) t) → (∀ q ∈ locs, am_free G q.base) → W p l e R s m args below meth c H locs kc ks (MQ below Qc args s kc ks (am_free G)) (F0 m pc ls (st.map (am_v G)))) : am_Snd P own cc nL ret nm pc act := by
  intro lv st M
  refine ⟨fun pc' lv' st' M' he => ?_, fun v M' he => ?_, fun y as pc' lv' st' M' he => ?_⟩
  · obtain ⟨v, h1, -⟩ := h lv st M _ he; cases h1
  · obtain ⟨v', h1, h2⟩ := h lv st M _ he
    cases h1
    refine ⟨rfl, ?_⟩
    intro G p l e R s m args below meth c c0 w0 Qc mc ms hC hkc hks hQ H locs ls kc' ks' hR hS hL hkc' hks'
    have e1 : kc' = mc := by omega
    have e2 : ks' = ms := by omega
    subst e1; subst e2
    exact h2 G p l e R s m args below meth c Qc H locs ls kc' ks' hC (fun t ht hW => hQ t hW (by rw [ht]; exact hR) (hS.F ht)) hS.2.2
  · obtain ⟨v, h1, -⟩ := h lv st M _ he; cases h1
theorem s_vret (hdg : decode cc pc = .ok (.return_, 1)) (hr : ret = none) : am_Snd P own cc nL ret nm pc k_vret := am_sr fun lv st M o he => by
  unfold k_vret at he
  split at he <;> cases he
  exact ⟨none, rfl, fun G p l e R s m args below meth c Qc H locs ls kc ks hC hQ hf => W.vret hC.1 hC.2.1 (hC.2.2.2.2.2.1.trans hr) hQ hf hdg hC.2.2.2.2.2.2.1⟩
theorem s_iret (hdg : decode cc pc = .ok (.ireturn, 1)) (hr : ret = some .int) : am_Snd P own cc nL ret nm pc k_iret := am_sr fun lv st M o he => by
  unfold k_iret at he
  split at he <;> cases he
  rename_i x
  exact ⟨some (.int x), rfl, fun G p l e R s m args below meth c Qc H locs ls kc ks hC hQ hf => W.iret hC.1 hC.2.1 (hC.2.2.2.2.2.1.trans hr) hQ hf hdg hC.2.2.2.2.2.2.1⟩
theorem s_zret (hdg : decode cc pc = .ok (.ireturn, 1)) (hr : ret = some .boolean) : am_Snd P own cc nL ret nm pc k_zret := am_sr fun lv st M o he => by
  unfold k_zret at he
  split at he
  · split at he <;> cases he
    rename_i x hx
    exact ⟨some (.int x), rfl, fun G p l e R s m args below meth c Qc H locs ls kc ks hC hQ hf => W.zret hC.1 hC.2.1 (hC.2.2.2.2.2.1.trans hr) (by rcases hx with rfl | rfl <;> rfl) hQ hf hdg hC.2.2.2.2.2.2.1⟩
  · cases he
theorem s_lret (hdg : decode cc pc = .ok (.lreturn, 1)) (hr : ret = some .long) : am_Snd P own cc nL ret nm pc k_lret := am_sr fun lv st M o he => by
  unfold k_lret at he
  split at he <;> cases he
  rename_i x
  exact ⟨some (.long x), rfl, fun G p l e R s m args below meth c Qc H locs ls kc ks hC hQ hf => W.lret hC.1 hC.2.1 (hC.2.2.2.2.2.1.trans hr) hQ hf hdg hC.2.2.2.2.2.2.1⟩
theorem s_aret {rt : FieldType} (hdg : decode cc pc = .ok (.areturn, 1)) (hr : ret = some rt) (hrt : (∃ n, rt = .object n) ∨ ∃ t, rt = .array t) : am_Snd P own cc nL ret nm pc k_aret := am_sr fun lv st M o he => by
  unfold k_aret at he
  split at he <;> cases he
  · rename_i x
    exact ⟨some (.ref x), rfl, fun G p l e R s m args below meth c Qc H locs ls kc ks hC hQ hf => W.aret hC.1 hC.2.1 (hC.2.2.2.2.2.1.trans hr) hrt (Or.inr ⟨_, rfl⟩) hQ hf hdg hC.2.2.2.2.2.2.1⟩
  · exact ⟨some .null, rfl, fun G p l e R s m args below meth c Qc H locs ls kc ks hC hQ hf => W.aret hC.1 hC.2.1 (hC.2.2.2.2.2.1.trans hr) hrt (Or.inl rfl) hQ hf hdg hC.2.2.2.2.2.2.1⟩
theorem am_ws_good {args : Array Value} {s : State} (hts : ∀ w ∈ am_ws, w.before args s = true) {w0 : Cond} (h0 : w0 ∈ am_ws) : ∀ w ∈ w0 :: am_ws, ∀ (a' : Array Value) (U : State), s.WarmedH U.vm → w.before a' U = true := by
  have h : ∀ w ∈ am_ws, ∀ (a' : Array Value) (U : State), s.WarmedH U.vm → w.before a' U = true := fun w hw a' U hW => word_at hW (good_of_word (List.mem_filter.mp hw).2) (hts w hw)
  intro w hw
  rcases List.mem_cons.mp hw with rfl | hw
  · exact h _ h0
  · exact h _ hw
theorem am_blind (G : am_G) (as : List Value) (M : am_M) : FrameBlind (am_Pc G as M) := fun a U g mk q => ⟨q.1, q.2.1, am_Kn.vm (s := U) (U := U.calling g mk a) rfl q.2.2⟩
/-- behind a call -/
theorem am_back {p : Program} {l : Launch} {e : Env} {R : Room} {s : State} {m : MethodId} {args : Array Value} {below : List Frame} {meth : Method} {c : Code} {c0 w0 : Nat} {Q : State → Prop} {G : am_G} {lv st' : List Value} {M M2 : am_M} {r : Option Value} {H : Heap} {locs : List Loc} {ls : Array Slot} {kc ks : Nat} {a : Array Value} {stk : List Value}
    (hrun : va_Run p l e R s m args below meth c H locs kc ks (mC M2 - mC M) (mW M2 - mW M) (F0 m pc ls stk) (st'.map (am_v G)) (am_Qc G r M2 a) (am_free G)) (hS : va_S (fun q => G.1 ≤ q) s.heap H locs) (hL : am_L G nL ls lv) (hkc : mC M = c0 + kc) (hks : mW M = w0 + ks) (h1 : mC M ≤ mC M2) (h2 : mW M ≤ mW M2) (hV : am_V G nL p l e R s m args below meth c c0 w0 Q (pc + 3) lv (am_push r st') M2) : W p l e R s m args below meth c H locs kc ks Q (F0 m pc ls stk) := by
  intro T hT X
  obtain ⟨v, st₀, t, T', L, g1, X', g2, g3, g4, ⟨g5, g6, g7⟩, st⟩ := hrun T hT X
  cases g5
  have hS' : va_S (fun q => G.1 ≤ q) s.heap t.heap (locs ++ L) := by
    refine ⟨Nat.le_trans hS.1 (by rw [← g1]; exact g7.1), fun q q1 q2 => ?_, fun z hz => ?_⟩
    · rw [g7.2 q (by rw [g1]; exact Nat.lt_of_lt_of_le q1 hS.1) q2, g1]
      exact hS.2.1 q q1 q2
    · rcases List.mem_append.mp hz with h | h
      · exact hS.2.2 z h
      · exact g2 z h
  have hW := hV t.heap (locs ++ L) ls (kc + (mC M2 - mC M)) (ks + (mW M2 - mW M)) g6 hS' hL (by omega) (by omega)
  obtain ⟨t2, a1, b1⟩ := hW T' g3 X'
  refine ⟨t2, st t2 ?_, b1⟩
  cases r <;> exact a1
theorem am_Bc {p : Program} {R : Room} {s : State} {m : MethodId} {args : Array Value} {meth : Method} {c : Code} {G : am_G} {M M2 : am_M} {y i n d : Nat} (hC : am_Cx G own cc nL ret nm p s m args meth c) (hd1 : d + 2 ≤ R.frames) (hd2 : 64 * (d + 2) ≤ R.locals) (hmx : (P y).2.2.1 ≤ 45) (hl : Cond.methodLink own i (P y).1 ∈ am_ws) (hini : Cond.initialized (P y).1.cls ∈ am_ws) (hcode : Cond.code (P y).1 (P y).2.1 (P y).2.2.1 (P y).2.2.2.1 ∈ am_ws) (hnm : (P y).1.cls ≠ "java/lang/invoke/MethodHandle" ∧ (P y).1.cls ≠ "java/lang/invoke/VarHandle") (hdesc : (parseMethodDescriptor (P y).1.desc).map (fun d => d.parameters.length) = some n) : CallB R s args own i (P y).1 (P y).2.1 (P y).2.2.1 (P y).2.2.2.1 (.code (P y).1 (P y).2.1 (P y).2.2.1 (P y).2.2.2.1 :: am_ws) (am_rm d (mC M2 - mC M) (mW M2 - mW M)) (mC M2 - mC M) (mW M2 - mW M) n := by
  refine ⟨rfl, rfl, hd1, ?_, am_ws_good hC.2.2.2.2.1 hcode, List.mem_cons_self, hC.2.2.2.2.1 _ hcode, hC.2.2.2.2.1 _ hini, hnm, fun sig h => ?_, hC.2.2.2.2.1 _ hl⟩
  · show 8 + ((P y).2.2.1 + 11) + 64 * (d + 1) ≤ R.locals
    omega
  · rw [h] at hdesc
    exact (Option.some.inj hdesc).symm
theorem s_cs {y i n : Nat} (hdg : decode cc pc = .ok (.invokestatic i, 3)) (hmx : (P y).2.2.1 ≤ 45) (hl : Cond.methodLink own i (P y).1 ∈ am_ws) (hst : Cond.static (P y).1 ∈ am_ws) (hini : Cond.initialized (P y).1.cls ∈ am_ws) (hcode : Cond.code (P y).1 (P y).2.1 (P y).2.2.1 (P y).2.2.2.1 ∈ am_ws) (hnm : (P y).1.cls ≠ "java/lang/invoke/MethodHandle" ∧ (P y).1.cls ≠ "java/lang/invoke/VarHandle") (hdesc : (parseMethodDescriptor (P y).1.desc).map (fun d => d.parameters.length) = some n) : am_Snd P own cc nL ret nm pc (k_cs y n (P y).2.2.1 (pc + 3)) := by
  intro lv st M
  refine ⟨fun pc' lv' st' M' he => ?_, fun v M' he => ?_, fun y' as pc' lv' st' M' he => ?_⟩
  · unfold k_cs at he
    split at he
    · split at he <;> cases he
    · cases he
  · unfold k_cs at he
    split at he
    · split at he <;> cases he
    · cases he
  · unfold k_cs at he
    split at he
    · rename_i as2 st2 hpop
      split at he
      · rename_i hok
        cases he
        obtain ⟨lst, q1, q2, q3, q4⟩ := am_pop_s _ _ _ _ _ hpop
        rw [List.append_nil] at q3
        have hlen : (am_en as).length ≤ (P y).2.2.1 := by unfold am_okc at hok; simp at hok; exact hok.1
        refine ⟨rfl, ⟨hlen, fun v hv => q4 v (by rw [q3] at hv; exact List.mem_reverse.mp hv)⟩, ?_⟩
        intro G p l e R s m args below meth c c0 w0 d r M2 Q hC hM h1 h2 h3 h4 h5 h6 hV H locs ls kc ks hR hS hL hkc hks
        have hcs : am_cs st' ≤ 8 := by unfold am_okc at hok; simp at hok; exact hok.2
        have hrun := va_runS (p := p) (e := e) (below := below) (meth := meth) (H := H) (locs := locs) (cells := kc) (slots := ks) (As := as.map (am_v G)) (rest := st'.map (am_v G)) (g := F0 m pc ls (st.map (am_v G))) (n := n) ⟨hC.1, hC.2.1, hC.2.2.1, hC.2.2.2.1, hC.2.2.2.2.1⟩ hM ⟨am_Bc hC h5 h6 hmx hl hini hcode hnm hdesc, hC.2.2.2.2.1 _ hst⟩ ⟨am_blind G as M, fun U hU hW => ⟨rfl, by rw [hU]; exact hR, hC.2.2.2.2.2.2.2.2.1.warm hW⟩⟩ rfl (by rw [List.length_map, q3, List.length_reverse]; exact q2) hL.2.1 (by show st.map (am_v G) = _; rw [q1, q3, List.map_append, List.map_reverse, List.reverse_reverse]) (by rw [am_cs_eq]; show 2 * 0 + _ ≤ _; omega) hdg ⟨by omega, by omega⟩
        exact am_back hrun hS hL hkc hks h1 h2 hV
      · cases he
    · cases he
theorem am_cvs {y ci n : Nat} (row : ∀ (G : am_G) (p : Program) (l : Launch) (e : Env) (R : Room) (s : State) (m : MethodId) (args : Array Value) (below : List Frame) (meth : Method) (c : Code) (d : Nat) (r : Option Value) (M M2 : am_M) (H : Heap) (locs : List Loc) (ls : Array Slot) (kc ks b : Nat) (as rest : List Value), am_Cx G own cc nL ret nm p s m args meth c → am_Met P G l y d (.ref b :: as) M r M2 → mK M b = 10 + ci → am_R G M H → d + 2 ≤ R.frames → 64 * (d + 2) ≤ R.locals → as.length = n → ls.size = nL → am_cs rest ≤ 8 → kc + (mC M2 - mC M) ≤ R.cells ∧ ks + (mW M2 - mW M) ≤ R.slots → va_Run p l e R s m args below meth c H locs kc ks (mC M2 - mC M) (mW M2 - mW M) (F0 m pc ls ((as.map (am_v G)).reverse ++ .ref (G.1 + b) :: rest.map (am_v G))) (rest.map (am_v G)) (am_Qc G r M2 (Value.ref (G.1 + b) :: as.map (am_v G)).toArray) (am_free G)) : am_Snd P own cc nL ret nm pc (k_cv y ci n (P y).2.2.1 (pc + 3)) := by
  intro lv st M
  refine ⟨fun pc' lv' st' M' he => ?_, fun v M' he => ?_, fun y' as pc' lv' st' M' he => ?_⟩
  · unfold k_cv at he
    split at he
    · split at he <;> cases he
    · cases he
  · unfold k_cv at he
    split at he
    · split at he <;> cases he
    · cases he
  · unfold k_cv at he
    split at he
    · rename_i as2 b st2 hpop
      split at he
      · rename_i hok
        cases he
        obtain ⟨lst, q1, q2, q3, q4⟩ := am_pop_s _ _ _ _ _ hpop
        rw [List.append_nil] at q3
        obtain ⟨hk, hok⟩ := hok
        have hlen : (am_en (.ref b :: as2)).length ≤ (P y).2.2.1 := by unfold am_okc at hok; rw [Bool.and_eq_true] at hok; exact of_decide_eq_true hok.1
        refine ⟨rfl, ⟨hlen, fun v hv => ?_⟩, ?_⟩
        · rcases List.mem_cons.mp hv with rfl | hv
          · rfl
          · exact q4 v (by rw [q3] at hv; exact List.mem_reverse.mp hv)
        intro G p l e R s m args below meth c c0 w0 d r M2 Q hC hM h1 h2 h3 h4 h5 h6 hV H locs ls kc ks hR hS hL hkc hks
        have hcs : am_cs st' ≤ 8 := by unfold am_okc at hok; simp at hok; exact hok.2
        have hrun := row G p l e R s m args below meth c d r M M2 H locs ls kc ks b as2 st' hC hM hk hR h5 h6 (by rw [q3, List.length_reverse]; exact q2) hL.2.1 hcs ⟨by omega, by omega⟩
        have e9 : st.map (am_v G) = (as2.map (am_v G)).reverse ++ .ref (G.1 + b) :: st'.map (am_v G) := by
          rw [q1, q3, List.map_append, List.map_reverse, List.reverse_reverse]
          rfl
        rw [e9]
        exact am_back hrun hS hL hkc hks h1 h2 hV
      · cases he
    · cases he
theorem s_cv {y ci i n : Nat} {C : String} {T : u_T} {N : Nat} (hdg : decode cc pc = .ok (.invokevirtual i, 3)) (hc : vwCl[ci]? = some (C, T, N)) (hmx : (P y).2.2.1 ≤ 45) (hl : Cond.methodLink own i (P y).1 ∈ am_ws) (hin : Cond.instanceMethod (P y).1 ∈ am_ws) (hsel : Cond.selects C (P y).1 (P y).1 ∈ am_ws) (hini : Cond.initialized (P y).1.cls ∈ am_ws) (hcode : Cond.code (P y).1 (P y).2.1 (P y).2.2.1 (P y).2.2.2.1 ∈ am_ws) (hnm : (P y).1.cls ≠ "java/lang/invoke/MethodHandle" ∧ (P y).1.cls ≠ "java/lang/invoke/VarHandle") (hdesc : (parseMethodDescriptor (P y).1.desc).map (fun d => d.parameters.length) = some n) : am_Snd P own cc nL ret nm pc (k_cv y ci n (P y).2.2.1 (pc + 3)) := am_cvs fun G p l e R s m args below meth c d r M M2 H locs ls kc ks b as rest hC hM hk hR h5 h6 hn hsz hcs hroom => by
  obtain ⟨-, cell, g1, g2, g3, -⟩ := hR.obj hk hc
  have hcl := (hC.2.2.2.2.2.2.2.2.1.1.1 ci _ hc).2.1
  exact va_runV (C := C) (n := n) ⟨hC.1, hC.2.1, hC.2.2.1, hC.2.2.2.1, hC.2.2.2.2.1⟩ hM ⟨am_Bc hC h5 h6 hmx hl hini hcode hnm hdesc, hC.2.2.2.2.1 _ hin, hC.2.2.2.2.1 _ hsel⟩ ⟨am_blind G _ M, ⟨cell, g1, by rw [g3]; rfl, by rw [g2]; exact hcl⟩, fun U hU hW => ⟨rfl, by rw [hU]; exact hR, hC.2.2.2.2.2.2.2.2.1.warm hW⟩⟩ rfl (by rw [List.length_map]; exact hn) hsz rfl (by rw [am_cs_eq]; show 2 * 0 + _ ≤ _; omega) hdg hroom
theorem s_ci {y ci i n : Nat} (hdg : decode cc pc = .ok (.invokespecial i, 3)) (hmx : (P y).2.2.1 ≤ 45) (hret : (P y).2.2.2.1 = none) (hl : Cond.methodLink own i (P y).1 ∈ am_ws) (hin : Cond.instanceMethod (P y).1 ∈ am_ws) (hnm1 : (P y).1.name = "<init>") (hini : Cond.initialized (P y).1.cls ∈ am_ws) (hcode : Cond.code (P y).1 (P y).2.1 (P y).2.2.1 (P y).2.2.2.1 ∈ am_ws) (hnm : (P y).1.cls ≠ "java/lang/invoke/MethodHandle" ∧ (P y).1.cls ≠ "java/lang/invoke/VarHandle") (hdesc : (parseMethodDescriptor (P y).1.desc).map (fun d => d.parameters.length) = some n) : am_Snd P own cc nL ret nm pc (k_cv y ci n (P y).2.2.1 (pc + 3)) := am_cvs fun G p l e R s m args below meth c d r M M2 H locs ls kc ks b as rest hC hM hk hR h5 h6 hn hsz hcs hroom => by
  have hB := am_Bc (M := M) (M2 := M2) (P := P) hC h5 h6 hmx hl hini hcode hnm hdesc
  unfold am_Met at hM
  rw [hret] at hB hM
  exact va_runI (n := n) ⟨hC.1, hC.2.1, hC.2.2.1, hC.2.2.2.1, hC.2.2.2.2.1⟩ hM ⟨hB, hnm1, hC.2.2.2.2.1 _ hin⟩ ⟨am_blind G _ M, fun U hU hW => ⟨rfl, by rw [hU]; exact hR, hC.2.2.2.2.2.2.2.2.1.warm hW⟩⟩ rfl (by rw [List.length_map]; exact hn) hsz rfl (by rw [am_cs_eq]; show 2 * 0 + _ ≤ _; omega) hdg hroom
theorem s_cin {y ci i n : Nat} {host : String} (hdg : decode cc pc = .ok (.invokespecial i, 3)) (hmx : (P y).2.2.1 ≤ 45) (hret : (P y).2.2.2.1 = none) (hl : Cond.methodLinkNest own i (P y).1 host ∈ am_nw) (hin : Cond.instanceMethod (P y).1 ∈ am_ws) (hnm1 : (P y).1.name = "<init>") (hini : Cond.initialized (P y).1.cls ∈ am_ws) (hcode : Cond.code (P y).1 (P y).2.1 (P y).2.2.1 (P y).2.2.2.1 ∈ am_ws) (hnm : (P y).1.cls ≠ "java/lang/invoke/MethodHandle" ∧ (P y).1.cls ≠ "java/lang/invoke/VarHandle") (hdesc : (parseMethodDescriptor (P y).1.desc).map (fun d => d.parameters.length) = some n) : am_Snd P own cc nL ret nm pc (k_cv y ci n (P y).2.2.1 (pc + 3)) := am_cvs fun G p l e R s m args below meth c d r M M2 H locs ls kc ks b as rest hC hM hk hR h5 h6 hn hsz hcs hroom => by
  unfold am_Met at hM
  rw [hret] at hM hcode
  have hB : va_CN R s args own i (P y).1 host (P y).2.1 (P y).2.2.1 none (.code (P y).1 (P y).2.1 (P y).2.2.1 none :: am_ws) (am_rm d (mC M2 - mC M) (mW M2 - mW M)) (mC M2 - mC M) (mW M2 - mW M) n := by
    refine ⟨⟨rfl, rfl, h5, ?_, am_ws_good hC.2.2.2.2.1 hcode, List.mem_cons_self⟩, hC.2.2.2.2.1 _ hcode, hC.2.2.2.2.1 _ hini, hnm, fun sig h => ?_, va_Nw.use rfl (hC.2.2.2.2.2.2.2.2.1.2.1 _ hl)⟩
    · show 8 + ((P y).2.2.1 + 11) + 64 * (d + 1) ≤ R.locals
      omega
    · rw [h] at hdesc
      exact (Option.some.inj hdesc).symm
  exact va_runIN (n := n) ⟨hC.1, hC.2.1, hC.2.2.1, hC.2.2.2.1, hC.2.2.2.2.1⟩ hM ⟨hB, hnm1, hC.2.2.2.2.1 _ hin⟩ ⟨am_blind G _ M, fun U hU hW => ⟨rfl, by rw [hU]; exact hR, hC.2.2.2.2.2.2.2.2.1.warm hW⟩⟩ rfl (by rw [List.length_map]; exact hn) hsz rfl (by rw [am_cs_eq]; show 2 * 0 + _ ≤ _; omega) hdg hroom
end
end
section
/-! every run of AM is a contract of the machine -/
theorem am_en_len (G : am_G) (as : List Value) (hf : ∀ v ∈ as, am_flo v = false) : (lg_sl (as.map (am_v G))).length = (am_en as).length := by
  induction as with
  | nil => rfl
  | cons v vs ih =>
    have h1 := ih (fun w hw => hf w (List.mem_cons_of_mem _ hw))
    have h2 := hf v List.mem_cons_self
    unfold lg_sl at *
    rw [List.map_cons, List.flatMap_cons, List.length_append, h1, am_v_cat, am_en]
    cases v <;> simp [Value.category, am_long, am_flo] at h2 ⊢ <;> omega
theorem am_en_get (G : am_G) (as : List Value) : (∀ v ∈ as, am_flo v = false) → ∀ (i : Nat) (v : Value), (am_en as)[i]? = some v → am_flo v = false → (lg_sl (as.map (am_v G)))[i]? = some (.val (am_v G v)) := by
  induction as with
  | nil => intro _ i v h; simp [am_en] at h
  | cons w ws ih =>
    intro hf i v h hv
    have ih1 := ih (fun w hw => hf w (List.mem_cons_of_mem _ hw))
    have h2 := hf w List.mem_cons_self
    unfold lg_sl at ih1 ⊢
    rw [List.map_cons, List.flatMap_cons, am_v_cat]
    rw [am_en] at h
    by_cases hl : am_long w = true
    · rw [if_pos hl] at h
      have hc : w.category = 2 := by cases w <;> simp [am_long, Value.category] at hl ⊢
      rw [if_pos hc]
      match i, h with
      | 0, h => simp at h; subst h; rfl
      | 1, h => simp at h; subst h; simp [am_flo] at hv
      | i + 2, h =>
        simp only [List.getElem?_cons_succ] at h
        exact ih1 i v h hv
    · rw [if_neg hl] at h
      have hc : ¬ w.category = 2 := by cases w <;> simp [am_long, am_flo, Value.category] at hl h2 ⊢
      rw [if_neg hc]
      match i, h with
      | 0, h => simp at h; subst h; rfl
      | i + 1, h =>
        simp only [List.getElem?_cons_succ] at h
        exact ih1 i v h hv
theorem am_L_entry (G : am_G) {n : Nat} {as : List Value} (hlen : (am_en as).length ≤ n) (hf : ∀ v ∈ as, am_flo v = false) : am_L G n ((lg_sl (as.map (am_v G)) ++ List.replicate (n - (lg_sl (as.map (am_v G))).length) Slot.unset).toArray) (am_pad n (am_en as)) := by
  have e := am_en_len G as hf
  have h := lv_entry (as.map (am_v G)) (n := n) (by rw [e]; exact hlen)
  refine ⟨by unfold am_pad; simp; omega, h.1, h.2.1, fun i v hi hv => ?_⟩
  unfold am_pad at hi
  by_cases hl : i < (am_en as).length
  · rw [List.getElem?_append_left hl] at hi
    have h2 := am_en_get G as hf i v hi hv
    rw [List.getElem?_toArray, List.getElem?_append_left (by rw [e]; exact hl)]
    exact h2
  · rw [List.getElem?_append_right (by omega), List.getElem?_replicate] at hi
    split at hi
    · cases hi; simp [am_flo] at hv
    · cases hi
theorem am_met {P : Nat → am_Y} (hP : ∀ y, am_SndM P y) (hpl : ∀ y, plainName (P y).1.cls = true) (G : am_G) (l : Launch) : ∀ (d n y : Nat) (as : List Value) (M : am_M) (r : Option Value) (M2 : am_M), am_aok P y as → am_run P n d (P y).2.2.2.2 0 (am_pad (P y).2.2.1 (am_en as)) [] M = some (r, M2) → am_Met P G l y d as M r M2 := by
  intro d
  induction d using Nat.strongRecOn with
  | _ d ih =>
    intro n y as M r M2 hok hrun
    have hgrow := am_run_grows hP n d _ _ _ _ _ _ _ _ _ _ _ _ (hP y) hrun
    unfold am_Met
    refine Met.ofW (cc := (P y).2.1) (maxL := (P y).2.2.1) (ret := (P y).2.2.2.1) (hpl y) rfl ?_
    intro p e s m args below meth c s₁ B hml hv
    obtain ⟨rfl, hR, hK⟩ := hv
    have hC : am_Cx G (P y).1.cls (P y).2.1 (P y).2.2.1 (P y).2.2.2.1 (P y).1.name p s m (as.map (am_v G)).toArray meth c := ⟨B.exec, B.bytes, hml, findClass_of_methodNamed B.named, fun w hw => atoms_spec (ws := .code (P y).1 (P y).2.1 (P y).2.2.1 (P y).2.2.2.1 :: am_ws) B.pre w (List.mem_cons_of_mem _ hw), B.returns, B.notSynchronized, (name_of_methodNamed B.named B.method).1, hK, by rw [hR.1]; exact Nat.le_add_right _ _⟩
    have key := am_run_V hP (G := G) (l := l) (d0 := d) (fun n' d' y' as' M' r' M2' hd' hok' hrun' => ih d' hd' n' y' as' M' r' M2' hok' hrun') (hP y) (e := e) (below := below) hC (c0 := mC M) (w0 := mW M) (R := am_rm d (mC M2 - mC M) (mW M2 - mW M)) (Q := MQ below (am_Qc G r M2) (as.map (am_v G)).toArray s (mC M2 - mC M) (mW M2 - mW M) (am_free G)) (r := r) (M2 := M2) (by show mC M2 ≤ mC M + (mC M2 - mC M); omega) (by show mW M2 ≤ mW M + (mW M2 - mW M); omega)
      (fun pc lv st heq => ((hP y pc lv st M2).2.1 r M2 heq).2 G p l e _ s m _ below meth c (mC M) (mW M) (am_Qc G r M2) (mC M2 - mC M) (mW M2 - mW M) hC (by omega) (by omega) (fun t hW hR' hF => ⟨rfl, hR', hF⟩)) n d 0 _ [] M (Nat.le_refl _) hrun (Nat.le_refl _) (Nat.le_refl _)
    have key2 := key s.heap [] _ 0 0 hR va_S.rf (am_L_entry G hok.1 hok.2) rfl rfl
    rw [lg_entry_eq]
    exact key2
end
section
/-! words of the tables, by their places (by program: wip/whole/tools/gen_links.py) -/
theorem am_m1 {w : Cond} (h : w ∈ tables_1_1) (hg : goodWord w = true) : w ∈ am_ws := List.mem_filter.mpr ⟨List.mem_append_right _ (List.mem_append_left _ h), hg⟩
theorem am_n1 {w : Cond} (h : w ∈ tables_1_1) (hg : am_isN w = true) : w ∈ am_nw := List.mem_filter.mpr ⟨List.mem_append_right _ (List.mem_append_left _ h), hg⟩
theorem am_m2 {w : Cond} (h : w ∈ tables_1_2) (hg : goodWord w = true) : w ∈ am_ws := List.mem_filter.mpr ⟨List.mem_append_right _ (List.mem_append_right _ (List.mem_append_left _ h)), hg⟩
theorem am_n2 {w : Cond} (h : w ∈ tables_1_2) (hg : am_isN w = true) : w ∈ am_nw := List.mem_filter.mpr ⟨List.mem_append_right _ (List.mem_append_right _ (List.mem_append_left _ h)), hg⟩
theorem am_m3 {w : Cond} (h : w ∈ tables_1_3) (hg : goodWord w = true) : w ∈ am_ws := List.mem_filter.mpr ⟨List.mem_append_right _ (List.mem_append_right _ (List.mem_append_right _ (List.mem_append_left _ h))), hg⟩
theorem am_n3 {w : Cond} (h : w ∈ tables_1_3) (hg : am_isN w = true) : w ∈ am_nw := List.mem_filter.mpr ⟨List.mem_append_right _ (List.mem_append_right _ (List.mem_append_right _ (List.mem_append_left _ h))), hg⟩
theorem am_m4 {w : Cond} (h : w ∈ tables_1_4) (hg : goodWord w = true) : w ∈ am_ws := List.mem_filter.mpr ⟨List.mem_append_right _ (List.mem_append_right _ (List.mem_append_right _ (List.mem_append_right _ (List.mem_append_left _ h)))), hg⟩
theorem am_n4 {w : Cond} (h : w ∈ tables_1_4) (hg : am_isN w = true) : w ∈ am_nw := List.mem_filter.mpr ⟨List.mem_append_right _ (List.mem_append_right _ (List.mem_append_right _ (List.mem_append_right _ (List.mem_append_left _ h)))), hg⟩
theorem am_m5 {w : Cond} (h : w ∈ tables_1_5) (hg : goodWord w = true) : w ∈ am_ws := List.mem_filter.mpr ⟨List.mem_append_right _ (List.mem_append_right _ (List.mem_append_right _ (List.mem_append_right _ (List.mem_append_right _ (List.mem_append_left _ h))))), hg⟩
theorem am_n5 {w : Cond} (h : w ∈ tables_1_5) (hg : am_isN w = true) : w ∈ am_nw := List.mem_filter.mpr ⟨List.mem_append_right _ (List.mem_append_right _ (List.mem_append_right _ (List.mem_append_right _ (List.mem_append_right _ (List.mem_append_left _ h))))), hg⟩
theorem am_m6 {w : Cond} (h : w ∈ tables_1_6) (hg : goodWord w = true) : w ∈ am_ws := List.mem_filter.mpr ⟨List.mem_append_right _ (List.mem_append_right _ (List.mem_append_right _ (List.mem_append_right _ (List.mem_append_right _ (List.mem_append_right _ (List.mem_append_left _ h)))))), hg⟩
theorem am_n6 {w : Cond} (h : w ∈ tables_1_6) (hg : am_isN w = true) : w ∈ am_nw := List.mem_filter.mpr ⟨List.mem_append_right _ (List.mem_append_right _ (List.mem_append_right _ (List.mem_append_right _ (List.mem_append_right _ (List.mem_append_right _ (List.mem_append_left _ h)))))), hg⟩
theorem am_m7 {w : Cond} (h : w ∈ tables_1_7) (hg : goodWord w = true) : w ∈ am_ws := List.mem_filter.mpr ⟨List.mem_append_right _ (List.mem_append_right _ (List.mem_append_right _ (List.mem_append_right _ (List.mem_append_right _ (List.mem_append_right _ (List.mem_append_right _ (List.mem_append_left _ h))))))), hg⟩
theorem am_n7 {w : Cond} (h : w ∈ tables_1_7) (hg : am_isN w = true) : w ∈ am_nw := List.mem_filter.mpr ⟨List.mem_append_right _ (List.mem_append_right _ (List.mem_append_right _ (List.mem_append_right _ (List.mem_append_right _ (List.mem_append_right _ (List.mem_append_right _ (List.mem_append_left _ h))))))), hg⟩
theorem am_m8 {w : Cond} (h : w ∈ tables_1_8) (hg : goodWord w = true) : w ∈ am_ws := List.mem_filter.mpr ⟨List.mem_append_right _ (List.mem_append_right _ (List.mem_append_right _ (List.mem_append_right _ (List.mem_append_right _ (List.mem_append_right _ (List.mem_append_right _ (List.mem_append_right _ (List.mem_append_left _ h)))))))), hg⟩
theorem am_n8 {w : Cond} (h : w ∈ tables_1_8) (hg : am_isN w = true) : w ∈ am_nw := List.mem_filter.mpr ⟨List.mem_append_right _ (List.mem_append_right _ (List.mem_append_right _ (List.mem_append_right _ (List.mem_append_right _ (List.mem_append_right _ (List.mem_append_right _ (List.mem_append_right _ (List.mem_append_left _ h)))))))), hg⟩
theorem am_m9 {w : Cond} (h : w ∈ tables_1_9) (hg : goodWord w = true) : w ∈ am_ws := List.mem_filter.mpr ⟨List.mem_append_right _ (List.mem_append_right _ (List.mem_append_right _ (List.mem_append_right _ (List.mem_append_right _ (List.mem_append_right _ (List.mem_append_right _ (List.mem_append_right _ (List.mem_append_right _ (h))))))))), hg⟩
theorem am_n9 {w : Cond} (h : w ∈ tables_1_9) (hg : am_isN w = true) : w ∈ am_nw := List.mem_filter.mpr ⟨List.mem_append_right _ (List.mem_append_right _ (List.mem_append_right _ (List.mem_append_right _ (List.mem_append_right _ (List.mem_append_right _ (List.mem_append_right _ (List.mem_append_right _ (List.mem_append_right _ (h))))))))), hg⟩
theorem am_m0 {q : MethodName × Nat} (h : q ∈ lw_privs) : Cond.selects q.1.cls q.1 q.1 ∈ am_ws := List.mem_filter.mpr ⟨List.mem_append_left _ (List.mem_map.mpr ⟨q, h, rfl⟩), rfl⟩
theorem wd0 : Cond.selects "ToldTracks" ⟨"ToldTracks", "putFour", "(I)V"⟩ ⟨"ToldTracks", "putFour", "(I)V"⟩ ∈ am_ws := am_m0 (q := (⟨"ToldTracks", "putFour", "(I)V"⟩, 17)) (List.mem_of_getElem? (i := 0) rfl)
theorem wd1 : Cond.selects "ToldTracks$Reader" ⟨"ToldTracks$Reader", "ownWord", "(I)I"⟩ ⟨"ToldTracks$Reader", "ownWord", "(I)I"⟩ ∈ am_ws := am_m0 (q := (⟨"ToldTracks$Reader", "ownWord", "(I)I"⟩, 10)) (List.mem_of_getElem? (i := 1) rfl)
theorem wd2 : Cond.selects "ToldTracks$Parser" ⟨"ToldTracks$Parser", "readSize", "()V"⟩ ⟨"ToldTracks$Parser", "readSize", "()V"⟩ ∈ am_ws := am_m0 (q := (⟨"ToldTracks$Parser", "readSize", "()V"⟩, 2)) (List.mem_of_getElem? (i := 2) rfl)
theorem wd3 : Cond.selects "ToldTracks$Parser" ⟨"ToldTracks$Parser", "readRule", "(LToldTracks$Rules;Z)V"⟩ ⟨"ToldTracks$Parser", "readRule", "(LToldTracks$Rules;Z)V"⟩ ∈ am_ws := am_m0 (q := (⟨"ToldTracks$Parser", "readRule", "(LToldTracks$Rules;Z)V"⟩, 2)) (List.mem_of_getElem? (i := 3) rfl)
theorem wd4 : Cond.selects "ToldTracks$Parser" ⟨"ToldTracks$Parser", "isOneMore", "(Z)Z"⟩ ⟨"ToldTracks$Parser", "isOneMore", "(Z)Z"⟩ ∈ am_ws := am_m0 (q := (⟨"ToldTracks$Parser", "isOneMore", "(Z)Z"⟩, 2)) (List.mem_of_getElem? (i := 4) rfl)
theorem wd5 : Cond.selects "ToldTracks$Parser" ⟨"ToldTracks$Parser", "readSum", "(I)V"⟩ ⟨"ToldTracks$Parser", "readSum", "(I)V"⟩ ∈ am_ws := am_m0 (q := (⟨"ToldTracks$Parser", "readSum", "(I)V"⟩, 2)) (List.mem_of_getElem? (i := 5) rfl)
theorem wd6 : Cond.selects "ToldTracks$Parser" ⟨"ToldTracks$Parser", "readProduct", "(I)V"⟩ ⟨"ToldTracks$Parser", "readProduct", "(I)V"⟩ ∈ am_ws := am_m0 (q := (⟨"ToldTracks$Parser", "readProduct", "(I)V"⟩, 2)) (List.mem_of_getElem? (i := 6) rfl)
theorem wd7 : Cond.selects "ToldTracks$Parser" ⟨"ToldTracks$Parser", "readPart", "(I)V"⟩ ⟨"ToldTracks$Parser", "readPart", "(I)V"⟩ ∈ am_ws := am_m0 (q := (⟨"ToldTracks$Parser", "readPart", "(I)V"⟩, 2)) (List.mem_of_getElem? (i := 7) rfl)
theorem wd8 : Cond.selects "ToldTracks$Parser" ⟨"ToldTracks$Parser", "readLeaf", "(I)V"⟩ ⟨"ToldTracks$Parser", "readLeaf", "(I)V"⟩ ∈ am_ws := am_m0 (q := (⟨"ToldTracks$Parser", "readLeaf", "(I)V"⟩, 2)) (List.mem_of_getElem? (i := 8) rfl)
theorem wd9 : Cond.selects "ToldTracks$Parser" ⟨"ToldTracks$Parser", "takeOpening", "(II)Z"⟩ ⟨"ToldTracks$Parser", "takeOpening", "(II)Z"⟩ ∈ am_ws := am_m0 (q := (⟨"ToldTracks$Parser", "takeOpening", "(II)Z"⟩, 2)) (List.mem_of_getElem? (i := 9) rfl)
theorem wd10 : Cond.selects "ToldTracks$Parser" ⟨"ToldTracks$Parser", "readChoice", "(II)V"⟩ ⟨"ToldTracks$Parser", "readChoice", "(II)V"⟩ ∈ am_ws := am_m0 (q := (⟨"ToldTracks$Parser", "readChoice", "(II)V"⟩, 2)) (List.mem_of_getElem? (i := 10) rfl)
theorem wd11 : Cond.selects "ToldTracks$Parser" ⟨"ToldTracks$Parser", "timesSign", "()I"⟩ ⟨"ToldTracks$Parser", "timesSign", "()I"⟩ ∈ am_ws := am_m0 (q := (⟨"ToldTracks$Parser", "timesSign", "()I"⟩, 2)) (List.mem_of_getElem? (i := 11) rfl)
theorem wd12 : Cond.selects "ToldTracks$Parser" ⟨"ToldTracks$Parser", "readTest", "(I)V"⟩ ⟨"ToldTracks$Parser", "readTest", "(I)V"⟩ ∈ am_ws := am_m0 (q := (⟨"ToldTracks$Parser", "readTest", "(I)V"⟩, 2)) (List.mem_of_getElem? (i := 12) rfl)
theorem wd13 : Cond.selects "ToldTracks$Parser" ⟨"ToldTracks$Parser", "readBoth", "(I)V"⟩ ⟨"ToldTracks$Parser", "readBoth", "(I)V"⟩ ∈ am_ws := am_m0 (q := (⟨"ToldTracks$Parser", "readBoth", "(I)V"⟩, 2)) (List.mem_of_getElem? (i := 13) rfl)
theorem wd14 : Cond.selects "ToldTracks$Parser" ⟨"ToldTracks$Parser", "readFact", "(I)V"⟩ ⟨"ToldTracks$Parser", "readFact", "(I)V"⟩ ∈ am_ws := am_m0 (q := (⟨"ToldTracks$Parser", "readFact", "(I)V"⟩, 2)) (List.mem_of_getElem? (i := 14) rfl)
theorem wd15 : Cond.selects "ToldTracks$Parser" ⟨"ToldTracks$Parser", "takeComparison", "()I"⟩ ⟨"ToldTracks$Parser", "takeComparison", "()I"⟩ ∈ am_ws := am_m0 (q := (⟨"ToldTracks$Parser", "takeComparison", "()I"⟩, 2)) (List.mem_of_getElem? (i := 15) rfl)
theorem wd16 : Cond.selects "ToldTracks$Parser" ⟨"ToldTracks$Parser", "readShip", "()V"⟩ ⟨"ToldTracks$Parser", "readShip", "()V"⟩ ∈ am_ws := am_m0 (q := (⟨"ToldTracks$Parser", "readShip", "()V"⟩, 2)) (List.mem_of_getElem? (i := 16) rfl)
theorem wd17 : Cond.selects "ToldTracks$Parser" ⟨"ToldTracks$Parser", "takeAfter", "(III)I"⟩ ⟨"ToldTracks$Parser", "takeAfter", "(III)I"⟩ ∈ am_ws := am_m0 (q := (⟨"ToldTracks$Parser", "takeAfter", "(III)I"⟩, 2)) (List.mem_of_getElem? (i := 17) rfl)
theorem wd18 : Cond.selects "ToldTracks$Parser" ⟨"ToldTracks$Parser", "readSaying", "()V"⟩ ⟨"ToldTracks$Parser", "readSaying", "()V"⟩ ∈ am_ws := am_m0 (q := (⟨"ToldTracks$Parser", "readSaying", "()V"⟩, 2)) (List.mem_of_getElem? (i := 18) rfl)
theorem wd19 : Cond.selects "ToldTracks$Parser" ⟨"ToldTracks$Parser", "takeShip", "()I"⟩ ⟨"ToldTracks$Parser", "takeShip", "()I"⟩ ∈ am_ws := am_m0 (q := (⟨"ToldTracks$Parser", "takeShip", "()I"⟩, 2)) (List.mem_of_getElem? (i := 19) rfl)
theorem wd20 : Cond.selects "ToldTracks$Parser" ⟨"ToldTracks$Parser", "takePlace", "()I"⟩ ⟨"ToldTracks$Parser", "takePlace", "()I"⟩ ∈ am_ws := am_m0 (q := (⟨"ToldTracks$Parser", "takePlace", "()I"⟩, 2)) (List.mem_of_getElem? (i := 20) rfl)
theorem wd21 : Cond.selects "ToldTracks$Parser" ⟨"ToldTracks$Parser", "readBook", "()V"⟩ ⟨"ToldTracks$Parser", "readBook", "()V"⟩ ∈ am_ws := am_m0 (q := (⟨"ToldTracks$Parser", "readBook", "()V"⟩, 2)) (List.mem_of_getElem? (i := 21) rfl)
theorem wd22 : Cond.selects "ToldTracks$Parser" ⟨"ToldTracks$Parser", "readSighting", "()V"⟩ ⟨"ToldTracks$Parser", "readSighting", "()V"⟩ ∈ am_ws := am_m0 (q := (⟨"ToldTracks$Parser", "readSighting", "()V"⟩, 2)) (List.mem_of_getElem? (i := 22) rfl)
theorem wd23 : Cond.selects "ToldTracks" ⟨"ToldTracks", "isShip", "(I)Z"⟩ ⟨"ToldTracks", "isShip", "(I)Z"⟩ ∈ am_ws := am_m0 (q := (⟨"ToldTracks", "isShip", "(I)Z"⟩, 17)) (List.mem_of_getElem? (i := 23) rfl)
theorem wd24 : Cond.selects "ToldTracks" ⟨"ToldTracks", "settled", "(I)LToldTracks$Track;"⟩ ⟨"ToldTracks", "settled", "(I)LToldTracks$Track;"⟩ ∈ am_ws := am_m0 (q := (⟨"ToldTracks", "settled", "(I)LToldTracks$Track;"⟩, 17)) (List.mem_of_getElem? (i := 24) rfl)
theorem wd25 : Cond.selects "ToldTracks$Track" ⟨"ToldTracks$Track", "layBooks", "()Z"⟩ ⟨"ToldTracks$Track", "layBooks", "()Z"⟩ ∈ am_ws := am_m0 (q := (⟨"ToldTracks$Track", "layBooks", "()Z"⟩, 17)) (List.mem_of_getElem? (i := 25) rfl)
theorem wd26 : Cond.selects "ToldTracks$Waters" ⟨"ToldTracks$Waters", "widen", "([JI)Z"⟩ ⟨"ToldTracks$Waters", "widen", "([JI)Z"⟩ ∈ am_ws := am_m0 (q := (⟨"ToldTracks$Waters", "widen", "([JI)Z"⟩, 5)) (List.mem_of_getElem? (i := 26) rfl)
theorem wd27 : Cond.selects "ToldTracks$Track" ⟨"ToldTracks$Track", "markAlone", "()V"⟩ ⟨"ToldTracks$Track", "markAlone", "()V"⟩ ∈ am_ws := am_m0 (q := (⟨"ToldTracks$Track", "markAlone", "()V"⟩, 17)) (List.mem_of_getElem? (i := 27) rfl)
theorem wd28 : Cond.selects "ToldTracks$Track" ⟨"ToldTracks$Track", "countChains", "()I"⟩ ⟨"ToldTracks$Track", "countChains", "()I"⟩ ∈ am_ws := am_m0 (q := (⟨"ToldTracks$Track", "countChains", "()I"⟩, 17)) (List.mem_of_getElem? (i := 28) rfl)
theorem wd29 : Cond.selects "ToldTracks$Track" ⟨"ToldTracks$Track", "keep", "(I)V"⟩ ⟨"ToldTracks$Track", "keep", "(I)V"⟩ ∈ am_ws := am_m0 (q := (⟨"ToldTracks$Track", "keep", "(I)V"⟩, 17)) (List.mem_of_getElem? (i := 29) rfl)
theorem wd30 : Cond.selects "ToldTracks$Track" ⟨"ToldTracks$Track", "findMay", "()V"⟩ ⟨"ToldTracks$Track", "findMay", "()V"⟩ ∈ am_ws := am_m0 (q := (⟨"ToldTracks$Track", "findMay", "()V"⟩, 17)) (List.mem_of_getElem? (i := 30) rfl)
theorem wd31 : Cond.selects "ToldTracks" ⟨"ToldTracks", "isSaying", "(II)Z"⟩ ⟨"ToldTracks", "isSaying", "(II)Z"⟩ ∈ am_ws := am_m0 (q := (⟨"ToldTracks", "isSaying", "(II)Z"⟩, 17)) (List.mem_of_getElem? (i := 31) rfl)
theorem wd32 : Cond.selects "ToldTracks" ⟨"ToldTracks", "kindsOf", "(I)I"⟩ ⟨"ToldTracks", "kindsOf", "(I)I"⟩ ∈ am_ws := am_m0 (q := (⟨"ToldTracks", "kindsOf", "(I)I"⟩, 17)) (List.mem_of_getElem? (i := 32) rfl)
theorem wd33 : Cond.selects "ToldTracks$Track" ⟨"ToldTracks$Track", "isHonest", "(I)Z"⟩ ⟨"ToldTracks$Track", "isHonest", "(I)Z"⟩ ∈ am_ws := am_m0 (q := (⟨"ToldTracks$Track", "isHonest", "(I)Z"⟩, 17)) (List.mem_of_getElem? (i := 33) rfl)
theorem wd34 : Cond.selects "ToldTracks$Track" ⟨"ToldTracks$Track", "canPart", "()Z"⟩ ⟨"ToldTracks$Track", "canPart", "()Z"⟩ ∈ am_ws := am_m0 (q := (⟨"ToldTracks$Track", "canPart", "()Z"⟩, 17)) (List.mem_of_getElem? (i := 34) rfl)
theorem wd35 : Cond.selects "ToldTracks$Track" ⟨"ToldTracks$Track", "pushApart", "(II)I"⟩ ⟨"ToldTracks$Track", "pushApart", "(II)I"⟩ ∈ am_ws := am_m0 (q := (⟨"ToldTracks$Track", "pushApart", "(II)I"⟩, 17)) (List.mem_of_getElem? (i := 35) rfl)
theorem wd36 : Cond.selects "ToldTracks$Track" ⟨"ToldTracks$Track", "isMarked", "(I)Z"⟩ ⟨"ToldTracks$Track", "isMarked", "(I)Z"⟩ ∈ am_ws := am_m0 (q := (⟨"ToldTracks$Track", "isMarked", "(I)Z"⟩, 17)) (List.mem_of_getElem? (i := 36) rfl)
theorem wd37 : Cond.selects "ToldTracks" ⟨"ToldTracks", "sayersOf", "(I)I"⟩ ⟨"ToldTracks", "sayersOf", "(I)I"⟩ ∈ am_ws := am_m0 (q := (⟨"ToldTracks", "sayersOf", "(I)I"⟩, 17)) (List.mem_of_getElem? (i := 37) rfl)
theorem wd38 : Cond.selects "ToldTracks$Track" ⟨"ToldTracks$Track", "laySayings", "(LToldTracks$Ship;I)Z"⟩ ⟨"ToldTracks$Track", "laySayings", "(LToldTracks$Ship;I)Z"⟩ ∈ am_ws := am_m0 (q := (⟨"ToldTracks$Track", "laySayings", "(LToldTracks$Ship;I)Z"⟩, 17)) (List.mem_of_getElem? (i := 38) rfl)
theorem wd39 : Cond.selects "ToldTracks" ⟨"ToldTracks", "explainersOf", "(I)I"⟩ ⟨"ToldTracks", "explainersOf", "(I)I"⟩ ∈ am_ws := am_m0 (q := (⟨"ToldTracks", "explainersOf", "(I)I"⟩, 17)) (List.mem_of_getElem? (i := 39) rfl)
theorem wd40 : Cond.selects "ToldTracks" ⟨"ToldTracks", "chanceOf", "(I)J"⟩ ⟨"ToldTracks", "chanceOf", "(I)J"⟩ ∈ am_ws := am_m0 (q := (⟨"ToldTracks", "chanceOf", "(I)J"⟩, 17)) (List.mem_of_getElem? (i := 40) rfl)
theorem wd41 : Cond.selects "ToldTracks" ⟨"ToldTracks", "findLook", "()V"⟩ ⟨"ToldTracks", "findLook", "()V"⟩ ∈ am_ws := am_m0 (q := (⟨"ToldTracks", "findLook", "()V"⟩, 17)) (List.mem_of_getElem? (i := 41) rfl)
theorem wd42 : Cond.selects "ToldTracks" ⟨"ToldTracks", "pileUp", "(I)I"⟩ ⟨"ToldTracks", "pileUp", "(I)I"⟩ ∈ am_ws := am_m0 (q := (⟨"ToldTracks", "pileUp", "(I)I"⟩, 17)) (List.mem_of_getElem? (i := 42) rfl)
theorem wd43 : Cond.selects "ToldTracks$Track" ⟨"ToldTracks$Track", "staysWith", "(I)Z"⟩ ⟨"ToldTracks$Track", "staysWith", "(I)Z"⟩ ∈ am_ws := am_m0 (q := (⟨"ToldTracks$Track", "staysWith", "(I)Z"⟩, 17)) (List.mem_of_getElem? (i := 43) rfl)
theorem wd44 : Cond.selects "ToldTracks" ⟨"ToldTracks", "forget", "(I)V"⟩ ⟨"ToldTracks", "forget", "(I)V"⟩ ∈ am_ws := am_m0 (q := (⟨"ToldTracks", "forget", "(I)V"⟩, 17)) (List.mem_of_getElem? (i := 44) rfl)
theorem wd45 : Cond.selects "ToldTracks" ⟨"ToldTracks", "write", "(I)V"⟩ ⟨"ToldTracks", "write", "(I)V"⟩ ∈ am_ws := am_m0 (q := (⟨"ToldTracks", "write", "(I)V"⟩, 17)) (List.mem_of_getElem? (i := 45) rfl)
theorem wd46 : Cond.selects "ToldTracks" ⟨"ToldTracks", "isImage", "(I)Z"⟩ ⟨"ToldTracks", "isImage", "(I)Z"⟩ ∈ am_ws := am_m0 (q := (⟨"ToldTracks", "isImage", "(I)Z"⟩, 17)) (List.mem_of_getElem? (i := 46) rfl)
theorem wd47 : Cond.selects "ToldTracks" ⟨"ToldTracks", "takeImage", "()V"⟩ ⟨"ToldTracks", "takeImage", "()V"⟩ ∈ am_ws := am_m0 (q := (⟨"ToldTracks", "takeImage", "()V"⟩, 17)) (List.mem_of_getElem? (i := 47) rfl)
theorem wd48 : Cond.selects "ToldTracksModel" ⟨"ToldTracksModel", "refuses", "(I)I"⟩ ⟨"ToldTracksModel", "refuses", "(I)I"⟩ ∈ am_ws := am_m0 (q := (⟨"ToldTracksModel", "refuses", "(I)I"⟩, 83)) (List.mem_of_getElem? (i := 48) rfl)
theorem wd49 : Cond.selects "ToldTracksModel" ⟨"ToldTracksModel", "put", "(I)V"⟩ ⟨"ToldTracksModel", "put", "(I)V"⟩ ∈ am_ws := am_m0 (q := (⟨"ToldTracksModel", "put", "(I)V"⟩, 83)) (List.mem_of_getElem? (i := 49) rfl)
theorem wd50 : Cond.selects "ToldTracksModel" ⟨"ToldTracksModel", "ahead", "()V"⟩ ⟨"ToldTracksModel", "ahead", "()V"⟩ ∈ am_ws := am_m0 (q := (⟨"ToldTracksModel", "ahead", "()V"⟩, 83)) (List.mem_of_getElem? (i := 50) rfl)
theorem wd51 : Cond.selects "ToldTracksModel" ⟨"ToldTracksModel", "blame", "(II)V"⟩ ⟨"ToldTracksModel", "blame", "(II)V"⟩ ∈ am_ws := am_m0 (q := (⟨"ToldTracksModel", "blame", "(II)V"⟩, 83)) (List.mem_of_getElem? (i := 51) rfl)
theorem wd52 : Cond.selects "ToldTracksModel" ⟨"ToldTracksModel", "sizes", "()V"⟩ ⟨"ToldTracksModel", "sizes", "()V"⟩ ∈ am_ws := am_m0 (q := (⟨"ToldTracksModel", "sizes", "()V"⟩, 83)) (List.mem_of_getElem? (i := 52) rfl)
theorem wd53 : Cond.selects "ToldTracksModel" ⟨"ToldTracksModel", "isWord", "(J)Z"⟩ ⟨"ToldTracksModel", "isWord", "(J)Z"⟩ ∈ am_ws := am_m0 (q := (⟨"ToldTracksModel", "isWord", "(J)Z"⟩, 83)) (List.mem_of_getElem? (i := 53) rfl)
theorem wd54 : Cond.selects "ToldTracksModel" ⟨"ToldTracksModel", "number", "(II)I"⟩ ⟨"ToldTracksModel", "number", "(II)I"⟩ ∈ am_ws := am_m0 (q := (⟨"ToldTracksModel", "number", "(II)I"⟩, 83)) (List.mem_of_getElem? (i := 54) rfl)
theorem wd55 : Cond.selects "ToldTracksModel" ⟨"ToldTracksModel", "must", "(I)V"⟩ ⟨"ToldTracksModel", "must", "(I)V"⟩ ∈ am_ws := am_m0 (q := (⟨"ToldTracksModel", "must", "(I)V"⟩, 83)) (List.mem_of_getElem? (i := 55) rfl)
theorem wd56 : Cond.selects "ToldTracksModel" ⟨"ToldTracksModel", "isSign", "(I)Z"⟩ ⟨"ToldTracksModel", "isSign", "(I)Z"⟩ ∈ am_ws := am_m0 (q := (⟨"ToldTracksModel", "isSign", "(I)Z"⟩, 83)) (List.mem_of_getElem? (i := 56) rfl)
theorem wd57 : Cond.selects "ToldTracksModel" ⟨"ToldTracksModel", "statement", "()V"⟩ ⟨"ToldTracksModel", "statement", "()V"⟩ ∈ am_ws := am_m0 (q := (⟨"ToldTracksModel", "statement", "()V"⟩, 83)) (List.mem_of_getElem? (i := 57) rfl)
theorem wd58 : Cond.selects "ToldTracksModel" ⟨"ToldTracksModel", "rule", "(I)V"⟩ ⟨"ToldTracksModel", "rule", "(I)V"⟩ ∈ am_ws := am_m0 (q := (⟨"ToldTracksModel", "rule", "(I)V"⟩, 83)) (List.mem_of_getElem? (i := 58) rfl)
theorem wd59 : Cond.selects "ToldTracksModel" ⟨"ToldTracksModel", "counts", "(Z)Z"⟩ ⟨"ToldTracksModel", "counts", "(Z)Z"⟩ ∈ am_ws := am_m0 (q := (⟨"ToldTracksModel", "counts", "(Z)Z"⟩, 83)) (List.mem_of_getElem? (i := 59) rfl)
theorem wd60 : Cond.selects "ToldTracksModel" ⟨"ToldTracksModel", "reads", "(Z)V"⟩ ⟨"ToldTracksModel", "reads", "(Z)V"⟩ ∈ am_ws := am_m0 (q := (⟨"ToldTracksModel", "reads", "(Z)V"⟩, 83)) (List.mem_of_getElem? (i := 60) rfl)
theorem wd61 : Cond.selects "ToldTracksModel" ⟨"ToldTracksModel", "pushes", "(I)V"⟩ ⟨"ToldTracksModel", "pushes", "(I)V"⟩ ∈ am_ws := am_m0 (q := (⟨"ToldTracksModel", "pushes", "(I)V"⟩, 83)) (List.mem_of_getElem? (i := 61) rfl)
theorem wd62 : Cond.selects "ToldTracksModel" ⟨"ToldTracksModel", "operand", "()Z"⟩ ⟨"ToldTracksModel", "operand", "()Z"⟩ ∈ am_ws := am_m0 (q := (⟨"ToldTracksModel", "operand", "()Z"⟩, 83)) (List.mem_of_getElem? (i := 62) rfl)
theorem wd63 : Cond.selects "ToldTracksModel" ⟨"ToldTracksModel", "holdsBack", "(I)V"⟩ ⟨"ToldTracksModel", "holdsBack", "(I)V"⟩ ∈ am_ws := am_m0 (q := (⟨"ToldTracksModel", "holdsBack", "(I)V"⟩, 83)) (List.mem_of_getElem? (i := 63) rfl)
theorem wd64 : Cond.selects "ToldTracksModel" ⟨"ToldTracksModel", "opens", "(I)V"⟩ ⟨"ToldTracksModel", "opens", "(I)V"⟩ ∈ am_ws := am_m0 (q := (⟨"ToldTracksModel", "opens", "(I)V"⟩, 83)) (List.mem_of_getElem? (i := 64) rfl)
theorem wd65 : Cond.selects "ToldTracksModel" ⟨"ToldTracksModel", "add", "(II)V"⟩ ⟨"ToldTracksModel", "add", "(II)V"⟩ ∈ am_ws := am_m0 (q := (⟨"ToldTracksModel", "add", "(II)V"⟩, 83)) (List.mem_of_getElem? (i := 65) rfl)
theorem wd66 : Cond.selects "ToldTracksModel" ⟨"ToldTracksModel", "goesOn", "()Z"⟩ ⟨"ToldTracksModel", "goesOn", "()Z"⟩ ∈ am_ws := am_m0 (q := (⟨"ToldTracksModel", "goesOn", "()Z"⟩, 83)) (List.mem_of_getElem? (i := 66) rfl)
theorem wd67 : Cond.selects "ToldTracksModel" ⟨"ToldTracksModel", "joins", "(I)V"⟩ ⟨"ToldTracksModel", "joins", "(I)V"⟩ ∈ am_ws := am_m0 (q := (⟨"ToldTracksModel", "joins", "(I)V"⟩, 83)) (List.mem_of_getElem? (i := 67) rfl)
theorem wd68 : Cond.selects "ToldTracksModel" ⟨"ToldTracksModel", "must", "(J)V"⟩ ⟨"ToldTracksModel", "must", "(J)V"⟩ ∈ am_ws := am_m0 (q := (⟨"ToldTracksModel", "must", "(J)V"⟩, 83)) (List.mem_of_getElem? (i := 68) rfl)
theorem wd69 : Cond.selects "ToldTracksModel" ⟨"ToldTracksModel", "ship", "()V"⟩ ⟨"ToldTracksModel", "ship", "()V"⟩ ∈ am_ws := am_m0 (q := (⟨"ToldTracksModel", "ship", "()V"⟩, 83)) (List.mem_of_getElem? (i := 69) rfl)
theorem wd70 : Cond.selects "ToldTracksModel" ⟨"ToldTracksModel", "fresh", "()J"⟩ ⟨"ToldTracksModel", "fresh", "()J"⟩ ∈ am_ws := am_m0 (q := (⟨"ToldTracksModel", "fresh", "()J"⟩, 83)) (List.mem_of_getElem? (i := 70) rfl)
theorem wd71 : Cond.selects "ToldTracksModel" ⟨"ToldTracksModel", "isOwn", "(J)Z"⟩ ⟨"ToldTracksModel", "isOwn", "(J)Z"⟩ ∈ am_ws := am_m0 (q := (⟨"ToldTracksModel", "isOwn", "(J)Z"⟩, 83)) (List.mem_of_getElem? (i := 71) rfl)
theorem wd72 : Cond.selects "ToldTracksModel" ⟨"ToldTracksModel", "named", "(J)I"⟩ ⟨"ToldTracksModel", "named", "(J)I"⟩ ∈ am_ws := am_m0 (q := (⟨"ToldTracksModel", "named", "(J)I"⟩, 83)) (List.mem_of_getElem? (i := 72) rfl)
theorem wd73 : Cond.selects "ToldTracksModel" ⟨"ToldTracksModel", "says", "()V"⟩ ⟨"ToldTracksModel", "says", "()V"⟩ ∈ am_ws := am_m0 (q := (⟨"ToldTracksModel", "says", "()V"⟩, 83)) (List.mem_of_getElem? (i := 73) rfl)
theorem wd74 : Cond.selects "ToldTracksModel" ⟨"ToldTracksModel", "asked", "()I"⟩ ⟨"ToldTracksModel", "asked", "()I"⟩ ∈ am_ws := am_m0 (q := (⟨"ToldTracksModel", "asked", "()I"⟩, 83)) (List.mem_of_getElem? (i := 74) rfl)
theorem wd75 : Cond.selects "ToldTracksModel" ⟨"ToldTracksModel", "cellHere", "()I"⟩ ⟨"ToldTracksModel", "cellHere", "()I"⟩ ∈ am_ws := am_m0 (q := (⟨"ToldTracksModel", "cellHere", "()I"⟩, 83)) (List.mem_of_getElem? (i := 75) rfl)
theorem wd76 : Cond.selects "ToldTracksModel" ⟨"ToldTracksModel", "book", "()V"⟩ ⟨"ToldTracksModel", "book", "()V"⟩ ∈ am_ws := am_m0 (q := (⟨"ToldTracksModel", "book", "()V"⟩, 83)) (List.mem_of_getElem? (i := 76) rfl)
theorem wd77 : Cond.selects "ToldTracksModel" ⟨"ToldTracksModel", "seen", "()V"⟩ ⟨"ToldTracksModel", "seen", "()V"⟩ ∈ am_ws := am_m0 (q := (⟨"ToldTracksModel", "seen", "()V"⟩, 83)) (List.mem_of_getElem? (i := 77) rfl)
theorem wd78 : Cond.selects "ToldTracksModel" ⟨"ToldTracksModel", "lucks", "()V"⟩ ⟨"ToldTracksModel", "lucks", "()V"⟩ ∈ am_ws := am_m0 (q := (⟨"ToldTracksModel", "lucks", "()V"⟩, 83)) (List.mem_of_getElem? (i := 78) rfl)
theorem wd79 : Cond.selects "ToldTracksModel" ⟨"ToldTracksModel", "lays", "()V"⟩ ⟨"ToldTracksModel", "lays", "()V"⟩ ∈ am_ws := am_m0 (q := (⟨"ToldTracksModel", "lays", "()V"⟩, 83)) (List.mem_of_getElem? (i := 79) rfl)
theorem wd80 : Cond.selects "ToldTracksModel" ⟨"ToldTracksModel", "cells", "()I"⟩ ⟨"ToldTracksModel", "cells", "()I"⟩ ∈ am_ws := am_m0 (q := (⟨"ToldTracksModel", "cells", "()I"⟩, 83)) (List.mem_of_getElem? (i := 80) rfl)
theorem wd81 : Cond.selects "ToldTracksModel" ⟨"ToldTracksModel", "sumOf", "(III)I"⟩ ⟨"ToldTracksModel", "sumOf", "(III)I"⟩ ∈ am_ws := am_m0 (q := (⟨"ToldTracksModel", "sumOf", "(III)I"⟩, 83)) (List.mem_of_getElem? (i := 81) rfl)
theorem wd82 : Cond.selects "ToldTracksModel" ⟨"ToldTracksModel", "ruleOf", "(IIII)I"⟩ ⟨"ToldTracksModel", "ruleOf", "(IIII)I"⟩ ∈ am_ws := am_m0 (q := (⟨"ToldTracksModel", "ruleOf", "(IIII)I"⟩, 83)) (List.mem_of_getElem? (i := 82) rfl)
theorem wd83 : Cond.selects "ToldTracksModel" ⟨"ToldTracksModel", "columnOf", "(I)I"⟩ ⟨"ToldTracksModel", "columnOf", "(I)I"⟩ ∈ am_ws := am_m0 (q := (⟨"ToldTracksModel", "columnOf", "(I)I"⟩, 83)) (List.mem_of_getElem? (i := 83) rfl)
theorem wd84 : Cond.selects "ToldTracksModel" ⟨"ToldTracksModel", "rowOf", "(I)I"⟩ ⟨"ToldTracksModel", "rowOf", "(I)I"⟩ ∈ am_ws := am_m0 (q := (⟨"ToldTracksModel", "rowOf", "(I)I"⟩, 83)) (List.mem_of_getElem? (i := 84) rfl)
theorem wd85 : Cond.selects "ToldTracksModel" ⟨"ToldTracksModel", "works", "(II)J"⟩ ⟨"ToldTracksModel", "works", "(II)J"⟩ ∈ am_ws := am_m0 (q := (⟨"ToldTracksModel", "works", "(II)J"⟩, 83)) (List.mem_of_getElem? (i := 85) rfl)
theorem wd86 : Cond.selects "ToldTracksModel" ⟨"ToldTracksModel", "isCell", "(II)Z"⟩ ⟨"ToldTracksModel", "isCell", "(II)Z"⟩ ∈ am_ws := am_m0 (q := (⟨"ToldTracksModel", "isCell", "(II)Z"⟩, 83)) (List.mem_of_getElem? (i := 86) rfl)
theorem wd87 : Cond.selects "ToldTracksModel" ⟨"ToldTracksModel", "at", "(II)I"⟩ ⟨"ToldTracksModel", "at", "(II)I"⟩ ∈ am_ws := am_m0 (q := (⟨"ToldTracksModel", "at", "(II)I"⟩, 83)) (List.mem_of_getElem? (i := 87) rfl)
theorem wd88 : Cond.selects "ToldTracksModel" ⟨"ToldTracksModel", "isQuiet", "(II)Z"⟩ ⟨"ToldTracksModel", "isQuiet", "(II)Z"⟩ ∈ am_ws := am_m0 (q := (⟨"ToldTracksModel", "isQuiet", "(II)Z"⟩, 83)) (List.mem_of_getElem? (i := 88) rfl)
theorem wd89 : Cond.selects "ToldTracksModel" ⟨"ToldTracksModel", "sayingsOf", "(I)I"⟩ ⟨"ToldTracksModel", "sayingsOf", "(I)I"⟩ ∈ am_ws := am_m0 (q := (⟨"ToldTracksModel", "sayingsOf", "(I)I"⟩, 83)) (List.mem_of_getElem? (i := 89) rfl)
theorem wd90 : Cond.selects "ToldTracksModel" ⟨"ToldTracksModel", "said", "(II)I"⟩ ⟨"ToldTracksModel", "said", "(II)I"⟩ ∈ am_ws := am_m0 (q := (⟨"ToldTracksModel", "said", "(II)I"⟩, 83)) (List.mem_of_getElem? (i := 90) rfl)
theorem wd91 : Cond.selects "ToldTracksModel" ⟨"ToldTracksModel", "isShip", "(I)Z"⟩ ⟨"ToldTracksModel", "isShip", "(I)Z"⟩ ∈ am_ws := am_m0 (q := (⟨"ToldTracksModel", "isShip", "(I)Z"⟩, 83)) (List.mem_of_getElem? (i := 91) rfl)
theorem wd92 : Cond.selects "ToldTracksModel" ⟨"ToldTracksModel", "goes", "(II)V"⟩ ⟨"ToldTracksModel", "goes", "(II)V"⟩ ∈ am_ws := am_m0 (q := (⟨"ToldTracksModel", "goes", "(II)V"⟩, 83)) (List.mem_of_getElem? (i := 92) rfl)
theorem wd93 : Cond.selects "ToldTracksModel" ⟨"ToldTracksModel", "reaches", "(IIII)V"⟩ ⟨"ToldTracksModel", "reaches", "(IIII)V"⟩ ∈ am_ws := am_m0 (q := (⟨"ToldTracksModel", "reaches", "(IIII)V"⟩, 83)) (List.mem_of_getElem? (i := 93) rfl)
theorem wd94 : Cond.selects "ToldTracksModel" ⟨"ToldTracksModel", "isWater", "(II)Z"⟩ ⟨"ToldTracksModel", "isWater", "(II)Z"⟩ ∈ am_ws := am_m0 (q := (⟨"ToldTracksModel", "isWater", "(II)Z"⟩, 83)) (List.mem_of_getElem? (i := 94) rfl)
theorem wd95 : Cond.selects "ToldTracksModel" ⟨"ToldTracksModel", "hoursTo", "(II)I"⟩ ⟨"ToldTracksModel", "hoursTo", "(II)I"⟩ ∈ am_ws := am_m0 (q := (⟨"ToldTracksModel", "hoursTo", "(II)I"⟩, 83)) (List.mem_of_getElem? (i := 95) rfl)
theorem wd96 : Cond.selects "ToldTracksModel" ⟨"ToldTracksModel", "booksOf", "(I)I"⟩ ⟨"ToldTracksModel", "booksOf", "(I)I"⟩ ∈ am_ws := am_m0 (q := (⟨"ToldTracksModel", "booksOf", "(I)I"⟩, 83)) (List.mem_of_getElem? (i := 96) rfl)
theorem wd97 : Cond.selects "ToldTracksModel" ⟨"ToldTracksModel", "booksFit", "(I)Z"⟩ ⟨"ToldTracksModel", "booksFit", "(I)Z"⟩ ∈ am_ws := am_m0 (q := (⟨"ToldTracksModel", "booksFit", "(I)Z"⟩, 83)) (List.mem_of_getElem? (i := 97) rfl)
theorem wd98 : Cond.selects "ToldTracksModel" ⟨"ToldTracksModel", "addBooks", "(I)V"⟩ ⟨"ToldTracksModel", "addBooks", "(I)V"⟩ ∈ am_ws := am_m0 (q := (⟨"ToldTracksModel", "addBooks", "(I)V"⟩, 83)) (List.mem_of_getElem? (i := 98) rfl)
theorem wd99 : Cond.selects "ToldTracksModel" ⟨"ToldTracksModel", "fact", "(III)V"⟩ ⟨"ToldTracksModel", "fact", "(III)V"⟩ ∈ am_ws := am_m0 (q := (⟨"ToldTracksModel", "fact", "(III)V"⟩, 83)) (List.mem_of_getElem? (i := 99) rfl)
theorem wd100 : Cond.selects "ToldTracksModel" ⟨"ToldTracksModel", "fit", "(I)Z"⟩ ⟨"ToldTracksModel", "fit", "(I)Z"⟩ ∈ am_ws := am_m0 (q := (⟨"ToldTracksModel", "fit", "(I)Z"⟩, 83)) (List.mem_of_getElem? (i := 100) rfl)
theorem wd101 : Cond.selects "ToldTracksModel" ⟨"ToldTracksModel", "keeps", "(I)V"⟩ ⟨"ToldTracksModel", "keeps", "(I)V"⟩ ∈ am_ws := am_m0 (q := (⟨"ToldTracksModel", "keeps", "(I)V"⟩, 83)) (List.mem_of_getElem? (i := 101) rfl)
theorem wd102 : Cond.selects "ToldTracksModel" ⟨"ToldTracksModel", "pairs", "(I)V"⟩ ⟨"ToldTracksModel", "pairs", "(I)V"⟩ ∈ am_ws := am_m0 (q := (⟨"ToldTracksModel", "pairs", "(I)V"⟩, 83)) (List.mem_of_getElem? (i := 102) rfl)
theorem wd103 : Cond.selects "ToldTracksModel" ⟨"ToldTracksModel", "laden", "(II)Z"⟩ ⟨"ToldTracksModel", "laden", "(II)Z"⟩ ∈ am_ws := am_m0 (q := (⟨"ToldTracksModel", "laden", "(II)Z"⟩, 83)) (List.mem_of_getElem? (i := 103) rfl)
theorem wd104 : Cond.selects "ToldTracksModel" ⟨"ToldTracksModel", "isSound", "(IIZ)Z"⟩ ⟨"ToldTracksModel", "isSound", "(IIZ)Z"⟩ ∈ am_ws := am_m0 (q := (⟨"ToldTracksModel", "isSound", "(IIZ)Z"⟩, 83)) (List.mem_of_getElem? (i := 104) rfl)
theorem wd105 : Cond.selects "ToldTracksModel" ⟨"ToldTracksModel", "withBooks", "(III)Z"⟩ ⟨"ToldTracksModel", "withBooks", "(III)Z"⟩ ∈ am_ws := am_m0 (q := (⟨"ToldTracksModel", "withBooks", "(III)Z"⟩, 83)) (List.mem_of_getElem? (i := 105) rfl)
theorem wd106 : Cond.selects "ToldTracksModel" ⟨"ToldTracksModel", "hourOf", "(II)I"⟩ ⟨"ToldTracksModel", "hourOf", "(II)I"⟩ ∈ am_ws := am_m0 (q := (⟨"ToldTracksModel", "hourOf", "(II)I"⟩, 83)) (List.mem_of_getElem? (i := 106) rfl)
theorem wd107 : Cond.selects "ToldTracksModel" ⟨"ToldTracksModel", "lays", "(I)V"⟩ ⟨"ToldTracksModel", "lays", "(I)V"⟩ ∈ am_ws := am_m0 (q := (⟨"ToldTracksModel", "lays", "(I)V"⟩, 83)) (List.mem_of_getElem? (i := 107) rfl)
theorem wd108 : Cond.selects "ToldTracksModel" ⟨"ToldTracksModel", "cellsOf", "(II)I"⟩ ⟨"ToldTracksModel", "cellsOf", "(II)I"⟩ ∈ am_ws := am_m0 (q := (⟨"ToldTracksModel", "cellsOf", "(II)I"⟩, 83)) (List.mem_of_getElem? (i := 108) rfl)
theorem wd109 : Cond.selects "ToldTracksModel" ⟨"ToldTracksModel", "mayBe", "(III)Z"⟩ ⟨"ToldTracksModel", "mayBe", "(III)Z"⟩ ∈ am_ws := am_m0 (q := (⟨"ToldTracksModel", "mayBe", "(III)Z"⟩, 83)) (List.mem_of_getElem? (i := 109) rfl)
theorem wd110 : Cond.selects "ToldTracksModel" ⟨"ToldTracksModel", "isKind", "(II)Z"⟩ ⟨"ToldTracksModel", "isKind", "(II)Z"⟩ ∈ am_ws := am_m0 (q := (⟨"ToldTracksModel", "isKind", "(II)Z"⟩, 83)) (List.mem_of_getElem? (i := 110) rfl)
theorem wd111 : Cond.selects "ToldTracksModel" ⟨"ToldTracksModel", "whoOf", "(I)I"⟩ ⟨"ToldTracksModel", "whoOf", "(I)I"⟩ ∈ am_ws := am_m0 (q := (⟨"ToldTracksModel", "whoOf", "(I)I"⟩, 83)) (List.mem_of_getElem? (i := 111) rfl)
theorem wd112 : Cond.selects "ToldTracksModel" ⟨"ToldTracksModel", "saidBy", "(II)Z"⟩ ⟨"ToldTracksModel", "saidBy", "(II)Z"⟩ ∈ am_ws := am_m0 (q := (⟨"ToldTracksModel", "saidBy", "(II)Z"⟩, 83)) (List.mem_of_getElem? (i := 112) rfl)
theorem wd113 : Cond.selects "ToldTracksModel" ⟨"ToldTracksModel", "addSayings", "(III)Z"⟩ ⟨"ToldTracksModel", "addSayings", "(III)Z"⟩ ∈ am_ws := am_m0 (q := (⟨"ToldTracksModel", "addSayings", "(III)Z"⟩, 83)) (List.mem_of_getElem? (i := 113) rfl)
theorem wd114 : Cond.selects "ToldTracksModel" ⟨"ToldTracksModel", "isPair", "(I)Z"⟩ ⟨"ToldTracksModel", "isPair", "(I)Z"⟩ ∈ am_ws := am_m0 (q := (⟨"ToldTracksModel", "isPair", "(I)Z"⟩, 83)) (List.mem_of_getElem? (i := 114) rfl)
theorem wd115 : Cond.selects "ToldTracksModel" ⟨"ToldTracksModel", "keepsSets", "()V"⟩ ⟨"ToldTracksModel", "keepsSets", "()V"⟩ ∈ am_ws := am_m0 (q := (⟨"ToldTracksModel", "keepsSets", "()V"⟩, 83)) (List.mem_of_getElem? (i := 115) rfl)
theorem wd116 : Cond.selects "ToldTracksModel" ⟨"ToldTracksModel", "parts", "(II)Z"⟩ ⟨"ToldTracksModel", "parts", "(II)Z"⟩ ∈ am_ws := am_m0 (q := (⟨"ToldTracksModel", "parts", "(II)Z"⟩, 83)) (List.mem_of_getElem? (i := 116) rfl)
theorem wd117 : Cond.selects "ToldTracksModel" ⟨"ToldTracksModel", "bringsSets", "()V"⟩ ⟨"ToldTracksModel", "bringsSets", "()V"⟩ ∈ am_ws := am_m0 (q := (⟨"ToldTracksModel", "bringsSets", "()V"⟩, 83)) (List.mem_of_getElem? (i := 117) rfl)
theorem wd118 : Cond.selects "ToldTracksModel" ⟨"ToldTracksModel", "gapsOf", "(I)I"⟩ ⟨"ToldTracksModel", "gapsOf", "(I)I"⟩ ∈ am_ws := am_m0 (q := (⟨"ToldTracksModel", "gapsOf", "(I)I"⟩, 83)) (List.mem_of_getElem? (i := 118) rfl)
theorem wd119 : Cond.selects "ToldTracksModel" ⟨"ToldTracksModel", "isHonest", "(II)Z"⟩ ⟨"ToldTracksModel", "isHonest", "(II)Z"⟩ ∈ am_ws := am_m0 (q := (⟨"ToldTracksModel", "isHonest", "(II)Z"⟩, 83)) (List.mem_of_getElem? (i := 119) rfl)
theorem wd120 : Cond.selects "ToldTracksModel" ⟨"ToldTracksModel", "taleOf", "(II)I"⟩ ⟨"ToldTracksModel", "taleOf", "(II)I"⟩ ∈ am_ws := am_m0 (q := (⟨"ToldTracksModel", "taleOf", "(II)I"⟩, 83)) (List.mem_of_getElem? (i := 120) rfl)
theorem wd121 : Cond.selects "ToldTracksModel" ⟨"ToldTracksModel", "isFor", "(II)Z"⟩ ⟨"ToldTracksModel", "isFor", "(II)Z"⟩ ∈ am_ws := am_m0 (q := (⟨"ToldTracksModel", "isFor", "(II)Z"⟩, 83)) (List.mem_of_getElem? (i := 121) rfl)
theorem wd122 : Cond.selects "ToldTracksModel" ⟨"ToldTracksModel", "liesOf", "(I)I"⟩ ⟨"ToldTracksModel", "liesOf", "(I)I"⟩ ∈ am_ws := am_m0 (q := (⟨"ToldTracksModel", "liesOf", "(I)I"⟩, 83)) (List.mem_of_getElem? (i := 122) rfl)
theorem wd123 : Cond.selects "ToldTracksModel" ⟨"ToldTracksModel", "changes", "(IIZ)Z"⟩ ⟨"ToldTracksModel", "changes", "(IIZ)Z"⟩ ∈ am_ws := am_m0 (q := (⟨"ToldTracksModel", "changes", "(IIZ)Z"⟩, 83)) (List.mem_of_getElem? (i := 123) rfl)
theorem wd124 : Cond.selects "ToldTracksModel" ⟨"ToldTracksModel", "explains", "()V"⟩ ⟨"ToldTracksModel", "explains", "()V"⟩ ∈ am_ws := am_m0 (q := (⟨"ToldTracksModel", "explains", "()V"⟩, 83)) (List.mem_of_getElem? (i := 124) rfl)
theorem wd125 : Cond.selects "ToldTracksModel" ⟨"ToldTracksModel", "chanceOf", "(I)J"⟩ ⟨"ToldTracksModel", "chanceOf", "(I)J"⟩ ∈ am_ws := am_m0 (q := (⟨"ToldTracksModel", "chanceOf", "(I)J"⟩, 83)) (List.mem_of_getElem? (i := 125) rfl)
theorem wd126 : Cond.selects "ToldTracksModel" ⟨"ToldTracksModel", "settlesAll", "()V"⟩ ⟨"ToldTracksModel", "settlesAll", "()V"⟩ ∈ am_ws := am_m0 (q := (⟨"ToldTracksModel", "settlesAll", "()V"⟩, 83)) (List.mem_of_getElem? (i := 126) rfl)
theorem wd127 : Cond.selects "ToldTracksModel" ⟨"ToldTracksModel", "offOf", "(I)I"⟩ ⟨"ToldTracksModel", "offOf", "(I)I"⟩ ∈ am_ws := am_m0 (q := (⟨"ToldTracksModel", "offOf", "(I)I"⟩, 83)) (List.mem_of_getElem? (i := 127) rfl)
theorem wd128 : Cond.selects "ToldTracksModel" ⟨"ToldTracksModel", "says", "(IIIZ)V"⟩ ⟨"ToldTracksModel", "says", "(IIIZ)V"⟩ ∈ am_ws := am_m0 (q := (⟨"ToldTracksModel", "says", "(IIIZ)V"⟩, 83)) (List.mem_of_getElem? (i := 128) rfl)
theorem wd129 : Cond.selects "ToldTracksModel" ⟨"ToldTracksModel", "numberOf", "(II)I"⟩ ⟨"ToldTracksModel", "numberOf", "(II)I"⟩ ∈ am_ws := am_m0 (q := (⟨"ToldTracksModel", "numberOf", "(II)I"⟩, 83)) (List.mem_of_getElem? (i := 129) rfl)
theorem wd130 : Cond.selects "ToldTracksModel" ⟨"ToldTracksModel", "spots", "(III)V"⟩ ⟨"ToldTracksModel", "spots", "(III)V"⟩ ∈ am_ws := am_m0 (q := (⟨"ToldTracksModel", "spots", "(III)V"⟩, 83)) (List.mem_of_getElem? (i := 130) rfl)
theorem wd131 : Cond.selects "ToldTracksModel" ⟨"ToldTracksModel", "writes", "(I)V"⟩ ⟨"ToldTracksModel", "writes", "(I)V"⟩ ∈ am_ws := am_m0 (q := (⟨"ToldTracksModel", "writes", "(I)V"⟩, 83)) (List.mem_of_getElem? (i := 131) rfl)
theorem wd132 : Cond.selects "ToldTracksModel" ⟨"ToldTracksModel", "isWhole", "(I)Z"⟩ ⟨"ToldTracksModel", "isWhole", "(I)Z"⟩ ∈ am_ws := am_m0 (q := (⟨"ToldTracksModel", "isWhole", "(I)Z"⟩, 83)) (List.mem_of_getElem? (i := 132) rfl)
theorem wd133 : Jvm.Cond.initialized "ToldTracksLaw" ∈ am_ws := am_m1 (List.mem_of_getElem? (i := 0) rfl) rfl
theorem wd134 : Jvm.Cond.initialized "ToldTracks" ∈ am_ws := am_m1 (List.mem_of_getElem? (i := 1) rfl) rfl
theorem wd135 : Jvm.Cond.initialized "ToldTracks$Sea" ∈ am_ws := am_m1 (List.mem_of_getElem? (i := 2) rfl) rfl
theorem wd136 : Jvm.Cond.initialized "ToldTracks$Sights" ∈ am_ws := am_m1 (List.mem_of_getElem? (i := 3) rfl) rfl
theorem wd137 : Jvm.Cond.initialized "ToldTracks$Formula" ∈ am_ws := am_m1 (List.mem_of_getElem? (i := 4) rfl) rfl
theorem wd138 : Jvm.Cond.initialized "ToldTracks$Rules" ∈ am_ws := am_m1 (List.mem_of_getElem? (i := 5) rfl) rfl
theorem wd139 : Jvm.Cond.initialized "ToldTracks$Ship" ∈ am_ws := am_m1 (List.mem_of_getElem? (i := 6) rfl) rfl
theorem wd140 : Jvm.Cond.initialized "ToldTracks$Parser" ∈ am_ws := am_m1 (List.mem_of_getElem? (i := 7) rfl) rfl
theorem wd141 : Jvm.Cond.initialized "ToldTracks$Reader" ∈ am_ws := am_m1 (List.mem_of_getElem? (i := 8) rfl) rfl
theorem wd142 : Jvm.Cond.initialized "java/lang/String" ∈ am_ws := am_m1 (List.mem_of_getElem? (i := 9) rfl) rfl
theorem wd143 : Jvm.Cond.initialized "java/lang/StringLatin1" ∈ am_ws := am_m1 (List.mem_of_getElem? (i := 10) rfl) rfl
theorem wd144 : Jvm.Cond.initialized "jdk/internal/util/Preconditions" ∈ am_ws := am_m1 (List.mem_of_getElem? (i := 11) rfl) rfl
theorem wd145 : Jvm.Cond.initialized "java/lang/StringUTF16" ∈ am_ws := am_m1 (List.mem_of_getElem? (i := 12) rfl) rfl
theorem wd146 : Jvm.Cond.initialized "ToldTracks$Track" ∈ am_ws := am_m1 (List.mem_of_getElem? (i := 13) rfl) rfl
theorem wd147 : Jvm.Cond.initialized "ToldTracks$Waters" ∈ am_ws := am_m1 (List.mem_of_getElem? (i := 14) rfl) rfl
theorem wd148 : Jvm.Cond.initialized "ToldTracks$Line" ∈ am_ws := am_m1 (List.mem_of_getElem? (i := 15) rfl) rfl
theorem wd149 : Jvm.Cond.initialized "ToldTracksModel" ∈ am_ws := am_m1 (List.mem_of_getElem? (i := 16) rfl) rfl
theorem wd150 : Jvm.Cond.initialized "java/lang/Math" ∈ am_ws := am_m1 (List.mem_of_getElem? (i := 17) rfl) rfl
theorem wd151 : Jvm.Cond.initialized "java/util/Arrays" ∈ am_ws := am_m1 (List.mem_of_getElem? (i := 18) rfl) rfl
theorem wd152 : Jvm.Cond.initialized "java/lang/System" ∈ am_ws := am_m1 (List.mem_of_getElem? (i := 19) rfl) rfl
theorem wd153 : Jvm.Cond.initialized "java/lang/Long" ∈ am_ws := am_m1 (List.mem_of_getElem? (i := 20) rfl) rfl
theorem wd154 : Jvm.Cond.classLink "ToldTracksLaw" (7 : Nat) "ToldTracks" ∈ am_ws := am_m1 (List.mem_of_getElem? (i := 21) rfl) rfl
theorem wd155 : Jvm.Cond.instantiable "ToldTracks" (17 : Nat) ∈ am_ws := am_m1 (List.mem_of_getElem? (i := 22) rfl) rfl
theorem wd156 : Jvm.Cond.methodLink "ToldTracksLaw" (9 : Nat) ({ cls := "ToldTracks", name := "<init>", desc := "()V" } : Jvm.MethodName) ∈ am_ws := am_m1 (List.mem_of_getElem? (i := 23) rfl) rfl
theorem wd157 : Jvm.Cond.instanceMethod ({ cls := "ToldTracks", name := "<init>", desc := "()V" } : Jvm.MethodName) ∈ am_ws := am_m1 (List.mem_of_getElem? (i := 24) rfl) rfl
theorem wd158 : Jvm.Cond.code ({ cls := "ToldTracks", name := "<init>", desc := "()V" } : Jvm.MethodName) prog_1_method_1_code (2 : Nat) (Option.none : Option Jvm.ClassFile.FieldType) ∈ am_ws := am_m1 (List.mem_of_getElem? (i := 25) rfl) rfl
theorem wd159 : Jvm.Cond.methodLink "ToldTracks" (3 : Nat) ({ cls := "java/lang/Object", name := "<init>", desc := "()V" } : Jvm.MethodName) ∈ am_ws := am_m1 (List.mem_of_getElem? (i := 26) rfl) rfl
theorem wd160 : Jvm.Cond.instanceMethod ({ cls := "java/lang/Object", name := "<init>", desc := "()V" } : Jvm.MethodName) ∈ am_ws := am_m1 (List.mem_of_getElem? (i := 27) rfl) rfl
theorem wd161 : Jvm.Cond.code ({ cls := "java/lang/Object", name := "<init>", desc := "()V" } : Jvm.MethodName) object_method_1_code (1 : Nat) (Option.none : Option Jvm.ClassFile.FieldType) ∈ am_ws := am_m1 (List.mem_of_getElem? (i := 28) rfl) rfl
theorem wd162 : Jvm.Cond.classLink "ToldTracks" (13 : Nat) "ToldTracks$Sea" ∈ am_ws := am_m1 (List.mem_of_getElem? (i := 29) rfl) rfl
theorem wd163 : Jvm.Cond.instantiable "ToldTracks$Sea" (14 : Nat) ∈ am_ws := am_m1 (List.mem_of_getElem? (i := 30) rfl) rfl
theorem wd164 : Jvm.Cond.methodLink "ToldTracks" (15 : Nat) ({ cls := "ToldTracks$Sea", name := "<init>", desc := "()V" } : Jvm.MethodName) ∈ am_ws := am_m1 (List.mem_of_getElem? (i := 31) rfl) rfl
theorem wd165 : Jvm.Cond.instanceMethod ({ cls := "ToldTracks$Sea", name := "<init>", desc := "()V" } : Jvm.MethodName) ∈ am_ws := am_m1 (List.mem_of_getElem? (i := 32) rfl) rfl
theorem wd166 : Jvm.Cond.code ({ cls := "ToldTracks$Sea", name := "<init>", desc := "()V" } : Jvm.MethodName) prog_7_method_1_code (2 : Nat) (Option.none : Option Jvm.ClassFile.FieldType) ∈ am_ws := am_m1 (List.mem_of_getElem? (i := 33) rfl) rfl
theorem wd167 : Jvm.Cond.methodLink "ToldTracks$Sea" (3 : Nat) ({ cls := "java/lang/Object", name := "<init>", desc := "()V" } : Jvm.MethodName) ∈ am_ws := am_m1 (List.mem_of_getElem? (i := 34) rfl) rfl
theorem wd168 : Jvm.Cond.classLink "ToldTracks$Sea" (15 : Nat) "ToldTracks$Ship" ∈ am_ws := am_m1 (List.mem_of_getElem? (i := 35) rfl) rfl
theorem wd170 : Jvm.Cond.classLink "ToldTracks$Sea" (21 : Nat) "ToldTracks$Sights" ∈ am_ws := am_m1 (List.mem_of_getElem? (i := 37) rfl) rfl
theorem wd171 : Jvm.Cond.instantiable "ToldTracks$Sights" (4 : Nat) ∈ am_ws := am_m1 (List.mem_of_getElem? (i := 38) rfl) rfl
theorem wd173 : Jvm.Cond.instanceMethod ({ cls := "ToldTracks$Sights", name := "<init>", desc := "()V" } : Jvm.MethodName) ∈ am_ws := am_m1 (List.mem_of_getElem? (i := 40) rfl) rfl
theorem wd174 : Jvm.Cond.code ({ cls := "ToldTracks$Sights", name := "<init>", desc := "()V" } : Jvm.MethodName) prog_9_method_1_code (1 : Nat) (Option.none : Option Jvm.ClassFile.FieldType) ∈ am_ws := am_m1 (List.mem_of_getElem? (i := 41) rfl) rfl
theorem wd175 : Jvm.Cond.methodLink "ToldTracks$Sights" (3 : Nat) ({ cls := "java/lang/Object", name := "<init>", desc := "()V" } : Jvm.MethodName) ∈ am_ws := am_m1 (List.mem_of_getElem? (i := 42) rfl) rfl
theorem wd176 : Jvm.Cond.fieldLink "ToldTracks$Sights" (21 : Nat) "ToldTracks$Sights" "count" "I" ∈ am_ws := am_m1 (List.mem_of_getElem? (i := 43) rfl) rfl
theorem wd177 : Jvm.Cond.fieldLink "ToldTracks$Sea" (74 : Nat) "ToldTracks$Sights" "count" "I" ∈ am_ws := am_m1 (List.mem_of_getElem? (i := 44) rfl) rfl
theorem wd178 : Jvm.Cond.fieldLink "ToldTracks" (132 : Nat) "ToldTracks$Sights" "count" "I" ∈ am_ws := am_m1 (List.mem_of_getElem? (i := 45) rfl) rfl
theorem wd179 : Jvm.Cond.fieldLink "ToldTracks$Parser" (178 : Nat) "ToldTracks$Sights" "count" "I" ∈ am_ws := am_m1 (List.mem_of_getElem? (i := 46) rfl) rfl
theorem wd180 : Jvm.Cond.fieldLink "ToldTracks$Sights" (9 : Nat) "ToldTracks$Sights" "looks" "[I" ∈ am_ws := am_m1 (List.mem_of_getElem? (i := 47) rfl) rfl
theorem wd181 : Jvm.Cond.fieldLink "ToldTracks" (275 : Nat) "ToldTracks$Sights" "looks" "[I" ∈ am_ws := am_m1 (List.mem_of_getElem? (i := 48) rfl) rfl
theorem wd182 : Jvm.Cond.fieldLink "ToldTracks$Sights" (15 : Nat) "ToldTracks$Sights" "places" "[I" ∈ am_ws := am_m1 (List.mem_of_getElem? (i := 49) rfl) rfl
theorem wd183 : Jvm.Cond.fieldLink "ToldTracks" (278 : Nat) "ToldTracks$Sights" "places" "[I" ∈ am_ws := am_m1 (List.mem_of_getElem? (i := 50) rfl) rfl
theorem wd184 : Jvm.Cond.fieldLink "ToldTracks$Sights" (18 : Nat) "ToldTracks$Sights" "hours" "[I" ∈ am_ws := am_m1 (List.mem_of_getElem? (i := 51) rfl) rfl
theorem wd185 : Jvm.Cond.fieldLink "ToldTracks" (279 : Nat) "ToldTracks$Sights" "hours" "[I" ∈ am_ws := am_m1 (List.mem_of_getElem? (i := 52) rfl) rfl
theorem wd186 : Jvm.Cond.lays "ToldTracks$Sights" "ToldTracks$Sights" "count" "I" ∈ am_ws := am_m1 (List.mem_of_getElem? (i := 53) rfl) rfl
theorem wd188 : Jvm.Cond.laysFinal "ToldTracks$Sights" "ToldTracks$Sights" "looks" "[I" ∈ am_ws := am_m1 (List.mem_of_getElem? (i := 55) rfl) rfl
theorem wd190 : Jvm.Cond.laysFinal "ToldTracks$Sights" "ToldTracks$Sights" "places" "[I" ∈ am_ws := am_m1 (List.mem_of_getElem? (i := 57) rfl) rfl
theorem wd192 : Jvm.Cond.laysFinal "ToldTracks$Sights" "ToldTracks$Sights" "hours" "[I" ∈ am_ws := am_m1 (List.mem_of_getElem? (i := 59) rfl) rfl
theorem wd195 : Jvm.Cond.arrayClass Jvm.ClassFile.FieldType.int ∈ am_ws := am_m1 (List.mem_of_getElem? (i := 62) rfl) rfl
theorem wd196 : Jvm.Cond.classLink "ToldTracks$Sea" (28 : Nat) "ToldTracks$Formula" ∈ am_ws := am_m1 (List.mem_of_getElem? (i := 63) rfl) rfl
theorem wd197 : Jvm.Cond.instantiable "ToldTracks$Formula" (3 : Nat) ∈ am_ws := am_m1 (List.mem_of_getElem? (i := 64) rfl) rfl
theorem wd199 : Jvm.Cond.instanceMethod ({ cls := "ToldTracks$Formula", name := "<init>", desc := "()V" } : Jvm.MethodName) ∈ am_ws := am_m1 (List.mem_of_getElem? (i := 66) rfl) rfl
theorem wd200 : Jvm.Cond.code ({ cls := "ToldTracks$Formula", name := "<init>", desc := "()V" } : Jvm.MethodName) prog_2_method_1_code (1 : Nat) (Option.none : Option Jvm.ClassFile.FieldType) ∈ am_ws := am_m1 (List.mem_of_getElem? (i := 67) rfl) rfl
theorem wd201 : Jvm.Cond.methodLink "ToldTracks$Formula" (3 : Nat) ({ cls := "java/lang/Object", name := "<init>", desc := "()V" } : Jvm.MethodName) ∈ am_ws := am_m1 (List.mem_of_getElem? (i := 68) rfl) rfl
theorem wd202 : Jvm.Cond.fieldLink "ToldTracks$Formula" (9 : Nat) "ToldTracks$Formula" "steps" "[I" ∈ am_ws := am_m1 (List.mem_of_getElem? (i := 69) rfl) rfl
theorem wd203 : Jvm.Cond.fieldLink "ToldTracks$Formula" (18 : Nat) "ToldTracks$Formula" "count" "I" ∈ am_ws := am_m1 (List.mem_of_getElem? (i := 70) rfl) rfl
theorem wd204 : Jvm.Cond.fieldLink "ToldTracks$Sea" (77 : Nat) "ToldTracks$Formula" "count" "I" ∈ am_ws := am_m1 (List.mem_of_getElem? (i := 71) rfl) rfl
theorem wd205 : Jvm.Cond.fieldLink "ToldTracks$Parser" (98 : Nat) "ToldTracks$Formula" "count" "I" ∈ am_ws := am_m1 (List.mem_of_getElem? (i := 72) rfl) rfl
theorem wd206 : Jvm.Cond.fieldLink "ToldTracks$Formula" (15 : Nat) "ToldTracks$Formula" "pile" "[I" ∈ am_ws := am_m1 (List.mem_of_getElem? (i := 73) rfl) rfl
theorem wd207 : Jvm.Cond.laysFinal "ToldTracks$Formula" "ToldTracks$Formula" "steps" "[I" ∈ am_ws := am_m1 (List.mem_of_getElem? (i := 74) rfl) rfl
theorem wd209 : Jvm.Cond.lays "ToldTracks$Formula" "ToldTracks$Formula" "count" "I" ∈ am_ws := am_m1 (List.mem_of_getElem? (i := 76) rfl) rfl
theorem wd211 : Jvm.Cond.laysFinal "ToldTracks$Formula" "ToldTracks$Formula" "pile" "[I" ∈ am_ws := am_m1 (List.mem_of_getElem? (i := 78) rfl) rfl
theorem wd214 : Jvm.Cond.classLink "ToldTracks$Sea" (35 : Nat) "ToldTracks$Rules" ∈ am_ws := am_m1 (List.mem_of_getElem? (i := 81) rfl) rfl
theorem wd215 : Jvm.Cond.instantiable "ToldTracks$Rules" (4 : Nat) ∈ am_ws := am_m1 (List.mem_of_getElem? (i := 82) rfl) rfl
theorem wd216 : Jvm.Cond.methodLink "ToldTracks$Sea" (37 : Nat) ({ cls := "ToldTracks$Rules", name := "<init>", desc := "(I)V" } : Jvm.MethodName) ∈ am_ws := am_m1 (List.mem_of_getElem? (i := 83) rfl) rfl
theorem wd217 : Jvm.Cond.instanceMethod ({ cls := "ToldTracks$Rules", name := "<init>", desc := "(I)V" } : Jvm.MethodName) ∈ am_ws := am_m1 (List.mem_of_getElem? (i := 84) rfl) rfl
theorem wd218 : Jvm.Cond.code ({ cls := "ToldTracks$Rules", name := "<init>", desc := "(I)V" } : Jvm.MethodName) prog_6_method_1_code (2 : Nat) (Option.none : Option Jvm.ClassFile.FieldType) ∈ am_ws := am_m1 (List.mem_of_getElem? (i := 85) rfl) rfl
theorem wd219 : Jvm.Cond.methodLink "ToldTracks$Rules" (3 : Nat) ({ cls := "java/lang/Object", name := "<init>", desc := "()V" } : Jvm.MethodName) ∈ am_ws := am_m1 (List.mem_of_getElem? (i := 86) rfl) rfl
theorem wd220 : Jvm.Cond.fieldLink "ToldTracks$Rules" (21 : Nat) "ToldTracks$Rules" "count" "I" ∈ am_ws := am_m1 (List.mem_of_getElem? (i := 87) rfl) rfl
theorem wd221 : Jvm.Cond.fieldLink "ToldTracks$Sea" (78 : Nat) "ToldTracks$Rules" "count" "I" ∈ am_ws := am_m1 (List.mem_of_getElem? (i := 88) rfl) rfl
theorem wd222 : Jvm.Cond.fieldLink "ToldTracks$Rules" (9 : Nat) "ToldTracks$Rules" "sumFrom" "[I" ∈ am_ws := am_m1 (List.mem_of_getElem? (i := 89) rfl) rfl
theorem wd223 : Jvm.Cond.fieldLink "ToldTracks$Rules" (15 : Nat) "ToldTracks$Rules" "testFrom" "[I" ∈ am_ws := am_m1 (List.mem_of_getElem? (i := 90) rfl) rfl
theorem wd224 : Jvm.Cond.fieldLink "ToldTracks$Rules" (18 : Nat) "ToldTracks$Rules" "testTo" "[I" ∈ am_ws := am_m1 (List.mem_of_getElem? (i := 91) rfl) rfl
theorem wd225 : Jvm.Cond.lays "ToldTracks$Rules" "ToldTracks$Rules" "count" "I" ∈ am_ws := am_m1 (List.mem_of_getElem? (i := 92) rfl) rfl
theorem wd227 : Jvm.Cond.laysFinal "ToldTracks$Rules" "ToldTracks$Rules" "sumFrom" "[I" ∈ am_ws := am_m1 (List.mem_of_getElem? (i := 94) rfl) rfl
theorem wd229 : Jvm.Cond.laysFinal "ToldTracks$Rules" "ToldTracks$Rules" "testFrom" "[I" ∈ am_ws := am_m1 (List.mem_of_getElem? (i := 96) rfl) rfl
theorem wd231 : Jvm.Cond.laysFinal "ToldTracks$Rules" "ToldTracks$Rules" "testTo" "[I" ∈ am_ws := am_m1 (List.mem_of_getElem? (i := 98) rfl) rfl
theorem wd234 : Jvm.Cond.instantiable "ToldTracks$Ship" (13 : Nat) ∈ am_ws := am_m1 (List.mem_of_getElem? (i := 101) rfl) rfl
theorem wd236 : Jvm.Cond.instanceMethod ({ cls := "ToldTracks$Ship", name := "<init>", desc := "()V" } : Jvm.MethodName) ∈ am_ws := am_m1 (List.mem_of_getElem? (i := 103) rfl) rfl
theorem wd237 : Jvm.Cond.code ({ cls := "ToldTracks$Ship", name := "<init>", desc := "()V" } : Jvm.MethodName) prog_8_method_1_code (1 : Nat) (Option.none : Option Jvm.ClassFile.FieldType) ∈ am_ws := am_m1 (List.mem_of_getElem? (i := 104) rfl) rfl
theorem wd238 : Jvm.Cond.methodLink "ToldTracks$Ship" (3 : Nat) ({ cls := "java/lang/Object", name := "<init>", desc := "()V" } : Jvm.MethodName) ∈ am_ws := am_m1 (List.mem_of_getElem? (i := 105) rfl) rfl
theorem wd239 : Jvm.Cond.fieldLink "ToldTracks" (147 : Nat) "ToldTracks$Ship" "name" "I" ∈ am_ws := am_m1 (List.mem_of_getElem? (i := 106) rfl) rfl
theorem wd240 : Jvm.Cond.fieldLink "ToldTracks$Sea" (100 : Nat) "ToldTracks$Ship" "name" "I" ∈ am_ws := am_m1 (List.mem_of_getElem? (i := 107) rfl) rfl
theorem wd241 : Jvm.Cond.fieldLink "ToldTracks" (152 : Nat) "ToldTracks$Ship" "look" "I" ∈ am_ws := am_m1 (List.mem_of_getElem? (i := 108) rfl) rfl
theorem wd242 : Jvm.Cond.fieldLink "ToldTracks$Sea" (103 : Nat) "ToldTracks$Ship" "look" "I" ∈ am_ws := am_m1 (List.mem_of_getElem? (i := 109) rfl) rfl
theorem wd243 : Jvm.Cond.fieldLink "ToldTracks$Waters" (31 : Nat) "ToldTracks$Ship" "speed" "I" ∈ am_ws := am_m1 (List.mem_of_getElem? (i := 110) rfl) rfl
theorem wd244 : Jvm.Cond.fieldLink "ToldTracks" (155 : Nat) "ToldTracks$Ship" "speed" "I" ∈ am_ws := am_m1 (List.mem_of_getElem? (i := 111) rfl) rfl
theorem wd245 : Jvm.Cond.fieldLink "ToldTracks$Sea" (106 : Nat) "ToldTracks$Ship" "speed" "I" ∈ am_ws := am_m1 (List.mem_of_getElem? (i := 112) rfl) rfl
theorem wd246 : Jvm.Cond.fieldLink "ToldTracks$Waters" (52 : Nat) "ToldTracks$Ship" "draft" "I" ∈ am_ws := am_m1 (List.mem_of_getElem? (i := 113) rfl) rfl
theorem wd247 : Jvm.Cond.fieldLink "ToldTracks$Track" (73 : Nat) "ToldTracks$Ship" "draft" "I" ∈ am_ws := am_m1 (List.mem_of_getElem? (i := 114) rfl) rfl
theorem wd248 : Jvm.Cond.fieldLink "ToldTracks" (158 : Nat) "ToldTracks$Ship" "draft" "I" ∈ am_ws := am_m1 (List.mem_of_getElem? (i := 115) rfl) rfl
theorem wd249 : Jvm.Cond.fieldLink "ToldTracks$Sea" (109 : Nat) "ToldTracks$Ship" "draft" "I" ∈ am_ws := am_m1 (List.mem_of_getElem? (i := 116) rfl) rfl
theorem wd250 : Jvm.Cond.fieldLink "ToldTracks$Track" (79 : Nat) "ToldTracks$Ship" "load" "I" ∈ am_ws := am_m1 (List.mem_of_getElem? (i := 117) rfl) rfl
theorem wd251 : Jvm.Cond.fieldLink "ToldTracks" (161 : Nat) "ToldTracks$Ship" "load" "I" ∈ am_ws := am_m1 (List.mem_of_getElem? (i := 118) rfl) rfl
theorem wd252 : Jvm.Cond.fieldLink "ToldTracks$Sea" (112 : Nat) "ToldTracks$Ship" "load" "I" ∈ am_ws := am_m1 (List.mem_of_getElem? (i := 119) rfl) rfl
theorem wd253 : Jvm.Cond.fieldLink "ToldTracks$Ship" (31 : Nat) "ToldTracks$Ship" "count" "I" ∈ am_ws := am_m1 (List.mem_of_getElem? (i := 120) rfl) rfl
theorem wd254 : Jvm.Cond.fieldLink "ToldTracks$Track" (117 : Nat) "ToldTracks$Ship" "count" "I" ∈ am_ws := am_m1 (List.mem_of_getElem? (i := 121) rfl) rfl
theorem wd255 : Jvm.Cond.fieldLink "ToldTracks" (164 : Nat) "ToldTracks$Ship" "count" "I" ∈ am_ws := am_m1 (List.mem_of_getElem? (i := 122) rfl) rfl
theorem wd256 : Jvm.Cond.fieldLink "ToldTracks$Sea" (96 : Nat) "ToldTracks$Ship" "count" "I" ∈ am_ws := am_m1 (List.mem_of_getElem? (i := 123) rfl) rfl
theorem wd257 : Jvm.Cond.fieldLink "ToldTracks$Ship" (9 : Nat) "ToldTracks$Ship" "hours" "[I" ∈ am_ws := am_m1 (List.mem_of_getElem? (i := 124) rfl) rfl
theorem wd258 : Jvm.Cond.fieldLink "ToldTracks$Track" (82 : Nat) "ToldTracks$Ship" "hours" "[I" ∈ am_ws := am_m1 (List.mem_of_getElem? (i := 125) rfl) rfl
theorem wd259 : Jvm.Cond.fieldLink "ToldTracks" (186 : Nat) "ToldTracks$Ship" "hours" "[I" ∈ am_ws := am_m1 (List.mem_of_getElem? (i := 126) rfl) rfl
theorem wd260 : Jvm.Cond.fieldLink "ToldTracks$Ship" (15 : Nat) "ToldTracks$Ship" "places" "[I" ∈ am_ws := am_m1 (List.mem_of_getElem? (i := 127) rfl) rfl
theorem wd261 : Jvm.Cond.fieldLink "ToldTracks$Track" (91 : Nat) "ToldTracks$Ship" "places" "[I" ∈ am_ws := am_m1 (List.mem_of_getElem? (i := 128) rfl) rfl
theorem wd262 : Jvm.Cond.fieldLink "ToldTracks" (189 : Nat) "ToldTracks$Ship" "places" "[I" ∈ am_ws := am_m1 (List.mem_of_getElem? (i := 129) rfl) rfl
theorem wd263 : Jvm.Cond.fieldLink "ToldTracks$Ship" (18 : Nat) "ToldTracks$Ship" "laden" "[Z" ∈ am_ws := am_m1 (List.mem_of_getElem? (i := 130) rfl) rfl
theorem wd264 : Jvm.Cond.fieldLink "ToldTracks$Track" (124 : Nat) "ToldTracks$Ship" "laden" "[Z" ∈ am_ws := am_m1 (List.mem_of_getElem? (i := 131) rfl) rfl
theorem wd265 : Jvm.Cond.fieldLink "ToldTracks" (196 : Nat) "ToldTracks$Ship" "laden" "[Z" ∈ am_ws := am_m1 (List.mem_of_getElem? (i := 132) rfl) rfl
theorem wd266 : Jvm.Cond.fieldLink "ToldTracks$Ship" (35 : Nat) "ToldTracks$Ship" "bookCount" "I" ∈ am_ws := am_m1 (List.mem_of_getElem? (i := 133) rfl) rfl
theorem wd267 : Jvm.Cond.fieldLink "ToldTracks$Track" (101 : Nat) "ToldTracks$Ship" "bookCount" "I" ∈ am_ws := am_m1 (List.mem_of_getElem? (i := 134) rfl) rfl
theorem wd268 : Jvm.Cond.fieldLink "ToldTracks" (172 : Nat) "ToldTracks$Ship" "bookCount" "I" ∈ am_ws := am_m1 (List.mem_of_getElem? (i := 135) rfl) rfl
theorem wd269 : Jvm.Cond.fieldLink "ToldTracks$Sea" (97 : Nat) "ToldTracks$Ship" "bookCount" "I" ∈ am_ws := am_m1 (List.mem_of_getElem? (i := 136) rfl) rfl
theorem wd270 : Jvm.Cond.fieldLink "ToldTracks$Ship" (22 : Nat) "ToldTracks$Ship" "bookPlaces" "[I" ∈ am_ws := am_m1 (List.mem_of_getElem? (i := 137) rfl) rfl
theorem wd271 : Jvm.Cond.fieldLink "ToldTracks$Track" (110 : Nat) "ToldTracks$Ship" "bookPlaces" "[I" ∈ am_ws := am_m1 (List.mem_of_getElem? (i := 138) rfl) rfl
theorem wd272 : Jvm.Cond.fieldLink "ToldTracks$Ship" (25 : Nat) "ToldTracks$Ship" "bookFroms" "[I" ∈ am_ws := am_m1 (List.mem_of_getElem? (i := 139) rfl) rfl
theorem wd273 : Jvm.Cond.fieldLink "ToldTracks$Track" (104 : Nat) "ToldTracks$Ship" "bookFroms" "[I" ∈ am_ws := am_m1 (List.mem_of_getElem? (i := 140) rfl) rfl
theorem wd274 : Jvm.Cond.fieldLink "ToldTracks$Ship" (28 : Nat) "ToldTracks$Ship" "bookTos" "[I" ∈ am_ws := am_m1 (List.mem_of_getElem? (i := 141) rfl) rfl
theorem wd275 : Jvm.Cond.fieldLink "ToldTracks$Track" (107 : Nat) "ToldTracks$Ship" "bookTos" "[I" ∈ am_ws := am_m1 (List.mem_of_getElem? (i := 142) rfl) rfl
theorem wd276 : Jvm.Cond.lays "ToldTracks$Ship" "ToldTracks$Ship" "name" "I" ∈ am_ws := am_m1 (List.mem_of_getElem? (i := 143) rfl) rfl
theorem wd278 : Jvm.Cond.lays "ToldTracks$Ship" "ToldTracks$Ship" "look" "I" ∈ am_ws := am_m1 (List.mem_of_getElem? (i := 145) rfl) rfl
theorem wd280 : Jvm.Cond.lays "ToldTracks$Ship" "ToldTracks$Ship" "speed" "I" ∈ am_ws := am_m1 (List.mem_of_getElem? (i := 147) rfl) rfl
theorem wd282 : Jvm.Cond.lays "ToldTracks$Ship" "ToldTracks$Ship" "draft" "I" ∈ am_ws := am_m1 (List.mem_of_getElem? (i := 149) rfl) rfl
theorem wd284 : Jvm.Cond.lays "ToldTracks$Ship" "ToldTracks$Ship" "load" "I" ∈ am_ws := am_m1 (List.mem_of_getElem? (i := 151) rfl) rfl
theorem wd286 : Jvm.Cond.lays "ToldTracks$Ship" "ToldTracks$Ship" "count" "I" ∈ am_ws := am_m1 (List.mem_of_getElem? (i := 153) rfl) rfl
theorem wd288 : Jvm.Cond.laysFinal "ToldTracks$Ship" "ToldTracks$Ship" "hours" "[I" ∈ am_ws := am_m1 (List.mem_of_getElem? (i := 155) rfl) rfl
theorem wd290 : Jvm.Cond.laysFinal "ToldTracks$Ship" "ToldTracks$Ship" "places" "[I" ∈ am_ws := am_m1 (List.mem_of_getElem? (i := 157) rfl) rfl
theorem wd292 : Jvm.Cond.laysFinal "ToldTracks$Ship" "ToldTracks$Ship" "laden" "[Z" ∈ am_ws := am_m1 (List.mem_of_getElem? (i := 159) rfl) rfl
theorem wd294 : Jvm.Cond.lays "ToldTracks$Ship" "ToldTracks$Ship" "bookCount" "I" ∈ am_ws := am_m1 (List.mem_of_getElem? (i := 161) rfl) rfl
theorem wd296 : Jvm.Cond.laysFinal "ToldTracks$Ship" "ToldTracks$Ship" "bookPlaces" "[I" ∈ am_ws := am_m1 (List.mem_of_getElem? (i := 163) rfl) rfl
theorem wd298 : Jvm.Cond.laysFinal "ToldTracks$Ship" "ToldTracks$Ship" "bookFroms" "[I" ∈ am_ws := am_m1 (List.mem_of_getElem? (i := 165) rfl) rfl
theorem wd300 : Jvm.Cond.laysFinal "ToldTracks$Ship" "ToldTracks$Ship" "bookTos" "[I" ∈ am_ws := am_m1 (List.mem_of_getElem? (i := 167) rfl) rfl
theorem wd303 : Jvm.Cond.arrayClass Jvm.ClassFile.FieldType.long ∈ am_ws := am_m1 (List.mem_of_getElem? (i := 170) rfl) rfl
theorem wd304 : Jvm.Cond.arrayClass Jvm.ClassFile.FieldType.boolean ∈ am_ws := am_m1 (List.mem_of_getElem? (i := 171) rfl) rfl
theorem wd305 : Jvm.Cond.fieldLink "ToldTracks$Sea" (65 : Nat) "ToldTracks$Sea" "columns" "I" ∈ am_ws := am_m1 (List.mem_of_getElem? (i := 172) rfl) rfl
theorem wd306 : Jvm.Cond.fieldLink "ToldTracks$Parser" (78 : Nat) "ToldTracks$Sea" "columns" "I" ∈ am_ws := am_m1 (List.mem_of_getElem? (i := 173) rfl) rfl
theorem wd307 : Jvm.Cond.fieldLink "ToldTracks" (115 : Nat) "ToldTracks$Sea" "columns" "I" ∈ am_ws := am_m1 (List.mem_of_getElem? (i := 174) rfl) rfl
theorem wd308 : Jvm.Cond.fieldLink "ToldTracks$Sea" (68 : Nat) "ToldTracks$Sea" "rows" "I" ∈ am_ws := am_m1 (List.mem_of_getElem? (i := 175) rfl) rfl
theorem wd309 : Jvm.Cond.fieldLink "ToldTracks$Parser" (81 : Nat) "ToldTracks$Sea" "rows" "I" ∈ am_ws := am_m1 (List.mem_of_getElem? (i := 176) rfl) rfl
theorem wd310 : Jvm.Cond.fieldLink "ToldTracks" (118 : Nat) "ToldTracks$Sea" "rows" "I" ∈ am_ws := am_m1 (List.mem_of_getElem? (i := 177) rfl) rfl
theorem wd311 : Jvm.Cond.fieldLink "ToldTracks$Sea" (9 : Nat) "ToldTracks$Sea" "luck" "I" ∈ am_ws := am_m1 (List.mem_of_getElem? (i := 178) rfl) rfl
theorem wd312 : Jvm.Cond.fieldLink "ToldTracks$Parser" (75 : Nat) "ToldTracks$Sea" "luck" "I" ∈ am_ws := am_m1 (List.mem_of_getElem? (i := 179) rfl) rfl
theorem wd313 : Jvm.Cond.fieldLink "ToldTracks" (137 : Nat) "ToldTracks$Sea" "luck" "I" ∈ am_ws := am_m1 (List.mem_of_getElem? (i := 180) rfl) rfl
theorem wd314 : Jvm.Cond.fieldLink "ToldTracks$Sea" (71 : Nat) "ToldTracks$Sea" "shipCount" "I" ∈ am_ws := am_m1 (List.mem_of_getElem? (i := 181) rfl) rfl
theorem wd315 : Jvm.Cond.fieldLink "ToldTracks" (105 : Nat) "ToldTracks$Sea" "shipCount" "I" ∈ am_ws := am_m1 (List.mem_of_getElem? (i := 182) rfl) rfl
theorem wd316 : Jvm.Cond.fieldLink "ToldTracks$Parser" (119 : Nat) "ToldTracks$Sea" "shipCount" "I" ∈ am_ws := am_m1 (List.mem_of_getElem? (i := 183) rfl) rfl
theorem wd317 : Jvm.Cond.fieldLink "ToldTracks$Sea" (17 : Nat) "ToldTracks$Sea" "ships" "[LToldTracks$Ship;" ∈ am_ws := am_m1 (List.mem_of_getElem? (i := 184) rfl) rfl
theorem wd318 : Jvm.Cond.fieldLink "ToldTracks" (61 : Nat) "ToldTracks$Sea" "ships" "[LToldTracks$Ship;" ∈ am_ws := am_m1 (List.mem_of_getElem? (i := 185) rfl) rfl
theorem wd319 : Jvm.Cond.fieldLink "ToldTracks$Parser" (151 : Nat) "ToldTracks$Sea" "ships" "[LToldTracks$Ship;" ∈ am_ws := am_m1 (List.mem_of_getElem? (i := 186) rfl) rfl
theorem wd320 : Jvm.Cond.fieldLink "ToldTracks$Sea" (24 : Nat) "ToldTracks$Sea" "sights" "LToldTracks$Sights;" ∈ am_ws := am_m1 (List.mem_of_getElem? (i := 187) rfl) rfl
theorem wd321 : Jvm.Cond.fieldLink "ToldTracks" (128 : Nat) "ToldTracks$Sea" "sights" "LToldTracks$Sights;" ∈ am_ws := am_m1 (List.mem_of_getElem? (i := 188) rfl) rfl
theorem wd322 : Jvm.Cond.fieldLink "ToldTracks$Parser" (174 : Nat) "ToldTracks$Sea" "sights" "LToldTracks$Sights;" ∈ am_ws := am_m1 (List.mem_of_getElem? (i := 189) rfl) rfl
theorem wd323 : Jvm.Cond.fieldLink "ToldTracks$Sea" (31 : Nat) "ToldTracks$Sea" "formula" "LToldTracks$Formula;" ∈ am_ws := am_m1 (List.mem_of_getElem? (i := 190) rfl) rfl
theorem wd324 : Jvm.Cond.fieldLink "ToldTracks$Parser" (94 : Nat) "ToldTracks$Sea" "formula" "LToldTracks$Formula;" ∈ am_ws := am_m1 (List.mem_of_getElem? (i := 191) rfl) rfl
theorem wd325 : Jvm.Cond.fieldLink "ToldTracks$Sea" (40 : Nat) "ToldTracks$Sea" "depths" "LToldTracks$Rules;" ∈ am_ws := am_m1 (List.mem_of_getElem? (i := 192) rfl) rfl
theorem wd326 : Jvm.Cond.fieldLink "ToldTracks$Parser" (42 : Nat) "ToldTracks$Sea" "depths" "LToldTracks$Rules;" ∈ am_ws := am_m1 (List.mem_of_getElem? (i := 193) rfl) rfl
theorem wd327 : Jvm.Cond.fieldLink "ToldTracks$Sea" (44 : Nat) "ToldTracks$Sea" "costs" "LToldTracks$Rules;" ∈ am_ws := am_m1 (List.mem_of_getElem? (i := 194) rfl) rfl
theorem wd328 : Jvm.Cond.fieldLink "ToldTracks$Parser" (50 : Nat) "ToldTracks$Sea" "costs" "LToldTracks$Rules;" ∈ am_ws := am_m1 (List.mem_of_getElem? (i := 195) rfl) rfl
theorem wd329 : Jvm.Cond.fieldLink "ToldTracks$Sea" (47 : Nat) "ToldTracks$Sea" "quiets" "LToldTracks$Rules;" ∈ am_ws := am_m1 (List.mem_of_getElem? (i := 196) rfl) rfl
theorem wd330 : Jvm.Cond.fieldLink "ToldTracks$Parser" (53 : Nat) "ToldTracks$Sea" "quiets" "LToldTracks$Rules;" ∈ am_ws := am_m1 (List.mem_of_getElem? (i := 197) rfl) rfl
theorem wd331 : Jvm.Cond.fieldLink "ToldTracks$Sea" (50 : Nat) "ToldTracks$Sea" "depth" "[I" ∈ am_ws := am_m1 (List.mem_of_getElem? (i := 198) rfl) rfl
theorem wd332 : Jvm.Cond.fieldLink "ToldTracks$Waters" (46 : Nat) "ToldTracks$Sea" "depth" "[I" ∈ am_ws := am_m1 (List.mem_of_getElem? (i := 199) rfl) rfl
theorem wd333 : Jvm.Cond.fieldLink "ToldTracks$Track" (68 : Nat) "ToldTracks$Sea" "depth" "[I" ∈ am_ws := am_m1 (List.mem_of_getElem? (i := 200) rfl) rfl
theorem wd334 : Jvm.Cond.fieldLink "ToldTracks" (214 : Nat) "ToldTracks$Sea" "depth" "[I" ∈ am_ws := am_m1 (List.mem_of_getElem? (i := 201) rfl) rfl
theorem wd335 : Jvm.Cond.fieldLink "ToldTracks$Sea" (54 : Nat) "ToldTracks$Sea" "cost" "[I" ∈ am_ws := am_m1 (List.mem_of_getElem? (i := 202) rfl) rfl
theorem wd336 : Jvm.Cond.fieldLink "ToldTracks$Sea" (57 : Nat) "ToldTracks$Sea" "quietKnown" "[J" ∈ am_ws := am_m1 (List.mem_of_getElem? (i := 203) rfl) rfl
theorem wd337 : Jvm.Cond.fieldLink "ToldTracks$Sea" (61 : Nat) "ToldTracks$Sea" "quiet" "[J" ∈ am_ws := am_m1 (List.mem_of_getElem? (i := 204) rfl) rfl
theorem wd338 : Jvm.Cond.lays "ToldTracks$Sea" "ToldTracks$Sea" "columns" "I" ∈ am_ws := am_m1 (List.mem_of_getElem? (i := 205) rfl) rfl
theorem wd340 : Jvm.Cond.lays "ToldTracks$Sea" "ToldTracks$Sea" "rows" "I" ∈ am_ws := am_m1 (List.mem_of_getElem? (i := 207) rfl) rfl
theorem wd342 : Jvm.Cond.lays "ToldTracks$Sea" "ToldTracks$Sea" "luck" "I" ∈ am_ws := am_m1 (List.mem_of_getElem? (i := 209) rfl) rfl
theorem wd344 : Jvm.Cond.lays "ToldTracks$Sea" "ToldTracks$Sea" "shipCount" "I" ∈ am_ws := am_m1 (List.mem_of_getElem? (i := 211) rfl) rfl
theorem wd346 : Jvm.Cond.laysFinal "ToldTracks$Sea" "ToldTracks$Sea" "ships" "[LToldTracks$Ship;" ∈ am_ws := am_m1 (List.mem_of_getElem? (i := 213) rfl) rfl
theorem wd348 : Jvm.Cond.laysFinal "ToldTracks$Sea" "ToldTracks$Sea" "sights" "LToldTracks$Sights;" ∈ am_ws := am_m1 (List.mem_of_getElem? (i := 215) rfl) rfl
theorem wd350 : Jvm.Cond.laysFinal "ToldTracks$Sea" "ToldTracks$Sea" "formula" "LToldTracks$Formula;" ∈ am_ws := am_m1 (List.mem_of_getElem? (i := 217) rfl) rfl
theorem wd352 : Jvm.Cond.laysFinal "ToldTracks$Sea" "ToldTracks$Sea" "depths" "LToldTracks$Rules;" ∈ am_ws := am_m1 (List.mem_of_getElem? (i := 219) rfl) rfl
theorem wd354 : Jvm.Cond.laysFinal "ToldTracks$Sea" "ToldTracks$Sea" "costs" "LToldTracks$Rules;" ∈ am_ws := am_m1 (List.mem_of_getElem? (i := 221) rfl) rfl
theorem wd356 : Jvm.Cond.laysFinal "ToldTracks$Sea" "ToldTracks$Sea" "quiets" "LToldTracks$Rules;" ∈ am_ws := am_m1 (List.mem_of_getElem? (i := 223) rfl) rfl
theorem wd358 : Jvm.Cond.laysFinal "ToldTracks$Sea" "ToldTracks$Sea" "depth" "[I" ∈ am_ws := am_m1 (List.mem_of_getElem? (i := 225) rfl) rfl
theorem wd360 : Jvm.Cond.laysFinal "ToldTracks$Sea" "ToldTracks$Sea" "cost" "[I" ∈ am_ws := am_m1 (List.mem_of_getElem? (i := 227) rfl) rfl
theorem wd362 : Jvm.Cond.laysFinal "ToldTracks$Sea" "ToldTracks$Sea" "quietKnown" "[J" ∈ am_ws := am_m1 (List.mem_of_getElem? (i := 229) rfl) rfl
theorem wd364 : Jvm.Cond.laysFinal "ToldTracks$Sea" "ToldTracks$Sea" "quiet" "[J" ∈ am_ws := am_m1 (List.mem_of_getElem? (i := 231) rfl) rfl
theorem wd367 : Jvm.Cond.classLink "ToldTracks" (23 : Nat) "ToldTracks$Parser" ∈ am_ws := am_m1 (List.mem_of_getElem? (i := 234) rfl) rfl
theorem wd368 : Jvm.Cond.instantiable "ToldTracks$Parser" (2 : Nat) ∈ am_ws := am_m1 (List.mem_of_getElem? (i := 235) rfl) rfl
theorem wd369 : Jvm.Cond.methodLink "ToldTracks" (25 : Nat) ({ cls := "ToldTracks$Parser", name := "<init>", desc := "(LToldTracks$Sea;)V" } : Jvm.MethodName) ∈ am_ws := am_m1 (List.mem_of_getElem? (i := 236) rfl) rfl
theorem wd370 : Jvm.Cond.instanceMethod ({ cls := "ToldTracks$Parser", name := "<init>", desc := "(LToldTracks$Sea;)V" } : Jvm.MethodName) ∈ am_ws := am_m1 (List.mem_of_getElem? (i := 237) rfl) rfl
theorem wd371 : Jvm.Cond.code ({ cls := "ToldTracks$Parser", name := "<init>", desc := "(LToldTracks$Sea;)V" } : Jvm.MethodName) prog_4_method_1_code (2 : Nat) (Option.none : Option Jvm.ClassFile.FieldType) ∈ am_ws := am_m1 (List.mem_of_getElem? (i := 238) rfl) rfl
theorem wd372 : Jvm.Cond.methodLink "ToldTracks$Parser" (3 : Nat) ({ cls := "java/lang/Object", name := "<init>", desc := "()V" } : Jvm.MethodName) ∈ am_ws := am_m1 (List.mem_of_getElem? (i := 239) rfl) rfl
theorem wd373 : Jvm.Cond.classLink "ToldTracks$Parser" (9 : Nat) "ToldTracks$Reader" ∈ am_ws := am_m2 (List.mem_of_getElem? (i := 0) rfl) rfl
theorem wd374 : Jvm.Cond.instantiable "ToldTracks$Reader" (10 : Nat) ∈ am_ws := am_m2 (List.mem_of_getElem? (i := 1) rfl) rfl
theorem wd375 : Jvm.Cond.methodLink "ToldTracks$Parser" (11 : Nat) ({ cls := "ToldTracks$Reader", name := "<init>", desc := "()V" } : Jvm.MethodName) ∈ am_ws := am_m2 (List.mem_of_getElem? (i := 2) rfl) rfl
theorem wd376 : Jvm.Cond.instanceMethod ({ cls := "ToldTracks$Reader", name := "<init>", desc := "()V" } : Jvm.MethodName) ∈ am_ws := am_m2 (List.mem_of_getElem? (i := 3) rfl) rfl
theorem wd377 : Jvm.Cond.code ({ cls := "ToldTracks$Reader", name := "<init>", desc := "()V" } : Jvm.MethodName) prog_5_method_1_code (4 : Nat) (Option.none : Option Jvm.ClassFile.FieldType) ∈ am_ws := am_m2 (List.mem_of_getElem? (i := 4) rfl) rfl
theorem wd378 : Jvm.Cond.methodLink "ToldTracks$Reader" (3 : Nat) ({ cls := "java/lang/Object", name := "<init>", desc := "()V" } : Jvm.MethodName) ∈ am_ws := am_m2 (List.mem_of_getElem? (i := 5) rfl) rfl
theorem wd380 : Jvm.Cond.methodLink "ToldTracks$Reader" (20 : Nat) ({ cls := "java/lang/String", name := "length", desc := "()I" } : Jvm.MethodName) ∈ am_ws := am_m2 (List.mem_of_getElem? (i := 7) rfl) rfl
theorem wd381 : Jvm.Cond.instanceMethod ({ cls := "java/lang/String", name := "length", desc := "()I" } : Jvm.MethodName) ∈ am_ws := am_m2 (List.mem_of_getElem? (i := 8) rfl) rfl
theorem wd382 : Jvm.Cond.selects "java/lang/String" ({ cls := "java/lang/String", name := "length", desc := "()I" } : Jvm.MethodName) ({ cls := "java/lang/String", name := "length", desc := "()I" } : Jvm.MethodName) ∈ am_ws := am_m2 (List.mem_of_getElem? (i := 9) rfl) rfl
theorem wd383 : Jvm.Cond.code ({ cls := "java/lang/String", name := "length", desc := "()I" } : Jvm.MethodName) prog_16_method_54_code (1 : Nat) (Option.some Jvm.ClassFile.FieldType.int) ∈ am_ws := am_m2 (List.mem_of_getElem? (i := 10) rfl) rfl
theorem wd384 : Jvm.Cond.methodLink "java/lang/String" (335 : Nat) ({ cls := "java/lang/String", name := "coder", desc := "()B" } : Jvm.MethodName) ∈ am_ws := am_m2 (List.mem_of_getElem? (i := 11) rfl) rfl
theorem wd385 : Jvm.Cond.instanceMethod ({ cls := "java/lang/String", name := "coder", desc := "()B" } : Jvm.MethodName) ∈ am_ws := am_m2 (List.mem_of_getElem? (i := 12) rfl) rfl
theorem wd386 : Jvm.Cond.selects "java/lang/String" ({ cls := "java/lang/String", name := "coder", desc := "()B" } : Jvm.MethodName) ({ cls := "java/lang/String", name := "coder", desc := "()B" } : Jvm.MethodName) ∈ am_ws := am_m2 (List.mem_of_getElem? (i := 13) rfl) rfl
theorem wd387 : Jvm.Cond.code ({ cls := "java/lang/String", name := "coder", desc := "()B" } : Jvm.MethodName) prog_16_method_152_code (1 : Nat) (Option.some Jvm.ClassFile.FieldType.byte) ∈ am_ws := am_m2 (List.mem_of_getElem? (i := 14) rfl) rfl
theorem wd388 : Jvm.Cond.fieldLink "java/lang/String" (38 : Nat) "java/lang/String" "COMPACT_STRINGS" "Z" ∈ am_ws := am_m2 (List.mem_of_getElem? (i := 15) rfl) rfl
theorem wd390 : Jvm.Cond.methodLink "ToldTracks$Reader" (26 : Nat) ({ cls := "java/lang/String", name := "charAt", desc := "(I)C" } : Jvm.MethodName) ∈ am_ws := am_m2 (List.mem_of_getElem? (i := 17) rfl) rfl
theorem wd391 : Jvm.Cond.instanceMethod ({ cls := "java/lang/String", name := "charAt", desc := "(I)C" } : Jvm.MethodName) ∈ am_ws := am_m2 (List.mem_of_getElem? (i := 18) rfl) rfl
theorem wd392 : Jvm.Cond.selects "java/lang/String" ({ cls := "java/lang/String", name := "charAt", desc := "(I)C" } : Jvm.MethodName) ({ cls := "java/lang/String", name := "charAt", desc := "(I)C" } : Jvm.MethodName) ∈ am_ws := am_m2 (List.mem_of_getElem? (i := 19) rfl) rfl
theorem wd393 : Jvm.Cond.code ({ cls := "java/lang/String", name := "charAt", desc := "(I)C" } : Jvm.MethodName) prog_16_method_56_code (2 : Nat) (Option.some Jvm.ClassFile.FieldType.char) ∈ am_ws := am_m2 (List.mem_of_getElem? (i := 20) rfl) rfl
theorem wd394 : Jvm.Cond.methodLink "java/lang/String" (492 : Nat) ({ cls := "java/lang/String", name := "isLatin1", desc := "()Z" } : Jvm.MethodName) ∈ am_ws := am_m2 (List.mem_of_getElem? (i := 21) rfl) rfl
theorem wd395 : Jvm.Cond.instanceMethod ({ cls := "java/lang/String", name := "isLatin1", desc := "()Z" } : Jvm.MethodName) ∈ am_ws := am_m2 (List.mem_of_getElem? (i := 22) rfl) rfl
theorem wd396 : Jvm.Cond.selects "java/lang/String" ({ cls := "java/lang/String", name := "isLatin1", desc := "()Z" } : Jvm.MethodName) ({ cls := "java/lang/String", name := "isLatin1", desc := "()Z" } : Jvm.MethodName) ∈ am_ws := am_m2 (List.mem_of_getElem? (i := 23) rfl) rfl
theorem wd397 : Jvm.Cond.code ({ cls := "java/lang/String", name := "isLatin1", desc := "()Z" } : Jvm.MethodName) prog_16_method_154_code (1 : Nat) (Option.some Jvm.ClassFile.FieldType.boolean) ∈ am_ws := am_m2 (List.mem_of_getElem? (i := 24) rfl) rfl
theorem wd398 : Jvm.Cond.methodLink "java/lang/String" (495 : Nat) ({ cls := "java/lang/StringLatin1", name := "charAt", desc := "([BI)C" } : Jvm.MethodName) ∈ am_ws := am_m2 (List.mem_of_getElem? (i := 25) rfl) rfl
theorem wd399 : Jvm.Cond.static ({ cls := "java/lang/StringLatin1", name := "charAt", desc := "([BI)C" } : Jvm.MethodName) ∈ am_ws := am_m2 (List.mem_of_getElem? (i := 26) rfl) rfl
theorem wd400 : Jvm.Cond.code ({ cls := "java/lang/StringLatin1", name := "charAt", desc := "([BI)C" } : Jvm.MethodName) prog_17_method_2_code (2 : Nat) (Option.some Jvm.ClassFile.FieldType.char) ∈ am_ws := am_m2 (List.mem_of_getElem? (i := 27) rfl) rfl
theorem wd401 : Jvm.Cond.methodLink "java/lang/StringLatin1" (9 : Nat) ({ cls := "java/lang/String", name := "checkIndex", desc := "(II)V" } : Jvm.MethodName) ∈ am_ws := am_m2 (List.mem_of_getElem? (i := 28) rfl) rfl
theorem wd402 : Jvm.Cond.static ({ cls := "java/lang/String", name := "checkIndex", desc := "(II)V" } : Jvm.MethodName) ∈ am_ws := am_m2 (List.mem_of_getElem? (i := 29) rfl) rfl
theorem wd403 : Jvm.Cond.code ({ cls := "java/lang/String", name := "checkIndex", desc := "(II)V" } : Jvm.MethodName) prog_16_method_155_code (2 : Nat) (Option.none : Option Jvm.ClassFile.FieldType) ∈ am_ws := am_m2 (List.mem_of_getElem? (i := 30) rfl) rfl
theorem wd404 : Jvm.Cond.fieldLink "java/lang/String" (1053 : Nat) "jdk/internal/util/Preconditions" "SIOOBE_FORMATTER" "Ljava/util/function/BiFunction;" ∈ am_ws := am_m2 (List.mem_of_getElem? (i := 31) rfl) rfl
theorem wd406 : Jvm.Cond.methodLink "java/lang/String" (1059 : Nat) ({ cls := "jdk/internal/util/Preconditions", name := "checkIndex", desc := "(IILjava/util/function/BiFunction;)I" } : Jvm.MethodName) ∈ am_ws := am_m2 (List.mem_of_getElem? (i := 33) rfl) rfl
theorem wd407 : Jvm.Cond.static ({ cls := "jdk/internal/util/Preconditions", name := "checkIndex", desc := "(IILjava/util/function/BiFunction;)I" } : Jvm.MethodName) ∈ am_ws := am_m2 (List.mem_of_getElem? (i := 34) rfl) rfl
theorem wd408 : Jvm.Cond.code ({ cls := "jdk/internal/util/Preconditions", name := "checkIndex", desc := "(IILjava/util/function/BiFunction;)I" } : Jvm.MethodName) prog_21_method_11_code (3 : Nat) (Option.some Jvm.ClassFile.FieldType.int) ∈ am_ws := am_m2 (List.mem_of_getElem? (i := 35) rfl) rfl
theorem wd409 : Jvm.Cond.methodLink "java/lang/String" (498 : Nat) ({ cls := "java/lang/StringUTF16", name := "charAt", desc := "([BI)C" } : Jvm.MethodName) ∈ am_ws := am_m2 (List.mem_of_getElem? (i := 36) rfl) rfl
theorem wd410 : Jvm.Cond.static ({ cls := "java/lang/StringUTF16", name := "charAt", desc := "([BI)C" } : Jvm.MethodName) ∈ am_ws := am_m2 (List.mem_of_getElem? (i := 37) rfl) rfl
theorem wd411 : Jvm.Cond.code ({ cls := "java/lang/StringUTF16", name := "charAt", desc := "([BI)C" } : Jvm.MethodName) prog_18_method_83_code (2 : Nat) (Option.some Jvm.ClassFile.FieldType.char) ∈ am_ws := am_m2 (List.mem_of_getElem? (i := 38) rfl) rfl
theorem wd412 : Jvm.Cond.methodLink "java/lang/StringUTF16" (67 : Nat) ({ cls := "java/lang/StringUTF16", name := "checkIndex", desc := "(I[B)V" } : Jvm.MethodName) ∈ am_ws := am_m2 (List.mem_of_getElem? (i := 39) rfl) rfl
theorem wd413 : Jvm.Cond.static ({ cls := "java/lang/StringUTF16", name := "checkIndex", desc := "(I[B)V" } : Jvm.MethodName) ∈ am_ws := am_m2 (List.mem_of_getElem? (i := 40) rfl) rfl
theorem wd414 : Jvm.Cond.code ({ cls := "java/lang/StringUTF16", name := "checkIndex", desc := "(I[B)V" } : Jvm.MethodName) prog_18_method_91_code (2 : Nat) (Option.none : Option Jvm.ClassFile.FieldType) ∈ am_ws := am_m2 (List.mem_of_getElem? (i := 41) rfl) rfl
theorem wd415 : Jvm.Cond.methodLink "java/lang/StringUTF16" (48 : Nat) ({ cls := "java/lang/StringUTF16", name := "length", desc := "([B)I" } : Jvm.MethodName) ∈ am_ws := am_m2 (List.mem_of_getElem? (i := 42) rfl) rfl
theorem wd416 : Jvm.Cond.static ({ cls := "java/lang/StringUTF16", name := "length", desc := "([B)I" } : Jvm.MethodName) ∈ am_ws := am_m2 (List.mem_of_getElem? (i := 43) rfl) rfl
theorem wd417 : Jvm.Cond.code ({ cls := "java/lang/StringUTF16", name := "length", desc := "([B)I" } : Jvm.MethodName) prog_18_method_6_code (1 : Nat) (Option.some Jvm.ClassFile.FieldType.int) ∈ am_ws := am_m2 (List.mem_of_getElem? (i := 44) rfl) rfl
theorem wd418 : Jvm.Cond.methodLink "java/lang/StringUTF16" (414 : Nat) ({ cls := "java/lang/String", name := "checkIndex", desc := "(II)V" } : Jvm.MethodName) ∈ am_ws := am_m2 (List.mem_of_getElem? (i := 45) rfl) rfl
theorem wd419 : Jvm.Cond.methodLink "java/lang/StringUTF16" (71 : Nat) ({ cls := "java/lang/StringUTF16", name := "getChar", desc := "([BI)C" } : Jvm.MethodName) ∈ am_ws := am_m2 (List.mem_of_getElem? (i := 46) rfl) rfl
theorem wd420 : Jvm.Cond.static ({ cls := "java/lang/StringUTF16", name := "getChar", desc := "([BI)C" } : Jvm.MethodName) ∈ am_ws := am_m2 (List.mem_of_getElem? (i := 47) rfl) rfl
theorem wd421 : Jvm.Cond.code ({ cls := "java/lang/StringUTF16", name := "getChar", desc := "([BI)C" } : Jvm.MethodName) prog_18_method_5_code (2 : Nat) (Option.some Jvm.ClassFile.FieldType.char) ∈ am_ws := am_m2 (List.mem_of_getElem? (i := 48) rfl) rfl
theorem wd422 : Jvm.Cond.fieldLink "java/lang/StringUTF16" (44 : Nat) "java/lang/StringUTF16" "$assertionsDisabled" "Z" ∈ am_ws := am_m2 (List.mem_of_getElem? (i := 49) rfl) rfl
theorem wd424 : Jvm.Cond.fieldLink "java/lang/StringUTF16" (59 : Nat) "java/lang/StringUTF16" "HI_BYTE_SHIFT" "I" ∈ am_ws := am_m2 (List.mem_of_getElem? (i := 51) rfl) rfl
theorem wd426 : Jvm.Cond.fieldLink "java/lang/StringUTF16" (63 : Nat) "java/lang/StringUTF16" "LO_BYTE_SHIFT" "I" ∈ am_ws := am_m2 (List.mem_of_getElem? (i := 53) rfl) rfl
theorem wd428 : Jvm.Cond.fieldLink "ToldTracks$Reader" (11 : Nat) "ToldTracks$Reader" "own" "[I" ∈ am_ws := am_m2 (List.mem_of_getElem? (i := 55) rfl) rfl
theorem wd429 : Jvm.Cond.fieldLink "ToldTracks$Reader" (15 : Nat) "ToldTracks$Reader" "text" "[I" ∈ am_ws := am_m2 (List.mem_of_getElem? (i := 56) rfl) rfl
theorem wd430 : Jvm.Cond.fieldLink "ToldTracks$Reader" (36 : Nat) "ToldTracks$Reader" "length" "I" ∈ am_ws := am_m2 (List.mem_of_getElem? (i := 57) rfl) rfl
theorem wd431 : Jvm.Cond.fieldLink "ToldTracks$Reader" (39 : Nat) "ToldTracks$Reader" "at" "I" ∈ am_ws := am_m2 (List.mem_of_getElem? (i := 58) rfl) rfl
theorem wd432 : Jvm.Cond.fieldLink "ToldTracks$Reader" (48 : Nat) "ToldTracks$Reader" "kind" "I" ∈ am_ws := am_m2 (List.mem_of_getElem? (i := 59) rfl) rfl
theorem wd433 : Jvm.Cond.fieldLink "ToldTracks" (92 : Nat) "ToldTracks$Reader" "kind" "I" ∈ am_ws := am_m2 (List.mem_of_getElem? (i := 60) rfl) rfl
theorem wd434 : Jvm.Cond.fieldLink "ToldTracks$Parser" (212 : Nat) "ToldTracks$Reader" "kind" "I" ∈ am_ws := am_m2 (List.mem_of_getElem? (i := 61) rfl) rfl
theorem wd435 : Jvm.Cond.fieldLink "ToldTracks$Reader" (57 : Nat) "ToldTracks$Reader" "value" "I" ∈ am_ws := am_m2 (List.mem_of_getElem? (i := 62) rfl) rfl
theorem wd436 : Jvm.Cond.fieldLink "ToldTracks$Parser" (125 : Nat) "ToldTracks$Reader" "value" "I" ∈ am_ws := am_m2 (List.mem_of_getElem? (i := 63) rfl) rfl
theorem wd437 : Jvm.Cond.fieldLink "ToldTracks$Parser" (31 : Nat) "ToldTracks$Reader" "word" "I" ∈ am_ws := am_m2 (List.mem_of_getElem? (i := 64) rfl) rfl
theorem wd438 : Jvm.Cond.fieldLink "ToldTracks$Reader" (60 : Nat) "ToldTracks$Reader" "word" "I" ∈ am_ws := am_m2 (List.mem_of_getElem? (i := 65) rfl) rfl
theorem wd439 : Jvm.Cond.fieldLink "ToldTracks$Reader" (54 : Nat) "ToldTracks$Reader" "start" "I" ∈ am_ws := am_m2 (List.mem_of_getElem? (i := 66) rfl) rfl
theorem wd440 : Jvm.Cond.fieldLink "ToldTracks$Reader" (42 : Nat) "ToldTracks$Reader" "fault" "I" ∈ am_ws := am_m2 (List.mem_of_getElem? (i := 67) rfl) rfl
theorem wd441 : Jvm.Cond.fieldLink "ToldTracks" (95 : Nat) "ToldTracks$Reader" "fault" "I" ∈ am_ws := am_m2 (List.mem_of_getElem? (i := 68) rfl) rfl
theorem wd442 : Jvm.Cond.fieldLink "ToldTracks$Parser" (112 : Nat) "ToldTracks$Reader" "fault" "I" ∈ am_ws := am_m2 (List.mem_of_getElem? (i := 69) rfl) rfl
theorem wd443 : Jvm.Cond.fieldLink "ToldTracks$Reader" (45 : Nat) "ToldTracks$Reader" "faultPlace" "I" ∈ am_ws := am_m2 (List.mem_of_getElem? (i := 70) rfl) rfl
theorem wd444 : Jvm.Cond.fieldLink "ToldTracks" (101 : Nat) "ToldTracks$Reader" "faultPlace" "I" ∈ am_ws := am_m2 (List.mem_of_getElem? (i := 71) rfl) rfl
theorem wd445 : Jvm.Cond.laysFinal "ToldTracks$Reader" "ToldTracks$Reader" "own" "[I" ∈ am_ws := am_m2 (List.mem_of_getElem? (i := 72) rfl) rfl
theorem wd447 : Jvm.Cond.lays "ToldTracks$Reader" "ToldTracks$Reader" "text" "[I" ∈ am_ws := am_m2 (List.mem_of_getElem? (i := 74) rfl) rfl
theorem wd449 : Jvm.Cond.lays "ToldTracks$Reader" "ToldTracks$Reader" "length" "I" ∈ am_ws := am_m2 (List.mem_of_getElem? (i := 76) rfl) rfl
theorem wd451 : Jvm.Cond.lays "ToldTracks$Reader" "ToldTracks$Reader" "at" "I" ∈ am_ws := am_m2 (List.mem_of_getElem? (i := 78) rfl) rfl
theorem wd453 : Jvm.Cond.lays "ToldTracks$Reader" "ToldTracks$Reader" "kind" "I" ∈ am_ws := am_m2 (List.mem_of_getElem? (i := 80) rfl) rfl
theorem wd455 : Jvm.Cond.lays "ToldTracks$Reader" "ToldTracks$Reader" "value" "I" ∈ am_ws := am_m2 (List.mem_of_getElem? (i := 82) rfl) rfl
theorem wd457 : Jvm.Cond.lays "ToldTracks$Reader" "ToldTracks$Reader" "word" "I" ∈ am_ws := am_m2 (List.mem_of_getElem? (i := 84) rfl) rfl
theorem wd459 : Jvm.Cond.lays "ToldTracks$Reader" "ToldTracks$Reader" "start" "I" ∈ am_ws := am_m2 (List.mem_of_getElem? (i := 86) rfl) rfl
theorem wd461 : Jvm.Cond.lays "ToldTracks$Reader" "ToldTracks$Reader" "fault" "I" ∈ am_ws := am_m2 (List.mem_of_getElem? (i := 88) rfl) rfl
theorem wd463 : Jvm.Cond.lays "ToldTracks$Reader" "ToldTracks$Reader" "faultPlace" "I" ∈ am_ws := am_m2 (List.mem_of_getElem? (i := 90) rfl) rfl
theorem wd466 : Jvm.Cond.arrayClass Jvm.ClassFile.FieldType.byte ∈ am_ws := am_m2 (List.mem_of_getElem? (i := 93) rfl) rfl
theorem wd467 : Jvm.Cond.fieldLink "ToldTracks$Parser" (12 : Nat) "ToldTracks$Parser" "reader" "LToldTracks$Reader;" ∈ am_ws := am_m2 (List.mem_of_getElem? (i := 94) rfl) rfl
theorem wd468 : Jvm.Cond.fieldLink "ToldTracks" (83 : Nat) "ToldTracks$Parser" "reader" "LToldTracks$Reader;" ∈ am_ws := am_m2 (List.mem_of_getElem? (i := 95) rfl) rfl
theorem wd469 : Jvm.Cond.fieldLink "ToldTracks$Parser" (18 : Nat) "ToldTracks$Parser" "sea" "LToldTracks$Sea;" ∈ am_ws := am_m2 (List.mem_of_getElem? (i := 96) rfl) rfl
theorem wd470 : Jvm.Cond.laysFinal "ToldTracks$Parser" "ToldTracks$Parser" "reader" "LToldTracks$Reader;" ∈ am_ws := am_m2 (List.mem_of_getElem? (i := 97) rfl) rfl
theorem wd472 : Jvm.Cond.lays "ToldTracks$Parser" "ToldTracks$Parser" "sea" "LToldTracks$Sea;" ∈ am_ws := am_m2 (List.mem_of_getElem? (i := 99) rfl) rfl
theorem wd475 : Jvm.Cond.classLink "ToldTracks" (36 : Nat) "ToldTracks$Track" ∈ am_ws := am_m2 (List.mem_of_getElem? (i := 102) rfl) rfl
theorem wd477 : Jvm.Cond.instantiable "ToldTracks$Track" (17 : Nat) ∈ am_ws := am_m2 (List.mem_of_getElem? (i := 104) rfl) rfl
theorem wd478 : Jvm.Cond.methodLink "ToldTracks" (65 : Nat) ({ cls := "ToldTracks$Track", name := "<init>", desc := "(LToldTracks$Sea;LToldTracks$Ship;)V" } : Jvm.MethodName) ∈ am_ws := am_m2 (List.mem_of_getElem? (i := 105) rfl) rfl
theorem wd479 : Jvm.Cond.instanceMethod ({ cls := "ToldTracks$Track", name := "<init>", desc := "(LToldTracks$Sea;LToldTracks$Ship;)V" } : Jvm.MethodName) ∈ am_ws := am_m2 (List.mem_of_getElem? (i := 106) rfl) rfl
theorem wd480 : Jvm.Cond.code ({ cls := "ToldTracks$Track", name := "<init>", desc := "(LToldTracks$Sea;LToldTracks$Ship;)V" } : Jvm.MethodName) prog_10_method_1_code (3 : Nat) (Option.none : Option Jvm.ClassFile.FieldType) ∈ am_ws := am_m2 (List.mem_of_getElem? (i := 107) rfl) rfl
theorem wd481 : Jvm.Cond.methodLink "ToldTracks$Track" (3 : Nat) ({ cls := "java/lang/Object", name := "<init>", desc := "()V" } : Jvm.MethodName) ∈ am_ws := am_m2 (List.mem_of_getElem? (i := 108) rfl) rfl
theorem wd482 : Jvm.Cond.classLink "ToldTracks$Track" (9 : Nat) "ToldTracks$Waters" ∈ am_ws := am_m2 (List.mem_of_getElem? (i := 109) rfl) rfl
theorem wd483 : Jvm.Cond.instantiable "ToldTracks$Waters" (5 : Nat) ∈ am_ws := am_m2 (List.mem_of_getElem? (i := 110) rfl) rfl
theorem wd485 : Jvm.Cond.instanceMethod ({ cls := "ToldTracks$Waters", name := "<init>", desc := "()V" } : Jvm.MethodName) ∈ am_ws := am_m2 (List.mem_of_getElem? (i := 112) rfl) rfl
theorem wd486 : Jvm.Cond.code ({ cls := "ToldTracks$Waters", name := "<init>", desc := "()V" } : Jvm.MethodName) prog_11_method_1_code (1 : Nat) (Option.none : Option Jvm.ClassFile.FieldType) ∈ am_ws := am_m2 (List.mem_of_getElem? (i := 113) rfl) rfl
theorem wd487 : Jvm.Cond.methodLink "ToldTracks$Waters" (3 : Nat) ({ cls := "java/lang/Object", name := "<init>", desc := "()V" } : Jvm.MethodName) ∈ am_ws := am_m2 (List.mem_of_getElem? (i := 114) rfl) rfl
theorem wd488 : Jvm.Cond.classLink "ToldTracks$Waters" (19 : Nat) "[J" ∈ am_ws := am_m2 (List.mem_of_getElem? (i := 115) rfl) rfl
theorem wd490 : Jvm.Cond.fieldLink "ToldTracks$Waters" (9 : Nat) "ToldTracks$Waters" "water" "[J" ∈ am_ws := am_m2 (List.mem_of_getElem? (i := 117) rfl) rfl
theorem wd491 : Jvm.Cond.fieldLink "ToldTracks$Track" (188 : Nat) "ToldTracks$Waters" "water" "[J" ∈ am_ws := am_m2 (List.mem_of_getElem? (i := 118) rfl) rfl
theorem wd492 : Jvm.Cond.fieldLink "ToldTracks$Waters" (15 : Nat) "ToldTracks$Waters" "speed" "I" ∈ am_ws := am_m2 (List.mem_of_getElem? (i := 119) rfl) rfl
theorem wd493 : Jvm.Cond.fieldLink "ToldTracks$Waters" (20 : Nat) "ToldTracks$Waters" "rings" "[[J" ∈ am_ws := am_m2 (List.mem_of_getElem? (i := 120) rfl) rfl
theorem wd494 : Jvm.Cond.fieldLink "ToldTracks$Waters" (24 : Nat) "ToldTracks$Waters" "known" "[Z" ∈ am_ws := am_m2 (List.mem_of_getElem? (i := 121) rfl) rfl
theorem wd495 : Jvm.Cond.fieldLink "ToldTracks$Waters" (28 : Nat) "ToldTracks$Waters" "spread" "[J" ∈ am_ws := am_m2 (List.mem_of_getElem? (i := 122) rfl) rfl
theorem wd496 : Jvm.Cond.laysFinal "ToldTracks$Waters" "ToldTracks$Waters" "water" "[J" ∈ am_ws := am_m2 (List.mem_of_getElem? (i := 123) rfl) rfl
theorem wd498 : Jvm.Cond.lays "ToldTracks$Waters" "ToldTracks$Waters" "speed" "I" ∈ am_ws := am_m2 (List.mem_of_getElem? (i := 125) rfl) rfl
theorem wd500 : Jvm.Cond.laysFinal "ToldTracks$Waters" "ToldTracks$Waters" "rings" "[[J" ∈ am_ws := am_m2 (List.mem_of_getElem? (i := 127) rfl) rfl
theorem wd502 : Jvm.Cond.laysFinal "ToldTracks$Waters" "ToldTracks$Waters" "known" "[Z" ∈ am_ws := am_m2 (List.mem_of_getElem? (i := 129) rfl) rfl
theorem wd504 : Jvm.Cond.laysFinal "ToldTracks$Waters" "ToldTracks$Waters" "spread" "[J" ∈ am_ws := am_m2 (List.mem_of_getElem? (i := 131) rfl) rfl
theorem wd507 : Jvm.Cond.classLink "ToldTracks$Track" (18 : Nat) "ToldTracks$Line" ∈ am_ws := am_m2 (List.mem_of_getElem? (i := 134) rfl) rfl
theorem wd508 : Jvm.Cond.instantiable "ToldTracks$Line" (1 : Nat) ∈ am_ws := am_m2 (List.mem_of_getElem? (i := 135) rfl) rfl
theorem wd510 : Jvm.Cond.instanceMethod ({ cls := "ToldTracks$Line", name := "<init>", desc := "()V" } : Jvm.MethodName) ∈ am_ws := am_m2 (List.mem_of_getElem? (i := 137) rfl) rfl
theorem wd511 : Jvm.Cond.code ({ cls := "ToldTracks$Line", name := "<init>", desc := "()V" } : Jvm.MethodName) prog_3_method_1_code (1 : Nat) (Option.none : Option Jvm.ClassFile.FieldType) ∈ am_ws := am_m2 (List.mem_of_getElem? (i := 138) rfl) rfl
theorem wd512 : Jvm.Cond.methodLink "ToldTracks$Line" (3 : Nat) ({ cls := "java/lang/Object", name := "<init>", desc := "()V" } : Jvm.MethodName) ∈ am_ws := am_m2 (List.mem_of_getElem? (i := 139) rfl) rfl
theorem wd513 : Jvm.Cond.fieldLink "ToldTracks$Line" (9 : Nat) "ToldTracks$Line" "places" "[I" ∈ am_ws := am_m2 (List.mem_of_getElem? (i := 140) rfl) rfl
theorem wd514 : Jvm.Cond.fieldLink "ToldTracks$Track" (187 : Nat) "ToldTracks$Line" "places" "[I" ∈ am_ws := am_m2 (List.mem_of_getElem? (i := 141) rfl) rfl
theorem wd515 : Jvm.Cond.laysFinal "ToldTracks$Line" "ToldTracks$Line" "places" "[I" ∈ am_ws := am_m2 (List.mem_of_getElem? (i := 142) rfl) rfl
theorem wd518 : Jvm.Cond.fieldLink "ToldTracks$Track" (47 : Nat) "ToldTracks$Track" "ship" "LToldTracks$Ship;" ∈ am_ws := am_m2 (List.mem_of_getElem? (i := 145) rfl) rfl
theorem wd519 : Jvm.Cond.fieldLink "ToldTracks" (253 : Nat) "ToldTracks$Track" "ship" "LToldTracks$Ship;" ∈ am_ws := am_m2 (List.mem_of_getElem? (i := 146) rfl) rfl
theorem wd520 : Jvm.Cond.fieldLink "ToldTracks$Track" (43 : Nat) "ToldTracks$Track" "sea" "LToldTracks$Sea;" ∈ am_ws := am_m2 (List.mem_of_getElem? (i := 147) rfl) rfl
theorem wd521 : Jvm.Cond.fieldLink "ToldTracks$Track" (12 : Nat) "ToldTracks$Track" "waters" "LToldTracks$Waters;" ∈ am_ws := am_m2 (List.mem_of_getElem? (i := 148) rfl) rfl
theorem wd522 : Jvm.Cond.fieldLink "ToldTracks" (223 : Nat) "ToldTracks$Track" "waters" "LToldTracks$Waters;" ∈ am_ws := am_m2 (List.mem_of_getElem? (i := 149) rfl) rfl
theorem wd523 : Jvm.Cond.fieldLink "ToldTracks$Track" (21 : Nat) "ToldTracks$Track" "line" "LToldTracks$Line;" ∈ am_ws := am_m2 (List.mem_of_getElem? (i := 150) rfl) rfl
theorem wd524 : Jvm.Cond.fieldLink "ToldTracks$Track" (62 : Nat) "ToldTracks$Track" "isSettled" "Z" ∈ am_ws := am_m2 (List.mem_of_getElem? (i := 151) rfl) rfl
theorem wd525 : Jvm.Cond.fieldLink "ToldTracks$Track" (65 : Nat) "ToldTracks$Track" "isCounted" "Z" ∈ am_ws := am_m2 (List.mem_of_getElem? (i := 152) rfl) rfl
theorem wd526 : Jvm.Cond.fieldLink "ToldTracks$Track" (55 : Nat) "ToldTracks$Track" "kindsKnown" "Z" ∈ am_ws := am_m2 (List.mem_of_getElem? (i := 153) rfl) rfl
theorem wd527 : Jvm.Cond.fieldLink "ToldTracks" (344 : Nat) "ToldTracks$Track" "kindsKnown" "Z" ∈ am_ws := am_m2 (List.mem_of_getElem? (i := 154) rfl) rfl
theorem wd528 : Jvm.Cond.fieldLink "ToldTracks" (353 : Nat) "ToldTracks$Track" "kinds" "I" ∈ am_ws := am_m2 (List.mem_of_getElem? (i := 155) rfl) rfl
theorem wd529 : Jvm.Cond.fieldLink "ToldTracks" (175 : Nat) "ToldTracks$Track" "booksFit" "Z" ∈ am_ws := am_m2 (List.mem_of_getElem? (i := 156) rfl) rfl
theorem wd530 : Jvm.Cond.fieldLink "ToldTracks$Track" (150 : Nat) "ToldTracks$Track" "booksFit" "Z" ∈ am_ws := am_m2 (List.mem_of_getElem? (i := 157) rfl) rfl
theorem wd531 : Jvm.Cond.fieldLink "ToldTracks$Track" (25 : Nat) "ToldTracks$Track" "alone" "[Z" ∈ am_ws := am_m2 (List.mem_of_getElem? (i := 158) rfl) rfl
theorem wd532 : Jvm.Cond.fieldLink "ToldTracks$Track" (29 : Nat) "ToldTracks$Track" "kept" "[Z" ∈ am_ws := am_m2 (List.mem_of_getElem? (i := 159) rfl) rfl
theorem wd533 : Jvm.Cond.fieldLink "ToldTracks" (204 : Nat) "ToldTracks$Track" "kept" "[Z" ∈ am_ws := am_m2 (List.mem_of_getElem? (i := 160) rfl) rfl
theorem wd534 : Jvm.Cond.fieldLink "ToldTracks" (169 : Nat) "ToldTracks$Track" "keptCount" "I" ∈ am_ws := am_m2 (List.mem_of_getElem? (i := 161) rfl) rfl
theorem wd535 : Jvm.Cond.fieldLink "ToldTracks$Track" (156 : Nat) "ToldTracks$Track" "keptCount" "I" ∈ am_ws := am_m2 (List.mem_of_getElem? (i := 162) rfl) rfl
theorem wd536 : Jvm.Cond.fieldLink "ToldTracks$Track" (32 : Nat) "ToldTracks$Track" "may" "[J" ∈ am_ws := am_m2 (List.mem_of_getElem? (i := 163) rfl) rfl
theorem wd537 : Jvm.Cond.fieldLink "ToldTracks" (380 : Nat) "ToldTracks$Track" "may" "[J" ∈ am_ws := am_m2 (List.mem_of_getElem? (i := 164) rfl) rfl
theorem wd538 : Jvm.Cond.fieldLink "ToldTracks$Track" (225 : Nat) "ToldTracks$Track" "unsaidHours" "I" ∈ am_ws := am_m2 (List.mem_of_getElem? (i := 165) rfl) rfl
theorem wd539 : Jvm.Cond.fieldLink "ToldTracks" (286 : Nat) "ToldTracks$Track" "unsaidHours" "I" ∈ am_ws := am_m2 (List.mem_of_getElem? (i := 166) rfl) rfl
theorem wd540 : Jvm.Cond.fieldLink "ToldTracks$Track" (210 : Nat) "ToldTracks$Track" "gapCount" "I" ∈ am_ws := am_m2 (List.mem_of_getElem? (i := 167) rfl) rfl
theorem wd541 : Jvm.Cond.fieldLink "ToldTracks" (289 : Nat) "ToldTracks$Track" "gapCount" "I" ∈ am_ws := am_m2 (List.mem_of_getElem? (i := 168) rfl) rfl
theorem wd542 : Jvm.Cond.fieldLink "ToldTracks$Track" (36 : Nat) "ToldTracks$Track" "marks" "[I" ∈ am_ws := am_m2 (List.mem_of_getElem? (i := 169) rfl) rfl
theorem wd543 : Jvm.Cond.fieldLink "ToldTracks$Track" (40 : Nat) "ToldTracks$Track" "queue" "[I" ∈ am_ws := am_m2 (List.mem_of_getElem? (i := 170) rfl) rfl
theorem wd544 : Jvm.Cond.lays "ToldTracks$Track" "ToldTracks$Track" "ship" "LToldTracks$Ship;" ∈ am_ws := am_m2 (List.mem_of_getElem? (i := 171) rfl) rfl
theorem wd546 : Jvm.Cond.lays "ToldTracks$Track" "ToldTracks$Track" "sea" "LToldTracks$Sea;" ∈ am_ws := am_m2 (List.mem_of_getElem? (i := 173) rfl) rfl
theorem wd548 : Jvm.Cond.laysFinal "ToldTracks$Track" "ToldTracks$Track" "waters" "LToldTracks$Waters;" ∈ am_ws := am_m2 (List.mem_of_getElem? (i := 175) rfl) rfl
theorem wd550 : Jvm.Cond.laysFinal "ToldTracks$Track" "ToldTracks$Track" "line" "LToldTracks$Line;" ∈ am_ws := am_m2 (List.mem_of_getElem? (i := 177) rfl) rfl
theorem wd552 : Jvm.Cond.lays "ToldTracks$Track" "ToldTracks$Track" "isSettled" "Z" ∈ am_ws := am_m2 (List.mem_of_getElem? (i := 179) rfl) rfl
theorem wd554 : Jvm.Cond.lays "ToldTracks$Track" "ToldTracks$Track" "isCounted" "Z" ∈ am_ws := am_m2 (List.mem_of_getElem? (i := 181) rfl) rfl
theorem wd556 : Jvm.Cond.lays "ToldTracks$Track" "ToldTracks$Track" "kindsKnown" "Z" ∈ am_ws := am_m2 (List.mem_of_getElem? (i := 183) rfl) rfl
theorem wd558 : Jvm.Cond.lays "ToldTracks$Track" "ToldTracks$Track" "kinds" "I" ∈ am_ws := am_m2 (List.mem_of_getElem? (i := 185) rfl) rfl
theorem wd560 : Jvm.Cond.lays "ToldTracks$Track" "ToldTracks$Track" "booksFit" "Z" ∈ am_ws := am_m2 (List.mem_of_getElem? (i := 187) rfl) rfl
theorem wd562 : Jvm.Cond.laysFinal "ToldTracks$Track" "ToldTracks$Track" "alone" "[Z" ∈ am_ws := am_m2 (List.mem_of_getElem? (i := 189) rfl) rfl
theorem wd564 : Jvm.Cond.laysFinal "ToldTracks$Track" "ToldTracks$Track" "kept" "[Z" ∈ am_ws := am_m2 (List.mem_of_getElem? (i := 191) rfl) rfl
theorem wd566 : Jvm.Cond.lays "ToldTracks$Track" "ToldTracks$Track" "keptCount" "I" ∈ am_ws := am_m2 (List.mem_of_getElem? (i := 193) rfl) rfl
theorem wd568 : Jvm.Cond.laysFinal "ToldTracks$Track" "ToldTracks$Track" "may" "[J" ∈ am_ws := am_m2 (List.mem_of_getElem? (i := 195) rfl) rfl
theorem wd570 : Jvm.Cond.lays "ToldTracks$Track" "ToldTracks$Track" "unsaidHours" "I" ∈ am_ws := am_m2 (List.mem_of_getElem? (i := 197) rfl) rfl
theorem wd572 : Jvm.Cond.lays "ToldTracks$Track" "ToldTracks$Track" "gapCount" "I" ∈ am_ws := am_m2 (List.mem_of_getElem? (i := 199) rfl) rfl
theorem wd574 : Jvm.Cond.laysFinal "ToldTracks$Track" "ToldTracks$Track" "marks" "[I" ∈ am_ws := am_m2 (List.mem_of_getElem? (i := 201) rfl) rfl
theorem wd576 : Jvm.Cond.laysFinal "ToldTracks$Track" "ToldTracks$Track" "queue" "[I" ∈ am_ws := am_m2 (List.mem_of_getElem? (i := 203) rfl) rfl
theorem wd579 : Jvm.Cond.fieldLink "ToldTracks" (9 : Nat) "ToldTracks" "tape" "[I" ∈ am_ws := am_m2 (List.mem_of_getElem? (i := 206) rfl) rfl
theorem wd580 : Jvm.Cond.fieldLink "ToldTracks" (68 : Nat) "ToldTracks" "tapeLength" "I" ∈ am_ws := am_m2 (List.mem_of_getElem? (i := 207) rfl) rfl
theorem wd581 : Jvm.Cond.fieldLink "ToldTracks" (16 : Nat) "ToldTracks" "sea" "LToldTracks$Sea;" ∈ am_ws := am_m2 (List.mem_of_getElem? (i := 208) rfl) rfl
theorem wd582 : Jvm.Cond.fieldLink "ToldTracks" (20 : Nat) "ToldTracks" "spare" "LToldTracks$Sea;" ∈ am_ws := am_m2 (List.mem_of_getElem? (i := 209) rfl) rfl
theorem wd583 : Jvm.Cond.fieldLink "ToldTracks" (28 : Nat) "ToldTracks" "parser" "LToldTracks$Parser;" ∈ am_ws := am_m2 (List.mem_of_getElem? (i := 210) rfl) rfl
theorem wd584 : Jvm.Cond.fieldLink "ToldTracks" (98 : Nat) "ToldTracks" "faultKind" "I" ∈ am_ws := am_m2 (List.mem_of_getElem? (i := 211) rfl) rfl
theorem wd585 : Jvm.Cond.fieldLink "ToldTracks" (32 : Nat) "ToldTracks" "faultPlace" "I" ∈ am_ws := am_m2 (List.mem_of_getElem? (i := 212) rfl) rfl
theorem wd586 : Jvm.Cond.fieldLink "ToldTracks" (38 : Nat) "ToldTracks" "tracks" "[LToldTracks$Track;" ∈ am_ws := am_m2 (List.mem_of_getElem? (i := 213) rfl) rfl
theorem wd587 : Jvm.Cond.fieldLink "ToldTracks" (42 : Nat) "ToldTracks" "refusals" "[I" ∈ am_ws := am_m2 (List.mem_of_getElem? (i := 214) rfl) rfl
theorem wd588 : Jvm.Cond.fieldLink "ToldTracks" (45 : Nat) "ToldTracks" "written" "[I" ∈ am_ws := am_m2 (List.mem_of_getElem? (i := 215) rfl) rfl
theorem wd589 : Jvm.Cond.fieldLink "ToldTracks" (326 : Nat) "ToldTracks" "writtenLength" "I" ∈ am_ws := am_m2 (List.mem_of_getElem? (i := 216) rfl) rfl
theorem wd590 : Jvm.Cond.fieldLink "ToldTracks" (48 : Nat) "ToldTracks" "odds" "[J" ∈ am_ws := am_m2 (List.mem_of_getElem? (i := 217) rfl) rfl
theorem wd591 : Jvm.Cond.fieldLink "ToldTracks" (52 : Nat) "ToldTracks" "levels" "[J" ∈ am_ws := am_m2 (List.mem_of_getElem? (i := 218) rfl) rfl
theorem wd592 : Jvm.Cond.fieldLink "ToldTracks" (111 : Nat) "ToldTracks" "lookKnown" "Z" ∈ am_ws := am_m2 (List.mem_of_getElem? (i := 219) rfl) rfl
theorem wd593 : Jvm.Cond.fieldLink "ToldTracks" (55 : Nat) "ToldTracks" "lookHour" "I" ∈ am_ws := am_m2 (List.mem_of_getElem? (i := 220) rfl) rfl
theorem wd594 : Jvm.Cond.fieldLink "ToldTracks" (58 : Nat) "ToldTracks" "lookPlace" "I" ∈ am_ws := am_m2 (List.mem_of_getElem? (i := 221) rfl) rfl
theorem wd595 : Jvm.Cond.fieldLink "ToldTracks" (303 : Nat) "ToldTracks" "lookSettles" "I" ∈ am_ws := am_m2 (List.mem_of_getElem? (i := 222) rfl) rfl
theorem wd596 : Jvm.Cond.laysFinal "ToldTracks" "ToldTracks" "tape" "[I" ∈ am_ws := am_m2 (List.mem_of_getElem? (i := 223) rfl) rfl
theorem wd598 : Jvm.Cond.lays "ToldTracks" "ToldTracks" "tapeLength" "I" ∈ am_ws := am_m2 (List.mem_of_getElem? (i := 225) rfl) rfl
theorem wd600 : Jvm.Cond.lays "ToldTracks" "ToldTracks" "sea" "LToldTracks$Sea;" ∈ am_ws := am_m2 (List.mem_of_getElem? (i := 227) rfl) rfl
theorem wd602 : Jvm.Cond.lays "ToldTracks" "ToldTracks" "spare" "LToldTracks$Sea;" ∈ am_ws := am_m2 (List.mem_of_getElem? (i := 229) rfl) rfl
theorem wd604 : Jvm.Cond.laysFinal "ToldTracks" "ToldTracks" "parser" "LToldTracks$Parser;" ∈ am_ws := am_m2 (List.mem_of_getElem? (i := 231) rfl) rfl
theorem wd606 : Jvm.Cond.lays "ToldTracks" "ToldTracks" "faultKind" "I" ∈ am_ws := am_m2 (List.mem_of_getElem? (i := 233) rfl) rfl
theorem wd608 : Jvm.Cond.lays "ToldTracks" "ToldTracks" "faultPlace" "I" ∈ am_ws := am_m2 (List.mem_of_getElem? (i := 235) rfl) rfl
theorem wd610 : Jvm.Cond.laysFinal "ToldTracks" "ToldTracks" "tracks" "[LToldTracks$Track;" ∈ am_ws := am_m2 (List.mem_of_getElem? (i := 237) rfl) rfl
theorem wd612 : Jvm.Cond.laysFinal "ToldTracks" "ToldTracks" "refusals" "[I" ∈ am_ws := am_m2 (List.mem_of_getElem? (i := 239) rfl) rfl
theorem wd614 : Jvm.Cond.laysFinal "ToldTracks" "ToldTracks" "written" "[I" ∈ am_ws := am_m3 (List.mem_of_getElem? (i := 1) rfl) rfl
theorem wd616 : Jvm.Cond.lays "ToldTracks" "ToldTracks" "writtenLength" "I" ∈ am_ws := am_m3 (List.mem_of_getElem? (i := 3) rfl) rfl
theorem wd618 : Jvm.Cond.laysFinal "ToldTracks" "ToldTracks" "odds" "[J" ∈ am_ws := am_m3 (List.mem_of_getElem? (i := 5) rfl) rfl
theorem wd620 : Jvm.Cond.laysFinal "ToldTracks" "ToldTracks" "levels" "[J" ∈ am_ws := am_m3 (List.mem_of_getElem? (i := 7) rfl) rfl
theorem wd622 : Jvm.Cond.lays "ToldTracks" "ToldTracks" "lookKnown" "Z" ∈ am_ws := am_m3 (List.mem_of_getElem? (i := 9) rfl) rfl
theorem wd624 : Jvm.Cond.lays "ToldTracks" "ToldTracks" "lookHour" "I" ∈ am_ws := am_m3 (List.mem_of_getElem? (i := 11) rfl) rfl
theorem wd626 : Jvm.Cond.lays "ToldTracks" "ToldTracks" "lookPlace" "I" ∈ am_ws := am_m3 (List.mem_of_getElem? (i := 13) rfl) rfl
theorem wd628 : Jvm.Cond.lays "ToldTracks" "ToldTracks" "lookSettles" "I" ∈ am_ws := am_m3 (List.mem_of_getElem? (i := 15) rfl) rfl
theorem wd631 : Jvm.Cond.methodLink "ToldTracksLaw" (13 : Nat) ({ cls := "ToldTracks", name := "feed", desc := "(IIIII)I" } : Jvm.MethodName) ∈ am_ws := am_m3 (List.mem_of_getElem? (i := 18) rfl) rfl
theorem wd632 : Jvm.Cond.instanceMethod ({ cls := "ToldTracks", name := "feed", desc := "(IIIII)I" } : Jvm.MethodName) ∈ am_ws := am_m3 (List.mem_of_getElem? (i := 19) rfl) rfl
theorem wd633 : Jvm.Cond.selects "ToldTracks" ({ cls := "ToldTracks", name := "feed", desc := "(IIIII)I" } : Jvm.MethodName) ({ cls := "ToldTracks", name := "feed", desc := "(IIIII)I" } : Jvm.MethodName) ∈ am_ws := am_m3 (List.mem_of_getElem? (i := 20) rfl) rfl
theorem wd634 : Jvm.Cond.code ({ cls := "ToldTracks", name := "feed", desc := "(IIIII)I" } : Jvm.MethodName) prog_1_method_2_code (6 : Nat) (Option.some Jvm.ClassFile.FieldType.int) ∈ am_ws := am_m3 (List.mem_of_getElem? (i := 21) rfl) rfl
theorem wd635 : Jvm.Cond.methodLink "ToldTracks" (71 : Nat) ({ cls := "ToldTracks", name := "putFour", desc := "(I)V" } : Jvm.MethodName) ∈ am_ws := am_m3 (List.mem_of_getElem? (i := 22) rfl) rfl
theorem wd637 : Jvm.Cond.instanceMethod ({ cls := "ToldTracks", name := "putFour", desc := "(I)V" } : Jvm.MethodName) ∈ am_ws := am_m3 (List.mem_of_getElem? (i := 24) rfl) rfl
theorem wd638 : Jvm.Cond.code ({ cls := "ToldTracks", name := "putFour", desc := "(I)V" } : Jvm.MethodName) prog_1_method_45_code (3 : Nat) (Option.none : Option Jvm.ClassFile.FieldType) ∈ am_ws := am_m3 (List.mem_of_getElem? (i := 25) rfl) rfl
theorem wd639 : Jvm.Cond.methodLink "ToldTracksLaw" (18 : Nat) ({ cls := "ToldTracks", name := "end", desc := "(I)Z" } : Jvm.MethodName) ∈ am_ws := am_m3 (List.mem_of_getElem? (i := 26) rfl) rfl
theorem wd640 : Jvm.Cond.instanceMethod ({ cls := "ToldTracks", name := "end", desc := "(I)Z" } : Jvm.MethodName) ∈ am_ws := am_m3 (List.mem_of_getElem? (i := 27) rfl) rfl
theorem wd641 : Jvm.Cond.selects "ToldTracks" ({ cls := "ToldTracks", name := "end", desc := "(I)Z" } : Jvm.MethodName) ({ cls := "ToldTracks", name := "end", desc := "(I)Z" } : Jvm.MethodName) ∈ am_ws := am_m3 (List.mem_of_getElem? (i := 28) rfl) rfl
theorem wd642 : Jvm.Cond.code ({ cls := "ToldTracks", name := "end", desc := "(I)Z" } : Jvm.MethodName) prog_1_method_3_code (2 : Nat) (Option.some Jvm.ClassFile.FieldType.boolean) ∈ am_ws := am_m3 (List.mem_of_getElem? (i := 29) rfl) rfl
theorem wd643 : Jvm.Cond.methodLink "ToldTracksLaw" (23 : Nat) ({ cls := "ToldTracks", name := "sea", desc := "()I" } : Jvm.MethodName) ∈ am_ws := am_m3 (List.mem_of_getElem? (i := 30) rfl) rfl
theorem wd644 : Jvm.Cond.instanceMethod ({ cls := "ToldTracks", name := "sea", desc := "()I" } : Jvm.MethodName) ∈ am_ws := am_m3 (List.mem_of_getElem? (i := 31) rfl) rfl
theorem wd645 : Jvm.Cond.selects "ToldTracks" ({ cls := "ToldTracks", name := "sea", desc := "()I" } : Jvm.MethodName) ({ cls := "ToldTracks", name := "sea", desc := "()I" } : Jvm.MethodName) ∈ am_ws := am_m3 (List.mem_of_getElem? (i := 32) rfl) rfl
theorem wd646 : Jvm.Cond.code ({ cls := "ToldTracks", name := "sea", desc := "()I" } : Jvm.MethodName) prog_1_method_4_code (4 : Nat) (Option.some Jvm.ClassFile.FieldType.int) ∈ am_ws := am_m3 (List.mem_of_getElem? (i := 33) rfl) rfl
theorem wd647 : Jvm.Cond.methodLink "ToldTracks" (75 : Nat) ({ cls := "ToldTracks$Parser", name := "open", desc := "(LToldTracks$Sea;[II)V" } : Jvm.MethodName) ∈ am_ws := am_m3 (List.mem_of_getElem? (i := 34) rfl) rfl
theorem wd648 : Jvm.Cond.instanceMethod ({ cls := "ToldTracks$Parser", name := "open", desc := "(LToldTracks$Sea;[II)V" } : Jvm.MethodName) ∈ am_ws := am_m3 (List.mem_of_getElem? (i := 35) rfl) rfl
theorem wd649 : Jvm.Cond.selects "ToldTracks$Parser" ({ cls := "ToldTracks$Parser", name := "open", desc := "(LToldTracks$Sea;[II)V" } : Jvm.MethodName) ({ cls := "ToldTracks$Parser", name := "open", desc := "(LToldTracks$Sea;[II)V" } : Jvm.MethodName) ∈ am_ws := am_m3 (List.mem_of_getElem? (i := 36) rfl) rfl
theorem wd650 : Jvm.Cond.code ({ cls := "ToldTracks$Parser", name := "open", desc := "(LToldTracks$Sea;[II)V" } : Jvm.MethodName) prog_4_method_2_code (4 : Nat) (Option.none : Option Jvm.ClassFile.FieldType) ∈ am_ws := am_m3 (List.mem_of_getElem? (i := 37) rfl) rfl
theorem wd651 : Jvm.Cond.methodLink "ToldTracks$Parser" (22 : Nat) ({ cls := "ToldTracks$Sea", name := "clear", desc := "()V" } : Jvm.MethodName) ∈ am_ws := am_m3 (List.mem_of_getElem? (i := 38) rfl) rfl
theorem wd652 : Jvm.Cond.instanceMethod ({ cls := "ToldTracks$Sea", name := "clear", desc := "()V" } : Jvm.MethodName) ∈ am_ws := am_m3 (List.mem_of_getElem? (i := 39) rfl) rfl
theorem wd653 : Jvm.Cond.selects "ToldTracks$Sea" ({ cls := "ToldTracks$Sea", name := "clear", desc := "()V" } : Jvm.MethodName) ({ cls := "ToldTracks$Sea", name := "clear", desc := "()V" } : Jvm.MethodName) ∈ am_ws := am_m3 (List.mem_of_getElem? (i := 40) rfl) rfl
theorem wd654 : Jvm.Cond.code ({ cls := "ToldTracks$Sea", name := "clear", desc := "()V" } : Jvm.MethodName) prog_7_method_2_code (1 : Nat) (Option.none : Option Jvm.ClassFile.FieldType) ∈ am_ws := am_m3 (List.mem_of_getElem? (i := 41) rfl) rfl
theorem wd655 : Jvm.Cond.methodLink "ToldTracks$Parser" (27 : Nat) ({ cls := "ToldTracks$Reader", name := "open", desc := "([II)V" } : Jvm.MethodName) ∈ am_ws := am_m3 (List.mem_of_getElem? (i := 42) rfl) rfl
theorem wd656 : Jvm.Cond.instanceMethod ({ cls := "ToldTracks$Reader", name := "open", desc := "([II)V" } : Jvm.MethodName) ∈ am_ws := am_m3 (List.mem_of_getElem? (i := 43) rfl) rfl
theorem wd657 : Jvm.Cond.selects "ToldTracks$Reader" ({ cls := "ToldTracks$Reader", name := "open", desc := "([II)V" } : Jvm.MethodName) ({ cls := "ToldTracks$Reader", name := "open", desc := "([II)V" } : Jvm.MethodName) ∈ am_ws := am_m3 (List.mem_of_getElem? (i := 44) rfl) rfl
theorem wd658 : Jvm.Cond.code ({ cls := "ToldTracks$Reader", name := "open", desc := "([II)V" } : Jvm.MethodName) prog_5_method_2_code (3 : Nat) (Option.none : Option Jvm.ClassFile.FieldType) ∈ am_ws := am_m3 (List.mem_of_getElem? (i := 45) rfl) rfl
theorem wd659 : Jvm.Cond.methodLink "ToldTracks$Reader" (30 : Nat) ({ cls := "java/lang/Math", name := "min", desc := "(II)I" } : Jvm.MethodName) ∈ am_ws := am_m3 (List.mem_of_getElem? (i := 46) rfl) rfl
theorem wd660 : Jvm.Cond.static ({ cls := "java/lang/Math", name := "min", desc := "(II)I" } : Jvm.MethodName) ∈ am_ws := am_m3 (List.mem_of_getElem? (i := 47) rfl) rfl
theorem wd661 : Jvm.Cond.code ({ cls := "java/lang/Math", name := "min", desc := "(II)I" } : Jvm.MethodName) prog_15_method_69_code (2 : Nat) (Option.some Jvm.ClassFile.FieldType.int) ∈ am_ws := am_m3 (List.mem_of_getElem? (i := 48) rfl) rfl
theorem wd662 : Jvm.Cond.methodLink "ToldTracks$Reader" (51 : Nat) ({ cls := "ToldTracks$Reader", name := "step", desc := "()V" } : Jvm.MethodName) ∈ am_ws := am_m3 (List.mem_of_getElem? (i := 49) rfl) rfl
theorem wd663 : Jvm.Cond.instanceMethod ({ cls := "ToldTracks$Reader", name := "step", desc := "()V" } : Jvm.MethodName) ∈ am_ws := am_m3 (List.mem_of_getElem? (i := 50) rfl) rfl
theorem wd664 : Jvm.Cond.selects "ToldTracks$Reader" ({ cls := "ToldTracks$Reader", name := "step", desc := "()V" } : Jvm.MethodName) ({ cls := "ToldTracks$Reader", name := "step", desc := "()V" } : Jvm.MethodName) ∈ am_ws := am_m3 (List.mem_of_getElem? (i := 51) rfl) rfl
theorem wd665 : Jvm.Cond.code ({ cls := "ToldTracks$Reader", name := "step", desc := "()V" } : Jvm.MethodName) prog_5_method_3_code (3 : Nat) (Option.none : Option Jvm.ClassFile.FieldType) ∈ am_ws := am_m3 (List.mem_of_getElem? (i := 52) rfl) rfl
theorem wd666 : Jvm.Cond.methodLink "ToldTracks$Reader" (63 : Nat) ({ cls := "ToldTracks$Reader", name := "kindOf", desc := "(I)I" } : Jvm.MethodName) ∈ am_ws := am_m3 (List.mem_of_getElem? (i := 53) rfl) rfl
theorem wd667 : Jvm.Cond.static ({ cls := "ToldTracks$Reader", name := "kindOf", desc := "(I)I" } : Jvm.MethodName) ∈ am_ws := am_m3 (List.mem_of_getElem? (i := 54) rfl) rfl
theorem wd668 : Jvm.Cond.code ({ cls := "ToldTracks$Reader", name := "kindOf", desc := "(I)I" } : Jvm.MethodName) prog_5_method_5_code (1 : Nat) (Option.some Jvm.ClassFile.FieldType.int) ∈ am_ws := am_m3 (List.mem_of_getElem? (i := 55) rfl) rfl
theorem wd669 : Jvm.Cond.methodLink "ToldTracks$Reader" (67 : Nat) ({ cls := "ToldTracks$Reader", name := "refuseAt", desc := "(II)V" } : Jvm.MethodName) ∈ am_ws := am_m3 (List.mem_of_getElem? (i := 56) rfl) rfl
theorem wd670 : Jvm.Cond.instanceMethod ({ cls := "ToldTracks$Reader", name := "refuseAt", desc := "(II)V" } : Jvm.MethodName) ∈ am_ws := am_m3 (List.mem_of_getElem? (i := 57) rfl) rfl
theorem wd671 : Jvm.Cond.selects "ToldTracks$Reader" ({ cls := "ToldTracks$Reader", name := "refuseAt", desc := "(II)V" } : Jvm.MethodName) ({ cls := "ToldTracks$Reader", name := "refuseAt", desc := "(II)V" } : Jvm.MethodName) ∈ am_ws := am_m3 (List.mem_of_getElem? (i := 58) rfl) rfl
theorem wd672 : Jvm.Cond.code ({ cls := "ToldTracks$Reader", name := "refuseAt", desc := "(II)V" } : Jvm.MethodName) prog_5_method_6_code (3 : Nat) (Option.none : Option Jvm.ClassFile.FieldType) ∈ am_ws := am_m3 (List.mem_of_getElem? (i := 59) rfl) rfl
theorem wd673 : Jvm.Cond.methodLink "ToldTracks$Reader" (71 : Nat) ({ cls := "ToldTracks$Reader", name := "ownWord", desc := "(I)I" } : Jvm.MethodName) ∈ am_ws := am_m3 (List.mem_of_getElem? (i := 60) rfl) rfl
theorem wd675 : Jvm.Cond.instanceMethod ({ cls := "ToldTracks$Reader", name := "ownWord", desc := "(I)I" } : Jvm.MethodName) ∈ am_ws := am_m3 (List.mem_of_getElem? (i := 62) rfl) rfl
theorem wd676 : Jvm.Cond.code ({ cls := "ToldTracks$Reader", name := "ownWord", desc := "(I)I" } : Jvm.MethodName) prog_5_method_4_code (3 : Nat) (Option.some Jvm.ClassFile.FieldType.int) ∈ am_ws := am_m3 (List.mem_of_getElem? (i := 63) rfl) rfl
theorem wd677 : Jvm.Cond.methodLink "ToldTracks" (79 : Nat) ({ cls := "ToldTracks$Parser", name := "readStatement", desc := "(Z)V" } : Jvm.MethodName) ∈ am_ws := am_m3 (List.mem_of_getElem? (i := 64) rfl) rfl
theorem wd678 : Jvm.Cond.instanceMethod ({ cls := "ToldTracks$Parser", name := "readStatement", desc := "(Z)V" } : Jvm.MethodName) ∈ am_ws := am_m3 (List.mem_of_getElem? (i := 65) rfl) rfl
theorem wd679 : Jvm.Cond.selects "ToldTracks$Parser" ({ cls := "ToldTracks$Parser", name := "readStatement", desc := "(Z)V" } : Jvm.MethodName) ({ cls := "ToldTracks$Parser", name := "readStatement", desc := "(Z)V" } : Jvm.MethodName) ∈ am_ws := am_m3 (List.mem_of_getElem? (i := 66) rfl) rfl
theorem wd680 : Jvm.Cond.code ({ cls := "ToldTracks$Parser", name := "readStatement", desc := "(Z)V" } : Jvm.MethodName) prog_4_method_3_code (2 : Nat) (Option.none : Option Jvm.ClassFile.FieldType) ∈ am_ws := am_m3 (List.mem_of_getElem? (i := 67) rfl) rfl
theorem wd681 : Jvm.Cond.methodLink "ToldTracks$Parser" (35 : Nat) ({ cls := "ToldTracks$Reader", name := "refuse", desc := "(I)V" } : Jvm.MethodName) ∈ am_ws := am_m3 (List.mem_of_getElem? (i := 68) rfl) rfl
theorem wd682 : Jvm.Cond.instanceMethod ({ cls := "ToldTracks$Reader", name := "refuse", desc := "(I)V" } : Jvm.MethodName) ∈ am_ws := am_m3 (List.mem_of_getElem? (i := 69) rfl) rfl
theorem wd683 : Jvm.Cond.selects "ToldTracks$Reader" ({ cls := "ToldTracks$Reader", name := "refuse", desc := "(I)V" } : Jvm.MethodName) ({ cls := "ToldTracks$Reader", name := "refuse", desc := "(I)V" } : Jvm.MethodName) ∈ am_ws := am_m3 (List.mem_of_getElem? (i := 70) rfl) rfl
theorem wd684 : Jvm.Cond.code ({ cls := "ToldTracks$Reader", name := "refuse", desc := "(I)V" } : Jvm.MethodName) prog_5_method_7_code (2 : Nat) (Option.none : Option Jvm.ClassFile.FieldType) ∈ am_ws := am_m3 (List.mem_of_getElem? (i := 71) rfl) rfl
theorem wd685 : Jvm.Cond.methodLink "ToldTracks$Parser" (39 : Nat) ({ cls := "ToldTracks$Parser", name := "readSize", desc := "()V" } : Jvm.MethodName) ∈ am_ws := am_m3 (List.mem_of_getElem? (i := 72) rfl) rfl
theorem wd687 : Jvm.Cond.instanceMethod ({ cls := "ToldTracks$Parser", name := "readSize", desc := "()V" } : Jvm.MethodName) ∈ am_ws := am_m3 (List.mem_of_getElem? (i := 74) rfl) rfl
theorem wd688 : Jvm.Cond.code ({ cls := "ToldTracks$Parser", name := "readSize", desc := "()V" } : Jvm.MethodName) prog_4_method_4_code (1 : Nat) (Option.none : Option Jvm.ClassFile.FieldType) ∈ am_ws := am_m3 (List.mem_of_getElem? (i := 75) rfl) rfl
theorem wd689 : Jvm.Cond.methodLink "ToldTracks$Parser" (68 : Nat) ({ cls := "ToldTracks$Reader", name := "step", desc := "()V" } : Jvm.MethodName) ∈ am_ws := am_m3 (List.mem_of_getElem? (i := 76) rfl) rfl
theorem wd690 : Jvm.Cond.methodLink "ToldTracks$Parser" (71 : Nat) ({ cls := "ToldTracks$Reader", name := "takeNumber", desc := "(II)I" } : Jvm.MethodName) ∈ am_ws := am_m3 (List.mem_of_getElem? (i := 77) rfl) rfl
theorem wd691 : Jvm.Cond.instanceMethod ({ cls := "ToldTracks$Reader", name := "takeNumber", desc := "(II)I" } : Jvm.MethodName) ∈ am_ws := am_m3 (List.mem_of_getElem? (i := 78) rfl) rfl
theorem wd692 : Jvm.Cond.selects "ToldTracks$Reader" ({ cls := "ToldTracks$Reader", name := "takeNumber", desc := "(II)I" } : Jvm.MethodName) ({ cls := "ToldTracks$Reader", name := "takeNumber", desc := "(II)I" } : Jvm.MethodName) ∈ am_ws := am_m3 (List.mem_of_getElem? (i := 79) rfl) rfl
theorem wd693 : Jvm.Cond.code ({ cls := "ToldTracks$Reader", name := "takeNumber", desc := "(II)I" } : Jvm.MethodName) prog_5_method_12_code (4 : Nat) (Option.some Jvm.ClassFile.FieldType.int) ∈ am_ws := am_m3 (List.mem_of_getElem? (i := 80) rfl) rfl
theorem wd694 : Jvm.Cond.methodLink "ToldTracks$Reader" (82 : Nat) ({ cls := "ToldTracks$Reader", name := "isNumber", desc := "(II)Z" } : Jvm.MethodName) ∈ am_ws := am_m3 (List.mem_of_getElem? (i := 81) rfl) rfl
theorem wd695 : Jvm.Cond.instanceMethod ({ cls := "ToldTracks$Reader", name := "isNumber", desc := "(II)Z" } : Jvm.MethodName) ∈ am_ws := am_m3 (List.mem_of_getElem? (i := 82) rfl) rfl
theorem wd696 : Jvm.Cond.selects "ToldTracks$Reader" ({ cls := "ToldTracks$Reader", name := "isNumber", desc := "(II)Z" } : Jvm.MethodName) ({ cls := "ToldTracks$Reader", name := "isNumber", desc := "(II)Z" } : Jvm.MethodName) ∈ am_ws := am_m3 (List.mem_of_getElem? (i := 83) rfl) rfl
theorem wd697 : Jvm.Cond.code ({ cls := "ToldTracks$Reader", name := "isNumber", desc := "(II)Z" } : Jvm.MethodName) prog_5_method_11_code (3 : Nat) (Option.some Jvm.ClassFile.FieldType.boolean) ∈ am_ws := am_m3 (List.mem_of_getElem? (i := 84) rfl) rfl
theorem wd698 : Jvm.Cond.methodLink "ToldTracks$Reader" (78 : Nat) ({ cls := "ToldTracks$Reader", name := "refuse", desc := "(I)V" } : Jvm.MethodName) ∈ am_ws := am_m3 (List.mem_of_getElem? (i := 85) rfl) rfl
theorem wd699 : Jvm.Cond.methodLink "ToldTracks$Parser" (46 : Nat) ({ cls := "ToldTracks$Parser", name := "readRule", desc := "(LToldTracks$Rules;Z)V" } : Jvm.MethodName) ∈ am_ws := am_m3 (List.mem_of_getElem? (i := 86) rfl) rfl
theorem wd701 : Jvm.Cond.instanceMethod ({ cls := "ToldTracks$Parser", name := "readRule", desc := "(LToldTracks$Rules;Z)V" } : Jvm.MethodName) ∈ am_ws := am_m3 (List.mem_of_getElem? (i := 88) rfl) rfl
theorem wd702 : Jvm.Cond.code ({ cls := "ToldTracks$Parser", name := "readRule", desc := "(LToldTracks$Rules;Z)V" } : Jvm.MethodName) prog_4_method_6_code (5 : Nat) (Option.none : Option Jvm.ClassFile.FieldType) ∈ am_ws := am_m3 (List.mem_of_getElem? (i := 89) rfl) rfl
theorem wd703 : Jvm.Cond.methodLink "ToldTracks$Parser" (84 : Nat) ({ cls := "ToldTracks$Rules", name := "isFull", desc := "()Z" } : Jvm.MethodName) ∈ am_ws := am_m3 (List.mem_of_getElem? (i := 90) rfl) rfl
theorem wd704 : Jvm.Cond.instanceMethod ({ cls := "ToldTracks$Rules", name := "isFull", desc := "()Z" } : Jvm.MethodName) ∈ am_ws := am_m3 (List.mem_of_getElem? (i := 91) rfl) rfl
theorem wd705 : Jvm.Cond.selects "ToldTracks$Rules" ({ cls := "ToldTracks$Rules", name := "isFull", desc := "()Z" } : Jvm.MethodName) ({ cls := "ToldTracks$Rules", name := "isFull", desc := "()Z" } : Jvm.MethodName) ∈ am_ws := am_m3 (List.mem_of_getElem? (i := 92) rfl) rfl
theorem wd706 : Jvm.Cond.code ({ cls := "ToldTracks$Rules", name := "isFull", desc := "()Z" } : Jvm.MethodName) prog_6_method_2_code (1 : Nat) (Option.some Jvm.ClassFile.FieldType.boolean) ∈ am_ws := am_m3 (List.mem_of_getElem? (i := 93) rfl) rfl
theorem wd707 : Jvm.Cond.methodLink "ToldTracks$Parser" (90 : Nat) ({ cls := "ToldTracks$Parser", name := "isOneMore", desc := "(Z)Z" } : Jvm.MethodName) ∈ am_ws := am_m3 (List.mem_of_getElem? (i := 94) rfl) rfl
theorem wd709 : Jvm.Cond.instanceMethod ({ cls := "ToldTracks$Parser", name := "isOneMore", desc := "(Z)Z" } : Jvm.MethodName) ∈ am_ws := am_m3 (List.mem_of_getElem? (i := 96) rfl) rfl
theorem wd710 : Jvm.Cond.code ({ cls := "ToldTracks$Parser", name := "isOneMore", desc := "(Z)Z" } : Jvm.MethodName) prog_4_method_5_code (2 : Nat) (Option.some Jvm.ClassFile.FieldType.boolean) ∈ am_ws := am_m3 (List.mem_of_getElem? (i := 97) rfl) rfl
theorem wd711 : Jvm.Cond.methodLink "ToldTracks$Parser" (103 : Nat) ({ cls := "ToldTracks$Parser", name := "readSum", desc := "(I)V" } : Jvm.MethodName) ∈ am_ws := am_m3 (List.mem_of_getElem? (i := 98) rfl) rfl
theorem wd713 : Jvm.Cond.instanceMethod ({ cls := "ToldTracks$Parser", name := "readSum", desc := "(I)V" } : Jvm.MethodName) ∈ am_ws := am_m3 (List.mem_of_getElem? (i := 100) rfl) rfl
theorem wd714 : Jvm.Cond.code ({ cls := "ToldTracks$Parser", name := "readSum", desc := "(I)V" } : Jvm.MethodName) prog_4_method_18_code (4 : Nat) (Option.none : Option Jvm.ClassFile.FieldType) ∈ am_ws := am_m3 (List.mem_of_getElem? (i := 101) rfl) rfl
theorem wd715 : Jvm.Cond.methodLink "ToldTracks$Parser" (203 : Nat) ({ cls := "ToldTracks$Parser", name := "readProduct", desc := "(I)V" } : Jvm.MethodName) ∈ am_ws := am_m3 (List.mem_of_getElem? (i := 102) rfl) rfl
theorem wd717 : Jvm.Cond.instanceMethod ({ cls := "ToldTracks$Parser", name := "readProduct", desc := "(I)V" } : Jvm.MethodName) ∈ am_ws := am_m3 (List.mem_of_getElem? (i := 104) rfl) rfl
theorem wd718 : Jvm.Cond.code ({ cls := "ToldTracks$Parser", name := "readProduct", desc := "(I)V" } : Jvm.MethodName) prog_4_method_19_code (4 : Nat) (Option.none : Option Jvm.ClassFile.FieldType) ∈ am_ws := am_m3 (List.mem_of_getElem? (i := 105) rfl) rfl
theorem wd719 : Jvm.Cond.methodLink "ToldTracks$Parser" (206 : Nat) ({ cls := "ToldTracks$Parser", name := "readPart", desc := "(I)V" } : Jvm.MethodName) ∈ am_ws := am_m3 (List.mem_of_getElem? (i := 106) rfl) rfl
theorem wd721 : Jvm.Cond.instanceMethod ({ cls := "ToldTracks$Parser", name := "readPart", desc := "(I)V" } : Jvm.MethodName) ∈ am_ws := am_m3 (List.mem_of_getElem? (i := 108) rfl) rfl
theorem wd722 : Jvm.Cond.code ({ cls := "ToldTracks$Parser", name := "readPart", desc := "(I)V" } : Jvm.MethodName) prog_4_method_21_code (2 : Nat) (Option.none : Option Jvm.ClassFile.FieldType) ∈ am_ws := am_m3 (List.mem_of_getElem? (i := 109) rfl) rfl
theorem wd723 : Jvm.Cond.methodLink "ToldTracks$Parser" (215 : Nat) ({ cls := "ToldTracks$Parser", name := "readLeaf", desc := "(I)V" } : Jvm.MethodName) ∈ am_ws := am_m3 (List.mem_of_getElem? (i := 110) rfl) rfl
theorem wd725 : Jvm.Cond.instanceMethod ({ cls := "ToldTracks$Parser", name := "readLeaf", desc := "(I)V" } : Jvm.MethodName) ∈ am_ws := am_m3 (List.mem_of_getElem? (i := 112) rfl) rfl
theorem wd726 : Jvm.Cond.code ({ cls := "ToldTracks$Parser", name := "readLeaf", desc := "(I)V" } : Jvm.MethodName) prog_4_method_22_code (2 : Nat) (Option.none : Option Jvm.ClassFile.FieldType) ∈ am_ws := am_m3 (List.mem_of_getElem? (i := 113) rfl) rfl
theorem wd727 : Jvm.Cond.methodLink "ToldTracks$Parser" (185 : Nat) ({ cls := "ToldTracks$Formula", name := "emit", desc := "(I)V" } : Jvm.MethodName) ∈ am_ws := am_m3 (List.mem_of_getElem? (i := 114) rfl) rfl
theorem wd728 : Jvm.Cond.instanceMethod ({ cls := "ToldTracks$Formula", name := "emit", desc := "(I)V" } : Jvm.MethodName) ∈ am_ws := am_m3 (List.mem_of_getElem? (i := 115) rfl) rfl
theorem wd729 : Jvm.Cond.selects "ToldTracks$Formula" ({ cls := "ToldTracks$Formula", name := "emit", desc := "(I)V" } : Jvm.MethodName) ({ cls := "ToldTracks$Formula", name := "emit", desc := "(I)V" } : Jvm.MethodName) ∈ am_ws := am_m3 (List.mem_of_getElem? (i := 116) rfl) rfl
theorem wd730 : Jvm.Cond.code ({ cls := "ToldTracks$Formula", name := "emit", desc := "(I)V" } : Jvm.MethodName) prog_2_method_2_code (2 : Nat) (Option.none : Option Jvm.ClassFile.FieldType) ∈ am_ws := am_m3 (List.mem_of_getElem? (i := 117) rfl) rfl
theorem wd731 : Jvm.Cond.methodLink "ToldTracks$Parser" (191 : Nat) ({ cls := "ToldTracks$Reader", name := "isSign", desc := "(I)Z" } : Jvm.MethodName) ∈ am_ws := am_m3 (List.mem_of_getElem? (i := 118) rfl) rfl
theorem wd732 : Jvm.Cond.instanceMethod ({ cls := "ToldTracks$Reader", name := "isSign", desc := "(I)Z" } : Jvm.MethodName) ∈ am_ws := am_m3 (List.mem_of_getElem? (i := 119) rfl) rfl
theorem wd733 : Jvm.Cond.selects "ToldTracks$Reader" ({ cls := "ToldTracks$Reader", name := "isSign", desc := "(I)Z" } : Jvm.MethodName) ({ cls := "ToldTracks$Reader", name := "isSign", desc := "(I)Z" } : Jvm.MethodName) ∈ am_ws := am_m3 (List.mem_of_getElem? (i := 120) rfl) rfl
theorem wd734 : Jvm.Cond.code ({ cls := "ToldTracks$Reader", name := "isSign", desc := "(I)Z" } : Jvm.MethodName) prog_5_method_8_code (2 : Nat) (Option.some Jvm.ClassFile.FieldType.boolean) ∈ am_ws := am_m3 (List.mem_of_getElem? (i := 121) rfl) rfl
theorem wd735 : Jvm.Cond.methodLink "ToldTracks$Parser" (194 : Nat) ({ cls := "ToldTracks$Parser", name := "takeOpening", desc := "(II)Z" } : Jvm.MethodName) ∈ am_ws := am_m3 (List.mem_of_getElem? (i := 122) rfl) rfl
theorem wd737 : Jvm.Cond.instanceMethod ({ cls := "ToldTracks$Parser", name := "takeOpening", desc := "(II)Z" } : Jvm.MethodName) ∈ am_ws := am_m3 (List.mem_of_getElem? (i := 124) rfl) rfl
theorem wd738 : Jvm.Cond.code ({ cls := "ToldTracks$Parser", name := "takeOpening", desc := "(II)Z" } : Jvm.MethodName) prog_4_method_24_code (3 : Nat) (Option.some Jvm.ClassFile.FieldType.boolean) ∈ am_ws := am_m3 (List.mem_of_getElem? (i := 125) rfl) rfl
theorem wd739 : Jvm.Cond.methodLink "ToldTracks$Parser" (197 : Nat) ({ cls := "ToldTracks$Reader", name := "takeSign", desc := "(I)V" } : Jvm.MethodName) ∈ am_ws := am_m3 (List.mem_of_getElem? (i := 126) rfl) rfl
theorem wd740 : Jvm.Cond.instanceMethod ({ cls := "ToldTracks$Reader", name := "takeSign", desc := "(I)V" } : Jvm.MethodName) ∈ am_ws := am_m3 (List.mem_of_getElem? (i := 127) rfl) rfl
theorem wd741 : Jvm.Cond.selects "ToldTracks$Reader" ({ cls := "ToldTracks$Reader", name := "takeSign", desc := "(I)V" } : Jvm.MethodName) ({ cls := "ToldTracks$Reader", name := "takeSign", desc := "(I)V" } : Jvm.MethodName) ∈ am_ws := am_m3 (List.mem_of_getElem? (i := 128) rfl) rfl
theorem wd742 : Jvm.Cond.code ({ cls := "ToldTracks$Reader", name := "takeSign", desc := "(I)V" } : Jvm.MethodName) prog_5_method_9_code (2 : Nat) (Option.none : Option Jvm.ClassFile.FieldType) ∈ am_ws := am_m3 (List.mem_of_getElem? (i := 129) rfl) rfl
theorem wd743 : Jvm.Cond.methodLink "ToldTracks$Reader" (74 : Nat) ({ cls := "ToldTracks$Reader", name := "isSign", desc := "(I)Z" } : Jvm.MethodName) ∈ am_ws := am_m3 (List.mem_of_getElem? (i := 130) rfl) rfl
theorem wd744 : Jvm.Cond.methodLink "ToldTracks$Parser" (218 : Nat) ({ cls := "ToldTracks$Parser", name := "readChoice", desc := "(II)V" } : Jvm.MethodName) ∈ am_ws := am_m3 (List.mem_of_getElem? (i := 131) rfl) rfl
theorem wd746 : Jvm.Cond.instanceMethod ({ cls := "ToldTracks$Parser", name := "readChoice", desc := "(II)V" } : Jvm.MethodName) ∈ am_ws := am_m3 (List.mem_of_getElem? (i := 133) rfl) rfl
theorem wd747 : Jvm.Cond.code ({ cls := "ToldTracks$Parser", name := "readChoice", desc := "(II)V" } : Jvm.MethodName) prog_4_method_23_code (3 : Nat) (Option.none : Option Jvm.ClassFile.FieldType) ∈ am_ws := am_m3 (List.mem_of_getElem? (i := 134) rfl) rfl
theorem wd748 : Jvm.Cond.methodLink "ToldTracks$Parser" (209 : Nat) ({ cls := "ToldTracks$Parser", name := "timesSign", desc := "()I" } : Jvm.MethodName) ∈ am_ws := am_m3 (List.mem_of_getElem? (i := 135) rfl) rfl
theorem wd750 : Jvm.Cond.instanceMethod ({ cls := "ToldTracks$Parser", name := "timesSign", desc := "()I" } : Jvm.MethodName) ∈ am_ws := am_m3 (List.mem_of_getElem? (i := 137) rfl) rfl
theorem wd751 : Jvm.Cond.code ({ cls := "ToldTracks$Parser", name := "timesSign", desc := "()I" } : Jvm.MethodName) prog_4_method_20_code (1 : Nat) (Option.some Jvm.ClassFile.FieldType.int) ∈ am_ws := am_m3 (List.mem_of_getElem? (i := 138) rfl) rfl
theorem wd752 : Jvm.Cond.methodLink "ToldTracks$Parser" (106 : Nat) ({ cls := "ToldTracks$Reader", name := "takeWord", desc := "(I)V" } : Jvm.MethodName) ∈ am_ws := am_m3 (List.mem_of_getElem? (i := 139) rfl) rfl
theorem wd753 : Jvm.Cond.instanceMethod ({ cls := "ToldTracks$Reader", name := "takeWord", desc := "(I)V" } : Jvm.MethodName) ∈ am_ws := am_m3 (List.mem_of_getElem? (i := 140) rfl) rfl
theorem wd754 : Jvm.Cond.selects "ToldTracks$Reader" ({ cls := "ToldTracks$Reader", name := "takeWord", desc := "(I)V" } : Jvm.MethodName) ({ cls := "ToldTracks$Reader", name := "takeWord", desc := "(I)V" } : Jvm.MethodName) ∈ am_ws := am_m3 (List.mem_of_getElem? (i := 141) rfl) rfl
theorem wd755 : Jvm.Cond.code ({ cls := "ToldTracks$Reader", name := "takeWord", desc := "(I)V" } : Jvm.MethodName) prog_5_method_10_code (2 : Nat) (Option.none : Option Jvm.ClassFile.FieldType) ∈ am_ws := am_m3 (List.mem_of_getElem? (i := 142) rfl) rfl
theorem wd756 : Jvm.Cond.methodLink "ToldTracks$Parser" (109 : Nat) ({ cls := "ToldTracks$Parser", name := "readTest", desc := "(I)V" } : Jvm.MethodName) ∈ am_ws := am_m3 (List.mem_of_getElem? (i := 143) rfl) rfl
theorem wd758 : Jvm.Cond.instanceMethod ({ cls := "ToldTracks$Parser", name := "readTest", desc := "(I)V" } : Jvm.MethodName) ∈ am_ws := am_m3 (List.mem_of_getElem? (i := 145) rfl) rfl
theorem wd759 : Jvm.Cond.code ({ cls := "ToldTracks$Parser", name := "readTest", desc := "(I)V" } : Jvm.MethodName) prog_4_method_14_code (3 : Nat) (Option.none : Option Jvm.ClassFile.FieldType) ∈ am_ws := am_m3 (List.mem_of_getElem? (i := 146) rfl) rfl
theorem wd760 : Jvm.Cond.methodLink "ToldTracks$Parser" (182 : Nat) ({ cls := "ToldTracks$Parser", name := "readBoth", desc := "(I)V" } : Jvm.MethodName) ∈ am_ws := am_m3 (List.mem_of_getElem? (i := 147) rfl) rfl
theorem wd762 : Jvm.Cond.instanceMethod ({ cls := "ToldTracks$Parser", name := "readBoth", desc := "(I)V" } : Jvm.MethodName) ∈ am_ws := am_m3 (List.mem_of_getElem? (i := 149) rfl) rfl
theorem wd763 : Jvm.Cond.code ({ cls := "ToldTracks$Parser", name := "readBoth", desc := "(I)V" } : Jvm.MethodName) prog_4_method_15_code (3 : Nat) (Option.none : Option Jvm.ClassFile.FieldType) ∈ am_ws := am_m3 (List.mem_of_getElem? (i := 150) rfl) rfl
theorem wd764 : Jvm.Cond.methodLink "ToldTracks$Parser" (188 : Nat) ({ cls := "ToldTracks$Parser", name := "readFact", desc := "(I)V" } : Jvm.MethodName) ∈ am_ws := am_m3 (List.mem_of_getElem? (i := 151) rfl) rfl
theorem wd766 : Jvm.Cond.instanceMethod ({ cls := "ToldTracks$Parser", name := "readFact", desc := "(I)V" } : Jvm.MethodName) ∈ am_ws := am_m3 (List.mem_of_getElem? (i := 153) rfl) rfl
theorem wd767 : Jvm.Cond.code ({ cls := "ToldTracks$Parser", name := "readFact", desc := "(I)V" } : Jvm.MethodName) prog_4_method_16_code (4 : Nat) (Option.none : Option Jvm.ClassFile.FieldType) ∈ am_ws := am_m3 (List.mem_of_getElem? (i := 154) rfl) rfl
theorem wd768 : Jvm.Cond.methodLink "ToldTracks$Parser" (200 : Nat) ({ cls := "ToldTracks$Parser", name := "takeComparison", desc := "()I" } : Jvm.MethodName) ∈ am_ws := am_m3 (List.mem_of_getElem? (i := 155) rfl) rfl
theorem wd770 : Jvm.Cond.instanceMethod ({ cls := "ToldTracks$Parser", name := "takeComparison", desc := "()I" } : Jvm.MethodName) ∈ am_ws := am_m3 (List.mem_of_getElem? (i := 157) rfl) rfl
theorem wd771 : Jvm.Cond.code ({ cls := "ToldTracks$Parser", name := "takeComparison", desc := "()I" } : Jvm.MethodName) prog_4_method_17_code (1 : Nat) (Option.some Jvm.ClassFile.FieldType.int) ∈ am_ws := am_m3 (List.mem_of_getElem? (i := 158) rfl) rfl
theorem wd772 : Jvm.Cond.methodLink "ToldTracks$Parser" (115 : Nat) ({ cls := "ToldTracks$Rules", name := "append", desc := "(III)V" } : Jvm.MethodName) ∈ am_ws := am_m3 (List.mem_of_getElem? (i := 159) rfl) rfl
theorem wd773 : Jvm.Cond.instanceMethod ({ cls := "ToldTracks$Rules", name := "append", desc := "(III)V" } : Jvm.MethodName) ∈ am_ws := am_m3 (List.mem_of_getElem? (i := 160) rfl) rfl
theorem wd774 : Jvm.Cond.selects "ToldTracks$Rules" ({ cls := "ToldTracks$Rules", name := "append", desc := "(III)V" } : Jvm.MethodName) ({ cls := "ToldTracks$Rules", name := "append", desc := "(III)V" } : Jvm.MethodName) ∈ am_ws := am_m3 (List.mem_of_getElem? (i := 161) rfl) rfl
theorem wd775 : Jvm.Cond.code ({ cls := "ToldTracks$Rules", name := "append", desc := "(III)V" } : Jvm.MethodName) prog_6_method_3_code (4 : Nat) (Option.none : Option Jvm.ClassFile.FieldType) ∈ am_ws := am_m3 (List.mem_of_getElem? (i := 162) rfl) rfl
theorem wd776 : Jvm.Cond.methodLink "ToldTracks$Rules" (25 : Nat) ({ cls := "ToldTracks$Rules", name := "isFull", desc := "()Z" } : Jvm.MethodName) ∈ am_ws := am_m3 (List.mem_of_getElem? (i := 163) rfl) rfl
theorem wd777 : Jvm.Cond.methodLink "ToldTracks$Parser" (56 : Nat) ({ cls := "ToldTracks$Parser", name := "readShip", desc := "()V" } : Jvm.MethodName) ∈ am_ws := am_m3 (List.mem_of_getElem? (i := 164) rfl) rfl
theorem wd779 : Jvm.Cond.instanceMethod ({ cls := "ToldTracks$Parser", name := "readShip", desc := "()V" } : Jvm.MethodName) ∈ am_ws := am_m3 (List.mem_of_getElem? (i := 166) rfl) rfl
theorem wd780 : Jvm.Cond.code ({ cls := "ToldTracks$Parser", name := "readShip", desc := "()V" } : Jvm.MethodName) prog_4_method_8_code (6 : Nat) (Option.none : Option Jvm.ClassFile.FieldType) ∈ am_ws := am_m3 (List.mem_of_getElem? (i := 167) rfl) rfl
theorem wd781 : Jvm.Cond.methodLink "ToldTracks$Parser" (122 : Nat) ({ cls := "ToldTracks$Reader", name := "isName", desc := "()Z" } : Jvm.MethodName) ∈ am_ws := am_m3 (List.mem_of_getElem? (i := 168) rfl) rfl
theorem wd782 : Jvm.Cond.instanceMethod ({ cls := "ToldTracks$Reader", name := "isName", desc := "()Z" } : Jvm.MethodName) ∈ am_ws := am_m3 (List.mem_of_getElem? (i := 169) rfl) rfl
theorem wd783 : Jvm.Cond.selects "ToldTracks$Reader" ({ cls := "ToldTracks$Reader", name := "isName", desc := "()Z" } : Jvm.MethodName) ({ cls := "ToldTracks$Reader", name := "isName", desc := "()Z" } : Jvm.MethodName) ∈ am_ws := am_m3 (List.mem_of_getElem? (i := 170) rfl) rfl
theorem wd784 : Jvm.Cond.code ({ cls := "ToldTracks$Reader", name := "isName", desc := "()Z" } : Jvm.MethodName) prog_5_method_13_code (1 : Nat) (Option.some Jvm.ClassFile.FieldType.boolean) ∈ am_ws := am_m3 (List.mem_of_getElem? (i := 171) rfl) rfl
theorem wd785 : Jvm.Cond.methodLink "ToldTracks$Parser" (128 : Nat) ({ cls := "ToldTracks$Sea", name := "shipNamed", desc := "(I)I" } : Jvm.MethodName) ∈ am_ws := am_m3 (List.mem_of_getElem? (i := 172) rfl) rfl
theorem wd786 : Jvm.Cond.instanceMethod ({ cls := "ToldTracks$Sea", name := "shipNamed", desc := "(I)I" } : Jvm.MethodName) ∈ am_ws := am_m3 (List.mem_of_getElem? (i := 173) rfl) rfl
theorem wd787 : Jvm.Cond.selects "ToldTracks$Sea" ({ cls := "ToldTracks$Sea", name := "shipNamed", desc := "(I)I" } : Jvm.MethodName) ({ cls := "ToldTracks$Sea", name := "shipNamed", desc := "(I)I" } : Jvm.MethodName) ∈ am_ws := am_m3 (List.mem_of_getElem? (i := 174) rfl) rfl
theorem wd788 : Jvm.Cond.code ({ cls := "ToldTracks$Sea", name := "shipNamed", desc := "(I)I" } : Jvm.MethodName) prog_7_method_12_code (3 : Nat) (Option.some Jvm.ClassFile.FieldType.int) ∈ am_ws := am_m3 (List.mem_of_getElem? (i := 175) rfl) rfl
theorem wd789 : Jvm.Cond.methodLink "ToldTracks$Parser" (132 : Nat) ({ cls := "ToldTracks$Parser", name := "takeAfter", desc := "(III)I" } : Jvm.MethodName) ∈ am_ws := am_m3 (List.mem_of_getElem? (i := 176) rfl) rfl
theorem wd791 : Jvm.Cond.instanceMethod ({ cls := "ToldTracks$Parser", name := "takeAfter", desc := "(III)I" } : Jvm.MethodName) ∈ am_ws := am_m3 (List.mem_of_getElem? (i := 178) rfl) rfl
theorem wd792 : Jvm.Cond.code ({ cls := "ToldTracks$Parser", name := "takeAfter", desc := "(III)I" } : Jvm.MethodName) prog_4_method_7_code (4 : Nat) (Option.some Jvm.ClassFile.FieldType.int) ∈ am_ws := am_m3 (List.mem_of_getElem? (i := 179) rfl) rfl
theorem wd793 : Jvm.Cond.methodLink "ToldTracks$Parser" (136 : Nat) ({ cls := "ToldTracks$Sea", name := "launch", desc := "(IIIII)V" } : Jvm.MethodName) ∈ am_ws := am_m3 (List.mem_of_getElem? (i := 180) rfl) rfl
theorem wd794 : Jvm.Cond.instanceMethod ({ cls := "ToldTracks$Sea", name := "launch", desc := "(IIIII)V" } : Jvm.MethodName) ∈ am_ws := am_m3 (List.mem_of_getElem? (i := 181) rfl) rfl
theorem wd795 : Jvm.Cond.selects "ToldTracks$Sea" ({ cls := "ToldTracks$Sea", name := "launch", desc := "(IIIII)V" } : Jvm.MethodName) ({ cls := "ToldTracks$Sea", name := "launch", desc := "(IIIII)V" } : Jvm.MethodName) ∈ am_ws := am_m3 (List.mem_of_getElem? (i := 182) rfl) rfl
theorem wd796 : Jvm.Cond.code ({ cls := "ToldTracks$Sea", name := "launch", desc := "(IIIII)V" } : Jvm.MethodName) prog_7_method_13_code (7 : Nat) (Option.none : Option Jvm.ClassFile.FieldType) ∈ am_ws := am_m3 (List.mem_of_getElem? (i := 183) rfl) rfl
theorem wd797 : Jvm.Cond.methodLink "ToldTracks$Parser" (59 : Nat) ({ cls := "ToldTracks$Parser", name := "readSaying", desc := "()V" } : Jvm.MethodName) ∈ am_ws := am_m3 (List.mem_of_getElem? (i := 184) rfl) rfl
theorem wd799 : Jvm.Cond.instanceMethod ({ cls := "ToldTracks$Parser", name := "readSaying", desc := "()V" } : Jvm.MethodName) ∈ am_ws := am_m3 (List.mem_of_getElem? (i := 186) rfl) rfl
theorem wd800 : Jvm.Cond.code ({ cls := "ToldTracks$Parser", name := "readSaying", desc := "()V" } : Jvm.MethodName) prog_4_method_11_code (5 : Nat) (Option.none : Option Jvm.ClassFile.FieldType) ∈ am_ws := am_m3 (List.mem_of_getElem? (i := 187) rfl) rfl
theorem wd801 : Jvm.Cond.methodLink "ToldTracks$Parser" (140 : Nat) ({ cls := "ToldTracks$Sea", name := "countSayings", desc := "()I" } : Jvm.MethodName) ∈ am_ws := am_m3 (List.mem_of_getElem? (i := 188) rfl) rfl
theorem wd802 : Jvm.Cond.instanceMethod ({ cls := "ToldTracks$Sea", name := "countSayings", desc := "()I" } : Jvm.MethodName) ∈ am_ws := am_m3 (List.mem_of_getElem? (i := 189) rfl) rfl
theorem wd803 : Jvm.Cond.selects "ToldTracks$Sea" ({ cls := "ToldTracks$Sea", name := "countSayings", desc := "()I" } : Jvm.MethodName) ({ cls := "ToldTracks$Sea", name := "countSayings", desc := "()I" } : Jvm.MethodName) ∈ am_ws := am_m3 (List.mem_of_getElem? (i := 190) rfl) rfl
theorem wd804 : Jvm.Cond.code ({ cls := "ToldTracks$Sea", name := "countSayings", desc := "()I" } : Jvm.MethodName) prog_7_method_9_code (3 : Nat) (Option.some Jvm.ClassFile.FieldType.int) ∈ am_ws := am_m3 (List.mem_of_getElem? (i := 191) rfl) rfl
theorem wd805 : Jvm.Cond.methodLink "ToldTracks$Parser" (144 : Nat) ({ cls := "ToldTracks$Parser", name := "takeShip", desc := "()I" } : Jvm.MethodName) ∈ am_ws := am_m3 (List.mem_of_getElem? (i := 192) rfl) rfl
theorem wd807 : Jvm.Cond.instanceMethod ({ cls := "ToldTracks$Parser", name := "takeShip", desc := "()I" } : Jvm.MethodName) ∈ am_ws := am_m3 (List.mem_of_getElem? (i := 194) rfl) rfl
theorem wd808 : Jvm.Cond.code ({ cls := "ToldTracks$Parser", name := "takeShip", desc := "()I" } : Jvm.MethodName) prog_4_method_9_code (2 : Nat) (Option.some Jvm.ClassFile.FieldType.int) ∈ am_ws := am_m3 (List.mem_of_getElem? (i := 195) rfl) rfl
theorem wd809 : Jvm.Cond.methodLink "ToldTracks$Parser" (147 : Nat) ({ cls := "ToldTracks$Reader", name := "isNumber", desc := "(II)Z" } : Jvm.MethodName) ∈ am_ws := am_m3 (List.mem_of_getElem? (i := 196) rfl) rfl
theorem wd810 : Jvm.Cond.methodLink "ToldTracks$Parser" (155 : Nat) ({ cls := "ToldTracks$Ship", name := "hasSaid", desc := "(I)Z" } : Jvm.MethodName) ∈ am_ws := am_m3 (List.mem_of_getElem? (i := 197) rfl) rfl
theorem wd811 : Jvm.Cond.instanceMethod ({ cls := "ToldTracks$Ship", name := "hasSaid", desc := "(I)Z" } : Jvm.MethodName) ∈ am_ws := am_m3 (List.mem_of_getElem? (i := 198) rfl) rfl
theorem wd812 : Jvm.Cond.selects "ToldTracks$Ship" ({ cls := "ToldTracks$Ship", name := "hasSaid", desc := "(I)Z" } : Jvm.MethodName) ({ cls := "ToldTracks$Ship", name := "hasSaid", desc := "(I)Z" } : Jvm.MethodName) ∈ am_ws := am_m3 (List.mem_of_getElem? (i := 199) rfl) rfl
theorem wd813 : Jvm.Cond.code ({ cls := "ToldTracks$Ship", name := "hasSaid", desc := "(I)Z" } : Jvm.MethodName) prog_8_method_2_code (3 : Nat) (Option.some Jvm.ClassFile.FieldType.boolean) ∈ am_ws := am_m3 (List.mem_of_getElem? (i := 200) rfl) rfl
theorem wd814 : Jvm.Cond.methodLink "ToldTracks$Parser" (161 : Nat) ({ cls := "ToldTracks$Parser", name := "takePlace", desc := "()I" } : Jvm.MethodName) ∈ am_ws := am_m3 (List.mem_of_getElem? (i := 201) rfl) rfl
theorem wd816 : Jvm.Cond.instanceMethod ({ cls := "ToldTracks$Parser", name := "takePlace", desc := "()I" } : Jvm.MethodName) ∈ am_ws := am_m3 (List.mem_of_getElem? (i := 203) rfl) rfl
theorem wd817 : Jvm.Cond.code ({ cls := "ToldTracks$Parser", name := "takePlace", desc := "()I" } : Jvm.MethodName) prog_4_method_10_code (3 : Nat) (Option.some Jvm.ClassFile.FieldType.int) ∈ am_ws := am_m3 (List.mem_of_getElem? (i := 204) rfl) rfl
theorem wd818 : Jvm.Cond.methodLink "ToldTracks$Parser" (164 : Nat) ({ cls := "ToldTracks$Ship", name := "insert", desc := "(IIZ)I" } : Jvm.MethodName) ∈ am_ws := am_m3 (List.mem_of_getElem? (i := 205) rfl) rfl
theorem wd819 : Jvm.Cond.instanceMethod ({ cls := "ToldTracks$Ship", name := "insert", desc := "(IIZ)I" } : Jvm.MethodName) ∈ am_ws := am_m3 (List.mem_of_getElem? (i := 206) rfl) rfl
theorem wd820 : Jvm.Cond.selects "ToldTracks$Ship" ({ cls := "ToldTracks$Ship", name := "insert", desc := "(IIZ)I" } : Jvm.MethodName) ({ cls := "ToldTracks$Ship", name := "insert", desc := "(IIZ)I" } : Jvm.MethodName) ∈ am_ws := am_m3 (List.mem_of_getElem? (i := 207) rfl) rfl
theorem wd821 : Jvm.Cond.code ({ cls := "ToldTracks$Ship", name := "insert", desc := "(IIZ)I" } : Jvm.MethodName) prog_8_method_3_code (5 : Nat) (Option.some Jvm.ClassFile.FieldType.int) ∈ am_ws := am_m3 (List.mem_of_getElem? (i := 208) rfl) rfl
theorem wd822 : Jvm.Cond.methodLink "ToldTracks$Parser" (62 : Nat) ({ cls := "ToldTracks$Parser", name := "readBook", desc := "()V" } : Jvm.MethodName) ∈ am_ws := am_m3 (List.mem_of_getElem? (i := 209) rfl) rfl
theorem wd824 : Jvm.Cond.instanceMethod ({ cls := "ToldTracks$Parser", name := "readBook", desc := "()V" } : Jvm.MethodName) ∈ am_ws := am_m3 (List.mem_of_getElem? (i := 211) rfl) rfl
theorem wd825 : Jvm.Cond.code ({ cls := "ToldTracks$Parser", name := "readBook", desc := "()V" } : Jvm.MethodName) prog_4_method_12_code (5 : Nat) (Option.none : Option Jvm.ClassFile.FieldType) ∈ am_ws := am_m3 (List.mem_of_getElem? (i := 212) rfl) rfl
theorem wd826 : Jvm.Cond.methodLink "ToldTracks$Parser" (168 : Nat) ({ cls := "ToldTracks$Sea", name := "countBooks", desc := "()I" } : Jvm.MethodName) ∈ am_ws := am_m3 (List.mem_of_getElem? (i := 213) rfl) rfl
theorem wd827 : Jvm.Cond.instanceMethod ({ cls := "ToldTracks$Sea", name := "countBooks", desc := "()I" } : Jvm.MethodName) ∈ am_ws := am_m3 (List.mem_of_getElem? (i := 214) rfl) rfl
theorem wd828 : Jvm.Cond.selects "ToldTracks$Sea" ({ cls := "ToldTracks$Sea", name := "countBooks", desc := "()I" } : Jvm.MethodName) ({ cls := "ToldTracks$Sea", name := "countBooks", desc := "()I" } : Jvm.MethodName) ∈ am_ws := am_m3 (List.mem_of_getElem? (i := 215) rfl) rfl
theorem wd829 : Jvm.Cond.code ({ cls := "ToldTracks$Sea", name := "countBooks", desc := "()I" } : Jvm.MethodName) prog_7_method_11_code (3 : Nat) (Option.some Jvm.ClassFile.FieldType.int) ∈ am_ws := am_m3 (List.mem_of_getElem? (i := 216) rfl) rfl
theorem wd830 : Jvm.Cond.methodLink "ToldTracks$Parser" (171 : Nat) ({ cls := "ToldTracks$Ship", name := "enterBook", desc := "(III)V" } : Jvm.MethodName) ∈ am_ws := am_m3 (List.mem_of_getElem? (i := 217) rfl) rfl
theorem wd831 : Jvm.Cond.instanceMethod ({ cls := "ToldTracks$Ship", name := "enterBook", desc := "(III)V" } : Jvm.MethodName) ∈ am_ws := am_m3 (List.mem_of_getElem? (i := 218) rfl) rfl
theorem wd832 : Jvm.Cond.selects "ToldTracks$Ship" ({ cls := "ToldTracks$Ship", name := "enterBook", desc := "(III)V" } : Jvm.MethodName) ({ cls := "ToldTracks$Ship", name := "enterBook", desc := "(III)V" } : Jvm.MethodName) ∈ am_ws := am_m3 (List.mem_of_getElem? (i := 219) rfl) rfl
theorem wd833 : Jvm.Cond.code ({ cls := "ToldTracks$Ship", name := "enterBook", desc := "(III)V" } : Jvm.MethodName) prog_8_method_5_code (4 : Nat) (Option.none : Option Jvm.ClassFile.FieldType) ∈ am_ws := am_m3 (List.mem_of_getElem? (i := 220) rfl) rfl
theorem wd834 : Jvm.Cond.methodLink "ToldTracks$Parser" (65 : Nat) ({ cls := "ToldTracks$Parser", name := "readSighting", desc := "()V" } : Jvm.MethodName) ∈ am_ws := am_m3 (List.mem_of_getElem? (i := 221) rfl) rfl
theorem wd836 : Jvm.Cond.instanceMethod ({ cls := "ToldTracks$Parser", name := "readSighting", desc := "()V" } : Jvm.MethodName) ∈ am_ws := am_m3 (List.mem_of_getElem? (i := 223) rfl) rfl
theorem wd837 : Jvm.Cond.code ({ cls := "ToldTracks$Parser", name := "readSighting", desc := "()V" } : Jvm.MethodName) prog_4_method_13_code (4 : Nat) (Option.none : Option Jvm.ClassFile.FieldType) ∈ am_ws := am_m3 (List.mem_of_getElem? (i := 224) rfl) rfl
theorem wd838 : Jvm.Cond.methodLink "ToldTracks$Parser" (181 : Nat) ({ cls := "ToldTracks$Sights", name := "append", desc := "(III)V" } : Jvm.MethodName) ∈ am_ws := am_m3 (List.mem_of_getElem? (i := 225) rfl) rfl
theorem wd839 : Jvm.Cond.instanceMethod ({ cls := "ToldTracks$Sights", name := "append", desc := "(III)V" } : Jvm.MethodName) ∈ am_ws := am_m3 (List.mem_of_getElem? (i := 226) rfl) rfl
theorem wd840 : Jvm.Cond.selects "ToldTracks$Sights" ({ cls := "ToldTracks$Sights", name := "append", desc := "(III)V" } : Jvm.MethodName) ({ cls := "ToldTracks$Sights", name := "append", desc := "(III)V" } : Jvm.MethodName) ∈ am_ws := am_m3 (List.mem_of_getElem? (i := 227) rfl) rfl
theorem wd841 : Jvm.Cond.code ({ cls := "ToldTracks$Sights", name := "append", desc := "(III)V" } : Jvm.MethodName) prog_9_method_2_code (4 : Nat) (Option.none : Option Jvm.ClassFile.FieldType) ∈ am_ws := am_m3 (List.mem_of_getElem? (i := 228) rfl) rfl
theorem wd842 : Jvm.Cond.methodLink "ToldTracks" (87 : Nat) ({ cls := "ToldTracks$Reader", name := "takeSign", desc := "(I)V" } : Jvm.MethodName) ∈ am_ws := am_m3 (List.mem_of_getElem? (i := 229) rfl) rfl
theorem wd843 : Jvm.Cond.methodLink "ToldTracks" (102 : Nat) ({ cls := "ToldTracks$Sea", name := "measure", desc := "()V" } : Jvm.MethodName) ∈ am_ws := am_m3 (List.mem_of_getElem? (i := 230) rfl) rfl
theorem wd844 : Jvm.Cond.instanceMethod ({ cls := "ToldTracks$Sea", name := "measure", desc := "()V" } : Jvm.MethodName) ∈ am_ws := am_m3 (List.mem_of_getElem? (i := 231) rfl) rfl
theorem wd845 : Jvm.Cond.selects "ToldTracks$Sea" ({ cls := "ToldTracks$Sea", name := "measure", desc := "()V" } : Jvm.MethodName) ({ cls := "ToldTracks$Sea", name := "measure", desc := "()V" } : Jvm.MethodName) ∈ am_ws := am_m3 (List.mem_of_getElem? (i := 232) rfl) rfl
theorem wd846 : Jvm.Cond.code ({ cls := "ToldTracks$Sea", name := "measure", desc := "()V" } : Jvm.MethodName) prog_7_method_3_code (4 : Nat) (Option.none : Option Jvm.ClassFile.FieldType) ∈ am_ws := am_m3 (List.mem_of_getElem? (i := 233) rfl) rfl
theorem wd847 : Jvm.Cond.methodLink "ToldTracks$Sea" (79 : Nat) ({ cls := "java/util/Arrays", name := "fill", desc := "([II)V" } : Jvm.MethodName) ∈ am_ws := am_m3 (List.mem_of_getElem? (i := 234) rfl) rfl
theorem wd848 : Jvm.Cond.static ({ cls := "java/util/Arrays", name := "fill", desc := "([II)V" } : Jvm.MethodName) ∈ am_ws := am_m3 (List.mem_of_getElem? (i := 235) rfl) rfl
theorem wd849 : Jvm.Cond.code ({ cls := "java/util/Arrays", name := "fill", desc := "([II)V" } : Jvm.MethodName) prog_20_method_103_code (4 : Nat) (Option.none : Option Jvm.ClassFile.FieldType) ∈ am_ws := am_m3 (List.mem_of_getElem? (i := 236) rfl) rfl
theorem wd850 : Jvm.Cond.methodLink "ToldTracks$Sea" (85 : Nat) ({ cls := "java/util/Arrays", name := "fill", desc := "([JJ)V" } : Jvm.MethodName) ∈ am_ws := am_m3 (List.mem_of_getElem? (i := 237) rfl) rfl
theorem wd851 : Jvm.Cond.static ({ cls := "java/util/Arrays", name := "fill", desc := "([JJ)V" } : Jvm.MethodName) ∈ am_ws := am_m3 (List.mem_of_getElem? (i := 238) rfl) rfl
theorem wd852 : Jvm.Cond.code ({ cls := "java/util/Arrays", name := "fill", desc := "([JJ)V" } : Jvm.MethodName) prog_20_method_101_code (5 : Nat) (Option.none : Option Jvm.ClassFile.FieldType) ∈ am_ws := am_m3 (List.mem_of_getElem? (i := 239) rfl) rfl
theorem wd853 : Jvm.Cond.methodLink "ToldTracks$Sea" (88 : Nat) ({ cls := "ToldTracks$Rules", name := "firstSum", desc := "(LToldTracks$Formula;II)I" } : Jvm.MethodName) ∈ am_ws := am_m4 (List.mem_of_getElem? (i := 0) rfl) rfl
theorem wd854 : Jvm.Cond.instanceMethod ({ cls := "ToldTracks$Rules", name := "firstSum", desc := "(LToldTracks$Formula;II)I" } : Jvm.MethodName) ∈ am_ws := am_m4 (List.mem_of_getElem? (i := 1) rfl) rfl
theorem wd855 : Jvm.Cond.selects "ToldTracks$Rules" ({ cls := "ToldTracks$Rules", name := "firstSum", desc := "(LToldTracks$Formula;II)I" } : Jvm.MethodName) ({ cls := "ToldTracks$Rules", name := "firstSum", desc := "(LToldTracks$Formula;II)I" } : Jvm.MethodName) ∈ am_ws := am_m4 (List.mem_of_getElem? (i := 2) rfl) rfl
theorem wd856 : Jvm.Cond.code ({ cls := "ToldTracks$Rules", name := "firstSum", desc := "(LToldTracks$Formula;II)I" } : Jvm.MethodName) prog_6_method_5_code (6 : Nat) (Option.some Jvm.ClassFile.FieldType.int) ∈ am_ws := am_m4 (List.mem_of_getElem? (i := 3) rfl) rfl
theorem wd857 : Jvm.Cond.methodLink "ToldTracks$Rules" (35 : Nat) ({ cls := "ToldTracks$Rules", name := "firstHolding", desc := "(LToldTracks$Formula;III)I" } : Jvm.MethodName) ∈ am_ws := am_m4 (List.mem_of_getElem? (i := 4) rfl) rfl
theorem wd858 : Jvm.Cond.instanceMethod ({ cls := "ToldTracks$Rules", name := "firstHolding", desc := "(LToldTracks$Formula;III)I" } : Jvm.MethodName) ∈ am_ws := am_m4 (List.mem_of_getElem? (i := 5) rfl) rfl
theorem wd859 : Jvm.Cond.selects "ToldTracks$Rules" ({ cls := "ToldTracks$Rules", name := "firstHolding", desc := "(LToldTracks$Formula;III)I" } : Jvm.MethodName) ({ cls := "ToldTracks$Rules", name := "firstHolding", desc := "(LToldTracks$Formula;III)I" } : Jvm.MethodName) ∈ am_ws := am_m4 (List.mem_of_getElem? (i := 6) rfl) rfl
theorem wd860 : Jvm.Cond.code ({ cls := "ToldTracks$Rules", name := "firstHolding", desc := "(LToldTracks$Formula;III)I" } : Jvm.MethodName) prog_6_method_4_code (6 : Nat) (Option.some Jvm.ClassFile.FieldType.int) ∈ am_ws := am_m4 (List.mem_of_getElem? (i := 7) rfl) rfl
theorem wd861 : Jvm.Cond.methodLink "ToldTracks$Rules" (29 : Nat) ({ cls := "ToldTracks$Formula", name := "valueOf", desc := "(IIIII)I" } : Jvm.MethodName) ∈ am_ws := am_m4 (List.mem_of_getElem? (i := 8) rfl) rfl
theorem wd862 : Jvm.Cond.instanceMethod ({ cls := "ToldTracks$Formula", name := "valueOf", desc := "(IIIII)I" } : Jvm.MethodName) ∈ am_ws := am_m4 (List.mem_of_getElem? (i := 9) rfl) rfl
theorem wd863 : Jvm.Cond.selects "ToldTracks$Formula" ({ cls := "ToldTracks$Formula", name := "valueOf", desc := "(IIIII)I" } : Jvm.MethodName) ({ cls := "ToldTracks$Formula", name := "valueOf", desc := "(IIIII)I" } : Jvm.MethodName) ∈ am_ws := am_m4 (List.mem_of_getElem? (i := 10) rfl) rfl
theorem wd864 : Jvm.Cond.code ({ cls := "ToldTracks$Formula", name := "valueOf", desc := "(IIIII)I" } : Jvm.MethodName) prog_2_method_3_code (11 : Nat) (Option.some Jvm.ClassFile.FieldType.int) ∈ am_ws := am_m4 (List.mem_of_getElem? (i := 11) rfl) rfl
theorem wd865 : Jvm.Cond.methodLink "ToldTracks$Formula" (22 : Nat) ({ cls := "ToldTracks$Formula", name := "partOf", desc := "(IIII)I" } : Jvm.MethodName) ∈ am_ws := am_m4 (List.mem_of_getElem? (i := 12) rfl) rfl
theorem wd866 : Jvm.Cond.static ({ cls := "ToldTracks$Formula", name := "partOf", desc := "(IIII)I" } : Jvm.MethodName) ∈ am_ws := am_m4 (List.mem_of_getElem? (i := 13) rfl) rfl
theorem wd867 : Jvm.Cond.code ({ cls := "ToldTracks$Formula", name := "partOf", desc := "(IIII)I" } : Jvm.MethodName) prog_2_method_4_code (4 : Nat) (Option.some Jvm.ClassFile.FieldType.int) ∈ am_ws := am_m4 (List.mem_of_getElem? (i := 14) rfl) rfl
theorem wd868 : Jvm.Cond.methodLink "ToldTracks$Formula" (26 : Nat) ({ cls := "ToldTracks$Formula", name := "joined", desc := "(IJJ)J" } : Jvm.MethodName) ∈ am_ws := am_m4 (List.mem_of_getElem? (i := 15) rfl) rfl
theorem wd869 : Jvm.Cond.static ({ cls := "ToldTracks$Formula", name := "joined", desc := "(IJJ)J" } : Jvm.MethodName) ∈ am_ws := am_m4 (List.mem_of_getElem? (i := 16) rfl) rfl
theorem wd870 : Jvm.Cond.code ({ cls := "ToldTracks$Formula", name := "joined", desc := "(IJJ)J" } : Jvm.MethodName) prog_2_method_5_code (5 : Nat) (Option.some Jvm.ClassFile.FieldType.long) ∈ am_ws := am_m4 (List.mem_of_getElem? (i := 17) rfl) rfl
theorem wd871 : Jvm.Cond.methodLink "ToldTracks$Formula" (43 : Nat) ({ cls := "java/lang/Math", name := "floorDiv", desc := "(JJ)J" } : Jvm.MethodName) ∈ am_ws := am_m4 (List.mem_of_getElem? (i := 18) rfl) rfl
theorem wd872 : Jvm.Cond.static ({ cls := "java/lang/Math", name := "floorDiv", desc := "(JJ)J" } : Jvm.MethodName) ∈ am_ws := am_m4 (List.mem_of_getElem? (i := 19) rfl) rfl
theorem wd873 : Jvm.Cond.code ({ cls := "java/lang/Math", name := "floorDiv", desc := "(JJ)J" } : Jvm.MethodName) prog_15_method_49_code (6 : Nat) (Option.some Jvm.ClassFile.FieldType.long) ∈ am_ws := am_m4 (List.mem_of_getElem? (i := 20) rfl) rfl
theorem wd874 : Jvm.Cond.methodLink "ToldTracks$Formula" (46 : Nat) ({ cls := "java/lang/Math", name := "floorMod", desc := "(JJ)J" } : Jvm.MethodName) ∈ am_ws := am_m4 (List.mem_of_getElem? (i := 21) rfl) rfl
theorem wd875 : Jvm.Cond.static ({ cls := "java/lang/Math", name := "floorMod", desc := "(JJ)J" } : Jvm.MethodName) ∈ am_ws := am_m4 (List.mem_of_getElem? (i := 22) rfl) rfl
theorem wd876 : Jvm.Cond.code ({ cls := "java/lang/Math", name := "floorMod", desc := "(JJ)J" } : Jvm.MethodName) prog_15_method_52_code (6 : Nat) (Option.some Jvm.ClassFile.FieldType.long) ∈ am_ws := am_m4 (List.mem_of_getElem? (i := 23) rfl) rfl
theorem wd877 : Jvm.Cond.methodLink "ToldTracks$Formula" (34 : Nat) ({ cls := "java/lang/Math", name := "min", desc := "(JJ)J" } : Jvm.MethodName) ∈ am_ws := am_m4 (List.mem_of_getElem? (i := 24) rfl) rfl
theorem wd878 : Jvm.Cond.static ({ cls := "java/lang/Math", name := "min", desc := "(JJ)J" } : Jvm.MethodName) ∈ am_ws := am_m4 (List.mem_of_getElem? (i := 25) rfl) rfl
theorem wd879 : Jvm.Cond.code ({ cls := "java/lang/Math", name := "min", desc := "(JJ)J" } : Jvm.MethodName) prog_15_method_70_code (4 : Nat) (Option.some Jvm.ClassFile.FieldType.long) ∈ am_ws := am_m4 (List.mem_of_getElem? (i := 26) rfl) rfl
theorem wd880 : Jvm.Cond.methodLink "ToldTracks$Formula" (40 : Nat) ({ cls := "java/lang/Math", name := "max", desc := "(JJ)J" } : Jvm.MethodName) ∈ am_ws := am_m4 (List.mem_of_getElem? (i := 27) rfl) rfl
theorem wd881 : Jvm.Cond.static ({ cls := "java/lang/Math", name := "max", desc := "(JJ)J" } : Jvm.MethodName) ∈ am_ws := am_m4 (List.mem_of_getElem? (i := 28) rfl) rfl
theorem wd882 : Jvm.Cond.code ({ cls := "java/lang/Math", name := "max", desc := "(JJ)J" } : Jvm.MethodName) prog_15_method_66_code (4 : Nat) (Option.some Jvm.ClassFile.FieldType.long) ∈ am_ws := am_m4 (List.mem_of_getElem? (i := 29) rfl) rfl
theorem wd883 : Jvm.Cond.constantLong "ToldTracks$Formula" (30 : Nat) (-1000000 : Int64) ∈ am_ws := am_m4 (List.mem_of_getElem? (i := 30) rfl) rfl
theorem wd884 : Jvm.Cond.constantLong "ToldTracks$Formula" (32 : Nat) (1000000 : Int64) ∈ am_ws := am_m4 (List.mem_of_getElem? (i := 31) rfl) rfl
theorem wd885 : Jvm.Cond.methodLink "ToldTracks$Rules" (39 : Nat) ({ cls := "java/lang/Math", name := "min", desc := "(II)I" } : Jvm.MethodName) ∈ am_ws := am_m4 (List.mem_of_getElem? (i := 32) rfl) rfl
theorem wd886 : Jvm.Cond.methodLink "ToldTracks$Rules" (45 : Nat) ({ cls := "java/lang/Math", name := "max", desc := "(II)I" } : Jvm.MethodName) ∈ am_ws := am_m4 (List.mem_of_getElem? (i := 33) rfl) rfl
theorem wd887 : Jvm.Cond.static ({ cls := "java/lang/Math", name := "max", desc := "(II)I" } : Jvm.MethodName) ∈ am_ws := am_m4 (List.mem_of_getElem? (i := 34) rfl) rfl
theorem wd888 : Jvm.Cond.code ({ cls := "java/lang/Math", name := "max", desc := "(II)I" } : Jvm.MethodName) prog_15_method_65_code (2 : Nat) (Option.some Jvm.ClassFile.FieldType.int) ∈ am_ws := am_m4 (List.mem_of_getElem? (i := 35) rfl) rfl
theorem wd889 : Jvm.Cond.methodLink "ToldTracks" (108 : Nat) ({ cls := "ToldTracks$Track", name := "begin", desc := "(LToldTracks$Sea;LToldTracks$Ship;)V" } : Jvm.MethodName) ∈ am_ws := am_m4 (List.mem_of_getElem? (i := 36) rfl) rfl
theorem wd890 : Jvm.Cond.instanceMethod ({ cls := "ToldTracks$Track", name := "begin", desc := "(LToldTracks$Sea;LToldTracks$Ship;)V" } : Jvm.MethodName) ∈ am_ws := am_m4 (List.mem_of_getElem? (i := 37) rfl) rfl
theorem wd891 : Jvm.Cond.selects "ToldTracks$Track" ({ cls := "ToldTracks$Track", name := "begin", desc := "(LToldTracks$Sea;LToldTracks$Ship;)V" } : Jvm.MethodName) ({ cls := "ToldTracks$Track", name := "begin", desc := "(LToldTracks$Sea;LToldTracks$Ship;)V" } : Jvm.MethodName) ∈ am_ws := am_m4 (List.mem_of_getElem? (i := 38) rfl) rfl
theorem wd892 : Jvm.Cond.code ({ cls := "ToldTracks$Track", name := "begin", desc := "(LToldTracks$Sea;LToldTracks$Ship;)V" } : Jvm.MethodName) prog_10_method_2_code (3 : Nat) (Option.none : Option Jvm.ClassFile.FieldType) ∈ am_ws := am_m4 (List.mem_of_getElem? (i := 39) rfl) rfl
theorem wd893 : Jvm.Cond.methodLink "ToldTracks$Track" (51 : Nat) ({ cls := "ToldTracks$Waters", name := "begin", desc := "(LToldTracks$Sea;LToldTracks$Ship;)V" } : Jvm.MethodName) ∈ am_ws := am_m4 (List.mem_of_getElem? (i := 40) rfl) rfl
theorem wd894 : Jvm.Cond.instanceMethod ({ cls := "ToldTracks$Waters", name := "begin", desc := "(LToldTracks$Sea;LToldTracks$Ship;)V" } : Jvm.MethodName) ∈ am_ws := am_m4 (List.mem_of_getElem? (i := 41) rfl) rfl
theorem wd895 : Jvm.Cond.selects "ToldTracks$Waters" ({ cls := "ToldTracks$Waters", name := "begin", desc := "(LToldTracks$Sea;LToldTracks$Ship;)V" } : Jvm.MethodName) ({ cls := "ToldTracks$Waters", name := "begin", desc := "(LToldTracks$Sea;LToldTracks$Ship;)V" } : Jvm.MethodName) ∈ am_ws := am_m4 (List.mem_of_getElem? (i := 42) rfl) rfl
theorem wd896 : Jvm.Cond.code ({ cls := "ToldTracks$Waters", name := "begin", desc := "(LToldTracks$Sea;LToldTracks$Ship;)V" } : Jvm.MethodName) prog_11_method_2_code (4 : Nat) (Option.none : Option Jvm.ClassFile.FieldType) ∈ am_ws := am_m4 (List.mem_of_getElem? (i := 43) rfl) rfl
theorem wd897 : Jvm.Cond.methodLink "ToldTracks$Waters" (34 : Nat) ({ cls := "java/lang/Math", name := "max", desc := "(II)I" } : Jvm.MethodName) ∈ am_ws := am_m4 (List.mem_of_getElem? (i := 44) rfl) rfl
theorem wd898 : Jvm.Cond.methodLink "ToldTracks$Waters" (40 : Nat) ({ cls := "java/util/Arrays", name := "fill", desc := "([JJ)V" } : Jvm.MethodName) ∈ am_ws := am_m4 (List.mem_of_getElem? (i := 45) rfl) rfl
theorem wd899 : Jvm.Cond.methodLink "ToldTracks$Track" (59 : Nat) ({ cls := "ToldTracks$Track", name := "forget", desc := "()V" } : Jvm.MethodName) ∈ am_ws := am_m4 (List.mem_of_getElem? (i := 46) rfl) rfl
theorem wd900 : Jvm.Cond.instanceMethod ({ cls := "ToldTracks$Track", name := "forget", desc := "()V" } : Jvm.MethodName) ∈ am_ws := am_m4 (List.mem_of_getElem? (i := 47) rfl) rfl
theorem wd901 : Jvm.Cond.selects "ToldTracks$Track" ({ cls := "ToldTracks$Track", name := "forget", desc := "()V" } : Jvm.MethodName) ({ cls := "ToldTracks$Track", name := "forget", desc := "()V" } : Jvm.MethodName) ∈ am_ws := am_m4 (List.mem_of_getElem? (i := 48) rfl) rfl
theorem wd902 : Jvm.Cond.code ({ cls := "ToldTracks$Track", name := "forget", desc := "()V" } : Jvm.MethodName) prog_10_method_3_code (1 : Nat) (Option.none : Option Jvm.ClassFile.FieldType) ∈ am_ws := am_m4 (List.mem_of_getElem? (i := 49) rfl) rfl
theorem wd903 : Jvm.Cond.methodLink "ToldTracksLaw" (28 : Nat) ({ cls := "ToldTracks", name := "fault", desc := "(I)I" } : Jvm.MethodName) ∈ am_ws := am_m4 (List.mem_of_getElem? (i := 50) rfl) rfl
theorem wd904 : Jvm.Cond.instanceMethod ({ cls := "ToldTracks", name := "fault", desc := "(I)I" } : Jvm.MethodName) ∈ am_ws := am_m4 (List.mem_of_getElem? (i := 51) rfl) rfl
theorem wd905 : Jvm.Cond.selects "ToldTracks" ({ cls := "ToldTracks", name := "fault", desc := "(I)I" } : Jvm.MethodName) ({ cls := "ToldTracks", name := "fault", desc := "(I)I" } : Jvm.MethodName) ∈ am_ws := am_m4 (List.mem_of_getElem? (i := 52) rfl) rfl
theorem wd906 : Jvm.Cond.code ({ cls := "ToldTracks", name := "fault", desc := "(I)I" } : Jvm.MethodName) prog_1_method_5_code (2 : Nat) (Option.some Jvm.ClassFile.FieldType.int) ∈ am_ws := am_m4 (List.mem_of_getElem? (i := 53) rfl) rfl
theorem wd907 : Jvm.Cond.methodLink "ToldTracksLaw" (33 : Nat) ({ cls := "ToldTracks", name := "has", desc := "(I)I" } : Jvm.MethodName) ∈ am_ws := am_m4 (List.mem_of_getElem? (i := 54) rfl) rfl
theorem wd908 : Jvm.Cond.instanceMethod ({ cls := "ToldTracks", name := "has", desc := "(I)I" } : Jvm.MethodName) ∈ am_ws := am_m4 (List.mem_of_getElem? (i := 55) rfl) rfl
theorem wd909 : Jvm.Cond.selects "ToldTracks" ({ cls := "ToldTracks", name := "has", desc := "(I)I" } : Jvm.MethodName) ({ cls := "ToldTracks", name := "has", desc := "(I)I" } : Jvm.MethodName) ∈ am_ws := am_m4 (List.mem_of_getElem? (i := 56) rfl) rfl
theorem wd910 : Jvm.Cond.code ({ cls := "ToldTracks", name := "has", desc := "(I)I" } : Jvm.MethodName) prog_1_method_6_code (2 : Nat) (Option.some Jvm.ClassFile.FieldType.int) ∈ am_ws := am_m4 (List.mem_of_getElem? (i := 57) rfl) rfl
theorem wd911 : Jvm.Cond.methodLink "ToldTracks" (121 : Nat) ({ cls := "ToldTracks$Sea", name := "countSayings", desc := "()I" } : Jvm.MethodName) ∈ am_ws := am_m4 (List.mem_of_getElem? (i := 58) rfl) rfl
theorem wd912 : Jvm.Cond.methodLink "ToldTracks" (125 : Nat) ({ cls := "ToldTracks$Sea", name := "countBooks", desc := "()I" } : Jvm.MethodName) ∈ am_ws := am_m4 (List.mem_of_getElem? (i := 59) rfl) rfl
theorem wd913 : Jvm.Cond.methodLink "ToldTracks" (140 : Nat) ({ cls := "ToldTracks$Sea", name := "countSayers", desc := "()I" } : Jvm.MethodName) ∈ am_ws := am_m4 (List.mem_of_getElem? (i := 60) rfl) rfl
theorem wd914 : Jvm.Cond.instanceMethod ({ cls := "ToldTracks$Sea", name := "countSayers", desc := "()I" } : Jvm.MethodName) ∈ am_ws := am_m4 (List.mem_of_getElem? (i := 61) rfl) rfl
theorem wd915 : Jvm.Cond.selects "ToldTracks$Sea" ({ cls := "ToldTracks$Sea", name := "countSayers", desc := "()I" } : Jvm.MethodName) ({ cls := "ToldTracks$Sea", name := "countSayers", desc := "()I" } : Jvm.MethodName) ∈ am_ws := am_m4 (List.mem_of_getElem? (i := 62) rfl) rfl
theorem wd916 : Jvm.Cond.code ({ cls := "ToldTracks$Sea", name := "countSayers", desc := "()I" } : Jvm.MethodName) prog_7_method_10_code (3 : Nat) (Option.some Jvm.ClassFile.FieldType.int) ∈ am_ws := am_m4 (List.mem_of_getElem? (i := 63) rfl) rfl
theorem wd917 : Jvm.Cond.methodLink "ToldTracksLaw" (37 : Nat) ({ cls := "ToldTracks", name := "letter", desc := "(II)I" } : Jvm.MethodName) ∈ am_ws := am_m4 (List.mem_of_getElem? (i := 64) rfl) rfl
theorem wd918 : Jvm.Cond.instanceMethod ({ cls := "ToldTracks", name := "letter", desc := "(II)I" } : Jvm.MethodName) ∈ am_ws := am_m4 (List.mem_of_getElem? (i := 65) rfl) rfl
theorem wd919 : Jvm.Cond.selects "ToldTracks" ({ cls := "ToldTracks", name := "letter", desc := "(II)I" } : Jvm.MethodName) ({ cls := "ToldTracks", name := "letter", desc := "(II)I" } : Jvm.MethodName) ∈ am_ws := am_m4 (List.mem_of_getElem? (i := 66) rfl) rfl
theorem wd920 : Jvm.Cond.code ({ cls := "ToldTracks", name := "letter", desc := "(II)I" } : Jvm.MethodName) prog_1_method_7_code (4 : Nat) (Option.some Jvm.ClassFile.FieldType.int) ∈ am_ws := am_m4 (List.mem_of_getElem? (i := 67) rfl) rfl
theorem wd921 : Jvm.Cond.methodLink "ToldTracks" (143 : Nat) ({ cls := "ToldTracks", name := "isShip", desc := "(I)Z" } : Jvm.MethodName) ∈ am_ws := am_m4 (List.mem_of_getElem? (i := 68) rfl) rfl
theorem wd923 : Jvm.Cond.instanceMethod ({ cls := "ToldTracks", name := "isShip", desc := "(I)Z" } : Jvm.MethodName) ∈ am_ws := am_m4 (List.mem_of_getElem? (i := 70) rfl) rfl
theorem wd924 : Jvm.Cond.code ({ cls := "ToldTracks", name := "isShip", desc := "(I)Z" } : Jvm.MethodName) prog_1_method_43_code (2 : Nat) (Option.some Jvm.ClassFile.FieldType.boolean) ∈ am_ws := am_m4 (List.mem_of_getElem? (i := 71) rfl) rfl
theorem wd925 : Jvm.Cond.methodLink "ToldTracksLaw" (42 : Nat) ({ cls := "ToldTracks", name := "ship", desc := "(II)I" } : Jvm.MethodName) ∈ am_ws := am_m4 (List.mem_of_getElem? (i := 72) rfl) rfl
theorem wd926 : Jvm.Cond.instanceMethod ({ cls := "ToldTracks", name := "ship", desc := "(II)I" } : Jvm.MethodName) ∈ am_ws := am_m4 (List.mem_of_getElem? (i := 73) rfl) rfl
theorem wd927 : Jvm.Cond.selects "ToldTracks" ({ cls := "ToldTracks", name := "ship", desc := "(II)I" } : Jvm.MethodName) ({ cls := "ToldTracks", name := "ship", desc := "(II)I" } : Jvm.MethodName) ∈ am_ws := am_m4 (List.mem_of_getElem? (i := 74) rfl) rfl
theorem wd928 : Jvm.Cond.code ({ cls := "ToldTracks", name := "ship", desc := "(II)I" } : Jvm.MethodName) prog_1_method_8_code (4 : Nat) (Option.some Jvm.ClassFile.FieldType.int) ∈ am_ws := am_m4 (List.mem_of_getElem? (i := 75) rfl) rfl
theorem wd929 : Jvm.Cond.methodLink "ToldTracks" (165 : Nat) ({ cls := "ToldTracks", name := "settled", desc := "(I)LToldTracks$Track;" } : Jvm.MethodName) ∈ am_ws := am_m4 (List.mem_of_getElem? (i := 76) rfl) rfl
theorem wd931 : Jvm.Cond.instanceMethod ({ cls := "ToldTracks", name := "settled", desc := "(I)LToldTracks$Track;" } : Jvm.MethodName) ∈ am_ws := am_m4 (List.mem_of_getElem? (i := 78) rfl) rfl
theorem wd932 : Jvm.Cond.code ({ cls := "ToldTracks", name := "settled", desc := "(I)LToldTracks$Track;" } : Jvm.MethodName) prog_1_method_47_code (2 : Nat) (Option.some (Jvm.ClassFile.FieldType.object "ToldTracks$Track")) ∈ am_ws := am_m4 (List.mem_of_getElem? (i := 79) rfl) rfl
theorem wd933 : Jvm.Cond.methodLink "ToldTracks" (347 : Nat) ({ cls := "ToldTracks$Track", name := "settle", desc := "()V" } : Jvm.MethodName) ∈ am_ws := am_m4 (List.mem_of_getElem? (i := 80) rfl) rfl
theorem wd934 : Jvm.Cond.instanceMethod ({ cls := "ToldTracks$Track", name := "settle", desc := "()V" } : Jvm.MethodName) ∈ am_ws := am_m4 (List.mem_of_getElem? (i := 81) rfl) rfl
theorem wd935 : Jvm.Cond.selects "ToldTracks$Track" ({ cls := "ToldTracks$Track", name := "settle", desc := "()V" } : Jvm.MethodName) ({ cls := "ToldTracks$Track", name := "settle", desc := "()V" } : Jvm.MethodName) ∈ am_ws := am_m4 (List.mem_of_getElem? (i := 82) rfl) rfl
theorem wd936 : Jvm.Cond.code ({ cls := "ToldTracks$Track", name := "settle", desc := "()V" } : Jvm.MethodName) prog_10_method_12_code (1 : Nat) (Option.none : Option Jvm.ClassFile.FieldType) ∈ am_ws := am_m4 (List.mem_of_getElem? (i := 83) rfl) rfl
theorem wd937 : Jvm.Cond.methodLink "ToldTracks$Track" (131 : Nat) ({ cls := "ToldTracks$Track", name := "layBooks", desc := "()Z" } : Jvm.MethodName) ∈ am_ws := am_m4 (List.mem_of_getElem? (i := 84) rfl) rfl
theorem wd939 : Jvm.Cond.instanceMethod ({ cls := "ToldTracks$Track", name := "layBooks", desc := "()Z" } : Jvm.MethodName) ∈ am_ws := am_m4 (List.mem_of_getElem? (i := 86) rfl) rfl
theorem wd940 : Jvm.Cond.code ({ cls := "ToldTracks$Track", name := "layBooks", desc := "()Z" } : Jvm.MethodName) prog_10_method_6_code (3 : Nat) (Option.some Jvm.ClassFile.FieldType.boolean) ∈ am_ws := am_m4 (List.mem_of_getElem? (i := 87) rfl) rfl
theorem wd941 : Jvm.Cond.methodLink "ToldTracks$Track" (98 : Nat) ({ cls := "ToldTracks$Line", name := "clear", desc := "()V" } : Jvm.MethodName) ∈ am_ws := am_m4 (List.mem_of_getElem? (i := 88) rfl) rfl
theorem wd942 : Jvm.Cond.instanceMethod ({ cls := "ToldTracks$Line", name := "clear", desc := "()V" } : Jvm.MethodName) ∈ am_ws := am_m4 (List.mem_of_getElem? (i := 89) rfl) rfl
theorem wd943 : Jvm.Cond.selects "ToldTracks$Line" ({ cls := "ToldTracks$Line", name := "clear", desc := "()V" } : Jvm.MethodName) ({ cls := "ToldTracks$Line", name := "clear", desc := "()V" } : Jvm.MethodName) ∈ am_ws := am_m4 (List.mem_of_getElem? (i := 90) rfl) rfl
theorem wd944 : Jvm.Cond.code ({ cls := "ToldTracks$Line", name := "clear", desc := "()V" } : Jvm.MethodName) prog_3_method_2_code (1 : Nat) (Option.none : Option Jvm.ClassFile.FieldType) ∈ am_ws := am_m4 (List.mem_of_getElem? (i := 91) rfl) rfl
theorem wd945 : Jvm.Cond.methodLink "ToldTracks$Line" (15 : Nat) ({ cls := "java/util/Arrays", name := "fill", desc := "([II)V" } : Jvm.MethodName) ∈ am_ws := am_m4 (List.mem_of_getElem? (i := 92) rfl) rfl
theorem wd946 : Jvm.Cond.methodLink "ToldTracks$Track" (113 : Nat) ({ cls := "ToldTracks$Line", name := "put", desc := "(II)Z" } : Jvm.MethodName) ∈ am_ws := am_m4 (List.mem_of_getElem? (i := 93) rfl) rfl
theorem wd947 : Jvm.Cond.instanceMethod ({ cls := "ToldTracks$Line", name := "put", desc := "(II)Z" } : Jvm.MethodName) ∈ am_ws := am_m4 (List.mem_of_getElem? (i := 94) rfl) rfl
theorem wd948 : Jvm.Cond.selects "ToldTracks$Line" ({ cls := "ToldTracks$Line", name := "put", desc := "(II)Z" } : Jvm.MethodName) ({ cls := "ToldTracks$Line", name := "put", desc := "(II)Z" } : Jvm.MethodName) ∈ am_ws := am_m4 (List.mem_of_getElem? (i := 95) rfl) rfl
theorem wd949 : Jvm.Cond.code ({ cls := "ToldTracks$Line", name := "put", desc := "(II)Z" } : Jvm.MethodName) prog_3_method_3_code (3 : Nat) (Option.some Jvm.ClassFile.FieldType.boolean) ∈ am_ws := am_m4 (List.mem_of_getElem? (i := 96) rfl) rfl
theorem wd950 : Jvm.Cond.methodLink "ToldTracks$Track" (139 : Nat) ({ cls := "ToldTracks$Line", name := "holds", desc := "(LToldTracks$Waters;)Z" } : Jvm.MethodName) ∈ am_ws := am_m4 (List.mem_of_getElem? (i := 97) rfl) rfl
theorem wd951 : Jvm.Cond.instanceMethod ({ cls := "ToldTracks$Line", name := "holds", desc := "(LToldTracks$Waters;)Z" } : Jvm.MethodName) ∈ am_ws := am_m4 (List.mem_of_getElem? (i := 98) rfl) rfl
theorem wd952 : Jvm.Cond.selects "ToldTracks$Line" ({ cls := "ToldTracks$Line", name := "holds", desc := "(LToldTracks$Waters;)Z" } : Jvm.MethodName) ({ cls := "ToldTracks$Line", name := "holds", desc := "(LToldTracks$Waters;)Z" } : Jvm.MethodName) ∈ am_ws := am_m4 (List.mem_of_getElem? (i := 99) rfl) rfl
theorem wd953 : Jvm.Cond.code ({ cls := "ToldTracks$Line", name := "holds", desc := "(LToldTracks$Waters;)Z" } : Jvm.MethodName) prog_3_method_4_code (5 : Nat) (Option.some Jvm.ClassFile.FieldType.boolean) ∈ am_ws := am_m4 (List.mem_of_getElem? (i := 100) rfl) rfl
theorem wd954 : Jvm.Cond.methodLink "ToldTracks$Line" (21 : Nat) ({ cls := "ToldTracks$Waters", name := "isWater", desc := "(I)Z" } : Jvm.MethodName) ∈ am_ws := am_m4 (List.mem_of_getElem? (i := 101) rfl) rfl
theorem wd955 : Jvm.Cond.instanceMethod ({ cls := "ToldTracks$Waters", name := "isWater", desc := "(I)Z" } : Jvm.MethodName) ∈ am_ws := am_m4 (List.mem_of_getElem? (i := 102) rfl) rfl
theorem wd956 : Jvm.Cond.selects "ToldTracks$Waters" ({ cls := "ToldTracks$Waters", name := "isWater", desc := "(I)Z" } : Jvm.MethodName) ({ cls := "ToldTracks$Waters", name := "isWater", desc := "(I)Z" } : Jvm.MethodName) ∈ am_ws := am_m4 (List.mem_of_getElem? (i := 103) rfl) rfl
theorem wd957 : Jvm.Cond.code ({ cls := "ToldTracks$Waters", name := "isWater", desc := "(I)Z" } : Jvm.MethodName) prog_11_method_3_code (2 : Nat) (Option.some Jvm.ClassFile.FieldType.boolean) ∈ am_ws := am_m4 (List.mem_of_getElem? (i := 104) rfl) rfl
theorem wd958 : Jvm.Cond.methodLink "ToldTracks$Line" (27 : Nat) ({ cls := "ToldTracks$Waters", name := "isWithin", desc := "(III)Z" } : Jvm.MethodName) ∈ am_ws := am_m4 (List.mem_of_getElem? (i := 105) rfl) rfl
theorem wd959 : Jvm.Cond.instanceMethod ({ cls := "ToldTracks$Waters", name := "isWithin", desc := "(III)Z" } : Jvm.MethodName) ∈ am_ws := am_m4 (List.mem_of_getElem? (i := 106) rfl) rfl
theorem wd960 : Jvm.Cond.selects "ToldTracks$Waters" ({ cls := "ToldTracks$Waters", name := "isWithin", desc := "(III)Z" } : Jvm.MethodName) ({ cls := "ToldTracks$Waters", name := "isWithin", desc := "(III)Z" } : Jvm.MethodName) ∈ am_ws := am_m4 (List.mem_of_getElem? (i := 107) rfl) rfl
theorem wd961 : Jvm.Cond.code ({ cls := "ToldTracks$Waters", name := "isWithin", desc := "(III)Z" } : Jvm.MethodName) prog_11_method_4_code (4 : Nat) (Option.some Jvm.ClassFile.FieldType.boolean) ∈ am_ws := am_m4 (List.mem_of_getElem? (i := 108) rfl) rfl
theorem wd962 : Jvm.Cond.methodLink "ToldTracks$Waters" (55 : Nat) ({ cls := "ToldTracks$Waters", name := "ringsOf", desc := "(I)[J" } : Jvm.MethodName) ∈ am_ws := am_m4 (List.mem_of_getElem? (i := 109) rfl) rfl
theorem wd963 : Jvm.Cond.instanceMethod ({ cls := "ToldTracks$Waters", name := "ringsOf", desc := "(I)[J" } : Jvm.MethodName) ∈ am_ws := am_m4 (List.mem_of_getElem? (i := 110) rfl) rfl
theorem wd964 : Jvm.Cond.selects "ToldTracks$Waters" ({ cls := "ToldTracks$Waters", name := "ringsOf", desc := "(I)[J" } : Jvm.MethodName) ({ cls := "ToldTracks$Waters", name := "ringsOf", desc := "(I)[J" } : Jvm.MethodName) ∈ am_ws := am_m4 (List.mem_of_getElem? (i := 111) rfl) rfl
theorem wd965 : Jvm.Cond.code ({ cls := "ToldTracks$Waters", name := "ringsOf", desc := "(I)[J" } : Jvm.MethodName) prog_11_method_5_code (6 : Nat) (Option.some (Jvm.ClassFile.FieldType.array Jvm.ClassFile.FieldType.long)) ∈ am_ws := am_m4 (List.mem_of_getElem? (i := 112) rfl) rfl
theorem wd966 : Jvm.Cond.methodLink "ToldTracks$Waters" (59 : Nat) ({ cls := "java/lang/System", name := "arraycopy", desc := "(Ljava/lang/Object;ILjava/lang/Object;II)V" } : Jvm.MethodName) ∈ am_ws := am_m4 (List.mem_of_getElem? (i := 113) rfl) rfl
theorem wd967 : Jvm.Cond.static ({ cls := "java/lang/System", name := "arraycopy", desc := "(Ljava/lang/Object;ILjava/lang/Object;II)V" } : Jvm.MethodName) ∈ am_ws := am_m4 (List.mem_of_getElem? (i := 114) rfl) rfl
theorem wd968 : Jvm.Cond.native ({ cls := "java/lang/System", name := "arraycopy", desc := "(Ljava/lang/Object;ILjava/lang/Object;II)V" } : Jvm.MethodName) ∈ am_ws := am_m4 (List.mem_of_getElem? (i := 115) rfl) rfl
theorem wd969 : Jvm.Cond.methodLink "ToldTracks$Waters" (65 : Nat) ({ cls := "ToldTracks$Waters", name := "widen", desc := "([JI)Z" } : Jvm.MethodName) ∈ am_ws := am_m4 (List.mem_of_getElem? (i := 116) rfl) rfl
theorem wd971 : Jvm.Cond.instanceMethod ({ cls := "ToldTracks$Waters", name := "widen", desc := "([JI)Z" } : Jvm.MethodName) ∈ am_ws := am_m4 (List.mem_of_getElem? (i := 118) rfl) rfl
theorem wd972 : Jvm.Cond.code ({ cls := "ToldTracks$Waters", name := "widen", desc := "([JI)Z" } : Jvm.MethodName) prog_11_method_6_code (17 : Nat) (Option.some Jvm.ClassFile.FieldType.boolean) ∈ am_ws := am_m4 (List.mem_of_getElem? (i := 119) rfl) rfl
theorem wd973 : Jvm.Cond.constantLong "ToldTracks$Waters" (69 : Nat) (-281479271743490 : Int64) ∈ am_ws := am_m4 (List.mem_of_getElem? (i := 120) rfl) rfl
theorem wd974 : Jvm.Cond.constantLong "ToldTracks$Waters" (71 : Nat) (9223231297218904063 : Int64) ∈ am_ws := am_m4 (List.mem_of_getElem? (i := 121) rfl) rfl
theorem wd975 : Jvm.Cond.methodLink "ToldTracks$Track" (153 : Nat) ({ cls := "ToldTracks$Track", name := "markAlone", desc := "()V" } : Jvm.MethodName) ∈ am_ws := am_m4 (List.mem_of_getElem? (i := 122) rfl) rfl
theorem wd977 : Jvm.Cond.instanceMethod ({ cls := "ToldTracks$Track", name := "markAlone", desc := "()V" } : Jvm.MethodName) ∈ am_ws := am_m4 (List.mem_of_getElem? (i := 124) rfl) rfl
theorem wd978 : Jvm.Cond.code ({ cls := "ToldTracks$Track", name := "markAlone", desc := "()V" } : Jvm.MethodName) prog_10_method_13_code (5 : Nat) (Option.none : Option Jvm.ClassFile.FieldType) ∈ am_ws := am_m4 (List.mem_of_getElem? (i := 125) rfl) rfl
theorem wd979 : Jvm.Cond.methodLink "ToldTracks$Track" (127 : Nat) ({ cls := "ToldTracks$Track", name := "isSound", desc := "(IZ)Z" } : Jvm.MethodName) ∈ am_ws := am_m4 (List.mem_of_getElem? (i := 126) rfl) rfl
theorem wd980 : Jvm.Cond.instanceMethod ({ cls := "ToldTracks$Track", name := "isSound", desc := "(IZ)Z" } : Jvm.MethodName) ∈ am_ws := am_m4 (List.mem_of_getElem? (i := 127) rfl) rfl
theorem wd981 : Jvm.Cond.selects "ToldTracks$Track" ({ cls := "ToldTracks$Track", name := "isSound", desc := "(IZ)Z" } : Jvm.MethodName) ({ cls := "ToldTracks$Track", name := "isSound", desc := "(IZ)Z" } : Jvm.MethodName) ∈ am_ws := am_m4 (List.mem_of_getElem? (i := 128) rfl) rfl
theorem wd982 : Jvm.Cond.code ({ cls := "ToldTracks$Track", name := "isSound", desc := "(IZ)Z" } : Jvm.MethodName) prog_10_method_4_code (3 : Nat) (Option.some Jvm.ClassFile.FieldType.boolean) ∈ am_ws := am_m4 (List.mem_of_getElem? (i := 129) rfl) rfl
theorem wd983 : Jvm.Cond.methodLink "ToldTracks$Track" (176 : Nat) ({ cls := "ToldTracks$Ship", name := "hoursToBook", desc := "(II)I" } : Jvm.MethodName) ∈ am_ws := am_m4 (List.mem_of_getElem? (i := 130) rfl) rfl
theorem wd984 : Jvm.Cond.instanceMethod ({ cls := "ToldTracks$Ship", name := "hoursToBook", desc := "(II)I" } : Jvm.MethodName) ∈ am_ws := am_m4 (List.mem_of_getElem? (i := 131) rfl) rfl
theorem wd985 : Jvm.Cond.selects "ToldTracks$Ship" ({ cls := "ToldTracks$Ship", name := "hoursToBook", desc := "(II)I" } : Jvm.MethodName) ({ cls := "ToldTracks$Ship", name := "hoursToBook", desc := "(II)I" } : Jvm.MethodName) ∈ am_ws := am_m4 (List.mem_of_getElem? (i := 132) rfl) rfl
theorem wd986 : Jvm.Cond.code ({ cls := "ToldTracks$Ship", name := "hoursToBook", desc := "(II)I" } : Jvm.MethodName) prog_8_method_6_code (3 : Nat) (Option.some Jvm.ClassFile.FieldType.int) ∈ am_ws := am_m4 (List.mem_of_getElem? (i := 133) rfl) rfl
theorem wd987 : Jvm.Cond.methodLink "ToldTracks$Track" (94 : Nat) ({ cls := "ToldTracks$Waters", name := "isWithin", desc := "(III)Z" } : Jvm.MethodName) ∈ am_ws := am_m4 (List.mem_of_getElem? (i := 134) rfl) rfl
theorem wd988 : Jvm.Cond.methodLink "ToldTracks$Track" (159 : Nat) ({ cls := "java/util/Arrays", name := "fill", desc := "([JJ)V" } : Jvm.MethodName) ∈ am_ws := am_m4 (List.mem_of_getElem? (i := 135) rfl) rfl
theorem wd989 : Jvm.Cond.methodLink "ToldTracks$Track" (165 : Nat) ({ cls := "ToldTracks$Track", name := "countChains", desc := "()I" } : Jvm.MethodName) ∈ am_ws := am_m4 (List.mem_of_getElem? (i := 136) rfl) rfl
theorem wd991 : Jvm.Cond.instanceMethod ({ cls := "ToldTracks$Track", name := "countChains", desc := "()I" } : Jvm.MethodName) ∈ am_ws := am_m4 (List.mem_of_getElem? (i := 138) rfl) rfl
theorem wd992 : Jvm.Cond.code ({ cls := "ToldTracks$Track", name := "countChains", desc := "()I" } : Jvm.MethodName) prog_10_method_14_code (6 : Nat) (Option.some Jvm.ClassFile.FieldType.int) ∈ am_ws := am_m4 (List.mem_of_getElem? (i := 139) rfl) rfl
theorem wd993 : Jvm.Cond.methodLink "ToldTracks$Track" (180 : Nat) ({ cls := "ToldTracks$Waters", name := "ringsOf", desc := "(I)[J" } : Jvm.MethodName) ∈ am_ws := am_m4 (List.mem_of_getElem? (i := 140) rfl) rfl
theorem wd994 : Jvm.Cond.methodLink "ToldTracks$Track" (184 : Nat) ({ cls := "java/lang/Math", name := "max", desc := "(II)I" } : Jvm.MethodName) ∈ am_ws := am_m4 (List.mem_of_getElem? (i := 141) rfl) rfl
theorem wd995 : Jvm.Cond.methodLink "ToldTracks$Track" (169 : Nat) ({ cls := "ToldTracks$Track", name := "keep", desc := "(I)V" } : Jvm.MethodName) ∈ am_ws := am_m4 (List.mem_of_getElem? (i := 142) rfl) rfl
theorem wd997 : Jvm.Cond.instanceMethod ({ cls := "ToldTracks$Track", name := "keep", desc := "(I)V" } : Jvm.MethodName) ∈ am_ws := am_m4 (List.mem_of_getElem? (i := 144) rfl) rfl
theorem wd998 : Jvm.Cond.code ({ cls := "ToldTracks$Track", name := "keep", desc := "(I)V" } : Jvm.MethodName) prog_10_method_15_code (4 : Nat) (Option.none : Option Jvm.ClassFile.FieldType) ∈ am_ws := am_m4 (List.mem_of_getElem? (i := 145) rfl) rfl
theorem wd999 : Jvm.Cond.methodLink "ToldTracks$Track" (173 : Nat) ({ cls := "ToldTracks$Track", name := "findMay", desc := "()V" } : Jvm.MethodName) ∈ am_ws := am_m4 (List.mem_of_getElem? (i := 146) rfl) rfl
theorem wd1001 : Jvm.Cond.instanceMethod ({ cls := "ToldTracks$Track", name := "findMay", desc := "()V" } : Jvm.MethodName) ∈ am_ws := am_m4 (List.mem_of_getElem? (i := 148) rfl) rfl
theorem wd1002 : Jvm.Cond.code ({ cls := "ToldTracks$Track", name := "findMay", desc := "()V" } : Jvm.MethodName) prog_10_method_16_code (5 : Nat) (Option.none : Option Jvm.ClassFile.FieldType) ∈ am_ws := am_m4 (List.mem_of_getElem? (i := 149) rfl) rfl
theorem wd1003 : Jvm.Cond.methodLink "ToldTracks$Track" (191 : Nat) ({ cls := "java/lang/System", name := "arraycopy", desc := "(Ljava/lang/Object;ILjava/lang/Object;II)V" } : Jvm.MethodName) ∈ am_ws := am_m4 (List.mem_of_getElem? (i := 150) rfl) rfl
theorem wd1004 : Jvm.Cond.methodLink "ToldTracks" (178 : Nat) ({ cls := "ToldTracks", name := "bit", desc := "(Z)I" } : Jvm.MethodName) ∈ am_ws := am_m4 (List.mem_of_getElem? (i := 151) rfl) rfl
theorem wd1005 : Jvm.Cond.static ({ cls := "ToldTracks", name := "bit", desc := "(Z)I" } : Jvm.MethodName) ∈ am_ws := am_m4 (List.mem_of_getElem? (i := 152) rfl) rfl
theorem wd1006 : Jvm.Cond.code ({ cls := "ToldTracks", name := "bit", desc := "(Z)I" } : Jvm.MethodName) prog_1_method_41_code (1 : Nat) (Option.some Jvm.ClassFile.FieldType.int) ∈ am_ws := am_m4 (List.mem_of_getElem? (i := 153) rfl) rfl
theorem wd1007 : Jvm.Cond.methodLink "ToldTracksLaw" (46 : Nat) ({ cls := "ToldTracks", name := "saying", desc := "(III)I" } : Jvm.MethodName) ∈ am_ws := am_m4 (List.mem_of_getElem? (i := 154) rfl) rfl
theorem wd1008 : Jvm.Cond.instanceMethod ({ cls := "ToldTracks", name := "saying", desc := "(III)I" } : Jvm.MethodName) ∈ am_ws := am_m4 (List.mem_of_getElem? (i := 155) rfl) rfl
theorem wd1009 : Jvm.Cond.selects "ToldTracks" ({ cls := "ToldTracks", name := "saying", desc := "(III)I" } : Jvm.MethodName) ({ cls := "ToldTracks", name := "saying", desc := "(III)I" } : Jvm.MethodName) ∈ am_ws := am_m4 (List.mem_of_getElem? (i := 156) rfl) rfl
theorem wd1010 : Jvm.Cond.code ({ cls := "ToldTracks", name := "saying", desc := "(III)I" } : Jvm.MethodName) prog_1_method_9_code (5 : Nat) (Option.some Jvm.ClassFile.FieldType.int) ∈ am_ws := am_m4 (List.mem_of_getElem? (i := 157) rfl) rfl
theorem wd1011 : Jvm.Cond.methodLink "ToldTracks" (182 : Nat) ({ cls := "ToldTracks", name := "isSaying", desc := "(II)Z" } : Jvm.MethodName) ∈ am_ws := am_m4 (List.mem_of_getElem? (i := 158) rfl) rfl
theorem wd1013 : Jvm.Cond.instanceMethod ({ cls := "ToldTracks", name := "isSaying", desc := "(II)Z" } : Jvm.MethodName) ∈ am_ws := am_m4 (List.mem_of_getElem? (i := 160) rfl) rfl
theorem wd1014 : Jvm.Cond.code ({ cls := "ToldTracks", name := "isSaying", desc := "(II)Z" } : Jvm.MethodName) prog_1_method_44_code (3 : Nat) (Option.some Jvm.ClassFile.FieldType.boolean) ∈ am_ws := am_m4 (List.mem_of_getElem? (i := 161) rfl) rfl
theorem wd1015 : Jvm.Cond.methodLink "ToldTracks" (192 : Nat) ({ cls := "ToldTracks$Sea", name := "numberOf", desc := "(I)I" } : Jvm.MethodName) ∈ am_ws := am_m4 (List.mem_of_getElem? (i := 162) rfl) rfl
theorem wd1016 : Jvm.Cond.instanceMethod ({ cls := "ToldTracks$Sea", name := "numberOf", desc := "(I)I" } : Jvm.MethodName) ∈ am_ws := am_m4 (List.mem_of_getElem? (i := 163) rfl) rfl
theorem wd1017 : Jvm.Cond.selects "ToldTracks$Sea" ({ cls := "ToldTracks$Sea", name := "numberOf", desc := "(I)I" } : Jvm.MethodName) ({ cls := "ToldTracks$Sea", name := "numberOf", desc := "(I)I" } : Jvm.MethodName) ∈ am_ws := am_m4 (List.mem_of_getElem? (i := 164) rfl) rfl
theorem wd1018 : Jvm.Cond.code ({ cls := "ToldTracks$Sea", name := "numberOf", desc := "(I)I" } : Jvm.MethodName) prog_7_method_8_code (2 : Nat) (Option.some Jvm.ClassFile.FieldType.int) ∈ am_ws := am_m4 (List.mem_of_getElem? (i := 165) rfl) rfl
theorem wd1019 : Jvm.Cond.methodLink "ToldTracks" (200 : Nat) ({ cls := "ToldTracks$Track", name := "isSound", desc := "(IZ)Z" } : Jvm.MethodName) ∈ am_ws := am_m4 (List.mem_of_getElem? (i := 166) rfl) rfl
theorem wd1020 : Jvm.Cond.methodLink "ToldTracksLaw" (51 : Nat) ({ cls := "ToldTracks", name := "cell", desc := "(IIII)I" } : Jvm.MethodName) ∈ am_ws := am_m4 (List.mem_of_getElem? (i := 167) rfl) rfl
theorem wd1021 : Jvm.Cond.instanceMethod ({ cls := "ToldTracks", name := "cell", desc := "(IIII)I" } : Jvm.MethodName) ∈ am_ws := am_m4 (List.mem_of_getElem? (i := 168) rfl) rfl
theorem wd1022 : Jvm.Cond.selects "ToldTracks" ({ cls := "ToldTracks", name := "cell", desc := "(IIII)I" } : Jvm.MethodName) ({ cls := "ToldTracks", name := "cell", desc := "(IIII)I" } : Jvm.MethodName) ∈ am_ws := am_m4 (List.mem_of_getElem? (i := 169) rfl) rfl
theorem wd1023 : Jvm.Cond.code ({ cls := "ToldTracks", name := "cell", desc := "(IIII)I" } : Jvm.MethodName) prog_1_method_10_code (6 : Nat) (Option.some Jvm.ClassFile.FieldType.int) ∈ am_ws := am_m4 (List.mem_of_getElem? (i := 170) rfl) rfl
theorem wd1024 : Jvm.Cond.methodLink "ToldTracks" (207 : Nat) ({ cls := "ToldTracks$Sea", name := "placeAt", desc := "(II)I" } : Jvm.MethodName) ∈ am_ws := am_m4 (List.mem_of_getElem? (i := 171) rfl) rfl
theorem wd1025 : Jvm.Cond.instanceMethod ({ cls := "ToldTracks$Sea", name := "placeAt", desc := "(II)I" } : Jvm.MethodName) ∈ am_ws := am_m4 (List.mem_of_getElem? (i := 172) rfl) rfl
theorem wd1026 : Jvm.Cond.selects "ToldTracks$Sea" ({ cls := "ToldTracks$Sea", name := "placeAt", desc := "(II)I" } : Jvm.MethodName) ({ cls := "ToldTracks$Sea", name := "placeAt", desc := "(II)I" } : Jvm.MethodName) ∈ am_ws := am_m4 (List.mem_of_getElem? (i := 173) rfl) rfl
theorem wd1027 : Jvm.Cond.code ({ cls := "ToldTracks$Sea", name := "placeAt", desc := "(II)I" } : Jvm.MethodName) prog_7_method_6_code (3 : Nat) (Option.some Jvm.ClassFile.FieldType.int) ∈ am_ws := am_m4 (List.mem_of_getElem? (i := 174) rfl) rfl
theorem wd1028 : Jvm.Cond.methodLink "ToldTracks" (211 : Nat) ({ cls := "ToldTracks", name := "isHour", desc := "(I)Z" } : Jvm.MethodName) ∈ am_ws := am_m4 (List.mem_of_getElem? (i := 175) rfl) rfl
theorem wd1029 : Jvm.Cond.static ({ cls := "ToldTracks", name := "isHour", desc := "(I)Z" } : Jvm.MethodName) ∈ am_ws := am_m4 (List.mem_of_getElem? (i := 176) rfl) rfl
theorem wd1030 : Jvm.Cond.code ({ cls := "ToldTracks", name := "isHour", desc := "(I)Z" } : Jvm.MethodName) prog_1_method_42_code (1 : Nat) (Option.some Jvm.ClassFile.FieldType.boolean) ∈ am_ws := am_m4 (List.mem_of_getElem? (i := 177) rfl) rfl
theorem wd1031 : Jvm.Cond.methodLink "ToldTracks" (217 : Nat) ({ cls := "ToldTracks$Sea", name := "costAt", desc := "(I)I" } : Jvm.MethodName) ∈ am_ws := am_m4 (List.mem_of_getElem? (i := 178) rfl) rfl
theorem wd1032 : Jvm.Cond.instanceMethod ({ cls := "ToldTracks$Sea", name := "costAt", desc := "(I)I" } : Jvm.MethodName) ∈ am_ws := am_m4 (List.mem_of_getElem? (i := 179) rfl) rfl
theorem wd1033 : Jvm.Cond.selects "ToldTracks$Sea" ({ cls := "ToldTracks$Sea", name := "costAt", desc := "(I)I" } : Jvm.MethodName) ({ cls := "ToldTracks$Sea", name := "costAt", desc := "(I)I" } : Jvm.MethodName) ∈ am_ws := am_m4 (List.mem_of_getElem? (i := 180) rfl) rfl
theorem wd1034 : Jvm.Cond.code ({ cls := "ToldTracks$Sea", name := "costAt", desc := "(I)I" } : Jvm.MethodName) prog_7_method_4_code (2 : Nat) (Option.some Jvm.ClassFile.FieldType.int) ∈ am_ws := am_m4 (List.mem_of_getElem? (i := 181) rfl) rfl
theorem wd1035 : Jvm.Cond.methodLink "ToldTracks" (220 : Nat) ({ cls := "ToldTracks$Sea", name := "isQuiet", desc := "(II)Z" } : Jvm.MethodName) ∈ am_ws := am_m4 (List.mem_of_getElem? (i := 182) rfl) rfl
theorem wd1036 : Jvm.Cond.instanceMethod ({ cls := "ToldTracks$Sea", name := "isQuiet", desc := "(II)Z" } : Jvm.MethodName) ∈ am_ws := am_m4 (List.mem_of_getElem? (i := 183) rfl) rfl
theorem wd1037 : Jvm.Cond.selects "ToldTracks$Sea" ({ cls := "ToldTracks$Sea", name := "isQuiet", desc := "(II)Z" } : Jvm.MethodName) ({ cls := "ToldTracks$Sea", name := "isQuiet", desc := "(II)Z" } : Jvm.MethodName) ∈ am_ws := am_m4 (List.mem_of_getElem? (i := 184) rfl) rfl
theorem wd1038 : Jvm.Cond.code ({ cls := "ToldTracks$Sea", name := "isQuiet", desc := "(II)Z" } : Jvm.MethodName) prog_7_method_5_code (6 : Nat) (Option.some Jvm.ClassFile.FieldType.boolean) ∈ am_ws := am_m4 (List.mem_of_getElem? (i := 185) rfl) rfl
theorem wd1039 : Jvm.Cond.methodLink "ToldTracks$Sea" (92 : Nat) ({ cls := "ToldTracks$Rules", name := "firstHolding", desc := "(LToldTracks$Formula;III)I" } : Jvm.MethodName) ∈ am_ws := am_m4 (List.mem_of_getElem? (i := 186) rfl) rfl
theorem wd1040 : Jvm.Cond.methodLink "ToldTracksLaw" (56 : Nat) ({ cls := "ToldTracks", name := "far", desc := "(IIIII)I" } : Jvm.MethodName) ∈ am_ws := am_m4 (List.mem_of_getElem? (i := 187) rfl) rfl
theorem wd1041 : Jvm.Cond.instanceMethod ({ cls := "ToldTracks", name := "far", desc := "(IIIII)I" } : Jvm.MethodName) ∈ am_ws := am_m4 (List.mem_of_getElem? (i := 188) rfl) rfl
theorem wd1042 : Jvm.Cond.selects "ToldTracks" ({ cls := "ToldTracks", name := "far", desc := "(IIIII)I" } : Jvm.MethodName) ({ cls := "ToldTracks", name := "far", desc := "(IIIII)I" } : Jvm.MethodName) ∈ am_ws := am_m4 (List.mem_of_getElem? (i := 189) rfl) rfl
theorem wd1043 : Jvm.Cond.code ({ cls := "ToldTracks", name := "far", desc := "(IIIII)I" } : Jvm.MethodName) prog_1_method_11_code (8 : Nat) (Option.some Jvm.ClassFile.FieldType.int) ∈ am_ws := am_m4 (List.mem_of_getElem? (i := 190) rfl) rfl
theorem wd1044 : Jvm.Cond.methodLink "ToldTracks" (227 : Nat) ({ cls := "ToldTracks$Waters", name := "hoursBetween", desc := "(II)I" } : Jvm.MethodName) ∈ am_ws := am_m4 (List.mem_of_getElem? (i := 191) rfl) rfl
theorem wd1045 : Jvm.Cond.instanceMethod ({ cls := "ToldTracks$Waters", name := "hoursBetween", desc := "(II)I" } : Jvm.MethodName) ∈ am_ws := am_m4 (List.mem_of_getElem? (i := 192) rfl) rfl
theorem wd1046 : Jvm.Cond.selects "ToldTracks$Waters" ({ cls := "ToldTracks$Waters", name := "hoursBetween", desc := "(II)I" } : Jvm.MethodName) ({ cls := "ToldTracks$Waters", name := "hoursBetween", desc := "(II)I" } : Jvm.MethodName) ∈ am_ws := am_m4 (List.mem_of_getElem? (i := 193) rfl) rfl
theorem wd1047 : Jvm.Cond.code ({ cls := "ToldTracks$Waters", name := "hoursBetween", desc := "(II)I" } : Jvm.MethodName) prog_11_method_7_code (4 : Nat) (Option.some Jvm.ClassFile.FieldType.int) ∈ am_ws := am_m4 (List.mem_of_getElem? (i := 194) rfl) rfl
theorem wd1048 : Jvm.Cond.methodLink "ToldTracks$Waters" (73 : Nat) ({ cls := "ToldTracks$Waters", name := "isWater", desc := "(I)Z" } : Jvm.MethodName) ∈ am_ws := am_m4 (List.mem_of_getElem? (i := 195) rfl) rfl
theorem wd1049 : Jvm.Cond.methodLink "ToldTracksLaw" (60 : Nat) ({ cls := "ToldTracks", name := "can", desc := "(III)I" } : Jvm.MethodName) ∈ am_ws := am_m4 (List.mem_of_getElem? (i := 196) rfl) rfl
theorem wd1050 : Jvm.Cond.instanceMethod ({ cls := "ToldTracks", name := "can", desc := "(III)I" } : Jvm.MethodName) ∈ am_ws := am_m4 (List.mem_of_getElem? (i := 197) rfl) rfl
theorem wd1051 : Jvm.Cond.selects "ToldTracks" ({ cls := "ToldTracks", name := "can", desc := "(III)I" } : Jvm.MethodName) ({ cls := "ToldTracks", name := "can", desc := "(III)I" } : Jvm.MethodName) ∈ am_ws := am_m4 (List.mem_of_getElem? (i := 198) rfl) rfl
theorem wd1052 : Jvm.Cond.code ({ cls := "ToldTracks", name := "can", desc := "(III)I" } : Jvm.MethodName) prog_1_method_12_code (4 : Nat) (Option.some Jvm.ClassFile.FieldType.int) ∈ am_ws := am_m4 (List.mem_of_getElem? (i := 199) rfl) rfl
theorem wd1053 : Jvm.Cond.methodLink "ToldTracks" (232 : Nat) ({ cls := "ToldTracks$Track", name := "goTogether", desc := "(II)Z" } : Jvm.MethodName) ∈ am_ws := am_m4 (List.mem_of_getElem? (i := 200) rfl) rfl
theorem wd1054 : Jvm.Cond.instanceMethod ({ cls := "ToldTracks$Track", name := "goTogether", desc := "(II)Z" } : Jvm.MethodName) ∈ am_ws := am_m4 (List.mem_of_getElem? (i := 201) rfl) rfl
theorem wd1055 : Jvm.Cond.selects "ToldTracks$Track" ({ cls := "ToldTracks$Track", name := "goTogether", desc := "(II)Z" } : Jvm.MethodName) ({ cls := "ToldTracks$Track", name := "goTogether", desc := "(II)Z" } : Jvm.MethodName) ∈ am_ws := am_m4 (List.mem_of_getElem? (i := 202) rfl) rfl
theorem wd1056 : Jvm.Cond.code ({ cls := "ToldTracks$Track", name := "goTogether", desc := "(II)Z" } : Jvm.MethodName) prog_10_method_5_code (4 : Nat) (Option.some Jvm.ClassFile.FieldType.boolean) ∈ am_ws := am_m4 (List.mem_of_getElem? (i := 203) rfl) rfl
theorem wd1057 : Jvm.Cond.methodLink "ToldTracks$Track" (85 : Nat) ({ cls := "java/lang/Math", name := "abs", desc := "(I)I" } : Jvm.MethodName) ∈ am_ws := am_m4 (List.mem_of_getElem? (i := 204) rfl) rfl
theorem wd1058 : Jvm.Cond.static ({ cls := "java/lang/Math", name := "abs", desc := "(I)I" } : Jvm.MethodName) ∈ am_ws := am_m4 (List.mem_of_getElem? (i := 205) rfl) rfl
theorem wd1059 : Jvm.Cond.code ({ cls := "java/lang/Math", name := "abs", desc := "(I)I" } : Jvm.MethodName) prog_15_method_59_code (1 : Nat) (Option.some Jvm.ClassFile.FieldType.int) ∈ am_ws := am_m4 (List.mem_of_getElem? (i := 206) rfl) rfl
theorem wd1060 : Jvm.Cond.methodLink "ToldTracksLaw" (64 : Nat) ({ cls := "ToldTracks", name := "reach", desc := "(III)I" } : Jvm.MethodName) ∈ am_ws := am_m4 (List.mem_of_getElem? (i := 207) rfl) rfl
theorem wd1061 : Jvm.Cond.instanceMethod ({ cls := "ToldTracks", name := "reach", desc := "(III)I" } : Jvm.MethodName) ∈ am_ws := am_m4 (List.mem_of_getElem? (i := 208) rfl) rfl
theorem wd1062 : Jvm.Cond.selects "ToldTracks" ({ cls := "ToldTracks", name := "reach", desc := "(III)I" } : Jvm.MethodName) ({ cls := "ToldTracks", name := "reach", desc := "(III)I" } : Jvm.MethodName) ∈ am_ws := am_m4 (List.mem_of_getElem? (i := 209) rfl) rfl
theorem wd1063 : Jvm.Cond.code ({ cls := "ToldTracks", name := "reach", desc := "(III)I" } : Jvm.MethodName) prog_1_method_13_code (7 : Nat) (Option.some Jvm.ClassFile.FieldType.int) ∈ am_ws := am_m4 (List.mem_of_getElem? (i := 210) rfl) rfl
theorem wd1064 : Jvm.Cond.methodLink "ToldTracks" (235 : Nat) ({ cls := "ToldTracks$Track", name := "countMay", desc := "(I)I" } : Jvm.MethodName) ∈ am_ws := am_m4 (List.mem_of_getElem? (i := 211) rfl) rfl
theorem wd1065 : Jvm.Cond.instanceMethod ({ cls := "ToldTracks$Track", name := "countMay", desc := "(I)I" } : Jvm.MethodName) ∈ am_ws := am_m4 (List.mem_of_getElem? (i := 212) rfl) rfl
theorem wd1066 : Jvm.Cond.selects "ToldTracks$Track" ({ cls := "ToldTracks$Track", name := "countMay", desc := "(I)I" } : Jvm.MethodName) ({ cls := "ToldTracks$Track", name := "countMay", desc := "(I)I" } : Jvm.MethodName) ∈ am_ws := am_m4 (List.mem_of_getElem? (i := 213) rfl) rfl
theorem wd1067 : Jvm.Cond.code ({ cls := "ToldTracks$Track", name := "countMay", desc := "(I)I" } : Jvm.MethodName) prog_10_method_18_code (2 : Nat) (Option.some Jvm.ClassFile.FieldType.int) ∈ am_ws := am_m4 (List.mem_of_getElem? (i := 214) rfl) rfl
theorem wd1068 : Jvm.Cond.methodLink "ToldTracks$Track" (197 : Nat) ({ cls := "ToldTracks$Track", name := "countShared", desc := "(LToldTracks$Track;I)I" } : Jvm.MethodName) ∈ am_ws := am_m4 (List.mem_of_getElem? (i := 215) rfl) rfl
theorem wd1069 : Jvm.Cond.instanceMethod ({ cls := "ToldTracks$Track", name := "countShared", desc := "(LToldTracks$Track;I)I" } : Jvm.MethodName) ∈ am_ws := am_m4 (List.mem_of_getElem? (i := 216) rfl) rfl
theorem wd1070 : Jvm.Cond.selects "ToldTracks$Track" ({ cls := "ToldTracks$Track", name := "countShared", desc := "(LToldTracks$Track;I)I" } : Jvm.MethodName) ({ cls := "ToldTracks$Track", name := "countShared", desc := "(LToldTracks$Track;I)I" } : Jvm.MethodName) ∈ am_ws := am_m4 (List.mem_of_getElem? (i := 217) rfl) rfl
theorem wd1071 : Jvm.Cond.code ({ cls := "ToldTracks$Track", name := "countShared", desc := "(LToldTracks$Track;I)I" } : Jvm.MethodName) prog_10_method_19_code (5 : Nat) (Option.some Jvm.ClassFile.FieldType.int) ∈ am_ws := am_m4 (List.mem_of_getElem? (i := 218) rfl) rfl
theorem wd1072 : Jvm.Cond.methodLink "ToldTracks$Track" (201 : Nat) ({ cls := "java/lang/Long", name := "bitCount", desc := "(J)I" } : Jvm.MethodName) ∈ am_ws := am_m4 (List.mem_of_getElem? (i := 219) rfl) rfl
theorem wd1073 : Jvm.Cond.static ({ cls := "java/lang/Long", name := "bitCount", desc := "(J)I" } : Jvm.MethodName) ∈ am_ws := am_m4 (List.mem_of_getElem? (i := 220) rfl) rfl
theorem wd1074 : Jvm.Cond.code ({ cls := "java/lang/Long", name := "bitCount", desc := "(J)I" } : Jvm.MethodName) prog_14_method_50_code (2 : Nat) (Option.some Jvm.ClassFile.FieldType.int) ∈ am_ws := am_m4 (List.mem_of_getElem? (i := 221) rfl) rfl
theorem wd1075 : Jvm.Cond.constantLong "java/lang/Long" (314 : Nat) (6148914691236517205 : Int64) ∈ am_ws := am_m4 (List.mem_of_getElem? (i := 222) rfl) rfl
theorem wd1076 : Jvm.Cond.constantLong "java/lang/Long" (316 : Nat) (3689348814741910323 : Int64) ∈ am_ws := am_m4 (List.mem_of_getElem? (i := 223) rfl) rfl
theorem wd1077 : Jvm.Cond.constantLong "java/lang/Long" (318 : Nat) (1085102592571150095 : Int64) ∈ am_ws := am_m4 (List.mem_of_getElem? (i := 224) rfl) rfl
theorem wd1078 : Jvm.Cond.methodLink "ToldTracks" (238 : Nat) ({ cls := "ToldTracks$Track", name := "mayBe", desc := "(II)Z" } : Jvm.MethodName) ∈ am_ws := am_m4 (List.mem_of_getElem? (i := 225) rfl) rfl
theorem wd1079 : Jvm.Cond.instanceMethod ({ cls := "ToldTracks$Track", name := "mayBe", desc := "(II)Z" } : Jvm.MethodName) ∈ am_ws := am_m4 (List.mem_of_getElem? (i := 226) rfl) rfl
theorem wd1080 : Jvm.Cond.selects "ToldTracks$Track" ({ cls := "ToldTracks$Track", name := "mayBe", desc := "(II)Z" } : Jvm.MethodName) ({ cls := "ToldTracks$Track", name := "mayBe", desc := "(II)Z" } : Jvm.MethodName) ∈ am_ws := am_m4 (List.mem_of_getElem? (i := 227) rfl) rfl
theorem wd1081 : Jvm.Cond.code ({ cls := "ToldTracks$Track", name := "mayBe", desc := "(II)Z" } : Jvm.MethodName) prog_10_method_17_code (3 : Nat) (Option.some Jvm.ClassFile.FieldType.boolean) ∈ am_ws := am_m4 (List.mem_of_getElem? (i := 228) rfl) rfl
theorem wd1082 : Jvm.Cond.methodLink "ToldTracksLaw" (68 : Nat) ({ cls := "ToldTracks", name := "may", desc := "(IIII)I" } : Jvm.MethodName) ∈ am_ws := am_m4 (List.mem_of_getElem? (i := 229) rfl) rfl
theorem wd1083 : Jvm.Cond.instanceMethod ({ cls := "ToldTracks", name := "may", desc := "(IIII)I" } : Jvm.MethodName) ∈ am_ws := am_m4 (List.mem_of_getElem? (i := 230) rfl) rfl
theorem wd1084 : Jvm.Cond.selects "ToldTracks" ({ cls := "ToldTracks", name := "may", desc := "(IIII)I" } : Jvm.MethodName) ({ cls := "ToldTracks", name := "may", desc := "(IIII)I" } : Jvm.MethodName) ∈ am_ws := am_m4 (List.mem_of_getElem? (i := 231) rfl) rfl
theorem wd1085 : Jvm.Cond.code ({ cls := "ToldTracks", name := "may", desc := "(IIII)I" } : Jvm.MethodName) prog_1_method_14_code (6 : Nat) (Option.some Jvm.ClassFile.FieldType.int) ∈ am_ws := am_m4 (List.mem_of_getElem? (i := 232) rfl) rfl
theorem wd1086 : Jvm.Cond.methodLink "ToldTracksLaw" (72 : Nat) ({ cls := "ToldTracks", name := "judge", desc := "(II)I" } : Jvm.MethodName) ∈ am_ws := am_m4 (List.mem_of_getElem? (i := 233) rfl) rfl
theorem wd1087 : Jvm.Cond.instanceMethod ({ cls := "ToldTracks", name := "judge", desc := "(II)I" } : Jvm.MethodName) ∈ am_ws := am_m4 (List.mem_of_getElem? (i := 234) rfl) rfl
theorem wd1088 : Jvm.Cond.selects "ToldTracks" ({ cls := "ToldTracks", name := "judge", desc := "(II)I" } : Jvm.MethodName) ({ cls := "ToldTracks", name := "judge", desc := "(II)I" } : Jvm.MethodName) ∈ am_ws := am_m4 (List.mem_of_getElem? (i := 235) rfl) rfl
theorem wd1089 : Jvm.Cond.code ({ cls := "ToldTracks", name := "judge", desc := "(II)I" } : Jvm.MethodName) prog_1_method_15_code (3 : Nat) (Option.some Jvm.ClassFile.FieldType.int) ∈ am_ws := am_m4 (List.mem_of_getElem? (i := 236) rfl) rfl
theorem wd1090 : Jvm.Cond.methodLink "ToldTracks" (241 : Nat) ({ cls := "ToldTracks", name := "kindsOf", desc := "(I)I" } : Jvm.MethodName) ∈ am_ws := am_m4 (List.mem_of_getElem? (i := 237) rfl) rfl
theorem wd1092 : Jvm.Cond.instanceMethod ({ cls := "ToldTracks", name := "kindsOf", desc := "(I)I" } : Jvm.MethodName) ∈ am_ws := am_m4 (List.mem_of_getElem? (i := 239) rfl) rfl
theorem wd1093 : Jvm.Cond.code ({ cls := "ToldTracks", name := "kindsOf", desc := "(I)I" } : Jvm.MethodName) prog_1_method_49_code (3 : Nat) (Option.some Jvm.ClassFile.FieldType.int) ∈ am_ws := am_m5 (List.mem_of_getElem? (i := 0) rfl) rfl
theorem wd1094 : Jvm.Cond.methodLink "ToldTracks" (283 : Nat) ({ cls := "ToldTracks$Track", name := "countGaps", desc := "()V" } : Jvm.MethodName) ∈ am_ws := am_m5 (List.mem_of_getElem? (i := 1) rfl) rfl
theorem wd1095 : Jvm.Cond.instanceMethod ({ cls := "ToldTracks$Track", name := "countGaps", desc := "()V" } : Jvm.MethodName) ∈ am_ws := am_m5 (List.mem_of_getElem? (i := 2) rfl) rfl
theorem wd1096 : Jvm.Cond.selects "ToldTracks$Track" ({ cls := "ToldTracks$Track", name := "countGaps", desc := "()V" } : Jvm.MethodName) ({ cls := "ToldTracks$Track", name := "countGaps", desc := "()V" } : Jvm.MethodName) ∈ am_ws := am_m5 (List.mem_of_getElem? (i := 3) rfl) rfl
theorem wd1097 : Jvm.Cond.code ({ cls := "ToldTracks$Track", name := "countGaps", desc := "()V" } : Jvm.MethodName) prog_10_method_27_code (3 : Nat) (Option.none : Option Jvm.ClassFile.FieldType) ∈ am_ws := am_m5 (List.mem_of_getElem? (i := 4) rfl) rfl
theorem wd1098 : Jvm.Cond.methodLink "ToldTracks$Track" (222 : Nat) ({ cls := "ToldTracks$Track", name := "settle", desc := "()V" } : Jvm.MethodName) ∈ am_ws := am_m5 (List.mem_of_getElem? (i := 5) rfl) rfl
theorem wd1099 : Jvm.Cond.methodLink "ToldTracks$Track" (228 : Nat) ({ cls := "ToldTracks$Track", name := "isHonest", desc := "(I)Z" } : Jvm.MethodName) ∈ am_ws := am_m5 (List.mem_of_getElem? (i := 6) rfl) rfl
theorem wd1101 : Jvm.Cond.instanceMethod ({ cls := "ToldTracks$Track", name := "isHonest", desc := "(I)Z" } : Jvm.MethodName) ∈ am_ws := am_m5 (List.mem_of_getElem? (i := 8) rfl) rfl
theorem wd1102 : Jvm.Cond.code ({ cls := "ToldTracks$Track", name := "isHonest", desc := "(I)Z" } : Jvm.MethodName) prog_10_method_28_code (6 : Nat) (Option.some Jvm.ClassFile.FieldType.boolean) ∈ am_ws := am_m5 (List.mem_of_getElem? (i := 9) rfl) rfl
theorem wd1103 : Jvm.Cond.methodLink "ToldTracks$Track" (231 : Nat) ({ cls := "ToldTracks$Sea", name := "isQuiet", desc := "(II)Z" } : Jvm.MethodName) ∈ am_ws := am_m5 (List.mem_of_getElem? (i := 10) rfl) rfl
theorem wd1104 : Jvm.Cond.methodLink "ToldTracks" (350 : Nat) ({ cls := "ToldTracks$Track", name := "ownKinds", desc := "()I" } : Jvm.MethodName) ∈ am_ws := am_m5 (List.mem_of_getElem? (i := 11) rfl) rfl
theorem wd1105 : Jvm.Cond.instanceMethod ({ cls := "ToldTracks$Track", name := "ownKinds", desc := "()I" } : Jvm.MethodName) ∈ am_ws := am_m5 (List.mem_of_getElem? (i := 12) rfl) rfl
theorem wd1106 : Jvm.Cond.selects "ToldTracks$Track" ({ cls := "ToldTracks$Track", name := "ownKinds", desc := "()I" } : Jvm.MethodName) ({ cls := "ToldTracks$Track", name := "ownKinds", desc := "()I" } : Jvm.MethodName) ∈ am_ws := am_m5 (List.mem_of_getElem? (i := 13) rfl) rfl
theorem wd1107 : Jvm.Cond.code ({ cls := "ToldTracks$Track", name := "ownKinds", desc := "()I" } : Jvm.MethodName) prog_10_method_22_code (2 : Nat) (Option.some Jvm.ClassFile.FieldType.int) ∈ am_ws := am_m5 (List.mem_of_getElem? (i := 14) rfl) rfl
theorem wd1108 : Jvm.Cond.methodLink "ToldTracks$Track" (213 : Nat) ({ cls := "ToldTracks$Track", name := "canPart", desc := "()Z" } : Jvm.MethodName) ∈ am_ws := am_m5 (List.mem_of_getElem? (i := 15) rfl) rfl
theorem wd1110 : Jvm.Cond.instanceMethod ({ cls := "ToldTracks$Track", name := "canPart", desc := "()Z" } : Jvm.MethodName) ∈ am_ws := am_m5 (List.mem_of_getElem? (i := 17) rfl) rfl
theorem wd1111 : Jvm.Cond.code ({ cls := "ToldTracks$Track", name := "canPart", desc := "()Z" } : Jvm.MethodName) prog_10_method_23_code (3 : Nat) (Option.some Jvm.ClassFile.FieldType.boolean) ∈ am_ws := am_m5 (List.mem_of_getElem? (i := 18) rfl) rfl
theorem wd1112 : Jvm.Cond.methodLink "ToldTracks$Track" (216 : Nat) ({ cls := "ToldTracks$Track", name := "pushApart", desc := "(II)I" } : Jvm.MethodName) ∈ am_ws := am_m5 (List.mem_of_getElem? (i := 19) rfl) rfl
theorem wd1114 : Jvm.Cond.instanceMethod ({ cls := "ToldTracks$Track", name := "pushApart", desc := "(II)I" } : Jvm.MethodName) ∈ am_ws := am_m5 (List.mem_of_getElem? (i := 21) rfl) rfl
theorem wd1115 : Jvm.Cond.code ({ cls := "ToldTracks$Track", name := "pushApart", desc := "(II)I" } : Jvm.MethodName) prog_10_method_24_code (8 : Nat) (Option.some Jvm.ClassFile.FieldType.int) ∈ am_ws := am_m5 (List.mem_of_getElem? (i := 22) rfl) rfl
theorem wd1116 : Jvm.Cond.methodLink "ToldTracks$Track" (219 : Nat) ({ cls := "ToldTracks$Track", name := "isMarked", desc := "(I)Z" } : Jvm.MethodName) ∈ am_ws := am_m5 (List.mem_of_getElem? (i := 23) rfl) rfl
theorem wd1118 : Jvm.Cond.instanceMethod ({ cls := "ToldTracks$Track", name := "isMarked", desc := "(I)Z" } : Jvm.MethodName) ∈ am_ws := am_m5 (List.mem_of_getElem? (i := 25) rfl) rfl
theorem wd1119 : Jvm.Cond.code ({ cls := "ToldTracks$Track", name := "isMarked", desc := "(I)Z" } : Jvm.MethodName) prog_10_method_25_code (3 : Nat) (Option.some Jvm.ClassFile.FieldType.boolean) ∈ am_ws := am_m5 (List.mem_of_getElem? (i := 26) rfl) rfl
theorem wd1120 : Jvm.Cond.methodLink "ToldTracks" (257 : Nat) ({ cls := "ToldTracks", name := "sayersOf", desc := "(I)I" } : Jvm.MethodName) ∈ am_ws := am_m5 (List.mem_of_getElem? (i := 27) rfl) rfl
theorem wd1122 : Jvm.Cond.instanceMethod ({ cls := "ToldTracks", name := "sayersOf", desc := "(I)I" } : Jvm.MethodName) ∈ am_ws := am_m5 (List.mem_of_getElem? (i := 29) rfl) rfl
theorem wd1123 : Jvm.Cond.code ({ cls := "ToldTracks", name := "sayersOf", desc := "(I)I" } : Jvm.MethodName) prog_1_method_48_code (5 : Nat) (Option.some Jvm.ClassFile.FieldType.int) ∈ am_ws := am_m5 (List.mem_of_getElem? (i := 30) rfl) rfl
theorem wd1124 : Jvm.Cond.methodLink "ToldTracks" (260 : Nat) ({ cls := "ToldTracks$Track", name := "fits", desc := "(LToldTracks$Ship;IZ)Z" } : Jvm.MethodName) ∈ am_ws := am_m5 (List.mem_of_getElem? (i := 31) rfl) rfl
theorem wd1125 : Jvm.Cond.instanceMethod ({ cls := "ToldTracks$Track", name := "fits", desc := "(LToldTracks$Ship;IZ)Z" } : Jvm.MethodName) ∈ am_ws := am_m5 (List.mem_of_getElem? (i := 32) rfl) rfl
theorem wd1126 : Jvm.Cond.selects "ToldTracks$Track" ({ cls := "ToldTracks$Track", name := "fits", desc := "(LToldTracks$Ship;IZ)Z" } : Jvm.MethodName) ({ cls := "ToldTracks$Track", name := "fits", desc := "(LToldTracks$Ship;IZ)Z" } : Jvm.MethodName) ∈ am_ws := am_m5 (List.mem_of_getElem? (i := 33) rfl) rfl
theorem wd1127 : Jvm.Cond.code ({ cls := "ToldTracks$Track", name := "fits", desc := "(LToldTracks$Ship;IZ)Z" } : Jvm.MethodName) prog_10_method_8_code (4 : Nat) (Option.some Jvm.ClassFile.FieldType.boolean) ∈ am_ws := am_m5 (List.mem_of_getElem? (i := 34) rfl) rfl
theorem wd1128 : Jvm.Cond.methodLink "ToldTracks$Track" (135 : Nat) ({ cls := "ToldTracks$Track", name := "laySayings", desc := "(LToldTracks$Ship;I)Z" } : Jvm.MethodName) ∈ am_ws := am_m5 (List.mem_of_getElem? (i := 35) rfl) rfl
theorem wd1130 : Jvm.Cond.instanceMethod ({ cls := "ToldTracks$Track", name := "laySayings", desc := "(LToldTracks$Ship;I)Z" } : Jvm.MethodName) ∈ am_ws := am_m5 (List.mem_of_getElem? (i := 37) rfl) rfl
theorem wd1131 : Jvm.Cond.code ({ cls := "ToldTracks$Track", name := "laySayings", desc := "(LToldTracks$Ship;I)Z" } : Jvm.MethodName) prog_10_method_7_code (5 : Nat) (Option.some Jvm.ClassFile.FieldType.boolean) ∈ am_ws := am_m5 (List.mem_of_getElem? (i := 38) rfl) rfl
theorem wd1133 : Jvm.Cond.methodLink "ToldTracksLaw" (76 : Nat) ({ cls := "ToldTracks", name := "tale", desc := "(II)I" } : Jvm.MethodName) ∈ am_ws := am_m5 (List.mem_of_getElem? (i := 40) rfl) rfl
theorem wd1134 : Jvm.Cond.instanceMethod ({ cls := "ToldTracks", name := "tale", desc := "(II)I" } : Jvm.MethodName) ∈ am_ws := am_m5 (List.mem_of_getElem? (i := 41) rfl) rfl
theorem wd1135 : Jvm.Cond.selects "ToldTracks" ({ cls := "ToldTracks", name := "tale", desc := "(II)I" } : Jvm.MethodName) ({ cls := "ToldTracks", name := "tale", desc := "(II)I" } : Jvm.MethodName) ∈ am_ws := am_m5 (List.mem_of_getElem? (i := 42) rfl) rfl
theorem wd1136 : Jvm.Cond.code ({ cls := "ToldTracks", name := "tale", desc := "(II)I" } : Jvm.MethodName) prog_1_method_16_code (6 : Nat) (Option.some Jvm.ClassFile.FieldType.int) ∈ am_ws := am_m5 (List.mem_of_getElem? (i := 43) rfl) rfl
theorem wd1137 : Jvm.Cond.methodLink "ToldTracksLaw" (80 : Nat) ({ cls := "ToldTracks", name := "bars", desc := "(I)I" } : Jvm.MethodName) ∈ am_ws := am_m5 (List.mem_of_getElem? (i := 44) rfl) rfl
theorem wd1138 : Jvm.Cond.instanceMethod ({ cls := "ToldTracks", name := "bars", desc := "(I)I" } : Jvm.MethodName) ∈ am_ws := am_m5 (List.mem_of_getElem? (i := 45) rfl) rfl
theorem wd1139 : Jvm.Cond.selects "ToldTracks" ({ cls := "ToldTracks", name := "bars", desc := "(I)I" } : Jvm.MethodName) ({ cls := "ToldTracks", name := "bars", desc := "(I)I" } : Jvm.MethodName) ∈ am_ws := am_m5 (List.mem_of_getElem? (i := 46) rfl) rfl
theorem wd1140 : Jvm.Cond.code ({ cls := "ToldTracks", name := "bars", desc := "(I)I" } : Jvm.MethodName) prog_1_method_17_code (2 : Nat) (Option.some Jvm.ClassFile.FieldType.int) ∈ am_ws := am_m5 (List.mem_of_getElem? (i := 47) rfl) rfl
theorem wd1141 : Jvm.Cond.methodLink "ToldTracks" (244 : Nat) ({ cls := "ToldTracks$Track", name := "firstBar", desc := "()I" } : Jvm.MethodName) ∈ am_ws := am_m5 (List.mem_of_getElem? (i := 48) rfl) rfl
theorem wd1142 : Jvm.Cond.instanceMethod ({ cls := "ToldTracks$Track", name := "firstBar", desc := "()I" } : Jvm.MethodName) ∈ am_ws := am_m5 (List.mem_of_getElem? (i := 49) rfl) rfl
theorem wd1143 : Jvm.Cond.selects "ToldTracks$Track" ({ cls := "ToldTracks$Track", name := "firstBar", desc := "()I" } : Jvm.MethodName) ({ cls := "ToldTracks$Track", name := "firstBar", desc := "()I" } : Jvm.MethodName) ∈ am_ws := am_m5 (List.mem_of_getElem? (i := 50) rfl) rfl
theorem wd1144 : Jvm.Cond.code ({ cls := "ToldTracks$Track", name := "firstBar", desc := "()I" } : Jvm.MethodName) prog_10_method_9_code (3 : Nat) (Option.some Jvm.ClassFile.FieldType.int) ∈ am_ws := am_m5 (List.mem_of_getElem? (i := 51) rfl) rfl
theorem wd1145 : Jvm.Cond.methodLink "ToldTracksLaw" (84 : Nat) ({ cls := "ToldTracks", name := "clash", desc := "(II)I" } : Jvm.MethodName) ∈ am_ws := am_m5 (List.mem_of_getElem? (i := 52) rfl) rfl
theorem wd1146 : Jvm.Cond.instanceMethod ({ cls := "ToldTracks", name := "clash", desc := "(II)I" } : Jvm.MethodName) ∈ am_ws := am_m5 (List.mem_of_getElem? (i := 53) rfl) rfl
theorem wd1147 : Jvm.Cond.selects "ToldTracks" ({ cls := "ToldTracks", name := "clash", desc := "(II)I" } : Jvm.MethodName) ({ cls := "ToldTracks", name := "clash", desc := "(II)I" } : Jvm.MethodName) ∈ am_ws := am_m5 (List.mem_of_getElem? (i := 54) rfl) rfl
theorem wd1148 : Jvm.Cond.code ({ cls := "ToldTracks", name := "clash", desc := "(II)I" } : Jvm.MethodName) prog_1_method_18_code (7 : Nat) (Option.some Jvm.ClassFile.FieldType.int) ∈ am_ws := am_m5 (List.mem_of_getElem? (i := 55) rfl) rfl
theorem wd1149 : Jvm.Cond.methodLink "ToldTracks" (247 : Nat) ({ cls := "ToldTracks$Track", name := "clashAlone", desc := "()I" } : Jvm.MethodName) ∈ am_ws := am_m5 (List.mem_of_getElem? (i := 56) rfl) rfl
theorem wd1150 : Jvm.Cond.instanceMethod ({ cls := "ToldTracks$Track", name := "clashAlone", desc := "()I" } : Jvm.MethodName) ∈ am_ws := am_m5 (List.mem_of_getElem? (i := 57) rfl) rfl
theorem wd1151 : Jvm.Cond.selects "ToldTracks$Track" ({ cls := "ToldTracks$Track", name := "clashAlone", desc := "()I" } : Jvm.MethodName) ({ cls := "ToldTracks$Track", name := "clashAlone", desc := "()I" } : Jvm.MethodName) ∈ am_ws := am_m5 (List.mem_of_getElem? (i := 58) rfl) rfl
theorem wd1152 : Jvm.Cond.code ({ cls := "ToldTracks$Track", name := "clashAlone", desc := "()I" } : Jvm.MethodName) prog_10_method_20_code (2 : Nat) (Option.some Jvm.ClassFile.FieldType.int) ∈ am_ws := am_m5 (List.mem_of_getElem? (i := 59) rfl) rfl
theorem wd1153 : Jvm.Cond.methodLink "ToldTracks" (250 : Nat) ({ cls := "ToldTracks$Track", name := "clashOfTwo", desc := "(I)I" } : Jvm.MethodName) ∈ am_ws := am_m5 (List.mem_of_getElem? (i := 60) rfl) rfl
theorem wd1154 : Jvm.Cond.instanceMethod ({ cls := "ToldTracks$Track", name := "clashOfTwo", desc := "(I)I" } : Jvm.MethodName) ∈ am_ws := am_m5 (List.mem_of_getElem? (i := 61) rfl) rfl
theorem wd1155 : Jvm.Cond.selects "ToldTracks$Track" ({ cls := "ToldTracks$Track", name := "clashOfTwo", desc := "(I)I" } : Jvm.MethodName) ({ cls := "ToldTracks$Track", name := "clashOfTwo", desc := "(I)I" } : Jvm.MethodName) ∈ am_ws := am_m5 (List.mem_of_getElem? (i := 62) rfl) rfl
theorem wd1156 : Jvm.Cond.code ({ cls := "ToldTracks$Track", name := "clashOfTwo", desc := "(I)I" } : Jvm.MethodName) prog_10_method_21_code (5 : Nat) (Option.some Jvm.ClassFile.FieldType.int) ∈ am_ws := am_m5 (List.mem_of_getElem? (i := 63) rfl) rfl
theorem wd1157 : Jvm.Cond.methodLink "ToldTracks$Track" (207 : Nat) ({ cls := "ToldTracks$Track", name := "goTogether", desc := "(II)Z" } : Jvm.MethodName) ∈ am_ws := am_m5 (List.mem_of_getElem? (i := 64) rfl) rfl
theorem wd1158 : Jvm.Cond.methodLink "ToldTracksLaw" (88 : Nat) ({ cls := "ToldTracks", name := "who", desc := "(I)I" } : Jvm.MethodName) ∈ am_ws := am_m5 (List.mem_of_getElem? (i := 65) rfl) rfl
theorem wd1159 : Jvm.Cond.instanceMethod ({ cls := "ToldTracks", name := "who", desc := "(I)I" } : Jvm.MethodName) ∈ am_ws := am_m5 (List.mem_of_getElem? (i := 66) rfl) rfl
theorem wd1160 : Jvm.Cond.selects "ToldTracks" ({ cls := "ToldTracks", name := "who", desc := "(I)I" } : Jvm.MethodName) ({ cls := "ToldTracks", name := "who", desc := "(I)I" } : Jvm.MethodName) ∈ am_ws := am_m5 (List.mem_of_getElem? (i := 67) rfl) rfl
theorem wd1161 : Jvm.Cond.code ({ cls := "ToldTracks", name := "who", desc := "(I)I" } : Jvm.MethodName) prog_1_method_19_code (2 : Nat) (Option.some Jvm.ClassFile.FieldType.int) ∈ am_ws := am_m5 (List.mem_of_getElem? (i := 68) rfl) rfl
theorem wd1162 : Jvm.Cond.methodLink "ToldTracksLaw" (92 : Nat) ({ cls := "ToldTracks", name := "swap", desc := "(II)I" } : Jvm.MethodName) ∈ am_ws := am_m5 (List.mem_of_getElem? (i := 69) rfl) rfl
theorem wd1163 : Jvm.Cond.instanceMethod ({ cls := "ToldTracks", name := "swap", desc := "(II)I" } : Jvm.MethodName) ∈ am_ws := am_m5 (List.mem_of_getElem? (i := 70) rfl) rfl
theorem wd1164 : Jvm.Cond.selects "ToldTracks" ({ cls := "ToldTracks", name := "swap", desc := "(II)I" } : Jvm.MethodName) ({ cls := "ToldTracks", name := "swap", desc := "(II)I" } : Jvm.MethodName) ∈ am_ws := am_m5 (List.mem_of_getElem? (i := 71) rfl) rfl
theorem wd1165 : Jvm.Cond.code ({ cls := "ToldTracks", name := "swap", desc := "(II)I" } : Jvm.MethodName) prog_1_method_20_code (5 : Nat) (Option.some Jvm.ClassFile.FieldType.int) ∈ am_ws := am_m5 (List.mem_of_getElem? (i := 72) rfl) rfl
theorem wd1166 : Jvm.Cond.methodLink "ToldTracksLaw" (96 : Nat) ({ cls := "ToldTracks", name := "kinds", desc := "(I)I" } : Jvm.MethodName) ∈ am_ws := am_m5 (List.mem_of_getElem? (i := 73) rfl) rfl
theorem wd1167 : Jvm.Cond.instanceMethod ({ cls := "ToldTracks", name := "kinds", desc := "(I)I" } : Jvm.MethodName) ∈ am_ws := am_m5 (List.mem_of_getElem? (i := 74) rfl) rfl
theorem wd1168 : Jvm.Cond.selects "ToldTracks" ({ cls := "ToldTracks", name := "kinds", desc := "(I)I" } : Jvm.MethodName) ({ cls := "ToldTracks", name := "kinds", desc := "(I)I" } : Jvm.MethodName) ∈ am_ws := am_m5 (List.mem_of_getElem? (i := 75) rfl) rfl
theorem wd1169 : Jvm.Cond.code ({ cls := "ToldTracks", name := "kinds", desc := "(I)I" } : Jvm.MethodName) prog_1_method_21_code (4 : Nat) (Option.some Jvm.ClassFile.FieldType.int) ∈ am_ws := am_m5 (List.mem_of_getElem? (i := 76) rfl) rfl
theorem wd1170 : Jvm.Cond.methodLink "ToldTracks" (264 : Nat) ({ cls := "ToldTracks", name := "plainestOf", desc := "(I)I" } : Jvm.MethodName) ∈ am_ws := am_m5 (List.mem_of_getElem? (i := 77) rfl) rfl
theorem wd1171 : Jvm.Cond.static ({ cls := "ToldTracks", name := "plainestOf", desc := "(I)I" } : Jvm.MethodName) ∈ am_ws := am_m5 (List.mem_of_getElem? (i := 78) rfl) rfl
theorem wd1172 : Jvm.Cond.code ({ cls := "ToldTracks", name := "plainestOf", desc := "(I)I" } : Jvm.MethodName) prog_1_method_50_code (2 : Nat) (Option.some Jvm.ClassFile.FieldType.int) ∈ am_ws := am_m5 (List.mem_of_getElem? (i := 79) rfl) rfl
theorem wd1173 : Jvm.Cond.methodLink "ToldTracksLaw" (100 : Nat) ({ cls := "ToldTracks", name := "lies", desc := "()I" } : Jvm.MethodName) ∈ am_ws := am_m5 (List.mem_of_getElem? (i := 80) rfl) rfl
theorem wd1174 : Jvm.Cond.instanceMethod ({ cls := "ToldTracks", name := "lies", desc := "()I" } : Jvm.MethodName) ∈ am_ws := am_m5 (List.mem_of_getElem? (i := 81) rfl) rfl
theorem wd1175 : Jvm.Cond.selects "ToldTracks" ({ cls := "ToldTracks", name := "lies", desc := "()I" } : Jvm.MethodName) ({ cls := "ToldTracks", name := "lies", desc := "()I" } : Jvm.MethodName) ∈ am_ws := am_m5 (List.mem_of_getElem? (i := 82) rfl) rfl
theorem wd1176 : Jvm.Cond.code ({ cls := "ToldTracks", name := "lies", desc := "()I" } : Jvm.MethodName) prog_1_method_22_code (3 : Nat) (Option.some Jvm.ClassFile.FieldType.int) ∈ am_ws := am_m5 (List.mem_of_getElem? (i := 83) rfl) rfl
theorem wd1177 : Jvm.Cond.methodLink "ToldTracksLaw" (104 : Nat) ({ cls := "ToldTracks", name := "met", desc := "(III)I" } : Jvm.MethodName) ∈ am_ws := am_m5 (List.mem_of_getElem? (i := 84) rfl) rfl
theorem wd1178 : Jvm.Cond.instanceMethod ({ cls := "ToldTracks", name := "met", desc := "(III)I" } : Jvm.MethodName) ∈ am_ws := am_m5 (List.mem_of_getElem? (i := 85) rfl) rfl
theorem wd1179 : Jvm.Cond.selects "ToldTracks" ({ cls := "ToldTracks", name := "met", desc := "(III)I" } : Jvm.MethodName) ({ cls := "ToldTracks", name := "met", desc := "(III)I" } : Jvm.MethodName) ∈ am_ws := am_m5 (List.mem_of_getElem? (i := 86) rfl) rfl
theorem wd1180 : Jvm.Cond.code ({ cls := "ToldTracks", name := "met", desc := "(III)I" } : Jvm.MethodName) prog_1_method_23_code (13 : Nat) (Option.some Jvm.ClassFile.FieldType.int) ∈ am_ws := am_m5 (List.mem_of_getElem? (i := 87) rfl) rfl
theorem wd1181 : Jvm.Cond.methodLink "ToldTracks" (267 : Nat) ({ cls := "ToldTracks$Track", name := "hoursOfChange", desc := "(Z)J" } : Jvm.MethodName) ∈ am_ws := am_m5 (List.mem_of_getElem? (i := 88) rfl) rfl
theorem wd1182 : Jvm.Cond.instanceMethod ({ cls := "ToldTracks$Track", name := "hoursOfChange", desc := "(Z)J" } : Jvm.MethodName) ∈ am_ws := am_m5 (List.mem_of_getElem? (i := 89) rfl) rfl
theorem wd1183 : Jvm.Cond.selects "ToldTracks$Track" ({ cls := "ToldTracks$Track", name := "hoursOfChange", desc := "(Z)J" } : Jvm.MethodName) ({ cls := "ToldTracks$Track", name := "hoursOfChange", desc := "(Z)J" } : Jvm.MethodName) ∈ am_ws := am_m5 (List.mem_of_getElem? (i := 90) rfl) rfl
theorem wd1184 : Jvm.Cond.code ({ cls := "ToldTracks$Track", name := "hoursOfChange", desc := "(Z)J" } : Jvm.MethodName) prog_10_method_29_code (7 : Nat) (Option.some Jvm.ClassFile.FieldType.long) ∈ am_ws := am_m5 (List.mem_of_getElem? (i := 91) rfl) rfl
theorem wd1185 : Jvm.Cond.methodLink "ToldTracks" (271 : Nat) ({ cls := "ToldTracks$Track", name := "countShared", desc := "(LToldTracks$Track;I)I" } : Jvm.MethodName) ∈ am_ws := am_m5 (List.mem_of_getElem? (i := 92) rfl) rfl
theorem wd1186 : Jvm.Cond.methodLink "ToldTracksLaw" (108 : Nat) ({ cls := "ToldTracks", name := "sighting", desc := "(II)I" } : Jvm.MethodName) ∈ am_ws := am_m5 (List.mem_of_getElem? (i := 93) rfl) rfl
theorem wd1187 : Jvm.Cond.instanceMethod ({ cls := "ToldTracks", name := "sighting", desc := "(II)I" } : Jvm.MethodName) ∈ am_ws := am_m5 (List.mem_of_getElem? (i := 94) rfl) rfl
theorem wd1188 : Jvm.Cond.selects "ToldTracks" ({ cls := "ToldTracks", name := "sighting", desc := "(II)I" } : Jvm.MethodName) ({ cls := "ToldTracks", name := "sighting", desc := "(II)I" } : Jvm.MethodName) ∈ am_ws := am_m5 (List.mem_of_getElem? (i := 95) rfl) rfl
theorem wd1189 : Jvm.Cond.code ({ cls := "ToldTracks", name := "sighting", desc := "(II)I" } : Jvm.MethodName) prog_1_method_24_code (3 : Nat) (Option.some Jvm.ClassFile.FieldType.int) ∈ am_ws := am_m5 (List.mem_of_getElem? (i := 96) rfl) rfl
theorem wd1190 : Jvm.Cond.methodLink "ToldTracks" (280 : Nat) ({ cls := "ToldTracks", name := "explainersOf", desc := "(I)I" } : Jvm.MethodName) ∈ am_ws := am_m5 (List.mem_of_getElem? (i := 97) rfl) rfl
theorem wd1192 : Jvm.Cond.instanceMethod ({ cls := "ToldTracks", name := "explainersOf", desc := "(I)I" } : Jvm.MethodName) ∈ am_ws := am_m5 (List.mem_of_getElem? (i := 99) rfl) rfl
theorem wd1193 : Jvm.Cond.code ({ cls := "ToldTracks", name := "explainersOf", desc := "(I)I" } : Jvm.MethodName) prog_1_method_51_code (5 : Nat) (Option.some Jvm.ClassFile.FieldType.int) ∈ am_ws := am_m5 (List.mem_of_getElem? (i := 100) rfl) rfl
theorem wd1194 : Jvm.Cond.methodLink "ToldTracksLaw" (112 : Nat) ({ cls := "ToldTracks", name := "strange", desc := "()I" } : Jvm.MethodName) ∈ am_ws := am_m5 (List.mem_of_getElem? (i := 101) rfl) rfl
theorem wd1195 : Jvm.Cond.instanceMethod ({ cls := "ToldTracks", name := "strange", desc := "()I" } : Jvm.MethodName) ∈ am_ws := am_m5 (List.mem_of_getElem? (i := 102) rfl) rfl
theorem wd1196 : Jvm.Cond.selects "ToldTracks" ({ cls := "ToldTracks", name := "strange", desc := "()I" } : Jvm.MethodName) ({ cls := "ToldTracks", name := "strange", desc := "()I" } : Jvm.MethodName) ∈ am_ws := am_m5 (List.mem_of_getElem? (i := 103) rfl) rfl
theorem wd1197 : Jvm.Cond.code ({ cls := "ToldTracks", name := "strange", desc := "()I" } : Jvm.MethodName) prog_1_method_25_code (3 : Nat) (Option.some Jvm.ClassFile.FieldType.int) ∈ am_ws := am_m5 (List.mem_of_getElem? (i := 104) rfl) rfl
theorem wd1198 : Jvm.Cond.methodLink "ToldTracksLaw" (116 : Nat) ({ cls := "ToldTracks", name := "doubted", desc := "()I" } : Jvm.MethodName) ∈ am_ws := am_m5 (List.mem_of_getElem? (i := 105) rfl) rfl
theorem wd1199 : Jvm.Cond.instanceMethod ({ cls := "ToldTracks", name := "doubted", desc := "()I" } : Jvm.MethodName) ∈ am_ws := am_m5 (List.mem_of_getElem? (i := 106) rfl) rfl
theorem wd1200 : Jvm.Cond.selects "ToldTracks" ({ cls := "ToldTracks", name := "doubted", desc := "()I" } : Jvm.MethodName) ({ cls := "ToldTracks", name := "doubted", desc := "()I" } : Jvm.MethodName) ∈ am_ws := am_m5 (List.mem_of_getElem? (i := 107) rfl) rfl
theorem wd1201 : Jvm.Cond.code ({ cls := "ToldTracks", name := "doubted", desc := "()I" } : Jvm.MethodName) prog_1_method_26_code (4 : Nat) (Option.some Jvm.ClassFile.FieldType.int) ∈ am_ws := am_m5 (List.mem_of_getElem? (i := 108) rfl) rfl
theorem wd1202 : Jvm.Cond.methodLink "ToldTracksLaw" (120 : Nat) ({ cls := "ToldTracks", name := "gaps", desc := "(II)I" } : Jvm.MethodName) ∈ am_ws := am_m5 (List.mem_of_getElem? (i := 109) rfl) rfl
theorem wd1203 : Jvm.Cond.instanceMethod ({ cls := "ToldTracks", name := "gaps", desc := "(II)I" } : Jvm.MethodName) ∈ am_ws := am_m5 (List.mem_of_getElem? (i := 110) rfl) rfl
theorem wd1204 : Jvm.Cond.selects "ToldTracks" ({ cls := "ToldTracks", name := "gaps", desc := "(II)I" } : Jvm.MethodName) ({ cls := "ToldTracks", name := "gaps", desc := "(II)I" } : Jvm.MethodName) ∈ am_ws := am_m5 (List.mem_of_getElem? (i := 111) rfl) rfl
theorem wd1205 : Jvm.Cond.code ({ cls := "ToldTracks", name := "gaps", desc := "(II)I" } : Jvm.MethodName) prog_1_method_27_code (4 : Nat) (Option.some Jvm.ClassFile.FieldType.int) ∈ am_ws := am_m5 (List.mem_of_getElem? (i := 112) rfl) rfl
theorem wd1206 : Jvm.Cond.methodLink "ToldTracksLaw" (124 : Nat) ({ cls := "ToldTracks", name := "chance", desc := "(I)J" } : Jvm.MethodName) ∈ am_ws := am_m5 (List.mem_of_getElem? (i := 113) rfl) rfl
theorem wd1207 : Jvm.Cond.instanceMethod ({ cls := "ToldTracks", name := "chance", desc := "(I)J" } : Jvm.MethodName) ∈ am_ws := am_m5 (List.mem_of_getElem? (i := 114) rfl) rfl
theorem wd1208 : Jvm.Cond.selects "ToldTracks" ({ cls := "ToldTracks", name := "chance", desc := "(I)J" } : Jvm.MethodName) ({ cls := "ToldTracks", name := "chance", desc := "(I)J" } : Jvm.MethodName) ∈ am_ws := am_m5 (List.mem_of_getElem? (i := 115) rfl) rfl
theorem wd1209 : Jvm.Cond.code ({ cls := "ToldTracks", name := "chance", desc := "(I)J" } : Jvm.MethodName) prog_1_method_28_code (2 : Nat) (Option.some Jvm.ClassFile.FieldType.long) ∈ am_ws := am_m5 (List.mem_of_getElem? (i := 116) rfl) rfl
theorem wd1210 : Jvm.Cond.methodLink "ToldTracks" (292 : Nat) ({ cls := "ToldTracks", name := "chanceOf", desc := "(I)J" } : Jvm.MethodName) ∈ am_ws := am_m5 (List.mem_of_getElem? (i := 117) rfl) rfl
theorem wd1212 : Jvm.Cond.instanceMethod ({ cls := "ToldTracks", name := "chanceOf", desc := "(I)J" } : Jvm.MethodName) ∈ am_ws := am_m5 (List.mem_of_getElem? (i := 119) rfl) rfl
theorem wd1213 : Jvm.Cond.code ({ cls := "ToldTracks", name := "chanceOf", desc := "(I)J" } : Jvm.MethodName) prog_1_method_52_code (8 : Nat) (Option.some Jvm.ClassFile.FieldType.long) ∈ am_ws := am_m5 (List.mem_of_getElem? (i := 120) rfl) rfl
theorem wd1214 : Jvm.Cond.methodLink "ToldTracks" (356 : Nat) ({ cls := "ToldTracks$Track", name := "hoursBetweenEnds", desc := "()I" } : Jvm.MethodName) ∈ am_ws := am_m5 (List.mem_of_getElem? (i := 121) rfl) rfl
theorem wd1215 : Jvm.Cond.instanceMethod ({ cls := "ToldTracks$Track", name := "hoursBetweenEnds", desc := "()I" } : Jvm.MethodName) ∈ am_ws := am_m5 (List.mem_of_getElem? (i := 122) rfl) rfl
theorem wd1216 : Jvm.Cond.selects "ToldTracks$Track" ({ cls := "ToldTracks$Track", name := "hoursBetweenEnds", desc := "()I" } : Jvm.MethodName) ({ cls := "ToldTracks$Track", name := "hoursBetweenEnds", desc := "()I" } : Jvm.MethodName) ∈ am_ws := am_m5 (List.mem_of_getElem? (i := 123) rfl) rfl
theorem wd1217 : Jvm.Cond.code ({ cls := "ToldTracks$Track", name := "hoursBetweenEnds", desc := "()I" } : Jvm.MethodName) prog_10_method_26_code (1 : Nat) (Option.some Jvm.ClassFile.FieldType.int) ∈ am_ws := am_m5 (List.mem_of_getElem? (i := 124) rfl) rfl
theorem wd1218 : Jvm.Cond.methodLink "ToldTracks" (359 : Nat) ({ cls := "java/util/Arrays", name := "fill", desc := "([JJ)V" } : Jvm.MethodName) ∈ am_ws := am_m5 (List.mem_of_getElem? (i := 125) rfl) rfl
theorem wd1219 : Jvm.Cond.constantLong "ToldTracks" (365 : Nat) (1000000000000 : Int64) ∈ am_ws := am_m5 (List.mem_of_getElem? (i := 126) rfl) rfl
theorem wd1220 : Jvm.Cond.methodLink "ToldTracks" (367 : Nat) ({ cls := "java/lang/Math", name := "min", desc := "(II)I" } : Jvm.MethodName) ∈ am_ws := am_m5 (List.mem_of_getElem? (i := 127) rfl) rfl
theorem wd1221 : Jvm.Cond.constantLong "ToldTracks" (372 : Nat) (100 : Int64) ∈ am_ws := am_m5 (List.mem_of_getElem? (i := 128) rfl) rfl
theorem wd1222 : Jvm.Cond.constantLong "ToldTracks" (296 : Nat) (-1 : Int64) ∈ am_ws := am_m5 (List.mem_of_getElem? (i := 129) rfl) rfl
theorem wd1223 : Jvm.Cond.methodLink "ToldTracksLaw" (129 : Nat) ({ cls := "ToldTracks", name := "beyond", desc := "()I" } : Jvm.MethodName) ∈ am_ws := am_m5 (List.mem_of_getElem? (i := 130) rfl) rfl
theorem wd1224 : Jvm.Cond.instanceMethod ({ cls := "ToldTracks", name := "beyond", desc := "()I" } : Jvm.MethodName) ∈ am_ws := am_m5 (List.mem_of_getElem? (i := 131) rfl) rfl
theorem wd1225 : Jvm.Cond.selects "ToldTracks" ({ cls := "ToldTracks", name := "beyond", desc := "()I" } : Jvm.MethodName) ({ cls := "ToldTracks", name := "beyond", desc := "()I" } : Jvm.MethodName) ∈ am_ws := am_m5 (List.mem_of_getElem? (i := 132) rfl) rfl
theorem wd1226 : Jvm.Cond.code ({ cls := "ToldTracks", name := "beyond", desc := "()I" } : Jvm.MethodName) prog_1_method_29_code (5 : Nat) (Option.some Jvm.ClassFile.FieldType.int) ∈ am_ws := am_m5 (List.mem_of_getElem? (i := 133) rfl) rfl
theorem wd1227 : Jvm.Cond.constantLong "ToldTracks" (298 : Nat) (50000000000 : Int64) ∈ am_ws := am_m5 (List.mem_of_getElem? (i := 134) rfl) rfl
theorem wd1228 : Jvm.Cond.methodLink "ToldTracksLaw" (133 : Nat) ({ cls := "ToldTracks", name := "settles", desc := "(III)I" } : Jvm.MethodName) ∈ am_ws := am_m5 (List.mem_of_getElem? (i := 135) rfl) rfl
theorem wd1229 : Jvm.Cond.instanceMethod ({ cls := "ToldTracks", name := "settles", desc := "(III)I" } : Jvm.MethodName) ∈ am_ws := am_m5 (List.mem_of_getElem? (i := 136) rfl) rfl
theorem wd1230 : Jvm.Cond.selects "ToldTracks" ({ cls := "ToldTracks", name := "settles", desc := "(III)I" } : Jvm.MethodName) ({ cls := "ToldTracks", name := "settles", desc := "(III)I" } : Jvm.MethodName) ∈ am_ws := am_m5 (List.mem_of_getElem? (i := 137) rfl) rfl
theorem wd1231 : Jvm.Cond.code ({ cls := "ToldTracks", name := "settles", desc := "(III)I" } : Jvm.MethodName) prog_1_method_30_code (8 : Nat) (Option.some Jvm.ClassFile.FieldType.int) ∈ am_ws := am_m5 (List.mem_of_getElem? (i := 138) rfl) rfl
theorem wd1232 : Jvm.Cond.methodLink "ToldTracksLaw" (137 : Nat) ({ cls := "ToldTracks", name := "next", desc := "(I)I" } : Jvm.MethodName) ∈ am_ws := am_m5 (List.mem_of_getElem? (i := 139) rfl) rfl
theorem wd1233 : Jvm.Cond.instanceMethod ({ cls := "ToldTracks", name := "next", desc := "(I)I" } : Jvm.MethodName) ∈ am_ws := am_m5 (List.mem_of_getElem? (i := 140) rfl) rfl
theorem wd1234 : Jvm.Cond.selects "ToldTracks" ({ cls := "ToldTracks", name := "next", desc := "(I)I" } : Jvm.MethodName) ({ cls := "ToldTracks", name := "next", desc := "(I)I" } : Jvm.MethodName) ∈ am_ws := am_m5 (List.mem_of_getElem? (i := 141) rfl) rfl
theorem wd1235 : Jvm.Cond.code ({ cls := "ToldTracks", name := "next", desc := "(I)I" } : Jvm.MethodName) prog_1_method_31_code (2 : Nat) (Option.some Jvm.ClassFile.FieldType.int) ∈ am_ws := am_m5 (List.mem_of_getElem? (i := 142) rfl) rfl
theorem wd1236 : Jvm.Cond.methodLink "ToldTracks" (300 : Nat) ({ cls := "ToldTracks", name := "findLook", desc := "()V" } : Jvm.MethodName) ∈ am_ws := am_m5 (List.mem_of_getElem? (i := 143) rfl) rfl
theorem wd1238 : Jvm.Cond.instanceMethod ({ cls := "ToldTracks", name := "findLook", desc := "()V" } : Jvm.MethodName) ∈ am_ws := am_m5 (List.mem_of_getElem? (i := 145) rfl) rfl
theorem wd1239 : Jvm.Cond.code ({ cls := "ToldTracks", name := "findLook", desc := "()V" } : Jvm.MethodName) prog_1_method_53_code (6 : Nat) (Option.none : Option Jvm.ClassFile.FieldType) ∈ am_ws := am_m5 (List.mem_of_getElem? (i := 146) rfl) rfl
theorem wd1240 : Jvm.Cond.methodLink "ToldTracks" (374 : Nat) ({ cls := "ToldTracks", name := "pileUp", desc := "(I)I" } : Jvm.MethodName) ∈ am_ws := am_m5 (List.mem_of_getElem? (i := 147) rfl) rfl
theorem wd1242 : Jvm.Cond.instanceMethod ({ cls := "ToldTracks", name := "pileUp", desc := "(I)I" } : Jvm.MethodName) ∈ am_ws := am_m5 (List.mem_of_getElem? (i := 149) rfl) rfl
theorem wd1243 : Jvm.Cond.code ({ cls := "ToldTracks", name := "pileUp", desc := "(I)I" } : Jvm.MethodName) prog_1_method_54_code (7 : Nat) (Option.some Jvm.ClassFile.FieldType.int) ∈ am_ws := am_m5 (List.mem_of_getElem? (i := 150) rfl) rfl
theorem wd1244 : Jvm.Cond.methodLink "ToldTracks" (377 : Nat) ({ cls := "java/util/Arrays", name := "fill", desc := "([JIIJ)V" } : Jvm.MethodName) ∈ am_ws := am_m5 (List.mem_of_getElem? (i := 151) rfl) rfl
theorem wd1245 : Jvm.Cond.static ({ cls := "java/util/Arrays", name := "fill", desc := "([JIIJ)V" } : Jvm.MethodName) ∈ am_ws := am_m5 (List.mem_of_getElem? (i := 152) rfl) rfl
theorem wd1246 : Jvm.Cond.code ({ cls := "java/util/Arrays", name := "fill", desc := "([JIIJ)V" } : Jvm.MethodName) prog_20_method_102_code (6 : Nat) (Option.none : Option Jvm.ClassFile.FieldType) ∈ am_ws := am_m5 (List.mem_of_getElem? (i := 153) rfl) rfl
theorem wd1247 : Jvm.Cond.methodLink "java/util/Arrays" (13 : Nat) ({ cls := "java/util/Arrays", name := "rangeCheck", desc := "(III)V" } : Jvm.MethodName) ∈ am_ws := am_m5 (List.mem_of_getElem? (i := 154) rfl) rfl
theorem wd1248 : Jvm.Cond.static ({ cls := "java/util/Arrays", name := "rangeCheck", desc := "(III)V" } : Jvm.MethodName) ∈ am_ws := am_m5 (List.mem_of_getElem? (i := 155) rfl) rfl
theorem wd1249 : Jvm.Cond.code ({ cls := "java/util/Arrays", name := "rangeCheck", desc := "(III)V" } : Jvm.MethodName) prog_20_method_30_code (3 : Nat) (Option.none : Option Jvm.ClassFile.FieldType) ∈ am_ws := am_m5 (List.mem_of_getElem? (i := 156) rfl) rfl
theorem wd1250 : Jvm.Cond.methodLink "ToldTracks" (383 : Nat) ({ cls := "java/lang/Math", name := "max", desc := "(II)I" } : Jvm.MethodName) ∈ am_ws := am_m5 (List.mem_of_getElem? (i := 157) rfl) rfl
theorem wd1251 : Jvm.Cond.methodLink "ToldTracksLaw" (141 : Nat) ({ cls := "ToldTracks", name := "off", desc := "(I)I" } : Jvm.MethodName) ∈ am_ws := am_m5 (List.mem_of_getElem? (i := 158) rfl) rfl
theorem wd1252 : Jvm.Cond.instanceMethod ({ cls := "ToldTracks", name := "off", desc := "(I)I" } : Jvm.MethodName) ∈ am_ws := am_m5 (List.mem_of_getElem? (i := 159) rfl) rfl
theorem wd1253 : Jvm.Cond.selects "ToldTracks" ({ cls := "ToldTracks", name := "off", desc := "(I)I" } : Jvm.MethodName) ({ cls := "ToldTracks", name := "off", desc := "(I)I" } : Jvm.MethodName) ∈ am_ws := am_m5 (List.mem_of_getElem? (i := 160) rfl) rfl
theorem wd1254 : Jvm.Cond.code ({ cls := "ToldTracks", name := "off", desc := "(I)I" } : Jvm.MethodName) prog_1_method_32_code (2 : Nat) (Option.some Jvm.ClassFile.FieldType.int) ∈ am_ws := am_m5 (List.mem_of_getElem? (i := 161) rfl) rfl
theorem wd1255 : Jvm.Cond.methodLink "ToldTracks" (306 : Nat) ({ cls := "ToldTracks$Track", name := "findClock", desc := "()I" } : Jvm.MethodName) ∈ am_ws := am_m5 (List.mem_of_getElem? (i := 162) rfl) rfl
theorem wd1256 : Jvm.Cond.instanceMethod ({ cls := "ToldTracks$Track", name := "findClock", desc := "()I" } : Jvm.MethodName) ∈ am_ws := am_m5 (List.mem_of_getElem? (i := 163) rfl) rfl
theorem wd1257 : Jvm.Cond.selects "ToldTracks$Track" ({ cls := "ToldTracks$Track", name := "findClock", desc := "()I" } : Jvm.MethodName) ({ cls := "ToldTracks$Track", name := "findClock", desc := "()I" } : Jvm.MethodName) ∈ am_ws := am_m5 (List.mem_of_getElem? (i := 164) rfl) rfl
theorem wd1258 : Jvm.Cond.code ({ cls := "ToldTracks$Track", name := "findClock", desc := "()I" } : Jvm.MethodName) prog_10_method_10_code (2 : Nat) (Option.some Jvm.ClassFile.FieldType.int) ∈ am_ws := am_m5 (List.mem_of_getElem? (i := 165) rfl) rfl
theorem wd1259 : Jvm.Cond.methodLink "ToldTracks$Track" (143 : Nat) ({ cls := "ToldTracks$Track", name := "staysWith", desc := "(I)Z" } : Jvm.MethodName) ∈ am_ws := am_m5 (List.mem_of_getElem? (i := 166) rfl) rfl
theorem wd1261 : Jvm.Cond.instanceMethod ({ cls := "ToldTracks$Track", name := "staysWith", desc := "(I)Z" } : Jvm.MethodName) ∈ am_ws := am_m5 (List.mem_of_getElem? (i := 168) rfl) rfl
theorem wd1262 : Jvm.Cond.code ({ cls := "ToldTracks$Track", name := "staysWith", desc := "(I)Z" } : Jvm.MethodName) prog_10_method_11_code (3 : Nat) (Option.some Jvm.ClassFile.FieldType.boolean) ∈ am_ws := am_m5 (List.mem_of_getElem? (i := 169) rfl) rfl
theorem wd1263 : Jvm.Cond.methodLink "ToldTracks$Track" (146 : Nat) ({ cls := "ToldTracks$Track", name := "fits", desc := "(LToldTracks$Ship;IZ)Z" } : Jvm.MethodName) ∈ am_ws := am_m5 (List.mem_of_getElem? (i := 170) rfl) rfl
theorem wd1264 : Jvm.Cond.methodLink "ToldTracksLaw" (145 : Nat) ({ cls := "ToldTracks", name := "whose", desc := "()I" } : Jvm.MethodName) ∈ am_ws := am_m5 (List.mem_of_getElem? (i := 171) rfl) rfl
theorem wd1265 : Jvm.Cond.instanceMethod ({ cls := "ToldTracks", name := "whose", desc := "()I" } : Jvm.MethodName) ∈ am_ws := am_m5 (List.mem_of_getElem? (i := 172) rfl) rfl
theorem wd1266 : Jvm.Cond.selects "ToldTracks" ({ cls := "ToldTracks", name := "whose", desc := "()I" } : Jvm.MethodName) ({ cls := "ToldTracks", name := "whose", desc := "()I" } : Jvm.MethodName) ∈ am_ws := am_m5 (List.mem_of_getElem? (i := 173) rfl) rfl
theorem wd1267 : Jvm.Cond.code ({ cls := "ToldTracks", name := "whose", desc := "()I" } : Jvm.MethodName) prog_1_method_33_code (4 : Nat) (Option.some Jvm.ClassFile.FieldType.int) ∈ am_ws := am_m5 (List.mem_of_getElem? (i := 174) rfl) rfl
theorem wd1268 : Jvm.Cond.methodLink "ToldTracksLaw" (149 : Nat) ({ cls := "ToldTracks", name := "add", desc := "(IIIIZ)I" } : Jvm.MethodName) ∈ am_ws := am_m5 (List.mem_of_getElem? (i := 175) rfl) rfl
theorem wd1269 : Jvm.Cond.instanceMethod ({ cls := "ToldTracks", name := "add", desc := "(IIIIZ)I" } : Jvm.MethodName) ∈ am_ws := am_m5 (List.mem_of_getElem? (i := 176) rfl) rfl
theorem wd1270 : Jvm.Cond.selects "ToldTracks" ({ cls := "ToldTracks", name := "add", desc := "(IIIIZ)I" } : Jvm.MethodName) ({ cls := "ToldTracks", name := "add", desc := "(IIIIZ)I" } : Jvm.MethodName) ∈ am_ws := am_m5 (List.mem_of_getElem? (i := 177) rfl) rfl
theorem wd1271 : Jvm.Cond.code ({ cls := "ToldTracks", name := "add", desc := "(IIIIZ)I" } : Jvm.MethodName) prog_1_method_34_code (8 : Nat) (Option.some Jvm.ClassFile.FieldType.int) ∈ am_ws := am_m5 (List.mem_of_getElem? (i := 178) rfl) rfl
theorem wd1272 : Jvm.Cond.methodLink "ToldTracks" (309 : Nat) ({ cls := "ToldTracks$Ship", name := "hasSaid", desc := "(I)Z" } : Jvm.MethodName) ∈ am_ws := am_m5 (List.mem_of_getElem? (i := 179) rfl) rfl
theorem wd1273 : Jvm.Cond.methodLink "ToldTracks" (312 : Nat) ({ cls := "ToldTracks$Ship", name := "insert", desc := "(IIZ)I" } : Jvm.MethodName) ∈ am_ws := am_m5 (List.mem_of_getElem? (i := 180) rfl) rfl
theorem wd1274 : Jvm.Cond.methodLink "ToldTracks" (316 : Nat) ({ cls := "ToldTracks", name := "forget", desc := "(I)V" } : Jvm.MethodName) ∈ am_ws := am_m5 (List.mem_of_getElem? (i := 181) rfl) rfl
theorem wd1276 : Jvm.Cond.instanceMethod ({ cls := "ToldTracks", name := "forget", desc := "(I)V" } : Jvm.MethodName) ∈ am_ws := am_m5 (List.mem_of_getElem? (i := 183) rfl) rfl
theorem wd1277 : Jvm.Cond.code ({ cls := "ToldTracks", name := "forget", desc := "(I)V" } : Jvm.MethodName) prog_1_method_46_code (3 : Nat) (Option.none : Option Jvm.ClassFile.FieldType) ∈ am_ws := am_m5 (List.mem_of_getElem? (i := 184) rfl) rfl
theorem wd1278 : Jvm.Cond.methodLink "ToldTracks" (342 : Nat) ({ cls := "ToldTracks$Track", name := "forget", desc := "()V" } : Jvm.MethodName) ∈ am_ws := am_m5 (List.mem_of_getElem? (i := 185) rfl) rfl
theorem wd1279 : Jvm.Cond.methodLink "ToldTracksLaw" (154 : Nat) ({ cls := "ToldTracks", name := "drop", desc := "(II)I" } : Jvm.MethodName) ∈ am_ws := am_m5 (List.mem_of_getElem? (i := 186) rfl) rfl
theorem wd1280 : Jvm.Cond.instanceMethod ({ cls := "ToldTracks", name := "drop", desc := "(II)I" } : Jvm.MethodName) ∈ am_ws := am_m5 (List.mem_of_getElem? (i := 187) rfl) rfl
theorem wd1281 : Jvm.Cond.selects "ToldTracks" ({ cls := "ToldTracks", name := "drop", desc := "(II)I" } : Jvm.MethodName) ({ cls := "ToldTracks", name := "drop", desc := "(II)I" } : Jvm.MethodName) ∈ am_ws := am_m5 (List.mem_of_getElem? (i := 188) rfl) rfl
theorem wd1282 : Jvm.Cond.code ({ cls := "ToldTracks", name := "drop", desc := "(II)I" } : Jvm.MethodName) prog_1_method_35_code (3 : Nat) (Option.some Jvm.ClassFile.FieldType.int) ∈ am_ws := am_m5 (List.mem_of_getElem? (i := 189) rfl) rfl
theorem wd1283 : Jvm.Cond.methodLink "ToldTracks" (319 : Nat) ({ cls := "ToldTracks$Ship", name := "remove", desc := "(I)V" } : Jvm.MethodName) ∈ am_ws := am_m5 (List.mem_of_getElem? (i := 190) rfl) rfl
theorem wd1284 : Jvm.Cond.instanceMethod ({ cls := "ToldTracks$Ship", name := "remove", desc := "(I)V" } : Jvm.MethodName) ∈ am_ws := am_m5 (List.mem_of_getElem? (i := 191) rfl) rfl
theorem wd1285 : Jvm.Cond.selects "ToldTracks$Ship" ({ cls := "ToldTracks$Ship", name := "remove", desc := "(I)V" } : Jvm.MethodName) ({ cls := "ToldTracks$Ship", name := "remove", desc := "(I)V" } : Jvm.MethodName) ∈ am_ws := am_m5 (List.mem_of_getElem? (i := 192) rfl) rfl
theorem wd1286 : Jvm.Cond.code ({ cls := "ToldTracks$Ship", name := "remove", desc := "(I)V" } : Jvm.MethodName) prog_8_method_4_code (3 : Nat) (Option.none : Option Jvm.ClassFile.FieldType) ∈ am_ws := am_m5 (List.mem_of_getElem? (i := 193) rfl) rfl
theorem wd1287 : Jvm.Cond.methodLink "ToldTracksLaw" (158 : Nat) ({ cls := "ToldTracks", name := "spot", desc := "(IIII)I" } : Jvm.MethodName) ∈ am_ws := am_m5 (List.mem_of_getElem? (i := 194) rfl) rfl
theorem wd1288 : Jvm.Cond.instanceMethod ({ cls := "ToldTracks", name := "spot", desc := "(IIII)I" } : Jvm.MethodName) ∈ am_ws := am_m5 (List.mem_of_getElem? (i := 195) rfl) rfl
theorem wd1289 : Jvm.Cond.selects "ToldTracks" ({ cls := "ToldTracks", name := "spot", desc := "(IIII)I" } : Jvm.MethodName) ({ cls := "ToldTracks", name := "spot", desc := "(IIII)I" } : Jvm.MethodName) ∈ am_ws := am_m5 (List.mem_of_getElem? (i := 196) rfl) rfl
theorem wd1290 : Jvm.Cond.code ({ cls := "ToldTracks", name := "spot", desc := "(IIII)I" } : Jvm.MethodName) prog_1_method_36_code (6 : Nat) (Option.some Jvm.ClassFile.FieldType.int) ∈ am_ws := am_m5 (List.mem_of_getElem? (i := 197) rfl) rfl
theorem wd1291 : Jvm.Cond.methodLink "ToldTracks" (322 : Nat) ({ cls := "ToldTracks$Sights", name := "append", desc := "(III)V" } : Jvm.MethodName) ∈ am_ws := am_m5 (List.mem_of_getElem? (i := 198) rfl) rfl
theorem wd1292 : Jvm.Cond.methodLink "ToldTracksLaw" (162 : Nat) ({ cls := "ToldTracks", name := "image", desc := "()I" } : Jvm.MethodName) ∈ am_ws := am_m5 (List.mem_of_getElem? (i := 199) rfl) rfl
theorem wd1293 : Jvm.Cond.instanceMethod ({ cls := "ToldTracks", name := "image", desc := "()I" } : Jvm.MethodName) ∈ am_ws := am_m5 (List.mem_of_getElem? (i := 200) rfl) rfl
theorem wd1294 : Jvm.Cond.selects "ToldTracks" ({ cls := "ToldTracks", name := "image", desc := "()I" } : Jvm.MethodName) ({ cls := "ToldTracks", name := "image", desc := "()I" } : Jvm.MethodName) ∈ am_ws := am_m5 (List.mem_of_getElem? (i := 201) rfl) rfl
theorem wd1295 : Jvm.Cond.code ({ cls := "ToldTracks", name := "image", desc := "()I" } : Jvm.MethodName) prog_1_method_37_code (4 : Nat) (Option.some Jvm.ClassFile.FieldType.int) ∈ am_ws := am_m5 (List.mem_of_getElem? (i := 202) rfl) rfl
theorem wd1296 : Jvm.Cond.methodLink "ToldTracks" (329 : Nat) ({ cls := "ToldTracks", name := "write", desc := "(I)V" } : Jvm.MethodName) ∈ am_ws := am_m5 (List.mem_of_getElem? (i := 203) rfl) rfl
theorem wd1298 : Jvm.Cond.instanceMethod ({ cls := "ToldTracks", name := "write", desc := "(I)V" } : Jvm.MethodName) ∈ am_ws := am_m5 (List.mem_of_getElem? (i := 205) rfl) rfl
theorem wd1299 : Jvm.Cond.code ({ cls := "ToldTracks", name := "write", desc := "(I)V" } : Jvm.MethodName) prog_1_method_55_code (2 : Nat) (Option.none : Option Jvm.ClassFile.FieldType) ∈ am_ws := am_m5 (List.mem_of_getElem? (i := 206) rfl) rfl
theorem wd1300 : Jvm.Cond.methodLink "ToldTracks" (332 : Nat) ({ cls := "ToldTracks", name := "checkOf", desc := "([II)I" } : Jvm.MethodName) ∈ am_ws := am_m5 (List.mem_of_getElem? (i := 207) rfl) rfl
theorem wd1301 : Jvm.Cond.static ({ cls := "ToldTracks", name := "checkOf", desc := "([II)I" } : Jvm.MethodName) ∈ am_ws := am_m5 (List.mem_of_getElem? (i := 208) rfl) rfl
theorem wd1302 : Jvm.Cond.code ({ cls := "ToldTracks", name := "checkOf", desc := "([II)I" } : Jvm.MethodName) prog_1_method_56_code (4 : Nat) (Option.some Jvm.ClassFile.FieldType.int) ∈ am_ws := am_m5 (List.mem_of_getElem? (i := 209) rfl) rfl
theorem wd1303 : Jvm.Cond.methodLink "ToldTracksLaw" (166 : Nat) ({ cls := "ToldTracks", name := "octet", desc := "(I)I" } : Jvm.MethodName) ∈ am_ws := am_m5 (List.mem_of_getElem? (i := 210) rfl) rfl
theorem wd1304 : Jvm.Cond.instanceMethod ({ cls := "ToldTracks", name := "octet", desc := "(I)I" } : Jvm.MethodName) ∈ am_ws := am_m5 (List.mem_of_getElem? (i := 211) rfl) rfl
theorem wd1305 : Jvm.Cond.selects "ToldTracks" ({ cls := "ToldTracks", name := "octet", desc := "(I)I" } : Jvm.MethodName) ({ cls := "ToldTracks", name := "octet", desc := "(I)I" } : Jvm.MethodName) ∈ am_ws := am_m5 (List.mem_of_getElem? (i := 212) rfl) rfl
theorem wd1306 : Jvm.Cond.code ({ cls := "ToldTracks", name := "octet", desc := "(I)I" } : Jvm.MethodName) prog_1_method_38_code (2 : Nat) (Option.some Jvm.ClassFile.FieldType.int) ∈ am_ws := am_m5 (List.mem_of_getElem? (i := 213) rfl) rfl
theorem wd1307 : Jvm.Cond.methodLink "ToldTracksLaw" (170 : Nat) ({ cls := "ToldTracks", name := "on", desc := "()Z" } : Jvm.MethodName) ∈ am_ws := am_m5 (List.mem_of_getElem? (i := 214) rfl) rfl
theorem wd1308 : Jvm.Cond.instanceMethod ({ cls := "ToldTracks", name := "on", desc := "()Z" } : Jvm.MethodName) ∈ am_ws := am_m5 (List.mem_of_getElem? (i := 215) rfl) rfl
theorem wd1309 : Jvm.Cond.selects "ToldTracks" ({ cls := "ToldTracks", name := "on", desc := "()Z" } : Jvm.MethodName) ({ cls := "ToldTracks", name := "on", desc := "()Z" } : Jvm.MethodName) ∈ am_ws := am_m5 (List.mem_of_getElem? (i := 216) rfl) rfl
theorem wd1310 : Jvm.Cond.code ({ cls := "ToldTracks", name := "on", desc := "()Z" } : Jvm.MethodName) prog_1_method_39_code (3 : Nat) (Option.some Jvm.ClassFile.FieldType.boolean) ∈ am_ws := am_m5 (List.mem_of_getElem? (i := 217) rfl) rfl
theorem wd1311 : Jvm.Cond.methodLink "ToldTracks" (336 : Nat) ({ cls := "ToldTracks", name := "isImage", desc := "(I)Z" } : Jvm.MethodName) ∈ am_ws := am_m5 (List.mem_of_getElem? (i := 218) rfl) rfl
theorem wd1313 : Jvm.Cond.instanceMethod ({ cls := "ToldTracks", name := "isImage", desc := "(I)Z" } : Jvm.MethodName) ∈ am_ws := am_m5 (List.mem_of_getElem? (i := 220) rfl) rfl
theorem wd1314 : Jvm.Cond.code ({ cls := "ToldTracks", name := "isImage", desc := "(I)Z" } : Jvm.MethodName) prog_1_method_57_code (6 : Nat) (Option.some Jvm.ClassFile.FieldType.boolean) ∈ am_ws := am_m5 (List.mem_of_getElem? (i := 221) rfl) rfl
theorem wd1315 : Jvm.Cond.methodLink "ToldTracks" (386 : Nat) ({ cls := "ToldTracks$Sea", name := "placeOf", desc := "(I)I" } : Jvm.MethodName) ∈ am_ws := am_m5 (List.mem_of_getElem? (i := 222) rfl) rfl
theorem wd1316 : Jvm.Cond.instanceMethod ({ cls := "ToldTracks$Sea", name := "placeOf", desc := "(I)I" } : Jvm.MethodName) ∈ am_ws := am_m5 (List.mem_of_getElem? (i := 223) rfl) rfl
theorem wd1317 : Jvm.Cond.selects "ToldTracks$Sea" ({ cls := "ToldTracks$Sea", name := "placeOf", desc := "(I)I" } : Jvm.MethodName) ({ cls := "ToldTracks$Sea", name := "placeOf", desc := "(I)I" } : Jvm.MethodName) ∈ am_ws := am_m5 (List.mem_of_getElem? (i := 224) rfl) rfl
theorem wd1318 : Jvm.Cond.code ({ cls := "ToldTracks$Sea", name := "placeOf", desc := "(I)I" } : Jvm.MethodName) prog_7_method_7_code (2 : Nat) (Option.some Jvm.ClassFile.FieldType.int) ∈ am_ws := am_m5 (List.mem_of_getElem? (i := 225) rfl) rfl
theorem wd1319 : Jvm.Cond.methodLink "ToldTracks" (339 : Nat) ({ cls := "ToldTracks", name := "takeImage", desc := "()V" } : Jvm.MethodName) ∈ am_ws := am_m5 (List.mem_of_getElem? (i := 226) rfl) rfl
theorem wd1321 : Jvm.Cond.instanceMethod ({ cls := "ToldTracks", name := "takeImage", desc := "()V" } : Jvm.MethodName) ∈ am_ws := am_m5 (List.mem_of_getElem? (i := 228) rfl) rfl
theorem wd1322 : Jvm.Cond.code ({ cls := "ToldTracks", name := "takeImage", desc := "()V" } : Jvm.MethodName) prog_1_method_58_code (4 : Nat) (Option.none : Option Jvm.ClassFile.FieldType) ∈ am_ws := am_m5 (List.mem_of_getElem? (i := 229) rfl) rfl
theorem wd1323 : Jvm.Cond.methodLink "ToldTracksLaw" (175 : Nat) ({ cls := "ToldTracks", name := "status", desc := "(I)I" } : Jvm.MethodName) ∈ am_ws := am_m5 (List.mem_of_getElem? (i := 230) rfl) rfl
theorem wd1324 : Jvm.Cond.instanceMethod ({ cls := "ToldTracks", name := "status", desc := "(I)I" } : Jvm.MethodName) ∈ am_ws := am_m5 (List.mem_of_getElem? (i := 231) rfl) rfl
theorem wd1325 : Jvm.Cond.selects "ToldTracks" ({ cls := "ToldTracks", name := "status", desc := "(I)I" } : Jvm.MethodName) ({ cls := "ToldTracks", name := "status", desc := "(I)I" } : Jvm.MethodName) ∈ am_ws := am_m5 (List.mem_of_getElem? (i := 232) rfl) rfl
theorem wd1326 : Jvm.Cond.code ({ cls := "ToldTracks", name := "status", desc := "(I)I" } : Jvm.MethodName) prog_1_method_40_code (2 : Nat) (Option.some Jvm.ClassFile.FieldType.int) ∈ am_ws := am_m5 (List.mem_of_getElem? (i := 233) rfl) rfl
theorem wd1327 : Jvm.Cond.classLink "ToldTracksLaw" (10 : Nat) "ToldTracksModel" ∈ am_ws := am_m5 (List.mem_of_getElem? (i := 234) rfl) rfl
theorem wd1328 : Jvm.Cond.instantiable "ToldTracksModel" (83 : Nat) ∈ am_ws := am_m5 (List.mem_of_getElem? (i := 235) rfl) rfl
theorem wd1329 : Jvm.Cond.methodLink "ToldTracksLaw" (12 : Nat) ({ cls := "ToldTracksModel", name := "<init>", desc := "()V" } : Jvm.MethodName) ∈ am_ws := am_m5 (List.mem_of_getElem? (i := 236) rfl) rfl
theorem wd1330 : Jvm.Cond.instanceMethod ({ cls := "ToldTracksModel", name := "<init>", desc := "()V" } : Jvm.MethodName) ∈ am_ws := am_m5 (List.mem_of_getElem? (i := 237) rfl) rfl
theorem wd1331 : Jvm.Cond.code ({ cls := "ToldTracksModel", name := "<init>", desc := "()V" } : Jvm.MethodName) prog_13_method_1_code (2 : Nat) (Option.none : Option Jvm.ClassFile.FieldType) ∈ am_ws := am_m5 (List.mem_of_getElem? (i := 238) rfl) rfl
theorem wd1332 : Jvm.Cond.methodLink "ToldTracksModel" (1 : Nat) ({ cls := "java/lang/Object", name := "<init>", desc := "()V" } : Jvm.MethodName) ∈ am_ws := am_m5 (List.mem_of_getElem? (i := 239) rfl) rfl
theorem wd1333 : Jvm.Cond.fieldLink "ToldTracksModel" (7 : Nat) "ToldTracksModel" "tape" "[I" ∈ am_ws := am_m6 (List.mem_of_getElem? (i := 0) rfl) rfl
theorem wd1334 : Jvm.Cond.fieldLink "ToldTracksModel" (13 : Nat) "ToldTracksModel" "taped" "I" ∈ am_ws := am_m6 (List.mem_of_getElem? (i := 1) rfl) rfl
theorem wd1335 : Jvm.Cond.fieldLink "ToldTracksModel" (17 : Nat) "ToldTracksModel" "size" "I" ∈ am_ws := am_m6 (List.mem_of_getElem? (i := 2) rfl) rfl
theorem wd1336 : Jvm.Cond.fieldLink "ToldTracksModel" (20 : Nat) "ToldTracksModel" "sign" "I" ∈ am_ws := am_m6 (List.mem_of_getElem? (i := 3) rfl) rfl
theorem wd1337 : Jvm.Cond.fieldLink "ToldTracksModel" (23 : Nat) "ToldTracksModel" "signAt" "I" ∈ am_ws := am_m6 (List.mem_of_getElem? (i := 4) rfl) rfl
theorem wd1338 : Jvm.Cond.fieldLink "ToldTracksModel" (26 : Nat) "ToldTracksModel" "signEnd" "I" ∈ am_ws := am_m6 (List.mem_of_getElem? (i := 5) rfl) rfl
theorem wd1339 : Jvm.Cond.fieldLink "ToldTracksModel" (29 : Nat) "ToldTracksModel" "value" "I" ∈ am_ws := am_m6 (List.mem_of_getElem? (i := 6) rfl) rfl
theorem wd1340 : Jvm.Cond.fieldLink "ToldTracksModel" (32 : Nat) "ToldTracksModel" "word" "J" ∈ am_ws := am_m6 (List.mem_of_getElem? (i := 7) rfl) rfl
theorem wd1341 : Jvm.Cond.fieldLink "ToldTracksModel" (36 : Nat) "ToldTracksModel" "faultKind" "I" ∈ am_ws := am_m6 (List.mem_of_getElem? (i := 8) rfl) rfl
theorem wd1342 : Jvm.Cond.fieldLink "ToldTracksModel" (39 : Nat) "ToldTracksModel" "faultPlace" "I" ∈ am_ws := am_m6 (List.mem_of_getElem? (i := 9) rfl) rfl
theorem wd1343 : Jvm.Cond.fieldLink "ToldTracksModel" (42 : Nat) "ToldTracksModel" "toldKind" "I" ∈ am_ws := am_m6 (List.mem_of_getElem? (i := 10) rfl) rfl
theorem wd1344 : Jvm.Cond.fieldLink "ToldTracksModel" (45 : Nat) "ToldTracksModel" "toldPlace" "I" ∈ am_ws := am_m6 (List.mem_of_getElem? (i := 11) rfl) rfl
theorem wd1345 : Jvm.Cond.fieldLink "ToldTracksModel" (48 : Nat) "ToldTracksModel" "bank" "I" ∈ am_ws := am_m6 (List.mem_of_getElem? (i := 12) rfl) rfl
theorem wd1346 : Jvm.Cond.fieldLink "ToldTracksModel" (51 : Nat) "ToldTracksModel" "columns" "[I" ∈ am_ws := am_m6 (List.mem_of_getElem? (i := 13) rfl) rfl
theorem wd1347 : Jvm.Cond.fieldLink "ToldTracksModel" (54 : Nat) "ToldTracksModel" "rows" "[I" ∈ am_ws := am_m6 (List.mem_of_getElem? (i := 14) rfl) rfl
theorem wd1348 : Jvm.Cond.fieldLink "ToldTracksModel" (57 : Nat) "ToldTracksModel" "many" "[I" ∈ am_ws := am_m6 (List.mem_of_getElem? (i := 15) rfl) rfl
theorem wd1349 : Jvm.Cond.fieldLink "ToldTracksModel" (60 : Nat) "ToldTracksModel" "sumFrom" "[I" ∈ am_ws := am_m6 (List.mem_of_getElem? (i := 16) rfl) rfl
theorem wd1350 : Jvm.Cond.fieldLink "ToldTracksModel" (63 : Nat) "ToldTracksModel" "testFrom" "[I" ∈ am_ws := am_m6 (List.mem_of_getElem? (i := 17) rfl) rfl
theorem wd1351 : Jvm.Cond.fieldLink "ToldTracksModel" (66 : Nat) "ToldTracksModel" "testTo" "[I" ∈ am_ws := am_m6 (List.mem_of_getElem? (i := 18) rfl) rfl
theorem wd1352 : Jvm.Cond.fieldLink "ToldTracksModel" (69 : Nat) "ToldTracksModel" "ships" "[I" ∈ am_ws := am_m6 (List.mem_of_getElem? (i := 19) rfl) rfl
theorem wd1353 : Jvm.Cond.fieldLink "ToldTracksModel" (72 : Nat) "ToldTracksModel" "shipName" "[J" ∈ am_ws := am_m6 (List.mem_of_getElem? (i := 20) rfl) rfl
theorem wd1354 : Jvm.Cond.fieldLink "ToldTracksModel" (76 : Nat) "ToldTracksModel" "look" "[I" ∈ am_ws := am_m6 (List.mem_of_getElem? (i := 21) rfl) rfl
theorem wd1355 : Jvm.Cond.fieldLink "ToldTracksModel" (79 : Nat) "ToldTracksModel" "speed" "[I" ∈ am_ws := am_m6 (List.mem_of_getElem? (i := 22) rfl) rfl
theorem wd1356 : Jvm.Cond.fieldLink "ToldTracksModel" (82 : Nat) "ToldTracksModel" "draft" "[I" ∈ am_ws := am_m6 (List.mem_of_getElem? (i := 23) rfl) rfl
theorem wd1357 : Jvm.Cond.fieldLink "ToldTracksModel" (85 : Nat) "ToldTracksModel" "load" "[I" ∈ am_ws := am_m6 (List.mem_of_getElem? (i := 24) rfl) rfl
theorem wd1358 : Jvm.Cond.fieldLink "ToldTracksModel" (88 : Nat) "ToldTracksModel" "sayings" "[I" ∈ am_ws := am_m6 (List.mem_of_getElem? (i := 25) rfl) rfl
theorem wd1359 : Jvm.Cond.fieldLink "ToldTracksModel" (91 : Nat) "ToldTracksModel" "cellSaid" "[I" ∈ am_ws := am_m6 (List.mem_of_getElem? (i := 26) rfl) rfl
theorem wd1360 : Jvm.Cond.fieldLink "ToldTracksModel" (94 : Nat) "ToldTracksModel" "isLaden" "[Z" ∈ am_ws := am_m6 (List.mem_of_getElem? (i := 27) rfl) rfl
theorem wd1361 : Jvm.Cond.fieldLink "ToldTracksModel" (98 : Nat) "ToldTracksModel" "books" "[I" ∈ am_ws := am_m6 (List.mem_of_getElem? (i := 28) rfl) rfl
theorem wd1362 : Jvm.Cond.fieldLink "ToldTracksModel" (101 : Nat) "ToldTracksModel" "bookShip" "[I" ∈ am_ws := am_m6 (List.mem_of_getElem? (i := 29) rfl) rfl
theorem wd1363 : Jvm.Cond.fieldLink "ToldTracksModel" (104 : Nat) "ToldTracksModel" "bookCell" "[I" ∈ am_ws := am_m6 (List.mem_of_getElem? (i := 30) rfl) rfl
theorem wd1364 : Jvm.Cond.fieldLink "ToldTracksModel" (107 : Nat) "ToldTracksModel" "bookFrom" "[I" ∈ am_ws := am_m6 (List.mem_of_getElem? (i := 31) rfl) rfl
theorem wd1365 : Jvm.Cond.fieldLink "ToldTracksModel" (110 : Nat) "ToldTracksModel" "bookTo" "[I" ∈ am_ws := am_m6 (List.mem_of_getElem? (i := 32) rfl) rfl
theorem wd1366 : Jvm.Cond.fieldLink "ToldTracksModel" (113 : Nat) "ToldTracksModel" "sights" "[I" ∈ am_ws := am_m6 (List.mem_of_getElem? (i := 33) rfl) rfl
theorem wd1367 : Jvm.Cond.fieldLink "ToldTracksModel" (116 : Nat) "ToldTracksModel" "sightLook" "[I" ∈ am_ws := am_m6 (List.mem_of_getElem? (i := 34) rfl) rfl
theorem wd1368 : Jvm.Cond.fieldLink "ToldTracksModel" (119 : Nat) "ToldTracksModel" "sightCell" "[I" ∈ am_ws := am_m6 (List.mem_of_getElem? (i := 35) rfl) rfl
theorem wd1369 : Jvm.Cond.fieldLink "ToldTracksModel" (122 : Nat) "ToldTracksModel" "sightHour" "[I" ∈ am_ws := am_m6 (List.mem_of_getElem? (i := 36) rfl) rfl
theorem wd1370 : Jvm.Cond.fieldLink "ToldTracksModel" (125 : Nat) "ToldTracksModel" "luck" "[I" ∈ am_ws := am_m6 (List.mem_of_getElem? (i := 37) rfl) rfl
theorem wd1371 : Jvm.Cond.fieldLink "ToldTracksModel" (128 : Nat) "ToldTracksModel" "codeSort" "[I" ∈ am_ws := am_m6 (List.mem_of_getElem? (i := 38) rfl) rfl
theorem wd1372 : Jvm.Cond.fieldLink "ToldTracksModel" (131 : Nat) "ToldTracksModel" "codeValue" "[I" ∈ am_ws := am_m6 (List.mem_of_getElem? (i := 39) rfl) rfl
theorem wd1373 : Jvm.Cond.fieldLink "ToldTracksModel" (134 : Nat) "ToldTracksModel" "codes" "I" ∈ am_ws := am_m6 (List.mem_of_getElem? (i := 40) rfl) rfl
theorem wd1374 : Jvm.Cond.fieldLink "ToldTracksModel" (137 : Nat) "ToldTracksModel" "in" "I" ∈ am_ws := am_m6 (List.mem_of_getElem? (i := 41) rfl) rfl
theorem wd1375 : Jvm.Cond.fieldLink "ToldTracksModel" (140 : Nat) "ToldTracksModel" "frame" "[I" ∈ am_ws := am_m6 (List.mem_of_getElem? (i := 42) rfl) rfl
theorem wd1376 : Jvm.Cond.fieldLink "ToldTracksModel" (143 : Nat) "ToldTracksModel" "phase" "[I" ∈ am_ws := am_m6 (List.mem_of_getElem? (i := 43) rfl) rfl
theorem wd1377 : Jvm.Cond.fieldLink "ToldTracksModel" (146 : Nat) "ToldTracksModel" "begins" "[Z" ∈ am_ws := am_m6 (List.mem_of_getElem? (i := 44) rfl) rfl
theorem wd1378 : Jvm.Cond.fieldLink "ToldTracksModel" (149 : Nat) "ToldTracksModel" "pair" "[I" ∈ am_ws := am_m6 (List.mem_of_getElem? (i := 45) rfl) rfl
theorem wd1379 : Jvm.Cond.fieldLink "ToldTracksModel" (152 : Nat) "ToldTracksModel" "base" "[I" ∈ am_ws := am_m6 (List.mem_of_getElem? (i := 46) rfl) rfl
theorem wd1380 : Jvm.Cond.fieldLink "ToldTracksModel" (155 : Nat) "ToldTracksModel" "deep" "I" ∈ am_ws := am_m6 (List.mem_of_getElem? (i := 47) rfl) rfl
theorem wd1381 : Jvm.Cond.fieldLink "ToldTracksModel" (158 : Nat) "ToldTracksModel" "open" "I" ∈ am_ws := am_m6 (List.mem_of_getElem? (i := 48) rfl) rfl
theorem wd1382 : Jvm.Cond.fieldLink "ToldTracksModel" (161 : Nat) "ToldTracksModel" "ops" "[I" ∈ am_ws := am_m6 (List.mem_of_getElem? (i := 49) rfl) rfl
theorem wd1383 : Jvm.Cond.fieldLink "ToldTracksModel" (164 : Nat) "ToldTracksModel" "opMany" "I" ∈ am_ws := am_m6 (List.mem_of_getElem? (i := 50) rfl) rfl
theorem wd1384 : Jvm.Cond.fieldLink "ToldTracksModel" (167 : Nat) "ToldTracksModel" "operand" "Z" ∈ am_ws := am_m6 (List.mem_of_getElem? (i := 51) rfl) rfl
theorem wd1385 : Jvm.Cond.fieldLink "ToldTracksModel" (171 : Nat) "ToldTracksModel" "refused" "[I" ∈ am_ws := am_m6 (List.mem_of_getElem? (i := 52) rfl) rfl
theorem wd1386 : Jvm.Cond.fieldLink "ToldTracksModel" (174 : Nat) "ToldTracksModel" "heap" "[J" ∈ am_ws := am_m6 (List.mem_of_getElem? (i := 53) rfl) rfl
theorem wd1387 : Jvm.Cond.fieldLink "ToldTracksModel" (177 : Nat) "ToldTracksModel" "moment" "[I" ∈ am_ws := am_m6 (List.mem_of_getElem? (i := 54) rfl) rfl
theorem wd1388 : Jvm.Cond.fieldLink "ToldTracksModel" (180 : Nat) "ToldTracksModel" "depths" "[I" ∈ am_ws := am_m6 (List.mem_of_getElem? (i := 55) rfl) rfl
theorem wd1389 : Jvm.Cond.fieldLink "ToldTracksModel" (183 : Nat) "ToldTracksModel" "costs" "[I" ∈ am_ws := am_m6 (List.mem_of_getElem? (i := 56) rfl) rfl
theorem wd1390 : Jvm.Cond.fieldLink "ToldTracksModel" (186 : Nat) "ToldTracksModel" "steps" "[I" ∈ am_ws := am_m6 (List.mem_of_getElem? (i := 57) rfl) rfl
theorem wd1391 : Jvm.Cond.fieldLink "ToldTracksModel" (189 : Nat) "ToldTracksModel" "queue" "[I" ∈ am_ws := am_m6 (List.mem_of_getElem? (i := 58) rfl) rfl
theorem wd1392 : Jvm.Cond.fieldLink "ToldTracksModel" (192 : Nat) "ToldTracksModel" "queued" "I" ∈ am_ws := am_m6 (List.mem_of_getElem? (i := 59) rfl) rfl
theorem wd1393 : Jvm.Cond.fieldLink "ToldTracksModel" (195 : Nat) "ToldTracksModel" "facts" "I" ∈ am_ws := am_m6 (List.mem_of_getElem? (i := 60) rfl) rfl
theorem wd1394 : Jvm.Cond.fieldLink "ToldTracksModel" (198 : Nat) "ToldTracksModel" "factCell" "[I" ∈ am_ws := am_m6 (List.mem_of_getElem? (i := 61) rfl) rfl
theorem wd1395 : Jvm.Cond.fieldLink "ToldTracksModel" (201 : Nat) "ToldTracksModel" "factFrom" "[I" ∈ am_ws := am_m6 (List.mem_of_getElem? (i := 62) rfl) rfl
theorem wd1396 : Jvm.Cond.fieldLink "ToldTracksModel" (204 : Nat) "ToldTracksModel" "factTo" "[I" ∈ am_ws := am_m6 (List.mem_of_getElem? (i := 63) rfl) rfl
theorem wd1397 : Jvm.Cond.fieldLink "ToldTracksModel" (207 : Nat) "ToldTracksModel" "isLaid" "Z" ∈ am_ws := am_m6 (List.mem_of_getElem? (i := 64) rfl) rfl
theorem wd1398 : Jvm.Cond.fieldLink "ToldTracksModel" (210 : Nat) "ToldTracksModel" "many48" "I" ∈ am_ws := am_m6 (List.mem_of_getElem? (i := 65) rfl) rfl
theorem wd1399 : Jvm.Cond.fieldLink "ToldTracksModel" (213 : Nat) "ToldTracksModel" "keptMany" "I" ∈ am_ws := am_m6 (List.mem_of_getElem? (i := 66) rfl) rfl
theorem wd1400 : Jvm.Cond.fieldLink "ToldTracksModel" (216 : Nat) "ToldTracksModel" "hours" "[I" ∈ am_ws := am_m6 (List.mem_of_getElem? (i := 67) rfl) rfl
theorem wd1401 : Jvm.Cond.fieldLink "ToldTracksModel" (219 : Nat) "ToldTracksModel" "isGood" "[Z" ∈ am_ws := am_m6 (List.mem_of_getElem? (i := 68) rfl) rfl
theorem wd1402 : Jvm.Cond.fieldLink "ToldTracksModel" (222 : Nat) "ToldTracksModel" "isKept" "[Z" ∈ am_ws := am_m6 (List.mem_of_getElem? (i := 69) rfl) rfl
theorem wd1403 : Jvm.Cond.fieldLink "ToldTracksModel" (225 : Nat) "ToldTracksModel" "goesWith" "[Z" ∈ am_ws := am_m6 (List.mem_of_getElem? (i := 70) rfl) rfl
theorem wd1404 : Jvm.Cond.fieldLink "ToldTracksModel" (228 : Nat) "ToldTracksModel" "longest" "[I" ∈ am_ws := am_m6 (List.mem_of_getElem? (i := 71) rfl) rfl
theorem wd1405 : Jvm.Cond.fieldLink "ToldTracksModel" (231 : Nat) "ToldTracksModel" "farFrom" "[I" ∈ am_ws := am_m6 (List.mem_of_getElem? (i := 72) rfl) rfl
theorem wd1406 : Jvm.Cond.fieldLink "ToldTracksModel" (234 : Nat) "ToldTracksModel" "silentHours" "I" ∈ am_ws := am_m6 (List.mem_of_getElem? (i := 73) rfl) rfl
theorem wd1407 : Jvm.Cond.fieldLink "ToldTracksModel" (237 : Nat) "ToldTracksModel" "set" "[I" ∈ am_ws := am_m6 (List.mem_of_getElem? (i := 74) rfl) rfl
theorem wd1408 : Jvm.Cond.fieldLink "ToldTracksModel" (240 : Nat) "ToldTracksModel" "oldSet" "[I" ∈ am_ws := am_m6 (List.mem_of_getElem? (i := 75) rfl) rfl
theorem wd1409 : Jvm.Cond.fieldLink "ToldTracksModel" (243 : Nat) "ToldTracksModel" "firstMay" "[Z" ∈ am_ws := am_m6 (List.mem_of_getElem? (i := 76) rfl) rfl
theorem wd1410 : Jvm.Cond.fieldLink "ToldTracksModel" (246 : Nat) "ToldTracksModel" "firstHour" "[Z" ∈ am_ws := am_m6 (List.mem_of_getElem? (i := 77) rfl) rfl
theorem wd1411 : Jvm.Cond.fieldLink "ToldTracksModel" (249 : Nat) "ToldTracksModel" "explained" "[I" ∈ am_ws := am_m6 (List.mem_of_getElem? (i := 78) rfl) rfl
theorem wd1412 : Jvm.Cond.fieldLink "ToldTracksModel" (252 : Nat) "ToldTracksModel" "missed" "[J" ∈ am_ws := am_m6 (List.mem_of_getElem? (i := 79) rfl) rfl
theorem wd1413 : Jvm.Cond.fieldLink "ToldTracksModel" (255 : Nat) "ToldTracksModel" "settled" "[I" ∈ am_ws := am_m6 (List.mem_of_getElem? (i := 80) rfl) rfl
theorem wd1414 : Jvm.Cond.fieldLink "ToldTracksModel" (258 : Nat) "ToldTracksModel" "out" "[I" ∈ am_ws := am_m6 (List.mem_of_getElem? (i := 81) rfl) rfl
theorem wd1415 : Jvm.Cond.fieldLink "ToldTracksModel" (261 : Nat) "ToldTracksModel" "outs" "I" ∈ am_ws := am_m6 (List.mem_of_getElem? (i := 82) rfl) rfl
theorem wd1416 : Jvm.Cond.laysFinal "ToldTracksModel" "ToldTracksModel" "tape" "[I" ∈ am_ws := am_m6 (List.mem_of_getElem? (i := 83) rfl) rfl
theorem wd1418 : Jvm.Cond.lays "ToldTracksModel" "ToldTracksModel" "taped" "I" ∈ am_ws := am_m6 (List.mem_of_getElem? (i := 85) rfl) rfl
theorem wd1420 : Jvm.Cond.lays "ToldTracksModel" "ToldTracksModel" "size" "I" ∈ am_ws := am_m6 (List.mem_of_getElem? (i := 87) rfl) rfl
theorem wd1422 : Jvm.Cond.lays "ToldTracksModel" "ToldTracksModel" "sign" "I" ∈ am_ws := am_m6 (List.mem_of_getElem? (i := 89) rfl) rfl
theorem wd1424 : Jvm.Cond.lays "ToldTracksModel" "ToldTracksModel" "signAt" "I" ∈ am_ws := am_m6 (List.mem_of_getElem? (i := 91) rfl) rfl
theorem wd1426 : Jvm.Cond.lays "ToldTracksModel" "ToldTracksModel" "signEnd" "I" ∈ am_ws := am_m6 (List.mem_of_getElem? (i := 93) rfl) rfl
theorem wd1428 : Jvm.Cond.lays "ToldTracksModel" "ToldTracksModel" "value" "I" ∈ am_ws := am_m6 (List.mem_of_getElem? (i := 95) rfl) rfl
theorem wd1430 : Jvm.Cond.lays "ToldTracksModel" "ToldTracksModel" "word" "J" ∈ am_ws := am_m6 (List.mem_of_getElem? (i := 97) rfl) rfl
theorem wd1432 : Jvm.Cond.lays "ToldTracksModel" "ToldTracksModel" "faultKind" "I" ∈ am_ws := am_m6 (List.mem_of_getElem? (i := 99) rfl) rfl
theorem wd1434 : Jvm.Cond.lays "ToldTracksModel" "ToldTracksModel" "faultPlace" "I" ∈ am_ws := am_m6 (List.mem_of_getElem? (i := 101) rfl) rfl
theorem wd1436 : Jvm.Cond.lays "ToldTracksModel" "ToldTracksModel" "toldKind" "I" ∈ am_ws := am_m6 (List.mem_of_getElem? (i := 103) rfl) rfl
theorem wd1438 : Jvm.Cond.lays "ToldTracksModel" "ToldTracksModel" "toldPlace" "I" ∈ am_ws := am_m6 (List.mem_of_getElem? (i := 105) rfl) rfl
theorem wd1440 : Jvm.Cond.lays "ToldTracksModel" "ToldTracksModel" "bank" "I" ∈ am_ws := am_m6 (List.mem_of_getElem? (i := 107) rfl) rfl
theorem wd1442 : Jvm.Cond.laysFinal "ToldTracksModel" "ToldTracksModel" "columns" "[I" ∈ am_ws := am_m6 (List.mem_of_getElem? (i := 109) rfl) rfl
theorem wd1444 : Jvm.Cond.laysFinal "ToldTracksModel" "ToldTracksModel" "rows" "[I" ∈ am_ws := am_m6 (List.mem_of_getElem? (i := 111) rfl) rfl
theorem wd1446 : Jvm.Cond.laysFinal "ToldTracksModel" "ToldTracksModel" "many" "[I" ∈ am_ws := am_m6 (List.mem_of_getElem? (i := 113) rfl) rfl
theorem wd1448 : Jvm.Cond.laysFinal "ToldTracksModel" "ToldTracksModel" "sumFrom" "[I" ∈ am_ws := am_m6 (List.mem_of_getElem? (i := 115) rfl) rfl
theorem wd1450 : Jvm.Cond.laysFinal "ToldTracksModel" "ToldTracksModel" "testFrom" "[I" ∈ am_ws := am_m6 (List.mem_of_getElem? (i := 117) rfl) rfl
theorem wd1452 : Jvm.Cond.laysFinal "ToldTracksModel" "ToldTracksModel" "testTo" "[I" ∈ am_ws := am_m6 (List.mem_of_getElem? (i := 119) rfl) rfl
theorem wd1454 : Jvm.Cond.laysFinal "ToldTracksModel" "ToldTracksModel" "ships" "[I" ∈ am_ws := am_m6 (List.mem_of_getElem? (i := 121) rfl) rfl
theorem wd1456 : Jvm.Cond.laysFinal "ToldTracksModel" "ToldTracksModel" "shipName" "[J" ∈ am_ws := am_m6 (List.mem_of_getElem? (i := 123) rfl) rfl
theorem wd1458 : Jvm.Cond.laysFinal "ToldTracksModel" "ToldTracksModel" "look" "[I" ∈ am_ws := am_m6 (List.mem_of_getElem? (i := 125) rfl) rfl
theorem wd1460 : Jvm.Cond.laysFinal "ToldTracksModel" "ToldTracksModel" "speed" "[I" ∈ am_ws := am_m6 (List.mem_of_getElem? (i := 127) rfl) rfl
theorem wd1462 : Jvm.Cond.laysFinal "ToldTracksModel" "ToldTracksModel" "draft" "[I" ∈ am_ws := am_m6 (List.mem_of_getElem? (i := 129) rfl) rfl
theorem wd1464 : Jvm.Cond.laysFinal "ToldTracksModel" "ToldTracksModel" "load" "[I" ∈ am_ws := am_m6 (List.mem_of_getElem? (i := 131) rfl) rfl
theorem wd1466 : Jvm.Cond.laysFinal "ToldTracksModel" "ToldTracksModel" "sayings" "[I" ∈ am_ws := am_m6 (List.mem_of_getElem? (i := 133) rfl) rfl
theorem wd1468 : Jvm.Cond.laysFinal "ToldTracksModel" "ToldTracksModel" "cellSaid" "[I" ∈ am_ws := am_m6 (List.mem_of_getElem? (i := 135) rfl) rfl
theorem wd1470 : Jvm.Cond.laysFinal "ToldTracksModel" "ToldTracksModel" "isLaden" "[Z" ∈ am_ws := am_m6 (List.mem_of_getElem? (i := 137) rfl) rfl
theorem wd1472 : Jvm.Cond.laysFinal "ToldTracksModel" "ToldTracksModel" "books" "[I" ∈ am_ws := am_m6 (List.mem_of_getElem? (i := 139) rfl) rfl
theorem wd1474 : Jvm.Cond.laysFinal "ToldTracksModel" "ToldTracksModel" "bookShip" "[I" ∈ am_ws := am_m6 (List.mem_of_getElem? (i := 141) rfl) rfl
theorem wd1476 : Jvm.Cond.laysFinal "ToldTracksModel" "ToldTracksModel" "bookCell" "[I" ∈ am_ws := am_m6 (List.mem_of_getElem? (i := 143) rfl) rfl
theorem wd1478 : Jvm.Cond.laysFinal "ToldTracksModel" "ToldTracksModel" "bookFrom" "[I" ∈ am_ws := am_m6 (List.mem_of_getElem? (i := 145) rfl) rfl
theorem wd1480 : Jvm.Cond.laysFinal "ToldTracksModel" "ToldTracksModel" "bookTo" "[I" ∈ am_ws := am_m6 (List.mem_of_getElem? (i := 147) rfl) rfl
theorem wd1482 : Jvm.Cond.laysFinal "ToldTracksModel" "ToldTracksModel" "sights" "[I" ∈ am_ws := am_m6 (List.mem_of_getElem? (i := 149) rfl) rfl
theorem wd1484 : Jvm.Cond.laysFinal "ToldTracksModel" "ToldTracksModel" "sightLook" "[I" ∈ am_ws := am_m6 (List.mem_of_getElem? (i := 151) rfl) rfl
theorem wd1486 : Jvm.Cond.laysFinal "ToldTracksModel" "ToldTracksModel" "sightCell" "[I" ∈ am_ws := am_m6 (List.mem_of_getElem? (i := 153) rfl) rfl
theorem wd1488 : Jvm.Cond.laysFinal "ToldTracksModel" "ToldTracksModel" "sightHour" "[I" ∈ am_ws := am_m6 (List.mem_of_getElem? (i := 155) rfl) rfl
theorem wd1490 : Jvm.Cond.laysFinal "ToldTracksModel" "ToldTracksModel" "luck" "[I" ∈ am_ws := am_m6 (List.mem_of_getElem? (i := 157) rfl) rfl
theorem wd1492 : Jvm.Cond.laysFinal "ToldTracksModel" "ToldTracksModel" "codeSort" "[I" ∈ am_ws := am_m6 (List.mem_of_getElem? (i := 159) rfl) rfl
theorem wd1494 : Jvm.Cond.laysFinal "ToldTracksModel" "ToldTracksModel" "codeValue" "[I" ∈ am_ws := am_m6 (List.mem_of_getElem? (i := 161) rfl) rfl
theorem wd1496 : Jvm.Cond.lays "ToldTracksModel" "ToldTracksModel" "codes" "I" ∈ am_ws := am_m6 (List.mem_of_getElem? (i := 163) rfl) rfl
theorem wd1498 : Jvm.Cond.lays "ToldTracksModel" "ToldTracksModel" "in" "I" ∈ am_ws := am_m6 (List.mem_of_getElem? (i := 165) rfl) rfl
theorem wd1500 : Jvm.Cond.laysFinal "ToldTracksModel" "ToldTracksModel" "frame" "[I" ∈ am_ws := am_m6 (List.mem_of_getElem? (i := 167) rfl) rfl
theorem wd1502 : Jvm.Cond.laysFinal "ToldTracksModel" "ToldTracksModel" "phase" "[I" ∈ am_ws := am_m6 (List.mem_of_getElem? (i := 169) rfl) rfl
theorem wd1504 : Jvm.Cond.laysFinal "ToldTracksModel" "ToldTracksModel" "begins" "[Z" ∈ am_ws := am_m6 (List.mem_of_getElem? (i := 171) rfl) rfl
theorem wd1506 : Jvm.Cond.laysFinal "ToldTracksModel" "ToldTracksModel" "pair" "[I" ∈ am_ws := am_m6 (List.mem_of_getElem? (i := 173) rfl) rfl
theorem wd1508 : Jvm.Cond.laysFinal "ToldTracksModel" "ToldTracksModel" "base" "[I" ∈ am_ws := am_m6 (List.mem_of_getElem? (i := 175) rfl) rfl
theorem wd1510 : Jvm.Cond.lays "ToldTracksModel" "ToldTracksModel" "deep" "I" ∈ am_ws := am_m6 (List.mem_of_getElem? (i := 177) rfl) rfl
theorem wd1512 : Jvm.Cond.lays "ToldTracksModel" "ToldTracksModel" "open" "I" ∈ am_ws := am_m6 (List.mem_of_getElem? (i := 179) rfl) rfl
theorem wd1514 : Jvm.Cond.laysFinal "ToldTracksModel" "ToldTracksModel" "ops" "[I" ∈ am_ws := am_m6 (List.mem_of_getElem? (i := 181) rfl) rfl
theorem wd1516 : Jvm.Cond.lays "ToldTracksModel" "ToldTracksModel" "opMany" "I" ∈ am_ws := am_m6 (List.mem_of_getElem? (i := 183) rfl) rfl
theorem wd1518 : Jvm.Cond.lays "ToldTracksModel" "ToldTracksModel" "operand" "Z" ∈ am_ws := am_m6 (List.mem_of_getElem? (i := 185) rfl) rfl
theorem wd1520 : Jvm.Cond.laysFinal "ToldTracksModel" "ToldTracksModel" "refused" "[I" ∈ am_ws := am_m6 (List.mem_of_getElem? (i := 187) rfl) rfl
theorem wd1522 : Jvm.Cond.laysFinal "ToldTracksModel" "ToldTracksModel" "heap" "[J" ∈ am_ws := am_m6 (List.mem_of_getElem? (i := 189) rfl) rfl
theorem wd1524 : Jvm.Cond.laysFinal "ToldTracksModel" "ToldTracksModel" "moment" "[I" ∈ am_ws := am_m6 (List.mem_of_getElem? (i := 191) rfl) rfl
theorem wd1526 : Jvm.Cond.laysFinal "ToldTracksModel" "ToldTracksModel" "depths" "[I" ∈ am_ws := am_m6 (List.mem_of_getElem? (i := 193) rfl) rfl
theorem wd1528 : Jvm.Cond.laysFinal "ToldTracksModel" "ToldTracksModel" "costs" "[I" ∈ am_ws := am_m6 (List.mem_of_getElem? (i := 195) rfl) rfl
theorem wd1530 : Jvm.Cond.laysFinal "ToldTracksModel" "ToldTracksModel" "steps" "[I" ∈ am_ws := am_m6 (List.mem_of_getElem? (i := 197) rfl) rfl
theorem wd1532 : Jvm.Cond.laysFinal "ToldTracksModel" "ToldTracksModel" "queue" "[I" ∈ am_ws := am_m6 (List.mem_of_getElem? (i := 199) rfl) rfl
theorem wd1534 : Jvm.Cond.lays "ToldTracksModel" "ToldTracksModel" "queued" "I" ∈ am_ws := am_m6 (List.mem_of_getElem? (i := 201) rfl) rfl
theorem wd1536 : Jvm.Cond.lays "ToldTracksModel" "ToldTracksModel" "facts" "I" ∈ am_ws := am_m6 (List.mem_of_getElem? (i := 203) rfl) rfl
theorem wd1538 : Jvm.Cond.laysFinal "ToldTracksModel" "ToldTracksModel" "factCell" "[I" ∈ am_ws := am_m6 (List.mem_of_getElem? (i := 205) rfl) rfl
theorem wd1540 : Jvm.Cond.laysFinal "ToldTracksModel" "ToldTracksModel" "factFrom" "[I" ∈ am_ws := am_m6 (List.mem_of_getElem? (i := 207) rfl) rfl
theorem wd1542 : Jvm.Cond.laysFinal "ToldTracksModel" "ToldTracksModel" "factTo" "[I" ∈ am_ws := am_m6 (List.mem_of_getElem? (i := 209) rfl) rfl
theorem wd1544 : Jvm.Cond.lays "ToldTracksModel" "ToldTracksModel" "isLaid" "Z" ∈ am_ws := am_m6 (List.mem_of_getElem? (i := 211) rfl) rfl
theorem wd1546 : Jvm.Cond.lays "ToldTracksModel" "ToldTracksModel" "many48" "I" ∈ am_ws := am_m6 (List.mem_of_getElem? (i := 213) rfl) rfl
theorem wd1548 : Jvm.Cond.lays "ToldTracksModel" "ToldTracksModel" "keptMany" "I" ∈ am_ws := am_m6 (List.mem_of_getElem? (i := 215) rfl) rfl
theorem wd1550 : Jvm.Cond.laysFinal "ToldTracksModel" "ToldTracksModel" "hours" "[I" ∈ am_ws := am_m6 (List.mem_of_getElem? (i := 217) rfl) rfl
theorem wd1552 : Jvm.Cond.laysFinal "ToldTracksModel" "ToldTracksModel" "isGood" "[Z" ∈ am_ws := am_m6 (List.mem_of_getElem? (i := 219) rfl) rfl
theorem wd1554 : Jvm.Cond.laysFinal "ToldTracksModel" "ToldTracksModel" "isKept" "[Z" ∈ am_ws := am_m6 (List.mem_of_getElem? (i := 221) rfl) rfl
theorem wd1556 : Jvm.Cond.laysFinal "ToldTracksModel" "ToldTracksModel" "goesWith" "[Z" ∈ am_ws := am_m6 (List.mem_of_getElem? (i := 223) rfl) rfl
theorem wd1558 : Jvm.Cond.laysFinal "ToldTracksModel" "ToldTracksModel" "longest" "[I" ∈ am_ws := am_m6 (List.mem_of_getElem? (i := 225) rfl) rfl
theorem wd1560 : Jvm.Cond.laysFinal "ToldTracksModel" "ToldTracksModel" "farFrom" "[I" ∈ am_ws := am_m6 (List.mem_of_getElem? (i := 227) rfl) rfl
theorem wd1562 : Jvm.Cond.lays "ToldTracksModel" "ToldTracksModel" "silentHours" "I" ∈ am_ws := am_m6 (List.mem_of_getElem? (i := 229) rfl) rfl
theorem wd1564 : Jvm.Cond.laysFinal "ToldTracksModel" "ToldTracksModel" "set" "[I" ∈ am_ws := am_m6 (List.mem_of_getElem? (i := 231) rfl) rfl
theorem wd1566 : Jvm.Cond.laysFinal "ToldTracksModel" "ToldTracksModel" "oldSet" "[I" ∈ am_ws := am_m6 (List.mem_of_getElem? (i := 233) rfl) rfl
theorem wd1568 : Jvm.Cond.laysFinal "ToldTracksModel" "ToldTracksModel" "firstMay" "[Z" ∈ am_ws := am_m6 (List.mem_of_getElem? (i := 235) rfl) rfl
theorem wd1570 : Jvm.Cond.laysFinal "ToldTracksModel" "ToldTracksModel" "firstHour" "[Z" ∈ am_ws := am_m6 (List.mem_of_getElem? (i := 237) rfl) rfl
theorem wd1572 : Jvm.Cond.laysFinal "ToldTracksModel" "ToldTracksModel" "explained" "[I" ∈ am_ws := am_m6 (List.mem_of_getElem? (i := 239) rfl) rfl
theorem wd1574 : Jvm.Cond.laysFinal "ToldTracksModel" "ToldTracksModel" "missed" "[J" ∈ am_ws := am_m7 (List.mem_of_getElem? (i := 1) rfl) rfl
theorem wd1576 : Jvm.Cond.laysFinal "ToldTracksModel" "ToldTracksModel" "settled" "[I" ∈ am_ws := am_m7 (List.mem_of_getElem? (i := 3) rfl) rfl
theorem wd1578 : Jvm.Cond.laysFinal "ToldTracksModel" "ToldTracksModel" "out" "[I" ∈ am_ws := am_m7 (List.mem_of_getElem? (i := 5) rfl) rfl
theorem wd1580 : Jvm.Cond.lays "ToldTracksModel" "ToldTracksModel" "outs" "I" ∈ am_ws := am_m7 (List.mem_of_getElem? (i := 7) rfl) rfl
theorem wd1583 : Jvm.Cond.methodLink "ToldTracksLaw" (17 : Nat) ({ cls := "ToldTracksModel", name := "feed", desc := "(IIIII)I" } : Jvm.MethodName) ∈ am_ws := am_m7 (List.mem_of_getElem? (i := 10) rfl) rfl
theorem wd1584 : Jvm.Cond.instanceMethod ({ cls := "ToldTracksModel", name := "feed", desc := "(IIIII)I" } : Jvm.MethodName) ∈ am_ws := am_m7 (List.mem_of_getElem? (i := 11) rfl) rfl
theorem wd1585 : Jvm.Cond.selects "ToldTracksModel" ({ cls := "ToldTracksModel", name := "feed", desc := "(IIIII)I" } : Jvm.MethodName) ({ cls := "ToldTracksModel", name := "feed", desc := "(IIIII)I" } : Jvm.MethodName) ∈ am_ws := am_m7 (List.mem_of_getElem? (i := 12) rfl) rfl
theorem wd1586 : Jvm.Cond.code ({ cls := "ToldTracksModel", name := "feed", desc := "(IIIII)I" } : Jvm.MethodName) prog_13_method_4_code (6 : Nat) (Option.some Jvm.ClassFile.FieldType.int) ∈ am_ws := am_m7 (List.mem_of_getElem? (i := 13) rfl) rfl
theorem wd1587 : Jvm.Cond.methodLink "ToldTracksModel" (264 : Nat) ({ cls := "ToldTracksModel", name := "refuses", desc := "(I)I" } : Jvm.MethodName) ∈ am_ws := am_m7 (List.mem_of_getElem? (i := 14) rfl) rfl
theorem wd1589 : Jvm.Cond.instanceMethod ({ cls := "ToldTracksModel", name := "refuses", desc := "(I)I" } : Jvm.MethodName) ∈ am_ws := am_m7 (List.mem_of_getElem? (i := 16) rfl) rfl
theorem wd1590 : Jvm.Cond.code ({ cls := "ToldTracksModel", name := "refuses", desc := "(I)I" } : Jvm.MethodName) prog_13_method_43_code (2 : Nat) (Option.some Jvm.ClassFile.FieldType.int) ∈ am_ws := am_m7 (List.mem_of_getElem? (i := 17) rfl) rfl
theorem wd1591 : Jvm.Cond.methodLink "ToldTracksModel" (268 : Nat) ({ cls := "ToldTracksModel", name := "put", desc := "(I)V" } : Jvm.MethodName) ∈ am_ws := am_m7 (List.mem_of_getElem? (i := 18) rfl) rfl
theorem wd1593 : Jvm.Cond.instanceMethod ({ cls := "ToldTracksModel", name := "put", desc := "(I)V" } : Jvm.MethodName) ∈ am_ws := am_m7 (List.mem_of_getElem? (i := 20) rfl) rfl
theorem wd1594 : Jvm.Cond.code ({ cls := "ToldTracksModel", name := "put", desc := "(I)V" } : Jvm.MethodName) prog_13_method_3_code (3 : Nat) (Option.none : Option Jvm.ClassFile.FieldType) ∈ am_ws := am_m7 (List.mem_of_getElem? (i := 21) rfl) rfl
theorem wd1595 : Jvm.Cond.methodLink "ToldTracksLaw" (22 : Nat) ({ cls := "ToldTracksModel", name := "end", desc := "(I)Z" } : Jvm.MethodName) ∈ am_ws := am_m7 (List.mem_of_getElem? (i := 22) rfl) rfl
theorem wd1596 : Jvm.Cond.instanceMethod ({ cls := "ToldTracksModel", name := "end", desc := "(I)Z" } : Jvm.MethodName) ∈ am_ws := am_m7 (List.mem_of_getElem? (i := 23) rfl) rfl
theorem wd1597 : Jvm.Cond.selects "ToldTracksModel" ({ cls := "ToldTracksModel", name := "end", desc := "(I)Z" } : Jvm.MethodName) ({ cls := "ToldTracksModel", name := "end", desc := "(I)Z" } : Jvm.MethodName) ∈ am_ws := am_m7 (List.mem_of_getElem? (i := 24) rfl) rfl
theorem wd1598 : Jvm.Cond.code ({ cls := "ToldTracksModel", name := "end", desc := "(I)Z" } : Jvm.MethodName) prog_13_method_5_code (2 : Nat) (Option.some Jvm.ClassFile.FieldType.boolean) ∈ am_ws := am_m7 (List.mem_of_getElem? (i := 25) rfl) rfl
theorem wd1599 : Jvm.Cond.methodLink "ToldTracksLaw" (27 : Nat) ({ cls := "ToldTracksModel", name := "sea", desc := "()I" } : Jvm.MethodName) ∈ am_ws := am_m7 (List.mem_of_getElem? (i := 26) rfl) rfl
theorem wd1600 : Jvm.Cond.instanceMethod ({ cls := "ToldTracksModel", name := "sea", desc := "()I" } : Jvm.MethodName) ∈ am_ws := am_m7 (List.mem_of_getElem? (i := 27) rfl) rfl
theorem wd1601 : Jvm.Cond.selects "ToldTracksModel" ({ cls := "ToldTracksModel", name := "sea", desc := "()I" } : Jvm.MethodName) ({ cls := "ToldTracksModel", name := "sea", desc := "()I" } : Jvm.MethodName) ∈ am_ws := am_m7 (List.mem_of_getElem? (i := 28) rfl) rfl
theorem wd1602 : Jvm.Cond.code ({ cls := "ToldTracksModel", name := "sea", desc := "()I" } : Jvm.MethodName) prog_13_method_41_code (2 : Nat) (Option.some Jvm.ClassFile.FieldType.int) ∈ am_ws := am_m7 (List.mem_of_getElem? (i := 29) rfl) rfl
theorem wd1603 : Jvm.Cond.methodLink "ToldTracksModel" (286 : Nat) ({ cls := "ToldTracksModel", name := "ahead", desc := "()V" } : Jvm.MethodName) ∈ am_ws := am_m7 (List.mem_of_getElem? (i := 30) rfl) rfl
theorem wd1605 : Jvm.Cond.instanceMethod ({ cls := "ToldTracksModel", name := "ahead", desc := "()V" } : Jvm.MethodName) ∈ am_ws := am_m7 (List.mem_of_getElem? (i := 32) rfl) rfl
theorem wd1606 : Jvm.Cond.code ({ cls := "ToldTracksModel", name := "ahead", desc := "()V" } : Jvm.MethodName) prog_13_method_9_code (6 : Nat) (Option.none : Option Jvm.ClassFile.FieldType) ∈ am_ws := am_m7 (List.mem_of_getElem? (i := 33) rfl) rfl
theorem wd1607 : Jvm.Cond.methodLink "ToldTracksModel" (272 : Nat) ({ cls := "ToldTracksModel", name := "isLetter", desc := "(I)Z" } : Jvm.MethodName) ∈ am_ws := am_m7 (List.mem_of_getElem? (i := 34) rfl) rfl
theorem wd1608 : Jvm.Cond.static ({ cls := "ToldTracksModel", name := "isLetter", desc := "(I)Z" } : Jvm.MethodName) ∈ am_ws := am_m7 (List.mem_of_getElem? (i := 35) rfl) rfl
theorem wd1609 : Jvm.Cond.code ({ cls := "ToldTracksModel", name := "isLetter", desc := "(I)Z" } : Jvm.MethodName) prog_13_method_7_code (1 : Nat) (Option.some Jvm.ClassFile.FieldType.boolean) ∈ am_ws := am_m7 (List.mem_of_getElem? (i := 36) rfl) rfl
theorem wd1610 : Jvm.Cond.methodLink "ToldTracksModel" (276 : Nat) ({ cls := "ToldTracksModel", name := "isDigit", desc := "(I)Z" } : Jvm.MethodName) ∈ am_ws := am_m7 (List.mem_of_getElem? (i := 37) rfl) rfl
theorem wd1611 : Jvm.Cond.static ({ cls := "ToldTracksModel", name := "isDigit", desc := "(I)Z" } : Jvm.MethodName) ∈ am_ws := am_m7 (List.mem_of_getElem? (i := 38) rfl) rfl
theorem wd1612 : Jvm.Cond.code ({ cls := "ToldTracksModel", name := "isDigit", desc := "(I)Z" } : Jvm.MethodName) prog_13_method_8_code (1 : Nat) (Option.some Jvm.ClassFile.FieldType.boolean) ∈ am_ws := am_m7 (List.mem_of_getElem? (i := 39) rfl) rfl
theorem wd1613 : Jvm.Cond.methodLink "ToldTracksModel" (279 : Nat) ({ cls := "ToldTracksModel", name := "blame", desc := "(II)V" } : Jvm.MethodName) ∈ am_ws := am_m7 (List.mem_of_getElem? (i := 40) rfl) rfl
theorem wd1615 : Jvm.Cond.instanceMethod ({ cls := "ToldTracksModel", name := "blame", desc := "(II)V" } : Jvm.MethodName) ∈ am_ws := am_m7 (List.mem_of_getElem? (i := 42) rfl) rfl
theorem wd1616 : Jvm.Cond.code ({ cls := "ToldTracksModel", name := "blame", desc := "(II)V" } : Jvm.MethodName) prog_13_method_6_code (3 : Nat) (Option.none : Option Jvm.ClassFile.FieldType) ∈ am_ws := am_m7 (List.mem_of_getElem? (i := 43) rfl) rfl
theorem wd1617 : Jvm.Cond.methodLink "ToldTracksModel" (438 : Nat) ({ cls := "ToldTracksModel", name := "sizes", desc := "()V" } : Jvm.MethodName) ∈ am_ws := am_m7 (List.mem_of_getElem? (i := 44) rfl) rfl
theorem wd1619 : Jvm.Cond.instanceMethod ({ cls := "ToldTracksModel", name := "sizes", desc := "()V" } : Jvm.MethodName) ∈ am_ws := am_m7 (List.mem_of_getElem? (i := 46) rfl) rfl
theorem wd1620 : Jvm.Cond.code ({ cls := "ToldTracksModel", name := "sizes", desc := "()V" } : Jvm.MethodName) prog_13_method_32_code (1 : Nat) (Option.none : Option Jvm.ClassFile.FieldType) ∈ am_ws := am_m7 (List.mem_of_getElem? (i := 47) rfl) rfl
theorem wd1621 : Jvm.Cond.constantLong "ToldTracksModel" (289 : Nat) (1936292453 : Int64) ∈ am_ws := am_m7 (List.mem_of_getElem? (i := 48) rfl) rfl
theorem wd1622 : Jvm.Cond.methodLink "ToldTracksModel" (359 : Nat) ({ cls := "ToldTracksModel", name := "isWord", desc := "(J)Z" } : Jvm.MethodName) ∈ am_ws := am_m7 (List.mem_of_getElem? (i := 49) rfl) rfl
theorem wd1624 : Jvm.Cond.instanceMethod ({ cls := "ToldTracksModel", name := "isWord", desc := "(J)Z" } : Jvm.MethodName) ∈ am_ws := am_m7 (List.mem_of_getElem? (i := 51) rfl) rfl
theorem wd1625 : Jvm.Cond.code ({ cls := "ToldTracksModel", name := "isWord", desc := "(J)Z" } : Jvm.MethodName) prog_13_method_11_code (3 : Nat) (Option.some Jvm.ClassFile.FieldType.boolean) ∈ am_ws := am_m7 (List.mem_of_getElem? (i := 52) rfl) rfl
theorem wd1626 : Jvm.Cond.methodLink "ToldTracksModel" (385 : Nat) ({ cls := "ToldTracksModel", name := "number", desc := "(II)I" } : Jvm.MethodName) ∈ am_ws := am_m7 (List.mem_of_getElem? (i := 53) rfl) rfl
theorem wd1628 : Jvm.Cond.instanceMethod ({ cls := "ToldTracksModel", name := "number", desc := "(II)I" } : Jvm.MethodName) ∈ am_ws := am_m7 (List.mem_of_getElem? (i := 55) rfl) rfl
theorem wd1629 : Jvm.Cond.code ({ cls := "ToldTracksModel", name := "number", desc := "(II)I" } : Jvm.MethodName) prog_13_method_17_code (4 : Nat) (Option.some Jvm.ClassFile.FieldType.int) ∈ am_ws := am_m7 (List.mem_of_getElem? (i := 56) rfl) rfl
theorem wd1630 : Jvm.Cond.methodLink "ToldTracksModel" (343 : Nat) ({ cls := "ToldTracksModel", name := "is", desc := "(III)Z" } : Jvm.MethodName) ∈ am_ws := am_m7 (List.mem_of_getElem? (i := 57) rfl) rfl
theorem wd1631 : Jvm.Cond.static ({ cls := "ToldTracksModel", name := "is", desc := "(III)Z" } : Jvm.MethodName) ∈ am_ws := am_m7 (List.mem_of_getElem? (i := 58) rfl) rfl
theorem wd1632 : Jvm.Cond.code ({ cls := "ToldTracksModel", name := "is", desc := "(III)Z" } : Jvm.MethodName) prog_13_method_2_code (3 : Nat) (Option.some Jvm.ClassFile.FieldType.boolean) ∈ am_ws := am_m7 (List.mem_of_getElem? (i := 59) rfl) rfl
theorem wd1633 : Jvm.Cond.methodLink "ToldTracksModel" (389 : Nat) ({ cls := "ToldTracksModel", name := "must", desc := "(I)V" } : Jvm.MethodName) ∈ am_ws := am_m7 (List.mem_of_getElem? (i := 60) rfl) rfl
theorem wd1635 : Jvm.Cond.instanceMethod ({ cls := "ToldTracksModel", name := "must", desc := "(I)V" } : Jvm.MethodName) ∈ am_ws := am_m7 (List.mem_of_getElem? (i := 62) rfl) rfl
theorem wd1636 : Jvm.Cond.code ({ cls := "ToldTracksModel", name := "must", desc := "(I)V" } : Jvm.MethodName) prog_13_method_12_code (2 : Nat) (Option.none : Option Jvm.ClassFile.FieldType) ∈ am_ws := am_m7 (List.mem_of_getElem? (i := 63) rfl) rfl
theorem wd1637 : Jvm.Cond.methodLink "ToldTracksModel" (283 : Nat) ({ cls := "ToldTracksModel", name := "isSign", desc := "(I)Z" } : Jvm.MethodName) ∈ am_ws := am_m7 (List.mem_of_getElem? (i := 64) rfl) rfl
theorem wd1639 : Jvm.Cond.instanceMethod ({ cls := "ToldTracksModel", name := "isSign", desc := "(I)Z" } : Jvm.MethodName) ∈ am_ws := am_m7 (List.mem_of_getElem? (i := 66) rfl) rfl
theorem wd1640 : Jvm.Cond.code ({ cls := "ToldTracksModel", name := "isSign", desc := "(I)Z" } : Jvm.MethodName) prog_13_method_10_code (2 : Nat) (Option.some Jvm.ClassFile.FieldType.boolean) ∈ am_ws := am_m7 (List.mem_of_getElem? (i := 67) rfl) rfl
theorem wd1641 : Jvm.Cond.methodLink "ToldTracksModel" (441 : Nat) ({ cls := "ToldTracksModel", name := "statement", desc := "()V" } : Jvm.MethodName) ∈ am_ws := am_m7 (List.mem_of_getElem? (i := 68) rfl) rfl
theorem wd1643 : Jvm.Cond.instanceMethod ({ cls := "ToldTracksModel", name := "statement", desc := "()V" } : Jvm.MethodName) ∈ am_ws := am_m7 (List.mem_of_getElem? (i := 70) rfl) rfl
theorem wd1644 : Jvm.Cond.code ({ cls := "ToldTracksModel", name := "statement", desc := "()V" } : Jvm.MethodName) prog_13_method_40_code (1 : Nat) (Option.none : Option Jvm.ClassFile.FieldType) ∈ am_ws := am_m7 (List.mem_of_getElem? (i := 71) rfl) rfl
theorem wd1645 : Jvm.Cond.constantLong "ToldTracksModel" (291 : Nat) (431198598248 : Int64) ∈ am_ws := am_m7 (List.mem_of_getElem? (i := 72) rfl) rfl
theorem wd1646 : Jvm.Cond.methodLink "ToldTracksModel" (420 : Nat) ({ cls := "ToldTracksModel", name := "rule", desc := "(I)V" } : Jvm.MethodName) ∈ am_ws := am_m7 (List.mem_of_getElem? (i := 73) rfl) rfl
theorem wd1648 : Jvm.Cond.instanceMethod ({ cls := "ToldTracksModel", name := "rule", desc := "(I)V" } : Jvm.MethodName) ∈ am_ws := am_m7 (List.mem_of_getElem? (i := 75) rfl) rfl
theorem wd1649 : Jvm.Cond.code ({ cls := "ToldTracksModel", name := "rule", desc := "(I)V" } : Jvm.MethodName) prog_13_method_33_code (3 : Nat) (Option.none : Option Jvm.ClassFile.FieldType) ∈ am_ws := am_m7 (List.mem_of_getElem? (i := 76) rfl) rfl
theorem wd1650 : Jvm.Cond.methodLink "ToldTracksModel" (392 : Nat) ({ cls := "ToldTracksModel", name := "mostRules", desc := "(I)I" } : Jvm.MethodName) ∈ am_ws := am_m7 (List.mem_of_getElem? (i := 77) rfl) rfl
theorem wd1651 : Jvm.Cond.static ({ cls := "ToldTracksModel", name := "mostRules", desc := "(I)I" } : Jvm.MethodName) ∈ am_ws := am_m7 (List.mem_of_getElem? (i := 78) rfl) rfl
theorem wd1652 : Jvm.Cond.code ({ cls := "ToldTracksModel", name := "mostRules", desc := "(I)I" } : Jvm.MethodName) prog_13_method_15_code (1 : Nat) (Option.some Jvm.ClassFile.FieldType.int) ∈ am_ws := am_m7 (List.mem_of_getElem? (i := 79) rfl) rfl
theorem wd1653 : Jvm.Cond.methodLink "ToldTracksModel" (395 : Nat) ({ cls := "ToldTracksModel", name := "counts", desc := "(Z)Z" } : Jvm.MethodName) ∈ am_ws := am_m7 (List.mem_of_getElem? (i := 80) rfl) rfl
theorem wd1655 : Jvm.Cond.instanceMethod ({ cls := "ToldTracksModel", name := "counts", desc := "(Z)Z" } : Jvm.MethodName) ∈ am_ws := am_m7 (List.mem_of_getElem? (i := 82) rfl) rfl
theorem wd1656 : Jvm.Cond.code ({ cls := "ToldTracksModel", name := "counts", desc := "(Z)Z" } : Jvm.MethodName) prog_13_method_28_code (2 : Nat) (Option.some Jvm.ClassFile.FieldType.boolean) ∈ am_ws := am_m7 (List.mem_of_getElem? (i := 83) rfl) rfl
theorem wd1657 : Jvm.Cond.methodLink "ToldTracksModel" (399 : Nat) ({ cls := "ToldTracksModel", name := "firstRule", desc := "(I)I" } : Jvm.MethodName) ∈ am_ws := am_m7 (List.mem_of_getElem? (i := 84) rfl) rfl
theorem wd1658 : Jvm.Cond.static ({ cls := "ToldTracksModel", name := "firstRule", desc := "(I)I" } : Jvm.MethodName) ∈ am_ws := am_m7 (List.mem_of_getElem? (i := 85) rfl) rfl
theorem wd1659 : Jvm.Cond.code ({ cls := "ToldTracksModel", name := "firstRule", desc := "(I)I" } : Jvm.MethodName) prog_13_method_14_code (1 : Nat) (Option.some Jvm.ClassFile.FieldType.int) ∈ am_ws := am_m7 (List.mem_of_getElem? (i := 86) rfl) rfl
theorem wd1660 : Jvm.Cond.methodLink "ToldTracksModel" (402 : Nat) ({ cls := "ToldTracksModel", name := "reads", desc := "(Z)V" } : Jvm.MethodName) ∈ am_ws := am_m7 (List.mem_of_getElem? (i := 87) rfl) rfl
theorem wd1662 : Jvm.Cond.instanceMethod ({ cls := "ToldTracksModel", name := "reads", desc := "(Z)V" } : Jvm.MethodName) ∈ am_ws := am_m7 (List.mem_of_getElem? (i := 89) rfl) rfl
theorem wd1663 : Jvm.Cond.code ({ cls := "ToldTracksModel", name := "reads", desc := "(Z)V" } : Jvm.MethodName) prog_13_method_27_code (3 : Nat) (Option.none : Option Jvm.ClassFile.FieldType) ∈ am_ws := am_m7 (List.mem_of_getElem? (i := 90) rfl) rfl
theorem wd1664 : Jvm.Cond.methodLink "ToldTracksModel" (353 : Nat) ({ cls := "ToldTracksModel", name := "pushes", desc := "(I)V" } : Jvm.MethodName) ∈ am_ws := am_m7 (List.mem_of_getElem? (i := 91) rfl) rfl
theorem wd1666 : Jvm.Cond.instanceMethod ({ cls := "ToldTracksModel", name := "pushes", desc := "(I)V" } : Jvm.MethodName) ∈ am_ws := am_m7 (List.mem_of_getElem? (i := 93) rfl) rfl
theorem wd1667 : Jvm.Cond.code ({ cls := "ToldTracksModel", name := "pushes", desc := "(I)V" } : Jvm.MethodName) prog_13_method_22_code (2 : Nat) (Option.none : Option Jvm.ClassFile.FieldType) ∈ am_ws := am_m7 (List.mem_of_getElem? (i := 94) rfl) rfl
theorem wd1668 : Jvm.Cond.methodLink "ToldTracksModel" (372 : Nat) ({ cls := "ToldTracksModel", name := "operand", desc := "()Z" } : Jvm.MethodName) ∈ am_ws := am_m7 (List.mem_of_getElem? (i := 95) rfl) rfl
theorem wd1670 : Jvm.Cond.instanceMethod ({ cls := "ToldTracksModel", name := "operand", desc := "()Z" } : Jvm.MethodName) ∈ am_ws := am_m7 (List.mem_of_getElem? (i := 97) rfl) rfl
theorem wd1671 : Jvm.Cond.code ({ cls := "ToldTracksModel", name := "operand", desc := "()Z" } : Jvm.MethodName) prog_13_method_25_code (4 : Nat) (Option.some Jvm.ClassFile.FieldType.boolean) ∈ am_ws := am_m7 (List.mem_of_getElem? (i := 98) rfl) rfl
theorem wd1672 : Jvm.Cond.methodLink "ToldTracksModel" (356 : Nat) ({ cls := "ToldTracksModel", name := "isTest", desc := "(I)Z" } : Jvm.MethodName) ∈ am_ws := am_m7 (List.mem_of_getElem? (i := 99) rfl) rfl
theorem wd1673 : Jvm.Cond.static ({ cls := "ToldTracksModel", name := "isTest", desc := "(I)Z" } : Jvm.MethodName) ∈ am_ws := am_m7 (List.mem_of_getElem? (i := 100) rfl) rfl
theorem wd1674 : Jvm.Cond.code ({ cls := "ToldTracksModel", name := "isTest", desc := "(I)Z" } : Jvm.MethodName) prog_13_method_24_code (1 : Nat) (Option.some Jvm.ClassFile.FieldType.boolean) ∈ am_ws := am_m7 (List.mem_of_getElem? (i := 101) rfl) rfl
theorem wd1675 : Jvm.Cond.constantLong "ToldTracksModel" (331 : Nat) (7237492 : Int64) ∈ am_ws := am_m7 (List.mem_of_getElem? (i := 102) rfl) rfl
theorem wd1676 : Jvm.Cond.methodLink "ToldTracksModel" (363 : Nat) ({ cls := "ToldTracksModel", name := "holdsBack", desc := "(I)V" } : Jvm.MethodName) ∈ am_ws := am_m7 (List.mem_of_getElem? (i := 103) rfl) rfl
theorem wd1678 : Jvm.Cond.instanceMethod ({ cls := "ToldTracksModel", name := "holdsBack", desc := "(I)V" } : Jvm.MethodName) ∈ am_ws := am_m7 (List.mem_of_getElem? (i := 105) rfl) rfl
theorem wd1679 : Jvm.Cond.code ({ cls := "ToldTracksModel", name := "holdsBack", desc := "(I)V" } : Jvm.MethodName) prog_13_method_21_code (2 : Nat) (Option.none : Option Jvm.ClassFile.FieldType) ∈ am_ws := am_m7 (List.mem_of_getElem? (i := 106) rfl) rfl
theorem wd1680 : Jvm.Cond.methodLink "ToldTracksModel" (366 : Nat) ({ cls := "ToldTracksModel", name := "opens", desc := "(I)V" } : Jvm.MethodName) ∈ am_ws := am_m7 (List.mem_of_getElem? (i := 107) rfl) rfl
theorem wd1682 : Jvm.Cond.instanceMethod ({ cls := "ToldTracksModel", name := "opens", desc := "(I)V" } : Jvm.MethodName) ∈ am_ws := am_m7 (List.mem_of_getElem? (i := 109) rfl) rfl
theorem wd1683 : Jvm.Cond.code ({ cls := "ToldTracksModel", name := "opens", desc := "(I)V" } : Jvm.MethodName) prog_13_method_23_code (2 : Nat) (Option.none : Option Jvm.ClassFile.FieldType) ∈ am_ws := am_m7 (List.mem_of_getElem? (i := 110) rfl) rfl
theorem wd1684 : Jvm.Cond.constantLong "ToldTracksModel" (333 : Nat) (6384748 : Int64) ∈ am_ws := am_m7 (List.mem_of_getElem? (i := 111) rfl) rfl
theorem wd1685 : Jvm.Cond.methodLink "ToldTracksModel" (350 : Nat) ({ cls := "ToldTracksModel", name := "add", desc := "(II)V" } : Jvm.MethodName) ∈ am_ws := am_m7 (List.mem_of_getElem? (i := 112) rfl) rfl
theorem wd1687 : Jvm.Cond.instanceMethod ({ cls := "ToldTracksModel", name := "add", desc := "(II)V" } : Jvm.MethodName) ∈ am_ws := am_m7 (List.mem_of_getElem? (i := 114) rfl) rfl
theorem wd1688 : Jvm.Cond.code ({ cls := "ToldTracksModel", name := "add", desc := "(II)V" } : Jvm.MethodName) prog_13_method_18_code (3 : Nat) (Option.none : Option Jvm.ClassFile.FieldType) ∈ am_ws := am_m7 (List.mem_of_getElem? (i := 115) rfl) rfl
theorem wd1689 : Jvm.Cond.constantLong "ToldTracksModel" (339 : Nat) (7170414 : Int64) ∈ am_ws := am_m7 (List.mem_of_getElem? (i := 116) rfl) rfl
theorem wd1690 : Jvm.Cond.constantLong "ToldTracksModel" (341 : Nat) (7168376 : Int64) ∈ am_ws := am_m7 (List.mem_of_getElem? (i := 117) rfl) rfl
theorem wd1691 : Jvm.Cond.constantLong "ToldTracksModel" (335 : Nat) (109330212154734 : Int64) ∈ am_ws := am_m7 (List.mem_of_getElem? (i := 118) rfl) rfl
theorem wd1692 : Jvm.Cond.constantLong "ToldTracksModel" (337 : Nat) (7499639 : Int64) ∈ am_ws := am_m7 (List.mem_of_getElem? (i := 119) rfl) rfl
theorem wd1693 : Jvm.Cond.constantLong "ToldTracksModel" (321 : Nat) (1752135026 : Int64) ∈ am_ws := am_m7 (List.mem_of_getElem? (i := 120) rfl) rfl
theorem wd1694 : Jvm.Cond.methodLink "ToldTracksModel" (375 : Nat) ({ cls := "ToldTracksModel", name := "goesOn", desc := "()Z" } : Jvm.MethodName) ∈ am_ws := am_m7 (List.mem_of_getElem? (i := 121) rfl) rfl
theorem wd1696 : Jvm.Cond.instanceMethod ({ cls := "ToldTracksModel", name := "goesOn", desc := "()Z" } : Jvm.MethodName) ∈ am_ws := am_m7 (List.mem_of_getElem? (i := 123) rfl) rfl
theorem wd1697 : Jvm.Cond.code ({ cls := "ToldTracksModel", name := "goesOn", desc := "()Z" } : Jvm.MethodName) prog_13_method_26_code (5 : Nat) (Option.some Jvm.ClassFile.FieldType.boolean) ∈ am_ws := am_m7 (List.mem_of_getElem? (i := 124) rfl) rfl
theorem wd1698 : Jvm.Cond.methodLink "ToldTracksModel" (369 : Nat) ({ cls := "ToldTracksModel", name := "joins", desc := "(I)V" } : Jvm.MethodName) ∈ am_ws := am_m7 (List.mem_of_getElem? (i := 125) rfl) rfl
theorem wd1700 : Jvm.Cond.instanceMethod ({ cls := "ToldTracksModel", name := "joins", desc := "(I)V" } : Jvm.MethodName) ∈ am_ws := am_m7 (List.mem_of_getElem? (i := 127) rfl) rfl
theorem wd1701 : Jvm.Cond.code ({ cls := "ToldTracksModel", name := "joins", desc := "(I)V" } : Jvm.MethodName) prog_13_method_20_code (2 : Nat) (Option.none : Option Jvm.ClassFile.FieldType) ∈ am_ws := am_m7 (List.mem_of_getElem? (i := 128) rfl) rfl
theorem wd1702 : Jvm.Cond.methodLink "ToldTracksModel" (347 : Nat) ({ cls := "ToldTracksModel", name := "rank", desc := "(I)I" } : Jvm.MethodName) ∈ am_ws := am_m7 (List.mem_of_getElem? (i := 129) rfl) rfl
theorem wd1703 : Jvm.Cond.static ({ cls := "ToldTracksModel", name := "rank", desc := "(I)I" } : Jvm.MethodName) ∈ am_ws := am_m7 (List.mem_of_getElem? (i := 130) rfl) rfl
theorem wd1704 : Jvm.Cond.code ({ cls := "ToldTracksModel", name := "rank", desc := "(I)I" } : Jvm.MethodName) prog_13_method_19_code (1 : Nat) (Option.some Jvm.ClassFile.FieldType.int) ∈ am_ws := am_m7 (List.mem_of_getElem? (i := 131) rfl) rfl
theorem wd1705 : Jvm.Cond.constantLong "ToldTracksModel" (329 : Nat) (6385252 : Int64) ∈ am_ws := am_m7 (List.mem_of_getElem? (i := 132) rfl) rfl
theorem wd1706 : Jvm.Cond.constantLong "ToldTracksModel" (327 : Nat) (28530 : Int64) ∈ am_ws := am_m7 (List.mem_of_getElem? (i := 133) rfl) rfl
theorem wd1707 : Jvm.Cond.constantLong "ToldTracksModel" (325 : Nat) (2003330414 : Int64) ∈ am_ws := am_m7 (List.mem_of_getElem? (i := 134) rfl) rfl
theorem wd1708 : Jvm.Cond.methodLink "ToldTracksModel" (406 : Nat) ({ cls := "ToldTracksModel", name := "must", desc := "(J)V" } : Jvm.MethodName) ∈ am_ws := am_m7 (List.mem_of_getElem? (i := 135) rfl) rfl
theorem wd1710 : Jvm.Cond.instanceMethod ({ cls := "ToldTracksModel", name := "must", desc := "(J)V" } : Jvm.MethodName) ∈ am_ws := am_m7 (List.mem_of_getElem? (i := 137) rfl) rfl
theorem wd1711 : Jvm.Cond.code ({ cls := "ToldTracksModel", name := "must", desc := "(J)V" } : Jvm.MethodName) prog_13_method_29_code (3 : Nat) (Option.none : Option Jvm.ClassFile.FieldType) ∈ am_ws := am_m7 (List.mem_of_getElem? (i := 138) rfl) rfl
theorem wd1712 : Jvm.Cond.constantLong "ToldTracksModel" (293 : Nat) (1668248436 : Int64) ∈ am_ws := am_m7 (List.mem_of_getElem? (i := 139) rfl) rfl
theorem wd1713 : Jvm.Cond.constantLong "ToldTracksModel" (295 : Nat) (487301145972 : Int64) ∈ am_ws := am_m7 (List.mem_of_getElem? (i := 140) rfl) rfl
theorem wd1714 : Jvm.Cond.constantLong "ToldTracksModel" (297 : Nat) (1936222576 : Int64) ∈ am_ws := am_m7 (List.mem_of_getElem? (i := 141) rfl) rfl
theorem wd1715 : Jvm.Cond.methodLink "ToldTracksModel" (423 : Nat) ({ cls := "ToldTracksModel", name := "ship", desc := "()V" } : Jvm.MethodName) ∈ am_ws := am_m7 (List.mem_of_getElem? (i := 142) rfl) rfl
theorem wd1717 : Jvm.Cond.instanceMethod ({ cls := "ToldTracksModel", name := "ship", desc := "()V" } : Jvm.MethodName) ∈ am_ws := am_m7 (List.mem_of_getElem? (i := 144) rfl) rfl
theorem wd1718 : Jvm.Cond.code ({ cls := "ToldTracksModel", name := "ship", desc := "()V" } : Jvm.MethodName) prog_13_method_34_code (2 : Nat) (Option.none : Option Jvm.ClassFile.FieldType) ∈ am_ws := am_m7 (List.mem_of_getElem? (i := 145) rfl) rfl
theorem wd1719 : Jvm.Cond.methodLink "ToldTracksModel" (409 : Nat) ({ cls := "ToldTracksModel", name := "fresh", desc := "()J" } : Jvm.MethodName) ∈ am_ws := am_m7 (List.mem_of_getElem? (i := 146) rfl) rfl
theorem wd1721 : Jvm.Cond.instanceMethod ({ cls := "ToldTracksModel", name := "fresh", desc := "()J" } : Jvm.MethodName) ∈ am_ws := am_m7 (List.mem_of_getElem? (i := 148) rfl) rfl
theorem wd1722 : Jvm.Cond.code ({ cls := "ToldTracksModel", name := "fresh", desc := "()J" } : Jvm.MethodName) prog_13_method_30_code (3 : Nat) (Option.some Jvm.ClassFile.FieldType.long) ∈ am_ws := am_m7 (List.mem_of_getElem? (i := 149) rfl) rfl
theorem wd1723 : Jvm.Cond.methodLink "ToldTracksModel" (378 : Nat) ({ cls := "ToldTracksModel", name := "isOwn", desc := "(J)Z" } : Jvm.MethodName) ∈ am_ws := am_m7 (List.mem_of_getElem? (i := 150) rfl) rfl
theorem wd1725 : Jvm.Cond.instanceMethod ({ cls := "ToldTracksModel", name := "isOwn", desc := "(J)Z" } : Jvm.MethodName) ∈ am_ws := am_m7 (List.mem_of_getElem? (i := 152) rfl) rfl
theorem wd1726 : Jvm.Cond.code ({ cls := "ToldTracksModel", name := "isOwn", desc := "(J)Z" } : Jvm.MethodName) prog_13_method_13_code (3 : Nat) (Option.some Jvm.ClassFile.FieldType.boolean) ∈ am_ws := am_m7 (List.mem_of_getElem? (i := 153) rfl) rfl
theorem wd1727 : Jvm.Cond.constantLong "ToldTracksModel" (299 : Nat) (1819242347 : Int64) ∈ am_ws := am_m7 (List.mem_of_getElem? (i := 154) rfl) rfl
theorem wd1728 : Jvm.Cond.constantLong "ToldTracksModel" (301 : Nat) (495806932324 : Int64) ∈ am_ws := am_m7 (List.mem_of_getElem? (i := 155) rfl) rfl
theorem wd1729 : Jvm.Cond.constantLong "ToldTracksModel" (303 : Nat) (431415715444 : Int64) ∈ am_ws := am_m7 (List.mem_of_getElem? (i := 156) rfl) rfl
theorem wd1730 : Jvm.Cond.constantLong "ToldTracksModel" (305 : Nat) (1819238756 : Int64) ∈ am_ws := am_m7 (List.mem_of_getElem? (i := 157) rfl) rfl
theorem wd1731 : Jvm.Cond.constantLong "ToldTracksModel" (307 : Nat) (1935767923 : Int64) ∈ am_ws := am_m7 (List.mem_of_getElem? (i := 158) rfl) rfl
theorem wd1732 : Jvm.Cond.constantLong "ToldTracksModel" (309 : Nat) (24948 : Int64) ∈ am_ws := am_m7 (List.mem_of_getElem? (i := 159) rfl) rfl
theorem wd1733 : Jvm.Cond.constantLong "ToldTracksModel" (311 : Nat) (465490437486 : Int64) ∈ am_ws := am_m7 (List.mem_of_getElem? (i := 160) rfl) rfl
theorem wd1734 : Jvm.Cond.constantLong "ToldTracksModel" (313 : Nat) (1651470187 : Int64) ∈ am_ws := am_m7 (List.mem_of_getElem? (i := 161) rfl) rfl
theorem wd1735 : Jvm.Cond.constantLong "ToldTracksModel" (315 : Nat) (1718775661 : Int64) ∈ am_ws := am_m7 (List.mem_of_getElem? (i := 162) rfl) rfl
theorem wd1736 : Jvm.Cond.constantLong "ToldTracksModel" (317 : Nat) (29807 : Int64) ∈ am_ws := am_m7 (List.mem_of_getElem? (i := 163) rfl) rfl
theorem wd1737 : Jvm.Cond.constantLong "ToldTracksModel" (319 : Nat) (1936024942 : Int64) ∈ am_ws := am_m7 (List.mem_of_getElem? (i := 164) rfl) rfl
theorem wd1738 : Jvm.Cond.constantLong "ToldTracksModel" (323 : Nat) (1819632491 : Int64) ∈ am_ws := am_m7 (List.mem_of_getElem? (i := 165) rfl) rfl
theorem wd1739 : Jvm.Cond.methodLink "ToldTracksModel" (381 : Nat) ({ cls := "ToldTracksModel", name := "named", desc := "(J)I" } : Jvm.MethodName) ∈ am_ws := am_m7 (List.mem_of_getElem? (i := 166) rfl) rfl
theorem wd1741 : Jvm.Cond.instanceMethod ({ cls := "ToldTracksModel", name := "named", desc := "(J)I" } : Jvm.MethodName) ∈ am_ws := am_m7 (List.mem_of_getElem? (i := 168) rfl) rfl
theorem wd1742 : Jvm.Cond.code ({ cls := "ToldTracksModel", name := "named", desc := "(J)I" } : Jvm.MethodName) prog_13_method_16_code (4 : Nat) (Option.some Jvm.ClassFile.FieldType.int) ∈ am_ws := am_m7 (List.mem_of_getElem? (i := 169) rfl) rfl
theorem wd1743 : Jvm.Cond.methodLink "ToldTracksModel" (426 : Nat) ({ cls := "ToldTracksModel", name := "says", desc := "()V" } : Jvm.MethodName) ∈ am_ws := am_m7 (List.mem_of_getElem? (i := 170) rfl) rfl
theorem wd1745 : Jvm.Cond.instanceMethod ({ cls := "ToldTracksModel", name := "says", desc := "()V" } : Jvm.MethodName) ∈ am_ws := am_m7 (List.mem_of_getElem? (i := 172) rfl) rfl
theorem wd1746 : Jvm.Cond.code ({ cls := "ToldTracksModel", name := "says", desc := "()V" } : Jvm.MethodName) prog_13_method_36_code (6 : Nat) (Option.none : Option Jvm.ClassFile.FieldType) ∈ am_ws := am_m7 (List.mem_of_getElem? (i := 173) rfl) rfl
theorem wd1747 : Jvm.Cond.methodLink "ToldTracksModel" (413 : Nat) ({ cls := "ToldTracksModel", name := "asked", desc := "()I" } : Jvm.MethodName) ∈ am_ws := am_m7 (List.mem_of_getElem? (i := 174) rfl) rfl
theorem wd1749 : Jvm.Cond.instanceMethod ({ cls := "ToldTracksModel", name := "asked", desc := "()I" } : Jvm.MethodName) ∈ am_ws := am_m7 (List.mem_of_getElem? (i := 176) rfl) rfl
theorem wd1750 : Jvm.Cond.code ({ cls := "ToldTracksModel", name := "asked", desc := "()I" } : Jvm.MethodName) prog_13_method_31_code (2 : Nat) (Option.some Jvm.ClassFile.FieldType.int) ∈ am_ws := am_m7 (List.mem_of_getElem? (i := 177) rfl) rfl
theorem wd1751 : Jvm.Cond.methodLink "ToldTracksModel" (417 : Nat) ({ cls := "ToldTracksModel", name := "cellHere", desc := "()I" } : Jvm.MethodName) ∈ am_ws := am_m7 (List.mem_of_getElem? (i := 178) rfl) rfl
theorem wd1753 : Jvm.Cond.instanceMethod ({ cls := "ToldTracksModel", name := "cellHere", desc := "()I" } : Jvm.MethodName) ∈ am_ws := am_m7 (List.mem_of_getElem? (i := 180) rfl) rfl
theorem wd1754 : Jvm.Cond.code ({ cls := "ToldTracksModel", name := "cellHere", desc := "()I" } : Jvm.MethodName) prog_13_method_35_code (3 : Nat) (Option.some Jvm.ClassFile.FieldType.int) ∈ am_ws := am_m7 (List.mem_of_getElem? (i := 181) rfl) rfl
theorem wd1755 : Jvm.Cond.methodLink "ToldTracksModel" (429 : Nat) ({ cls := "ToldTracksModel", name := "book", desc := "()V" } : Jvm.MethodName) ∈ am_ws := am_m7 (List.mem_of_getElem? (i := 182) rfl) rfl
theorem wd1757 : Jvm.Cond.instanceMethod ({ cls := "ToldTracksModel", name := "book", desc := "()V" } : Jvm.MethodName) ∈ am_ws := am_m7 (List.mem_of_getElem? (i := 184) rfl) rfl
theorem wd1758 : Jvm.Cond.code ({ cls := "ToldTracksModel", name := "book", desc := "()V" } : Jvm.MethodName) prog_13_method_37_code (2 : Nat) (Option.none : Option Jvm.ClassFile.FieldType) ∈ am_ws := am_m7 (List.mem_of_getElem? (i := 185) rfl) rfl
theorem wd1759 : Jvm.Cond.methodLink "ToldTracksModel" (432 : Nat) ({ cls := "ToldTracksModel", name := "seen", desc := "()V" } : Jvm.MethodName) ∈ am_ws := am_m7 (List.mem_of_getElem? (i := 186) rfl) rfl
theorem wd1761 : Jvm.Cond.instanceMethod ({ cls := "ToldTracksModel", name := "seen", desc := "()V" } : Jvm.MethodName) ∈ am_ws := am_m7 (List.mem_of_getElem? (i := 188) rfl) rfl
theorem wd1762 : Jvm.Cond.code ({ cls := "ToldTracksModel", name := "seen", desc := "()V" } : Jvm.MethodName) prog_13_method_38_code (2 : Nat) (Option.none : Option Jvm.ClassFile.FieldType) ∈ am_ws := am_m7 (List.mem_of_getElem? (i := 189) rfl) rfl
theorem wd1763 : Jvm.Cond.methodLink "ToldTracksModel" (435 : Nat) ({ cls := "ToldTracksModel", name := "lucks", desc := "()V" } : Jvm.MethodName) ∈ am_ws := am_m7 (List.mem_of_getElem? (i := 190) rfl) rfl
theorem wd1765 : Jvm.Cond.instanceMethod ({ cls := "ToldTracksModel", name := "lucks", desc := "()V" } : Jvm.MethodName) ∈ am_ws := am_m7 (List.mem_of_getElem? (i := 192) rfl) rfl
theorem wd1766 : Jvm.Cond.code ({ cls := "ToldTracksModel", name := "lucks", desc := "()V" } : Jvm.MethodName) prog_13_method_39_code (1 : Nat) (Option.none : Option Jvm.ClassFile.FieldType) ∈ am_ws := am_m7 (List.mem_of_getElem? (i := 193) rfl) rfl
theorem wd1767 : Jvm.Cond.methodLink "ToldTracksModel" (444 : Nat) ({ cls := "ToldTracksModel", name := "lays", desc := "()V" } : Jvm.MethodName) ∈ am_ws := am_m7 (List.mem_of_getElem? (i := 194) rfl) rfl
theorem wd1769 : Jvm.Cond.instanceMethod ({ cls := "ToldTracksModel", name := "lays", desc := "()V" } : Jvm.MethodName) ∈ am_ws := am_m7 (List.mem_of_getElem? (i := 196) rfl) rfl
theorem wd1770 : Jvm.Cond.code ({ cls := "ToldTracksModel", name := "lays", desc := "()V" } : Jvm.MethodName) prog_13_method_58_code (2 : Nat) (Option.none : Option Jvm.ClassFile.FieldType) ∈ am_ws := am_m7 (List.mem_of_getElem? (i := 197) rfl) rfl
theorem wd1771 : Jvm.Cond.methodLink "ToldTracksModel" (479 : Nat) ({ cls := "ToldTracksModel", name := "cells", desc := "()I" } : Jvm.MethodName) ∈ am_ws := am_m7 (List.mem_of_getElem? (i := 198) rfl) rfl
theorem wd1773 : Jvm.Cond.instanceMethod ({ cls := "ToldTracksModel", name := "cells", desc := "()I" } : Jvm.MethodName) ∈ am_ws := am_m7 (List.mem_of_getElem? (i := 200) rfl) rfl
theorem wd1774 : Jvm.Cond.code ({ cls := "ToldTracksModel", name := "cells", desc := "()I" } : Jvm.MethodName) prog_13_method_49_code (1 : Nat) (Option.some Jvm.ClassFile.FieldType.int) ∈ am_ws := am_m7 (List.mem_of_getElem? (i := 201) rfl) rfl
theorem wd1775 : Jvm.Cond.methodLink "ToldTracksModel" (482 : Nat) ({ cls := "ToldTracksModel", name := "sumOf", desc := "(III)I" } : Jvm.MethodName) ∈ am_ws := am_m7 (List.mem_of_getElem? (i := 202) rfl) rfl
theorem wd1777 : Jvm.Cond.instanceMethod ({ cls := "ToldTracksModel", name := "sumOf", desc := "(III)I" } : Jvm.MethodName) ∈ am_ws := am_m7 (List.mem_of_getElem? (i := 204) rfl) rfl
theorem wd1778 : Jvm.Cond.code ({ cls := "ToldTracksModel", name := "sumOf", desc := "(III)I" } : Jvm.MethodName) prog_13_method_57_code (7 : Nat) (Option.some Jvm.ClassFile.FieldType.int) ∈ am_ws := am_m7 (List.mem_of_getElem? (i := 205) rfl) rfl
theorem wd1779 : Jvm.Cond.methodLink "ToldTracksModel" (473 : Nat) ({ cls := "ToldTracksModel", name := "ruleOf", desc := "(IIII)I" } : Jvm.MethodName) ∈ am_ws := am_m7 (List.mem_of_getElem? (i := 206) rfl) rfl
theorem wd1781 : Jvm.Cond.instanceMethod ({ cls := "ToldTracksModel", name := "ruleOf", desc := "(IIII)I" } : Jvm.MethodName) ∈ am_ws := am_m7 (List.mem_of_getElem? (i := 208) rfl) rfl
theorem wd1782 : Jvm.Cond.code ({ cls := "ToldTracksModel", name := "ruleOf", desc := "(IIII)I" } : Jvm.MethodName) prog_13_method_56_code (7 : Nat) (Option.some Jvm.ClassFile.FieldType.int) ∈ am_ws := am_m7 (List.mem_of_getElem? (i := 209) rfl) rfl
theorem wd1783 : Jvm.Cond.methodLink "ToldTracksModel" (463 : Nat) ({ cls := "ToldTracksModel", name := "columnOf", desc := "(I)I" } : Jvm.MethodName) ∈ am_ws := am_m7 (List.mem_of_getElem? (i := 210) rfl) rfl
theorem wd1785 : Jvm.Cond.instanceMethod ({ cls := "ToldTracksModel", name := "columnOf", desc := "(I)I" } : Jvm.MethodName) ∈ am_ws := am_m7 (List.mem_of_getElem? (i := 212) rfl) rfl
theorem wd1786 : Jvm.Cond.code ({ cls := "ToldTracksModel", name := "columnOf", desc := "(I)I" } : Jvm.MethodName) prog_13_method_50_code (2 : Nat) (Option.some Jvm.ClassFile.FieldType.int) ∈ am_ws := am_m7 (List.mem_of_getElem? (i := 213) rfl) rfl
theorem wd1787 : Jvm.Cond.methodLink "ToldTracksModel" (466 : Nat) ({ cls := "ToldTracksModel", name := "rowOf", desc := "(I)I" } : Jvm.MethodName) ∈ am_ws := am_m7 (List.mem_of_getElem? (i := 214) rfl) rfl
theorem wd1789 : Jvm.Cond.instanceMethod ({ cls := "ToldTracksModel", name := "rowOf", desc := "(I)I" } : Jvm.MethodName) ∈ am_ws := am_m7 (List.mem_of_getElem? (i := 216) rfl) rfl
theorem wd1790 : Jvm.Cond.code ({ cls := "ToldTracksModel", name := "rowOf", desc := "(I)I" } : Jvm.MethodName) prog_13_method_51_code (2 : Nat) (Option.some Jvm.ClassFile.FieldType.int) ∈ am_ws := am_m7 (List.mem_of_getElem? (i := 217) rfl) rfl
theorem wd1791 : Jvm.Cond.methodLink "ToldTracksModel" (469 : Nat) ({ cls := "ToldTracksModel", name := "works", desc := "(II)J" } : Jvm.MethodName) ∈ am_ws := am_m7 (List.mem_of_getElem? (i := 218) rfl) rfl
theorem wd1793 : Jvm.Cond.instanceMethod ({ cls := "ToldTracksModel", name := "works", desc := "(II)J" } : Jvm.MethodName) ∈ am_ws := am_m7 (List.mem_of_getElem? (i := 220) rfl) rfl
theorem wd1794 : Jvm.Cond.code ({ cls := "ToldTracksModel", name := "works", desc := "(II)J" } : Jvm.MethodName) prog_13_method_48_code (6 : Nat) (Option.some Jvm.ClassFile.FieldType.long) ∈ am_ws := am_m7 (List.mem_of_getElem? (i := 221) rfl) rfl
theorem wd1795 : Jvm.Cond.methodLink "ToldTracksModel" (459 : Nat) ({ cls := "ToldTracksModel", name := "made", desc := "(IJJ)J" } : Jvm.MethodName) ∈ am_ws := am_m7 (List.mem_of_getElem? (i := 222) rfl) rfl
theorem wd1796 : Jvm.Cond.static ({ cls := "ToldTracksModel", name := "made", desc := "(IJJ)J" } : Jvm.MethodName) ∈ am_ws := am_m7 (List.mem_of_getElem? (i := 223) rfl) rfl
theorem wd1797 : Jvm.Cond.code ({ cls := "ToldTracksModel", name := "made", desc := "(IJJ)J" } : Jvm.MethodName) prog_13_method_47_code (5 : Nat) (Option.some Jvm.ClassFile.FieldType.long) ∈ am_ws := am_m7 (List.mem_of_getElem? (i := 224) rfl) rfl
theorem wd1798 : Jvm.Cond.methodLink "ToldTracksModel" (451 : Nat) ({ cls := "ToldTracksModel", name := "bounded", desc := "(J)J" } : Jvm.MethodName) ∈ am_ws := am_m7 (List.mem_of_getElem? (i := 225) rfl) rfl
theorem wd1799 : Jvm.Cond.static ({ cls := "ToldTracksModel", name := "bounded", desc := "(J)J" } : Jvm.MethodName) ∈ am_ws := am_m7 (List.mem_of_getElem? (i := 226) rfl) rfl
theorem wd1800 : Jvm.Cond.code ({ cls := "ToldTracksModel", name := "bounded", desc := "(J)J" } : Jvm.MethodName) prog_13_method_45_code (2 : Nat) (Option.some Jvm.ClassFile.FieldType.long) ∈ am_ws := am_m7 (List.mem_of_getElem? (i := 227) rfl) rfl
theorem wd1801 : Jvm.Cond.constantLong "ToldTracksModel" (447 : Nat) (1000000 : Int64) ∈ am_ws := am_m7 (List.mem_of_getElem? (i := 228) rfl) rfl
theorem wd1802 : Jvm.Cond.constantLong "ToldTracksModel" (449 : Nat) (-1000000 : Int64) ∈ am_ws := am_m7 (List.mem_of_getElem? (i := 229) rfl) rfl
theorem wd1803 : Jvm.Cond.methodLink "ToldTracksModel" (455 : Nat) ({ cls := "ToldTracksModel", name := "over", desc := "(JJ)J" } : Jvm.MethodName) ∈ am_ws := am_m7 (List.mem_of_getElem? (i := 230) rfl) rfl
theorem wd1804 : Jvm.Cond.static ({ cls := "ToldTracksModel", name := "over", desc := "(JJ)J" } : Jvm.MethodName) ∈ am_ws := am_m7 (List.mem_of_getElem? (i := 231) rfl) rfl
theorem wd1805 : Jvm.Cond.code ({ cls := "ToldTracksModel", name := "over", desc := "(JJ)J" } : Jvm.MethodName) prog_13_method_46_code (6 : Nat) (Option.some Jvm.ClassFile.FieldType.long) ∈ am_ws := am_m7 (List.mem_of_getElem? (i := 232) rfl) rfl
theorem wd1806 : Jvm.Cond.constantLong "ToldTracksModel" (477 : Nat) (99 : Int64) ∈ am_ws := am_m7 (List.mem_of_getElem? (i := 233) rfl) rfl
theorem wd1807 : Jvm.Cond.methodLink "ToldTracksLaw" (32 : Nat) ({ cls := "ToldTracksModel", name := "fault", desc := "(I)I" } : Jvm.MethodName) ∈ am_ws := am_m7 (List.mem_of_getElem? (i := 234) rfl) rfl
theorem wd1808 : Jvm.Cond.instanceMethod ({ cls := "ToldTracksModel", name := "fault", desc := "(I)I" } : Jvm.MethodName) ∈ am_ws := am_m7 (List.mem_of_getElem? (i := 235) rfl) rfl
theorem wd1809 : Jvm.Cond.selects "ToldTracksModel" ({ cls := "ToldTracksModel", name := "fault", desc := "(I)I" } : Jvm.MethodName) ({ cls := "ToldTracksModel", name := "fault", desc := "(I)I" } : Jvm.MethodName) ∈ am_ws := am_m7 (List.mem_of_getElem? (i := 236) rfl) rfl
theorem wd1810 : Jvm.Cond.code ({ cls := "ToldTracksModel", name := "fault", desc := "(I)I" } : Jvm.MethodName) prog_13_method_42_code (2 : Nat) (Option.some Jvm.ClassFile.FieldType.int) ∈ am_ws := am_m7 (List.mem_of_getElem? (i := 237) rfl) rfl
theorem wd1811 : Jvm.Cond.methodLink "ToldTracksLaw" (178 : Nat) ({ cls := "ToldTracksModel", name := "status", desc := "(I)I" } : Jvm.MethodName) ∈ am_ws := am_m7 (List.mem_of_getElem? (i := 238) rfl) rfl
theorem wd1812 : Jvm.Cond.instanceMethod ({ cls := "ToldTracksModel", name := "status", desc := "(I)I" } : Jvm.MethodName) ∈ am_ws := am_m7 (List.mem_of_getElem? (i := 239) rfl) rfl
theorem wd1813 : Jvm.Cond.selects "ToldTracksModel" ({ cls := "ToldTracksModel", name := "status", desc := "(I)I" } : Jvm.MethodName) ({ cls := "ToldTracksModel", name := "status", desc := "(I)I" } : Jvm.MethodName) ∈ am_ws := am_m8 (List.mem_of_getElem? (i := 0) rfl) rfl
theorem wd1814 : Jvm.Cond.code ({ cls := "ToldTracksModel", name := "status", desc := "(I)I" } : Jvm.MethodName) prog_13_method_44_code (2 : Nat) (Option.some Jvm.ClassFile.FieldType.int) ∈ am_ws := am_m8 (List.mem_of_getElem? (i := 1) rfl) rfl
theorem wd1815 : Jvm.Cond.methodLink "ToldTracksLaw" (55 : Nat) ({ cls := "ToldTracksModel", name := "cell", desc := "(IIII)I" } : Jvm.MethodName) ∈ am_ws := am_m8 (List.mem_of_getElem? (i := 2) rfl) rfl
theorem wd1816 : Jvm.Cond.instanceMethod ({ cls := "ToldTracksModel", name := "cell", desc := "(IIII)I" } : Jvm.MethodName) ∈ am_ws := am_m8 (List.mem_of_getElem? (i := 3) rfl) rfl
theorem wd1817 : Jvm.Cond.selects "ToldTracksModel" ({ cls := "ToldTracksModel", name := "cell", desc := "(IIII)I" } : Jvm.MethodName) ({ cls := "ToldTracksModel", name := "cell", desc := "(IIII)I" } : Jvm.MethodName) ∈ am_ws := am_m8 (List.mem_of_getElem? (i := 4) rfl) rfl
theorem wd1818 : Jvm.Cond.code ({ cls := "ToldTracksModel", name := "cell", desc := "(IIII)I" } : Jvm.MethodName) prog_13_method_60_code (6 : Nat) (Option.some Jvm.ClassFile.FieldType.int) ∈ am_ws := am_m8 (List.mem_of_getElem? (i := 5) rfl) rfl
theorem wd1819 : Jvm.Cond.methodLink "ToldTracksModel" (486 : Nat) ({ cls := "ToldTracksModel", name := "isCell", desc := "(II)Z" } : Jvm.MethodName) ∈ am_ws := am_m8 (List.mem_of_getElem? (i := 6) rfl) rfl
theorem wd1821 : Jvm.Cond.instanceMethod ({ cls := "ToldTracksModel", name := "isCell", desc := "(II)Z" } : Jvm.MethodName) ∈ am_ws := am_m8 (List.mem_of_getElem? (i := 8) rfl) rfl
theorem wd1822 : Jvm.Cond.code ({ cls := "ToldTracksModel", name := "isCell", desc := "(II)Z" } : Jvm.MethodName) prog_13_method_52_code (3 : Nat) (Option.some Jvm.ClassFile.FieldType.boolean) ∈ am_ws := am_m8 (List.mem_of_getElem? (i := 9) rfl) rfl
theorem wd1823 : Jvm.Cond.methodLink "ToldTracksModel" (490 : Nat) ({ cls := "ToldTracksModel", name := "isHour", desc := "(I)Z" } : Jvm.MethodName) ∈ am_ws := am_m8 (List.mem_of_getElem? (i := 10) rfl) rfl
theorem wd1824 : Jvm.Cond.static ({ cls := "ToldTracksModel", name := "isHour", desc := "(I)Z" } : Jvm.MethodName) ∈ am_ws := am_m8 (List.mem_of_getElem? (i := 11) rfl) rfl
theorem wd1825 : Jvm.Cond.code ({ cls := "ToldTracksModel", name := "isHour", desc := "(I)Z" } : Jvm.MethodName) prog_13_method_54_code (1 : Nat) (Option.some Jvm.ClassFile.FieldType.boolean) ∈ am_ws := am_m8 (List.mem_of_getElem? (i := 12) rfl) rfl
theorem wd1826 : Jvm.Cond.methodLink "ToldTracksModel" (493 : Nat) ({ cls := "ToldTracksModel", name := "at", desc := "(II)I" } : Jvm.MethodName) ∈ am_ws := am_m8 (List.mem_of_getElem? (i := 13) rfl) rfl
theorem wd1828 : Jvm.Cond.instanceMethod ({ cls := "ToldTracksModel", name := "at", desc := "(II)I" } : Jvm.MethodName) ∈ am_ws := am_m8 (List.mem_of_getElem? (i := 15) rfl) rfl
theorem wd1829 : Jvm.Cond.code ({ cls := "ToldTracksModel", name := "at", desc := "(II)I" } : Jvm.MethodName) prog_13_method_53_code (3 : Nat) (Option.some Jvm.ClassFile.FieldType.int) ∈ am_ws := am_m8 (List.mem_of_getElem? (i := 16) rfl) rfl
theorem wd1830 : Jvm.Cond.methodLink "ToldTracksModel" (496 : Nat) ({ cls := "ToldTracksModel", name := "isQuiet", desc := "(II)Z" } : Jvm.MethodName) ∈ am_ws := am_m8 (List.mem_of_getElem? (i := 17) rfl) rfl
theorem wd1832 : Jvm.Cond.instanceMethod ({ cls := "ToldTracksModel", name := "isQuiet", desc := "(II)Z" } : Jvm.MethodName) ∈ am_ws := am_m8 (List.mem_of_getElem? (i := 19) rfl) rfl
theorem wd1833 : Jvm.Cond.code ({ cls := "ToldTracksModel", name := "isQuiet", desc := "(II)Z" } : Jvm.MethodName) prog_13_method_59_code (3 : Nat) (Option.some Jvm.ClassFile.FieldType.boolean) ∈ am_ws := am_m8 (List.mem_of_getElem? (i := 20) rfl) rfl
theorem wd1834 : Jvm.Cond.methodLink "ToldTracksLaw" (36 : Nat) ({ cls := "ToldTracksModel", name := "has", desc := "(I)I" } : Jvm.MethodName) ∈ am_ws := am_m8 (List.mem_of_getElem? (i := 21) rfl) rfl
theorem wd1835 : Jvm.Cond.instanceMethod ({ cls := "ToldTracksModel", name := "has", desc := "(I)I" } : Jvm.MethodName) ∈ am_ws := am_m8 (List.mem_of_getElem? (i := 22) rfl) rfl
theorem wd1836 : Jvm.Cond.selects "ToldTracksModel" ({ cls := "ToldTracksModel", name := "has", desc := "(I)I" } : Jvm.MethodName) ({ cls := "ToldTracksModel", name := "has", desc := "(I)I" } : Jvm.MethodName) ∈ am_ws := am_m8 (List.mem_of_getElem? (i := 23) rfl) rfl
theorem wd1837 : Jvm.Cond.code ({ cls := "ToldTracksModel", name := "has", desc := "(I)I" } : Jvm.MethodName) prog_13_method_67_code (4 : Nat) (Option.some Jvm.ClassFile.FieldType.int) ∈ am_ws := am_m8 (List.mem_of_getElem? (i := 24) rfl) rfl
theorem wd1838 : Jvm.Cond.methodLink "ToldTracksModel" (502 : Nat) ({ cls := "ToldTracksModel", name := "sayingsOf", desc := "(I)I" } : Jvm.MethodName) ∈ am_ws := am_m8 (List.mem_of_getElem? (i := 25) rfl) rfl
theorem wd1840 : Jvm.Cond.instanceMethod ({ cls := "ToldTracksModel", name := "sayingsOf", desc := "(I)I" } : Jvm.MethodName) ∈ am_ws := am_m8 (List.mem_of_getElem? (i := 27) rfl) rfl
theorem wd1841 : Jvm.Cond.code ({ cls := "ToldTracksModel", name := "sayingsOf", desc := "(I)I" } : Jvm.MethodName) prog_13_method_63_code (4 : Nat) (Option.some Jvm.ClassFile.FieldType.int) ∈ am_ws := am_m8 (List.mem_of_getElem? (i := 28) rfl) rfl
theorem wd1842 : Jvm.Cond.methodLink "ToldTracksModel" (499 : Nat) ({ cls := "ToldTracksModel", name := "said", desc := "(II)I" } : Jvm.MethodName) ∈ am_ws := am_m8 (List.mem_of_getElem? (i := 29) rfl) rfl
theorem wd1844 : Jvm.Cond.instanceMethod ({ cls := "ToldTracksModel", name := "said", desc := "(II)I" } : Jvm.MethodName) ∈ am_ws := am_m8 (List.mem_of_getElem? (i := 31) rfl) rfl
theorem wd1845 : Jvm.Cond.code ({ cls := "ToldTracksModel", name := "said", desc := "(II)I" } : Jvm.MethodName) prog_13_method_61_code (3 : Nat) (Option.some Jvm.ClassFile.FieldType.int) ∈ am_ws := am_m8 (List.mem_of_getElem? (i := 32) rfl) rfl
theorem wd1846 : Jvm.Cond.methodLink "ToldTracksLaw" (41 : Nat) ({ cls := "ToldTracksModel", name := "letter", desc := "(II)I" } : Jvm.MethodName) ∈ am_ws := am_m8 (List.mem_of_getElem? (i := 33) rfl) rfl
theorem wd1847 : Jvm.Cond.instanceMethod ({ cls := "ToldTracksModel", name := "letter", desc := "(II)I" } : Jvm.MethodName) ∈ am_ws := am_m8 (List.mem_of_getElem? (i := 34) rfl) rfl
theorem wd1848 : Jvm.Cond.selects "ToldTracksModel" ({ cls := "ToldTracksModel", name := "letter", desc := "(II)I" } : Jvm.MethodName) ({ cls := "ToldTracksModel", name := "letter", desc := "(II)I" } : Jvm.MethodName) ∈ am_ws := am_m8 (List.mem_of_getElem? (i := 35) rfl) rfl
theorem wd1849 : Jvm.Cond.code ({ cls := "ToldTracksModel", name := "letter", desc := "(II)I" } : Jvm.MethodName) prog_13_method_68_code (8 : Nat) (Option.some Jvm.ClassFile.FieldType.int) ∈ am_ws := am_m8 (List.mem_of_getElem? (i := 36) rfl) rfl
theorem wd1850 : Jvm.Cond.methodLink "ToldTracksModel" (505 : Nat) ({ cls := "ToldTracksModel", name := "isShip", desc := "(I)Z" } : Jvm.MethodName) ∈ am_ws := am_m8 (List.mem_of_getElem? (i := 37) rfl) rfl
theorem wd1852 : Jvm.Cond.instanceMethod ({ cls := "ToldTracksModel", name := "isShip", desc := "(I)Z" } : Jvm.MethodName) ∈ am_ws := am_m8 (List.mem_of_getElem? (i := 39) rfl) rfl
theorem wd1853 : Jvm.Cond.code ({ cls := "ToldTracksModel", name := "isShip", desc := "(I)Z" } : Jvm.MethodName) prog_13_method_55_code (2 : Nat) (Option.some Jvm.ClassFile.FieldType.boolean) ∈ am_ws := am_m8 (List.mem_of_getElem? (i := 40) rfl) rfl
theorem wd1854 : Jvm.Cond.constantLong "ToldTracksModel" (508 : Nat) (255 : Int64) ∈ am_ws := am_m8 (List.mem_of_getElem? (i := 41) rfl) rfl
theorem wd1855 : Jvm.Cond.methodLink "ToldTracksLaw" (59 : Nat) ({ cls := "ToldTracksModel", name := "far", desc := "(IIIII)I" } : Jvm.MethodName) ∈ am_ws := am_m8 (List.mem_of_getElem? (i := 42) rfl) rfl
theorem wd1856 : Jvm.Cond.instanceMethod ({ cls := "ToldTracksModel", name := "far", desc := "(IIIII)I" } : Jvm.MethodName) ∈ am_ws := am_m8 (List.mem_of_getElem? (i := 43) rfl) rfl
theorem wd1857 : Jvm.Cond.selects "ToldTracksModel" ({ cls := "ToldTracksModel", name := "far", desc := "(IIIII)I" } : Jvm.MethodName) ({ cls := "ToldTracksModel", name := "far", desc := "(IIIII)I" } : Jvm.MethodName) ∈ am_ws := am_m8 (List.mem_of_getElem? (i := 44) rfl) rfl
theorem wd1858 : Jvm.Cond.code ({ cls := "ToldTracksModel", name := "far", desc := "(IIIII)I" } : Jvm.MethodName) prog_13_method_74_code (7 : Nat) (Option.some Jvm.ClassFile.FieldType.int) ∈ am_ws := am_m8 (List.mem_of_getElem? (i := 45) rfl) rfl
theorem wd1859 : Jvm.Cond.methodLink "ToldTracksModel" (517 : Nat) ({ cls := "ToldTracksModel", name := "goes", desc := "(II)V" } : Jvm.MethodName) ∈ am_ws := am_m8 (List.mem_of_getElem? (i := 46) rfl) rfl
theorem wd1861 : Jvm.Cond.instanceMethod ({ cls := "ToldTracksModel", name := "goes", desc := "(II)V" } : Jvm.MethodName) ∈ am_ws := am_m8 (List.mem_of_getElem? (i := 48) rfl) rfl
theorem wd1862 : Jvm.Cond.code ({ cls := "ToldTracksModel", name := "goes", desc := "(II)V" } : Jvm.MethodName) prog_13_method_72_code (7 : Nat) (Option.none : Option Jvm.ClassFile.FieldType) ∈ am_ws := am_m8 (List.mem_of_getElem? (i := 49) rfl) rfl
theorem wd1863 : Jvm.Cond.methodLink "ToldTracksModel" (513 : Nat) ({ cls := "ToldTracksModel", name := "reaches", desc := "(IIII)V" } : Jvm.MethodName) ∈ am_ws := am_m8 (List.mem_of_getElem? (i := 50) rfl) rfl
theorem wd1865 : Jvm.Cond.instanceMethod ({ cls := "ToldTracksModel", name := "reaches", desc := "(IIII)V" } : Jvm.MethodName) ∈ am_ws := am_m8 (List.mem_of_getElem? (i := 52) rfl) rfl
theorem wd1866 : Jvm.Cond.code ({ cls := "ToldTracksModel", name := "reaches", desc := "(IIII)V" } : Jvm.MethodName) prog_13_method_71_code (6 : Nat) (Option.none : Option Jvm.ClassFile.FieldType) ∈ am_ws := am_m8 (List.mem_of_getElem? (i := 53) rfl) rfl
theorem wd1867 : Jvm.Cond.methodLink "ToldTracksModel" (510 : Nat) ({ cls := "ToldTracksModel", name := "isWater", desc := "(II)Z" } : Jvm.MethodName) ∈ am_ws := am_m8 (List.mem_of_getElem? (i := 54) rfl) rfl
theorem wd1869 : Jvm.Cond.instanceMethod ({ cls := "ToldTracksModel", name := "isWater", desc := "(II)Z" } : Jvm.MethodName) ∈ am_ws := am_m8 (List.mem_of_getElem? (i := 56) rfl) rfl
theorem wd1870 : Jvm.Cond.code ({ cls := "ToldTracksModel", name := "isWater", desc := "(II)Z" } : Jvm.MethodName) prog_13_method_69_code (3 : Nat) (Option.some Jvm.ClassFile.FieldType.boolean) ∈ am_ws := am_m8 (List.mem_of_getElem? (i := 57) rfl) rfl
theorem wd1871 : Jvm.Cond.methodLink "ToldTracksModel" (520 : Nat) ({ cls := "ToldTracksModel", name := "hoursTo", desc := "(II)I" } : Jvm.MethodName) ∈ am_ws := am_m8 (List.mem_of_getElem? (i := 58) rfl) rfl
theorem wd1873 : Jvm.Cond.instanceMethod ({ cls := "ToldTracksModel", name := "hoursTo", desc := "(II)I" } : Jvm.MethodName) ∈ am_ws := am_m8 (List.mem_of_getElem? (i := 60) rfl) rfl
theorem wd1874 : Jvm.Cond.code ({ cls := "ToldTracksModel", name := "hoursTo", desc := "(II)I" } : Jvm.MethodName) prog_13_method_73_code (4 : Nat) (Option.some Jvm.ClassFile.FieldType.int) ∈ am_ws := am_m8 (List.mem_of_getElem? (i := 61) rfl) rfl
theorem wd1875 : Jvm.Cond.methodLink "ToldTracksLaw" (45 : Nat) ({ cls := "ToldTracksModel", name := "ship", desc := "(II)I" } : Jvm.MethodName) ∈ am_ws := am_m8 (List.mem_of_getElem? (i := 62) rfl) rfl
theorem wd1876 : Jvm.Cond.instanceMethod ({ cls := "ToldTracksModel", name := "ship", desc := "(II)I" } : Jvm.MethodName) ∈ am_ws := am_m8 (List.mem_of_getElem? (i := 63) rfl) rfl
theorem wd1877 : Jvm.Cond.selects "ToldTracksModel" ({ cls := "ToldTracksModel", name := "ship", desc := "(II)I" } : Jvm.MethodName) ({ cls := "ToldTracksModel", name := "ship", desc := "(II)I" } : Jvm.MethodName) ∈ am_ws := am_m8 (List.mem_of_getElem? (i := 64) rfl) rfl
theorem wd1878 : Jvm.Cond.code ({ cls := "ToldTracksModel", name := "ship", desc := "(II)I" } : Jvm.MethodName) prog_13_method_88_code (4 : Nat) (Option.some Jvm.ClassFile.FieldType.int) ∈ am_ws := am_m8 (List.mem_of_getElem? (i := 65) rfl) rfl
theorem wd1879 : Jvm.Cond.methodLink "ToldTracksModel" (558 : Nat) ({ cls := "ToldTracksModel", name := "booksOf", desc := "(I)I" } : Jvm.MethodName) ∈ am_ws := am_m8 (List.mem_of_getElem? (i := 66) rfl) rfl
theorem wd1881 : Jvm.Cond.instanceMethod ({ cls := "ToldTracksModel", name := "booksOf", desc := "(I)I" } : Jvm.MethodName) ∈ am_ws := am_m8 (List.mem_of_getElem? (i := 68) rfl) rfl
theorem wd1882 : Jvm.Cond.code ({ cls := "ToldTracksModel", name := "booksOf", desc := "(I)I" } : Jvm.MethodName) prog_13_method_66_code (4 : Nat) (Option.some Jvm.ClassFile.FieldType.int) ∈ am_ws := am_m8 (List.mem_of_getElem? (i := 69) rfl) rfl
theorem wd1883 : Jvm.Cond.methodLink "ToldTracksModel" (546 : Nat) ({ cls := "ToldTracksModel", name := "booksFit", desc := "(I)Z" } : Jvm.MethodName) ∈ am_ws := am_m8 (List.mem_of_getElem? (i := 70) rfl) rfl
theorem wd1885 : Jvm.Cond.instanceMethod ({ cls := "ToldTracksModel", name := "booksFit", desc := "(I)Z" } : Jvm.MethodName) ∈ am_ws := am_m8 (List.mem_of_getElem? (i := 72) rfl) rfl
theorem wd1886 : Jvm.Cond.code ({ cls := "ToldTracksModel", name := "booksFit", desc := "(I)Z" } : Jvm.MethodName) prog_13_method_80_code (2 : Nat) (Option.some Jvm.ClassFile.FieldType.boolean) ∈ am_ws := am_m8 (List.mem_of_getElem? (i := 73) rfl) rfl
theorem wd1887 : Jvm.Cond.methodLink "ToldTracksModel" (537 : Nat) ({ cls := "ToldTracksModel", name := "addBooks", desc := "(I)V" } : Jvm.MethodName) ∈ am_ws := am_m8 (List.mem_of_getElem? (i := 74) rfl) rfl
theorem wd1889 : Jvm.Cond.instanceMethod ({ cls := "ToldTracksModel", name := "addBooks", desc := "(I)V" } : Jvm.MethodName) ∈ am_ws := am_m8 (List.mem_of_getElem? (i := 76) rfl) rfl
theorem wd1890 : Jvm.Cond.code ({ cls := "ToldTracksModel", name := "addBooks", desc := "(I)V" } : Jvm.MethodName) prog_13_method_76_code (3 : Nat) (Option.none : Option Jvm.ClassFile.FieldType) ∈ am_ws := am_m8 (List.mem_of_getElem? (i := 77) rfl) rfl
theorem wd1891 : Jvm.Cond.methodLink "ToldTracksModel" (523 : Nat) ({ cls := "ToldTracksModel", name := "fact", desc := "(III)V" } : Jvm.MethodName) ∈ am_ws := am_m8 (List.mem_of_getElem? (i := 78) rfl) rfl
theorem wd1893 : Jvm.Cond.instanceMethod ({ cls := "ToldTracksModel", name := "fact", desc := "(III)V" } : Jvm.MethodName) ∈ am_ws := am_m8 (List.mem_of_getElem? (i := 80) rfl) rfl
theorem wd1894 : Jvm.Cond.code ({ cls := "ToldTracksModel", name := "fact", desc := "(III)V" } : Jvm.MethodName) prog_13_method_75_code (4 : Nat) (Option.none : Option Jvm.ClassFile.FieldType) ∈ am_ws := am_m8 (List.mem_of_getElem? (i := 81) rfl) rfl
theorem wd1895 : Jvm.Cond.methodLink "ToldTracksModel" (540 : Nat) ({ cls := "ToldTracksModel", name := "fit", desc := "(I)Z" } : Jvm.MethodName) ∈ am_ws := am_m8 (List.mem_of_getElem? (i := 82) rfl) rfl
theorem wd1897 : Jvm.Cond.instanceMethod ({ cls := "ToldTracksModel", name := "fit", desc := "(I)Z" } : Jvm.MethodName) ∈ am_ws := am_m8 (List.mem_of_getElem? (i := 84) rfl) rfl
theorem wd1898 : Jvm.Cond.code ({ cls := "ToldTracksModel", name := "fit", desc := "(I)Z" } : Jvm.MethodName) prog_13_method_79_code (4 : Nat) (Option.some Jvm.ClassFile.FieldType.boolean) ∈ am_ws := am_m8 (List.mem_of_getElem? (i := 85) rfl) rfl
theorem wd1899 : Jvm.Cond.methodLink "ToldTracksModel" (534 : Nat) ({ cls := "ToldTracksModel", name := "between", desc := "(IIII)I" } : Jvm.MethodName) ∈ am_ws := am_m8 (List.mem_of_getElem? (i := 86) rfl) rfl
theorem wd1900 : Jvm.Cond.static ({ cls := "ToldTracksModel", name := "between", desc := "(IIII)I" } : Jvm.MethodName) ∈ am_ws := am_m8 (List.mem_of_getElem? (i := 87) rfl) rfl
theorem wd1901 : Jvm.Cond.code ({ cls := "ToldTracksModel", name := "between", desc := "(IIII)I" } : Jvm.MethodName) prog_13_method_78_code (4 : Nat) (Option.some Jvm.ClassFile.FieldType.int) ∈ am_ws := am_m8 (List.mem_of_getElem? (i := 88) rfl) rfl
theorem wd1902 : Jvm.Cond.methodLink "ToldTracksModel" (552 : Nat) ({ cls := "ToldTracksModel", name := "keeps", desc := "(I)V" } : Jvm.MethodName) ∈ am_ws := am_m8 (List.mem_of_getElem? (i := 89) rfl) rfl
theorem wd1904 : Jvm.Cond.instanceMethod ({ cls := "ToldTracksModel", name := "keeps", desc := "(I)V" } : Jvm.MethodName) ∈ am_ws := am_m8 (List.mem_of_getElem? (i := 91) rfl) rfl
theorem wd1905 : Jvm.Cond.code ({ cls := "ToldTracksModel", name := "keeps", desc := "(I)V" } : Jvm.MethodName) prog_13_method_83_code (5 : Nat) (Option.none : Option Jvm.ClassFile.FieldType) ∈ am_ws := am_m8 (List.mem_of_getElem? (i := 92) rfl) rfl
theorem wd1906 : Jvm.Cond.methodLink "ToldTracksModel" (549 : Nat) ({ cls := "ToldTracksModel", name := "pairs", desc := "(I)V" } : Jvm.MethodName) ∈ am_ws := am_m8 (List.mem_of_getElem? (i := 93) rfl) rfl
theorem wd1908 : Jvm.Cond.instanceMethod ({ cls := "ToldTracksModel", name := "pairs", desc := "(I)V" } : Jvm.MethodName) ∈ am_ws := am_m8 (List.mem_of_getElem? (i := 95) rfl) rfl
theorem wd1909 : Jvm.Cond.code ({ cls := "ToldTracksModel", name := "pairs", desc := "(I)V" } : Jvm.MethodName) prog_13_method_82_code (5 : Nat) (Option.none : Option Jvm.ClassFile.FieldType) ∈ am_ws := am_m8 (List.mem_of_getElem? (i := 96) rfl) rfl
theorem wd1910 : Jvm.Cond.methodLink "ToldTracksModel" (527 : Nat) ({ cls := "ToldTracksModel", name := "laden", desc := "(II)Z" } : Jvm.MethodName) ∈ am_ws := am_m8 (List.mem_of_getElem? (i := 97) rfl) rfl
theorem wd1912 : Jvm.Cond.instanceMethod ({ cls := "ToldTracksModel", name := "laden", desc := "(II)Z" } : Jvm.MethodName) ∈ am_ws := am_m8 (List.mem_of_getElem? (i := 99) rfl) rfl
theorem wd1913 : Jvm.Cond.code ({ cls := "ToldTracksModel", name := "laden", desc := "(II)Z" } : Jvm.MethodName) prog_13_method_62_code (3 : Nat) (Option.some Jvm.ClassFile.FieldType.boolean) ∈ am_ws := am_m8 (List.mem_of_getElem? (i := 100) rfl) rfl
theorem wd1914 : Jvm.Cond.methodLink "ToldTracksModel" (530 : Nat) ({ cls := "ToldTracksModel", name := "isSound", desc := "(IIZ)Z" } : Jvm.MethodName) ∈ am_ws := am_m8 (List.mem_of_getElem? (i := 101) rfl) rfl
theorem wd1916 : Jvm.Cond.instanceMethod ({ cls := "ToldTracksModel", name := "isSound", desc := "(IIZ)Z" } : Jvm.MethodName) ∈ am_ws := am_m8 (List.mem_of_getElem? (i := 103) rfl) rfl
theorem wd1917 : Jvm.Cond.code ({ cls := "ToldTracksModel", name := "isSound", desc := "(IIZ)Z" } : Jvm.MethodName) prog_13_method_70_code (4 : Nat) (Option.some Jvm.ClassFile.FieldType.boolean) ∈ am_ws := am_m8 (List.mem_of_getElem? (i := 104) rfl) rfl
theorem wd1918 : Jvm.Cond.methodLink "ToldTracksModel" (543 : Nat) ({ cls := "ToldTracksModel", name := "withBooks", desc := "(III)Z" } : Jvm.MethodName) ∈ am_ws := am_m8 (List.mem_of_getElem? (i := 105) rfl) rfl
theorem wd1920 : Jvm.Cond.instanceMethod ({ cls := "ToldTracksModel", name := "withBooks", desc := "(III)Z" } : Jvm.MethodName) ∈ am_ws := am_m8 (List.mem_of_getElem? (i := 107) rfl) rfl
theorem wd1921 : Jvm.Cond.code ({ cls := "ToldTracksModel", name := "withBooks", desc := "(III)Z" } : Jvm.MethodName) prog_13_method_81_code (5 : Nat) (Option.some Jvm.ClassFile.FieldType.boolean) ∈ am_ws := am_m8 (List.mem_of_getElem? (i := 108) rfl) rfl
theorem wd1922 : Jvm.Cond.methodLink "ToldTracksLaw" (50 : Nat) ({ cls := "ToldTracksModel", name := "saying", desc := "(III)I" } : Jvm.MethodName) ∈ am_ws := am_m8 (List.mem_of_getElem? (i := 109) rfl) rfl
theorem wd1923 : Jvm.Cond.instanceMethod ({ cls := "ToldTracksModel", name := "saying", desc := "(III)I" } : Jvm.MethodName) ∈ am_ws := am_m8 (List.mem_of_getElem? (i := 110) rfl) rfl
theorem wd1924 : Jvm.Cond.selects "ToldTracksModel" ({ cls := "ToldTracksModel", name := "saying", desc := "(III)I" } : Jvm.MethodName) ({ cls := "ToldTracksModel", name := "saying", desc := "(III)I" } : Jvm.MethodName) ∈ am_ws := am_m8 (List.mem_of_getElem? (i := 111) rfl) rfl
theorem wd1925 : Jvm.Cond.code ({ cls := "ToldTracksModel", name := "saying", desc := "(III)I" } : Jvm.MethodName) prog_13_method_89_code (5 : Nat) (Option.some Jvm.ClassFile.FieldType.int) ∈ am_ws := am_m8 (List.mem_of_getElem? (i := 112) rfl) rfl
theorem wd1926 : Jvm.Cond.methodLink "ToldTracksModel" (561 : Nat) ({ cls := "ToldTracksModel", name := "hourOf", desc := "(II)I" } : Jvm.MethodName) ∈ am_ws := am_m8 (List.mem_of_getElem? (i := 113) rfl) rfl
theorem wd1928 : Jvm.Cond.instanceMethod ({ cls := "ToldTracksModel", name := "hourOf", desc := "(II)I" } : Jvm.MethodName) ∈ am_ws := am_m8 (List.mem_of_getElem? (i := 115) rfl) rfl
theorem wd1929 : Jvm.Cond.code ({ cls := "ToldTracksModel", name := "hourOf", desc := "(II)I" } : Jvm.MethodName) prog_13_method_64_code (5 : Nat) (Option.some Jvm.ClassFile.FieldType.int) ∈ am_ws := am_m8 (List.mem_of_getElem? (i := 116) rfl) rfl
theorem wd1930 : Jvm.Cond.methodLink "ToldTracksLaw" (63 : Nat) ({ cls := "ToldTracksModel", name := "can", desc := "(III)I" } : Jvm.MethodName) ∈ am_ws := am_m8 (List.mem_of_getElem? (i := 117) rfl) rfl
theorem wd1931 : Jvm.Cond.instanceMethod ({ cls := "ToldTracksModel", name := "can", desc := "(III)I" } : Jvm.MethodName) ∈ am_ws := am_m8 (List.mem_of_getElem? (i := 118) rfl) rfl
theorem wd1932 : Jvm.Cond.selects "ToldTracksModel" ({ cls := "ToldTracksModel", name := "can", desc := "(III)I" } : Jvm.MethodName) ({ cls := "ToldTracksModel", name := "can", desc := "(III)I" } : Jvm.MethodName) ∈ am_ws := am_m8 (List.mem_of_getElem? (i := 119) rfl) rfl
theorem wd1933 : Jvm.Cond.code ({ cls := "ToldTracksModel", name := "can", desc := "(III)I" } : Jvm.MethodName) prog_13_method_90_code (4 : Nat) (Option.some Jvm.ClassFile.FieldType.int) ∈ am_ws := am_m8 (List.mem_of_getElem? (i := 120) rfl) rfl
theorem wd1934 : Jvm.Cond.methodLink "ToldTracksLaw" (67 : Nat) ({ cls := "ToldTracksModel", name := "reach", desc := "(III)I" } : Jvm.MethodName) ∈ am_ws := am_m8 (List.mem_of_getElem? (i := 121) rfl) rfl
theorem wd1935 : Jvm.Cond.instanceMethod ({ cls := "ToldTracksModel", name := "reach", desc := "(III)I" } : Jvm.MethodName) ∈ am_ws := am_m8 (List.mem_of_getElem? (i := 122) rfl) rfl
theorem wd1936 : Jvm.Cond.selects "ToldTracksModel" ({ cls := "ToldTracksModel", name := "reach", desc := "(III)I" } : Jvm.MethodName) ({ cls := "ToldTracksModel", name := "reach", desc := "(III)I" } : Jvm.MethodName) ∈ am_ws := am_m8 (List.mem_of_getElem? (i := 123) rfl) rfl
theorem wd1937 : Jvm.Cond.code ({ cls := "ToldTracksModel", name := "reach", desc := "(III)I" } : Jvm.MethodName) prog_13_method_91_code (6 : Nat) (Option.some Jvm.ClassFile.FieldType.int) ∈ am_ws := am_m8 (List.mem_of_getElem? (i := 124) rfl) rfl
theorem wd1938 : Jvm.Cond.methodLink "ToldTracksModel" (564 : Nat) ({ cls := "ToldTracksModel", name := "lays", desc := "(I)V" } : Jvm.MethodName) ∈ am_ws := am_m8 (List.mem_of_getElem? (i := 125) rfl) rfl
theorem wd1940 : Jvm.Cond.instanceMethod ({ cls := "ToldTracksModel", name := "lays", desc := "(I)V" } : Jvm.MethodName) ∈ am_ws := am_m8 (List.mem_of_getElem? (i := 127) rfl) rfl
theorem wd1941 : Jvm.Cond.code ({ cls := "ToldTracksModel", name := "lays", desc := "(I)V" } : Jvm.MethodName) prog_13_method_84_code (4 : Nat) (Option.none : Option Jvm.ClassFile.FieldType) ∈ am_ws := am_m8 (List.mem_of_getElem? (i := 128) rfl) rfl
theorem wd1942 : Jvm.Cond.methodLink "ToldTracksModel" (566 : Nat) ({ cls := "ToldTracksModel", name := "cellsOf", desc := "(II)I" } : Jvm.MethodName) ∈ am_ws := am_m8 (List.mem_of_getElem? (i := 129) rfl) rfl
theorem wd1944 : Jvm.Cond.instanceMethod ({ cls := "ToldTracksModel", name := "cellsOf", desc := "(II)I" } : Jvm.MethodName) ∈ am_ws := am_m8 (List.mem_of_getElem? (i := 131) rfl) rfl
theorem wd1945 : Jvm.Cond.code ({ cls := "ToldTracksModel", name := "cellsOf", desc := "(II)I" } : Jvm.MethodName) prog_13_method_86_code (5 : Nat) (Option.some Jvm.ClassFile.FieldType.int) ∈ am_ws := am_m8 (List.mem_of_getElem? (i := 132) rfl) rfl
theorem wd1946 : Jvm.Cond.methodLink "ToldTracksModel" (555 : Nat) ({ cls := "ToldTracksModel", name := "mayBe", desc := "(III)Z" } : Jvm.MethodName) ∈ am_ws := am_m8 (List.mem_of_getElem? (i := 133) rfl) rfl
theorem wd1948 : Jvm.Cond.instanceMethod ({ cls := "ToldTracksModel", name := "mayBe", desc := "(III)Z" } : Jvm.MethodName) ∈ am_ws := am_m8 (List.mem_of_getElem? (i := 135) rfl) rfl
theorem wd1949 : Jvm.Cond.code ({ cls := "ToldTracksModel", name := "mayBe", desc := "(III)Z" } : Jvm.MethodName) prog_13_method_85_code (5 : Nat) (Option.some Jvm.ClassFile.FieldType.boolean) ∈ am_ws := am_m8 (List.mem_of_getElem? (i := 136) rfl) rfl
theorem wd1950 : Jvm.Cond.methodLink "ToldTracksLaw" (71 : Nat) ({ cls := "ToldTracksModel", name := "may", desc := "(IIII)I" } : Jvm.MethodName) ∈ am_ws := am_m8 (List.mem_of_getElem? (i := 137) rfl) rfl
theorem wd1951 : Jvm.Cond.instanceMethod ({ cls := "ToldTracksModel", name := "may", desc := "(IIII)I" } : Jvm.MethodName) ∈ am_ws := am_m8 (List.mem_of_getElem? (i := 138) rfl) rfl
theorem wd1952 : Jvm.Cond.selects "ToldTracksModel" ({ cls := "ToldTracksModel", name := "may", desc := "(IIII)I" } : Jvm.MethodName) ({ cls := "ToldTracksModel", name := "may", desc := "(IIII)I" } : Jvm.MethodName) ∈ am_ws := am_m8 (List.mem_of_getElem? (i := 139) rfl) rfl
theorem wd1953 : Jvm.Cond.code ({ cls := "ToldTracksModel", name := "may", desc := "(IIII)I" } : Jvm.MethodName) prog_13_method_92_code (5 : Nat) (Option.some Jvm.ClassFile.FieldType.int) ∈ am_ws := am_m8 (List.mem_of_getElem? (i := 140) rfl) rfl
theorem wd1954 : Jvm.Cond.methodLink "ToldTracksLaw" (75 : Nat) ({ cls := "ToldTracksModel", name := "judge", desc := "(II)I" } : Jvm.MethodName) ∈ am_ws := am_m8 (List.mem_of_getElem? (i := 141) rfl) rfl
theorem wd1955 : Jvm.Cond.instanceMethod ({ cls := "ToldTracksModel", name := "judge", desc := "(II)I" } : Jvm.MethodName) ∈ am_ws := am_m8 (List.mem_of_getElem? (i := 142) rfl) rfl
theorem wd1956 : Jvm.Cond.selects "ToldTracksModel" ({ cls := "ToldTracksModel", name := "judge", desc := "(II)I" } : Jvm.MethodName) ({ cls := "ToldTracksModel", name := "judge", desc := "(II)I" } : Jvm.MethodName) ∈ am_ws := am_m8 (List.mem_of_getElem? (i := 143) rfl) rfl
theorem wd1957 : Jvm.Cond.code ({ cls := "ToldTracksModel", name := "judge", desc := "(II)I" } : Jvm.MethodName) prog_13_method_101_code (3 : Nat) (Option.some Jvm.ClassFile.FieldType.int) ∈ am_ws := am_m8 (List.mem_of_getElem? (i := 144) rfl) rfl
theorem wd1958 : Jvm.Cond.methodLink "ToldTracksModel" (596 : Nat) ({ cls := "ToldTracksModel", name := "isKind", desc := "(II)Z" } : Jvm.MethodName) ∈ am_ws := am_m8 (List.mem_of_getElem? (i := 145) rfl) rfl
theorem wd1960 : Jvm.Cond.instanceMethod ({ cls := "ToldTracksModel", name := "isKind", desc := "(II)Z" } : Jvm.MethodName) ∈ am_ws := am_m8 (List.mem_of_getElem? (i := 147) rfl) rfl
theorem wd1961 : Jvm.Cond.code ({ cls := "ToldTracksModel", name := "isKind", desc := "(II)Z" } : Jvm.MethodName) prog_13_method_100_code (4 : Nat) (Option.some Jvm.ClassFile.FieldType.boolean) ∈ am_ws := am_m8 (List.mem_of_getElem? (i := 148) rfl) rfl
theorem wd1962 : Jvm.Cond.methodLink "ToldTracksModel" (587 : Nat) ({ cls := "ToldTracksModel", name := "whoOf", desc := "(I)I" } : Jvm.MethodName) ∈ am_ws := am_m8 (List.mem_of_getElem? (i := 149) rfl) rfl
theorem wd1964 : Jvm.Cond.instanceMethod ({ cls := "ToldTracksModel", name := "whoOf", desc := "(I)I" } : Jvm.MethodName) ∈ am_ws := am_m8 (List.mem_of_getElem? (i := 151) rfl) rfl
theorem wd1965 : Jvm.Cond.code ({ cls := "ToldTracksModel", name := "whoOf", desc := "(I)I" } : Jvm.MethodName) prog_13_method_95_code (4 : Nat) (Option.some Jvm.ClassFile.FieldType.int) ∈ am_ws := am_m8 (List.mem_of_getElem? (i := 152) rfl) rfl
theorem wd1966 : Jvm.Cond.methodLink "ToldTracksModel" (575 : Nat) ({ cls := "ToldTracksModel", name := "saidBy", desc := "(II)Z" } : Jvm.MethodName) ∈ am_ws := am_m8 (List.mem_of_getElem? (i := 153) rfl) rfl
theorem wd1968 : Jvm.Cond.instanceMethod ({ cls := "ToldTracksModel", name := "saidBy", desc := "(II)Z" } : Jvm.MethodName) ∈ am_ws := am_m8 (List.mem_of_getElem? (i := 155) rfl) rfl
theorem wd1969 : Jvm.Cond.code ({ cls := "ToldTracksModel", name := "saidBy", desc := "(II)Z" } : Jvm.MethodName) prog_13_method_94_code (4 : Nat) (Option.some Jvm.ClassFile.FieldType.boolean) ∈ am_ws := am_m8 (List.mem_of_getElem? (i := 156) rfl) rfl
theorem wd1970 : Jvm.Cond.methodLink "ToldTracksModel" (572 : Nat) ({ cls := "ToldTracksModel", name := "addSayings", desc := "(III)Z" } : Jvm.MethodName) ∈ am_ws := am_m8 (List.mem_of_getElem? (i := 157) rfl) rfl
theorem wd1972 : Jvm.Cond.instanceMethod ({ cls := "ToldTracksModel", name := "addSayings", desc := "(III)Z" } : Jvm.MethodName) ∈ am_ws := am_m8 (List.mem_of_getElem? (i := 159) rfl) rfl
theorem wd1973 : Jvm.Cond.code ({ cls := "ToldTracksModel", name := "addSayings", desc := "(III)Z" } : Jvm.MethodName) prog_13_method_77_code (6 : Nat) (Option.some Jvm.ClassFile.FieldType.boolean) ∈ am_ws := am_m8 (List.mem_of_getElem? (i := 160) rfl) rfl
theorem wd1974 : Jvm.Cond.methodLink "ToldTracksModel" (590 : Nat) ({ cls := "ToldTracksModel", name := "isPair", desc := "(I)Z" } : Jvm.MethodName) ∈ am_ws := am_m8 (List.mem_of_getElem? (i := 161) rfl) rfl
theorem wd1976 : Jvm.Cond.instanceMethod ({ cls := "ToldTracksModel", name := "isPair", desc := "(I)Z" } : Jvm.MethodName) ∈ am_ws := am_m8 (List.mem_of_getElem? (i := 163) rfl) rfl
theorem wd1977 : Jvm.Cond.code ({ cls := "ToldTracksModel", name := "isPair", desc := "(I)Z" } : Jvm.MethodName) prog_13_method_97_code (5 : Nat) (Option.some Jvm.ClassFile.FieldType.boolean) ∈ am_ws := am_m8 (List.mem_of_getElem? (i := 164) rfl) rfl
theorem wd1978 : Jvm.Cond.methodLink "ToldTracksModel" (578 : Nat) ({ cls := "ToldTracksModel", name := "keepsSets", desc := "()V" } : Jvm.MethodName) ∈ am_ws := am_m8 (List.mem_of_getElem? (i := 165) rfl) rfl
theorem wd1980 : Jvm.Cond.instanceMethod ({ cls := "ToldTracksModel", name := "keepsSets", desc := "()V" } : Jvm.MethodName) ∈ am_ws := am_m8 (List.mem_of_getElem? (i := 167) rfl) rfl
theorem wd1981 : Jvm.Cond.code ({ cls := "ToldTracksModel", name := "keepsSets", desc := "()V" } : Jvm.MethodName) prog_13_method_98_code (2 : Nat) (Option.none : Option Jvm.ClassFile.FieldType) ∈ am_ws := am_m8 (List.mem_of_getElem? (i := 168) rfl) rfl
theorem wd1982 : Jvm.Cond.methodLink "ToldTracksModel" (581 : Nat) ({ cls := "ToldTracksModel", name := "parts", desc := "(II)Z" } : Jvm.MethodName) ∈ am_ws := am_m8 (List.mem_of_getElem? (i := 169) rfl) rfl
theorem wd1984 : Jvm.Cond.instanceMethod ({ cls := "ToldTracksModel", name := "parts", desc := "(II)Z" } : Jvm.MethodName) ∈ am_ws := am_m8 (List.mem_of_getElem? (i := 171) rfl) rfl
theorem wd1985 : Jvm.Cond.code ({ cls := "ToldTracksModel", name := "parts", desc := "(II)Z" } : Jvm.MethodName) prog_13_method_96_code (6 : Nat) (Option.some Jvm.ClassFile.FieldType.boolean) ∈ am_ws := am_m8 (List.mem_of_getElem? (i := 172) rfl) rfl
theorem wd1986 : Jvm.Cond.methodLink "ToldTracksModel" (584 : Nat) ({ cls := "ToldTracksModel", name := "bringsSets", desc := "()V" } : Jvm.MethodName) ∈ am_ws := am_m8 (List.mem_of_getElem? (i := 173) rfl) rfl
theorem wd1988 : Jvm.Cond.instanceMethod ({ cls := "ToldTracksModel", name := "bringsSets", desc := "()V" } : Jvm.MethodName) ∈ am_ws := am_m8 (List.mem_of_getElem? (i := 175) rfl) rfl
theorem wd1989 : Jvm.Cond.code ({ cls := "ToldTracksModel", name := "bringsSets", desc := "()V" } : Jvm.MethodName) prog_13_method_99_code (2 : Nat) (Option.none : Option Jvm.ClassFile.FieldType) ∈ am_ws := am_m8 (List.mem_of_getElem? (i := 176) rfl) rfl
theorem wd1990 : Jvm.Cond.methodLink "ToldTracksModel" (593 : Nat) ({ cls := "ToldTracksModel", name := "gapsOf", desc := "(I)I" } : Jvm.MethodName) ∈ am_ws := am_m8 (List.mem_of_getElem? (i := 177) rfl) rfl
theorem wd1992 : Jvm.Cond.instanceMethod ({ cls := "ToldTracksModel", name := "gapsOf", desc := "(I)I" } : Jvm.MethodName) ∈ am_ws := am_m8 (List.mem_of_getElem? (i := 179) rfl) rfl
theorem wd1993 : Jvm.Cond.code ({ cls := "ToldTracksModel", name := "gapsOf", desc := "(I)I" } : Jvm.MethodName) prog_13_method_93_code (4 : Nat) (Option.some Jvm.ClassFile.FieldType.int) ∈ am_ws := am_m8 (List.mem_of_getElem? (i := 180) rfl) rfl
theorem wd1994 : Jvm.Cond.methodLink "ToldTracksModel" (569 : Nat) ({ cls := "ToldTracksModel", name := "isHonest", desc := "(II)Z" } : Jvm.MethodName) ∈ am_ws := am_m8 (List.mem_of_getElem? (i := 181) rfl) rfl
theorem wd1996 : Jvm.Cond.instanceMethod ({ cls := "ToldTracksModel", name := "isHonest", desc := "(II)Z" } : Jvm.MethodName) ∈ am_ws := am_m8 (List.mem_of_getElem? (i := 183) rfl) rfl
theorem wd1997 : Jvm.Cond.code ({ cls := "ToldTracksModel", name := "isHonest", desc := "(II)Z" } : Jvm.MethodName) prog_13_method_87_code (4 : Nat) (Option.some Jvm.ClassFile.FieldType.boolean) ∈ am_ws := am_m8 (List.mem_of_getElem? (i := 184) rfl) rfl
theorem wd1998 : Jvm.Cond.methodLink "ToldTracksLaw" (79 : Nat) ({ cls := "ToldTracksModel", name := "tale", desc := "(II)I" } : Jvm.MethodName) ∈ am_ws := am_m8 (List.mem_of_getElem? (i := 185) rfl) rfl
theorem wd1999 : Jvm.Cond.instanceMethod ({ cls := "ToldTracksModel", name := "tale", desc := "(II)I" } : Jvm.MethodName) ∈ am_ws := am_m8 (List.mem_of_getElem? (i := 186) rfl) rfl
theorem wd2000 : Jvm.Cond.selects "ToldTracksModel" ({ cls := "ToldTracksModel", name := "tale", desc := "(II)I" } : Jvm.MethodName) ({ cls := "ToldTracksModel", name := "tale", desc := "(II)I" } : Jvm.MethodName) ∈ am_ws := am_m8 (List.mem_of_getElem? (i := 187) rfl) rfl
theorem wd2001 : Jvm.Cond.code ({ cls := "ToldTracksModel", name := "tale", desc := "(II)I" } : Jvm.MethodName) prog_13_method_103_code (3 : Nat) (Option.some Jvm.ClassFile.FieldType.int) ∈ am_ws := am_m8 (List.mem_of_getElem? (i := 188) rfl) rfl
theorem wd2002 : Jvm.Cond.methodLink "ToldTracksModel" (599 : Nat) ({ cls := "ToldTracksModel", name := "taleOf", desc := "(II)I" } : Jvm.MethodName) ∈ am_ws := am_m8 (List.mem_of_getElem? (i := 189) rfl) rfl
theorem wd2004 : Jvm.Cond.instanceMethod ({ cls := "ToldTracksModel", name := "taleOf", desc := "(II)I" } : Jvm.MethodName) ∈ am_ws := am_m8 (List.mem_of_getElem? (i := 191) rfl) rfl
theorem wd2005 : Jvm.Cond.code ({ cls := "ToldTracksModel", name := "taleOf", desc := "(II)I" } : Jvm.MethodName) prog_13_method_102_code (5 : Nat) (Option.some Jvm.ClassFile.FieldType.int) ∈ am_ws := am_m8 (List.mem_of_getElem? (i := 192) rfl) rfl
theorem wd2006 : Jvm.Cond.methodLink "ToldTracksLaw" (83 : Nat) ({ cls := "ToldTracksModel", name := "bars", desc := "(I)I" } : Jvm.MethodName) ∈ am_ws := am_m8 (List.mem_of_getElem? (i := 193) rfl) rfl
theorem wd2007 : Jvm.Cond.instanceMethod ({ cls := "ToldTracksModel", name := "bars", desc := "(I)I" } : Jvm.MethodName) ∈ am_ws := am_m8 (List.mem_of_getElem? (i := 194) rfl) rfl
theorem wd2008 : Jvm.Cond.selects "ToldTracksModel" ({ cls := "ToldTracksModel", name := "bars", desc := "(I)I" } : Jvm.MethodName) ({ cls := "ToldTracksModel", name := "bars", desc := "(I)I" } : Jvm.MethodName) ∈ am_ws := am_m8 (List.mem_of_getElem? (i := 195) rfl) rfl
theorem wd2009 : Jvm.Cond.code ({ cls := "ToldTracksModel", name := "bars", desc := "(I)I" } : Jvm.MethodName) prog_13_method_104_code (5 : Nat) (Option.some Jvm.ClassFile.FieldType.int) ∈ am_ws := am_m8 (List.mem_of_getElem? (i := 196) rfl) rfl
theorem wd2010 : Jvm.Cond.methodLink "ToldTracksLaw" (87 : Nat) ({ cls := "ToldTracksModel", name := "clash", desc := "(II)I" } : Jvm.MethodName) ∈ am_ws := am_m8 (List.mem_of_getElem? (i := 197) rfl) rfl
theorem wd2011 : Jvm.Cond.instanceMethod ({ cls := "ToldTracksModel", name := "clash", desc := "(II)I" } : Jvm.MethodName) ∈ am_ws := am_m8 (List.mem_of_getElem? (i := 198) rfl) rfl
theorem wd2012 : Jvm.Cond.selects "ToldTracksModel" ({ cls := "ToldTracksModel", name := "clash", desc := "(II)I" } : Jvm.MethodName) ({ cls := "ToldTracksModel", name := "clash", desc := "(II)I" } : Jvm.MethodName) ∈ am_ws := am_m8 (List.mem_of_getElem? (i := 199) rfl) rfl
theorem wd2013 : Jvm.Cond.code ({ cls := "ToldTracksModel", name := "clash", desc := "(II)I" } : Jvm.MethodName) prog_13_method_105_code (8 : Nat) (Option.some Jvm.ClassFile.FieldType.int) ∈ am_ws := am_m8 (List.mem_of_getElem? (i := 200) rfl) rfl
theorem wd2014 : Jvm.Cond.methodLink "ToldTracksLaw" (91 : Nat) ({ cls := "ToldTracksModel", name := "who", desc := "(I)I" } : Jvm.MethodName) ∈ am_ws := am_m8 (List.mem_of_getElem? (i := 201) rfl) rfl
theorem wd2015 : Jvm.Cond.instanceMethod ({ cls := "ToldTracksModel", name := "who", desc := "(I)I" } : Jvm.MethodName) ∈ am_ws := am_m8 (List.mem_of_getElem? (i := 202) rfl) rfl
theorem wd2016 : Jvm.Cond.selects "ToldTracksModel" ({ cls := "ToldTracksModel", name := "who", desc := "(I)I" } : Jvm.MethodName) ({ cls := "ToldTracksModel", name := "who", desc := "(I)I" } : Jvm.MethodName) ∈ am_ws := am_m8 (List.mem_of_getElem? (i := 203) rfl) rfl
theorem wd2017 : Jvm.Cond.code ({ cls := "ToldTracksModel", name := "who", desc := "(I)I" } : Jvm.MethodName) prog_13_method_106_code (2 : Nat) (Option.some Jvm.ClassFile.FieldType.int) ∈ am_ws := am_m8 (List.mem_of_getElem? (i := 204) rfl) rfl
theorem wd2018 : Jvm.Cond.methodLink "ToldTracksLaw" (95 : Nat) ({ cls := "ToldTracksModel", name := "swap", desc := "(II)I" } : Jvm.MethodName) ∈ am_ws := am_m8 (List.mem_of_getElem? (i := 205) rfl) rfl
theorem wd2019 : Jvm.Cond.instanceMethod ({ cls := "ToldTracksModel", name := "swap", desc := "(II)I" } : Jvm.MethodName) ∈ am_ws := am_m8 (List.mem_of_getElem? (i := 206) rfl) rfl
theorem wd2020 : Jvm.Cond.selects "ToldTracksModel" ({ cls := "ToldTracksModel", name := "swap", desc := "(II)I" } : Jvm.MethodName) ({ cls := "ToldTracksModel", name := "swap", desc := "(II)I" } : Jvm.MethodName) ∈ am_ws := am_m8 (List.mem_of_getElem? (i := 207) rfl) rfl
theorem wd2021 : Jvm.Cond.code ({ cls := "ToldTracksModel", name := "swap", desc := "(II)I" } : Jvm.MethodName) prog_13_method_108_code (3 : Nat) (Option.some Jvm.ClassFile.FieldType.int) ∈ am_ws := am_m8 (List.mem_of_getElem? (i := 208) rfl) rfl
theorem wd2022 : Jvm.Cond.methodLink "ToldTracksModel" (602 : Nat) ({ cls := "ToldTracksModel", name := "isFor", desc := "(II)Z" } : Jvm.MethodName) ∈ am_ws := am_m8 (List.mem_of_getElem? (i := 209) rfl) rfl
theorem wd2024 : Jvm.Cond.instanceMethod ({ cls := "ToldTracksModel", name := "isFor", desc := "(II)Z" } : Jvm.MethodName) ∈ am_ws := am_m8 (List.mem_of_getElem? (i := 211) rfl) rfl
theorem wd2025 : Jvm.Cond.code ({ cls := "ToldTracksModel", name := "isFor", desc := "(II)Z" } : Jvm.MethodName) prog_13_method_107_code (4 : Nat) (Option.some Jvm.ClassFile.FieldType.boolean) ∈ am_ws := am_m8 (List.mem_of_getElem? (i := 212) rfl) rfl
theorem wd2026 : Jvm.Cond.methodLink "ToldTracksLaw" (99 : Nat) ({ cls := "ToldTracksModel", name := "kinds", desc := "(I)I" } : Jvm.MethodName) ∈ am_ws := am_m8 (List.mem_of_getElem? (i := 213) rfl) rfl
theorem wd2027 : Jvm.Cond.instanceMethod ({ cls := "ToldTracksModel", name := "kinds", desc := "(I)I" } : Jvm.MethodName) ∈ am_ws := am_m8 (List.mem_of_getElem? (i := 214) rfl) rfl
theorem wd2028 : Jvm.Cond.selects "ToldTracksModel" ({ cls := "ToldTracksModel", name := "kinds", desc := "(I)I" } : Jvm.MethodName) ({ cls := "ToldTracksModel", name := "kinds", desc := "(I)I" } : Jvm.MethodName) ∈ am_ws := am_m8 (List.mem_of_getElem? (i := 215) rfl) rfl
theorem wd2029 : Jvm.Cond.code ({ cls := "ToldTracksModel", name := "kinds", desc := "(I)I" } : Jvm.MethodName) prog_13_method_109_code (4 : Nat) (Option.some Jvm.ClassFile.FieldType.int) ∈ am_ws := am_m8 (List.mem_of_getElem? (i := 216) rfl) rfl
theorem wd2030 : Jvm.Cond.methodLink "ToldTracksLaw" (103 : Nat) ({ cls := "ToldTracksModel", name := "lies", desc := "()I" } : Jvm.MethodName) ∈ am_ws := am_m8 (List.mem_of_getElem? (i := 217) rfl) rfl
theorem wd2031 : Jvm.Cond.instanceMethod ({ cls := "ToldTracksModel", name := "lies", desc := "()I" } : Jvm.MethodName) ∈ am_ws := am_m8 (List.mem_of_getElem? (i := 218) rfl) rfl
theorem wd2032 : Jvm.Cond.selects "ToldTracksModel" ({ cls := "ToldTracksModel", name := "lies", desc := "()I" } : Jvm.MethodName) ({ cls := "ToldTracksModel", name := "lies", desc := "()I" } : Jvm.MethodName) ∈ am_ws := am_m8 (List.mem_of_getElem? (i := 219) rfl) rfl
theorem wd2033 : Jvm.Cond.code ({ cls := "ToldTracksModel", name := "lies", desc := "()I" } : Jvm.MethodName) prog_13_method_111_code (3 : Nat) (Option.some Jvm.ClassFile.FieldType.int) ∈ am_ws := am_m8 (List.mem_of_getElem? (i := 220) rfl) rfl
theorem wd2034 : Jvm.Cond.methodLink "ToldTracksModel" (605 : Nat) ({ cls := "ToldTracksModel", name := "liesOf", desc := "(I)I" } : Jvm.MethodName) ∈ am_ws := am_m8 (List.mem_of_getElem? (i := 221) rfl) rfl
theorem wd2036 : Jvm.Cond.instanceMethod ({ cls := "ToldTracksModel", name := "liesOf", desc := "(I)I" } : Jvm.MethodName) ∈ am_ws := am_m8 (List.mem_of_getElem? (i := 223) rfl) rfl
theorem wd2037 : Jvm.Cond.code ({ cls := "ToldTracksModel", name := "liesOf", desc := "(I)I" } : Jvm.MethodName) prog_13_method_110_code (2 : Nat) (Option.some Jvm.ClassFile.FieldType.int) ∈ am_ws := am_m8 (List.mem_of_getElem? (i := 224) rfl) rfl
theorem wd2038 : Jvm.Cond.methodLink "ToldTracksLaw" (107 : Nat) ({ cls := "ToldTracksModel", name := "met", desc := "(III)I" } : Jvm.MethodName) ∈ am_ws := am_m8 (List.mem_of_getElem? (i := 225) rfl) rfl
theorem wd2039 : Jvm.Cond.instanceMethod ({ cls := "ToldTracksModel", name := "met", desc := "(III)I" } : Jvm.MethodName) ∈ am_ws := am_m8 (List.mem_of_getElem? (i := 226) rfl) rfl
theorem wd2040 : Jvm.Cond.selects "ToldTracksModel" ({ cls := "ToldTracksModel", name := "met", desc := "(III)I" } : Jvm.MethodName) ({ cls := "ToldTracksModel", name := "met", desc := "(III)I" } : Jvm.MethodName) ∈ am_ws := am_m8 (List.mem_of_getElem? (i := 227) rfl) rfl
theorem wd2041 : Jvm.Cond.code ({ cls := "ToldTracksModel", name := "met", desc := "(III)I" } : Jvm.MethodName) prog_13_method_113_code (10 : Nat) (Option.some Jvm.ClassFile.FieldType.int) ∈ am_ws := am_m8 (List.mem_of_getElem? (i := 228) rfl) rfl
theorem wd2042 : Jvm.Cond.methodLink "ToldTracksModel" (608 : Nat) ({ cls := "ToldTracksModel", name := "changes", desc := "(IIZ)Z" } : Jvm.MethodName) ∈ am_ws := am_m8 (List.mem_of_getElem? (i := 229) rfl) rfl
theorem wd2044 : Jvm.Cond.instanceMethod ({ cls := "ToldTracksModel", name := "changes", desc := "(IIZ)Z" } : Jvm.MethodName) ∈ am_ws := am_m8 (List.mem_of_getElem? (i := 231) rfl) rfl
theorem wd2045 : Jvm.Cond.code ({ cls := "ToldTracksModel", name := "changes", desc := "(IIZ)Z" } : Jvm.MethodName) prog_13_method_112_code (6 : Nat) (Option.some Jvm.ClassFile.FieldType.boolean) ∈ am_ws := am_m8 (List.mem_of_getElem? (i := 232) rfl) rfl
theorem wd2046 : Jvm.Cond.methodLink "ToldTracksLaw" (111 : Nat) ({ cls := "ToldTracksModel", name := "sighting", desc := "(II)I" } : Jvm.MethodName) ∈ am_ws := am_m8 (List.mem_of_getElem? (i := 233) rfl) rfl
theorem wd2047 : Jvm.Cond.instanceMethod ({ cls := "ToldTracksModel", name := "sighting", desc := "(II)I" } : Jvm.MethodName) ∈ am_ws := am_m8 (List.mem_of_getElem? (i := 234) rfl) rfl
theorem wd2048 : Jvm.Cond.selects "ToldTracksModel" ({ cls := "ToldTracksModel", name := "sighting", desc := "(II)I" } : Jvm.MethodName) ({ cls := "ToldTracksModel", name := "sighting", desc := "(II)I" } : Jvm.MethodName) ∈ am_ws := am_m8 (List.mem_of_getElem? (i := 235) rfl) rfl
theorem wd2049 : Jvm.Cond.code ({ cls := "ToldTracksModel", name := "sighting", desc := "(II)I" } : Jvm.MethodName) prog_13_method_115_code (4 : Nat) (Option.some Jvm.ClassFile.FieldType.int) ∈ am_ws := am_m8 (List.mem_of_getElem? (i := 236) rfl) rfl
theorem wd2050 : Jvm.Cond.methodLink "ToldTracksModel" (611 : Nat) ({ cls := "ToldTracksModel", name := "explains", desc := "()V" } : Jvm.MethodName) ∈ am_ws := am_m8 (List.mem_of_getElem? (i := 237) rfl) rfl
theorem wd2052 : Jvm.Cond.instanceMethod ({ cls := "ToldTracksModel", name := "explains", desc := "()V" } : Jvm.MethodName) ∈ am_ws := am_m8 (List.mem_of_getElem? (i := 239) rfl) rfl
theorem wd2053 : Jvm.Cond.code ({ cls := "ToldTracksModel", name := "explains", desc := "()V" } : Jvm.MethodName) prog_13_method_114_code (4 : Nat) (Option.none : Option Jvm.ClassFile.FieldType) ∈ am_ws := am_m9 (List.mem_of_getElem? (i := 0) rfl) rfl
theorem wd2054 : Jvm.Cond.methodLink "ToldTracksLaw" (115 : Nat) ({ cls := "ToldTracksModel", name := "strange", desc := "()I" } : Jvm.MethodName) ∈ am_ws := am_m9 (List.mem_of_getElem? (i := 1) rfl) rfl
theorem wd2055 : Jvm.Cond.instanceMethod ({ cls := "ToldTracksModel", name := "strange", desc := "()I" } : Jvm.MethodName) ∈ am_ws := am_m9 (List.mem_of_getElem? (i := 2) rfl) rfl
theorem wd2056 : Jvm.Cond.selects "ToldTracksModel" ({ cls := "ToldTracksModel", name := "strange", desc := "()I" } : Jvm.MethodName) ({ cls := "ToldTracksModel", name := "strange", desc := "()I" } : Jvm.MethodName) ∈ am_ws := am_m9 (List.mem_of_getElem? (i := 3) rfl) rfl
theorem wd2057 : Jvm.Cond.code ({ cls := "ToldTracksModel", name := "strange", desc := "()I" } : Jvm.MethodName) prog_13_method_116_code (3 : Nat) (Option.some Jvm.ClassFile.FieldType.int) ∈ am_ws := am_m9 (List.mem_of_getElem? (i := 4) rfl) rfl
theorem wd2058 : Jvm.Cond.methodLink "ToldTracksLaw" (119 : Nat) ({ cls := "ToldTracksModel", name := "doubted", desc := "()I" } : Jvm.MethodName) ∈ am_ws := am_m9 (List.mem_of_getElem? (i := 5) rfl) rfl
theorem wd2059 : Jvm.Cond.instanceMethod ({ cls := "ToldTracksModel", name := "doubted", desc := "()I" } : Jvm.MethodName) ∈ am_ws := am_m9 (List.mem_of_getElem? (i := 6) rfl) rfl
theorem wd2060 : Jvm.Cond.selects "ToldTracksModel" ({ cls := "ToldTracksModel", name := "doubted", desc := "()I" } : Jvm.MethodName) ({ cls := "ToldTracksModel", name := "doubted", desc := "()I" } : Jvm.MethodName) ∈ am_ws := am_m9 (List.mem_of_getElem? (i := 7) rfl) rfl
theorem wd2061 : Jvm.Cond.code ({ cls := "ToldTracksModel", name := "doubted", desc := "()I" } : Jvm.MethodName) prog_13_method_117_code (5 : Nat) (Option.some Jvm.ClassFile.FieldType.int) ∈ am_ws := am_m9 (List.mem_of_getElem? (i := 8) rfl) rfl
theorem wd2062 : Jvm.Cond.methodLink "ToldTracksLaw" (123 : Nat) ({ cls := "ToldTracksModel", name := "gaps", desc := "(II)I" } : Jvm.MethodName) ∈ am_ws := am_m9 (List.mem_of_getElem? (i := 9) rfl) rfl
theorem wd2063 : Jvm.Cond.instanceMethod ({ cls := "ToldTracksModel", name := "gaps", desc := "(II)I" } : Jvm.MethodName) ∈ am_ws := am_m9 (List.mem_of_getElem? (i := 10) rfl) rfl
theorem wd2064 : Jvm.Cond.selects "ToldTracksModel" ({ cls := "ToldTracksModel", name := "gaps", desc := "(II)I" } : Jvm.MethodName) ({ cls := "ToldTracksModel", name := "gaps", desc := "(II)I" } : Jvm.MethodName) ∈ am_ws := am_m9 (List.mem_of_getElem? (i := 11) rfl) rfl
theorem wd2065 : Jvm.Cond.code ({ cls := "ToldTracksModel", name := "gaps", desc := "(II)I" } : Jvm.MethodName) prog_13_method_118_code (4 : Nat) (Option.some Jvm.ClassFile.FieldType.int) ∈ am_ws := am_m9 (List.mem_of_getElem? (i := 12) rfl) rfl
theorem wd2066 : Jvm.Cond.methodLink "ToldTracksLaw" (128 : Nat) ({ cls := "ToldTracksModel", name := "chance", desc := "(I)J" } : Jvm.MethodName) ∈ am_ws := am_m9 (List.mem_of_getElem? (i := 13) rfl) rfl
theorem wd2067 : Jvm.Cond.instanceMethod ({ cls := "ToldTracksModel", name := "chance", desc := "(I)J" } : Jvm.MethodName) ∈ am_ws := am_m9 (List.mem_of_getElem? (i := 14) rfl) rfl
theorem wd2068 : Jvm.Cond.selects "ToldTracksModel" ({ cls := "ToldTracksModel", name := "chance", desc := "(I)J" } : Jvm.MethodName) ({ cls := "ToldTracksModel", name := "chance", desc := "(I)J" } : Jvm.MethodName) ∈ am_ws := am_m9 (List.mem_of_getElem? (i := 15) rfl) rfl
theorem wd2069 : Jvm.Cond.code ({ cls := "ToldTracksModel", name := "chance", desc := "(I)J" } : Jvm.MethodName) prog_13_method_120_code (2 : Nat) (Option.some Jvm.ClassFile.FieldType.long) ∈ am_ws := am_m9 (List.mem_of_getElem? (i := 16) rfl) rfl
theorem wd2070 : Jvm.Cond.methodLink "ToldTracksModel" (618 : Nat) ({ cls := "ToldTracksModel", name := "chanceOf", desc := "(I)J" } : Jvm.MethodName) ∈ am_ws := am_m9 (List.mem_of_getElem? (i := 17) rfl) rfl
theorem wd2072 : Jvm.Cond.instanceMethod ({ cls := "ToldTracksModel", name := "chanceOf", desc := "(I)J" } : Jvm.MethodName) ∈ am_ws := am_m9 (List.mem_of_getElem? (i := 19) rfl) rfl
theorem wd2073 : Jvm.Cond.code ({ cls := "ToldTracksModel", name := "chanceOf", desc := "(I)J" } : Jvm.MethodName) prog_13_method_119_code (7 : Nat) (Option.some Jvm.ClassFile.FieldType.long) ∈ am_ws := am_m9 (List.mem_of_getElem? (i := 20) rfl) rfl
theorem wd2074 : Jvm.Cond.constantLong "ToldTracksModel" (614 : Nat) (1000000000000 : Int64) ∈ am_ws := am_m9 (List.mem_of_getElem? (i := 21) rfl) rfl
theorem wd2075 : Jvm.Cond.constantLong "ToldTracksModel" (616 : Nat) (100 : Int64) ∈ am_ws := am_m9 (List.mem_of_getElem? (i := 22) rfl) rfl
theorem wd2076 : Jvm.Cond.constantLong "ToldTracksModel" (622 : Nat) (-1 : Int64) ∈ am_ws := am_m9 (List.mem_of_getElem? (i := 23) rfl) rfl
theorem wd2077 : Jvm.Cond.methodLink "ToldTracksLaw" (132 : Nat) ({ cls := "ToldTracksModel", name := "beyond", desc := "()I" } : Jvm.MethodName) ∈ am_ws := am_m9 (List.mem_of_getElem? (i := 24) rfl) rfl
theorem wd2078 : Jvm.Cond.instanceMethod ({ cls := "ToldTracksModel", name := "beyond", desc := "()I" } : Jvm.MethodName) ∈ am_ws := am_m9 (List.mem_of_getElem? (i := 25) rfl) rfl
theorem wd2079 : Jvm.Cond.selects "ToldTracksModel" ({ cls := "ToldTracksModel", name := "beyond", desc := "()I" } : Jvm.MethodName) ({ cls := "ToldTracksModel", name := "beyond", desc := "()I" } : Jvm.MethodName) ∈ am_ws := am_m9 (List.mem_of_getElem? (i := 26) rfl) rfl
theorem wd2080 : Jvm.Cond.code ({ cls := "ToldTracksModel", name := "beyond", desc := "()I" } : Jvm.MethodName) prog_13_method_121_code (3 : Nat) (Option.some Jvm.ClassFile.FieldType.int) ∈ am_ws := am_m9 (List.mem_of_getElem? (i := 27) rfl) rfl
theorem wd2081 : Jvm.Cond.constantLong "ToldTracksModel" (624 : Nat) (50000000000 : Int64) ∈ am_ws := am_m9 (List.mem_of_getElem? (i := 28) rfl) rfl
theorem wd2082 : Jvm.Cond.methodLink "ToldTracksLaw" (136 : Nat) ({ cls := "ToldTracksModel", name := "settles", desc := "(III)I" } : Jvm.MethodName) ∈ am_ws := am_m9 (List.mem_of_getElem? (i := 29) rfl) rfl
theorem wd2083 : Jvm.Cond.instanceMethod ({ cls := "ToldTracksModel", name := "settles", desc := "(III)I" } : Jvm.MethodName) ∈ am_ws := am_m9 (List.mem_of_getElem? (i := 30) rfl) rfl
theorem wd2084 : Jvm.Cond.selects "ToldTracksModel" ({ cls := "ToldTracksModel", name := "settles", desc := "(III)I" } : Jvm.MethodName) ({ cls := "ToldTracksModel", name := "settles", desc := "(III)I" } : Jvm.MethodName) ∈ am_ws := am_m9 (List.mem_of_getElem? (i := 31) rfl) rfl
theorem wd2085 : Jvm.Cond.code ({ cls := "ToldTracksModel", name := "settles", desc := "(III)I" } : Jvm.MethodName) prog_13_method_123_code (4 : Nat) (Option.some Jvm.ClassFile.FieldType.int) ∈ am_ws := am_m9 (List.mem_of_getElem? (i := 32) rfl) rfl
theorem wd2086 : Jvm.Cond.methodLink "ToldTracksModel" (626 : Nat) ({ cls := "ToldTracksModel", name := "settlesAll", desc := "()V" } : Jvm.MethodName) ∈ am_ws := am_m9 (List.mem_of_getElem? (i := 33) rfl) rfl
theorem wd2088 : Jvm.Cond.instanceMethod ({ cls := "ToldTracksModel", name := "settlesAll", desc := "()V" } : Jvm.MethodName) ∈ am_ws := am_m9 (List.mem_of_getElem? (i := 35) rfl) rfl
theorem wd2089 : Jvm.Cond.code ({ cls := "ToldTracksModel", name := "settlesAll", desc := "()V" } : Jvm.MethodName) prog_13_method_122_code (4 : Nat) (Option.none : Option Jvm.ClassFile.FieldType) ∈ am_ws := am_m9 (List.mem_of_getElem? (i := 36) rfl) rfl
theorem wd2090 : Jvm.Cond.methodLink "ToldTracksLaw" (140 : Nat) ({ cls := "ToldTracksModel", name := "next", desc := "(I)I" } : Jvm.MethodName) ∈ am_ws := am_m9 (List.mem_of_getElem? (i := 37) rfl) rfl
theorem wd2091 : Jvm.Cond.instanceMethod ({ cls := "ToldTracksModel", name := "next", desc := "(I)I" } : Jvm.MethodName) ∈ am_ws := am_m9 (List.mem_of_getElem? (i := 38) rfl) rfl
theorem wd2092 : Jvm.Cond.selects "ToldTracksModel" ({ cls := "ToldTracksModel", name := "next", desc := "(I)I" } : Jvm.MethodName) ({ cls := "ToldTracksModel", name := "next", desc := "(I)I" } : Jvm.MethodName) ∈ am_ws := am_m9 (List.mem_of_getElem? (i := 39) rfl) rfl
theorem wd2093 : Jvm.Cond.code ({ cls := "ToldTracksModel", name := "next", desc := "(I)I" } : Jvm.MethodName) prog_13_method_124_code (7 : Nat) (Option.some Jvm.ClassFile.FieldType.int) ∈ am_ws := am_m9 (List.mem_of_getElem? (i := 40) rfl) rfl
theorem wd2094 : Jvm.Cond.methodLink "ToldTracksLaw" (144 : Nat) ({ cls := "ToldTracksModel", name := "off", desc := "(I)I" } : Jvm.MethodName) ∈ am_ws := am_m9 (List.mem_of_getElem? (i := 41) rfl) rfl
theorem wd2095 : Jvm.Cond.instanceMethod ({ cls := "ToldTracksModel", name := "off", desc := "(I)I" } : Jvm.MethodName) ∈ am_ws := am_m9 (List.mem_of_getElem? (i := 42) rfl) rfl
theorem wd2096 : Jvm.Cond.selects "ToldTracksModel" ({ cls := "ToldTracksModel", name := "off", desc := "(I)I" } : Jvm.MethodName) ({ cls := "ToldTracksModel", name := "off", desc := "(I)I" } : Jvm.MethodName) ∈ am_ws := am_m9 (List.mem_of_getElem? (i := 43) rfl) rfl
theorem wd2097 : Jvm.Cond.code ({ cls := "ToldTracksModel", name := "off", desc := "(I)I" } : Jvm.MethodName) prog_13_method_126_code (2 : Nat) (Option.some Jvm.ClassFile.FieldType.int) ∈ am_ws := am_m9 (List.mem_of_getElem? (i := 44) rfl) rfl
theorem wd2098 : Jvm.Cond.methodLink "ToldTracksModel" (629 : Nat) ({ cls := "ToldTracksModel", name := "offOf", desc := "(I)I" } : Jvm.MethodName) ∈ am_ws := am_m9 (List.mem_of_getElem? (i := 45) rfl) rfl
theorem wd2100 : Jvm.Cond.instanceMethod ({ cls := "ToldTracksModel", name := "offOf", desc := "(I)I" } : Jvm.MethodName) ∈ am_ws := am_m9 (List.mem_of_getElem? (i := 47) rfl) rfl
theorem wd2101 : Jvm.Cond.code ({ cls := "ToldTracksModel", name := "offOf", desc := "(I)I" } : Jvm.MethodName) prog_13_method_125_code (6 : Nat) (Option.some Jvm.ClassFile.FieldType.int) ∈ am_ws := am_m9 (List.mem_of_getElem? (i := 48) rfl) rfl
theorem wd2102 : Jvm.Cond.methodLink "ToldTracksLaw" (148 : Nat) ({ cls := "ToldTracksModel", name := "whose", desc := "()I" } : Jvm.MethodName) ∈ am_ws := am_m9 (List.mem_of_getElem? (i := 49) rfl) rfl
theorem wd2103 : Jvm.Cond.instanceMethod ({ cls := "ToldTracksModel", name := "whose", desc := "()I" } : Jvm.MethodName) ∈ am_ws := am_m9 (List.mem_of_getElem? (i := 50) rfl) rfl
theorem wd2104 : Jvm.Cond.selects "ToldTracksModel" ({ cls := "ToldTracksModel", name := "whose", desc := "()I" } : Jvm.MethodName) ({ cls := "ToldTracksModel", name := "whose", desc := "()I" } : Jvm.MethodName) ∈ am_ws := am_m9 (List.mem_of_getElem? (i := 51) rfl) rfl
theorem wd2105 : Jvm.Cond.code ({ cls := "ToldTracksModel", name := "whose", desc := "()I" } : Jvm.MethodName) prog_13_method_127_code (4 : Nat) (Option.some Jvm.ClassFile.FieldType.int) ∈ am_ws := am_m9 (List.mem_of_getElem? (i := 52) rfl) rfl
theorem wd2106 : Jvm.Cond.methodLink "ToldTracksLaw" (153 : Nat) ({ cls := "ToldTracksModel", name := "add", desc := "(IIIIZ)I" } : Jvm.MethodName) ∈ am_ws := am_m9 (List.mem_of_getElem? (i := 53) rfl) rfl
theorem wd2107 : Jvm.Cond.instanceMethod ({ cls := "ToldTracksModel", name := "add", desc := "(IIIIZ)I" } : Jvm.MethodName) ∈ am_ws := am_m9 (List.mem_of_getElem? (i := 54) rfl) rfl
theorem wd2108 : Jvm.Cond.selects "ToldTracksModel" ({ cls := "ToldTracksModel", name := "add", desc := "(IIIIZ)I" } : Jvm.MethodName) ({ cls := "ToldTracksModel", name := "add", desc := "(IIIIZ)I" } : Jvm.MethodName) ∈ am_ws := am_m9 (List.mem_of_getElem? (i := 55) rfl) rfl
theorem wd2109 : Jvm.Cond.code ({ cls := "ToldTracksModel", name := "add", desc := "(IIIIZ)I" } : Jvm.MethodName) prog_13_method_129_code (6 : Nat) (Option.some Jvm.ClassFile.FieldType.int) ∈ am_ws := am_m9 (List.mem_of_getElem? (i := 56) rfl) rfl
theorem wd2110 : Jvm.Cond.methodLink "ToldTracksModel" (632 : Nat) ({ cls := "ToldTracksModel", name := "says", desc := "(IIIZ)V" } : Jvm.MethodName) ∈ am_ws := am_m9 (List.mem_of_getElem? (i := 57) rfl) rfl
theorem wd2112 : Jvm.Cond.instanceMethod ({ cls := "ToldTracksModel", name := "says", desc := "(IIIZ)V" } : Jvm.MethodName) ∈ am_ws := am_m9 (List.mem_of_getElem? (i := 59) rfl) rfl
theorem wd2113 : Jvm.Cond.code ({ cls := "ToldTracksModel", name := "says", desc := "(IIIZ)V" } : Jvm.MethodName) prog_13_method_128_code (5 : Nat) (Option.none : Option Jvm.ClassFile.FieldType) ∈ am_ws := am_m9 (List.mem_of_getElem? (i := 60) rfl) rfl
theorem wd2114 : Jvm.Cond.methodLink "ToldTracksModel" (635 : Nat) ({ cls := "ToldTracksModel", name := "numberOf", desc := "(II)I" } : Jvm.MethodName) ∈ am_ws := am_m9 (List.mem_of_getElem? (i := 61) rfl) rfl
theorem wd2116 : Jvm.Cond.instanceMethod ({ cls := "ToldTracksModel", name := "numberOf", desc := "(II)I" } : Jvm.MethodName) ∈ am_ws := am_m9 (List.mem_of_getElem? (i := 63) rfl) rfl
theorem wd2117 : Jvm.Cond.code ({ cls := "ToldTracksModel", name := "numberOf", desc := "(II)I" } : Jvm.MethodName) prog_13_method_65_code (5 : Nat) (Option.some Jvm.ClassFile.FieldType.int) ∈ am_ws := am_m9 (List.mem_of_getElem? (i := 64) rfl) rfl
theorem wd2118 : Jvm.Cond.methodLink "ToldTracksLaw" (157 : Nat) ({ cls := "ToldTracksModel", name := "drop", desc := "(II)I" } : Jvm.MethodName) ∈ am_ws := am_m9 (List.mem_of_getElem? (i := 65) rfl) rfl
theorem wd2119 : Jvm.Cond.instanceMethod ({ cls := "ToldTracksModel", name := "drop", desc := "(II)I" } : Jvm.MethodName) ∈ am_ws := am_m9 (List.mem_of_getElem? (i := 66) rfl) rfl
theorem wd2120 : Jvm.Cond.selects "ToldTracksModel" ({ cls := "ToldTracksModel", name := "drop", desc := "(II)I" } : Jvm.MethodName) ({ cls := "ToldTracksModel", name := "drop", desc := "(II)I" } : Jvm.MethodName) ∈ am_ws := am_m9 (List.mem_of_getElem? (i := 67) rfl) rfl
theorem wd2121 : Jvm.Cond.code ({ cls := "ToldTracksModel", name := "drop", desc := "(II)I" } : Jvm.MethodName) prog_13_method_130_code (4 : Nat) (Option.some Jvm.ClassFile.FieldType.int) ∈ am_ws := am_m9 (List.mem_of_getElem? (i := 68) rfl) rfl
theorem wd2122 : Jvm.Cond.methodLink "ToldTracksLaw" (161 : Nat) ({ cls := "ToldTracksModel", name := "spot", desc := "(IIII)I" } : Jvm.MethodName) ∈ am_ws := am_m9 (List.mem_of_getElem? (i := 69) rfl) rfl
theorem wd2123 : Jvm.Cond.instanceMethod ({ cls := "ToldTracksModel", name := "spot", desc := "(IIII)I" } : Jvm.MethodName) ∈ am_ws := am_m9 (List.mem_of_getElem? (i := 70) rfl) rfl
theorem wd2124 : Jvm.Cond.selects "ToldTracksModel" ({ cls := "ToldTracksModel", name := "spot", desc := "(IIII)I" } : Jvm.MethodName) ({ cls := "ToldTracksModel", name := "spot", desc := "(IIII)I" } : Jvm.MethodName) ∈ am_ws := am_m9 (List.mem_of_getElem? (i := 71) rfl) rfl
theorem wd2125 : Jvm.Cond.code ({ cls := "ToldTracksModel", name := "spot", desc := "(IIII)I" } : Jvm.MethodName) prog_13_method_132_code (5 : Nat) (Option.some Jvm.ClassFile.FieldType.int) ∈ am_ws := am_m9 (List.mem_of_getElem? (i := 72) rfl) rfl
theorem wd2126 : Jvm.Cond.methodLink "ToldTracksModel" (638 : Nat) ({ cls := "ToldTracksModel", name := "spots", desc := "(III)V" } : Jvm.MethodName) ∈ am_ws := am_m9 (List.mem_of_getElem? (i := 73) rfl) rfl
theorem wd2128 : Jvm.Cond.instanceMethod ({ cls := "ToldTracksModel", name := "spots", desc := "(III)V" } : Jvm.MethodName) ∈ am_ws := am_m9 (List.mem_of_getElem? (i := 75) rfl) rfl
theorem wd2129 : Jvm.Cond.code ({ cls := "ToldTracksModel", name := "spots", desc := "(III)V" } : Jvm.MethodName) prog_13_method_131_code (5 : Nat) (Option.none : Option Jvm.ClassFile.FieldType) ∈ am_ws := am_m9 (List.mem_of_getElem? (i := 76) rfl) rfl
theorem wd2130 : Jvm.Cond.methodLink "ToldTracksLaw" (165 : Nat) ({ cls := "ToldTracksModel", name := "image", desc := "()I" } : Jvm.MethodName) ∈ am_ws := am_m9 (List.mem_of_getElem? (i := 77) rfl) rfl
theorem wd2131 : Jvm.Cond.instanceMethod ({ cls := "ToldTracksModel", name := "image", desc := "()I" } : Jvm.MethodName) ∈ am_ws := am_m9 (List.mem_of_getElem? (i := 78) rfl) rfl
theorem wd2132 : Jvm.Cond.selects "ToldTracksModel" ({ cls := "ToldTracksModel", name := "image", desc := "()I" } : Jvm.MethodName) ({ cls := "ToldTracksModel", name := "image", desc := "()I" } : Jvm.MethodName) ∈ am_ws := am_m9 (List.mem_of_getElem? (i := 79) rfl) rfl
theorem wd2133 : Jvm.Cond.code ({ cls := "ToldTracksModel", name := "image", desc := "()I" } : Jvm.MethodName) prog_13_method_134_code (3 : Nat) (Option.some Jvm.ClassFile.FieldType.int) ∈ am_ws := am_m9 (List.mem_of_getElem? (i := 80) rfl) rfl
theorem wd2134 : Jvm.Cond.methodLink "ToldTracksModel" (641 : Nat) ({ cls := "ToldTracksModel", name := "writes", desc := "(I)V" } : Jvm.MethodName) ∈ am_ws := am_m9 (List.mem_of_getElem? (i := 81) rfl) rfl
theorem wd2136 : Jvm.Cond.instanceMethod ({ cls := "ToldTracksModel", name := "writes", desc := "(I)V" } : Jvm.MethodName) ∈ am_ws := am_m9 (List.mem_of_getElem? (i := 83) rfl) rfl
theorem wd2137 : Jvm.Cond.code ({ cls := "ToldTracksModel", name := "writes", desc := "(I)V" } : Jvm.MethodName) prog_13_method_133_code (2 : Nat) (Option.none : Option Jvm.ClassFile.FieldType) ∈ am_ws := am_m9 (List.mem_of_getElem? (i := 84) rfl) rfl
theorem wd2138 : Jvm.Cond.methodLink "ToldTracksLaw" (169 : Nat) ({ cls := "ToldTracksModel", name := "octet", desc := "(I)I" } : Jvm.MethodName) ∈ am_ws := am_m9 (List.mem_of_getElem? (i := 85) rfl) rfl
theorem wd2139 : Jvm.Cond.instanceMethod ({ cls := "ToldTracksModel", name := "octet", desc := "(I)I" } : Jvm.MethodName) ∈ am_ws := am_m9 (List.mem_of_getElem? (i := 86) rfl) rfl
theorem wd2140 : Jvm.Cond.selects "ToldTracksModel" ({ cls := "ToldTracksModel", name := "octet", desc := "(I)I" } : Jvm.MethodName) ({ cls := "ToldTracksModel", name := "octet", desc := "(I)I" } : Jvm.MethodName) ∈ am_ws := am_m9 (List.mem_of_getElem? (i := 87) rfl) rfl
theorem wd2141 : Jvm.Cond.code ({ cls := "ToldTracksModel", name := "octet", desc := "(I)I" } : Jvm.MethodName) prog_13_method_135_code (2 : Nat) (Option.some Jvm.ClassFile.FieldType.int) ∈ am_ws := am_m9 (List.mem_of_getElem? (i := 88) rfl) rfl
theorem wd2142 : Jvm.Cond.methodLink "ToldTracksLaw" (174 : Nat) ({ cls := "ToldTracksModel", name := "on", desc := "()Z" } : Jvm.MethodName) ∈ am_ws := am_m9 (List.mem_of_getElem? (i := 89) rfl) rfl
theorem wd2143 : Jvm.Cond.instanceMethod ({ cls := "ToldTracksModel", name := "on", desc := "()Z" } : Jvm.MethodName) ∈ am_ws := am_m9 (List.mem_of_getElem? (i := 90) rfl) rfl
theorem wd2144 : Jvm.Cond.selects "ToldTracksModel" ({ cls := "ToldTracksModel", name := "on", desc := "()Z" } : Jvm.MethodName) ({ cls := "ToldTracksModel", name := "on", desc := "()Z" } : Jvm.MethodName) ∈ am_ws := am_m9 (List.mem_of_getElem? (i := 91) rfl) rfl
theorem wd2145 : Jvm.Cond.code ({ cls := "ToldTracksModel", name := "on", desc := "()Z" } : Jvm.MethodName) prog_13_method_137_code (4 : Nat) (Option.some Jvm.ClassFile.FieldType.boolean) ∈ am_ws := am_m9 (List.mem_of_getElem? (i := 92) rfl) rfl
theorem wd2146 : Jvm.Cond.methodLink "ToldTracksModel" (644 : Nat) ({ cls := "ToldTracksModel", name := "isWhole", desc := "(I)Z" } : Jvm.MethodName) ∈ am_ws := am_m9 (List.mem_of_getElem? (i := 93) rfl) rfl
theorem wd2148 : Jvm.Cond.instanceMethod ({ cls := "ToldTracksModel", name := "isWhole", desc := "(I)Z" } : Jvm.MethodName) ∈ am_ws := am_m9 (List.mem_of_getElem? (i := 95) rfl) rfl
theorem wd2149 : Jvm.Cond.code ({ cls := "ToldTracksModel", name := "isWhole", desc := "(I)Z" } : Jvm.MethodName) prog_13_method_136_code (7 : Nat) (Option.some Jvm.ClassFile.FieldType.boolean) ∈ am_ws := am_m9 (List.mem_of_getElem? (i := 96) rfl) rfl
theorem wd2150 : Jvm.Cond.fieldLink "java/lang/String" (9 : Nat) "java/lang/String" "value" "[B" ∈ am_ws := am_m9 (List.mem_of_getElem? (i := 97) rfl) rfl
theorem wd2151 : Jvm.Cond.fieldLink "java/lang/String" (15 : Nat) "java/lang/String" "coder" "B" ∈ am_ws := am_m9 (List.mem_of_getElem? (i := 98) rfl) rfl
theorem wd172 : Jvm.Cond.methodLinkNest "ToldTracks$Sea" (23 : Nat) ({ cls := "ToldTracks$Sights", name := "<init>", desc := "()V" } : Jvm.MethodName) "ToldTracks" ∈ am_nw := am_n1 (List.mem_of_getElem? (i := 39) rfl) rfl
theorem wd198 : Jvm.Cond.methodLinkNest "ToldTracks$Sea" (30 : Nat) ({ cls := "ToldTracks$Formula", name := "<init>", desc := "()V" } : Jvm.MethodName) "ToldTracks" ∈ am_nw := am_n1 (List.mem_of_getElem? (i := 65) rfl) rfl
theorem wd235 : Jvm.Cond.methodLinkNest "ToldTracks$Sea" (64 : Nat) ({ cls := "ToldTracks$Ship", name := "<init>", desc := "()V" } : Jvm.MethodName) "ToldTracks" ∈ am_nw := am_n1 (List.mem_of_getElem? (i := 102) rfl) rfl
theorem wd484 : Jvm.Cond.methodLinkNest "ToldTracks$Track" (11 : Nat) ({ cls := "ToldTracks$Waters", name := "<init>", desc := "()V" } : Jvm.MethodName) "ToldTracks" ∈ am_nw := am_n2 (List.mem_of_getElem? (i := 111) rfl) rfl
theorem wd509 : Jvm.Cond.methodLinkNest "ToldTracks$Track" (20 : Nat) ({ cls := "ToldTracks$Line", name := "<init>", desc := "()V" } : Jvm.MethodName) "ToldTracks" ∈ am_nw := am_n2 (List.mem_of_getElem? (i := 136) rfl) rfl
theorem wd1132 : Jvm.Cond.methodLinkNest "ToldTracks$Track" (120 : Nat) ({ cls := "ToldTracks", name := "isHour", desc := "(I)Z" } : Jvm.MethodName) "ToldTracks" ∈ am_nw := am_n5 (List.mem_of_getElem? (i := 39) rfl) rfl
theorem inX0 : ∀ w ∈ u_ws RX0 TX0 3, w ∈ am_ws := by
  show ∀ w ∈ [u_lay RX0 TX0 0, u_lay RX0 TX0 1, u_lay RX0 TX0 2], w ∈ am_ws
  exact List.forall_mem_cons.mpr ⟨wd207, List.forall_mem_cons.mpr ⟨wd209, List.forall_mem_cons.mpr ⟨wd211, fun _ h => absurd h List.not_mem_nil⟩⟩⟩
theorem inX1 : ∀ w ∈ u_ws RX1 TX1 1, w ∈ am_ws := by
  show ∀ w ∈ [u_lay RX1 TX1 0], w ∈ am_ws
  exact List.forall_mem_cons.mpr ⟨wd515, fun _ h => absurd h List.not_mem_nil⟩
theorem inX2 : ∀ w ∈ u_ws RX2 TX2 2, w ∈ am_ws := by
  show ∀ w ∈ [u_lay RX2 TX2 0, u_lay RX2 TX2 1], w ∈ am_ws
  exact List.forall_mem_cons.mpr ⟨wd470, List.forall_mem_cons.mpr ⟨wd472, fun _ h => absurd h List.not_mem_nil⟩⟩
theorem inX3 : ∀ w ∈ u_ws RX3 TX3 10, w ∈ am_ws := by
  show ∀ w ∈ [u_lay RX3 TX3 0, u_lay RX3 TX3 1, u_lay RX3 TX3 2, u_lay RX3 TX3 3, u_lay RX3 TX3 4, u_lay RX3 TX3 5, u_lay RX3 TX3 6, u_lay RX3 TX3 7, u_lay RX3 TX3 8, u_lay RX3 TX3 9], w ∈ am_ws
  exact List.forall_mem_cons.mpr ⟨wd445, List.forall_mem_cons.mpr ⟨wd447, List.forall_mem_cons.mpr ⟨wd449, List.forall_mem_cons.mpr ⟨wd451, List.forall_mem_cons.mpr ⟨wd453, List.forall_mem_cons.mpr ⟨wd455, List.forall_mem_cons.mpr ⟨wd457, List.forall_mem_cons.mpr ⟨wd459, List.forall_mem_cons.mpr ⟨wd461, List.forall_mem_cons.mpr ⟨wd463, fun _ h => absurd h List.not_mem_nil⟩⟩⟩⟩⟩⟩⟩⟩⟩⟩
theorem inX4 : ∀ w ∈ u_ws RX4 TX4 4, w ∈ am_ws := by
  show ∀ w ∈ [u_lay RX4 TX4 0, u_lay RX4 TX4 1, u_lay RX4 TX4 2, u_lay RX4 TX4 3], w ∈ am_ws
  exact List.forall_mem_cons.mpr ⟨wd225, List.forall_mem_cons.mpr ⟨wd227, List.forall_mem_cons.mpr ⟨wd229, List.forall_mem_cons.mpr ⟨wd231, fun _ h => absurd h List.not_mem_nil⟩⟩⟩⟩
theorem inX5 : ∀ w ∈ u_ws RX5 TX5 14, w ∈ am_ws := by
  show ∀ w ∈ [u_lay RX5 TX5 0, u_lay RX5 TX5 1, u_lay RX5 TX5 2, u_lay RX5 TX5 3, u_lay RX5 TX5 4, u_lay RX5 TX5 5, u_lay RX5 TX5 6, u_lay RX5 TX5 7, u_lay RX5 TX5 8, u_lay RX5 TX5 9, u_lay RX5 TX5 10, u_lay RX5 TX5 11, u_lay RX5 TX5 12, u_lay RX5 TX5 13], w ∈ am_ws
  exact List.forall_mem_cons.mpr ⟨wd338, List.forall_mem_cons.mpr ⟨wd340, List.forall_mem_cons.mpr ⟨wd342, List.forall_mem_cons.mpr ⟨wd344, List.forall_mem_cons.mpr ⟨wd346, List.forall_mem_cons.mpr ⟨wd348, List.forall_mem_cons.mpr ⟨wd350, List.forall_mem_cons.mpr ⟨wd352, List.forall_mem_cons.mpr ⟨wd354, List.forall_mem_cons.mpr ⟨wd356, List.forall_mem_cons.mpr ⟨wd358, List.forall_mem_cons.mpr ⟨wd360, List.forall_mem_cons.mpr ⟨wd362, List.forall_mem_cons.mpr ⟨wd364, fun _ h => absurd h List.not_mem_nil⟩⟩⟩⟩⟩⟩⟩⟩⟩⟩⟩⟩⟩⟩
theorem inX6 : ∀ w ∈ u_ws RX6 TX6 13, w ∈ am_ws := by
  show ∀ w ∈ [u_lay RX6 TX6 0, u_lay RX6 TX6 1, u_lay RX6 TX6 2, u_lay RX6 TX6 3, u_lay RX6 TX6 4, u_lay RX6 TX6 5, u_lay RX6 TX6 6, u_lay RX6 TX6 7, u_lay RX6 TX6 8, u_lay RX6 TX6 9, u_lay RX6 TX6 10, u_lay RX6 TX6 11, u_lay RX6 TX6 12], w ∈ am_ws
  exact List.forall_mem_cons.mpr ⟨wd276, List.forall_mem_cons.mpr ⟨wd278, List.forall_mem_cons.mpr ⟨wd280, List.forall_mem_cons.mpr ⟨wd282, List.forall_mem_cons.mpr ⟨wd284, List.forall_mem_cons.mpr ⟨wd286, List.forall_mem_cons.mpr ⟨wd288, List.forall_mem_cons.mpr ⟨wd290, List.forall_mem_cons.mpr ⟨wd292, List.forall_mem_cons.mpr ⟨wd294, List.forall_mem_cons.mpr ⟨wd296, List.forall_mem_cons.mpr ⟨wd298, List.forall_mem_cons.mpr ⟨wd300, fun _ h => absurd h List.not_mem_nil⟩⟩⟩⟩⟩⟩⟩⟩⟩⟩⟩⟩⟩
theorem inX7 : ∀ w ∈ u_ws RX7 TX7 4, w ∈ am_ws := by
  show ∀ w ∈ [u_lay RX7 TX7 0, u_lay RX7 TX7 1, u_lay RX7 TX7 2, u_lay RX7 TX7 3], w ∈ am_ws
  exact List.forall_mem_cons.mpr ⟨wd186, List.forall_mem_cons.mpr ⟨wd188, List.forall_mem_cons.mpr ⟨wd190, List.forall_mem_cons.mpr ⟨wd192, fun _ h => absurd h List.not_mem_nil⟩⟩⟩⟩
theorem inX8 : ∀ w ∈ u_ws RX8 TX8 17, w ∈ am_ws := by
  show ∀ w ∈ [u_lay RX8 TX8 0, u_lay RX8 TX8 1, u_lay RX8 TX8 2, u_lay RX8 TX8 3, u_lay RX8 TX8 4, u_lay RX8 TX8 5, u_lay RX8 TX8 6, u_lay RX8 TX8 7, u_lay RX8 TX8 8, u_lay RX8 TX8 9, u_lay RX8 TX8 10, u_lay RX8 TX8 11, u_lay RX8 TX8 12, u_lay RX8 TX8 13, u_lay RX8 TX8 14, u_lay RX8 TX8 15, u_lay RX8 TX8 16], w ∈ am_ws
  exact List.forall_mem_cons.mpr ⟨wd544, List.forall_mem_cons.mpr ⟨wd546, List.forall_mem_cons.mpr ⟨wd548, List.forall_mem_cons.mpr ⟨wd550, List.forall_mem_cons.mpr ⟨wd552, List.forall_mem_cons.mpr ⟨wd554, List.forall_mem_cons.mpr ⟨wd556, List.forall_mem_cons.mpr ⟨wd558, List.forall_mem_cons.mpr ⟨wd560, List.forall_mem_cons.mpr ⟨wd562, List.forall_mem_cons.mpr ⟨wd564, List.forall_mem_cons.mpr ⟨wd566, List.forall_mem_cons.mpr ⟨wd568, List.forall_mem_cons.mpr ⟨wd570, List.forall_mem_cons.mpr ⟨wd572, List.forall_mem_cons.mpr ⟨wd574, List.forall_mem_cons.mpr ⟨wd576, fun _ h => absurd h List.not_mem_nil⟩⟩⟩⟩⟩⟩⟩⟩⟩⟩⟩⟩⟩⟩⟩⟩⟩
theorem inX9 : ∀ w ∈ u_ws RX9 TX9 5, w ∈ am_ws := by
  show ∀ w ∈ [u_lay RX9 TX9 0, u_lay RX9 TX9 1, u_lay RX9 TX9 2, u_lay RX9 TX9 3, u_lay RX9 TX9 4], w ∈ am_ws
  exact List.forall_mem_cons.mpr ⟨wd496, List.forall_mem_cons.mpr ⟨wd498, List.forall_mem_cons.mpr ⟨wd500, List.forall_mem_cons.mpr ⟨wd502, List.forall_mem_cons.mpr ⟨wd504, fun _ h => absurd h List.not_mem_nil⟩⟩⟩⟩⟩
theorem inX10 : ∀ w ∈ u_ws RX10 TX10 17, w ∈ am_ws := by
  show ∀ w ∈ [u_lay RX10 TX10 0, u_lay RX10 TX10 1, u_lay RX10 TX10 2, u_lay RX10 TX10 3, u_lay RX10 TX10 4, u_lay RX10 TX10 5, u_lay RX10 TX10 6, u_lay RX10 TX10 7, u_lay RX10 TX10 8, u_lay RX10 TX10 9, u_lay RX10 TX10 10, u_lay RX10 TX10 11, u_lay RX10 TX10 12, u_lay RX10 TX10 13, u_lay RX10 TX10 14, u_lay RX10 TX10 15, u_lay RX10 TX10 16], w ∈ am_ws
  exact List.forall_mem_cons.mpr ⟨wd596, List.forall_mem_cons.mpr ⟨wd598, List.forall_mem_cons.mpr ⟨wd600, List.forall_mem_cons.mpr ⟨wd602, List.forall_mem_cons.mpr ⟨wd604, List.forall_mem_cons.mpr ⟨wd606, List.forall_mem_cons.mpr ⟨wd608, List.forall_mem_cons.mpr ⟨wd610, List.forall_mem_cons.mpr ⟨wd612, List.forall_mem_cons.mpr ⟨wd614, List.forall_mem_cons.mpr ⟨wd616, List.forall_mem_cons.mpr ⟨wd618, List.forall_mem_cons.mpr ⟨wd620, List.forall_mem_cons.mpr ⟨wd622, List.forall_mem_cons.mpr ⟨wd624, List.forall_mem_cons.mpr ⟨wd626, List.forall_mem_cons.mpr ⟨wd628, fun _ h => absurd h List.not_mem_nil⟩⟩⟩⟩⟩⟩⟩⟩⟩⟩⟩⟩⟩⟩⟩⟩⟩
theorem inX11 : ∀ w ∈ u_ws RX11 TX11 83, w ∈ am_ws := by
  show ∀ w ∈ [u_lay RX11 TX11 0, u_lay RX11 TX11 1, u_lay RX11 TX11 2, u_lay RX11 TX11 3, u_lay RX11 TX11 4, u_lay RX11 TX11 5, u_lay RX11 TX11 6, u_lay RX11 TX11 7, u_lay RX11 TX11 8, u_lay RX11 TX11 9, u_lay RX11 TX11 10, u_lay RX11 TX11 11, u_lay RX11 TX11 12, u_lay RX11 TX11 13, u_lay RX11 TX11 14, u_lay RX11 TX11 15, u_lay RX11 TX11 16, u_lay RX11 TX11 17, u_lay RX11 TX11 18, u_lay RX11 TX11 19, u_lay RX11 TX11 20, u_lay RX11 TX11 21, u_lay RX11 TX11 22, u_lay RX11 TX11 23, u_lay RX11 TX11 24, u_lay RX11 TX11 25, u_lay RX11 TX11 26, u_lay RX11 TX11 27, u_lay RX11 TX11 28, u_lay RX11 TX11 29, u_lay RX11 TX11 30, u_lay RX11 TX11 31, u_lay RX11 TX11 32, u_lay RX11 TX11 33, u_lay RX11 TX11 34, u_lay RX11 TX11 35, u_lay RX11 TX11 36, u_lay RX11 TX11 37, u_lay RX11 TX11 38, u_lay RX11 TX11 39, u_lay RX11 TX11 40, u_lay RX11 TX11 41, u_lay RX11 TX11 42, u_lay RX11 TX11 43, u_lay RX11 TX11 44, u_lay RX11 TX11 45, u_lay RX11 TX11 46, u_lay RX11 TX11 47, u_lay RX11 TX11 48, u_lay RX11 TX11 49, u_lay RX11 TX11 50, u_lay RX11 TX11 51, u_lay RX11 TX11 52, u_lay RX11 TX11 53, u_lay RX11 TX11 54, u_lay RX11 TX11 55, u_lay RX11 TX11 56, u_lay RX11 TX11 57, u_lay RX11 TX11 58, u_lay RX11 TX11 59, u_lay RX11 TX11 60, u_lay RX11 TX11 61, u_lay RX11 TX11 62, u_lay RX11 TX11 63, u_lay RX11 TX11 64, u_lay RX11 TX11 65, u_lay RX11 TX11 66, u_lay RX11 TX11 67, u_lay RX11 TX11 68, u_lay RX11 TX11 69, u_lay RX11 TX11 70, u_lay RX11 TX11 71, u_lay RX11 TX11 72, u_lay RX11 TX11 73, u_lay RX11 TX11 74, u_lay RX11 TX11 75, u_lay RX11 TX11 76, u_lay RX11 TX11 77, u_lay RX11 TX11 78, u_lay RX11 TX11 79, u_lay RX11 TX11 80, u_lay RX11 TX11 81, u_lay RX11 TX11 82], w ∈ am_ws
  exact List.forall_mem_cons.mpr ⟨wd1416, List.forall_mem_cons.mpr ⟨wd1418, List.forall_mem_cons.mpr ⟨wd1420, List.forall_mem_cons.mpr ⟨wd1422, List.forall_mem_cons.mpr ⟨wd1424, List.forall_mem_cons.mpr ⟨wd1426, List.forall_mem_cons.mpr ⟨wd1428, List.forall_mem_cons.mpr ⟨wd1430, List.forall_mem_cons.mpr ⟨wd1432, List.forall_mem_cons.mpr ⟨wd1434, List.forall_mem_cons.mpr ⟨wd1436, List.forall_mem_cons.mpr ⟨wd1438, List.forall_mem_cons.mpr ⟨wd1440, List.forall_mem_cons.mpr ⟨wd1442, List.forall_mem_cons.mpr ⟨wd1444, List.forall_mem_cons.mpr ⟨wd1446, List.forall_mem_cons.mpr ⟨wd1448, List.forall_mem_cons.mpr ⟨wd1450, List.forall_mem_cons.mpr ⟨wd1452, List.forall_mem_cons.mpr ⟨wd1454, List.forall_mem_cons.mpr ⟨wd1456, List.forall_mem_cons.mpr ⟨wd1458, List.forall_mem_cons.mpr ⟨wd1460, List.forall_mem_cons.mpr ⟨wd1462, List.forall_mem_cons.mpr ⟨wd1464, List.forall_mem_cons.mpr ⟨wd1466, List.forall_mem_cons.mpr ⟨wd1468, List.forall_mem_cons.mpr ⟨wd1470, List.forall_mem_cons.mpr ⟨wd1472, List.forall_mem_cons.mpr ⟨wd1474, List.forall_mem_cons.mpr ⟨wd1476, List.forall_mem_cons.mpr ⟨wd1478, List.forall_mem_cons.mpr ⟨wd1480, List.forall_mem_cons.mpr ⟨wd1482, List.forall_mem_cons.mpr ⟨wd1484, List.forall_mem_cons.mpr ⟨wd1486, List.forall_mem_cons.mpr ⟨wd1488, List.forall_mem_cons.mpr ⟨wd1490, List.forall_mem_cons.mpr ⟨wd1492, List.forall_mem_cons.mpr ⟨wd1494, List.forall_mem_cons.mpr ⟨wd1496, List.forall_mem_cons.mpr ⟨wd1498, List.forall_mem_cons.mpr ⟨wd1500, List.forall_mem_cons.mpr ⟨wd1502, List.forall_mem_cons.mpr ⟨wd1504, List.forall_mem_cons.mpr ⟨wd1506, List.forall_mem_cons.mpr ⟨wd1508, List.forall_mem_cons.mpr ⟨wd1510, List.forall_mem_cons.mpr ⟨wd1512, List.forall_mem_cons.mpr ⟨wd1514, List.forall_mem_cons.mpr ⟨wd1516, List.forall_mem_cons.mpr ⟨wd1518, List.forall_mem_cons.mpr ⟨wd1520, List.forall_mem_cons.mpr ⟨wd1522, List.forall_mem_cons.mpr ⟨wd1524, List.forall_mem_cons.mpr ⟨wd1526, List.forall_mem_cons.mpr ⟨wd1528, List.forall_mem_cons.mpr ⟨wd1530, List.forall_mem_cons.mpr ⟨wd1532, List.forall_mem_cons.mpr ⟨wd1534, List.forall_mem_cons.mpr ⟨wd1536, List.forall_mem_cons.mpr ⟨wd1538, List.forall_mem_cons.mpr ⟨wd1540, List.forall_mem_cons.mpr ⟨wd1542, List.forall_mem_cons.mpr ⟨wd1544, List.forall_mem_cons.mpr ⟨wd1546, List.forall_mem_cons.mpr ⟨wd1548, List.forall_mem_cons.mpr ⟨wd1550, List.forall_mem_cons.mpr ⟨wd1552, List.forall_mem_cons.mpr ⟨wd1554, List.forall_mem_cons.mpr ⟨wd1556, List.forall_mem_cons.mpr ⟨wd1558, List.forall_mem_cons.mpr ⟨wd1560, List.forall_mem_cons.mpr ⟨wd1562, List.forall_mem_cons.mpr ⟨wd1564, List.forall_mem_cons.mpr ⟨wd1566, List.forall_mem_cons.mpr ⟨wd1568, List.forall_mem_cons.mpr ⟨wd1570, List.forall_mem_cons.mpr ⟨wd1572, List.forall_mem_cons.mpr ⟨wd1574, List.forall_mem_cons.mpr ⟨wd1576, List.forall_mem_cons.mpr ⟨wd1578, List.forall_mem_cons.mpr ⟨wd1580, fun _ h => absurd h List.not_mem_nil⟩⟩⟩⟩⟩⟩⟩⟩⟩⟩⟩⟩⟩⟩⟩⟩⟩⟩⟩⟩⟩⟩⟩⟩⟩⟩⟩⟩⟩⟩⟩⟩⟩⟩⟩⟩⟩⟩⟩⟩⟩⟩⟩⟩⟩⟩⟩⟩⟩⟩⟩⟩⟩⟩⟩⟩⟩⟩⟩⟩⟩⟩⟩⟩⟩⟩⟩⟩⟩⟩⟩⟩⟩⟩⟩⟩⟩⟩⟩⟩⟩⟩⟩
end
