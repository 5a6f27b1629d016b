/-! 33.law 34.snlaw -/
section
/-! the law, as AM code over its script (by program: wip/whole/tools/gen_law.py) -/
def a_sld (xs : Nat → Int32) (L nx : Nat) : am_F := fun lv st M => match st with
  | .int i :: .retAddr 0 :: st' => if am_in i L then some (nx, lv, .int (xs i.toInt.toNat) :: st', M) else none
  | _ => none
def a_sln (L nx : Nat) : am_F := fun lv st M => match st with
  | .retAddr 0 :: st' => some (nx, lv, .int (Int32.ofNat L) :: st', M)
  | _ => none
def a_pop2 (nx : Nat) : am_F := fun lv st M => match st with
  | .long _ :: st' => some (nx, lv, st', M)
  | _ => none
/-- the machine follows one act, in one place -/
def am_SndF (P : Nat → am_Y) (G : am_G) (nL : Nat) (p : Program) (l : Launch) (e : Env) (R : Room) (s : State) (m : MethodId) (args : Array Value) (below : List Frame) (meth : Method) (c : Code) (pc : Nat) (act : am_Act) : Prop :=
  ∀ (lv st : List Value) (M : am_M),
  (∀ (pc' : Nat) (lv' st' : List Value) (M' : am_M), act lv st M = some (.inl (pc', lv', st', M')) → (mC M ≤ mC M' ∧ mW M ≤ mW M') ∧
    ∀ (c0 w0 : Nat) (Q : State → Prop), mC M' ≤ c0 + R.cells → mW M' ≤ w0 + R.slots → 1 ≤ R.frames → 64 ≤ R.locals → am_V G nL p l e R s m args below meth c c0 w0 Q pc' lv' st' M' → am_V G nL p l e R s m args below meth c c0 w0 Q pc lv st M) ∧
  (∀ (v : Option Value) (M' : am_M), act lv st M = some (.inr (.inl (v, M'))) → M' = M) ∧
  (∀ (y : Nat) (as : List Value) (pc' : Nat) (lv' st' : List Value) (M' : am_M), act lv st M = some (.inr (.inr (y, as, pc', lv', st', M'))) → M' = M ∧ am_aok P y as ∧
    ∀ (c0 w0 d : Nat) (r : Option Value) (M2 : am_M) (Q : State → Prop), am_Met P G l y d as M r M2 → mC M ≤ mC M2 → mW M ≤ mW M2 → mC M2 ≤ c0 + R.cells → mW M2 ≤ w0 + R.slots → d + 2 ≤ R.frames → 64 * (d + 2) ≤ R.locals → am_V G nL p l e R s m args below meth c c0 w0 Q pc' lv' (am_push r st') M2 → am_V G nL p l e R s m args below meth c c0 w0 Q pc lv st M)
section
variable {P : Nat → am_Y} {G : am_G} {nL : Nat} {p : Program} {l : Launch} {e : Env} {R : Room} {s : State} {m : MethodId} {args : Array Value} {below : List Frame} {meth : Method} {c : Code} {own : String} {cc : ByteArray} {ret : Option FieldType} {nm : String} {pc : Nat}
theorem am_Snd.toF {act : am_Act} (h : am_Snd P own cc nL ret nm pc act) (hC : am_Cx G own cc nL ret nm p s m args meth c) : am_SndF P G nL p l e R s m args below meth c pc act := by
  intro lv st M
  obtain ⟨h1, h2, h3⟩ := h lv st M
  refine ⟨fun pc' lv' st' M' he => ?_, fun v M' he => (h2 v M' he).1, fun y as pc' lv' st' M' he => ?_⟩
  · obtain ⟨g1, g2⟩ := h1 pc' lv' st' M' he
    exact ⟨g1, fun c0 w0 Q => g2 G p l e R s m args below meth c c0 w0 Q hC⟩
  · obtain ⟨g1, g2, g3⟩ := h3 y as pc' lv' st' M' he
    exact ⟨g1, g2, fun c0 w0 d r M2 Q => g3 G p l e R s m args below meth c c0 w0 d r M2 Q hC⟩
theorem am_run_VF (hP : ∀ y, am_SndM P y) {d0 : Nat} (hmet : ∀ (n d y : Nat) (as : List Value) (M : am_M) (r : Option Value) (M2 : am_M), d < d0 → am_aok P y as → am_run P n d (P y).2.2.2.2 0 (am_pad (P y).2.2.1 (am_en as)) [] M = some (r, M2) → am_Met P G l y d as M r M2)
    {ac : am_Code} (hc : ∀ pc, am_SndF P G nL p l e R s m args below meth c pc (ac pc)) {c0 w0 : Nat} {Q : State → Prop}
    {r : Option Value} {M2 : am_M} (hc2 : mC M2 ≤ c0 + R.cells) (hw2 : mW M2 ≤ w0 + R.slots) (hend : ∀ (pc : Nat) (lv st : List Value), ac pc lv st M2 = some (.inr (.inl (r, M2))) → am_V G nL p l e R s m args below meth c c0 w0 Q pc lv st M2) :
    ∀ (n d : Nat) (pc : Nat) (lv st : List Value) (M : am_M), d ≤ d0 → am_run P n d ac pc lv st M = some (r, M2) → d + 1 ≤ R.frames → 64 * (d + 1) ≤ R.locals → (mC M ≤ mC M2 ∧ mW M ≤ mW M2) ∧ am_V G nL p l e R s m args below meth c c0 w0 Q pc lv st M := by
  intro n
  induction n with
  | zero => intro d pc lv st M _ h; simp [am_run] at h
  | succ n ih =>
    intro d pc lv st M hd h hfr hlo
    rw [am_run] at h
    split at h
    · cases h
    · rename_i pc' lv' st' M' heq
      obtain ⟨h1, h2⟩ := (hc pc lv st M).1 _ _ _ _ heq
      obtain ⟨h3, h4⟩ := ih d _ _ _ _ hd h hfr hlo
      exact ⟨⟨Nat.le_trans h1.1 h3.1, Nat.le_trans h1.2 h3.2⟩, h2 c0 w0 Q (Nat.le_trans h3.1 hc2) (Nat.le_trans h3.2 hw2) (by omega) (by omega) h4⟩
    · rename_i v M' heq
      have h1 := (hc pc lv st M).2.1 _ _ heq
      cases h
      subst h1
      exact ⟨⟨Nat.le_refl _, Nat.le_refl _⟩, hend pc lv st heq⟩
    · rename_i y as pc' lv' st' M' heq
      obtain ⟨h1, h0, h2⟩ := (hc pc lv st M).2.2 _ _ _ _ _ _ heq
      subst h1
      cases d with
      | zero => cases h
      | succ d' =>
        dsimp only at h
        split at h
        · cases h
        · rename_i r2 M3 h3
          have h4 := am_run_grows hP n d' _ _ _ _ _ _ _ _ _ _ _ _ (hP _) h3
          obtain ⟨h5, h6⟩ := ih (d' + 1) _ _ _ _ hd h hfr hlo
          exact ⟨⟨Nat.le_trans h4.1 h5.1, Nat.le_trans h4.2 h5.2⟩, h2 c0 w0 d' r2 M3 Q (hmet n d' _ _ _ _ _ (by omega) h0 h3) h4.1 h4.2 (Nat.le_trans h5.1 hc2) (Nat.le_trans h5.2 hw2) (by omega) (by omega) h6⟩
theorem f_nx {f : am_F} (h : ∀ (lv st : List Value) (M : am_M) (pc' : Nat) (lv' st' : List Value) (M' : am_M), f lv st M = some (pc', lv', st', M') → lv' = lv ∧ M' = M ∧ ∀ (H : Heap) (locs : List Loc) (ls : Array Slot) (kc ks : Nat) (Q : State → Prop), va_S (fun q => G.1 ≤ q) s.heap H locs → W p l e R s m args below meth c H locs kc ks Q (F0 m pc' ls (st'.map (am_v G))) → W p l e R s m args below meth c H locs kc ks Q (F0 m pc ls (st.map (am_v G)))) : am_SndF P G nL p l e R s m args below meth c pc (k_nx f) := by
  intro lv st M
  refine ⟨fun pc' lv' st' M' he => ?_, fun v M' he => ?_, fun y as pc' lv' st' M' he => ?_⟩
  · unfold k_nx at he
    cases hf : f lv st M with
    | none => rw [hf] at he; cases he
    | some x =>
      rw [hf] at he; cases he
      obtain ⟨rfl, rfl, h3⟩ := h lv st M pc' lv' st' M' hf
      refine ⟨⟨Nat.le_refl _, Nat.le_refl _⟩, ?_⟩
      intro c0 w0 Q _ _ _ _ hV H locs ls kc ks hR hS hL hkc hks
      exact h3 H locs ls kc ks Q hS (hV H locs ls kc ks hR hS hL hkc hks)
  · unfold k_nx at he
    cases hf : f lv st M with
    | none => rw [hf] at he; cases he
    | some x => rw [hf] at he; cases he
  · unfold k_nx at he
    cases hf : f lv st M with
    | none => rw [hf] at he; cases he
    | some x => rw [hf] at he; cases he
theorem f_sld {L : Nat} {xs : Nat → Int32} (hC : am_Cx G own cc nL ret nm p s m args meth c) (hX : va_X (G.2.1.1 0) L xs s s.heap) (hb : G.2.1.1 0 < G.1) (hdg : decode cc pc = .ok (.iaload, 1)) : am_SndF P G nL p l e R s m args below meth c pc (k_nx (a_sld xs L (pc + 1))) := f_nx fun lv st M pc' lv' st' M' he => by
  unfold a_sld at he
  split at he
  · split at he
    · rename_i hi
      cases he
      exact ⟨rfl, rfl, fun H locs ls kc ks Q hS k => va_sld hC.1 hC.2.1 hX (Nat.lt_of_lt_of_le hb hC.2.2.2.2.2.2.2.2.2) (Nat.not_le.mpr hb) hS (am_in_vp hi) hdg k⟩
    · cases he
  · cases he
theorem f_sln {L : Nat} {xs : Nat → Int32} (hC : am_Cx G own cc nL ret nm p s m args meth c) (hX : va_X (G.2.1.1 0) L xs s s.heap) (hb : G.2.1.1 0 < G.1) (hdg : decode cc pc = .ok (.arraylength, 1)) : am_SndF P G nL p l e R s m args below meth c pc (k_nx (a_sln L (pc + 1))) := f_nx fun lv st M pc' lv' st' M' he => by
  unfold a_sln at he
  split at he
  · cases he
    exact ⟨rfl, rfl, fun H locs ls kc ks Q hS k => va_slen hC.1 hC.2.1 hX (Nat.lt_of_lt_of_le hb hC.2.2.2.2.2.2.2.2.2) (Nat.not_le.mpr hb) hS hdg k⟩
  · cases he
theorem f_pop2 (hC : am_Cx G own cc nL ret nm p s m args meth c) (hdg : decode cc pc = .ok (.pop2, 1)) : am_SndF P G nL p l e R s m args below meth c pc (k_nx (a_pop2 (pc + 1))) := f_nx fun lv st M pc' lv' st' M' he => by
  unfold a_pop2 at he
  split at he
  · cases he
    exact ⟨rfl, rfl, fun H locs ls kc ks Q hS k => lv_pop2_2 hC.1 hC.2.1 hdg rfl k⟩
  · cases he
theorem r_sld {d : Nat} {ac : am_Code} {nx L : Nat} {xs : Nat → Int32} {lv st : List Value} {M : am_M} {Q : Option Value → am_M → Prop} {i : Int32} (h : ac pc = k_nx (a_sld xs L nx)) : am_P P d ac pc lv (.int i :: .retAddr 0 :: st) M Q ↔ am_in i L ∧ am_P P d ac nx lv (.int (xs i.toInt.toNat) :: st) M Q := by
  by_cases e : am_in i L
  · rw [r_nx h (show a_sld xs L nx lv (.int i :: .retAddr 0 :: st) M = some (nx, lv, .int (xs i.toInt.toNat) :: st, M) by unfold a_sld; exact if_pos e)]
    exact ⟨fun h => ⟨e, h⟩, fun h => h.2⟩
  · rw [r_no h (by unfold a_sld; exact if_neg e)]
    exact ⟨fun h => h.elim, fun h => e h.1⟩
theorem r_sln {d : Nat} {ac : am_Code} {nx L : Nat} {lv st : List Value} {M : am_M} {Q : Option Value → am_M → Prop} (h : ac pc = k_nx (a_sln L nx)) : am_P P d ac pc lv (.retAddr 0 :: st) M Q ↔ am_P P d ac nx lv (.int (Int32.ofNat L) :: st) M Q := r_nx h rfl
end
noncomputable def tL_0 (xs : Nat → Int32) (L : Nat) : List (Nat × am_Act) := [(0, k_nx (a_new 10 17 3)), (3, k_nx (a_dup 4)), (4, k_cv 108 10 0 2 7), (7, k_nx (a_ast 1 8)), (8, k_nx (a_new 11 83 11)), (11, k_nx (a_dup 12)), (12, k_cv 166 11 0 2 15), (15, k_nx (a_ast 2 16)), (16, k_nx (a_c (.int (0 : Int32)) 17)), (17, k_nx (a_ist 3 18)), (18, k_nx (a_ild 3 19)), (19, k_nx (a_ald 0 20)), (20, k_nx (a_sln L 21)), (21, k_nx (a_c (.int (6 : Int32)) 23)), (23, k_nx (a_bi (fun x y => x - y) 24)), (24, k_nx (a_icmp (fun x y => decide (y < x)) 1443 27)), (27, k_nx (a_ald 0 28)), (28, k_nx (a_ild 3 29)), (29, k_nx (a_sld xs L 30)), (30, k_nx (a_c (.int (63 : Int32)) 32)), (32, k_nx (a_bi (fun x y => x &&& y) 33)), (33, k_nx (a_sw (am_tab (0) [204, 267, 290, 303, 326, 349, 382, 415, 458, 511, 574, 617, 660, 713, 746, 779, 802, 835, 858, 891, 914, 927, 970, 1003, 1016, 1029, 1062, 1085, 1098, 1141, 1164, 1187, 1200, 1279, 1312, 1365, 1378, 1401, 1414] 1437))), (204, k_nx (a_ald 1 205)), (205, k_nx (a_ald 0 206)), (206, k_nx (a_ild 3 207)), (207, k_nx (a_c (.int (1 : Int32)) 208)), (208, k_nx (a_bi (fun x y => x + y) 209)), (209, k_nx (a_sld xs L 210)), (210, k_nx (a_ald 0 211)), (211, k_nx (a_ild 3 212)), (212, k_nx (a_c (.int (2 : Int32)) 213)), (213, k_nx (a_bi (fun x y => x + y) 214)), (214, k_nx (a_sld xs L 215)), (215, k_nx (a_ald 0 216)), (216, k_nx (a_ild 3 217)), (217, k_nx (a_c (.int (3 : Int32)) 218)), (218, k_nx (a_bi (fun x y => x + y) 219)), (219, k_nx (a_sld xs L 220)), (220, k_nx (a_ald 0 221)), (221, k_nx (a_ild 3 222)), (222, k_nx (a_c (.int (4 : Int32)) 223)), (223, k_nx (a_bi (fun x y => x + y) 224)), (224, k_nx (a_sld xs L 225)), (225, k_nx (a_ald 0 226)), (226, k_nx (a_ild 3 227)), (227, k_nx (a_c (.int (5 : Int32)) 228)), (228, k_nx (a_bi (fun x y => x + y) 229)), (229, k_nx (a_sld xs L 230)), (230, k_cv 109 10 5 6 233), (233, k_nx (a_pop 234)), (234, k_nx (a_ald 2 235)), (235, k_nx (a_ald 0 236)), (236, k_nx (a_ild 3 237)), (237, k_nx (a_c (.int (1 : Int32)) 238)), (238, k_nx (a_bi (fun x y => x + y) 239)), (239, k_nx (a_sld xs L 240)), (240, k_nx (a_ald 0 241)), (241, k_nx (a_ild 3 242)), (242, k_nx (a_c (.int (2 : Int32)) 243)), (243, k_nx (a_bi (fun x y => x + y) 244))]
noncomputable def tL_1 (xs : Nat → Int32) (L : Nat) : List (Nat × am_Act) := [(244, k_nx (a_sld xs L 245)), (245, k_nx (a_ald 0 246)), (246, k_nx (a_ild 3 247)), (247, k_nx (a_c (.int (3 : Int32)) 248)), (248, k_nx (a_bi (fun x y => x + y) 249)), (249, k_nx (a_sld xs L 250)), (250, k_nx (a_ald 0 251)), (251, k_nx (a_ild 3 252)), (252, k_nx (a_c (.int (4 : Int32)) 253)), (253, k_nx (a_bi (fun x y => x + y) 254)), (254, k_nx (a_sld xs L 255)), (255, k_nx (a_ald 0 256)), (256, k_nx (a_ild 3 257)), (257, k_nx (a_c (.int (5 : Int32)) 258)), (258, k_nx (a_bi (fun x y => x + y) 259)), (259, k_nx (a_sld xs L 260)), (260, k_cv 169 11 5 6 263), (263, k_nx (a_pop 264)), (264, k_nx (a_goto 1437)), (267, k_nx (a_ald 1 268)), (268, k_nx (a_ald 0 269)), (269, k_nx (a_ild 3 270)), (270, k_nx (a_c (.int (1 : Int32)) 271)), (271, k_nx (a_bi (fun x y => x + y) 272)), (272, k_nx (a_sld xs L 273)), (273, k_cv 110 10 1 2 276), (276, k_nx (a_pop 277)), (277, k_nx (a_ald 2 278)), (278, k_nx (a_ald 0 279)), (279, k_nx (a_ild 3 280)), (280, k_nx (a_c (.int (1 : Int32)) 281)), (281, k_nx (a_bi (fun x y => x + y) 282)), (282, k_nx (a_sld xs L 283)), (283, k_cv 170 11 1 2 286), (286, k_nx (a_pop 287)), (287, k_nx (a_goto 1437)), (290, k_nx (a_ald 1 291)), (291, k_cv 111 10 0 4 294), (294, k_nx (a_pop 295)), (295, k_nx (a_ald 2 296)), (296, k_cv 206 11 0 2 299), (299, k_nx (a_pop 300)), (300, k_nx (a_goto 1437)), (303, k_nx (a_ald 1 304)), (304, k_nx (a_ald 0 305)), (305, k_nx (a_ild 3 306)), (306, k_nx (a_c (.int (1 : Int32)) 307)), (307, k_nx (a_bi (fun x y => x + y) 308)), (308, k_nx (a_sld xs L 309)), (309, k_cv 112 10 1 2 312), (312, k_nx (a_pop 313)), (313, k_nx (a_ald 2 314)), (314, k_nx (a_ald 0 315)), (315, k_nx (a_ild 3 316)), (316, k_nx (a_c (.int (1 : Int32)) 317)), (317, k_nx (a_bi (fun x y => x + y) 318)), (318, k_nx (a_sld xs L 319)), (319, k_cv 207 11 1 2 322), (322, k_nx (a_pop 323)), (323, k_nx (a_goto 1437))]
noncomputable def tL_2 (xs : Nat → Int32) (L : Nat) : List (Nat × am_Act) := [(326, k_nx (a_ald 1 327)), (327, k_nx (a_ald 0 328)), (328, k_nx (a_ild 3 329)), (329, k_nx (a_c (.int (1 : Int32)) 330)), (330, k_nx (a_bi (fun x y => x + y) 331)), (331, k_nx (a_sld xs L 332)), (332, k_cv 113 10 1 2 335), (335, k_nx (a_pop 336)), (336, k_nx (a_ald 2 337)), (337, k_nx (a_ald 0 338)), (338, k_nx (a_ild 3 339)), (339, k_nx (a_c (.int (1 : Int32)) 340)), (340, k_nx (a_bi (fun x y => x + y) 341)), (341, k_nx (a_sld xs L 342)), (342, k_cv 232 11 1 4 345), (345, k_nx (a_pop 346)), (346, k_nx (a_goto 1437)), (349, k_nx (a_ald 1 350)), (350, k_nx (a_ald 0 351)), (351, k_nx (a_ild 3 352)), (352, k_nx (a_c (.int (1 : Int32)) 353)), (353, k_nx (a_bi (fun x y => x + y) 354)), (354, k_nx (a_sld xs L 355)), (355, k_nx (a_ald 0 356)), (356, k_nx (a_ild 3 357)), (357, k_nx (a_c (.int (2 : Int32)) 358)), (358, k_nx (a_bi (fun x y => x + y) 359)), (359, k_nx (a_sld xs L 360)), (360, k_cv 114 10 2 4 363), (363, k_nx (a_pop 364)), (364, k_nx (a_ald 2 365)), (365, k_nx (a_ald 0 366)), (366, k_nx (a_ild 3 367)), (367, k_nx (a_c (.int (1 : Int32)) 368)), (368, k_nx (a_bi (fun x y => x + y) 369)), (369, k_nx (a_sld xs L 370)), (370, k_nx (a_ald 0 371)), (371, k_nx (a_ild 3 372)), (372, k_nx (a_c (.int (2 : Int32)) 373)), (373, k_nx (a_bi (fun x y => x + y) 374)), (374, k_nx (a_sld xs L 375)), (375, k_cv 233 11 2 8 378), (378, k_nx (a_pop 379)), (379, k_nx (a_goto 1437)), (382, k_nx (a_ald 1 383)), (383, k_nx (a_ald 0 384)), (384, k_nx (a_ild 3 385)), (385, k_nx (a_c (.int (1 : Int32)) 386)), (386, k_nx (a_bi (fun x y => x + y) 387)), (387, k_nx (a_sld xs L 388)), (388, k_nx (a_ald 0 389)), (389, k_nx (a_ild 3 390)), (390, k_nx (a_c (.int (2 : Int32)) 391)), (391, k_nx (a_bi (fun x y => x + y) 392)), (392, k_nx (a_sld xs L 393)), (393, k_cv 115 10 2 4 396), (396, k_nx (a_pop 397)), (397, k_nx (a_ald 2 398)), (398, k_nx (a_ald 0 399)), (399, k_nx (a_ild 3 400))]
noncomputable def tL_3 (xs : Nat → Int32) (L : Nat) : List (Nat × am_Act) := [(400, k_nx (a_c (.int (1 : Int32)) 401)), (401, k_nx (a_bi (fun x y => x + y) 402)), (402, k_nx (a_sld xs L 403)), (403, k_nx (a_ald 0 404)), (404, k_nx (a_ild 3 405)), (405, k_nx (a_c (.int (2 : Int32)) 406)), (406, k_nx (a_bi (fun x y => x + y) 407)), (407, k_nx (a_sld xs L 408)), (408, k_cv 253 11 2 4 411), (411, k_nx (a_pop 412)), (412, k_nx (a_goto 1437)), (415, k_nx (a_ald 1 416)), (416, k_nx (a_ald 0 417)), (417, k_nx (a_ild 3 418)), (418, k_nx (a_c (.int (1 : Int32)) 419)), (419, k_nx (a_bi (fun x y => x + y) 420)), (420, k_nx (a_sld xs L 421)), (421, k_nx (a_ald 0 422)), (422, k_nx (a_ild 3 423)), (423, k_nx (a_c (.int (2 : Int32)) 424)), (424, k_nx (a_bi (fun x y => x + y) 425)), (425, k_nx (a_sld xs L 426)), (426, k_nx (a_ald 0 427)), (427, k_nx (a_ild 3 428)), (428, k_nx (a_c (.int (3 : Int32)) 429)), (429, k_nx (a_bi (fun x y => x + y) 430)), (430, k_nx (a_sld xs L 431)), (431, k_cv 116 10 3 5 434), (434, k_nx (a_pop 435)), (435, k_nx (a_ald 2 436)), (436, k_nx (a_ald 0 437)), (437, k_nx (a_ild 3 438)), (438, k_nx (a_c (.int (1 : Int32)) 439)), (439, k_nx (a_bi (fun x y => x + y) 440)), (440, k_nx (a_sld xs L 441)), (441, k_nx (a_ald 0 442)), (442, k_nx (a_ild 3 443)), (443, k_nx (a_c (.int (2 : Int32)) 444)), (444, k_nx (a_bi (fun x y => x + y) 445)), (445, k_nx (a_sld xs L 446)), (446, k_nx (a_ald 0 447)), (447, k_nx (a_ild 3 448)), (448, k_nx (a_c (.int (3 : Int32)) 449)), (449, k_nx (a_bi (fun x y => x + y) 450)), (450, k_nx (a_sld xs L 451)), (451, k_cv 254 11 3 5 454), (454, k_nx (a_pop 455)), (455, k_nx (a_goto 1437)), (458, k_nx (a_ald 1 459)), (459, k_nx (a_ald 0 460)), (460, k_nx (a_ild 3 461)), (461, k_nx (a_c (.int (1 : Int32)) 462)), (462, k_nx (a_bi (fun x y => x + y) 463)), (463, k_nx (a_sld xs L 464)), (464, k_nx (a_ald 0 465)), (465, k_nx (a_ild 3 466)), (466, k_nx (a_c (.int (2 : Int32)) 467)), (467, k_nx (a_bi (fun x y => x + y) 468)), (468, k_nx (a_sld xs L 469)), (469, k_nx (a_ald 0 470))]
noncomputable def tL_4 (xs : Nat → Int32) (L : Nat) : List (Nat × am_Act) := [(470, k_nx (a_ild 3 471)), (471, k_nx (a_c (.int (3 : Int32)) 472)), (472, k_nx (a_bi (fun x y => x + y) 473)), (473, k_nx (a_sld xs L 474)), (474, k_nx (a_ald 0 475)), (475, k_nx (a_ild 3 476)), (476, k_nx (a_c (.int (4 : Int32)) 477)), (477, k_nx (a_bi (fun x y => x + y) 478)), (478, k_nx (a_sld xs L 479)), (479, k_cv 117 10 4 6 482), (482, k_nx (a_pop 483)), (483, k_nx (a_ald 2 484)), (484, k_nx (a_ald 0 485)), (485, k_nx (a_ild 3 486)), (486, k_nx (a_c (.int (1 : Int32)) 487)), (487, k_nx (a_bi (fun x y => x + y) 488)), (488, k_nx (a_sld xs L 489)), (489, k_nx (a_ald 0 490)), (490, k_nx (a_ild 3 491)), (491, k_nx (a_c (.int (2 : Int32)) 492)), (492, k_nx (a_bi (fun x y => x + y) 493)), (493, k_nx (a_sld xs L 494)), (494, k_nx (a_ald 0 495)), (495, k_nx (a_ild 3 496)), (496, k_nx (a_c (.int (3 : Int32)) 497)), (497, k_nx (a_bi (fun x y => x + y) 498)), (498, k_nx (a_sld xs L 499)), (499, k_nx (a_ald 0 500)), (500, k_nx (a_ild 3 501)), (501, k_nx (a_c (.int (4 : Int32)) 502)), (502, k_nx (a_bi (fun x y => x + y) 503)), (503, k_nx (a_sld xs L 504)), (504, k_cv 225 11 4 6 507), (507, k_nx (a_pop 508)), (508, k_nx (a_goto 1437)), (511, k_nx (a_ald 1 512)), (512, k_nx (a_ald 0 513)), (513, k_nx (a_ild 3 514)), (514, k_nx (a_c (.int (1 : Int32)) 515)), (515, k_nx (a_bi (fun x y => x + y) 516)), (516, k_nx (a_sld xs L 517)), (517, k_nx (a_ald 0 518)), (518, k_nx (a_ild 3 519)), (519, k_nx (a_c (.int (2 : Int32)) 520)), (520, k_nx (a_bi (fun x y => x + y) 521)), (521, k_nx (a_sld xs L 522)), (522, k_nx (a_ald 0 523)), (523, k_nx (a_ild 3 524)), (524, k_nx (a_c (.int (3 : Int32)) 525)), (525, k_nx (a_bi (fun x y => x + y) 526)), (526, k_nx (a_sld xs L 527)), (527, k_nx (a_ald 0 528)), (528, k_nx (a_ild 3 529)), (529, k_nx (a_c (.int (4 : Int32)) 530)), (530, k_nx (a_bi (fun x y => x + y) 531)), (531, k_nx (a_sld xs L 532)), (532, k_nx (a_ald 0 533)), (533, k_nx (a_ild 3 534)), (534, k_nx (a_c (.int (5 : Int32)) 535)), (535, k_nx (a_bi (fun x y => x + y) 536))]
noncomputable def tL_5 (xs : Nat → Int32) (L : Nat) : List (Nat × am_Act) := [(536, k_nx (a_sld xs L 537)), (537, k_cv 118 10 5 8 540), (540, k_nx (a_pop 541)), (541, k_nx (a_ald 2 542)), (542, k_nx (a_ald 0 543)), (543, k_nx (a_ild 3 544)), (544, k_nx (a_c (.int (1 : Int32)) 545)), (545, k_nx (a_bi (fun x y => x + y) 546)), (546, k_nx (a_sld xs L 547)), (547, k_nx (a_ald 0 548)), (548, k_nx (a_ild 3 549)), (549, k_nx (a_c (.int (2 : Int32)) 550)), (550, k_nx (a_bi (fun x y => x + y) 551)), (551, k_nx (a_sld xs L 552)), (552, k_nx (a_ald 0 553)), (553, k_nx (a_ild 3 554)), (554, k_nx (a_c (.int (3 : Int32)) 555)), (555, k_nx (a_bi (fun x y => x + y) 556)), (556, k_nx (a_sld xs L 557)), (557, k_nx (a_ald 0 558)), (558, k_nx (a_ild 3 559)), (559, k_nx (a_c (.int (4 : Int32)) 560)), (560, k_nx (a_bi (fun x y => x + y) 561)), (561, k_nx (a_sld xs L 562)), (562, k_nx (a_ald 0 563)), (563, k_nx (a_ild 3 564)), (564, k_nx (a_c (.int (5 : Int32)) 565)), (565, k_nx (a_bi (fun x y => x + y) 566)), (566, k_nx (a_sld xs L 567)), (567, k_cv 239 11 5 7 570), (570, k_nx (a_pop 571)), (571, k_nx (a_goto 1437)), (574, k_nx (a_ald 1 575)), (575, k_nx (a_ald 0 576)), (576, k_nx (a_ild 3 577)), (577, k_nx (a_c (.int (1 : Int32)) 578)), (578, k_nx (a_bi (fun x y => x + y) 579)), (579, k_nx (a_sld xs L 580)), (580, k_nx (a_ald 0 581)), (581, k_nx (a_ild 3 582)), (582, k_nx (a_c (.int (2 : Int32)) 583)), (583, k_nx (a_bi (fun x y => x + y) 584)), (584, k_nx (a_sld xs L 585)), (585, k_nx (a_ald 0 586)), (586, k_nx (a_ild 3 587)), (587, k_nx (a_c (.int (3 : Int32)) 588)), (588, k_nx (a_bi (fun x y => x + y) 589)), (589, k_nx (a_sld xs L 590)), (590, k_cv 119 10 3 4 593), (593, k_nx (a_pop 594)), (594, k_nx (a_ald 2 595)), (595, k_nx (a_ald 0 596)), (596, k_nx (a_ild 3 597)), (597, k_nx (a_c (.int (1 : Int32)) 598)), (598, k_nx (a_bi (fun x y => x + y) 599)), (599, k_nx (a_sld xs L 600)), (600, k_nx (a_ald 0 601)), (601, k_nx (a_ild 3 602)), (602, k_nx (a_c (.int (2 : Int32)) 603)), (603, k_nx (a_bi (fun x y => x + y) 604))]
noncomputable def tL_6 (xs : Nat → Int32) (L : Nat) : List (Nat × am_Act) := [(604, k_nx (a_sld xs L 605)), (605, k_nx (a_ald 0 606)), (606, k_nx (a_ild 3 607)), (607, k_nx (a_c (.int (3 : Int32)) 608)), (608, k_nx (a_bi (fun x y => x + y) 609)), (609, k_nx (a_sld xs L 610)), (610, k_cv 255 11 3 4 613), (613, k_nx (a_pop 614)), (614, k_nx (a_goto 1437)), (617, k_nx (a_ald 1 618)), (618, k_nx (a_ald 0 619)), (619, k_nx (a_ild 3 620)), (620, k_nx (a_c (.int (1 : Int32)) 621)), (621, k_nx (a_bi (fun x y => x + y) 622)), (622, k_nx (a_sld xs L 623)), (623, k_nx (a_ald 0 624)), (624, k_nx (a_ild 3 625)), (625, k_nx (a_c (.int (2 : Int32)) 626)), (626, k_nx (a_bi (fun x y => x + y) 627)), (627, k_nx (a_sld xs L 628)), (628, k_nx (a_ald 0 629)), (629, k_nx (a_ild 3 630)), (630, k_nx (a_c (.int (3 : Int32)) 631)), (631, k_nx (a_bi (fun x y => x + y) 632)), (632, k_nx (a_sld xs L 633)), (633, k_cv 120 10 3 7 636), (636, k_nx (a_pop 637)), (637, k_nx (a_ald 2 638)), (638, k_nx (a_ald 0 639)), (639, k_nx (a_ild 3 640)), (640, k_nx (a_c (.int (1 : Int32)) 641)), (641, k_nx (a_bi (fun x y => x + y) 642)), (642, k_nx (a_sld xs L 643)), (643, k_nx (a_ald 0 644)), (644, k_nx (a_ild 3 645)), (645, k_nx (a_c (.int (2 : Int32)) 646)), (646, k_nx (a_bi (fun x y => x + y) 647)), (647, k_nx (a_sld xs L 648)), (648, k_nx (a_ald 0 649)), (649, k_nx (a_ild 3 650)), (650, k_nx (a_c (.int (3 : Int32)) 651)), (651, k_nx (a_bi (fun x y => x + y) 652)), (652, k_nx (a_sld xs L 653)), (653, k_cv 256 11 3 6 656), (656, k_nx (a_pop 657)), (657, k_nx (a_goto 1437)), (660, k_nx (a_ald 1 661)), (661, k_nx (a_ald 0 662)), (662, k_nx (a_ild 3 663)), (663, k_nx (a_c (.int (1 : Int32)) 664)), (664, k_nx (a_bi (fun x y => x + y) 665)), (665, k_nx (a_sld xs L 666)), (666, k_nx (a_ald 0 667)), (667, k_nx (a_ild 3 668)), (668, k_nx (a_c (.int (2 : Int32)) 669)), (669, k_nx (a_bi (fun x y => x + y) 670)), (670, k_nx (a_sld xs L 671)), (671, k_nx (a_ald 0 672)), (672, k_nx (a_ild 3 673)), (673, k_nx (a_c (.int (3 : Int32)) 674))]
noncomputable def tL_7 (xs : Nat → Int32) (L : Nat) : List (Nat × am_Act) := [(674, k_nx (a_bi (fun x y => x + y) 675)), (675, k_nx (a_sld xs L 676)), (676, k_nx (a_ald 0 677)), (677, k_nx (a_ild 3 678)), (678, k_nx (a_c (.int (4 : Int32)) 679)), (679, k_nx (a_bi (fun x y => x + y) 680)), (680, k_nx (a_sld xs L 681)), (681, k_cv 121 10 4 6 684), (684, k_nx (a_pop 685)), (685, k_nx (a_ald 2 686)), (686, k_nx (a_ald 0 687)), (687, k_nx (a_ild 3 688)), (688, k_nx (a_c (.int (1 : Int32)) 689)), (689, k_nx (a_bi (fun x y => x + y) 690)), (690, k_nx (a_sld xs L 691)), (691, k_nx (a_ald 0 692)), (692, k_nx (a_ild 3 693)), (693, k_nx (a_c (.int (2 : Int32)) 694)), (694, k_nx (a_bi (fun x y => x + y) 695)), (695, k_nx (a_sld xs L 696)), (696, k_nx (a_ald 0 697)), (697, k_nx (a_ild 3 698)), (698, k_nx (a_c (.int (3 : Int32)) 699)), (699, k_nx (a_bi (fun x y => x + y) 700)), (700, k_nx (a_sld xs L 701)), (701, k_nx (a_ald 0 702)), (702, k_nx (a_ild 3 703)), (703, k_nx (a_c (.int (4 : Int32)) 704)), (704, k_nx (a_bi (fun x y => x + y) 705)), (705, k_nx (a_sld xs L 706)), (706, k_cv 257 11 4 5 709), (709, k_nx (a_pop 710)), (710, k_nx (a_goto 1437)), (713, k_nx (a_ald 1 714)), (714, k_nx (a_ald 0 715)), (715, k_nx (a_ild 3 716)), (716, k_nx (a_c (.int (1 : Int32)) 717)), (717, k_nx (a_bi (fun x y => x + y) 718)), (718, k_nx (a_sld xs L 719)), (719, k_nx (a_ald 0 720)), (720, k_nx (a_ild 3 721)), (721, k_nx (a_c (.int (2 : Int32)) 722)), (722, k_nx (a_bi (fun x y => x + y) 723)), (723, k_nx (a_sld xs L 724)), (724, k_cv 122 10 2 3 727), (727, k_nx (a_pop 728)), (728, k_nx (a_ald 2 729)), (729, k_nx (a_ald 0 730)), (730, k_nx (a_ild 3 731)), (731, k_nx (a_c (.int (1 : Int32)) 732)), (732, k_nx (a_bi (fun x y => x + y) 733)), (733, k_nx (a_sld xs L 734)), (734, k_nx (a_ald 0 735)), (735, k_nx (a_ild 3 736)), (736, k_nx (a_c (.int (2 : Int32)) 737)), (737, k_nx (a_bi (fun x y => x + y) 738)), (738, k_nx (a_sld xs L 739)), (739, k_cv 266 11 2 3 742), (742, k_nx (a_pop 743)), (743, k_nx (a_goto 1437))]
noncomputable def tL_8 (xs : Nat → Int32) (L : Nat) : List (Nat × am_Act) := [(746, k_nx (a_ald 1 747)), (747, k_nx (a_ald 0 748)), (748, k_nx (a_ild 3 749)), (749, k_nx (a_c (.int (1 : Int32)) 750)), (750, k_nx (a_bi (fun x y => x + y) 751)), (751, k_nx (a_sld xs L 752)), (752, k_nx (a_ald 0 753)), (753, k_nx (a_ild 3 754)), (754, k_nx (a_c (.int (2 : Int32)) 755)), (755, k_nx (a_bi (fun x y => x + y) 756)), (756, k_nx (a_sld xs L 757)), (757, k_cv 123 10 2 6 760), (760, k_nx (a_pop 761)), (761, k_nx (a_ald 2 762)), (762, k_nx (a_ald 0 763)), (763, k_nx (a_ild 3 764)), (764, k_nx (a_c (.int (1 : Int32)) 765)), (765, k_nx (a_bi (fun x y => x + y) 766)), (766, k_nx (a_sld xs L 767)), (767, k_nx (a_ald 0 768)), (768, k_nx (a_ild 3 769)), (769, k_nx (a_c (.int (2 : Int32)) 770)), (770, k_nx (a_bi (fun x y => x + y) 771)), (771, k_nx (a_sld xs L 772)), (772, k_cv 268 11 2 3 775), (775, k_nx (a_pop 776)), (776, k_nx (a_goto 1437)), (779, k_nx (a_ald 1 780)), (780, k_nx (a_ald 0 781)), (781, k_nx (a_ild 3 782)), (782, k_nx (a_c (.int (1 : Int32)) 783)), (783, k_nx (a_bi (fun x y => x + y) 784)), (784, k_nx (a_sld xs L 785)), (785, k_cv 124 10 1 2 788), (788, k_nx (a_pop 789)), (789, k_nx (a_ald 2 790)), (790, k_nx (a_ald 0 791)), (791, k_nx (a_ild 3 792)), (792, k_nx (a_c (.int (1 : Int32)) 793)), (793, k_nx (a_bi (fun x y => x + y) 794)), (794, k_nx (a_sld xs L 795)), (795, k_cv 269 11 1 5 798), (798, k_nx (a_pop 799)), (799, k_nx (a_goto 1437)), (802, k_nx (a_ald 1 803)), (803, k_nx (a_ald 0 804)), (804, k_nx (a_ild 3 805)), (805, k_nx (a_c (.int (1 : Int32)) 806)), (806, k_nx (a_bi (fun x y => x + y) 807)), (807, k_nx (a_sld xs L 808)), (808, k_nx (a_ald 0 809)), (809, k_nx (a_ild 3 810)), (810, k_nx (a_c (.int (2 : Int32)) 811)), (811, k_nx (a_bi (fun x y => x + y) 812)), (812, k_nx (a_sld xs L 813)), (813, k_cv 125 10 2 7 816), (816, k_nx (a_pop 817)), (817, k_nx (a_ald 2 818)), (818, k_nx (a_ald 0 819)), (819, k_nx (a_ild 3 820))]
noncomputable def tL_9 (xs : Nat → Int32) (L : Nat) : List (Nat × am_Act) := [(820, k_nx (a_c (.int (1 : Int32)) 821)), (821, k_nx (a_bi (fun x y => x + y) 822)), (822, k_nx (a_sld xs L 823)), (823, k_nx (a_ald 0 824)), (824, k_nx (a_ild 3 825)), (825, k_nx (a_c (.int (2 : Int32)) 826)), (826, k_nx (a_bi (fun x y => x + y) 827)), (827, k_nx (a_sld xs L 828)), (828, k_cv 270 11 2 8 831), (831, k_nx (a_pop 832)), (832, k_nx (a_goto 1437)), (835, k_nx (a_ald 1 836)), (836, k_nx (a_ald 0 837)), (837, k_nx (a_ild 3 838)), (838, k_nx (a_c (.int (1 : Int32)) 839)), (839, k_nx (a_bi (fun x y => x + y) 840)), (840, k_nx (a_sld xs L 841)), (841, k_cv 126 10 1 2 844), (844, k_nx (a_pop 845)), (845, k_nx (a_ald 2 846)), (846, k_nx (a_ald 0 847)), (847, k_nx (a_ild 3 848)), (848, k_nx (a_c (.int (1 : Int32)) 849)), (849, k_nx (a_bi (fun x y => x + y) 850)), (850, k_nx (a_sld xs L 851)), (851, k_cv 271 11 1 2 854), (854, k_nx (a_pop 855)), (855, k_nx (a_goto 1437)), (858, k_nx (a_ald 1 859)), (859, k_nx (a_ald 0 860)), (860, k_nx (a_ild 3 861)), (861, k_nx (a_c (.int (1 : Int32)) 862)), (862, k_nx (a_bi (fun x y => x + y) 863)), (863, k_nx (a_sld xs L 864)), (864, k_nx (a_ald 0 865)), (865, k_nx (a_ild 3 866)), (866, k_nx (a_c (.int (2 : Int32)) 867)), (867, k_nx (a_bi (fun x y => x + y) 868)), (868, k_nx (a_sld xs L 869)), (869, k_cv 127 10 2 5 872), (872, k_nx (a_pop 873)), (873, k_nx (a_ald 2 874)), (874, k_nx (a_ald 0 875)), (875, k_nx (a_ild 3 876)), (876, k_nx (a_c (.int (1 : Int32)) 877)), (877, k_nx (a_bi (fun x y => x + y) 878)), (878, k_nx (a_sld xs L 879)), (879, k_nx (a_ald 0 880)), (880, k_nx (a_ild 3 881)), (881, k_nx (a_c (.int (2 : Int32)) 882)), (882, k_nx (a_bi (fun x y => x + y) 883)), (883, k_nx (a_sld xs L 884)), (884, k_cv 273 11 2 3 887), (887, k_nx (a_pop 888)), (888, k_nx (a_goto 1437)), (891, k_nx (a_ald 1 892)), (892, k_nx (a_ald 0 893)), (893, k_nx (a_ild 3 894)), (894, k_nx (a_c (.int (1 : Int32)) 895)), (895, k_nx (a_bi (fun x y => x + y) 896))]
noncomputable def tL_10 (xs : Nat → Int32) (L : Nat) : List (Nat × am_Act) := [(896, k_nx (a_sld xs L 897)), (897, k_cv 128 10 1 4 900), (900, k_nx (a_pop 901)), (901, k_nx (a_ald 2 902)), (902, k_nx (a_ald 0 903)), (903, k_nx (a_ild 3 904)), (904, k_nx (a_c (.int (1 : Int32)) 905)), (905, k_nx (a_bi (fun x y => x + y) 906)), (906, k_nx (a_sld xs L 907)), (907, k_cv 274 11 1 4 910), (910, k_nx (a_pop 911)), (911, k_nx (a_goto 1437)), (914, k_nx (a_ald 1 915)), (915, k_cv 129 10 0 3 918), (918, k_nx (a_pop 919)), (919, k_nx (a_ald 2 920)), (920, k_cv 276 11 0 3 923), (923, k_nx (a_pop 924)), (924, k_nx (a_goto 1437)), (927, k_nx (a_ald 1 928)), (928, k_nx (a_ald 0 929)), (929, k_nx (a_ild 3 930)), (930, k_nx (a_c (.int (1 : Int32)) 931)), (931, k_nx (a_bi (fun x y => x + y) 932)), (932, k_nx (a_sld xs L 933)), (933, k_nx (a_ald 0 934)), (934, k_nx (a_ild 3 935)), (935, k_nx (a_c (.int (2 : Int32)) 936)), (936, k_nx (a_bi (fun x y => x + y) 937)), (937, k_nx (a_sld xs L 938)), (938, k_nx (a_ald 0 939)), (939, k_nx (a_ild 3 940)), (940, k_nx (a_c (.int (3 : Int32)) 941)), (941, k_nx (a_bi (fun x y => x + y) 942)), (942, k_nx (a_sld xs L 943)), (943, k_cv 130 10 3 13 946), (946, k_nx (a_pop 947)), (947, k_nx (a_ald 2 948)), (948, k_nx (a_ald 0 949)), (949, k_nx (a_ild 3 950)), (950, k_nx (a_c (.int (1 : Int32)) 951)), (951, k_nx (a_bi (fun x y => x + y) 952)), (952, k_nx (a_sld xs L 953)), (953, k_nx (a_ald 0 954)), (954, k_nx (a_ild 3 955)), (955, k_nx (a_c (.int (2 : Int32)) 956)), (956, k_nx (a_bi (fun x y => x + y) 957)), (957, k_nx (a_sld xs L 958)), (958, k_nx (a_ald 0 959)), (959, k_nx (a_ild 3 960)), (960, k_nx (a_c (.int (3 : Int32)) 961)), (961, k_nx (a_bi (fun x y => x + y) 962)), (962, k_nx (a_sld xs L 963)), (963, k_cv 278 11 3 10 966), (966, k_nx (a_pop 967)), (967, k_nx (a_goto 1437)), (970, k_nx (a_ald 1 971)), (971, k_nx (a_ald 0 972)), (972, k_nx (a_ild 3 973)), (973, k_nx (a_c (.int (1 : Int32)) 974))]
noncomputable def tL_11 (xs : Nat → Int32) (L : Nat) : List (Nat × am_Act) := [(974, k_nx (a_bi (fun x y => x + y) 975)), (975, k_nx (a_sld xs L 976)), (976, k_nx (a_ald 0 977)), (977, k_nx (a_ild 3 978)), (978, k_nx (a_c (.int (2 : Int32)) 979)), (979, k_nx (a_bi (fun x y => x + y) 980)), (980, k_nx (a_sld xs L 981)), (981, k_cv 131 10 2 3 984), (984, k_nx (a_pop 985)), (985, k_nx (a_ald 2 986)), (986, k_nx (a_ald 0 987)), (987, k_nx (a_ild 3 988)), (988, k_nx (a_c (.int (1 : Int32)) 989)), (989, k_nx (a_bi (fun x y => x + y) 990)), (990, k_nx (a_sld xs L 991)), (991, k_nx (a_ald 0 992)), (992, k_nx (a_ild 3 993)), (993, k_nx (a_c (.int (2 : Int32)) 994)), (994, k_nx (a_bi (fun x y => x + y) 995)), (995, k_nx (a_sld xs L 996)), (996, k_cv 280 11 2 4 999), (999, k_nx (a_pop 1000)), (1000, k_nx (a_goto 1437)), (1003, k_nx (a_ald 1 1004)), (1004, k_cv 132 10 0 3 1007), (1007, k_nx (a_ald 2 1008)), (1008, k_cv 281 11 0 3 1011), (1011, k_nx (a_icmp (fun x y => decide (x = y)) 1437 1014)), (1014, k_nx (a_c (.int (0 : Int32)) 1015)), (1015, k_zret), (1016, k_nx (a_ald 1 1017)), (1017, k_cv 133 10 0 4 1020), (1020, k_nx (a_pop 1021)), (1021, k_nx (a_ald 2 1022)), (1022, k_cv 282 11 0 5 1025), (1025, k_nx (a_pop 1026)), (1026, k_nx (a_goto 1437)), (1029, k_nx (a_ald 1 1030)), (1030, k_nx (a_ald 0 1031)), (1031, k_nx (a_ild 3 1032)), (1032, k_nx (a_c (.int (1 : Int32)) 1033)), (1033, k_nx (a_bi (fun x y => x + y) 1034)), (1034, k_nx (a_sld xs L 1035)), (1035, k_nx (a_ald 0 1036)), (1036, k_nx (a_ild 3 1037)), (1037, k_nx (a_c (.int (2 : Int32)) 1038)), (1038, k_nx (a_bi (fun x y => x + y) 1039)), (1039, k_nx (a_sld xs L 1040)), (1040, k_cv 134 10 2 4 1043), (1043, k_nx (a_pop 1044)), (1044, k_nx (a_ald 2 1045)), (1045, k_nx (a_ald 0 1046)), (1046, k_nx (a_ild 3 1047)), (1047, k_nx (a_c (.int (1 : Int32)) 1048)), (1048, k_nx (a_bi (fun x y => x + y) 1049)), (1049, k_nx (a_sld xs L 1050)), (1050, k_nx (a_ald 0 1051)), (1051, k_nx (a_ild 3 1052)), (1052, k_nx (a_c (.int (2 : Int32)) 1053)), (1053, k_nx (a_bi (fun x y => x + y) 1054))]
noncomputable def tL_12 (xs : Nat → Int32) (L : Nat) : List (Nat × am_Act) := [(1054, k_nx (a_sld xs L 1055)), (1055, k_cv 283 11 2 4 1058), (1058, k_nx (a_pop 1059)), (1059, k_nx (a_goto 1437)), (1062, k_nx (a_ald 1 1063)), (1063, k_nx (a_ald 0 1064)), (1064, k_nx (a_ild 3 1065)), (1065, k_nx (a_c (.int (1 : Int32)) 1066)), (1066, k_nx (a_bi (fun x y => x + y) 1067)), (1067, k_nx (a_sld xs L 1068)), (1068, k_cv 135 10 1 2 1071), (1071, k_nx (a_pop2 1072)), (1072, k_nx (a_ald 2 1073)), (1073, k_nx (a_ald 0 1074)), (1074, k_nx (a_ild 3 1075)), (1075, k_nx (a_c (.int (1 : Int32)) 1076)), (1076, k_nx (a_bi (fun x y => x + y) 1077)), (1077, k_nx (a_sld xs L 1078)), (1078, k_cv 285 11 1 2 1081), (1081, k_nx (a_pop2 1082)), (1082, k_nx (a_goto 1437)), (1085, k_nx (a_ald 1 1086)), (1086, k_cv 136 10 0 5 1089), (1089, k_nx (a_pop 1090)), (1090, k_nx (a_ald 2 1091)), (1091, k_cv 286 11 0 3 1094), (1094, k_nx (a_pop 1095)), (1095, k_nx (a_goto 1437)), (1098, k_nx (a_ald 1 1099)), (1099, k_nx (a_ald 0 1100)), (1100, k_nx (a_ild 3 1101)), (1101, k_nx (a_c (.int (1 : Int32)) 1102)), (1102, k_nx (a_bi (fun x y => x + y) 1103)), (1103, k_nx (a_sld xs L 1104)), (1104, k_nx (a_ald 0 1105)), (1105, k_nx (a_ild 3 1106)), (1106, k_nx (a_c (.int (2 : Int32)) 1107)), (1107, k_nx (a_bi (fun x y => x + y) 1108)), (1108, k_nx (a_sld xs L 1109)), (1109, k_nx (a_ald 0 1110)), (1110, k_nx (a_ild 3 1111)), (1111, k_nx (a_c (.int (3 : Int32)) 1112)), (1112, k_nx (a_bi (fun x y => x + y) 1113)), (1113, k_nx (a_sld xs L 1114)), (1114, k_cv 137 10 3 8 1117), (1117, k_nx (a_pop 1118)), (1118, k_nx (a_ald 2 1119)), (1119, k_nx (a_ald 0 1120)), (1120, k_nx (a_ild 3 1121)), (1121, k_nx (a_c (.int (1 : Int32)) 1122)), (1122, k_nx (a_bi (fun x y => x + y) 1123)), (1123, k_nx (a_sld xs L 1124)), (1124, k_nx (a_ald 0 1125)), (1125, k_nx (a_ild 3 1126)), (1126, k_nx (a_c (.int (2 : Int32)) 1127)), (1127, k_nx (a_bi (fun x y => x + y) 1128)), (1128, k_nx (a_sld xs L 1129)), (1129, k_nx (a_ald 0 1130)), (1130, k_nx (a_ild 3 1131)), (1131, k_nx (a_c (.int (3 : Int32)) 1132))]
noncomputable def tL_13 (xs : Nat → Int32) (L : Nat) : List (Nat × am_Act) := [(1132, k_nx (a_bi (fun x y => x + y) 1133)), (1133, k_nx (a_sld xs L 1134)), (1134, k_cv 288 11 3 4 1137), (1137, k_nx (a_pop 1138)), (1138, k_nx (a_goto 1437)), (1141, k_nx (a_ald 1 1142)), (1142, k_nx (a_ald 0 1143)), (1143, k_nx (a_ild 3 1144)), (1144, k_nx (a_c (.int (1 : Int32)) 1145)), (1145, k_nx (a_bi (fun x y => x + y) 1146)), (1146, k_nx (a_sld xs L 1147)), (1147, k_cv 138 10 1 2 1150), (1150, k_nx (a_pop 1151)), (1151, k_nx (a_ald 2 1152)), (1152, k_nx (a_ald 0 1153)), (1153, k_nx (a_ild 3 1154)), (1154, k_nx (a_c (.int (1 : Int32)) 1155)), (1155, k_nx (a_bi (fun x y => x + y) 1156)), (1156, k_nx (a_sld xs L 1157)), (1157, k_cv 289 11 1 7 1160), (1160, k_nx (a_pop 1161)), (1161, k_nx (a_goto 1437)), (1164, k_nx (a_ald 1 1165)), (1165, k_nx (a_ald 0 1166)), (1166, k_nx (a_ild 3 1167)), (1167, k_nx (a_c (.int (1 : Int32)) 1168)), (1168, k_nx (a_bi (fun x y => x + y) 1169)), (1169, k_nx (a_sld xs L 1170)), (1170, k_cv 139 10 1 2 1173), (1173, k_nx (a_pop 1174)), (1174, k_nx (a_ald 2 1175)), (1175, k_nx (a_ald 0 1176)), (1176, k_nx (a_ild 3 1177)), (1177, k_nx (a_c (.int (1 : Int32)) 1178)), (1178, k_nx (a_bi (fun x y => x + y) 1179)), (1179, k_nx (a_sld xs L 1180)), (1180, k_cv 291 11 1 2 1183), (1183, k_nx (a_pop 1184)), (1184, k_nx (a_goto 1437)), (1187, k_nx (a_ald 1 1188)), (1188, k_cv 140 10 0 4 1191), (1191, k_nx (a_pop 1192)), (1192, k_nx (a_ald 2 1193)), (1193, k_cv 292 11 0 4 1196), (1196, k_nx (a_pop 1197)), (1197, k_nx (a_goto 1437)), (1200, k_nx (a_ald 1 1201)), (1201, k_nx (a_ald 0 1202)), (1202, k_nx (a_ild 3 1203)), (1203, k_nx (a_c (.int (1 : Int32)) 1204)), (1204, k_nx (a_bi (fun x y => x + y) 1205)), (1205, k_nx (a_sld xs L 1206)), (1206, k_nx (a_ald 0 1207)), (1207, k_nx (a_ild 3 1208)), (1208, k_nx (a_c (.int (2 : Int32)) 1209)), (1209, k_nx (a_bi (fun x y => x + y) 1210)), (1210, k_nx (a_sld xs L 1211)), (1211, k_nx (a_ald 0 1212)), (1212, k_nx (a_ild 3 1213)), (1213, k_nx (a_c (.int (3 : Int32)) 1214))]
noncomputable def tL_14 (xs : Nat → Int32) (L : Nat) : List (Nat × am_Act) := [(1214, k_nx (a_bi (fun x y => x + y) 1215)), (1215, k_nx (a_sld xs L 1216)), (1216, k_nx (a_ald 0 1217)), (1217, k_nx (a_ild 3 1218)), (1218, k_nx (a_c (.int (4 : Int32)) 1219)), (1219, k_nx (a_bi (fun x y => x + y) 1220)), (1220, k_nx (a_sld xs L 1221)), (1221, k_nx (a_ald 0 1222)), (1222, k_nx (a_ild 3 1223)), (1223, k_nx (a_c (.int (5 : Int32)) 1224)), (1224, k_nx (a_bi (fun x y => x + y) 1225)), (1225, k_nx (a_sld xs L 1226)), (1226, k_nx (a_if (fun x => decide (x = 0)) 1233 1229)), (1229, k_nx (a_c (.int (1 : Int32)) 1230)), (1230, k_nx (a_goto 1234)), (1233, k_nx (a_c (.int (0 : Int32)) 1234)), (1234, k_cv 141 10 5 8 1237), (1237, k_nx (a_pop 1238)), (1238, k_nx (a_ald 2 1239)), (1239, k_nx (a_ald 0 1240)), (1240, k_nx (a_ild 3 1241)), (1241, k_nx (a_c (.int (1 : Int32)) 1242)), (1242, k_nx (a_bi (fun x y => x + y) 1243)), (1243, k_nx (a_sld xs L 1244)), (1244, k_nx (a_ald 0 1245)), (1245, k_nx (a_ild 3 1246)), (1246, k_nx (a_c (.int (2 : Int32)) 1247)), (1247, k_nx (a_bi (fun x y => x + y) 1248)), (1248, k_nx (a_sld xs L 1249)), (1249, k_nx (a_ald 0 1250)), (1250, k_nx (a_ild 3 1251)), (1251, k_nx (a_c (.int (3 : Int32)) 1252)), (1252, k_nx (a_bi (fun x y => x + y) 1253)), (1253, k_nx (a_sld xs L 1254)), (1254, k_nx (a_ald 0 1255)), (1255, k_nx (a_ild 3 1256)), (1256, k_nx (a_c (.int (4 : Int32)) 1257)), (1257, k_nx (a_bi (fun x y => x + y) 1258)), (1258, k_nx (a_sld xs L 1259)), (1259, k_nx (a_ald 0 1260)), (1260, k_nx (a_ild 3 1261)), (1261, k_nx (a_c (.int (5 : Int32)) 1262)), (1262, k_nx (a_bi (fun x y => x + y) 1263)), (1263, k_nx (a_sld xs L 1264)), (1264, k_nx (a_if (fun x => decide (x = 0)) 1271 1267)), (1267, k_nx (a_c (.int (1 : Int32)) 1268)), (1268, k_nx (a_goto 1272)), (1271, k_nx (a_c (.int (0 : Int32)) 1272)), (1272, k_cv 294 11 5 6 1275), (1275, k_nx (a_pop 1276)), (1276, k_nx (a_goto 1437)), (1279, k_nx (a_ald 1 1280)), (1280, k_nx (a_ald 0 1281)), (1281, k_nx (a_ild 3 1282)), (1282, k_nx (a_c (.int (1 : Int32)) 1283)), (1283, k_nx (a_bi (fun x y => x + y) 1284)), (1284, k_nx (a_sld xs L 1285)), (1285, k_nx (a_ald 0 1286)), (1286, k_nx (a_ild 3 1287)), (1287, k_nx (a_c (.int (2 : Int32)) 1288))]
noncomputable def tL_15 (xs : Nat → Int32) (L : Nat) : List (Nat × am_Act) := [(1288, k_nx (a_bi (fun x y => x + y) 1289)), (1289, k_nx (a_sld xs L 1290)), (1290, k_cv 142 10 2 3 1293), (1293, k_nx (a_pop 1294)), (1294, k_nx (a_ald 2 1295)), (1295, k_nx (a_ald 0 1296)), (1296, k_nx (a_ild 3 1297)), (1297, k_nx (a_c (.int (1 : Int32)) 1298)), (1298, k_nx (a_bi (fun x y => x + y) 1299)), (1299, k_nx (a_sld xs L 1300)), (1300, k_nx (a_ald 0 1301)), (1301, k_nx (a_ild 3 1302)), (1302, k_nx (a_c (.int (2 : Int32)) 1303)), (1303, k_nx (a_bi (fun x y => x + y) 1304)), (1304, k_nx (a_sld xs L 1305)), (1305, k_cv 295 11 2 4 1308), (1308, k_nx (a_pop 1309)), (1309, k_nx (a_goto 1437)), (1312, k_nx (a_ald 1 1313)), (1313, k_nx (a_ald 0 1314)), (1314, k_nx (a_ild 3 1315)), (1315, k_nx (a_c (.int (1 : Int32)) 1316)), (1316, k_nx (a_bi (fun x y => x + y) 1317)), (1317, k_nx (a_sld xs L 1318)), (1318, k_nx (a_ald 0 1319)), (1319, k_nx (a_ild 3 1320)), (1320, k_nx (a_c (.int (2 : Int32)) 1321)), (1321, k_nx (a_bi (fun x y => x + y) 1322)), (1322, k_nx (a_sld xs L 1323)), (1323, k_nx (a_ald 0 1324)), (1324, k_nx (a_ild 3 1325)), (1325, k_nx (a_c (.int (3 : Int32)) 1326)), (1326, k_nx (a_bi (fun x y => x + y) 1327)), (1327, k_nx (a_sld xs L 1328)), (1328, k_nx (a_ald 0 1329)), (1329, k_nx (a_ild 3 1330)), (1330, k_nx (a_c (.int (4 : Int32)) 1331)), (1331, k_nx (a_bi (fun x y => x + y) 1332)), (1332, k_nx (a_sld xs L 1333)), (1333, k_cv 143 10 4 6 1336), (1336, k_nx (a_pop 1337)), (1337, k_nx (a_ald 2 1338)), (1338, k_nx (a_ald 0 1339)), (1339, k_nx (a_ild 3 1340)), (1340, k_nx (a_c (.int (1 : Int32)) 1341)), (1341, k_nx (a_bi (fun x y => x + y) 1342)), (1342, k_nx (a_sld xs L 1343)), (1343, k_nx (a_ald 0 1344)), (1344, k_nx (a_ild 3 1345)), (1345, k_nx (a_c (.int (2 : Int32)) 1346)), (1346, k_nx (a_bi (fun x y => x + y) 1347)), (1347, k_nx (a_sld xs L 1348)), (1348, k_nx (a_ald 0 1349)), (1349, k_nx (a_ild 3 1350)), (1350, k_nx (a_c (.int (3 : Int32)) 1351)), (1351, k_nx (a_bi (fun x y => x + y) 1352)), (1352, k_nx (a_sld xs L 1353)), (1353, k_nx (a_ald 0 1354)), (1354, k_nx (a_ild 3 1355)), (1355, k_nx (a_c (.int (4 : Int32)) 1356))]
noncomputable def tL_16 (xs : Nat → Int32) (L : Nat) : List (Nat × am_Act) := [(1356, k_nx (a_bi (fun x y => x + y) 1357)), (1357, k_nx (a_sld xs L 1358)), (1358, k_cv 297 11 4 5 1361), (1361, k_nx (a_pop 1362)), (1362, k_nx (a_goto 1437)), (1365, k_nx (a_ald 1 1366)), (1366, k_cv 144 10 0 4 1369), (1369, k_nx (a_pop 1370)), (1370, k_nx (a_ald 2 1371)), (1371, k_cv 299 11 0 3 1374), (1374, k_nx (a_pop 1375)), (1375, k_nx (a_goto 1437)), (1378, k_nx (a_ald 1 1379)), (1379, k_nx (a_ald 0 1380)), (1380, k_nx (a_ild 3 1381)), (1381, k_nx (a_c (.int (1 : Int32)) 1382)), (1382, k_nx (a_bi (fun x y => x + y) 1383)), (1383, k_nx (a_sld xs L 1384)), (1384, k_cv 145 10 1 2 1387), (1387, k_nx (a_pop 1388)), (1388, k_nx (a_ald 2 1389)), (1389, k_nx (a_ald 0 1390)), (1390, k_nx (a_ild 3 1391)), (1391, k_nx (a_c (.int (1 : Int32)) 1392)), (1392, k_nx (a_bi (fun x y => x + y) 1393)), (1393, k_nx (a_sld xs L 1394)), (1394, k_cv 300 11 1 2 1397), (1397, k_nx (a_pop 1398)), (1398, k_nx (a_goto 1437)), (1401, k_nx (a_ald 1 1402)), (1402, k_cv 146 10 0 3 1405), (1405, k_nx (a_pop 1406)), (1406, k_nx (a_ald 2 1407)), (1407, k_cv 302 11 0 4 1410), (1410, k_nx (a_pop 1411)), (1411, k_nx (a_goto 1437)), (1414, k_nx (a_ald 1 1415)), (1415, k_nx (a_ald 0 1416)), (1416, k_nx (a_ild 3 1417)), (1417, k_nx (a_c (.int (1 : Int32)) 1418)), (1418, k_nx (a_bi (fun x y => x + y) 1419)), (1419, k_nx (a_sld xs L 1420)), (1420, k_cv 147 10 1 2 1423), (1423, k_nx (a_pop 1424)), (1424, k_nx (a_ald 2 1425)), (1425, k_nx (a_ald 0 1426)), (1426, k_nx (a_ild 3 1427)), (1427, k_nx (a_c (.int (1 : Int32)) 1428)), (1428, k_nx (a_bi (fun x y => x + y) 1429)), (1429, k_nx (a_sld xs L 1430)), (1430, k_cv 209 11 1 2 1433), (1433, k_nx (a_pop 1434)), (1434, k_nx (a_goto 1437)), (1437, k_nx (a_inc 3 (6 : Int32) 1440)), (1440, k_nx (a_goto 18)), (1443, k_nx (a_c (.int (1 : Int32)) 1444)), (1444, k_zret)]
noncomputable def tL (xs : Nat → Int32) (L : Nat) : List (Nat × am_Act) := tL_0 xs L ++ (tL_1 xs L ++ (tL_2 xs L ++ (tL_3 xs L ++ (tL_4 xs L ++ (tL_5 xs L ++ (tL_6 xs L ++ (tL_7 xs L ++ (tL_8 xs L ++ (tL_9 xs L ++ (tL_10 xs L ++ (tL_11 xs L ++ (tL_12 xs L ++ (tL_13 xs L ++ (tL_14 xs L ++ (tL_15 xs L ++ (tL_16 xs L))))))))))))))))
end
section
/-! the machine follows the law -/
noncomputable def lb_L_law_0 : List UInt8 := [0xbb, 0x00, 0x07, 0x59, 0xb7, 0x00, 0x09, 0x4c, 0xbb, 0x00, 0x0a, 0x59, 0xb7, 0x00, 0x0c, 0x4d, 0x03, 0x3e, 0x1d, 0x2a, 0xbe, 0x10, 0x06, 0x64, 0xa3, 0x05, 0x8b, 0x2a, 0x1d, 0x2e, 0x10, 0x3f, 0x7e, 0xaa, 0x00, 0x00]
theorem pw_L_law_0 : am_Pw code (ByteArray.mk lb_L_law_0.toArray) 0 := am_pw lb_L_law_0 rfl (by decide) rfl (by decide +kernel)
theorem dd_L_law_0a : am_dw (ByteArray.mk lb_L_law_0.toArray) 0 0 = .ok (.new 7, 3) ∧ am_dw (ByteArray.mk lb_L_law_0.toArray) 0 3 = .ok (.dup, 1) ∧ am_dw (ByteArray.mk lb_L_law_0.toArray) 0 4 = .ok (.invokespecial 9, 3) ∧ am_dw (ByteArray.mk lb_L_law_0.toArray) 0 7 = .ok (.astore_n 1, 1) ∧ am_dw (ByteArray.mk lb_L_law_0.toArray) 0 8 = .ok (.new 10, 3) ∧ am_dw (ByteArray.mk lb_L_law_0.toArray) 0 11 = .ok (.dup, 1) ∧ am_dw (ByteArray.mk lb_L_law_0.toArray) 0 12 = .ok (.invokespecial 12, 3) ∧ am_dw (ByteArray.mk lb_L_law_0.toArray) 0 15 = .ok (.astore_n 2, 1) := by decide +kernel
theorem dd_L_law_0b : am_dw (ByteArray.mk lb_L_law_0.toArray) 0 16 = .ok (.iconst 0, 1) ∧ am_dw (ByteArray.mk lb_L_law_0.toArray) 0 17 = .ok (.istore_n 3, 1) ∧ am_dw (ByteArray.mk lb_L_law_0.toArray) 0 18 = .ok (.iload_n 3, 1) ∧ am_dw (ByteArray.mk lb_L_law_0.toArray) 0 19 = .ok (.aload_n 0, 1) ∧ am_dw (ByteArray.mk lb_L_law_0.toArray) 0 20 = .ok (.arraylength, 1) ∧ am_dw (ByteArray.mk lb_L_law_0.toArray) 0 21 = .ok (.bipush 6, 2) ∧ am_dw (ByteArray.mk lb_L_law_0.toArray) 0 23 = .ok (.isub, 1) ∧ am_dw (ByteArray.mk lb_L_law_0.toArray) 0 24 = .ok (.if_icmp .gt 1419, 3) := by decide +kernel
theorem dd_L_law_0c : am_dw (ByteArray.mk lb_L_law_0.toArray) 0 27 = .ok (.aload_n 0, 1) ∧ am_dw (ByteArray.mk lb_L_law_0.toArray) 0 28 = .ok (.iload_n 3, 1) ∧ am_dw (ByteArray.mk lb_L_law_0.toArray) 0 29 = .ok (.iaload, 1) ∧ am_dw (ByteArray.mk lb_L_law_0.toArray) 0 30 = .ok (.bipush 63, 2) := by decide +kernel
noncomputable def lb_L_law_32 : List UInt8 := [0x7e, 0xaa, 0x00, 0x00, 0x00, 0x00, 0x05, 0x7c, 0x00, 0x00, 0x00, 0x00, 0x00, 0x00, 0x00, 0x26, 0x00, 0x00, 0x00, 0xab, 0x00, 0x00, 0x00, 0xea, 0x00, 0x00, 0x01, 0x01, 0x00, 0x00, 0x01, 0x0e, 0x00, 0x00, 0x01, 0x25]
theorem pw_L_law_32 : am_Pw code (ByteArray.mk lb_L_law_32.toArray) 32 := am_pw lb_L_law_32 rfl (by decide) rfl (by decide +kernel)
theorem dd_L_law_32a : am_dw (ByteArray.mk lb_L_law_32.toArray) 32 32 = .ok (.iand, 1) := by decide +kernel
noncomputable def lb_L_law_192 : List UInt8 := [0x00, 0x00, 0x05, 0x41, 0x00, 0x00, 0x05, 0x58, 0x00, 0x00, 0x05, 0x65, 0x2b, 0x2a, 0x1d, 0x04, 0x60, 0x2e, 0x2a, 0x1d, 0x05, 0x60, 0x2e, 0x2a, 0x1d, 0x06, 0x60, 0x2e, 0x2a, 0x1d, 0x07, 0x60, 0x2e, 0x2a, 0x1d, 0x08]
theorem pw_L_law_192 : am_Pw code (ByteArray.mk lb_L_law_192.toArray) 192 := am_pw lb_L_law_192 rfl (by decide) rfl (by decide +kernel)
theorem dd_L_law_192a : am_dw (ByteArray.mk lb_L_law_192.toArray) 192 204 = .ok (.aload_n 1, 1) ∧ am_dw (ByteArray.mk lb_L_law_192.toArray) 192 205 = .ok (.aload_n 0, 1) ∧ am_dw (ByteArray.mk lb_L_law_192.toArray) 192 206 = .ok (.iload_n 3, 1) ∧ am_dw (ByteArray.mk lb_L_law_192.toArray) 192 207 = .ok (.iconst 1, 1) ∧ am_dw (ByteArray.mk lb_L_law_192.toArray) 192 208 = .ok (.iadd, 1) ∧ am_dw (ByteArray.mk lb_L_law_192.toArray) 192 209 = .ok (.iaload, 1) ∧ am_dw (ByteArray.mk lb_L_law_192.toArray) 192 210 = .ok (.aload_n 0, 1) ∧ am_dw (ByteArray.mk lb_L_law_192.toArray) 192 211 = .ok (.iload_n 3, 1) := by decide +kernel
theorem dd_L_law_192b : am_dw (ByteArray.mk lb_L_law_192.toArray) 192 212 = .ok (.iconst 2, 1) ∧ am_dw (ByteArray.mk lb_L_law_192.toArray) 192 213 = .ok (.iadd, 1) ∧ am_dw (ByteArray.mk lb_L_law_192.toArray) 192 214 = .ok (.iaload, 1) ∧ am_dw (ByteArray.mk lb_L_law_192.toArray) 192 215 = .ok (.aload_n 0, 1) ∧ am_dw (ByteArray.mk lb_L_law_192.toArray) 192 216 = .ok (.iload_n 3, 1) ∧ am_dw (ByteArray.mk lb_L_law_192.toArray) 192 217 = .ok (.iconst 3, 1) ∧ am_dw (ByteArray.mk lb_L_law_192.toArray) 192 218 = .ok (.iadd, 1) ∧ am_dw (ByteArray.mk lb_L_law_192.toArray) 192 219 = .ok (.iaload, 1) := by decide +kernel
theorem dd_L_law_192c : am_dw (ByteArray.mk lb_L_law_192.toArray) 192 220 = .ok (.aload_n 0, 1) ∧ am_dw (ByteArray.mk lb_L_law_192.toArray) 192 221 = .ok (.iload_n 3, 1) ∧ am_dw (ByteArray.mk lb_L_law_192.toArray) 192 222 = .ok (.iconst 4, 1) ∧ am_dw (ByteArray.mk lb_L_law_192.toArray) 192 223 = .ok (.iadd, 1) := by decide +kernel
noncomputable def lb_L_law_224 : List UInt8 := [0x2e, 0x2a, 0x1d, 0x08, 0x60, 0x2e, 0xb6, 0x00, 0x0d, 0x57, 0x2c, 0x2a, 0x1d, 0x04, 0x60, 0x2e, 0x2a, 0x1d, 0x05, 0x60, 0x2e, 0x2a, 0x1d, 0x06, 0x60, 0x2e, 0x2a, 0x1d, 0x07, 0x60, 0x2e, 0x2a, 0x1d, 0x08, 0x60, 0x2e]
theorem pw_L_law_224 : am_Pw code (ByteArray.mk lb_L_law_224.toArray) 224 := am_pw lb_L_law_224 rfl (by decide) rfl (by decide +kernel)
theorem dd_L_law_224a : am_dw (ByteArray.mk lb_L_law_224.toArray) 224 224 = .ok (.iaload, 1) ∧ am_dw (ByteArray.mk lb_L_law_224.toArray) 224 225 = .ok (.aload_n 0, 1) ∧ am_dw (ByteArray.mk lb_L_law_224.toArray) 224 226 = .ok (.iload_n 3, 1) ∧ am_dw (ByteArray.mk lb_L_law_224.toArray) 224 227 = .ok (.iconst 5, 1) ∧ am_dw (ByteArray.mk lb_L_law_224.toArray) 224 228 = .ok (.iadd, 1) ∧ am_dw (ByteArray.mk lb_L_law_224.toArray) 224 229 = .ok (.iaload, 1) ∧ am_dw (ByteArray.mk lb_L_law_224.toArray) 224 230 = .ok (.invokevirtual 13, 3) ∧ am_dw (ByteArray.mk lb_L_law_224.toArray) 224 233 = .ok (.pop, 1) := by decide +kernel
theorem dd_L_law_224b : am_dw (ByteArray.mk lb_L_law_224.toArray) 224 234 = .ok (.aload_n 2, 1) ∧ am_dw (ByteArray.mk lb_L_law_224.toArray) 224 235 = .ok (.aload_n 0, 1) ∧ am_dw (ByteArray.mk lb_L_law_224.toArray) 224 236 = .ok (.iload_n 3, 1) ∧ am_dw (ByteArray.mk lb_L_law_224.toArray) 224 237 = .ok (.iconst 1, 1) ∧ am_dw (ByteArray.mk lb_L_law_224.toArray) 224 238 = .ok (.iadd, 1) ∧ am_dw (ByteArray.mk lb_L_law_224.toArray) 224 239 = .ok (.iaload, 1) ∧ am_dw (ByteArray.mk lb_L_law_224.toArray) 224 240 = .ok (.aload_n 0, 1) ∧ am_dw (ByteArray.mk lb_L_law_224.toArray) 224 241 = .ok (.iload_n 3, 1) := by decide +kernel
theorem dd_L_law_224c : am_dw (ByteArray.mk lb_L_law_224.toArray) 224 242 = .ok (.iconst 2, 1) ∧ am_dw (ByteArray.mk lb_L_law_224.toArray) 224 243 = .ok (.iadd, 1) ∧ am_dw (ByteArray.mk lb_L_law_224.toArray) 224 244 = .ok (.iaload, 1) ∧ am_dw (ByteArray.mk lb_L_law_224.toArray) 224 245 = .ok (.aload_n 0, 1) ∧ am_dw (ByteArray.mk lb_L_law_224.toArray) 224 246 = .ok (.iload_n 3, 1) ∧ am_dw (ByteArray.mk lb_L_law_224.toArray) 224 247 = .ok (.iconst 3, 1) ∧ am_dw (ByteArray.mk lb_L_law_224.toArray) 224 248 = .ok (.iadd, 1) ∧ am_dw (ByteArray.mk lb_L_law_224.toArray) 224 249 = .ok (.iaload, 1) := by decide +kernel
theorem dd_L_law_224d : am_dw (ByteArray.mk lb_L_law_224.toArray) 224 250 = .ok (.aload_n 0, 1) ∧ am_dw (ByteArray.mk lb_L_law_224.toArray) 224 251 = .ok (.iload_n 3, 1) ∧ am_dw (ByteArray.mk lb_L_law_224.toArray) 224 252 = .ok (.iconst 4, 1) ∧ am_dw (ByteArray.mk lb_L_law_224.toArray) 224 253 = .ok (.iadd, 1) ∧ am_dw (ByteArray.mk lb_L_law_224.toArray) 224 254 = .ok (.iaload, 1) ∧ am_dw (ByteArray.mk lb_L_law_224.toArray) 224 255 = .ok (.aload_n 0, 1) := by decide +kernel
noncomputable def lb_L_law_256 : List UInt8 := [0x1d, 0x08, 0x60, 0x2e, 0xb6, 0x00, 0x11, 0x57, 0xa7, 0x04, 0x95, 0x2b, 0x2a, 0x1d, 0x04, 0x60, 0x2e, 0xb6, 0x00, 0x12, 0x57, 0x2c, 0x2a, 0x1d, 0x04, 0x60, 0x2e, 0xb6, 0x00, 0x16, 0x57, 0xa7, 0x04, 0x7e, 0x2b, 0xb6]
theorem pw_L_law_256 : am_Pw code (ByteArray.mk lb_L_law_256.toArray) 256 := am_pw lb_L_law_256 rfl (by decide) rfl (by decide +kernel)
theorem dd_L_law_256a : am_dw (ByteArray.mk lb_L_law_256.toArray) 256 256 = .ok (.iload_n 3, 1) ∧ am_dw (ByteArray.mk lb_L_law_256.toArray) 256 257 = .ok (.iconst 5, 1) ∧ am_dw (ByteArray.mk lb_L_law_256.toArray) 256 258 = .ok (.iadd, 1) ∧ am_dw (ByteArray.mk lb_L_law_256.toArray) 256 259 = .ok (.iaload, 1) ∧ am_dw (ByteArray.mk lb_L_law_256.toArray) 256 260 = .ok (.invokevirtual 17, 3) ∧ am_dw (ByteArray.mk lb_L_law_256.toArray) 256 263 = .ok (.pop, 1) ∧ am_dw (ByteArray.mk lb_L_law_256.toArray) 256 264 = .ok (.goto 1173, 3) ∧ am_dw (ByteArray.mk lb_L_law_256.toArray) 256 267 = .ok (.aload_n 1, 1) := by decide +kernel
theorem dd_L_law_256b : am_dw (ByteArray.mk lb_L_law_256.toArray) 256 268 = .ok (.aload_n 0, 1) ∧ am_dw (ByteArray.mk lb_L_law_256.toArray) 256 269 = .ok (.iload_n 3, 1) ∧ am_dw (ByteArray.mk lb_L_law_256.toArray) 256 270 = .ok (.iconst 1, 1) ∧ am_dw (ByteArray.mk lb_L_law_256.toArray) 256 271 = .ok (.iadd, 1) ∧ am_dw (ByteArray.mk lb_L_law_256.toArray) 256 272 = .ok (.iaload, 1) ∧ am_dw (ByteArray.mk lb_L_law_256.toArray) 256 273 = .ok (.invokevirtual 18, 3) ∧ am_dw (ByteArray.mk lb_L_law_256.toArray) 256 276 = .ok (.pop, 1) ∧ am_dw (ByteArray.mk lb_L_law_256.toArray) 256 277 = .ok (.aload_n 2, 1) := by decide +kernel
theorem dd_L_law_256c : am_dw (ByteArray.mk lb_L_law_256.toArray) 256 278 = .ok (.aload_n 0, 1) ∧ am_dw (ByteArray.mk lb_L_law_256.toArray) 256 279 = .ok (.iload_n 3, 1) ∧ am_dw (ByteArray.mk lb_L_law_256.toArray) 256 280 = .ok (.iconst 1, 1) ∧ am_dw (ByteArray.mk lb_L_law_256.toArray) 256 281 = .ok (.iadd, 1) ∧ am_dw (ByteArray.mk lb_L_law_256.toArray) 256 282 = .ok (.iaload, 1) ∧ am_dw (ByteArray.mk lb_L_law_256.toArray) 256 283 = .ok (.invokevirtual 22, 3) ∧ am_dw (ByteArray.mk lb_L_law_256.toArray) 256 286 = .ok (.pop, 1) ∧ am_dw (ByteArray.mk lb_L_law_256.toArray) 256 287 = .ok (.goto 1150, 3) := by decide +kernel
noncomputable def lb_L_law_288 : List UInt8 := [0x04, 0x7e, 0x2b, 0xb6, 0x00, 0x17, 0x57, 0x2c, 0xb6, 0x00, 0x1b, 0x57, 0xa7, 0x04, 0x71, 0x2b, 0x2a, 0x1d, 0x04, 0x60, 0x2e, 0xb6, 0x00, 0x1c, 0x57, 0x2c, 0x2a, 0x1d, 0x04, 0x60, 0x2e, 0xb6, 0x00, 0x20, 0x57, 0xa7]
theorem pw_L_law_288 : am_Pw code (ByteArray.mk lb_L_law_288.toArray) 288 := am_pw lb_L_law_288 rfl (by decide) rfl (by decide +kernel)
theorem dd_L_law_288a : am_dw (ByteArray.mk lb_L_law_288.toArray) 288 290 = .ok (.aload_n 1, 1) ∧ am_dw (ByteArray.mk lb_L_law_288.toArray) 288 291 = .ok (.invokevirtual 23, 3) ∧ am_dw (ByteArray.mk lb_L_law_288.toArray) 288 294 = .ok (.pop, 1) ∧ am_dw (ByteArray.mk lb_L_law_288.toArray) 288 295 = .ok (.aload_n 2, 1) ∧ am_dw (ByteArray.mk lb_L_law_288.toArray) 288 296 = .ok (.invokevirtual 27, 3) ∧ am_dw (ByteArray.mk lb_L_law_288.toArray) 288 299 = .ok (.pop, 1) ∧ am_dw (ByteArray.mk lb_L_law_288.toArray) 288 300 = .ok (.goto 1137, 3) ∧ am_dw (ByteArray.mk lb_L_law_288.toArray) 288 303 = .ok (.aload_n 1, 1) := by decide +kernel
theorem dd_L_law_288b : am_dw (ByteArray.mk lb_L_law_288.toArray) 288 304 = .ok (.aload_n 0, 1) ∧ am_dw (ByteArray.mk lb_L_law_288.toArray) 288 305 = .ok (.iload_n 3, 1) ∧ am_dw (ByteArray.mk lb_L_law_288.toArray) 288 306 = .ok (.iconst 1, 1) ∧ am_dw (ByteArray.mk lb_L_law_288.toArray) 288 307 = .ok (.iadd, 1) ∧ am_dw (ByteArray.mk lb_L_law_288.toArray) 288 308 = .ok (.iaload, 1) ∧ am_dw (ByteArray.mk lb_L_law_288.toArray) 288 309 = .ok (.invokevirtual 28, 3) ∧ am_dw (ByteArray.mk lb_L_law_288.toArray) 288 312 = .ok (.pop, 1) ∧ am_dw (ByteArray.mk lb_L_law_288.toArray) 288 313 = .ok (.aload_n 2, 1) := by decide +kernel
theorem dd_L_law_288c : am_dw (ByteArray.mk lb_L_law_288.toArray) 288 314 = .ok (.aload_n 0, 1) ∧ am_dw (ByteArray.mk lb_L_law_288.toArray) 288 315 = .ok (.iload_n 3, 1) ∧ am_dw (ByteArray.mk lb_L_law_288.toArray) 288 316 = .ok (.iconst 1, 1) ∧ am_dw (ByteArray.mk lb_L_law_288.toArray) 288 317 = .ok (.iadd, 1) ∧ am_dw (ByteArray.mk lb_L_law_288.toArray) 288 318 = .ok (.iaload, 1) ∧ am_dw (ByteArray.mk lb_L_law_288.toArray) 288 319 = .ok (.invokevirtual 32, 3) := by decide +kernel
noncomputable def lb_L_law_320 : List UInt8 := [0x00, 0x20, 0x57, 0xa7, 0x04, 0x5a, 0x2b, 0x2a, 0x1d, 0x04, 0x60, 0x2e, 0xb6, 0x00, 0x21, 0x57, 0x2c, 0x2a, 0x1d, 0x04, 0x60, 0x2e, 0xb6, 0x00, 0x24, 0x57, 0xa7, 0x04, 0x43, 0x2b, 0x2a, 0x1d, 0x04, 0x60, 0x2e, 0x2a]
theorem pw_L_law_320 : am_Pw code (ByteArray.mk lb_L_law_320.toArray) 320 := am_pw lb_L_law_320 rfl (by decide) rfl (by decide +kernel)
theorem dd_L_law_320a : am_dw (ByteArray.mk lb_L_law_320.toArray) 320 322 = .ok (.pop, 1) ∧ am_dw (ByteArray.mk lb_L_law_320.toArray) 320 323 = .ok (.goto 1114, 3) ∧ am_dw (ByteArray.mk lb_L_law_320.toArray) 320 326 = .ok (.aload_n 1, 1) ∧ am_dw (ByteArray.mk lb_L_law_320.toArray) 320 327 = .ok (.aload_n 0, 1) ∧ am_dw (ByteArray.mk lb_L_law_320.toArray) 320 328 = .ok (.iload_n 3, 1) ∧ am_dw (ByteArray.mk lb_L_law_320.toArray) 320 329 = .ok (.iconst 1, 1) ∧ am_dw (ByteArray.mk lb_L_law_320.toArray) 320 330 = .ok (.iadd, 1) ∧ am_dw (ByteArray.mk lb_L_law_320.toArray) 320 331 = .ok (.iaload, 1) := by decide +kernel
theorem dd_L_law_320b : am_dw (ByteArray.mk lb_L_law_320.toArray) 320 332 = .ok (.invokevirtual 33, 3) ∧ am_dw (ByteArray.mk lb_L_law_320.toArray) 320 335 = .ok (.pop, 1) ∧ am_dw (ByteArray.mk lb_L_law_320.toArray) 320 336 = .ok (.aload_n 2, 1) ∧ am_dw (ByteArray.mk lb_L_law_320.toArray) 320 337 = .ok (.aload_n 0, 1) ∧ am_dw (ByteArray.mk lb_L_law_320.toArray) 320 338 = .ok (.iload_n 3, 1) ∧ am_dw (ByteArray.mk lb_L_law_320.toArray) 320 339 = .ok (.iconst 1, 1) ∧ am_dw (ByteArray.mk lb_L_law_320.toArray) 320 340 = .ok (.iadd, 1) ∧ am_dw (ByteArray.mk lb_L_law_320.toArray) 320 341 = .ok (.iaload, 1) := by decide +kernel
theorem dd_L_law_320c : am_dw (ByteArray.mk lb_L_law_320.toArray) 320 342 = .ok (.invokevirtual 36, 3) ∧ am_dw (ByteArray.mk lb_L_law_320.toArray) 320 345 = .ok (.pop, 1) ∧ am_dw (ByteArray.mk lb_L_law_320.toArray) 320 346 = .ok (.goto 1091, 3) ∧ am_dw (ByteArray.mk lb_L_law_320.toArray) 320 349 = .ok (.aload_n 1, 1) ∧ am_dw (ByteArray.mk lb_L_law_320.toArray) 320 350 = .ok (.aload_n 0, 1) ∧ am_dw (ByteArray.mk lb_L_law_320.toArray) 320 351 = .ok (.iload_n 3, 1) := by decide +kernel
noncomputable def lb_L_law_352 : List UInt8 := [0x04, 0x60, 0x2e, 0x2a, 0x1d, 0x05, 0x60, 0x2e, 0xb6, 0x00, 0x25, 0x57, 0x2c, 0x2a, 0x1d, 0x04, 0x60, 0x2e, 0x2a, 0x1d, 0x05, 0x60, 0x2e, 0xb6, 0x00, 0x29, 0x57, 0xa7, 0x04, 0x22, 0x2b, 0x2a, 0x1d, 0x04, 0x60, 0x2e]
theorem pw_L_law_352 : am_Pw code (ByteArray.mk lb_L_law_352.toArray) 352 := am_pw lb_L_law_352 rfl (by decide) rfl (by decide +kernel)
theorem dd_L_law_352a : am_dw (ByteArray.mk lb_L_law_352.toArray) 352 352 = .ok (.iconst 1, 1) ∧ am_dw (ByteArray.mk lb_L_law_352.toArray) 352 353 = .ok (.iadd, 1) ∧ am_dw (ByteArray.mk lb_L_law_352.toArray) 352 354 = .ok (.iaload, 1) ∧ am_dw (ByteArray.mk lb_L_law_352.toArray) 352 355 = .ok (.aload_n 0, 1) ∧ am_dw (ByteArray.mk lb_L_law_352.toArray) 352 356 = .ok (.iload_n 3, 1) ∧ am_dw (ByteArray.mk lb_L_law_352.toArray) 352 357 = .ok (.iconst 2, 1) ∧ am_dw (ByteArray.mk lb_L_law_352.toArray) 352 358 = .ok (.iadd, 1) ∧ am_dw (ByteArray.mk lb_L_law_352.toArray) 352 359 = .ok (.iaload, 1) := by decide +kernel
theorem dd_L_law_352b : am_dw (ByteArray.mk lb_L_law_352.toArray) 352 360 = .ok (.invokevirtual 37, 3) ∧ am_dw (ByteArray.mk lb_L_law_352.toArray) 352 363 = .ok (.pop, 1) ∧ am_dw (ByteArray.mk lb_L_law_352.toArray) 352 364 = .ok (.aload_n 2, 1) ∧ am_dw (ByteArray.mk lb_L_law_352.toArray) 352 365 = .ok (.aload_n 0, 1) ∧ am_dw (ByteArray.mk lb_L_law_352.toArray) 352 366 = .ok (.iload_n 3, 1) ∧ am_dw (ByteArray.mk lb_L_law_352.toArray) 352 367 = .ok (.iconst 1, 1) ∧ am_dw (ByteArray.mk lb_L_law_352.toArray) 352 368 = .ok (.iadd, 1) ∧ am_dw (ByteArray.mk lb_L_law_352.toArray) 352 369 = .ok (.iaload, 1) := by decide +kernel
theorem dd_L_law_352c : am_dw (ByteArray.mk lb_L_law_352.toArray) 352 370 = .ok (.aload_n 0, 1) ∧ am_dw (ByteArray.mk lb_L_law_352.toArray) 352 371 = .ok (.iload_n 3, 1) ∧ am_dw (ByteArray.mk lb_L_law_352.toArray) 352 372 = .ok (.iconst 2, 1) ∧ am_dw (ByteArray.mk lb_L_law_352.toArray) 352 373 = .ok (.iadd, 1) ∧ am_dw (ByteArray.mk lb_L_law_352.toArray) 352 374 = .ok (.iaload, 1) ∧ am_dw (ByteArray.mk lb_L_law_352.toArray) 352 375 = .ok (.invokevirtual 41, 3) ∧ am_dw (ByteArray.mk lb_L_law_352.toArray) 352 378 = .ok (.pop, 1) ∧ am_dw (ByteArray.mk lb_L_law_352.toArray) 352 379 = .ok (.goto 1058, 3) := by decide +kernel
theorem dd_L_law_352d : am_dw (ByteArray.mk lb_L_law_352.toArray) 352 382 = .ok (.aload_n 1, 1) ∧ am_dw (ByteArray.mk lb_L_law_352.toArray) 352 383 = .ok (.aload_n 0, 1) := by decide +kernel
noncomputable def lb_L_law_384 : List UInt8 := [0x1d, 0x04, 0x60, 0x2e, 0x2a, 0x1d, 0x05, 0x60, 0x2e, 0xb6, 0x00, 0x2a, 0x57, 0x2c, 0x2a, 0x1d, 0x04, 0x60, 0x2e, 0x2a, 0x1d, 0x05, 0x60, 0x2e, 0xb6, 0x00, 0x2d, 0x57, 0xa7, 0x04, 0x01, 0x2b, 0x2a, 0x1d, 0x04, 0x60]
theorem pw_L_law_384 : am_Pw code (ByteArray.mk lb_L_law_384.toArray) 384 := am_pw lb_L_law_384 rfl (by decide) rfl (by decide +kernel)
theorem dd_L_law_384a : am_dw (ByteArray.mk lb_L_law_384.toArray) 384 384 = .ok (.iload_n 3, 1) ∧ am_dw (ByteArray.mk lb_L_law_384.toArray) 384 385 = .ok (.iconst 1, 1) ∧ am_dw (ByteArray.mk lb_L_law_384.toArray) 384 386 = .ok (.iadd, 1) ∧ am_dw (ByteArray.mk lb_L_law_384.toArray) 384 387 = .ok (.iaload, 1) ∧ am_dw (ByteArray.mk lb_L_law_384.toArray) 384 388 = .ok (.aload_n 0, 1) ∧ am_dw (ByteArray.mk lb_L_law_384.toArray) 384 389 = .ok (.iload_n 3, 1) ∧ am_dw (ByteArray.mk lb_L_law_384.toArray) 384 390 = .ok (.iconst 2, 1) ∧ am_dw (ByteArray.mk lb_L_law_384.toArray) 384 391 = .ok (.iadd, 1) := by decide +kernel
theorem dd_L_law_384b : am_dw (ByteArray.mk lb_L_law_384.toArray) 384 392 = .ok (.iaload, 1) ∧ am_dw (ByteArray.mk lb_L_law_384.toArray) 384 393 = .ok (.invokevirtual 42, 3) ∧ am_dw (ByteArray.mk lb_L_law_384.toArray) 384 396 = .ok (.pop, 1) ∧ am_dw (ByteArray.mk lb_L_law_384.toArray) 384 397 = .ok (.aload_n 2, 1) ∧ am_dw (ByteArray.mk lb_L_law_384.toArray) 384 398 = .ok (.aload_n 0, 1) ∧ am_dw (ByteArray.mk lb_L_law_384.toArray) 384 399 = .ok (.iload_n 3, 1) ∧ am_dw (ByteArray.mk lb_L_law_384.toArray) 384 400 = .ok (.iconst 1, 1) ∧ am_dw (ByteArray.mk lb_L_law_384.toArray) 384 401 = .ok (.iadd, 1) := by decide +kernel
theorem dd_L_law_384c : am_dw (ByteArray.mk lb_L_law_384.toArray) 384 402 = .ok (.iaload, 1) ∧ am_dw (ByteArray.mk lb_L_law_384.toArray) 384 403 = .ok (.aload_n 0, 1) ∧ am_dw (ByteArray.mk lb_L_law_384.toArray) 384 404 = .ok (.iload_n 3, 1) ∧ am_dw (ByteArray.mk lb_L_law_384.toArray) 384 405 = .ok (.iconst 2, 1) ∧ am_dw (ByteArray.mk lb_L_law_384.toArray) 384 406 = .ok (.iadd, 1) ∧ am_dw (ByteArray.mk lb_L_law_384.toArray) 384 407 = .ok (.iaload, 1) ∧ am_dw (ByteArray.mk lb_L_law_384.toArray) 384 408 = .ok (.invokevirtual 45, 3) ∧ am_dw (ByteArray.mk lb_L_law_384.toArray) 384 411 = .ok (.pop, 1) := by decide +kernel
theorem dd_L_law_384d : am_dw (ByteArray.mk lb_L_law_384.toArray) 384 412 = .ok (.goto 1025, 3) ∧ am_dw (ByteArray.mk lb_L_law_384.toArray) 384 415 = .ok (.aload_n 1, 1) := by decide +kernel
noncomputable def lb_L_law_416 : List UInt8 := [0x2a, 0x1d, 0x04, 0x60, 0x2e, 0x2a, 0x1d, 0x05, 0x60, 0x2e, 0x2a, 0x1d, 0x06, 0x60, 0x2e, 0xb6, 0x00, 0x2e, 0x57, 0x2c, 0x2a, 0x1d, 0x04, 0x60, 0x2e, 0x2a, 0x1d, 0x05, 0x60, 0x2e, 0x2a, 0x1d, 0x06, 0x60, 0x2e, 0xb6]
theorem pw_L_law_416 : am_Pw code (ByteArray.mk lb_L_law_416.toArray) 416 := am_pw lb_L_law_416 rfl (by decide) rfl (by decide +kernel)
theorem dd_L_law_416a : am_dw (ByteArray.mk lb_L_law_416.toArray) 416 416 = .ok (.aload_n 0, 1) ∧ am_dw (ByteArray.mk lb_L_law_416.toArray) 416 417 = .ok (.iload_n 3, 1) ∧ am_dw (ByteArray.mk lb_L_law_416.toArray) 416 418 = .ok (.iconst 1, 1) ∧ am_dw (ByteArray.mk lb_L_law_416.toArray) 416 419 = .ok (.iadd, 1) ∧ am_dw (ByteArray.mk lb_L_law_416.toArray) 416 420 = .ok (.iaload, 1) ∧ am_dw (ByteArray.mk lb_L_law_416.toArray) 416 421 = .ok (.aload_n 0, 1) ∧ am_dw (ByteArray.mk lb_L_law_416.toArray) 416 422 = .ok (.iload_n 3, 1) ∧ am_dw (ByteArray.mk lb_L_law_416.toArray) 416 423 = .ok (.iconst 2, 1) := by decide +kernel
theorem dd_L_law_416b : am_dw (ByteArray.mk lb_L_law_416.toArray) 416 424 = .ok (.iadd, 1) ∧ am_dw (ByteArray.mk lb_L_law_416.toArray) 416 425 = .ok (.iaload, 1) ∧ am_dw (ByteArray.mk lb_L_law_416.toArray) 416 426 = .ok (.aload_n 0, 1) ∧ am_dw (ByteArray.mk lb_L_law_416.toArray) 416 427 = .ok (.iload_n 3, 1) ∧ am_dw (ByteArray.mk lb_L_law_416.toArray) 416 428 = .ok (.iconst 3, 1) ∧ am_dw (ByteArray.mk lb_L_law_416.toArray) 416 429 = .ok (.iadd, 1) ∧ am_dw (ByteArray.mk lb_L_law_416.toArray) 416 430 = .ok (.iaload, 1) ∧ am_dw (ByteArray.mk lb_L_law_416.toArray) 416 431 = .ok (.invokevirtual 46, 3) := by decide +kernel
theorem dd_L_law_416c : am_dw (ByteArray.mk lb_L_law_416.toArray) 416 434 = .ok (.pop, 1) ∧ am_dw (ByteArray.mk lb_L_law_416.toArray) 416 435 = .ok (.aload_n 2, 1) ∧ am_dw (ByteArray.mk lb_L_law_416.toArray) 416 436 = .ok (.aload_n 0, 1) ∧ am_dw (ByteArray.mk lb_L_law_416.toArray) 416 437 = .ok (.iload_n 3, 1) ∧ am_dw (ByteArray.mk lb_L_law_416.toArray) 416 438 = .ok (.iconst 1, 1) ∧ am_dw (ByteArray.mk lb_L_law_416.toArray) 416 439 = .ok (.iadd, 1) ∧ am_dw (ByteArray.mk lb_L_law_416.toArray) 416 440 = .ok (.iaload, 1) ∧ am_dw (ByteArray.mk lb_L_law_416.toArray) 416 441 = .ok (.aload_n 0, 1) := by decide +kernel
theorem dd_L_law_416d : am_dw (ByteArray.mk lb_L_law_416.toArray) 416 442 = .ok (.iload_n 3, 1) ∧ am_dw (ByteArray.mk lb_L_law_416.toArray) 416 443 = .ok (.iconst 2, 1) ∧ am_dw (ByteArray.mk lb_L_law_416.toArray) 416 444 = .ok (.iadd, 1) ∧ am_dw (ByteArray.mk lb_L_law_416.toArray) 416 445 = .ok (.iaload, 1) ∧ am_dw (ByteArray.mk lb_L_law_416.toArray) 416 446 = .ok (.aload_n 0, 1) ∧ am_dw (ByteArray.mk lb_L_law_416.toArray) 416 447 = .ok (.iload_n 3, 1) := by decide +kernel
noncomputable def lb_L_law_448 : List UInt8 := [0x06, 0x60, 0x2e, 0xb6, 0x00, 0x32, 0x57, 0xa7, 0x03, 0xd6, 0x2b, 0x2a, 0x1d, 0x04, 0x60, 0x2e, 0x2a, 0x1d, 0x05, 0x60, 0x2e, 0x2a, 0x1d, 0x06, 0x60, 0x2e, 0x2a, 0x1d, 0x07, 0x60, 0x2e, 0xb6, 0x00, 0x33, 0x57, 0x2c]
theorem pw_L_law_448 : am_Pw code (ByteArray.mk lb_L_law_448.toArray) 448 := am_pw lb_L_law_448 rfl (by decide) rfl (by decide +kernel)
theorem dd_L_law_448a : am_dw (ByteArray.mk lb_L_law_448.toArray) 448 448 = .ok (.iconst 3, 1) ∧ am_dw (ByteArray.mk lb_L_law_448.toArray) 448 449 = .ok (.iadd, 1) ∧ am_dw (ByteArray.mk lb_L_law_448.toArray) 448 450 = .ok (.iaload, 1) ∧ am_dw (ByteArray.mk lb_L_law_448.toArray) 448 451 = .ok (.invokevirtual 50, 3) ∧ am_dw (ByteArray.mk lb_L_law_448.toArray) 448 454 = .ok (.pop, 1) ∧ am_dw (ByteArray.mk lb_L_law_448.toArray) 448 455 = .ok (.goto 982, 3) ∧ am_dw (ByteArray.mk lb_L_law_448.toArray) 448 458 = .ok (.aload_n 1, 1) ∧ am_dw (ByteArray.mk lb_L_law_448.toArray) 448 459 = .ok (.aload_n 0, 1) := by decide +kernel
theorem dd_L_law_448b : am_dw (ByteArray.mk lb_L_law_448.toArray) 448 460 = .ok (.iload_n 3, 1) ∧ am_dw (ByteArray.mk lb_L_law_448.toArray) 448 461 = .ok (.iconst 1, 1) ∧ am_dw (ByteArray.mk lb_L_law_448.toArray) 448 462 = .ok (.iadd, 1) ∧ am_dw (ByteArray.mk lb_L_law_448.toArray) 448 463 = .ok (.iaload, 1) ∧ am_dw (ByteArray.mk lb_L_law_448.toArray) 448 464 = .ok (.aload_n 0, 1) ∧ am_dw (ByteArray.mk lb_L_law_448.toArray) 448 465 = .ok (.iload_n 3, 1) ∧ am_dw (ByteArray.mk lb_L_law_448.toArray) 448 466 = .ok (.iconst 2, 1) ∧ am_dw (ByteArray.mk lb_L_law_448.toArray) 448 467 = .ok (.iadd, 1) := by decide +kernel
theorem dd_L_law_448c : am_dw (ByteArray.mk lb_L_law_448.toArray) 448 468 = .ok (.iaload, 1) ∧ am_dw (ByteArray.mk lb_L_law_448.toArray) 448 469 = .ok (.aload_n 0, 1) ∧ am_dw (ByteArray.mk lb_L_law_448.toArray) 448 470 = .ok (.iload_n 3, 1) ∧ am_dw (ByteArray.mk lb_L_law_448.toArray) 448 471 = .ok (.iconst 3, 1) ∧ am_dw (ByteArray.mk lb_L_law_448.toArray) 448 472 = .ok (.iadd, 1) ∧ am_dw (ByteArray.mk lb_L_law_448.toArray) 448 473 = .ok (.iaload, 1) ∧ am_dw (ByteArray.mk lb_L_law_448.toArray) 448 474 = .ok (.aload_n 0, 1) ∧ am_dw (ByteArray.mk lb_L_law_448.toArray) 448 475 = .ok (.iload_n 3, 1) := by decide +kernel
theorem dd_L_law_448d : am_dw (ByteArray.mk lb_L_law_448.toArray) 448 476 = .ok (.iconst 4, 1) ∧ am_dw (ByteArray.mk lb_L_law_448.toArray) 448 477 = .ok (.iadd, 1) ∧ am_dw (ByteArray.mk lb_L_law_448.toArray) 448 478 = .ok (.iaload, 1) ∧ am_dw (ByteArray.mk lb_L_law_448.toArray) 448 479 = .ok (.invokevirtual 51, 3) := by decide +kernel
noncomputable def lb_L_law_480 : List UInt8 := [0x00, 0x33, 0x57, 0x2c, 0x2a, 0x1d, 0x04, 0x60, 0x2e, 0x2a, 0x1d, 0x05, 0x60, 0x2e, 0x2a, 0x1d, 0x06, 0x60, 0x2e, 0x2a, 0x1d, 0x07, 0x60, 0x2e, 0xb6, 0x00, 0x37, 0x57, 0xa7, 0x03, 0xa1, 0x2b, 0x2a, 0x1d, 0x04, 0x60]
theorem pw_L_law_480 : am_Pw code (ByteArray.mk lb_L_law_480.toArray) 480 := am_pw lb_L_law_480 rfl (by decide) rfl (by decide +kernel)
theorem dd_L_law_480a : am_dw (ByteArray.mk lb_L_law_480.toArray) 480 482 = .ok (.pop, 1) ∧ am_dw (ByteArray.mk lb_L_law_480.toArray) 480 483 = .ok (.aload_n 2, 1) ∧ am_dw (ByteArray.mk lb_L_law_480.toArray) 480 484 = .ok (.aload_n 0, 1) ∧ am_dw (ByteArray.mk lb_L_law_480.toArray) 480 485 = .ok (.iload_n 3, 1) ∧ am_dw (ByteArray.mk lb_L_law_480.toArray) 480 486 = .ok (.iconst 1, 1) ∧ am_dw (ByteArray.mk lb_L_law_480.toArray) 480 487 = .ok (.iadd, 1) ∧ am_dw (ByteArray.mk lb_L_law_480.toArray) 480 488 = .ok (.iaload, 1) ∧ am_dw (ByteArray.mk lb_L_law_480.toArray) 480 489 = .ok (.aload_n 0, 1) := by decide +kernel
theorem dd_L_law_480b : am_dw (ByteArray.mk lb_L_law_480.toArray) 480 490 = .ok (.iload_n 3, 1) ∧ am_dw (ByteArray.mk lb_L_law_480.toArray) 480 491 = .ok (.iconst 2, 1) ∧ am_dw (ByteArray.mk lb_L_law_480.toArray) 480 492 = .ok (.iadd, 1) ∧ am_dw (ByteArray.mk lb_L_law_480.toArray) 480 493 = .ok (.iaload, 1) ∧ am_dw (ByteArray.mk lb_L_law_480.toArray) 480 494 = .ok (.aload_n 0, 1) ∧ am_dw (ByteArray.mk lb_L_law_480.toArray) 480 495 = .ok (.iload_n 3, 1) ∧ am_dw (ByteArray.mk lb_L_law_480.toArray) 480 496 = .ok (.iconst 3, 1) ∧ am_dw (ByteArray.mk lb_L_law_480.toArray) 480 497 = .ok (.iadd, 1) := by decide +kernel
theorem dd_L_law_480c : am_dw (ByteArray.mk lb_L_law_480.toArray) 480 498 = .ok (.iaload, 1) ∧ am_dw (ByteArray.mk lb_L_law_480.toArray) 480 499 = .ok (.aload_n 0, 1) ∧ am_dw (ByteArray.mk lb_L_law_480.toArray) 480 500 = .ok (.iload_n 3, 1) ∧ am_dw (ByteArray.mk lb_L_law_480.toArray) 480 501 = .ok (.iconst 4, 1) ∧ am_dw (ByteArray.mk lb_L_law_480.toArray) 480 502 = .ok (.iadd, 1) ∧ am_dw (ByteArray.mk lb_L_law_480.toArray) 480 503 = .ok (.iaload, 1) ∧ am_dw (ByteArray.mk lb_L_law_480.toArray) 480 504 = .ok (.invokevirtual 55, 3) ∧ am_dw (ByteArray.mk lb_L_law_480.toArray) 480 507 = .ok (.pop, 1) := by decide +kernel
theorem dd_L_law_480d : am_dw (ByteArray.mk lb_L_law_480.toArray) 480 508 = .ok (.goto 929, 3) ∧ am_dw (ByteArray.mk lb_L_law_480.toArray) 480 511 = .ok (.aload_n 1, 1) := by decide +kernel
noncomputable def lb_L_law_512 : List UInt8 := [0x2a, 0x1d, 0x04, 0x60, 0x2e, 0x2a, 0x1d, 0x05, 0x60, 0x2e, 0x2a, 0x1d, 0x06, 0x60, 0x2e, 0x2a, 0x1d, 0x07, 0x60, 0x2e, 0x2a, 0x1d, 0x08, 0x60, 0x2e, 0xb6, 0x00, 0x38, 0x57, 0x2c, 0x2a, 0x1d, 0x04, 0x60, 0x2e, 0x2a]
theorem pw_L_law_512 : am_Pw code (ByteArray.mk lb_L_law_512.toArray) 512 := am_pw lb_L_law_512 rfl (by decide) rfl (by decide +kernel)
theorem dd_L_law_512a : am_dw (ByteArray.mk lb_L_law_512.toArray) 512 512 = .ok (.aload_n 0, 1) ∧ am_dw (ByteArray.mk lb_L_law_512.toArray) 512 513 = .ok (.iload_n 3, 1) ∧ am_dw (ByteArray.mk lb_L_law_512.toArray) 512 514 = .ok (.iconst 1, 1) ∧ am_dw (ByteArray.mk lb_L_law_512.toArray) 512 515 = .ok (.iadd, 1) ∧ am_dw (ByteArray.mk lb_L_law_512.toArray) 512 516 = .ok (.iaload, 1) ∧ am_dw (ByteArray.mk lb_L_law_512.toArray) 512 517 = .ok (.aload_n 0, 1) ∧ am_dw (ByteArray.mk lb_L_law_512.toArray) 512 518 = .ok (.iload_n 3, 1) ∧ am_dw (ByteArray.mk lb_L_law_512.toArray) 512 519 = .ok (.iconst 2, 1) := by decide +kernel
theorem dd_L_law_512b : am_dw (ByteArray.mk lb_L_law_512.toArray) 512 520 = .ok (.iadd, 1) ∧ am_dw (ByteArray.mk lb_L_law_512.toArray) 512 521 = .ok (.iaload, 1) ∧ am_dw (ByteArray.mk lb_L_law_512.toArray) 512 522 = .ok (.aload_n 0, 1) ∧ am_dw (ByteArray.mk lb_L_law_512.toArray) 512 523 = .ok (.iload_n 3, 1) ∧ am_dw (ByteArray.mk lb_L_law_512.toArray) 512 524 = .ok (.iconst 3, 1) ∧ am_dw (ByteArray.mk lb_L_law_512.toArray) 512 525 = .ok (.iadd, 1) ∧ am_dw (ByteArray.mk lb_L_law_512.toArray) 512 526 = .ok (.iaload, 1) ∧ am_dw (ByteArray.mk lb_L_law_512.toArray) 512 527 = .ok (.aload_n 0, 1) := by decide +kernel
theorem dd_L_law_512c : am_dw (ByteArray.mk lb_L_law_512.toArray) 512 528 = .ok (.iload_n 3, 1) ∧ am_dw (ByteArray.mk lb_L_law_512.toArray) 512 529 = .ok (.iconst 4, 1) ∧ am_dw (ByteArray.mk lb_L_law_512.toArray) 512 530 = .ok (.iadd, 1) ∧ am_dw (ByteArray.mk lb_L_law_512.toArray) 512 531 = .ok (.iaload, 1) ∧ am_dw (ByteArray.mk lb_L_law_512.toArray) 512 532 = .ok (.aload_n 0, 1) ∧ am_dw (ByteArray.mk lb_L_law_512.toArray) 512 533 = .ok (.iload_n 3, 1) ∧ am_dw (ByteArray.mk lb_L_law_512.toArray) 512 534 = .ok (.iconst 5, 1) ∧ am_dw (ByteArray.mk lb_L_law_512.toArray) 512 535 = .ok (.iadd, 1) := by decide +kernel
theorem dd_L_law_512d : am_dw (ByteArray.mk lb_L_law_512.toArray) 512 536 = .ok (.iaload, 1) ∧ am_dw (ByteArray.mk lb_L_law_512.toArray) 512 537 = .ok (.invokevirtual 56, 3) ∧ am_dw (ByteArray.mk lb_L_law_512.toArray) 512 540 = .ok (.pop, 1) ∧ am_dw (ByteArray.mk lb_L_law_512.toArray) 512 541 = .ok (.aload_n 2, 1) ∧ am_dw (ByteArray.mk lb_L_law_512.toArray) 512 542 = .ok (.aload_n 0, 1) ∧ am_dw (ByteArray.mk lb_L_law_512.toArray) 512 543 = .ok (.iload_n 3, 1) := by decide +kernel
noncomputable def lb_L_law_544 : List UInt8 := [0x04, 0x60, 0x2e, 0x2a, 0x1d, 0x05, 0x60, 0x2e, 0x2a, 0x1d, 0x06, 0x60, 0x2e, 0x2a, 0x1d, 0x07, 0x60, 0x2e, 0x2a, 0x1d, 0x08, 0x60, 0x2e, 0xb6, 0x00, 0x3b, 0x57, 0xa7, 0x03, 0x62, 0x2b, 0x2a, 0x1d, 0x04, 0x60, 0x2e]
theorem pw_L_law_544 : am_Pw code (ByteArray.mk lb_L_law_544.toArray) 544 := am_pw lb_L_law_544 rfl (by decide) rfl (by decide +kernel)
theorem dd_L_law_544a : am_dw (ByteArray.mk lb_L_law_544.toArray) 544 544 = .ok (.iconst 1, 1) ∧ am_dw (ByteArray.mk lb_L_law_544.toArray) 544 545 = .ok (.iadd, 1) ∧ am_dw (ByteArray.mk lb_L_law_544.toArray) 544 546 = .ok (.iaload, 1) ∧ am_dw (ByteArray.mk lb_L_law_544.toArray) 544 547 = .ok (.aload_n 0, 1) ∧ am_dw (ByteArray.mk lb_L_law_544.toArray) 544 548 = .ok (.iload_n 3, 1) ∧ am_dw (ByteArray.mk lb_L_law_544.toArray) 544 549 = .ok (.iconst 2, 1) ∧ am_dw (ByteArray.mk lb_L_law_544.toArray) 544 550 = .ok (.iadd, 1) ∧ am_dw (ByteArray.mk lb_L_law_544.toArray) 544 551 = .ok (.iaload, 1) := by decide +kernel
theorem dd_L_law_544b : am_dw (ByteArray.mk lb_L_law_544.toArray) 544 552 = .ok (.aload_n 0, 1) ∧ am_dw (ByteArray.mk lb_L_law_544.toArray) 544 553 = .ok (.iload_n 3, 1) ∧ am_dw (ByteArray.mk lb_L_law_544.toArray) 544 554 = .ok (.iconst 3, 1) ∧ am_dw (ByteArray.mk lb_L_law_544.toArray) 544 555 = .ok (.iadd, 1) ∧ am_dw (ByteArray.mk lb_L_law_544.toArray) 544 556 = .ok (.iaload, 1) ∧ am_dw (ByteArray.mk lb_L_law_544.toArray) 544 557 = .ok (.aload_n 0, 1) ∧ am_dw (ByteArray.mk lb_L_law_544.toArray) 544 558 = .ok (.iload_n 3, 1) ∧ am_dw (ByteArray.mk lb_L_law_544.toArray) 544 559 = .ok (.iconst 4, 1) := by decide +kernel
theorem dd_L_law_544c : am_dw (ByteArray.mk lb_L_law_544.toArray) 544 560 = .ok (.iadd, 1) ∧ am_dw (ByteArray.mk lb_L_law_544.toArray) 544 561 = .ok (.iaload, 1) ∧ am_dw (ByteArray.mk lb_L_law_544.toArray) 544 562 = .ok (.aload_n 0, 1) ∧ am_dw (ByteArray.mk lb_L_law_544.toArray) 544 563 = .ok (.iload_n 3, 1) ∧ am_dw (ByteArray.mk lb_L_law_544.toArray) 544 564 = .ok (.iconst 5, 1) ∧ am_dw (ByteArray.mk lb_L_law_544.toArray) 544 565 = .ok (.iadd, 1) ∧ am_dw (ByteArray.mk lb_L_law_544.toArray) 544 566 = .ok (.iaload, 1) ∧ am_dw (ByteArray.mk lb_L_law_544.toArray) 544 567 = .ok (.invokevirtual 59, 3) := by decide +kernel
theorem dd_L_law_544d : am_dw (ByteArray.mk lb_L_law_544.toArray) 544 570 = .ok (.pop, 1) ∧ am_dw (ByteArray.mk lb_L_law_544.toArray) 544 571 = .ok (.goto 866, 3) ∧ am_dw (ByteArray.mk lb_L_law_544.toArray) 544 574 = .ok (.aload_n 1, 1) ∧ am_dw (ByteArray.mk lb_L_law_544.toArray) 544 575 = .ok (.aload_n 0, 1) := by decide +kernel
noncomputable def lb_L_law_576 : List UInt8 := [0x1d, 0x04, 0x60, 0x2e, 0x2a, 0x1d, 0x05, 0x60, 0x2e, 0x2a, 0x1d, 0x06, 0x60, 0x2e, 0xb6, 0x00, 0x3c, 0x57, 0x2c, 0x2a, 0x1d, 0x04, 0x60, 0x2e, 0x2a, 0x1d, 0x05, 0x60, 0x2e, 0x2a, 0x1d, 0x06, 0x60, 0x2e, 0xb6, 0x00]
theorem pw_L_law_576 : am_Pw code (ByteArray.mk lb_L_law_576.toArray) 576 := am_pw lb_L_law_576 rfl (by decide) rfl (by decide +kernel)
theorem dd_L_law_576a : am_dw (ByteArray.mk lb_L_law_576.toArray) 576 576 = .ok (.iload_n 3, 1) ∧ am_dw (ByteArray.mk lb_L_law_576.toArray) 576 577 = .ok (.iconst 1, 1) ∧ am_dw (ByteArray.mk lb_L_law_576.toArray) 576 578 = .ok (.iadd, 1) ∧ am_dw (ByteArray.mk lb_L_law_576.toArray) 576 579 = .ok (.iaload, 1) ∧ am_dw (ByteArray.mk lb_L_law_576.toArray) 576 580 = .ok (.aload_n 0, 1) ∧ am_dw (ByteArray.mk lb_L_law_576.toArray) 576 581 = .ok (.iload_n 3, 1) ∧ am_dw (ByteArray.mk lb_L_law_576.toArray) 576 582 = .ok (.iconst 2, 1) ∧ am_dw (ByteArray.mk lb_L_law_576.toArray) 576 583 = .ok (.iadd, 1) := by decide +kernel
theorem dd_L_law_576b : am_dw (ByteArray.mk lb_L_law_576.toArray) 576 584 = .ok (.iaload, 1) ∧ am_dw (ByteArray.mk lb_L_law_576.toArray) 576 585 = .ok (.aload_n 0, 1) ∧ am_dw (ByteArray.mk lb_L_law_576.toArray) 576 586 = .ok (.iload_n 3, 1) ∧ am_dw (ByteArray.mk lb_L_law_576.toArray) 576 587 = .ok (.iconst 3, 1) ∧ am_dw (ByteArray.mk lb_L_law_576.toArray) 576 588 = .ok (.iadd, 1) ∧ am_dw (ByteArray.mk lb_L_law_576.toArray) 576 589 = .ok (.iaload, 1) ∧ am_dw (ByteArray.mk lb_L_law_576.toArray) 576 590 = .ok (.invokevirtual 60, 3) ∧ am_dw (ByteArray.mk lb_L_law_576.toArray) 576 593 = .ok (.pop, 1) := by decide +kernel
theorem dd_L_law_576c : am_dw (ByteArray.mk lb_L_law_576.toArray) 576 594 = .ok (.aload_n 2, 1) ∧ am_dw (ByteArray.mk lb_L_law_576.toArray) 576 595 = .ok (.aload_n 0, 1) ∧ am_dw (ByteArray.mk lb_L_law_576.toArray) 576 596 = .ok (.iload_n 3, 1) ∧ am_dw (ByteArray.mk lb_L_law_576.toArray) 576 597 = .ok (.iconst 1, 1) ∧ am_dw (ByteArray.mk lb_L_law_576.toArray) 576 598 = .ok (.iadd, 1) ∧ am_dw (ByteArray.mk lb_L_law_576.toArray) 576 599 = .ok (.iaload, 1) ∧ am_dw (ByteArray.mk lb_L_law_576.toArray) 576 600 = .ok (.aload_n 0, 1) ∧ am_dw (ByteArray.mk lb_L_law_576.toArray) 576 601 = .ok (.iload_n 3, 1) := by decide +kernel
theorem dd_L_law_576d : am_dw (ByteArray.mk lb_L_law_576.toArray) 576 602 = .ok (.iconst 2, 1) ∧ am_dw (ByteArray.mk lb_L_law_576.toArray) 576 603 = .ok (.iadd, 1) ∧ am_dw (ByteArray.mk lb_L_law_576.toArray) 576 604 = .ok (.iaload, 1) ∧ am_dw (ByteArray.mk lb_L_law_576.toArray) 576 605 = .ok (.aload_n 0, 1) ∧ am_dw (ByteArray.mk lb_L_law_576.toArray) 576 606 = .ok (.iload_n 3, 1) ∧ am_dw (ByteArray.mk lb_L_law_576.toArray) 576 607 = .ok (.iconst 3, 1) := by decide +kernel
noncomputable def lb_L_law_608 : List UInt8 := [0x60, 0x2e, 0xb6, 0x00, 0x3f, 0x57, 0xa7, 0x03, 0x37, 0x2b, 0x2a, 0x1d, 0x04, 0x60, 0x2e, 0x2a, 0x1d, 0x05, 0x60, 0x2e, 0x2a, 0x1d, 0x06, 0x60, 0x2e, 0xb6, 0x00, 0x40, 0x57, 0x2c, 0x2a, 0x1d, 0x04, 0x60, 0x2e, 0x2a]
theorem pw_L_law_608 : am_Pw code (ByteArray.mk lb_L_law_608.toArray) 608 := am_pw lb_L_law_608 rfl (by decide) rfl (by decide +kernel)
theorem dd_L_law_608a : am_dw (ByteArray.mk lb_L_law_608.toArray) 608 608 = .ok (.iadd, 1) ∧ am_dw (ByteArray.mk lb_L_law_608.toArray) 608 609 = .ok (.iaload, 1) ∧ am_dw (ByteArray.mk lb_L_law_608.toArray) 608 610 = .ok (.invokevirtual 63, 3) ∧ am_dw (ByteArray.mk lb_L_law_608.toArray) 608 613 = .ok (.pop, 1) ∧ am_dw (ByteArray.mk lb_L_law_608.toArray) 608 614 = .ok (.goto 823, 3) ∧ am_dw (ByteArray.mk lb_L_law_608.toArray) 608 617 = .ok (.aload_n 1, 1) ∧ am_dw (ByteArray.mk lb_L_law_608.toArray) 608 618 = .ok (.aload_n 0, 1) ∧ am_dw (ByteArray.mk lb_L_law_608.toArray) 608 619 = .ok (.iload_n 3, 1) := by decide +kernel
theorem dd_L_law_608b : am_dw (ByteArray.mk lb_L_law_608.toArray) 608 620 = .ok (.iconst 1, 1) ∧ am_dw (ByteArray.mk lb_L_law_608.toArray) 608 621 = .ok (.iadd, 1) ∧ am_dw (ByteArray.mk lb_L_law_608.toArray) 608 622 = .ok (.iaload, 1) ∧ am_dw (ByteArray.mk lb_L_law_608.toArray) 608 623 = .ok (.aload_n 0, 1) ∧ am_dw (ByteArray.mk lb_L_law_608.toArray) 608 624 = .ok (.iload_n 3, 1) ∧ am_dw (ByteArray.mk lb_L_law_608.toArray) 608 625 = .ok (.iconst 2, 1) ∧ am_dw (ByteArray.mk lb_L_law_608.toArray) 608 626 = .ok (.iadd, 1) ∧ am_dw (ByteArray.mk lb_L_law_608.toArray) 608 627 = .ok (.iaload, 1) := by decide +kernel
theorem dd_L_law_608c : am_dw (ByteArray.mk lb_L_law_608.toArray) 608 628 = .ok (.aload_n 0, 1) ∧ am_dw (ByteArray.mk lb_L_law_608.toArray) 608 629 = .ok (.iload_n 3, 1) ∧ am_dw (ByteArray.mk lb_L_law_608.toArray) 608 630 = .ok (.iconst 3, 1) ∧ am_dw (ByteArray.mk lb_L_law_608.toArray) 608 631 = .ok (.iadd, 1) ∧ am_dw (ByteArray.mk lb_L_law_608.toArray) 608 632 = .ok (.iaload, 1) ∧ am_dw (ByteArray.mk lb_L_law_608.toArray) 608 633 = .ok (.invokevirtual 64, 3) ∧ am_dw (ByteArray.mk lb_L_law_608.toArray) 608 636 = .ok (.pop, 1) ∧ am_dw (ByteArray.mk lb_L_law_608.toArray) 608 637 = .ok (.aload_n 2, 1) := by decide +kernel
theorem dd_L_law_608d : am_dw (ByteArray.mk lb_L_law_608.toArray) 608 638 = .ok (.aload_n 0, 1) ∧ am_dw (ByteArray.mk lb_L_law_608.toArray) 608 639 = .ok (.iload_n 3, 1) := by decide +kernel
noncomputable def lb_L_law_640 : List UInt8 := [0x04, 0x60, 0x2e, 0x2a, 0x1d, 0x05, 0x60, 0x2e, 0x2a, 0x1d, 0x06, 0x60, 0x2e, 0xb6, 0x00, 0x43, 0x57, 0xa7, 0x03, 0x0c, 0x2b, 0x2a, 0x1d, 0x04, 0x60, 0x2e, 0x2a, 0x1d, 0x05, 0x60, 0x2e, 0x2a, 0x1d, 0x06, 0x60, 0x2e]
theorem pw_L_law_640 : am_Pw code (ByteArray.mk lb_L_law_640.toArray) 640 := am_pw lb_L_law_640 rfl (by decide) rfl (by decide +kernel)
theorem dd_L_law_640a : am_dw (ByteArray.mk lb_L_law_640.toArray) 640 640 = .ok (.iconst 1, 1) ∧ am_dw (ByteArray.mk lb_L_law_640.toArray) 640 641 = .ok (.iadd, 1) ∧ am_dw (ByteArray.mk lb_L_law_640.toArray) 640 642 = .ok (.iaload, 1) ∧ am_dw (ByteArray.mk lb_L_law_640.toArray) 640 643 = .ok (.aload_n 0, 1) ∧ am_dw (ByteArray.mk lb_L_law_640.toArray) 640 644 = .ok (.iload_n 3, 1) ∧ am_dw (ByteArray.mk lb_L_law_640.toArray) 640 645 = .ok (.iconst 2, 1) ∧ am_dw (ByteArray.mk lb_L_law_640.toArray) 640 646 = .ok (.iadd, 1) ∧ am_dw (ByteArray.mk lb_L_law_640.toArray) 640 647 = .ok (.iaload, 1) := by decide +kernel
theorem dd_L_law_640b : am_dw (ByteArray.mk lb_L_law_640.toArray) 640 648 = .ok (.aload_n 0, 1) ∧ am_dw (ByteArray.mk lb_L_law_640.toArray) 640 649 = .ok (.iload_n 3, 1) ∧ am_dw (ByteArray.mk lb_L_law_640.toArray) 640 650 = .ok (.iconst 3, 1) ∧ am_dw (ByteArray.mk lb_L_law_640.toArray) 640 651 = .ok (.iadd, 1) ∧ am_dw (ByteArray.mk lb_L_law_640.toArray) 640 652 = .ok (.iaload, 1) ∧ am_dw (ByteArray.mk lb_L_law_640.toArray) 640 653 = .ok (.invokevirtual 67, 3) ∧ am_dw (ByteArray.mk lb_L_law_640.toArray) 640 656 = .ok (.pop, 1) ∧ am_dw (ByteArray.mk lb_L_law_640.toArray) 640 657 = .ok (.goto 780, 3) := by decide +kernel
theorem dd_L_law_640c : am_dw (ByteArray.mk lb_L_law_640.toArray) 640 660 = .ok (.aload_n 1, 1) ∧ am_dw (ByteArray.mk lb_L_law_640.toArray) 640 661 = .ok (.aload_n 0, 1) ∧ am_dw (ByteArray.mk lb_L_law_640.toArray) 640 662 = .ok (.iload_n 3, 1) ∧ am_dw (ByteArray.mk lb_L_law_640.toArray) 640 663 = .ok (.iconst 1, 1) ∧ am_dw (ByteArray.mk lb_L_law_640.toArray) 640 664 = .ok (.iadd, 1) ∧ am_dw (ByteArray.mk lb_L_law_640.toArray) 640 665 = .ok (.iaload, 1) ∧ am_dw (ByteArray.mk lb_L_law_640.toArray) 640 666 = .ok (.aload_n 0, 1) ∧ am_dw (ByteArray.mk lb_L_law_640.toArray) 640 667 = .ok (.iload_n 3, 1) := by decide +kernel
theorem dd_L_law_640d : am_dw (ByteArray.mk lb_L_law_640.toArray) 640 668 = .ok (.iconst 2, 1) ∧ am_dw (ByteArray.mk lb_L_law_640.toArray) 640 669 = .ok (.iadd, 1) ∧ am_dw (ByteArray.mk lb_L_law_640.toArray) 640 670 = .ok (.iaload, 1) ∧ am_dw (ByteArray.mk lb_L_law_640.toArray) 640 671 = .ok (.aload_n 0, 1) := by decide +kernel
noncomputable def lb_L_law_672 : List UInt8 := [0x1d, 0x06, 0x60, 0x2e, 0x2a, 0x1d, 0x07, 0x60, 0x2e, 0xb6, 0x00, 0x44, 0x57, 0x2c, 0x2a, 0x1d, 0x04, 0x60, 0x2e, 0x2a, 0x1d, 0x05, 0x60, 0x2e, 0x2a, 0x1d, 0x06, 0x60, 0x2e, 0x2a, 0x1d, 0x07, 0x60, 0x2e, 0xb6, 0x00]
theorem pw_L_law_672 : am_Pw code (ByteArray.mk lb_L_law_672.toArray) 672 := am_pw lb_L_law_672 rfl (by decide) rfl (by decide +kernel)
theorem dd_L_law_672a : am_dw (ByteArray.mk lb_L_law_672.toArray) 672 672 = .ok (.iload_n 3, 1) ∧ am_dw (ByteArray.mk lb_L_law_672.toArray) 672 673 = .ok (.iconst 3, 1) ∧ am_dw (ByteArray.mk lb_L_law_672.toArray) 672 674 = .ok (.iadd, 1) ∧ am_dw (ByteArray.mk lb_L_law_672.toArray) 672 675 = .ok (.iaload, 1) ∧ am_dw (ByteArray.mk lb_L_law_672.toArray) 672 676 = .ok (.aload_n 0, 1) ∧ am_dw (ByteArray.mk lb_L_law_672.toArray) 672 677 = .ok (.iload_n 3, 1) ∧ am_dw (ByteArray.mk lb_L_law_672.toArray) 672 678 = .ok (.iconst 4, 1) ∧ am_dw (ByteArray.mk lb_L_law_672.toArray) 672 679 = .ok (.iadd, 1) := by decide +kernel
theorem dd_L_law_672b : am_dw (ByteArray.mk lb_L_law_672.toArray) 672 680 = .ok (.iaload, 1) ∧ am_dw (ByteArray.mk lb_L_law_672.toArray) 672 681 = .ok (.invokevirtual 68, 3) ∧ am_dw (ByteArray.mk lb_L_law_672.toArray) 672 684 = .ok (.pop, 1) ∧ am_dw (ByteArray.mk lb_L_law_672.toArray) 672 685 = .ok (.aload_n 2, 1) ∧ am_dw (ByteArray.mk lb_L_law_672.toArray) 672 686 = .ok (.aload_n 0, 1) ∧ am_dw (ByteArray.mk lb_L_law_672.toArray) 672 687 = .ok (.iload_n 3, 1) ∧ am_dw (ByteArray.mk lb_L_law_672.toArray) 672 688 = .ok (.iconst 1, 1) ∧ am_dw (ByteArray.mk lb_L_law_672.toArray) 672 689 = .ok (.iadd, 1) := by decide +kernel
theorem dd_L_law_672c : am_dw (ByteArray.mk lb_L_law_672.toArray) 672 690 = .ok (.iaload, 1) ∧ am_dw (ByteArray.mk lb_L_law_672.toArray) 672 691 = .ok (.aload_n 0, 1) ∧ am_dw (ByteArray.mk lb_L_law_672.toArray) 672 692 = .ok (.iload_n 3, 1) ∧ am_dw (ByteArray.mk lb_L_law_672.toArray) 672 693 = .ok (.iconst 2, 1) ∧ am_dw (ByteArray.mk lb_L_law_672.toArray) 672 694 = .ok (.iadd, 1) ∧ am_dw (ByteArray.mk lb_L_law_672.toArray) 672 695 = .ok (.iaload, 1) ∧ am_dw (ByteArray.mk lb_L_law_672.toArray) 672 696 = .ok (.aload_n 0, 1) ∧ am_dw (ByteArray.mk lb_L_law_672.toArray) 672 697 = .ok (.iload_n 3, 1) := by decide +kernel
theorem dd_L_law_672d : am_dw (ByteArray.mk lb_L_law_672.toArray) 672 698 = .ok (.iconst 3, 1) ∧ am_dw (ByteArray.mk lb_L_law_672.toArray) 672 699 = .ok (.iadd, 1) ∧ am_dw (ByteArray.mk lb_L_law_672.toArray) 672 700 = .ok (.iaload, 1) ∧ am_dw (ByteArray.mk lb_L_law_672.toArray) 672 701 = .ok (.aload_n 0, 1) ∧ am_dw (ByteArray.mk lb_L_law_672.toArray) 672 702 = .ok (.iload_n 3, 1) ∧ am_dw (ByteArray.mk lb_L_law_672.toArray) 672 703 = .ok (.iconst 4, 1) := by decide +kernel
noncomputable def lb_L_law_704 : List UInt8 := [0x60, 0x2e, 0xb6, 0x00, 0x47, 0x57, 0xa7, 0x02, 0xd7, 0x2b, 0x2a, 0x1d, 0x04, 0x60, 0x2e, 0x2a, 0x1d, 0x05, 0x60, 0x2e, 0xb6, 0x00, 0x48, 0x57, 0x2c, 0x2a, 0x1d, 0x04, 0x60, 0x2e, 0x2a, 0x1d, 0x05, 0x60, 0x2e, 0xb6]
theorem pw_L_law_704 : am_Pw code (ByteArray.mk lb_L_law_704.toArray) 704 := am_pw lb_L_law_704 rfl (by decide) rfl (by decide +kernel)
theorem dd_L_law_704a : am_dw (ByteArray.mk lb_L_law_704.toArray) 704 704 = .ok (.iadd, 1) ∧ am_dw (ByteArray.mk lb_L_law_704.toArray) 704 705 = .ok (.iaload, 1) ∧ am_dw (ByteArray.mk lb_L_law_704.toArray) 704 706 = .ok (.invokevirtual 71, 3) ∧ am_dw (ByteArray.mk lb_L_law_704.toArray) 704 709 = .ok (.pop, 1) ∧ am_dw (ByteArray.mk lb_L_law_704.toArray) 704 710 = .ok (.goto 727, 3) ∧ am_dw (ByteArray.mk lb_L_law_704.toArray) 704 713 = .ok (.aload_n 1, 1) ∧ am_dw (ByteArray.mk lb_L_law_704.toArray) 704 714 = .ok (.aload_n 0, 1) ∧ am_dw (ByteArray.mk lb_L_law_704.toArray) 704 715 = .ok (.iload_n 3, 1) := by decide +kernel
theorem dd_L_law_704b : am_dw (ByteArray.mk lb_L_law_704.toArray) 704 716 = .ok (.iconst 1, 1) ∧ am_dw (ByteArray.mk lb_L_law_704.toArray) 704 717 = .ok (.iadd, 1) ∧ am_dw (ByteArray.mk lb_L_law_704.toArray) 704 718 = .ok (.iaload, 1) ∧ am_dw (ByteArray.mk lb_L_law_704.toArray) 704 719 = .ok (.aload_n 0, 1) ∧ am_dw (ByteArray.mk lb_L_law_704.toArray) 704 720 = .ok (.iload_n 3, 1) ∧ am_dw (ByteArray.mk lb_L_law_704.toArray) 704 721 = .ok (.iconst 2, 1) ∧ am_dw (ByteArray.mk lb_L_law_704.toArray) 704 722 = .ok (.iadd, 1) ∧ am_dw (ByteArray.mk lb_L_law_704.toArray) 704 723 = .ok (.iaload, 1) := by decide +kernel
theorem dd_L_law_704c : am_dw (ByteArray.mk lb_L_law_704.toArray) 704 724 = .ok (.invokevirtual 72, 3) ∧ am_dw (ByteArray.mk lb_L_law_704.toArray) 704 727 = .ok (.pop, 1) ∧ am_dw (ByteArray.mk lb_L_law_704.toArray) 704 728 = .ok (.aload_n 2, 1) ∧ am_dw (ByteArray.mk lb_L_law_704.toArray) 704 729 = .ok (.aload_n 0, 1) ∧ am_dw (ByteArray.mk lb_L_law_704.toArray) 704 730 = .ok (.iload_n 3, 1) ∧ am_dw (ByteArray.mk lb_L_law_704.toArray) 704 731 = .ok (.iconst 1, 1) ∧ am_dw (ByteArray.mk lb_L_law_704.toArray) 704 732 = .ok (.iadd, 1) ∧ am_dw (ByteArray.mk lb_L_law_704.toArray) 704 733 = .ok (.iaload, 1) := by decide +kernel
theorem dd_L_law_704d : am_dw (ByteArray.mk lb_L_law_704.toArray) 704 734 = .ok (.aload_n 0, 1) ∧ am_dw (ByteArray.mk lb_L_law_704.toArray) 704 735 = .ok (.iload_n 3, 1) := by decide +kernel
noncomputable def lb_L_law_736 : List UInt8 := [0x05, 0x60, 0x2e, 0xb6, 0x00, 0x4b, 0x57, 0xa7, 0x02, 0xb6, 0x2b, 0x2a, 0x1d, 0x04, 0x60, 0x2e, 0x2a, 0x1d, 0x05, 0x60, 0x2e, 0xb6, 0x00, 0x4c, 0x57, 0x2c, 0x2a, 0x1d, 0x04, 0x60, 0x2e, 0x2a, 0x1d, 0x05, 0x60, 0x2e]
theorem pw_L_law_736 : am_Pw code (ByteArray.mk lb_L_law_736.toArray) 736 := am_pw lb_L_law_736 rfl (by decide) rfl (by decide +kernel)
theorem dd_L_law_736a : am_dw (ByteArray.mk lb_L_law_736.toArray) 736 736 = .ok (.iconst 2, 1) ∧ am_dw (ByteArray.mk lb_L_law_736.toArray) 736 737 = .ok (.iadd, 1) ∧ am_dw (ByteArray.mk lb_L_law_736.toArray) 736 738 = .ok (.iaload, 1) ∧ am_dw (ByteArray.mk lb_L_law_736.toArray) 736 739 = .ok (.invokevirtual 75, 3) ∧ am_dw (ByteArray.mk lb_L_law_736.toArray) 736 742 = .ok (.pop, 1) ∧ am_dw (ByteArray.mk lb_L_law_736.toArray) 736 743 = .ok (.goto 694, 3) ∧ am_dw (ByteArray.mk lb_L_law_736.toArray) 736 746 = .ok (.aload_n 1, 1) ∧ am_dw (ByteArray.mk lb_L_law_736.toArray) 736 747 = .ok (.aload_n 0, 1) := by decide +kernel
theorem dd_L_law_736b : am_dw (ByteArray.mk lb_L_law_736.toArray) 736 748 = .ok (.iload_n 3, 1) ∧ am_dw (ByteArray.mk lb_L_law_736.toArray) 736 749 = .ok (.iconst 1, 1) ∧ am_dw (ByteArray.mk lb_L_law_736.toArray) 736 750 = .ok (.iadd, 1) ∧ am_dw (ByteArray.mk lb_L_law_736.toArray) 736 751 = .ok (.iaload, 1) ∧ am_dw (ByteArray.mk lb_L_law_736.toArray) 736 752 = .ok (.aload_n 0, 1) ∧ am_dw (ByteArray.mk lb_L_law_736.toArray) 736 753 = .ok (.iload_n 3, 1) ∧ am_dw (ByteArray.mk lb_L_law_736.toArray) 736 754 = .ok (.iconst 2, 1) ∧ am_dw (ByteArray.mk lb_L_law_736.toArray) 736 755 = .ok (.iadd, 1) := by decide +kernel
theorem dd_L_law_736c : am_dw (ByteArray.mk lb_L_law_736.toArray) 736 756 = .ok (.iaload, 1) ∧ am_dw (ByteArray.mk lb_L_law_736.toArray) 736 757 = .ok (.invokevirtual 76, 3) ∧ am_dw (ByteArray.mk lb_L_law_736.toArray) 736 760 = .ok (.pop, 1) ∧ am_dw (ByteArray.mk lb_L_law_736.toArray) 736 761 = .ok (.aload_n 2, 1) ∧ am_dw (ByteArray.mk lb_L_law_736.toArray) 736 762 = .ok (.aload_n 0, 1) ∧ am_dw (ByteArray.mk lb_L_law_736.toArray) 736 763 = .ok (.iload_n 3, 1) ∧ am_dw (ByteArray.mk lb_L_law_736.toArray) 736 764 = .ok (.iconst 1, 1) ∧ am_dw (ByteArray.mk lb_L_law_736.toArray) 736 765 = .ok (.iadd, 1) := by decide +kernel
theorem dd_L_law_736d : am_dw (ByteArray.mk lb_L_law_736.toArray) 736 766 = .ok (.iaload, 1) ∧ am_dw (ByteArray.mk lb_L_law_736.toArray) 736 767 = .ok (.aload_n 0, 1) := by decide +kernel
noncomputable def lb_L_law_768 : List UInt8 := [0x1d, 0x05, 0x60, 0x2e, 0xb6, 0x00, 0x4f, 0x57, 0xa7, 0x02, 0x95, 0x2b, 0x2a, 0x1d, 0x04, 0x60, 0x2e, 0xb6, 0x00, 0x50, 0x57, 0x2c, 0x2a, 0x1d, 0x04, 0x60, 0x2e, 0xb6, 0x00, 0x53, 0x57, 0xa7, 0x02, 0x7e, 0x2b, 0x2a]
theorem pw_L_law_768 : am_Pw code (ByteArray.mk lb_L_law_768.toArray) 768 := am_pw lb_L_law_768 rfl (by decide) rfl (by decide +kernel)
theorem dd_L_law_768a : am_dw (ByteArray.mk lb_L_law_768.toArray) 768 768 = .ok (.iload_n 3, 1) ∧ am_dw (ByteArray.mk lb_L_law_768.toArray) 768 769 = .ok (.iconst 2, 1) ∧ am_dw (ByteArray.mk lb_L_law_768.toArray) 768 770 = .ok (.iadd, 1) ∧ am_dw (ByteArray.mk lb_L_law_768.toArray) 768 771 = .ok (.iaload, 1) ∧ am_dw (ByteArray.mk lb_L_law_768.toArray) 768 772 = .ok (.invokevirtual 79, 3) ∧ am_dw (ByteArray.mk lb_L_law_768.toArray) 768 775 = .ok (.pop, 1) ∧ am_dw (ByteArray.mk lb_L_law_768.toArray) 768 776 = .ok (.goto 661, 3) ∧ am_dw (ByteArray.mk lb_L_law_768.toArray) 768 779 = .ok (.aload_n 1, 1) := by decide +kernel
theorem dd_L_law_768b : am_dw (ByteArray.mk lb_L_law_768.toArray) 768 780 = .ok (.aload_n 0, 1) ∧ am_dw (ByteArray.mk lb_L_law_768.toArray) 768 781 = .ok (.iload_n 3, 1) ∧ am_dw (ByteArray.mk lb_L_law_768.toArray) 768 782 = .ok (.iconst 1, 1) ∧ am_dw (ByteArray.mk lb_L_law_768.toArray) 768 783 = .ok (.iadd, 1) ∧ am_dw (ByteArray.mk lb_L_law_768.toArray) 768 784 = .ok (.iaload, 1) ∧ am_dw (ByteArray.mk lb_L_law_768.toArray) 768 785 = .ok (.invokevirtual 80, 3) ∧ am_dw (ByteArray.mk lb_L_law_768.toArray) 768 788 = .ok (.pop, 1) ∧ am_dw (ByteArray.mk lb_L_law_768.toArray) 768 789 = .ok (.aload_n 2, 1) := by decide +kernel
theorem dd_L_law_768c : am_dw (ByteArray.mk lb_L_law_768.toArray) 768 790 = .ok (.aload_n 0, 1) ∧ am_dw (ByteArray.mk lb_L_law_768.toArray) 768 791 = .ok (.iload_n 3, 1) ∧ am_dw (ByteArray.mk lb_L_law_768.toArray) 768 792 = .ok (.iconst 1, 1) ∧ am_dw (ByteArray.mk lb_L_law_768.toArray) 768 793 = .ok (.iadd, 1) ∧ am_dw (ByteArray.mk lb_L_law_768.toArray) 768 794 = .ok (.iaload, 1) ∧ am_dw (ByteArray.mk lb_L_law_768.toArray) 768 795 = .ok (.invokevirtual 83, 3) ∧ am_dw (ByteArray.mk lb_L_law_768.toArray) 768 798 = .ok (.pop, 1) ∧ am_dw (ByteArray.mk lb_L_law_768.toArray) 768 799 = .ok (.goto 638, 3) := by decide +kernel
noncomputable def lb_L_law_800 : List UInt8 := [0x02, 0x7e, 0x2b, 0x2a, 0x1d, 0x04, 0x60, 0x2e, 0x2a, 0x1d, 0x05, 0x60, 0x2e, 0xb6, 0x00, 0x54, 0x57, 0x2c, 0x2a, 0x1d, 0x04, 0x60, 0x2e, 0x2a, 0x1d, 0x05, 0x60, 0x2e, 0xb6, 0x00, 0x57, 0x57, 0xa7, 0x02, 0x5d, 0x2b]
theorem pw_L_law_800 : am_Pw code (ByteArray.mk lb_L_law_800.toArray) 800 := am_pw lb_L_law_800 rfl (by decide) rfl (by decide +kernel)
theorem dd_L_law_800a : am_dw (ByteArray.mk lb_L_law_800.toArray) 800 802 = .ok (.aload_n 1, 1) ∧ am_dw (ByteArray.mk lb_L_law_800.toArray) 800 803 = .ok (.aload_n 0, 1) ∧ am_dw (ByteArray.mk lb_L_law_800.toArray) 800 804 = .ok (.iload_n 3, 1) ∧ am_dw (ByteArray.mk lb_L_law_800.toArray) 800 805 = .ok (.iconst 1, 1) ∧ am_dw (ByteArray.mk lb_L_law_800.toArray) 800 806 = .ok (.iadd, 1) ∧ am_dw (ByteArray.mk lb_L_law_800.toArray) 800 807 = .ok (.iaload, 1) ∧ am_dw (ByteArray.mk lb_L_law_800.toArray) 800 808 = .ok (.aload_n 0, 1) ∧ am_dw (ByteArray.mk lb_L_law_800.toArray) 800 809 = .ok (.iload_n 3, 1) := by decide +kernel
theorem dd_L_law_800b : am_dw (ByteArray.mk lb_L_law_800.toArray) 800 810 = .ok (.iconst 2, 1) ∧ am_dw (ByteArray.mk lb_L_law_800.toArray) 800 811 = .ok (.iadd, 1) ∧ am_dw (ByteArray.mk lb_L_law_800.toArray) 800 812 = .ok (.iaload, 1) ∧ am_dw (ByteArray.mk lb_L_law_800.toArray) 800 813 = .ok (.invokevirtual 84, 3) ∧ am_dw (ByteArray.mk lb_L_law_800.toArray) 800 816 = .ok (.pop, 1) ∧ am_dw (ByteArray.mk lb_L_law_800.toArray) 800 817 = .ok (.aload_n 2, 1) ∧ am_dw (ByteArray.mk lb_L_law_800.toArray) 800 818 = .ok (.aload_n 0, 1) ∧ am_dw (ByteArray.mk lb_L_law_800.toArray) 800 819 = .ok (.iload_n 3, 1) := by decide +kernel
theorem dd_L_law_800c : am_dw (ByteArray.mk lb_L_law_800.toArray) 800 820 = .ok (.iconst 1, 1) ∧ am_dw (ByteArray.mk lb_L_law_800.toArray) 800 821 = .ok (.iadd, 1) ∧ am_dw (ByteArray.mk lb_L_law_800.toArray) 800 822 = .ok (.iaload, 1) ∧ am_dw (ByteArray.mk lb_L_law_800.toArray) 800 823 = .ok (.aload_n 0, 1) ∧ am_dw (ByteArray.mk lb_L_law_800.toArray) 800 824 = .ok (.iload_n 3, 1) ∧ am_dw (ByteArray.mk lb_L_law_800.toArray) 800 825 = .ok (.iconst 2, 1) ∧ am_dw (ByteArray.mk lb_L_law_800.toArray) 800 826 = .ok (.iadd, 1) ∧ am_dw (ByteArray.mk lb_L_law_800.toArray) 800 827 = .ok (.iaload, 1) := by decide +kernel
theorem dd_L_law_800d : am_dw (ByteArray.mk lb_L_law_800.toArray) 800 828 = .ok (.invokevirtual 87, 3) ∧ am_dw (ByteArray.mk lb_L_law_800.toArray) 800 831 = .ok (.pop, 1) := by decide +kernel
noncomputable def lb_L_law_832 : List UInt8 := [0xa7, 0x02, 0x5d, 0x2b, 0x2a, 0x1d, 0x04, 0x60, 0x2e, 0xb6, 0x00, 0x58, 0x57, 0x2c, 0x2a, 0x1d, 0x04, 0x60, 0x2e, 0xb6, 0x00, 0x5b, 0x57, 0xa7, 0x02, 0x46, 0x2b, 0x2a, 0x1d, 0x04, 0x60, 0x2e, 0x2a, 0x1d, 0x05, 0x60]
theorem pw_L_law_832 : am_Pw code (ByteArray.mk lb_L_law_832.toArray) 832 := am_pw lb_L_law_832 rfl (by decide) rfl (by decide +kernel)
theorem dd_L_law_832a : am_dw (ByteArray.mk lb_L_law_832.toArray) 832 832 = .ok (.goto 605, 3) ∧ am_dw (ByteArray.mk lb_L_law_832.toArray) 832 835 = .ok (.aload_n 1, 1) ∧ am_dw (ByteArray.mk lb_L_law_832.toArray) 832 836 = .ok (.aload_n 0, 1) ∧ am_dw (ByteArray.mk lb_L_law_832.toArray) 832 837 = .ok (.iload_n 3, 1) ∧ am_dw (ByteArray.mk lb_L_law_832.toArray) 832 838 = .ok (.iconst 1, 1) ∧ am_dw (ByteArray.mk lb_L_law_832.toArray) 832 839 = .ok (.iadd, 1) ∧ am_dw (ByteArray.mk lb_L_law_832.toArray) 832 840 = .ok (.iaload, 1) ∧ am_dw (ByteArray.mk lb_L_law_832.toArray) 832 841 = .ok (.invokevirtual 88, 3) := by decide +kernel
theorem dd_L_law_832b : am_dw (ByteArray.mk lb_L_law_832.toArray) 832 844 = .ok (.pop, 1) ∧ am_dw (ByteArray.mk lb_L_law_832.toArray) 832 845 = .ok (.aload_n 2, 1) ∧ am_dw (ByteArray.mk lb_L_law_832.toArray) 832 846 = .ok (.aload_n 0, 1) ∧ am_dw (ByteArray.mk lb_L_law_832.toArray) 832 847 = .ok (.iload_n 3, 1) ∧ am_dw (ByteArray.mk lb_L_law_832.toArray) 832 848 = .ok (.iconst 1, 1) ∧ am_dw (ByteArray.mk lb_L_law_832.toArray) 832 849 = .ok (.iadd, 1) ∧ am_dw (ByteArray.mk lb_L_law_832.toArray) 832 850 = .ok (.iaload, 1) ∧ am_dw (ByteArray.mk lb_L_law_832.toArray) 832 851 = .ok (.invokevirtual 91, 3) := by decide +kernel
theorem dd_L_law_832c : am_dw (ByteArray.mk lb_L_law_832.toArray) 832 854 = .ok (.pop, 1) ∧ am_dw (ByteArray.mk lb_L_law_832.toArray) 832 855 = .ok (.goto 582, 3) ∧ am_dw (ByteArray.mk lb_L_law_832.toArray) 832 858 = .ok (.aload_n 1, 1) ∧ am_dw (ByteArray.mk lb_L_law_832.toArray) 832 859 = .ok (.aload_n 0, 1) ∧ am_dw (ByteArray.mk lb_L_law_832.toArray) 832 860 = .ok (.iload_n 3, 1) ∧ am_dw (ByteArray.mk lb_L_law_832.toArray) 832 861 = .ok (.iconst 1, 1) ∧ am_dw (ByteArray.mk lb_L_law_832.toArray) 832 862 = .ok (.iadd, 1) ∧ am_dw (ByteArray.mk lb_L_law_832.toArray) 832 863 = .ok (.iaload, 1) := by decide +kernel
noncomputable def lb_L_law_864 : List UInt8 := [0x2a, 0x1d, 0x05, 0x60, 0x2e, 0xb6, 0x00, 0x5c, 0x57, 0x2c, 0x2a, 0x1d, 0x04, 0x60, 0x2e, 0x2a, 0x1d, 0x05, 0x60, 0x2e, 0xb6, 0x00, 0x5f, 0x57, 0xa7, 0x02, 0x25, 0x2b, 0x2a, 0x1d, 0x04, 0x60, 0x2e, 0xb6, 0x00, 0x60]
theorem pw_L_law_864 : am_Pw code (ByteArray.mk lb_L_law_864.toArray) 864 := am_pw lb_L_law_864 rfl (by decide) rfl (by decide +kernel)
theorem dd_L_law_864a : am_dw (ByteArray.mk lb_L_law_864.toArray) 864 864 = .ok (.aload_n 0, 1) ∧ am_dw (ByteArray.mk lb_L_law_864.toArray) 864 865 = .ok (.iload_n 3, 1) ∧ am_dw (ByteArray.mk lb_L_law_864.toArray) 864 866 = .ok (.iconst 2, 1) ∧ am_dw (ByteArray.mk lb_L_law_864.toArray) 864 867 = .ok (.iadd, 1) ∧ am_dw (ByteArray.mk lb_L_law_864.toArray) 864 868 = .ok (.iaload, 1) ∧ am_dw (ByteArray.mk lb_L_law_864.toArray) 864 869 = .ok (.invokevirtual 92, 3) ∧ am_dw (ByteArray.mk lb_L_law_864.toArray) 864 872 = .ok (.pop, 1) ∧ am_dw (ByteArray.mk lb_L_law_864.toArray) 864 873 = .ok (.aload_n 2, 1) := by decide +kernel
theorem dd_L_law_864b : am_dw (ByteArray.mk lb_L_law_864.toArray) 864 874 = .ok (.aload_n 0, 1) ∧ am_dw (ByteArray.mk lb_L_law_864.toArray) 864 875 = .ok (.iload_n 3, 1) ∧ am_dw (ByteArray.mk lb_L_law_864.toArray) 864 876 = .ok (.iconst 1, 1) ∧ am_dw (ByteArray.mk lb_L_law_864.toArray) 864 877 = .ok (.iadd, 1) ∧ am_dw (ByteArray.mk lb_L_law_864.toArray) 864 878 = .ok (.iaload, 1) ∧ am_dw (ByteArray.mk lb_L_law_864.toArray) 864 879 = .ok (.aload_n 0, 1) ∧ am_dw (ByteArray.mk lb_L_law_864.toArray) 864 880 = .ok (.iload_n 3, 1) ∧ am_dw (ByteArray.mk lb_L_law_864.toArray) 864 881 = .ok (.iconst 2, 1) := by decide +kernel
theorem dd_L_law_864c : am_dw (ByteArray.mk lb_L_law_864.toArray) 864 882 = .ok (.iadd, 1) ∧ am_dw (ByteArray.mk lb_L_law_864.toArray) 864 883 = .ok (.iaload, 1) ∧ am_dw (ByteArray.mk lb_L_law_864.toArray) 864 884 = .ok (.invokevirtual 95, 3) ∧ am_dw (ByteArray.mk lb_L_law_864.toArray) 864 887 = .ok (.pop, 1) ∧ am_dw (ByteArray.mk lb_L_law_864.toArray) 864 888 = .ok (.goto 549, 3) ∧ am_dw (ByteArray.mk lb_L_law_864.toArray) 864 891 = .ok (.aload_n 1, 1) ∧ am_dw (ByteArray.mk lb_L_law_864.toArray) 864 892 = .ok (.aload_n 0, 1) ∧ am_dw (ByteArray.mk lb_L_law_864.toArray) 864 893 = .ok (.iload_n 3, 1) := by decide +kernel
theorem dd_L_law_864d : am_dw (ByteArray.mk lb_L_law_864.toArray) 864 894 = .ok (.iconst 1, 1) ∧ am_dw (ByteArray.mk lb_L_law_864.toArray) 864 895 = .ok (.iadd, 1) := by decide +kernel
noncomputable def lb_L_law_896 : List UInt8 := [0x2e, 0xb6, 0x00, 0x60, 0x57, 0x2c, 0x2a, 0x1d, 0x04, 0x60, 0x2e, 0xb6, 0x00, 0x63, 0x57, 0xa7, 0x02, 0x0e, 0x2b, 0xb6, 0x00, 0x64, 0x57, 0x2c, 0xb6, 0x00, 0x67, 0x57, 0xa7, 0x02, 0x01, 0x2b, 0x2a, 0x1d, 0x04, 0x60]
theorem pw_L_law_896 : am_Pw code (ByteArray.mk lb_L_law_896.toArray) 896 := am_pw lb_L_law_896 rfl (by decide) rfl (by decide +kernel)
theorem dd_L_law_896a : am_dw (ByteArray.mk lb_L_law_896.toArray) 896 896 = .ok (.iaload, 1) ∧ am_dw (ByteArray.mk lb_L_law_896.toArray) 896 897 = .ok (.invokevirtual 96, 3) ∧ am_dw (ByteArray.mk lb_L_law_896.toArray) 896 900 = .ok (.pop, 1) ∧ am_dw (ByteArray.mk lb_L_law_896.toArray) 896 901 = .ok (.aload_n 2, 1) ∧ am_dw (ByteArray.mk lb_L_law_896.toArray) 896 902 = .ok (.aload_n 0, 1) ∧ am_dw (ByteArray.mk lb_L_law_896.toArray) 896 903 = .ok (.iload_n 3, 1) ∧ am_dw (ByteArray.mk lb_L_law_896.toArray) 896 904 = .ok (.iconst 1, 1) ∧ am_dw (ByteArray.mk lb_L_law_896.toArray) 896 905 = .ok (.iadd, 1) := by decide +kernel
theorem dd_L_law_896b : am_dw (ByteArray.mk lb_L_law_896.toArray) 896 906 = .ok (.iaload, 1) ∧ am_dw (ByteArray.mk lb_L_law_896.toArray) 896 907 = .ok (.invokevirtual 99, 3) ∧ am_dw (ByteArray.mk lb_L_law_896.toArray) 896 910 = .ok (.pop, 1) ∧ am_dw (ByteArray.mk lb_L_law_896.toArray) 896 911 = .ok (.goto 526, 3) ∧ am_dw (ByteArray.mk lb_L_law_896.toArray) 896 914 = .ok (.aload_n 1, 1) ∧ am_dw (ByteArray.mk lb_L_law_896.toArray) 896 915 = .ok (.invokevirtual 100, 3) ∧ am_dw (ByteArray.mk lb_L_law_896.toArray) 896 918 = .ok (.pop, 1) ∧ am_dw (ByteArray.mk lb_L_law_896.toArray) 896 919 = .ok (.aload_n 2, 1) := by decide +kernel
theorem dd_L_law_896c : am_dw (ByteArray.mk lb_L_law_896.toArray) 896 920 = .ok (.invokevirtual 103, 3) ∧ am_dw (ByteArray.mk lb_L_law_896.toArray) 896 923 = .ok (.pop, 1) ∧ am_dw (ByteArray.mk lb_L_law_896.toArray) 896 924 = .ok (.goto 513, 3) ∧ am_dw (ByteArray.mk lb_L_law_896.toArray) 896 927 = .ok (.aload_n 1, 1) := by decide +kernel
noncomputable def lb_L_law_928 : List UInt8 := [0x2a, 0x1d, 0x04, 0x60, 0x2e, 0x2a, 0x1d, 0x05, 0x60, 0x2e, 0x2a, 0x1d, 0x06, 0x60, 0x2e, 0xb6, 0x00, 0x68, 0x57, 0x2c, 0x2a, 0x1d, 0x04, 0x60, 0x2e, 0x2a, 0x1d, 0x05, 0x60, 0x2e, 0x2a, 0x1d, 0x06, 0x60, 0x2e, 0xb6]
theorem pw_L_law_928 : am_Pw code (ByteArray.mk lb_L_law_928.toArray) 928 := am_pw lb_L_law_928 rfl (by decide) rfl (by decide +kernel)
theorem dd_L_law_928a : am_dw (ByteArray.mk lb_L_law_928.toArray) 928 928 = .ok (.aload_n 0, 1) ∧ am_dw (ByteArray.mk lb_L_law_928.toArray) 928 929 = .ok (.iload_n 3, 1) ∧ am_dw (ByteArray.mk lb_L_law_928.toArray) 928 930 = .ok (.iconst 1, 1) ∧ am_dw (ByteArray.mk lb_L_law_928.toArray) 928 931 = .ok (.iadd, 1) ∧ am_dw (ByteArray.mk lb_L_law_928.toArray) 928 932 = .ok (.iaload, 1) ∧ am_dw (ByteArray.mk lb_L_law_928.toArray) 928 933 = .ok (.aload_n 0, 1) ∧ am_dw (ByteArray.mk lb_L_law_928.toArray) 928 934 = .ok (.iload_n 3, 1) ∧ am_dw (ByteArray.mk lb_L_law_928.toArray) 928 935 = .ok (.iconst 2, 1) := by decide +kernel
theorem dd_L_law_928b : am_dw (ByteArray.mk lb_L_law_928.toArray) 928 936 = .ok (.iadd, 1) ∧ am_dw (ByteArray.mk lb_L_law_928.toArray) 928 937 = .ok (.iaload, 1) ∧ am_dw (ByteArray.mk lb_L_law_928.toArray) 928 938 = .ok (.aload_n 0, 1) ∧ am_dw (ByteArray.mk lb_L_law_928.toArray) 928 939 = .ok (.iload_n 3, 1) ∧ am_dw (ByteArray.mk lb_L_law_928.toArray) 928 940 = .ok (.iconst 3, 1) ∧ am_dw (ByteArray.mk lb_L_law_928.toArray) 928 941 = .ok (.iadd, 1) ∧ am_dw (ByteArray.mk lb_L_law_928.toArray) 928 942 = .ok (.iaload, 1) ∧ am_dw (ByteArray.mk lb_L_law_928.toArray) 928 943 = .ok (.invokevirtual 104, 3) := by decide +kernel
theorem dd_L_law_928c : am_dw (ByteArray.mk lb_L_law_928.toArray) 928 946 = .ok (.pop, 1) ∧ am_dw (ByteArray.mk lb_L_law_928.toArray) 928 947 = .ok (.aload_n 2, 1) ∧ am_dw (ByteArray.mk lb_L_law_928.toArray) 928 948 = .ok (.aload_n 0, 1) ∧ am_dw (ByteArray.mk lb_L_law_928.toArray) 928 949 = .ok (.iload_n 3, 1) ∧ am_dw (ByteArray.mk lb_L_law_928.toArray) 928 950 = .ok (.iconst 1, 1) ∧ am_dw (ByteArray.mk lb_L_law_928.toArray) 928 951 = .ok (.iadd, 1) ∧ am_dw (ByteArray.mk lb_L_law_928.toArray) 928 952 = .ok (.iaload, 1) ∧ am_dw (ByteArray.mk lb_L_law_928.toArray) 928 953 = .ok (.aload_n 0, 1) := by decide +kernel
theorem dd_L_law_928d : am_dw (ByteArray.mk lb_L_law_928.toArray) 928 954 = .ok (.iload_n 3, 1) ∧ am_dw (ByteArray.mk lb_L_law_928.toArray) 928 955 = .ok (.iconst 2, 1) ∧ am_dw (ByteArray.mk lb_L_law_928.toArray) 928 956 = .ok (.iadd, 1) ∧ am_dw (ByteArray.mk lb_L_law_928.toArray) 928 957 = .ok (.iaload, 1) ∧ am_dw (ByteArray.mk lb_L_law_928.toArray) 928 958 = .ok (.aload_n 0, 1) ∧ am_dw (ByteArray.mk lb_L_law_928.toArray) 928 959 = .ok (.iload_n 3, 1) := by decide +kernel
noncomputable def lb_L_law_960 : List UInt8 := [0x06, 0x60, 0x2e, 0xb6, 0x00, 0x6b, 0x57, 0xa7, 0x01, 0xd6, 0x2b, 0x2a, 0x1d, 0x04, 0x60, 0x2e, 0x2a, 0x1d, 0x05, 0x60, 0x2e, 0xb6, 0x00, 0x6c, 0x57, 0x2c, 0x2a, 0x1d, 0x04, 0x60, 0x2e, 0x2a, 0x1d, 0x05, 0x60, 0x2e]
theorem pw_L_law_960 : am_Pw code (ByteArray.mk lb_L_law_960.toArray) 960 := am_pw lb_L_law_960 rfl (by decide) rfl (by decide +kernel)
theorem dd_L_law_960a : am_dw (ByteArray.mk lb_L_law_960.toArray) 960 960 = .ok (.iconst 3, 1) ∧ am_dw (ByteArray.mk lb_L_law_960.toArray) 960 961 = .ok (.iadd, 1) ∧ am_dw (ByteArray.mk lb_L_law_960.toArray) 960 962 = .ok (.iaload, 1) ∧ am_dw (ByteArray.mk lb_L_law_960.toArray) 960 963 = .ok (.invokevirtual 107, 3) ∧ am_dw (ByteArray.mk lb_L_law_960.toArray) 960 966 = .ok (.pop, 1) ∧ am_dw (ByteArray.mk lb_L_law_960.toArray) 960 967 = .ok (.goto 470, 3) ∧ am_dw (ByteArray.mk lb_L_law_960.toArray) 960 970 = .ok (.aload_n 1, 1) ∧ am_dw (ByteArray.mk lb_L_law_960.toArray) 960 971 = .ok (.aload_n 0, 1) := by decide +kernel
theorem dd_L_law_960b : am_dw (ByteArray.mk lb_L_law_960.toArray) 960 972 = .ok (.iload_n 3, 1) ∧ am_dw (ByteArray.mk lb_L_law_960.toArray) 960 973 = .ok (.iconst 1, 1) ∧ am_dw (ByteArray.mk lb_L_law_960.toArray) 960 974 = .ok (.iadd, 1) ∧ am_dw (ByteArray.mk lb_L_law_960.toArray) 960 975 = .ok (.iaload, 1) ∧ am_dw (ByteArray.mk lb_L_law_960.toArray) 960 976 = .ok (.aload_n 0, 1) ∧ am_dw (ByteArray.mk lb_L_law_960.toArray) 960 977 = .ok (.iload_n 3, 1) ∧ am_dw (ByteArray.mk lb_L_law_960.toArray) 960 978 = .ok (.iconst 2, 1) ∧ am_dw (ByteArray.mk lb_L_law_960.toArray) 960 979 = .ok (.iadd, 1) := by decide +kernel
theorem dd_L_law_960c : am_dw (ByteArray.mk lb_L_law_960.toArray) 960 980 = .ok (.iaload, 1) ∧ am_dw (ByteArray.mk lb_L_law_960.toArray) 960 981 = .ok (.invokevirtual 108, 3) ∧ am_dw (ByteArray.mk lb_L_law_960.toArray) 960 984 = .ok (.pop, 1) ∧ am_dw (ByteArray.mk lb_L_law_960.toArray) 960 985 = .ok (.aload_n 2, 1) ∧ am_dw (ByteArray.mk lb_L_law_960.toArray) 960 986 = .ok (.aload_n 0, 1) ∧ am_dw (ByteArray.mk lb_L_law_960.toArray) 960 987 = .ok (.iload_n 3, 1) ∧ am_dw (ByteArray.mk lb_L_law_960.toArray) 960 988 = .ok (.iconst 1, 1) ∧ am_dw (ByteArray.mk lb_L_law_960.toArray) 960 989 = .ok (.iadd, 1) := by decide +kernel
theorem dd_L_law_960d : am_dw (ByteArray.mk lb_L_law_960.toArray) 960 990 = .ok (.iaload, 1) ∧ am_dw (ByteArray.mk lb_L_law_960.toArray) 960 991 = .ok (.aload_n 0, 1) := by decide +kernel
noncomputable def lb_L_law_992 : List UInt8 := [0x1d, 0x05, 0x60, 0x2e, 0xb6, 0x00, 0x6f, 0x57, 0xa7, 0x01, 0xb5, 0x2b, 0xb6, 0x00, 0x70, 0x2c, 0xb6, 0x00, 0x73, 0x9f, 0x01, 0xaa, 0x03, 0xac, 0x2b, 0xb6, 0x00, 0x74, 0x57, 0x2c, 0xb6, 0x00, 0x77, 0x57, 0xa7, 0x01]
theorem pw_L_law_992 : am_Pw code (ByteArray.mk lb_L_law_992.toArray) 992 := am_pw lb_L_law_992 rfl (by decide) rfl (by decide +kernel)
theorem dd_L_law_992a : am_dw (ByteArray.mk lb_L_law_992.toArray) 992 992 = .ok (.iload_n 3, 1) ∧ am_dw (ByteArray.mk lb_L_law_992.toArray) 992 993 = .ok (.iconst 2, 1) ∧ am_dw (ByteArray.mk lb_L_law_992.toArray) 992 994 = .ok (.iadd, 1) ∧ am_dw (ByteArray.mk lb_L_law_992.toArray) 992 995 = .ok (.iaload, 1) ∧ am_dw (ByteArray.mk lb_L_law_992.toArray) 992 996 = .ok (.invokevirtual 111, 3) ∧ am_dw (ByteArray.mk lb_L_law_992.toArray) 992 999 = .ok (.pop, 1) ∧ am_dw (ByteArray.mk lb_L_law_992.toArray) 992 1000 = .ok (.goto 437, 3) ∧ am_dw (ByteArray.mk lb_L_law_992.toArray) 992 1003 = .ok (.aload_n 1, 1) := by decide +kernel
theorem dd_L_law_992b : am_dw (ByteArray.mk lb_L_law_992.toArray) 992 1004 = .ok (.invokevirtual 112, 3) ∧ am_dw (ByteArray.mk lb_L_law_992.toArray) 992 1007 = .ok (.aload_n 2, 1) ∧ am_dw (ByteArray.mk lb_L_law_992.toArray) 992 1008 = .ok (.invokevirtual 115, 3) ∧ am_dw (ByteArray.mk lb_L_law_992.toArray) 992 1011 = .ok (.if_icmp .eq 426, 3) ∧ am_dw (ByteArray.mk lb_L_law_992.toArray) 992 1014 = .ok (.iconst 0, 1) ∧ am_dw (ByteArray.mk lb_L_law_992.toArray) 992 1015 = .ok (.ireturn, 1) ∧ am_dw (ByteArray.mk lb_L_law_992.toArray) 992 1016 = .ok (.aload_n 1, 1) ∧ am_dw (ByteArray.mk lb_L_law_992.toArray) 992 1017 = .ok (.invokevirtual 116, 3) := by decide +kernel
theorem dd_L_law_992c : am_dw (ByteArray.mk lb_L_law_992.toArray) 992 1020 = .ok (.pop, 1) ∧ am_dw (ByteArray.mk lb_L_law_992.toArray) 992 1021 = .ok (.aload_n 2, 1) ∧ am_dw (ByteArray.mk lb_L_law_992.toArray) 992 1022 = .ok (.invokevirtual 119, 3) := by decide +kernel
noncomputable def lb_L_law_1024 : List UInt8 := [0x77, 0x57, 0xa7, 0x01, 0x9b, 0x2b, 0x2a, 0x1d, 0x04, 0x60, 0x2e, 0x2a, 0x1d, 0x05, 0x60, 0x2e, 0xb6, 0x00, 0x78, 0x57, 0x2c, 0x2a, 0x1d, 0x04, 0x60, 0x2e, 0x2a, 0x1d, 0x05, 0x60, 0x2e, 0xb6, 0x00, 0x7b, 0x57, 0xa7]
theorem pw_L_law_1024 : am_Pw code (ByteArray.mk lb_L_law_1024.toArray) 1024 := am_pw lb_L_law_1024 rfl (by decide) rfl (by decide +kernel)
theorem dd_L_law_1024a : am_dw (ByteArray.mk lb_L_law_1024.toArray) 1024 1025 = .ok (.pop, 1) ∧ am_dw (ByteArray.mk lb_L_law_1024.toArray) 1024 1026 = .ok (.goto 411, 3) ∧ am_dw (ByteArray.mk lb_L_law_1024.toArray) 1024 1029 = .ok (.aload_n 1, 1) ∧ am_dw (ByteArray.mk lb_L_law_1024.toArray) 1024 1030 = .ok (.aload_n 0, 1) ∧ am_dw (ByteArray.mk lb_L_law_1024.toArray) 1024 1031 = .ok (.iload_n 3, 1) ∧ am_dw (ByteArray.mk lb_L_law_1024.toArray) 1024 1032 = .ok (.iconst 1, 1) ∧ am_dw (ByteArray.mk lb_L_law_1024.toArray) 1024 1033 = .ok (.iadd, 1) ∧ am_dw (ByteArray.mk lb_L_law_1024.toArray) 1024 1034 = .ok (.iaload, 1) := by decide +kernel
theorem dd_L_law_1024b : am_dw (ByteArray.mk lb_L_law_1024.toArray) 1024 1035 = .ok (.aload_n 0, 1) ∧ am_dw (ByteArray.mk lb_L_law_1024.toArray) 1024 1036 = .ok (.iload_n 3, 1) ∧ am_dw (ByteArray.mk lb_L_law_1024.toArray) 1024 1037 = .ok (.iconst 2, 1) ∧ am_dw (ByteArray.mk lb_L_law_1024.toArray) 1024 1038 = .ok (.iadd, 1) ∧ am_dw (ByteArray.mk lb_L_law_1024.toArray) 1024 1039 = .ok (.iaload, 1) ∧ am_dw (ByteArray.mk lb_L_law_1024.toArray) 1024 1040 = .ok (.invokevirtual 120, 3) ∧ am_dw (ByteArray.mk lb_L_law_1024.toArray) 1024 1043 = .ok (.pop, 1) ∧ am_dw (ByteArray.mk lb_L_law_1024.toArray) 1024 1044 = .ok (.aload_n 2, 1) := by decide +kernel
theorem dd_L_law_1024c : am_dw (ByteArray.mk lb_L_law_1024.toArray) 1024 1045 = .ok (.aload_n 0, 1) ∧ am_dw (ByteArray.mk lb_L_law_1024.toArray) 1024 1046 = .ok (.iload_n 3, 1) ∧ am_dw (ByteArray.mk lb_L_law_1024.toArray) 1024 1047 = .ok (.iconst 1, 1) ∧ am_dw (ByteArray.mk lb_L_law_1024.toArray) 1024 1048 = .ok (.iadd, 1) ∧ am_dw (ByteArray.mk lb_L_law_1024.toArray) 1024 1049 = .ok (.iaload, 1) ∧ am_dw (ByteArray.mk lb_L_law_1024.toArray) 1024 1050 = .ok (.aload_n 0, 1) ∧ am_dw (ByteArray.mk lb_L_law_1024.toArray) 1024 1051 = .ok (.iload_n 3, 1) ∧ am_dw (ByteArray.mk lb_L_law_1024.toArray) 1024 1052 = .ok (.iconst 2, 1) := by decide +kernel
theorem dd_L_law_1024d : am_dw (ByteArray.mk lb_L_law_1024.toArray) 1024 1053 = .ok (.iadd, 1) ∧ am_dw (ByteArray.mk lb_L_law_1024.toArray) 1024 1054 = .ok (.iaload, 1) ∧ am_dw (ByteArray.mk lb_L_law_1024.toArray) 1024 1055 = .ok (.invokevirtual 123, 3) := by decide +kernel
noncomputable def lb_L_law_1056 : List UInt8 := [0x00, 0x7b, 0x57, 0xa7, 0x01, 0x7a, 0x2b, 0x2a, 0x1d, 0x04, 0x60, 0x2e, 0xb6, 0x00, 0x7c, 0x58, 0x2c, 0x2a, 0x1d, 0x04, 0x60, 0x2e, 0xb6, 0x00, 0x80, 0x58, 0xa7, 0x01, 0x63, 0x2b, 0xb6, 0x00, 0x81, 0x57, 0x2c, 0xb6]
theorem pw_L_law_1056 : am_Pw code (ByteArray.mk lb_L_law_1056.toArray) 1056 := am_pw lb_L_law_1056 rfl (by decide) rfl (by decide +kernel)
theorem dd_L_law_1056a : am_dw (ByteArray.mk lb_L_law_1056.toArray) 1056 1058 = .ok (.pop, 1) ∧ am_dw (ByteArray.mk lb_L_law_1056.toArray) 1056 1059 = .ok (.goto 378, 3) ∧ am_dw (ByteArray.mk lb_L_law_1056.toArray) 1056 1062 = .ok (.aload_n 1, 1) ∧ am_dw (ByteArray.mk lb_L_law_1056.toArray) 1056 1063 = .ok (.aload_n 0, 1) ∧ am_dw (ByteArray.mk lb_L_law_1056.toArray) 1056 1064 = .ok (.iload_n 3, 1) ∧ am_dw (ByteArray.mk lb_L_law_1056.toArray) 1056 1065 = .ok (.iconst 1, 1) ∧ am_dw (ByteArray.mk lb_L_law_1056.toArray) 1056 1066 = .ok (.iadd, 1) ∧ am_dw (ByteArray.mk lb_L_law_1056.toArray) 1056 1067 = .ok (.iaload, 1) := by decide +kernel
theorem dd_L_law_1056b : am_dw (ByteArray.mk lb_L_law_1056.toArray) 1056 1068 = .ok (.invokevirtual 124, 3) ∧ am_dw (ByteArray.mk lb_L_law_1056.toArray) 1056 1071 = .ok (.pop2, 1) ∧ am_dw (ByteArray.mk lb_L_law_1056.toArray) 1056 1072 = .ok (.aload_n 2, 1) ∧ am_dw (ByteArray.mk lb_L_law_1056.toArray) 1056 1073 = .ok (.aload_n 0, 1) ∧ am_dw (ByteArray.mk lb_L_law_1056.toArray) 1056 1074 = .ok (.iload_n 3, 1) ∧ am_dw (ByteArray.mk lb_L_law_1056.toArray) 1056 1075 = .ok (.iconst 1, 1) ∧ am_dw (ByteArray.mk lb_L_law_1056.toArray) 1056 1076 = .ok (.iadd, 1) ∧ am_dw (ByteArray.mk lb_L_law_1056.toArray) 1056 1077 = .ok (.iaload, 1) := by decide +kernel
theorem dd_L_law_1056c : am_dw (ByteArray.mk lb_L_law_1056.toArray) 1056 1078 = .ok (.invokevirtual 128, 3) ∧ am_dw (ByteArray.mk lb_L_law_1056.toArray) 1056 1081 = .ok (.pop2, 1) ∧ am_dw (ByteArray.mk lb_L_law_1056.toArray) 1056 1082 = .ok (.goto 355, 3) ∧ am_dw (ByteArray.mk lb_L_law_1056.toArray) 1056 1085 = .ok (.aload_n 1, 1) ∧ am_dw (ByteArray.mk lb_L_law_1056.toArray) 1056 1086 = .ok (.invokevirtual 129, 3) := by decide +kernel
noncomputable def lb_L_law_1088 : List UInt8 := [0x81, 0x57, 0x2c, 0xb6, 0x00, 0x84, 0x57, 0xa7, 0x01, 0x56, 0x2b, 0x2a, 0x1d, 0x04, 0x60, 0x2e, 0x2a, 0x1d, 0x05, 0x60, 0x2e, 0x2a, 0x1d, 0x06, 0x60, 0x2e, 0xb6, 0x00, 0x85, 0x57, 0x2c, 0x2a, 0x1d, 0x04, 0x60, 0x2e]
theorem pw_L_law_1088 : am_Pw code (ByteArray.mk lb_L_law_1088.toArray) 1088 := am_pw lb_L_law_1088 rfl (by decide) rfl (by decide +kernel)
theorem dd_L_law_1088a : am_dw (ByteArray.mk lb_L_law_1088.toArray) 1088 1089 = .ok (.pop, 1) ∧ am_dw (ByteArray.mk lb_L_law_1088.toArray) 1088 1090 = .ok (.aload_n 2, 1) ∧ am_dw (ByteArray.mk lb_L_law_1088.toArray) 1088 1091 = .ok (.invokevirtual 132, 3) ∧ am_dw (ByteArray.mk lb_L_law_1088.toArray) 1088 1094 = .ok (.pop, 1) ∧ am_dw (ByteArray.mk lb_L_law_1088.toArray) 1088 1095 = .ok (.goto 342, 3) ∧ am_dw (ByteArray.mk lb_L_law_1088.toArray) 1088 1098 = .ok (.aload_n 1, 1) ∧ am_dw (ByteArray.mk lb_L_law_1088.toArray) 1088 1099 = .ok (.aload_n 0, 1) ∧ am_dw (ByteArray.mk lb_L_law_1088.toArray) 1088 1100 = .ok (.iload_n 3, 1) := by decide +kernel
theorem dd_L_law_1088b : am_dw (ByteArray.mk lb_L_law_1088.toArray) 1088 1101 = .ok (.iconst 1, 1) ∧ am_dw (ByteArray.mk lb_L_law_1088.toArray) 1088 1102 = .ok (.iadd, 1) ∧ am_dw (ByteArray.mk lb_L_law_1088.toArray) 1088 1103 = .ok (.iaload, 1) ∧ am_dw (ByteArray.mk lb_L_law_1088.toArray) 1088 1104 = .ok (.aload_n 0, 1) ∧ am_dw (ByteArray.mk lb_L_law_1088.toArray) 1088 1105 = .ok (.iload_n 3, 1) ∧ am_dw (ByteArray.mk lb_L_law_1088.toArray) 1088 1106 = .ok (.iconst 2, 1) ∧ am_dw (ByteArray.mk lb_L_law_1088.toArray) 1088 1107 = .ok (.iadd, 1) ∧ am_dw (ByteArray.mk lb_L_law_1088.toArray) 1088 1108 = .ok (.iaload, 1) := by decide +kernel
theorem dd_L_law_1088c : am_dw (ByteArray.mk lb_L_law_1088.toArray) 1088 1109 = .ok (.aload_n 0, 1) ∧ am_dw (ByteArray.mk lb_L_law_1088.toArray) 1088 1110 = .ok (.iload_n 3, 1) ∧ am_dw (ByteArray.mk lb_L_law_1088.toArray) 1088 1111 = .ok (.iconst 3, 1) ∧ am_dw (ByteArray.mk lb_L_law_1088.toArray) 1088 1112 = .ok (.iadd, 1) ∧ am_dw (ByteArray.mk lb_L_law_1088.toArray) 1088 1113 = .ok (.iaload, 1) ∧ am_dw (ByteArray.mk lb_L_law_1088.toArray) 1088 1114 = .ok (.invokevirtual 133, 3) ∧ am_dw (ByteArray.mk lb_L_law_1088.toArray) 1088 1117 = .ok (.pop, 1) ∧ am_dw (ByteArray.mk lb_L_law_1088.toArray) 1088 1118 = .ok (.aload_n 2, 1) := by decide +kernel
theorem dd_L_law_1088d : am_dw (ByteArray.mk lb_L_law_1088.toArray) 1088 1119 = .ok (.aload_n 0, 1) := by decide +kernel
noncomputable def lb_L_law_1120 : List UInt8 := [0x1d, 0x04, 0x60, 0x2e, 0x2a, 0x1d, 0x05, 0x60, 0x2e, 0x2a, 0x1d, 0x06, 0x60, 0x2e, 0xb6, 0x00, 0x88, 0x57, 0xa7, 0x01, 0x2b, 0x2b, 0x2a, 0x1d, 0x04, 0x60, 0x2e, 0xb6, 0x00, 0x89, 0x57, 0x2c, 0x2a, 0x1d, 0x04, 0x60]
theorem pw_L_law_1120 : am_Pw code (ByteArray.mk lb_L_law_1120.toArray) 1120 := am_pw lb_L_law_1120 rfl (by decide) rfl (by decide +kernel)
theorem dd_L_law_1120a : am_dw (ByteArray.mk lb_L_law_1120.toArray) 1120 1120 = .ok (.iload_n 3, 1) ∧ am_dw (ByteArray.mk lb_L_law_1120.toArray) 1120 1121 = .ok (.iconst 1, 1) ∧ am_dw (ByteArray.mk lb_L_law_1120.toArray) 1120 1122 = .ok (.iadd, 1) ∧ am_dw (ByteArray.mk lb_L_law_1120.toArray) 1120 1123 = .ok (.iaload, 1) ∧ am_dw (ByteArray.mk lb_L_law_1120.toArray) 1120 1124 = .ok (.aload_n 0, 1) ∧ am_dw (ByteArray.mk lb_L_law_1120.toArray) 1120 1125 = .ok (.iload_n 3, 1) ∧ am_dw (ByteArray.mk lb_L_law_1120.toArray) 1120 1126 = .ok (.iconst 2, 1) ∧ am_dw (ByteArray.mk lb_L_law_1120.toArray) 1120 1127 = .ok (.iadd, 1) := by decide +kernel
theorem dd_L_law_1120b : am_dw (ByteArray.mk lb_L_law_1120.toArray) 1120 1128 = .ok (.iaload, 1) ∧ am_dw (ByteArray.mk lb_L_law_1120.toArray) 1120 1129 = .ok (.aload_n 0, 1) ∧ am_dw (ByteArray.mk lb_L_law_1120.toArray) 1120 1130 = .ok (.iload_n 3, 1) ∧ am_dw (ByteArray.mk lb_L_law_1120.toArray) 1120 1131 = .ok (.iconst 3, 1) ∧ am_dw (ByteArray.mk lb_L_law_1120.toArray) 1120 1132 = .ok (.iadd, 1) ∧ am_dw (ByteArray.mk lb_L_law_1120.toArray) 1120 1133 = .ok (.iaload, 1) ∧ am_dw (ByteArray.mk lb_L_law_1120.toArray) 1120 1134 = .ok (.invokevirtual 136, 3) ∧ am_dw (ByteArray.mk lb_L_law_1120.toArray) 1120 1137 = .ok (.pop, 1) := by decide +kernel
theorem dd_L_law_1120c : am_dw (ByteArray.mk lb_L_law_1120.toArray) 1120 1138 = .ok (.goto 299, 3) ∧ am_dw (ByteArray.mk lb_L_law_1120.toArray) 1120 1141 = .ok (.aload_n 1, 1) ∧ am_dw (ByteArray.mk lb_L_law_1120.toArray) 1120 1142 = .ok (.aload_n 0, 1) ∧ am_dw (ByteArray.mk lb_L_law_1120.toArray) 1120 1143 = .ok (.iload_n 3, 1) ∧ am_dw (ByteArray.mk lb_L_law_1120.toArray) 1120 1144 = .ok (.iconst 1, 1) ∧ am_dw (ByteArray.mk lb_L_law_1120.toArray) 1120 1145 = .ok (.iadd, 1) ∧ am_dw (ByteArray.mk lb_L_law_1120.toArray) 1120 1146 = .ok (.iaload, 1) ∧ am_dw (ByteArray.mk lb_L_law_1120.toArray) 1120 1147 = .ok (.invokevirtual 137, 3) := by decide +kernel
theorem dd_L_law_1120d : am_dw (ByteArray.mk lb_L_law_1120.toArray) 1120 1150 = .ok (.pop, 1) ∧ am_dw (ByteArray.mk lb_L_law_1120.toArray) 1120 1151 = .ok (.aload_n 2, 1) := by decide +kernel
noncomputable def lb_L_law_1152 : List UInt8 := [0x2a, 0x1d, 0x04, 0x60, 0x2e, 0xb6, 0x00, 0x8c, 0x57, 0xa7, 0x01, 0x14, 0x2b, 0x2a, 0x1d, 0x04, 0x60, 0x2e, 0xb6, 0x00, 0x8d, 0x57, 0x2c, 0x2a, 0x1d, 0x04, 0x60, 0x2e, 0xb6, 0x00, 0x90, 0x57, 0xa7, 0x00, 0xfd, 0x2b]
theorem pw_L_law_1152 : am_Pw code (ByteArray.mk lb_L_law_1152.toArray) 1152 := am_pw lb_L_law_1152 rfl (by decide) rfl (by decide +kernel)
theorem dd_L_law_1152a : am_dw (ByteArray.mk lb_L_law_1152.toArray) 1152 1152 = .ok (.aload_n 0, 1) ∧ am_dw (ByteArray.mk lb_L_law_1152.toArray) 1152 1153 = .ok (.iload_n 3, 1) ∧ am_dw (ByteArray.mk lb_L_law_1152.toArray) 1152 1154 = .ok (.iconst 1, 1) ∧ am_dw (ByteArray.mk lb_L_law_1152.toArray) 1152 1155 = .ok (.iadd, 1) ∧ am_dw (ByteArray.mk lb_L_law_1152.toArray) 1152 1156 = .ok (.iaload, 1) ∧ am_dw (ByteArray.mk lb_L_law_1152.toArray) 1152 1157 = .ok (.invokevirtual 140, 3) ∧ am_dw (ByteArray.mk lb_L_law_1152.toArray) 1152 1160 = .ok (.pop, 1) ∧ am_dw (ByteArray.mk lb_L_law_1152.toArray) 1152 1161 = .ok (.goto 276, 3) := by decide +kernel
theorem dd_L_law_1152b : am_dw (ByteArray.mk lb_L_law_1152.toArray) 1152 1164 = .ok (.aload_n 1, 1) ∧ am_dw (ByteArray.mk lb_L_law_1152.toArray) 1152 1165 = .ok (.aload_n 0, 1) ∧ am_dw (ByteArray.mk lb_L_law_1152.toArray) 1152 1166 = .ok (.iload_n 3, 1) ∧ am_dw (ByteArray.mk lb_L_law_1152.toArray) 1152 1167 = .ok (.iconst 1, 1) ∧ am_dw (ByteArray.mk lb_L_law_1152.toArray) 1152 1168 = .ok (.iadd, 1) ∧ am_dw (ByteArray.mk lb_L_law_1152.toArray) 1152 1169 = .ok (.iaload, 1) ∧ am_dw (ByteArray.mk lb_L_law_1152.toArray) 1152 1170 = .ok (.invokevirtual 141, 3) ∧ am_dw (ByteArray.mk lb_L_law_1152.toArray) 1152 1173 = .ok (.pop, 1) := by decide +kernel
theorem dd_L_law_1152c : am_dw (ByteArray.mk lb_L_law_1152.toArray) 1152 1174 = .ok (.aload_n 2, 1) ∧ am_dw (ByteArray.mk lb_L_law_1152.toArray) 1152 1175 = .ok (.aload_n 0, 1) ∧ am_dw (ByteArray.mk lb_L_law_1152.toArray) 1152 1176 = .ok (.iload_n 3, 1) ∧ am_dw (ByteArray.mk lb_L_law_1152.toArray) 1152 1177 = .ok (.iconst 1, 1) ∧ am_dw (ByteArray.mk lb_L_law_1152.toArray) 1152 1178 = .ok (.iadd, 1) ∧ am_dw (ByteArray.mk lb_L_law_1152.toArray) 1152 1179 = .ok (.iaload, 1) ∧ am_dw (ByteArray.mk lb_L_law_1152.toArray) 1152 1180 = .ok (.invokevirtual 144, 3) ∧ am_dw (ByteArray.mk lb_L_law_1152.toArray) 1152 1183 = .ok (.pop, 1) := by decide +kernel
noncomputable def lb_L_law_1184 : List UInt8 := [0xa7, 0x00, 0xfd, 0x2b, 0xb6, 0x00, 0x91, 0x57, 0x2c, 0xb6, 0x00, 0x94, 0x57, 0xa7, 0x00, 0xf0, 0x2b, 0x2a, 0x1d, 0x04, 0x60, 0x2e, 0x2a, 0x1d, 0x05, 0x60, 0x2e, 0x2a, 0x1d, 0x06, 0x60, 0x2e, 0x2a, 0x1d, 0x07, 0x60]
theorem pw_L_law_1184 : am_Pw code (ByteArray.mk lb_L_law_1184.toArray) 1184 := am_pw lb_L_law_1184 rfl (by decide) rfl (by decide +kernel)
theorem dd_L_law_1184a : am_dw (ByteArray.mk lb_L_law_1184.toArray) 1184 1184 = .ok (.goto 253, 3) ∧ am_dw (ByteArray.mk lb_L_law_1184.toArray) 1184 1187 = .ok (.aload_n 1, 1) ∧ am_dw (ByteArray.mk lb_L_law_1184.toArray) 1184 1188 = .ok (.invokevirtual 145, 3) ∧ am_dw (ByteArray.mk lb_L_law_1184.toArray) 1184 1191 = .ok (.pop, 1) ∧ am_dw (ByteArray.mk lb_L_law_1184.toArray) 1184 1192 = .ok (.aload_n 2, 1) ∧ am_dw (ByteArray.mk lb_L_law_1184.toArray) 1184 1193 = .ok (.invokevirtual 148, 3) ∧ am_dw (ByteArray.mk lb_L_law_1184.toArray) 1184 1196 = .ok (.pop, 1) ∧ am_dw (ByteArray.mk lb_L_law_1184.toArray) 1184 1197 = .ok (.goto 240, 3) := by decide +kernel
theorem dd_L_law_1184b : am_dw (ByteArray.mk lb_L_law_1184.toArray) 1184 1200 = .ok (.aload_n 1, 1) ∧ am_dw (ByteArray.mk lb_L_law_1184.toArray) 1184 1201 = .ok (.aload_n 0, 1) ∧ am_dw (ByteArray.mk lb_L_law_1184.toArray) 1184 1202 = .ok (.iload_n 3, 1) ∧ am_dw (ByteArray.mk lb_L_law_1184.toArray) 1184 1203 = .ok (.iconst 1, 1) ∧ am_dw (ByteArray.mk lb_L_law_1184.toArray) 1184 1204 = .ok (.iadd, 1) ∧ am_dw (ByteArray.mk lb_L_law_1184.toArray) 1184 1205 = .ok (.iaload, 1) ∧ am_dw (ByteArray.mk lb_L_law_1184.toArray) 1184 1206 = .ok (.aload_n 0, 1) ∧ am_dw (ByteArray.mk lb_L_law_1184.toArray) 1184 1207 = .ok (.iload_n 3, 1) := by decide +kernel
theorem dd_L_law_1184c : am_dw (ByteArray.mk lb_L_law_1184.toArray) 1184 1208 = .ok (.iconst 2, 1) ∧ am_dw (ByteArray.mk lb_L_law_1184.toArray) 1184 1209 = .ok (.iadd, 1) ∧ am_dw (ByteArray.mk lb_L_law_1184.toArray) 1184 1210 = .ok (.iaload, 1) ∧ am_dw (ByteArray.mk lb_L_law_1184.toArray) 1184 1211 = .ok (.aload_n 0, 1) ∧ am_dw (ByteArray.mk lb_L_law_1184.toArray) 1184 1212 = .ok (.iload_n 3, 1) ∧ am_dw (ByteArray.mk lb_L_law_1184.toArray) 1184 1213 = .ok (.iconst 3, 1) ∧ am_dw (ByteArray.mk lb_L_law_1184.toArray) 1184 1214 = .ok (.iadd, 1) ∧ am_dw (ByteArray.mk lb_L_law_1184.toArray) 1184 1215 = .ok (.iaload, 1) := by decide +kernel
noncomputable def lb_L_law_1216 : List UInt8 := [0x2a, 0x1d, 0x07, 0x60, 0x2e, 0x2a, 0x1d, 0x08, 0x60, 0x2e, 0x99, 0x00, 0x07, 0x04, 0xa7, 0x00, 0x04, 0x03, 0xb6, 0x00, 0x95, 0x57, 0x2c, 0x2a, 0x1d, 0x04, 0x60, 0x2e, 0x2a, 0x1d, 0x05, 0x60, 0x2e, 0x2a, 0x1d, 0x06]
theorem pw_L_law_1216 : am_Pw code (ByteArray.mk lb_L_law_1216.toArray) 1216 := am_pw lb_L_law_1216 rfl (by decide) rfl (by decide +kernel)
theorem dd_L_law_1216a : am_dw (ByteArray.mk lb_L_law_1216.toArray) 1216 1216 = .ok (.aload_n 0, 1) ∧ am_dw (ByteArray.mk lb_L_law_1216.toArray) 1216 1217 = .ok (.iload_n 3, 1) ∧ am_dw (ByteArray.mk lb_L_law_1216.toArray) 1216 1218 = .ok (.iconst 4, 1) ∧ am_dw (ByteArray.mk lb_L_law_1216.toArray) 1216 1219 = .ok (.iadd, 1) ∧ am_dw (ByteArray.mk lb_L_law_1216.toArray) 1216 1220 = .ok (.iaload, 1) ∧ am_dw (ByteArray.mk lb_L_law_1216.toArray) 1216 1221 = .ok (.aload_n 0, 1) ∧ am_dw (ByteArray.mk lb_L_law_1216.toArray) 1216 1222 = .ok (.iload_n 3, 1) ∧ am_dw (ByteArray.mk lb_L_law_1216.toArray) 1216 1223 = .ok (.iconst 5, 1) := by decide +kernel
theorem dd_L_law_1216b : am_dw (ByteArray.mk lb_L_law_1216.toArray) 1216 1224 = .ok (.iadd, 1) ∧ am_dw (ByteArray.mk lb_L_law_1216.toArray) 1216 1225 = .ok (.iaload, 1) ∧ am_dw (ByteArray.mk lb_L_law_1216.toArray) 1216 1226 = .ok (.ifCond .eq 7, 3) ∧ am_dw (ByteArray.mk lb_L_law_1216.toArray) 1216 1229 = .ok (.iconst 1, 1) ∧ am_dw (ByteArray.mk lb_L_law_1216.toArray) 1216 1230 = .ok (.goto 4, 3) ∧ am_dw (ByteArray.mk lb_L_law_1216.toArray) 1216 1233 = .ok (.iconst 0, 1) ∧ am_dw (ByteArray.mk lb_L_law_1216.toArray) 1216 1234 = .ok (.invokevirtual 149, 3) ∧ am_dw (ByteArray.mk lb_L_law_1216.toArray) 1216 1237 = .ok (.pop, 1) := by decide +kernel
theorem dd_L_law_1216c : am_dw (ByteArray.mk lb_L_law_1216.toArray) 1216 1238 = .ok (.aload_n 2, 1) ∧ am_dw (ByteArray.mk lb_L_law_1216.toArray) 1216 1239 = .ok (.aload_n 0, 1) ∧ am_dw (ByteArray.mk lb_L_law_1216.toArray) 1216 1240 = .ok (.iload_n 3, 1) ∧ am_dw (ByteArray.mk lb_L_law_1216.toArray) 1216 1241 = .ok (.iconst 1, 1) ∧ am_dw (ByteArray.mk lb_L_law_1216.toArray) 1216 1242 = .ok (.iadd, 1) ∧ am_dw (ByteArray.mk lb_L_law_1216.toArray) 1216 1243 = .ok (.iaload, 1) ∧ am_dw (ByteArray.mk lb_L_law_1216.toArray) 1216 1244 = .ok (.aload_n 0, 1) ∧ am_dw (ByteArray.mk lb_L_law_1216.toArray) 1216 1245 = .ok (.iload_n 3, 1) := by decide +kernel
theorem dd_L_law_1216d : am_dw (ByteArray.mk lb_L_law_1216.toArray) 1216 1246 = .ok (.iconst 2, 1) ∧ am_dw (ByteArray.mk lb_L_law_1216.toArray) 1216 1247 = .ok (.iadd, 1) := by decide +kernel
noncomputable def lb_L_law_1248 : List UInt8 := [0x2e, 0x2a, 0x1d, 0x06, 0x60, 0x2e, 0x2a, 0x1d, 0x07, 0x60, 0x2e, 0x2a, 0x1d, 0x08, 0x60, 0x2e, 0x99, 0x00, 0x07, 0x04, 0xa7, 0x00, 0x04, 0x03, 0xb6, 0x00, 0x99, 0x57, 0xa7, 0x00, 0xa1, 0x2b, 0x2a, 0x1d, 0x04, 0x60]
theorem pw_L_law_1248 : am_Pw code (ByteArray.mk lb_L_law_1248.toArray) 1248 := am_pw lb_L_law_1248 rfl (by decide) rfl (by decide +kernel)
theorem dd_L_law_1248a : am_dw (ByteArray.mk lb_L_law_1248.toArray) 1248 1248 = .ok (.iaload, 1) ∧ am_dw (ByteArray.mk lb_L_law_1248.toArray) 1248 1249 = .ok (.aload_n 0, 1) ∧ am_dw (ByteArray.mk lb_L_law_1248.toArray) 1248 1250 = .ok (.iload_n 3, 1) ∧ am_dw (ByteArray.mk lb_L_law_1248.toArray) 1248 1251 = .ok (.iconst 3, 1) ∧ am_dw (ByteArray.mk lb_L_law_1248.toArray) 1248 1252 = .ok (.iadd, 1) ∧ am_dw (ByteArray.mk lb_L_law_1248.toArray) 1248 1253 = .ok (.iaload, 1) ∧ am_dw (ByteArray.mk lb_L_law_1248.toArray) 1248 1254 = .ok (.aload_n 0, 1) ∧ am_dw (ByteArray.mk lb_L_law_1248.toArray) 1248 1255 = .ok (.iload_n 3, 1) := by decide +kernel
theorem dd_L_law_1248b : am_dw (ByteArray.mk lb_L_law_1248.toArray) 1248 1256 = .ok (.iconst 4, 1) ∧ am_dw (ByteArray.mk lb_L_law_1248.toArray) 1248 1257 = .ok (.iadd, 1) ∧ am_dw (ByteArray.mk lb_L_law_1248.toArray) 1248 1258 = .ok (.iaload, 1) ∧ am_dw (ByteArray.mk lb_L_law_1248.toArray) 1248 1259 = .ok (.aload_n 0, 1) ∧ am_dw (ByteArray.mk lb_L_law_1248.toArray) 1248 1260 = .ok (.iload_n 3, 1) ∧ am_dw (ByteArray.mk lb_L_law_1248.toArray) 1248 1261 = .ok (.iconst 5, 1) ∧ am_dw (ByteArray.mk lb_L_law_1248.toArray) 1248 1262 = .ok (.iadd, 1) ∧ am_dw (ByteArray.mk lb_L_law_1248.toArray) 1248 1263 = .ok (.iaload, 1) := by decide +kernel
theorem dd_L_law_1248c : am_dw (ByteArray.mk lb_L_law_1248.toArray) 1248 1264 = .ok (.ifCond .eq 7, 3) ∧ am_dw (ByteArray.mk lb_L_law_1248.toArray) 1248 1267 = .ok (.iconst 1, 1) ∧ am_dw (ByteArray.mk lb_L_law_1248.toArray) 1248 1268 = .ok (.goto 4, 3) ∧ am_dw (ByteArray.mk lb_L_law_1248.toArray) 1248 1271 = .ok (.iconst 0, 1) ∧ am_dw (ByteArray.mk lb_L_law_1248.toArray) 1248 1272 = .ok (.invokevirtual 153, 3) ∧ am_dw (ByteArray.mk lb_L_law_1248.toArray) 1248 1275 = .ok (.pop, 1) ∧ am_dw (ByteArray.mk lb_L_law_1248.toArray) 1248 1276 = .ok (.goto 161, 3) ∧ am_dw (ByteArray.mk lb_L_law_1248.toArray) 1248 1279 = .ok (.aload_n 1, 1) := by decide +kernel
noncomputable def lb_L_law_1280 : List UInt8 := [0x2a, 0x1d, 0x04, 0x60, 0x2e, 0x2a, 0x1d, 0x05, 0x60, 0x2e, 0xb6, 0x00, 0x9a, 0x57, 0x2c, 0x2a, 0x1d, 0x04, 0x60, 0x2e, 0x2a, 0x1d, 0x05, 0x60, 0x2e, 0xb6, 0x00, 0x9d, 0x57, 0xa7, 0x00, 0x80, 0x2b, 0x2a, 0x1d, 0x04]
theorem pw_L_law_1280 : am_Pw code (ByteArray.mk lb_L_law_1280.toArray) 1280 := am_pw lb_L_law_1280 rfl (by decide) rfl (by decide +kernel)
theorem dd_L_law_1280a : am_dw (ByteArray.mk lb_L_law_1280.toArray) 1280 1280 = .ok (.aload_n 0, 1) ∧ am_dw (ByteArray.mk lb_L_law_1280.toArray) 1280 1281 = .ok (.iload_n 3, 1) ∧ am_dw (ByteArray.mk lb_L_law_1280.toArray) 1280 1282 = .ok (.iconst 1, 1) ∧ am_dw (ByteArray.mk lb_L_law_1280.toArray) 1280 1283 = .ok (.iadd, 1) ∧ am_dw (ByteArray.mk lb_L_law_1280.toArray) 1280 1284 = .ok (.iaload, 1) ∧ am_dw (ByteArray.mk lb_L_law_1280.toArray) 1280 1285 = .ok (.aload_n 0, 1) ∧ am_dw (ByteArray.mk lb_L_law_1280.toArray) 1280 1286 = .ok (.iload_n 3, 1) ∧ am_dw (ByteArray.mk lb_L_law_1280.toArray) 1280 1287 = .ok (.iconst 2, 1) := by decide +kernel
theorem dd_L_law_1280b : am_dw (ByteArray.mk lb_L_law_1280.toArray) 1280 1288 = .ok (.iadd, 1) ∧ am_dw (ByteArray.mk lb_L_law_1280.toArray) 1280 1289 = .ok (.iaload, 1) ∧ am_dw (ByteArray.mk lb_L_law_1280.toArray) 1280 1290 = .ok (.invokevirtual 154, 3) ∧ am_dw (ByteArray.mk lb_L_law_1280.toArray) 1280 1293 = .ok (.pop, 1) ∧ am_dw (ByteArray.mk lb_L_law_1280.toArray) 1280 1294 = .ok (.aload_n 2, 1) ∧ am_dw (ByteArray.mk lb_L_law_1280.toArray) 1280 1295 = .ok (.aload_n 0, 1) ∧ am_dw (ByteArray.mk lb_L_law_1280.toArray) 1280 1296 = .ok (.iload_n 3, 1) ∧ am_dw (ByteArray.mk lb_L_law_1280.toArray) 1280 1297 = .ok (.iconst 1, 1) := by decide +kernel
theorem dd_L_law_1280c : am_dw (ByteArray.mk lb_L_law_1280.toArray) 1280 1298 = .ok (.iadd, 1) ∧ am_dw (ByteArray.mk lb_L_law_1280.toArray) 1280 1299 = .ok (.iaload, 1) ∧ am_dw (ByteArray.mk lb_L_law_1280.toArray) 1280 1300 = .ok (.aload_n 0, 1) ∧ am_dw (ByteArray.mk lb_L_law_1280.toArray) 1280 1301 = .ok (.iload_n 3, 1) ∧ am_dw (ByteArray.mk lb_L_law_1280.toArray) 1280 1302 = .ok (.iconst 2, 1) ∧ am_dw (ByteArray.mk lb_L_law_1280.toArray) 1280 1303 = .ok (.iadd, 1) ∧ am_dw (ByteArray.mk lb_L_law_1280.toArray) 1280 1304 = .ok (.iaload, 1) ∧ am_dw (ByteArray.mk lb_L_law_1280.toArray) 1280 1305 = .ok (.invokevirtual 157, 3) := by decide +kernel
theorem dd_L_law_1280d : am_dw (ByteArray.mk lb_L_law_1280.toArray) 1280 1308 = .ok (.pop, 1) ∧ am_dw (ByteArray.mk lb_L_law_1280.toArray) 1280 1309 = .ok (.goto 128, 3) := by decide +kernel
noncomputable def lb_L_law_1312 : List UInt8 := [0x2b, 0x2a, 0x1d, 0x04, 0x60, 0x2e, 0x2a, 0x1d, 0x05, 0x60, 0x2e, 0x2a, 0x1d, 0x06, 0x60, 0x2e, 0x2a, 0x1d, 0x07, 0x60, 0x2e, 0xb6, 0x00, 0x9e, 0x57, 0x2c, 0x2a, 0x1d, 0x04, 0x60, 0x2e, 0x2a, 0x1d, 0x05, 0x60, 0x2e]
theorem pw_L_law_1312 : am_Pw code (ByteArray.mk lb_L_law_1312.toArray) 1312 := am_pw lb_L_law_1312 rfl (by decide) rfl (by decide +kernel)
theorem dd_L_law_1312a : am_dw (ByteArray.mk lb_L_law_1312.toArray) 1312 1312 = .ok (.aload_n 1, 1) ∧ am_dw (ByteArray.mk lb_L_law_1312.toArray) 1312 1313 = .ok (.aload_n 0, 1) ∧ am_dw (ByteArray.mk lb_L_law_1312.toArray) 1312 1314 = .ok (.iload_n 3, 1) ∧ am_dw (ByteArray.mk lb_L_law_1312.toArray) 1312 1315 = .ok (.iconst 1, 1) ∧ am_dw (ByteArray.mk lb_L_law_1312.toArray) 1312 1316 = .ok (.iadd, 1) ∧ am_dw (ByteArray.mk lb_L_law_1312.toArray) 1312 1317 = .ok (.iaload, 1) ∧ am_dw (ByteArray.mk lb_L_law_1312.toArray) 1312 1318 = .ok (.aload_n 0, 1) ∧ am_dw (ByteArray.mk lb_L_law_1312.toArray) 1312 1319 = .ok (.iload_n 3, 1) := by decide +kernel
theorem dd_L_law_1312b : am_dw (ByteArray.mk lb_L_law_1312.toArray) 1312 1320 = .ok (.iconst 2, 1) ∧ am_dw (ByteArray.mk lb_L_law_1312.toArray) 1312 1321 = .ok (.iadd, 1) ∧ am_dw (ByteArray.mk lb_L_law_1312.toArray) 1312 1322 = .ok (.iaload, 1) ∧ am_dw (ByteArray.mk lb_L_law_1312.toArray) 1312 1323 = .ok (.aload_n 0, 1) ∧ am_dw (ByteArray.mk lb_L_law_1312.toArray) 1312 1324 = .ok (.iload_n 3, 1) ∧ am_dw (ByteArray.mk lb_L_law_1312.toArray) 1312 1325 = .ok (.iconst 3, 1) ∧ am_dw (ByteArray.mk lb_L_law_1312.toArray) 1312 1326 = .ok (.iadd, 1) ∧ am_dw (ByteArray.mk lb_L_law_1312.toArray) 1312 1327 = .ok (.iaload, 1) := by decide +kernel
theorem dd_L_law_1312c : am_dw (ByteArray.mk lb_L_law_1312.toArray) 1312 1328 = .ok (.aload_n 0, 1) ∧ am_dw (ByteArray.mk lb_L_law_1312.toArray) 1312 1329 = .ok (.iload_n 3, 1) ∧ am_dw (ByteArray.mk lb_L_law_1312.toArray) 1312 1330 = .ok (.iconst 4, 1) ∧ am_dw (ByteArray.mk lb_L_law_1312.toArray) 1312 1331 = .ok (.iadd, 1) ∧ am_dw (ByteArray.mk lb_L_law_1312.toArray) 1312 1332 = .ok (.iaload, 1) ∧ am_dw (ByteArray.mk lb_L_law_1312.toArray) 1312 1333 = .ok (.invokevirtual 158, 3) ∧ am_dw (ByteArray.mk lb_L_law_1312.toArray) 1312 1336 = .ok (.pop, 1) ∧ am_dw (ByteArray.mk lb_L_law_1312.toArray) 1312 1337 = .ok (.aload_n 2, 1) := by decide +kernel
theorem dd_L_law_1312d : am_dw (ByteArray.mk lb_L_law_1312.toArray) 1312 1338 = .ok (.aload_n 0, 1) ∧ am_dw (ByteArray.mk lb_L_law_1312.toArray) 1312 1339 = .ok (.iload_n 3, 1) ∧ am_dw (ByteArray.mk lb_L_law_1312.toArray) 1312 1340 = .ok (.iconst 1, 1) ∧ am_dw (ByteArray.mk lb_L_law_1312.toArray) 1312 1341 = .ok (.iadd, 1) ∧ am_dw (ByteArray.mk lb_L_law_1312.toArray) 1312 1342 = .ok (.iaload, 1) ∧ am_dw (ByteArray.mk lb_L_law_1312.toArray) 1312 1343 = .ok (.aload_n 0, 1) := by decide +kernel
noncomputable def lb_L_law_1344 : List UInt8 := [0x1d, 0x05, 0x60, 0x2e, 0x2a, 0x1d, 0x06, 0x60, 0x2e, 0x2a, 0x1d, 0x07, 0x60, 0x2e, 0xb6, 0x00, 0xa1, 0x57, 0xa7, 0x00, 0x4b, 0x2b, 0xb6, 0x00, 0xa2, 0x57, 0x2c, 0xb6, 0x00, 0xa5, 0x57, 0xa7, 0x00, 0x3e, 0x2b, 0x2a]
theorem pw_L_law_1344 : am_Pw code (ByteArray.mk lb_L_law_1344.toArray) 1344 := am_pw lb_L_law_1344 rfl (by decide) rfl (by decide +kernel)
theorem dd_L_law_1344a : am_dw (ByteArray.mk lb_L_law_1344.toArray) 1344 1344 = .ok (.iload_n 3, 1) ∧ am_dw (ByteArray.mk lb_L_law_1344.toArray) 1344 1345 = .ok (.iconst 2, 1) ∧ am_dw (ByteArray.mk lb_L_law_1344.toArray) 1344 1346 = .ok (.iadd, 1) ∧ am_dw (ByteArray.mk lb_L_law_1344.toArray) 1344 1347 = .ok (.iaload, 1) ∧ am_dw (ByteArray.mk lb_L_law_1344.toArray) 1344 1348 = .ok (.aload_n 0, 1) ∧ am_dw (ByteArray.mk lb_L_law_1344.toArray) 1344 1349 = .ok (.iload_n 3, 1) ∧ am_dw (ByteArray.mk lb_L_law_1344.toArray) 1344 1350 = .ok (.iconst 3, 1) ∧ am_dw (ByteArray.mk lb_L_law_1344.toArray) 1344 1351 = .ok (.iadd, 1) := by decide +kernel
theorem dd_L_law_1344b : am_dw (ByteArray.mk lb_L_law_1344.toArray) 1344 1352 = .ok (.iaload, 1) ∧ am_dw (ByteArray.mk lb_L_law_1344.toArray) 1344 1353 = .ok (.aload_n 0, 1) ∧ am_dw (ByteArray.mk lb_L_law_1344.toArray) 1344 1354 = .ok (.iload_n 3, 1) ∧ am_dw (ByteArray.mk lb_L_law_1344.toArray) 1344 1355 = .ok (.iconst 4, 1) ∧ am_dw (ByteArray.mk lb_L_law_1344.toArray) 1344 1356 = .ok (.iadd, 1) ∧ am_dw (ByteArray.mk lb_L_law_1344.toArray) 1344 1357 = .ok (.iaload, 1) ∧ am_dw (ByteArray.mk lb_L_law_1344.toArray) 1344 1358 = .ok (.invokevirtual 161, 3) ∧ am_dw (ByteArray.mk lb_L_law_1344.toArray) 1344 1361 = .ok (.pop, 1) := by decide +kernel
theorem dd_L_law_1344c : am_dw (ByteArray.mk lb_L_law_1344.toArray) 1344 1362 = .ok (.goto 75, 3) ∧ am_dw (ByteArray.mk lb_L_law_1344.toArray) 1344 1365 = .ok (.aload_n 1, 1) ∧ am_dw (ByteArray.mk lb_L_law_1344.toArray) 1344 1366 = .ok (.invokevirtual 162, 3) ∧ am_dw (ByteArray.mk lb_L_law_1344.toArray) 1344 1369 = .ok (.pop, 1) ∧ am_dw (ByteArray.mk lb_L_law_1344.toArray) 1344 1370 = .ok (.aload_n 2, 1) ∧ am_dw (ByteArray.mk lb_L_law_1344.toArray) 1344 1371 = .ok (.invokevirtual 165, 3) ∧ am_dw (ByteArray.mk lb_L_law_1344.toArray) 1344 1374 = .ok (.pop, 1) ∧ am_dw (ByteArray.mk lb_L_law_1344.toArray) 1344 1375 = .ok (.goto 62, 3) := by decide +kernel
noncomputable def lb_L_law_1376 : List UInt8 := [0x00, 0x3e, 0x2b, 0x2a, 0x1d, 0x04, 0x60, 0x2e, 0xb6, 0x00, 0xa6, 0x57, 0x2c, 0x2a, 0x1d, 0x04, 0x60, 0x2e, 0xb6, 0x00, 0xa9, 0x57, 0xa7, 0x00, 0x27, 0x2b, 0xb6, 0x00, 0xaa, 0x57, 0x2c, 0xb6, 0x00, 0xae, 0x57, 0xa7]
theorem pw_L_law_1376 : am_Pw code (ByteArray.mk lb_L_law_1376.toArray) 1376 := am_pw lb_L_law_1376 rfl (by decide) rfl (by decide +kernel)
theorem dd_L_law_1376a : am_dw (ByteArray.mk lb_L_law_1376.toArray) 1376 1378 = .ok (.aload_n 1, 1) ∧ am_dw (ByteArray.mk lb_L_law_1376.toArray) 1376 1379 = .ok (.aload_n 0, 1) ∧ am_dw (ByteArray.mk lb_L_law_1376.toArray) 1376 1380 = .ok (.iload_n 3, 1) ∧ am_dw (ByteArray.mk lb_L_law_1376.toArray) 1376 1381 = .ok (.iconst 1, 1) ∧ am_dw (ByteArray.mk lb_L_law_1376.toArray) 1376 1382 = .ok (.iadd, 1) ∧ am_dw (ByteArray.mk lb_L_law_1376.toArray) 1376 1383 = .ok (.iaload, 1) ∧ am_dw (ByteArray.mk lb_L_law_1376.toArray) 1376 1384 = .ok (.invokevirtual 166, 3) ∧ am_dw (ByteArray.mk lb_L_law_1376.toArray) 1376 1387 = .ok (.pop, 1) := by decide +kernel
theorem dd_L_law_1376b : am_dw (ByteArray.mk lb_L_law_1376.toArray) 1376 1388 = .ok (.aload_n 2, 1) ∧ am_dw (ByteArray.mk lb_L_law_1376.toArray) 1376 1389 = .ok (.aload_n 0, 1) ∧ am_dw (ByteArray.mk lb_L_law_1376.toArray) 1376 1390 = .ok (.iload_n 3, 1) ∧ am_dw (ByteArray.mk lb_L_law_1376.toArray) 1376 1391 = .ok (.iconst 1, 1) ∧ am_dw (ByteArray.mk lb_L_law_1376.toArray) 1376 1392 = .ok (.iadd, 1) ∧ am_dw (ByteArray.mk lb_L_law_1376.toArray) 1376 1393 = .ok (.iaload, 1) ∧ am_dw (ByteArray.mk lb_L_law_1376.toArray) 1376 1394 = .ok (.invokevirtual 169, 3) ∧ am_dw (ByteArray.mk lb_L_law_1376.toArray) 1376 1397 = .ok (.pop, 1) := by decide +kernel
theorem dd_L_law_1376c : am_dw (ByteArray.mk lb_L_law_1376.toArray) 1376 1398 = .ok (.goto 39, 3) ∧ am_dw (ByteArray.mk lb_L_law_1376.toArray) 1376 1401 = .ok (.aload_n 1, 1) ∧ am_dw (ByteArray.mk lb_L_law_1376.toArray) 1376 1402 = .ok (.invokevirtual 170, 3) ∧ am_dw (ByteArray.mk lb_L_law_1376.toArray) 1376 1405 = .ok (.pop, 1) ∧ am_dw (ByteArray.mk lb_L_law_1376.toArray) 1376 1406 = .ok (.aload_n 2, 1) ∧ am_dw (ByteArray.mk lb_L_law_1376.toArray) 1376 1407 = .ok (.invokevirtual 174, 3) := by decide +kernel
noncomputable def lb_L_law_1408 : List UInt8 := [0x00, 0xae, 0x57, 0xa7, 0x00, 0x1a, 0x2b, 0x2a, 0x1d, 0x04, 0x60, 0x2e, 0xb6, 0x00, 0xaf, 0x57, 0x2c, 0x2a, 0x1d, 0x04, 0x60, 0x2e, 0xb6, 0x00, 0xb2, 0x57, 0xa7, 0x00, 0x03, 0x84, 0x03, 0x06, 0xa7, 0xfa, 0x72, 0x04]
theorem pw_L_law_1408 : am_Pw code (ByteArray.mk lb_L_law_1408.toArray) 1408 := am_pw lb_L_law_1408 rfl (by decide) rfl (by decide +kernel)
theorem dd_L_law_1408a : am_dw (ByteArray.mk lb_L_law_1408.toArray) 1408 1410 = .ok (.pop, 1) ∧ am_dw (ByteArray.mk lb_L_law_1408.toArray) 1408 1411 = .ok (.goto 26, 3) ∧ am_dw (ByteArray.mk lb_L_law_1408.toArray) 1408 1414 = .ok (.aload_n 1, 1) ∧ am_dw (ByteArray.mk lb_L_law_1408.toArray) 1408 1415 = .ok (.aload_n 0, 1) ∧ am_dw (ByteArray.mk lb_L_law_1408.toArray) 1408 1416 = .ok (.iload_n 3, 1) ∧ am_dw (ByteArray.mk lb_L_law_1408.toArray) 1408 1417 = .ok (.iconst 1, 1) ∧ am_dw (ByteArray.mk lb_L_law_1408.toArray) 1408 1418 = .ok (.iadd, 1) ∧ am_dw (ByteArray.mk lb_L_law_1408.toArray) 1408 1419 = .ok (.iaload, 1) := by decide +kernel
theorem dd_L_law_1408b : am_dw (ByteArray.mk lb_L_law_1408.toArray) 1408 1420 = .ok (.invokevirtual 175, 3) ∧ am_dw (ByteArray.mk lb_L_law_1408.toArray) 1408 1423 = .ok (.pop, 1) ∧ am_dw (ByteArray.mk lb_L_law_1408.toArray) 1408 1424 = .ok (.aload_n 2, 1) ∧ am_dw (ByteArray.mk lb_L_law_1408.toArray) 1408 1425 = .ok (.aload_n 0, 1) ∧ am_dw (ByteArray.mk lb_L_law_1408.toArray) 1408 1426 = .ok (.iload_n 3, 1) ∧ am_dw (ByteArray.mk lb_L_law_1408.toArray) 1408 1427 = .ok (.iconst 1, 1) ∧ am_dw (ByteArray.mk lb_L_law_1408.toArray) 1408 1428 = .ok (.iadd, 1) ∧ am_dw (ByteArray.mk lb_L_law_1408.toArray) 1408 1429 = .ok (.iaload, 1) := by decide +kernel
theorem dd_L_law_1408c : am_dw (ByteArray.mk lb_L_law_1408.toArray) 1408 1430 = .ok (.invokevirtual 178, 3) ∧ am_dw (ByteArray.mk lb_L_law_1408.toArray) 1408 1433 = .ok (.pop, 1) ∧ am_dw (ByteArray.mk lb_L_law_1408.toArray) 1408 1434 = .ok (.goto 3, 3) ∧ am_dw (ByteArray.mk lb_L_law_1408.toArray) 1408 1437 = .ok (.iinc 3 6, 3) := by decide +kernel
noncomputable def lb_L_law_1440 : List UInt8 := [0xa7, 0xfa, 0x72, 0x04, 0xac]
theorem pw_L_law_1440 : am_Pw code (ByteArray.mk lb_L_law_1440.toArray) 1440 := am_pw lb_L_law_1440 rfl (by decide) rfl (by decide +kernel)
theorem dd_L_law_1440a : am_dw (ByteArray.mk lb_L_law_1440.toArray) 1440 1440 = .ok (.goto (-1422), 3) ∧ am_dw (ByteArray.mk lb_L_law_1440.toArray) 1440 1443 = .ok (.iconst 1, 1) ∧ am_dw (ByteArray.mk lb_L_law_1440.toArray) 1440 1444 = .ok (.ireturn, 1) := by decide +kernel
section
variable {G : am_G} {p : Program} {l : Launch} {e : Env} {R : Room} {s : State} {m : MethodId} {args : Array Value} {below : List Frame} {meth : Method} {c : Code} {nm : String} {L : Nat} {xs : Nat → Int32}
theorem snL_0 (hC : am_Cx G RL code 4 (some .boolean) nm p s m args meth c) (hX : va_X (G.2.1.1 0) L xs s s.heap) (hb : G.2.1.1 0 < G.1) : ∀ q ∈ tL_0 xs L, am_SndF am_P0 G 4 p l e R s m args below meth c q.1 q.2 := by
  unfold tL_0
  refine List.forall_mem_cons.mpr ⟨am_Snd.toF ((s_new (ci := 10) (am_dp pw_L_law_0 dd_L_law_0a.1) rfl wd154 wd155 wd134 inX10 tyX10_ok (by decide)).to) hC, ?_⟩
  refine List.forall_mem_cons.mpr ⟨am_Snd.toF ((s_dup (am_dp pw_L_law_0 dd_L_law_0a.2.1)).to) hC, ?_⟩
  refine List.forall_mem_cons.mpr ⟨am_Snd.toF (z_ci (ci := 10) (am_dp pw_L_law_0 dd_L_law_0a.2.2.1) mt108 wd156 rfl rfl) hC, ?_⟩
  refine List.forall_mem_cons.mpr ⟨am_Snd.toF ((s_astoren (am_dp pw_L_law_0 dd_L_law_0a.2.2.2.1) rfl (by decide)).to) hC, ?_⟩
  refine List.forall_mem_cons.mpr ⟨am_Snd.toF ((s_new (ci := 11) (am_dp pw_L_law_0 dd_L_law_0a.2.2.2.2.1) rfl wd1327 wd1328 wd149 inX11 tyX11_ok (by decide)).to) hC, ?_⟩
  refine List.forall_mem_cons.mpr ⟨am_Snd.toF ((s_dup (am_dp pw_L_law_0 dd_L_law_0a.2.2.2.2.2.1)).to) hC, ?_⟩
  refine List.forall_mem_cons.mpr ⟨am_Snd.toF (z_ci (ci := 11) (am_dp pw_L_law_0 dd_L_law_0a.2.2.2.2.2.2.1) mt166 wd1329 rfl rfl) hC, ?_⟩
  refine List.forall_mem_cons.mpr ⟨am_Snd.toF ((s_astoren (am_dp pw_L_law_0 dd_L_law_0a.2.2.2.2.2.2.2) rfl (by decide)).to) hC, ?_⟩
  refine List.forall_mem_cons.mpr ⟨am_Snd.toF ((s_iconst (am_dp pw_L_law_0 dd_L_law_0b.1) (by decide)).to) hC, ?_⟩
  refine List.forall_mem_cons.mpr ⟨am_Snd.toF ((s_istoren (am_dp pw_L_law_0 dd_L_law_0b.2.1) rfl (by decide)).to) hC, ?_⟩
  refine List.forall_mem_cons.mpr ⟨am_Snd.toF ((s_iloadn (am_dp pw_L_law_0 dd_L_law_0b.2.2.1) rfl).to) hC, ?_⟩
  refine List.forall_mem_cons.mpr ⟨am_Snd.toF ((s_aloadn (am_dp pw_L_law_0 dd_L_law_0b.2.2.2.1) rfl).to) hC, ?_⟩
  refine List.forall_mem_cons.mpr ⟨f_sln hC hX hb (am_dp pw_L_law_0 dd_L_law_0b.2.2.2.2.1), ?_⟩
  refine List.forall_mem_cons.mpr ⟨am_Snd.toF ((s_bipush (am_dp pw_L_law_0 dd_L_law_0b.2.2.2.2.2.1) (by decide)).to) hC, ?_⟩
  refine List.forall_mem_cons.mpr ⟨am_Snd.toF ((s_isub (am_dp pw_L_law_0 dd_L_law_0b.2.2.2.2.2.2.1)).to) hC, ?_⟩
  refine List.forall_mem_cons.mpr ⟨am_Snd.toF ((s_icmp_gt (am_dp pw_L_law_0 dd_L_law_0b.2.2.2.2.2.2.2) (by decide)).to) hC, ?_⟩
  refine List.forall_mem_cons.mpr ⟨am_Snd.toF ((s_aloadn (am_dp pw_L_law_0 dd_L_law_0c.1) rfl).to) hC, ?_⟩
  refine List.forall_mem_cons.mpr ⟨am_Snd.toF ((s_iloadn (am_dp pw_L_law_0 dd_L_law_0c.2.1) rfl).to) hC, ?_⟩
  refine List.forall_mem_cons.mpr ⟨f_sld hC hX hb (am_dp pw_L_law_0 dd_L_law_0c.2.2.1), ?_⟩
  refine List.forall_mem_cons.mpr ⟨am_Snd.toF ((s_bipush (am_dp pw_L_law_0 dd_L_law_0c.2.2.2) (by decide)).to) hC, ?_⟩
  refine List.forall_mem_cons.mpr ⟨am_Snd.toF ((s_iand (am_dp pw_L_law_32 dd_L_law_32a)).to) hC, ?_⟩
  refine List.forall_mem_cons.mpr ⟨am_Snd.toF ((s_table (by decide +kernel : decode code 33 = .ok (.tableswitch 1404 0 38 #[171, 234, 257, 270, 293, 316, 349, 382, 425, 478, 541, 584, 627, 680, 713, 746, 769, 802, 825, 858, 881, 894, 937, 970, 983, 996, 1029, 1052, 1065, 1108, 1131, 1154, 1167, 1246, 1279, 1332, 1345, 1368, 1381], 171)) (by decide) (by decide) (by decide) (by decide)).to) hC, ?_⟩
  refine List.forall_mem_cons.mpr ⟨am_Snd.toF ((s_aloadn (am_dp pw_L_law_192 dd_L_law_192a.1) rfl).to) hC, ?_⟩
  refine List.forall_mem_cons.mpr ⟨am_Snd.toF ((s_aloadn (am_dp pw_L_law_192 dd_L_law_192a.2.1) rfl).to) hC, ?_⟩
  refine List.forall_mem_cons.mpr ⟨am_Snd.toF ((s_iloadn (am_dp pw_L_law_192 dd_L_law_192a.2.2.1) rfl).to) hC, ?_⟩
  refine List.forall_mem_cons.mpr ⟨am_Snd.toF ((s_iconst (am_dp pw_L_law_192 dd_L_law_192a.2.2.2.1) (by decide)).to) hC, ?_⟩
  refine List.forall_mem_cons.mpr ⟨am_Snd.toF ((s_iadd (am_dp pw_L_law_192 dd_L_law_192a.2.2.2.2.1)).to) hC, ?_⟩
  refine List.forall_mem_cons.mpr ⟨f_sld hC hX hb (am_dp pw_L_law_192 dd_L_law_192a.2.2.2.2.2.1), ?_⟩
  refine List.forall_mem_cons.mpr ⟨am_Snd.toF ((s_aloadn (am_dp pw_L_law_192 dd_L_law_192a.2.2.2.2.2.2.1) rfl).to) hC, ?_⟩
  refine List.forall_mem_cons.mpr ⟨am_Snd.toF ((s_iloadn (am_dp pw_L_law_192 dd_L_law_192a.2.2.2.2.2.2.2) rfl).to) hC, ?_⟩
  refine List.forall_mem_cons.mpr ⟨am_Snd.toF ((s_iconst (am_dp pw_L_law_192 dd_L_law_192b.1) (by decide)).to) hC, ?_⟩
  refine List.forall_mem_cons.mpr ⟨am_Snd.toF ((s_iadd (am_dp pw_L_law_192 dd_L_law_192b.2.1)).to) hC, ?_⟩
  refine List.forall_mem_cons.mpr ⟨f_sld hC hX hb (am_dp pw_L_law_192 dd_L_law_192b.2.2.1), ?_⟩
  refine List.forall_mem_cons.mpr ⟨am_Snd.toF ((s_aloadn (am_dp pw_L_law_192 dd_L_law_192b.2.2.2.1) rfl).to) hC, ?_⟩
  refine List.forall_mem_cons.mpr ⟨am_Snd.toF ((s_iloadn (am_dp pw_L_law_192 dd_L_law_192b.2.2.2.2.1) rfl).to) hC, ?_⟩
  refine List.forall_mem_cons.mpr ⟨am_Snd.toF ((s_iconst (am_dp pw_L_law_192 dd_L_law_192b.2.2.2.2.2.1) (by decide)).to) hC, ?_⟩
  refine List.forall_mem_cons.mpr ⟨am_Snd.toF ((s_iadd (am_dp pw_L_law_192 dd_L_law_192b.2.2.2.2.2.2.1)).to) hC, ?_⟩
  refine List.forall_mem_cons.mpr ⟨f_sld hC hX hb (am_dp pw_L_law_192 dd_L_law_192b.2.2.2.2.2.2.2), ?_⟩
  refine List.forall_mem_cons.mpr ⟨am_Snd.toF ((s_aloadn (am_dp pw_L_law_192 dd_L_law_192c.1) rfl).to) hC, ?_⟩
  refine List.forall_mem_cons.mpr ⟨am_Snd.toF ((s_iloadn (am_dp pw_L_law_192 dd_L_law_192c.2.1) rfl).to) hC, ?_⟩
  refine List.forall_mem_cons.mpr ⟨am_Snd.toF ((s_iconst (am_dp pw_L_law_192 dd_L_law_192c.2.2.1) (by decide)).to) hC, ?_⟩
  refine List.forall_mem_cons.mpr ⟨am_Snd.toF ((s_iadd (am_dp pw_L_law_192 dd_L_law_192c.2.2.2)).to) hC, ?_⟩
  refine List.forall_mem_cons.mpr ⟨f_sld hC hX hb (am_dp pw_L_law_224 dd_L_law_224a.1), ?_⟩
  refine List.forall_mem_cons.mpr ⟨am_Snd.toF ((s_aloadn (am_dp pw_L_law_224 dd_L_law_224a.2.1) rfl).to) hC, ?_⟩
  refine List.forall_mem_cons.mpr ⟨am_Snd.toF ((s_iloadn (am_dp pw_L_law_224 dd_L_law_224a.2.2.1) rfl).to) hC, ?_⟩
  refine List.forall_mem_cons.mpr ⟨am_Snd.toF ((s_iconst (am_dp pw_L_law_224 dd_L_law_224a.2.2.2.1) (by decide)).to) hC, ?_⟩
  refine List.forall_mem_cons.mpr ⟨am_Snd.toF ((s_iadd (am_dp pw_L_law_224 dd_L_law_224a.2.2.2.2.1)).to) hC, ?_⟩
  refine List.forall_mem_cons.mpr ⟨f_sld hC hX hb (am_dp pw_L_law_224 dd_L_law_224a.2.2.2.2.2.1), ?_⟩
  refine List.forall_mem_cons.mpr ⟨am_Snd.toF (zw_cv109 (am_dp pw_L_law_224 dd_L_law_224a.2.2.2.2.2.2.1) wd631) hC, ?_⟩
  refine List.forall_mem_cons.mpr ⟨am_Snd.toF ((s_pop (am_dp pw_L_law_224 dd_L_law_224a.2.2.2.2.2.2.2)).to) hC, ?_⟩
  refine List.forall_mem_cons.mpr ⟨am_Snd.toF ((s_aloadn (am_dp pw_L_law_224 dd_L_law_224b.1) rfl).to) hC, ?_⟩
  refine List.forall_mem_cons.mpr ⟨am_Snd.toF ((s_aloadn (am_dp pw_L_law_224 dd_L_law_224b.2.1) rfl).to) hC, ?_⟩
  refine List.forall_mem_cons.mpr ⟨am_Snd.toF ((s_iloadn (am_dp pw_L_law_224 dd_L_law_224b.2.2.1) rfl).to) hC, ?_⟩
  refine List.forall_mem_cons.mpr ⟨am_Snd.toF ((s_iconst (am_dp pw_L_law_224 dd_L_law_224b.2.2.2.1) (by decide)).to) hC, ?_⟩
  refine List.forall_mem_cons.mpr ⟨am_Snd.toF ((s_iadd (am_dp pw_L_law_224 dd_L_law_224b.2.2.2.2.1)).to) hC, ?_⟩
  refine List.forall_mem_cons.mpr ⟨f_sld hC hX hb (am_dp pw_L_law_224 dd_L_law_224b.2.2.2.2.2.1), ?_⟩
  refine List.forall_mem_cons.mpr ⟨am_Snd.toF ((s_aloadn (am_dp pw_L_law_224 dd_L_law_224b.2.2.2.2.2.2.1) rfl).to) hC, ?_⟩
  refine List.forall_mem_cons.mpr ⟨am_Snd.toF ((s_iloadn (am_dp pw_L_law_224 dd_L_law_224b.2.2.2.2.2.2.2) rfl).to) hC, ?_⟩
  refine List.forall_mem_cons.mpr ⟨am_Snd.toF ((s_iconst (am_dp pw_L_law_224 dd_L_law_224c.1) (by decide)).to) hC, ?_⟩
  refine List.forall_mem_cons.mpr ⟨am_Snd.toF ((s_iadd (am_dp pw_L_law_224 dd_L_law_224c.2.1)).to) hC, ?_⟩
  exact fun _ h => absurd h List.not_mem_nil
theorem snL_1 (hC : am_Cx G RL code 4 (some .boolean) nm p s m args meth c) (hX : va_X (G.2.1.1 0) L xs s s.heap) (hb : G.2.1.1 0 < G.1) : ∀ q ∈ tL_1 xs L, am_SndF am_P0 G 4 p l e R s m args below meth c q.1 q.2 := by
  unfold tL_1
  refine List.forall_mem_cons.mpr ⟨f_sld hC hX hb (am_dp pw_L_law_224 dd_L_law_224c.2.2.1), ?_⟩
  refine List.forall_mem_cons.mpr ⟨am_Snd.toF ((s_aloadn (am_dp pw_L_law_224 dd_L_law_224c.2.2.2.1) rfl).to) hC, ?_⟩
  refine List.forall_mem_cons.mpr ⟨am_Snd.toF ((s_iloadn (am_dp pw_L_law_224 dd_L_law_224c.2.2.2.2.1) rfl).to) hC, ?_⟩
  refine List.forall_mem_cons.mpr ⟨am_Snd.toF ((s_iconst (am_dp pw_L_law_224 dd_L_law_224c.2.2.2.2.2.1) (by decide)).to) hC, ?_⟩
  refine List.forall_mem_cons.mpr ⟨am_Snd.toF ((s_iadd (am_dp pw_L_law_224 dd_L_law_224c.2.2.2.2.2.2.1)).to) hC, ?_⟩
  refine List.forall_mem_cons.mpr ⟨f_sld hC hX hb (am_dp pw_L_law_224 dd_L_law_224c.2.2.2.2.2.2.2), ?_⟩
  refine List.forall_mem_cons.mpr ⟨am_Snd.toF ((s_aloadn (am_dp pw_L_law_224 dd_L_law_224d.1) rfl).to) hC, ?_⟩
  refine List.forall_mem_cons.mpr ⟨am_Snd.toF ((s_iloadn (am_dp pw_L_law_224 dd_L_law_224d.2.1) rfl).to) hC, ?_⟩
  refine List.forall_mem_cons.mpr ⟨am_Snd.toF ((s_iconst (am_dp pw_L_law_224 dd_L_law_224d.2.2.1) (by decide)).to) hC, ?_⟩
  refine List.forall_mem_cons.mpr ⟨am_Snd.toF ((s_iadd (am_dp pw_L_law_224 dd_L_law_224d.2.2.2.1)).to) hC, ?_⟩
  refine List.forall_mem_cons.mpr ⟨f_sld hC hX hb (am_dp pw_L_law_224 dd_L_law_224d.2.2.2.2.1), ?_⟩
  refine List.forall_mem_cons.mpr ⟨am_Snd.toF ((s_aloadn (am_dp pw_L_law_224 dd_L_law_224d.2.2.2.2.2) rfl).to) hC, ?_⟩
  refine List.forall_mem_cons.mpr ⟨am_Snd.toF ((s_iloadn (am_dp pw_L_law_256 dd_L_law_256a.1) rfl).to) hC, ?_⟩
  refine List.forall_mem_cons.mpr ⟨am_Snd.toF ((s_iconst (am_dp pw_L_law_256 dd_L_law_256a.2.1) (by decide)).to) hC, ?_⟩
  refine List.forall_mem_cons.mpr ⟨am_Snd.toF ((s_iadd (am_dp pw_L_law_256 dd_L_law_256a.2.2.1)).to) hC, ?_⟩
  refine List.forall_mem_cons.mpr ⟨f_sld hC hX hb (am_dp pw_L_law_256 dd_L_law_256a.2.2.2.1), ?_⟩
  refine List.forall_mem_cons.mpr ⟨am_Snd.toF (zw_cv169 (am_dp pw_L_law_256 dd_L_law_256a.2.2.2.2.1) wd1583) hC, ?_⟩
  refine List.forall_mem_cons.mpr ⟨am_Snd.toF ((s_pop (am_dp pw_L_law_256 dd_L_law_256a.2.2.2.2.2.1)).to) hC, ?_⟩
  refine List.forall_mem_cons.mpr ⟨am_Snd.toF ((s_goto (am_dp pw_L_law_256 dd_L_law_256a.2.2.2.2.2.2.1) (by decide)).to) hC, ?_⟩
  refine List.forall_mem_cons.mpr ⟨am_Snd.toF ((s_aloadn (am_dp pw_L_law_256 dd_L_law_256a.2.2.2.2.2.2.2) rfl).to) hC, ?_⟩
  refine List.forall_mem_cons.mpr ⟨am_Snd.toF ((s_aloadn (am_dp pw_L_law_256 dd_L_law_256b.1) rfl).to) hC, ?_⟩
  refine List.forall_mem_cons.mpr ⟨am_Snd.toF ((s_iloadn (am_dp pw_L_law_256 dd_L_law_256b.2.1) rfl).to) hC, ?_⟩
  refine List.forall_mem_cons.mpr ⟨am_Snd.toF ((s_iconst (am_dp pw_L_law_256 dd_L_law_256b.2.2.1) (by decide)).to) hC, ?_⟩
  refine List.forall_mem_cons.mpr ⟨am_Snd.toF ((s_iadd (am_dp pw_L_law_256 dd_L_law_256b.2.2.2.1)).to) hC, ?_⟩
  refine List.forall_mem_cons.mpr ⟨f_sld hC hX hb (am_dp pw_L_law_256 dd_L_law_256b.2.2.2.2.1), ?_⟩
  refine List.forall_mem_cons.mpr ⟨am_Snd.toF (zw_cv110 (am_dp pw_L_law_256 dd_L_law_256b.2.2.2.2.2.1) wd639) hC, ?_⟩
  refine List.forall_mem_cons.mpr ⟨am_Snd.toF ((s_pop (am_dp pw_L_law_256 dd_L_law_256b.2.2.2.2.2.2.1)).to) hC, ?_⟩
  refine List.forall_mem_cons.mpr ⟨am_Snd.toF ((s_aloadn (am_dp pw_L_law_256 dd_L_law_256b.2.2.2.2.2.2.2) rfl).to) hC, ?_⟩
  refine List.forall_mem_cons.mpr ⟨am_Snd.toF ((s_aloadn (am_dp pw_L_law_256 dd_L_law_256c.1) rfl).to) hC, ?_⟩
  refine List.forall_mem_cons.mpr ⟨am_Snd.toF ((s_iloadn (am_dp pw_L_law_256 dd_L_law_256c.2.1) rfl).to) hC, ?_⟩
  refine List.forall_mem_cons.mpr ⟨am_Snd.toF ((s_iconst (am_dp pw_L_law_256 dd_L_law_256c.2.2.1) (by decide)).to) hC, ?_⟩
  refine List.forall_mem_cons.mpr ⟨am_Snd.toF ((s_iadd (am_dp pw_L_law_256 dd_L_law_256c.2.2.2.1)).to) hC, ?_⟩
  refine List.forall_mem_cons.mpr ⟨f_sld hC hX hb (am_dp pw_L_law_256 dd_L_law_256c.2.2.2.2.1), ?_⟩
  refine List.forall_mem_cons.mpr ⟨am_Snd.toF (zw_cv170 (am_dp pw_L_law_256 dd_L_law_256c.2.2.2.2.2.1) wd1595) hC, ?_⟩
  refine List.forall_mem_cons.mpr ⟨am_Snd.toF ((s_pop (am_dp pw_L_law_256 dd_L_law_256c.2.2.2.2.2.2.1)).to) hC, ?_⟩
  refine List.forall_mem_cons.mpr ⟨am_Snd.toF ((s_goto (am_dp pw_L_law_256 dd_L_law_256c.2.2.2.2.2.2.2) (by decide)).to) hC, ?_⟩
  refine List.forall_mem_cons.mpr ⟨am_Snd.toF ((s_aloadn (am_dp pw_L_law_288 dd_L_law_288a.1) rfl).to) hC, ?_⟩
  refine List.forall_mem_cons.mpr ⟨am_Snd.toF (zw_cv111 (am_dp pw_L_law_288 dd_L_law_288a.2.1) wd643) hC, ?_⟩
  refine List.forall_mem_cons.mpr ⟨am_Snd.toF ((s_pop (am_dp pw_L_law_288 dd_L_law_288a.2.2.1)).to) hC, ?_⟩
  refine List.forall_mem_cons.mpr ⟨am_Snd.toF ((s_aloadn (am_dp pw_L_law_288 dd_L_law_288a.2.2.2.1) rfl).to) hC, ?_⟩
  refine List.forall_mem_cons.mpr ⟨am_Snd.toF (zw_cv206 (am_dp pw_L_law_288 dd_L_law_288a.2.2.2.2.1) wd1599) hC, ?_⟩
  refine List.forall_mem_cons.mpr ⟨am_Snd.toF ((s_pop (am_dp pw_L_law_288 dd_L_law_288a.2.2.2.2.2.1)).to) hC, ?_⟩
  refine List.forall_mem_cons.mpr ⟨am_Snd.toF ((s_goto (am_dp pw_L_law_288 dd_L_law_288a.2.2.2.2.2.2.1) (by decide)).to) hC, ?_⟩
  refine List.forall_mem_cons.mpr ⟨am_Snd.toF ((s_aloadn (am_dp pw_L_law_288 dd_L_law_288a.2.2.2.2.2.2.2) rfl).to) hC, ?_⟩
  refine List.forall_mem_cons.mpr ⟨am_Snd.toF ((s_aloadn (am_dp pw_L_law_288 dd_L_law_288b.1) rfl).to) hC, ?_⟩
  refine List.forall_mem_cons.mpr ⟨am_Snd.toF ((s_iloadn (am_dp pw_L_law_288 dd_L_law_288b.2.1) rfl).to) hC, ?_⟩
  refine List.forall_mem_cons.mpr ⟨am_Snd.toF ((s_iconst (am_dp pw_L_law_288 dd_L_law_288b.2.2.1) (by decide)).to) hC, ?_⟩
  refine List.forall_mem_cons.mpr ⟨am_Snd.toF ((s_iadd (am_dp pw_L_law_288 dd_L_law_288b.2.2.2.1)).to) hC, ?_⟩
  refine List.forall_mem_cons.mpr ⟨f_sld hC hX hb (am_dp pw_L_law_288 dd_L_law_288b.2.2.2.2.1), ?_⟩
  refine List.forall_mem_cons.mpr ⟨am_Snd.toF (zw_cv112 (am_dp pw_L_law_288 dd_L_law_288b.2.2.2.2.2.1) wd903) hC, ?_⟩
  refine List.forall_mem_cons.mpr ⟨am_Snd.toF ((s_pop (am_dp pw_L_law_288 dd_L_law_288b.2.2.2.2.2.2.1)).to) hC, ?_⟩
  refine List.forall_mem_cons.mpr ⟨am_Snd.toF ((s_aloadn (am_dp pw_L_law_288 dd_L_law_288b.2.2.2.2.2.2.2) rfl).to) hC, ?_⟩
  refine List.forall_mem_cons.mpr ⟨am_Snd.toF ((s_aloadn (am_dp pw_L_law_288 dd_L_law_288c.1) rfl).to) hC, ?_⟩
  refine List.forall_mem_cons.mpr ⟨am_Snd.toF ((s_iloadn (am_dp pw_L_law_288 dd_L_law_288c.2.1) rfl).to) hC, ?_⟩
  refine List.forall_mem_cons.mpr ⟨am_Snd.toF ((s_iconst (am_dp pw_L_law_288 dd_L_law_288c.2.2.1) (by decide)).to) hC, ?_⟩
  refine List.forall_mem_cons.mpr ⟨am_Snd.toF ((s_iadd (am_dp pw_L_law_288 dd_L_law_288c.2.2.2.1)).to) hC, ?_⟩
  refine List.forall_mem_cons.mpr ⟨f_sld hC hX hb (am_dp pw_L_law_288 dd_L_law_288c.2.2.2.2.1), ?_⟩
  refine List.forall_mem_cons.mpr ⟨am_Snd.toF (zw_cv207 (am_dp pw_L_law_288 dd_L_law_288c.2.2.2.2.2) wd1807) hC, ?_⟩
  refine List.forall_mem_cons.mpr ⟨am_Snd.toF ((s_pop (am_dp pw_L_law_320 dd_L_law_320a.1)).to) hC, ?_⟩
  refine List.forall_mem_cons.mpr ⟨am_Snd.toF ((s_goto (am_dp pw_L_law_320 dd_L_law_320a.2.1) (by decide)).to) hC, ?_⟩
  exact fun _ h => absurd h List.not_mem_nil
theorem snL_2 (hC : am_Cx G RL code 4 (some .boolean) nm p s m args meth c) (hX : va_X (G.2.1.1 0) L xs s s.heap) (hb : G.2.1.1 0 < G.1) : ∀ q ∈ tL_2 xs L, am_SndF am_P0 G 4 p l e R s m args below meth c q.1 q.2 := by
  unfold tL_2
  refine List.forall_mem_cons.mpr ⟨am_Snd.toF ((s_aloadn (am_dp pw_L_law_320 dd_L_law_320a.2.2.1) rfl).to) hC, ?_⟩
  refine List.forall_mem_cons.mpr ⟨am_Snd.toF ((s_aloadn (am_dp pw_L_law_320 dd_L_law_320a.2.2.2.1) rfl).to) hC, ?_⟩
  refine List.forall_mem_cons.mpr ⟨am_Snd.toF ((s_iloadn (am_dp pw_L_law_320 dd_L_law_320a.2.2.2.2.1) rfl).to) hC, ?_⟩
  refine List.forall_mem_cons.mpr ⟨am_Snd.toF ((s_iconst (am_dp pw_L_law_320 dd_L_law_320a.2.2.2.2.2.1) (by decide)).to) hC, ?_⟩
  refine List.forall_mem_cons.mpr ⟨am_Snd.toF ((s_iadd (am_dp pw_L_law_320 dd_L_law_320a.2.2.2.2.2.2.1)).to) hC, ?_⟩
  refine List.forall_mem_cons.mpr ⟨f_sld hC hX hb (am_dp pw_L_law_320 dd_L_law_320a.2.2.2.2.2.2.2), ?_⟩
  refine List.forall_mem_cons.mpr ⟨am_Snd.toF (zw_cv113 (am_dp pw_L_law_320 dd_L_law_320b.1) wd907) hC, ?_⟩
  refine List.forall_mem_cons.mpr ⟨am_Snd.toF ((s_pop (am_dp pw_L_law_320 dd_L_law_320b.2.1)).to) hC, ?_⟩
  refine List.forall_mem_cons.mpr ⟨am_Snd.toF ((s_aloadn (am_dp pw_L_law_320 dd_L_law_320b.2.2.1) rfl).to) hC, ?_⟩
  refine List.forall_mem_cons.mpr ⟨am_Snd.toF ((s_aloadn (am_dp pw_L_law_320 dd_L_law_320b.2.2.2.1) rfl).to) hC, ?_⟩
  refine List.forall_mem_cons.mpr ⟨am_Snd.toF ((s_iloadn (am_dp pw_L_law_320 dd_L_law_320b.2.2.2.2.1) rfl).to) hC, ?_⟩
  refine List.forall_mem_cons.mpr ⟨am_Snd.toF ((s_iconst (am_dp pw_L_law_320 dd_L_law_320b.2.2.2.2.2.1) (by decide)).to) hC, ?_⟩
  refine List.forall_mem_cons.mpr ⟨am_Snd.toF ((s_iadd (am_dp pw_L_law_320 dd_L_law_320b.2.2.2.2.2.2.1)).to) hC, ?_⟩
  refine List.forall_mem_cons.mpr ⟨f_sld hC hX hb (am_dp pw_L_law_320 dd_L_law_320b.2.2.2.2.2.2.2), ?_⟩
  refine List.forall_mem_cons.mpr ⟨am_Snd.toF (zw_cv232 (am_dp pw_L_law_320 dd_L_law_320c.1) wd1834) hC, ?_⟩
  refine List.forall_mem_cons.mpr ⟨am_Snd.toF ((s_pop (am_dp pw_L_law_320 dd_L_law_320c.2.1)).to) hC, ?_⟩
  refine List.forall_mem_cons.mpr ⟨am_Snd.toF ((s_goto (am_dp pw_L_law_320 dd_L_law_320c.2.2.1) (by decide)).to) hC, ?_⟩
  refine List.forall_mem_cons.mpr ⟨am_Snd.toF ((s_aloadn (am_dp pw_L_law_320 dd_L_law_320c.2.2.2.1) rfl).to) hC, ?_⟩
  refine List.forall_mem_cons.mpr ⟨am_Snd.toF ((s_aloadn (am_dp pw_L_law_320 dd_L_law_320c.2.2.2.2.1) rfl).to) hC, ?_⟩
  refine List.forall_mem_cons.mpr ⟨am_Snd.toF ((s_iloadn (am_dp pw_L_law_320 dd_L_law_320c.2.2.2.2.2) rfl).to) hC, ?_⟩
  refine List.forall_mem_cons.mpr ⟨am_Snd.toF ((s_iconst (am_dp pw_L_law_352 dd_L_law_352a.1) (by decide)).to) hC, ?_⟩
  refine List.forall_mem_cons.mpr ⟨am_Snd.toF ((s_iadd (am_dp pw_L_law_352 dd_L_law_352a.2.1)).to) hC, ?_⟩
  refine List.forall_mem_cons.mpr ⟨f_sld hC hX hb (am_dp pw_L_law_352 dd_L_law_352a.2.2.1), ?_⟩
  refine List.forall_mem_cons.mpr ⟨am_Snd.toF ((s_aloadn (am_dp pw_L_law_352 dd_L_law_352a.2.2.2.1) rfl).to) hC, ?_⟩
  refine List.forall_mem_cons.mpr ⟨am_Snd.toF ((s_iloadn (am_dp pw_L_law_352 dd_L_law_352a.2.2.2.2.1) rfl).to) hC, ?_⟩
  refine List.forall_mem_cons.mpr ⟨am_Snd.toF ((s_iconst (am_dp pw_L_law_352 dd_L_law_352a.2.2.2.2.2.1) (by decide)).to) hC, ?_⟩
  refine List.forall_mem_cons.mpr ⟨am_Snd.toF ((s_iadd (am_dp pw_L_law_352 dd_L_law_352a.2.2.2.2.2.2.1)).to) hC, ?_⟩
  refine List.forall_mem_cons.mpr ⟨f_sld hC hX hb (am_dp pw_L_law_352 dd_L_law_352a.2.2.2.2.2.2.2), ?_⟩
  refine List.forall_mem_cons.mpr ⟨am_Snd.toF (zw_cv114 (am_dp pw_L_law_352 dd_L_law_352b.1) wd917) hC, ?_⟩
  refine List.forall_mem_cons.mpr ⟨am_Snd.toF ((s_pop (am_dp pw_L_law_352 dd_L_law_352b.2.1)).to) hC, ?_⟩
  refine List.forall_mem_cons.mpr ⟨am_Snd.toF ((s_aloadn (am_dp pw_L_law_352 dd_L_law_352b.2.2.1) rfl).to) hC, ?_⟩
  refine List.forall_mem_cons.mpr ⟨am_Snd.toF ((s_aloadn (am_dp pw_L_law_352 dd_L_law_352b.2.2.2.1) rfl).to) hC, ?_⟩
  refine List.forall_mem_cons.mpr ⟨am_Snd.toF ((s_iloadn (am_dp pw_L_law_352 dd_L_law_352b.2.2.2.2.1) rfl).to) hC, ?_⟩
  refine List.forall_mem_cons.mpr ⟨am_Snd.toF ((s_iconst (am_dp pw_L_law_352 dd_L_law_352b.2.2.2.2.2.1) (by decide)).to) hC, ?_⟩
  refine List.forall_mem_cons.mpr ⟨am_Snd.toF ((s_iadd (am_dp pw_L_law_352 dd_L_law_352b.2.2.2.2.2.2.1)).to) hC, ?_⟩
  refine List.forall_mem_cons.mpr ⟨f_sld hC hX hb (am_dp pw_L_law_352 dd_L_law_352b.2.2.2.2.2.2.2), ?_⟩
  refine List.forall_mem_cons.mpr ⟨am_Snd.toF ((s_aloadn (am_dp pw_L_law_352 dd_L_law_352c.1) rfl).to) hC, ?_⟩
  refine List.forall_mem_cons.mpr ⟨am_Snd.toF ((s_iloadn (am_dp pw_L_law_352 dd_L_law_352c.2.1) rfl).to) hC, ?_⟩
  refine List.forall_mem_cons.mpr ⟨am_Snd.toF ((s_iconst (am_dp pw_L_law_352 dd_L_law_352c.2.2.1) (by decide)).to) hC, ?_⟩
  refine List.forall_mem_cons.mpr ⟨am_Snd.toF ((s_iadd (am_dp pw_L_law_352 dd_L_law_352c.2.2.2.1)).to) hC, ?_⟩
  refine List.forall_mem_cons.mpr ⟨f_sld hC hX hb (am_dp pw_L_law_352 dd_L_law_352c.2.2.2.2.1), ?_⟩
  refine List.forall_mem_cons.mpr ⟨am_Snd.toF (zw_cv233 (am_dp pw_L_law_352 dd_L_law_352c.2.2.2.2.2.1) wd1846) hC, ?_⟩
  refine List.forall_mem_cons.mpr ⟨am_Snd.toF ((s_pop (am_dp pw_L_law_352 dd_L_law_352c.2.2.2.2.2.2.1)).to) hC, ?_⟩
  refine List.forall_mem_cons.mpr ⟨am_Snd.toF ((s_goto (am_dp pw_L_law_352 dd_L_law_352c.2.2.2.2.2.2.2) (by decide)).to) hC, ?_⟩
  refine List.forall_mem_cons.mpr ⟨am_Snd.toF ((s_aloadn (am_dp pw_L_law_352 dd_L_law_352d.1) rfl).to) hC, ?_⟩
  refine List.forall_mem_cons.mpr ⟨am_Snd.toF ((s_aloadn (am_dp pw_L_law_352 dd_L_law_352d.2) rfl).to) hC, ?_⟩
  refine List.forall_mem_cons.mpr ⟨am_Snd.toF ((s_iloadn (am_dp pw_L_law_384 dd_L_law_384a.1) rfl).to) hC, ?_⟩
  refine List.forall_mem_cons.mpr ⟨am_Snd.toF ((s_iconst (am_dp pw_L_law_384 dd_L_law_384a.2.1) (by decide)).to) hC, ?_⟩
  refine List.forall_mem_cons.mpr ⟨am_Snd.toF ((s_iadd (am_dp pw_L_law_384 dd_L_law_384a.2.2.1)).to) hC, ?_⟩
  refine List.forall_mem_cons.mpr ⟨f_sld hC hX hb (am_dp pw_L_law_384 dd_L_law_384a.2.2.2.1), ?_⟩
  refine List.forall_mem_cons.mpr ⟨am_Snd.toF ((s_aloadn (am_dp pw_L_law_384 dd_L_law_384a.2.2.2.2.1) rfl).to) hC, ?_⟩
  refine List.forall_mem_cons.mpr ⟨am_Snd.toF ((s_iloadn (am_dp pw_L_law_384 dd_L_law_384a.2.2.2.2.2.1) rfl).to) hC, ?_⟩
  refine List.forall_mem_cons.mpr ⟨am_Snd.toF ((s_iconst (am_dp pw_L_law_384 dd_L_law_384a.2.2.2.2.2.2.1) (by decide)).to) hC, ?_⟩
  refine List.forall_mem_cons.mpr ⟨am_Snd.toF ((s_iadd (am_dp pw_L_law_384 dd_L_law_384a.2.2.2.2.2.2.2)).to) hC, ?_⟩
  refine List.forall_mem_cons.mpr ⟨f_sld hC hX hb (am_dp pw_L_law_384 dd_L_law_384b.1), ?_⟩
  refine List.forall_mem_cons.mpr ⟨am_Snd.toF (zw_cv115 (am_dp pw_L_law_384 dd_L_law_384b.2.1) wd925) hC, ?_⟩
  refine List.forall_mem_cons.mpr ⟨am_Snd.toF ((s_pop (am_dp pw_L_law_384 dd_L_law_384b.2.2.1)).to) hC, ?_⟩
  refine List.forall_mem_cons.mpr ⟨am_Snd.toF ((s_aloadn (am_dp pw_L_law_384 dd_L_law_384b.2.2.2.1) rfl).to) hC, ?_⟩
  refine List.forall_mem_cons.mpr ⟨am_Snd.toF ((s_aloadn (am_dp pw_L_law_384 dd_L_law_384b.2.2.2.2.1) rfl).to) hC, ?_⟩
  refine List.forall_mem_cons.mpr ⟨am_Snd.toF ((s_iloadn (am_dp pw_L_law_384 dd_L_law_384b.2.2.2.2.2.1) rfl).to) hC, ?_⟩
  exact fun _ h => absurd h List.not_mem_nil
theorem snL_3 (hC : am_Cx G RL code 4 (some .boolean) nm p s m args meth c) (hX : va_X (G.2.1.1 0) L xs s s.heap) (hb : G.2.1.1 0 < G.1) : ∀ q ∈ tL_3 xs L, am_SndF am_P0 G 4 p l e R s m args below meth c q.1 q.2 := by
  unfold tL_3
  refine List.forall_mem_cons.mpr ⟨am_Snd.toF ((s_iconst (am_dp pw_L_law_384 dd_L_law_384b.2.2.2.2.2.2.1) (by decide)).to) hC, ?_⟩
  refine List.forall_mem_cons.mpr ⟨am_Snd.toF ((s_iadd (am_dp pw_L_law_384 dd_L_law_384b.2.2.2.2.2.2.2)).to) hC, ?_⟩
  refine List.forall_mem_cons.mpr ⟨f_sld hC hX hb (am_dp pw_L_law_384 dd_L_law_384c.1), ?_⟩
  refine List.forall_mem_cons.mpr ⟨am_Snd.toF ((s_aloadn (am_dp pw_L_law_384 dd_L_law_384c.2.1) rfl).to) hC, ?_⟩
  refine List.forall_mem_cons.mpr ⟨am_Snd.toF ((s_iloadn (am_dp pw_L_law_384 dd_L_law_384c.2.2.1) rfl).to) hC, ?_⟩
  refine List.forall_mem_cons.mpr ⟨am_Snd.toF ((s_iconst (am_dp pw_L_law_384 dd_L_law_384c.2.2.2.1) (by decide)).to) hC, ?_⟩
  refine List.forall_mem_cons.mpr ⟨am_Snd.toF ((s_iadd (am_dp pw_L_law_384 dd_L_law_384c.2.2.2.2.1)).to) hC, ?_⟩
  refine List.forall_mem_cons.mpr ⟨f_sld hC hX hb (am_dp pw_L_law_384 dd_L_law_384c.2.2.2.2.2.1), ?_⟩
  refine List.forall_mem_cons.mpr ⟨am_Snd.toF (zw_cv253 (am_dp pw_L_law_384 dd_L_law_384c.2.2.2.2.2.2.1) wd1875) hC, ?_⟩
  refine List.forall_mem_cons.mpr ⟨am_Snd.toF ((s_pop (am_dp pw_L_law_384 dd_L_law_384c.2.2.2.2.2.2.2)).to) hC, ?_⟩
  refine List.forall_mem_cons.mpr ⟨am_Snd.toF ((s_goto (am_dp pw_L_law_384 dd_L_law_384d.1) (by decide)).to) hC, ?_⟩
  refine List.forall_mem_cons.mpr ⟨am_Snd.toF ((s_aloadn (am_dp pw_L_law_384 dd_L_law_384d.2) rfl).to) hC, ?_⟩
  refine List.forall_mem_cons.mpr ⟨am_Snd.toF ((s_aloadn (am_dp pw_L_law_416 dd_L_law_416a.1) rfl).to) hC, ?_⟩
  refine List.forall_mem_cons.mpr ⟨am_Snd.toF ((s_iloadn (am_dp pw_L_law_416 dd_L_law_416a.2.1) rfl).to) hC, ?_⟩
  refine List.forall_mem_cons.mpr ⟨am_Snd.toF ((s_iconst (am_dp pw_L_law_416 dd_L_law_416a.2.2.1) (by decide)).to) hC, ?_⟩
  refine List.forall_mem_cons.mpr ⟨am_Snd.toF ((s_iadd (am_dp pw_L_law_416 dd_L_law_416a.2.2.2.1)).to) hC, ?_⟩
  refine List.forall_mem_cons.mpr ⟨f_sld hC hX hb (am_dp pw_L_law_416 dd_L_law_416a.2.2.2.2.1), ?_⟩
  refine List.forall_mem_cons.mpr ⟨am_Snd.toF ((s_aloadn (am_dp pw_L_law_416 dd_L_law_416a.2.2.2.2.2.1) rfl).to) hC, ?_⟩
  refine List.forall_mem_cons.mpr ⟨am_Snd.toF ((s_iloadn (am_dp pw_L_law_416 dd_L_law_416a.2.2.2.2.2.2.1) rfl).to) hC, ?_⟩
  refine List.forall_mem_cons.mpr ⟨am_Snd.toF ((s_iconst (am_dp pw_L_law_416 dd_L_law_416a.2.2.2.2.2.2.2) (by decide)).to) hC, ?_⟩
  refine List.forall_mem_cons.mpr ⟨am_Snd.toF ((s_iadd (am_dp pw_L_law_416 dd_L_law_416b.1)).to) hC, ?_⟩
  refine List.forall_mem_cons.mpr ⟨f_sld hC hX hb (am_dp pw_L_law_416 dd_L_law_416b.2.1), ?_⟩
  refine List.forall_mem_cons.mpr ⟨am_Snd.toF ((s_aloadn (am_dp pw_L_law_416 dd_L_law_416b.2.2.1) rfl).to) hC, ?_⟩
  refine List.forall_mem_cons.mpr ⟨am_Snd.toF ((s_iloadn (am_dp pw_L_law_416 dd_L_law_416b.2.2.2.1) rfl).to) hC, ?_⟩
  refine List.forall_mem_cons.mpr ⟨am_Snd.toF ((s_iconst (am_dp pw_L_law_416 dd_L_law_416b.2.2.2.2.1) (by decide)).to) hC, ?_⟩
  refine List.forall_mem_cons.mpr ⟨am_Snd.toF ((s_iadd (am_dp pw_L_law_416 dd_L_law_416b.2.2.2.2.2.1)).to) hC, ?_⟩
  refine List.forall_mem_cons.mpr ⟨f_sld hC hX hb (am_dp pw_L_law_416 dd_L_law_416b.2.2.2.2.2.2.1), ?_⟩
  refine List.forall_mem_cons.mpr ⟨am_Snd.toF (zw_cv116 (am_dp pw_L_law_416 dd_L_law_416b.2.2.2.2.2.2.2) wd1007) hC, ?_⟩
  refine List.forall_mem_cons.mpr ⟨am_Snd.toF ((s_pop (am_dp pw_L_law_416 dd_L_law_416c.1)).to) hC, ?_⟩
  refine List.forall_mem_cons.mpr ⟨am_Snd.toF ((s_aloadn (am_dp pw_L_law_416 dd_L_law_416c.2.1) rfl).to) hC, ?_⟩
  refine List.forall_mem_cons.mpr ⟨am_Snd.toF ((s_aloadn (am_dp pw_L_law_416 dd_L_law_416c.2.2.1) rfl).to) hC, ?_⟩
  refine List.forall_mem_cons.mpr ⟨am_Snd.toF ((s_iloadn (am_dp pw_L_law_416 dd_L_law_416c.2.2.2.1) rfl).to) hC, ?_⟩
  refine List.forall_mem_cons.mpr ⟨am_Snd.toF ((s_iconst (am_dp pw_L_law_416 dd_L_law_416c.2.2.2.2.1) (by decide)).to) hC, ?_⟩
  refine List.forall_mem_cons.mpr ⟨am_Snd.toF ((s_iadd (am_dp pw_L_law_416 dd_L_law_416c.2.2.2.2.2.1)).to) hC, ?_⟩
  refine List.forall_mem_cons.mpr ⟨f_sld hC hX hb (am_dp pw_L_law_416 dd_L_law_416c.2.2.2.2.2.2.1), ?_⟩
  refine List.forall_mem_cons.mpr ⟨am_Snd.toF ((s_aloadn (am_dp pw_L_law_416 dd_L_law_416c.2.2.2.2.2.2.2) rfl).to) hC, ?_⟩
  refine List.forall_mem_cons.mpr ⟨am_Snd.toF ((s_iloadn (am_dp pw_L_law_416 dd_L_law_416d.1) rfl).to) hC, ?_⟩
  refine List.forall_mem_cons.mpr ⟨am_Snd.toF ((s_iconst (am_dp pw_L_law_416 dd_L_law_416d.2.1) (by decide)).to) hC, ?_⟩
  refine List.forall_mem_cons.mpr ⟨am_Snd.toF ((s_iadd (am_dp pw_L_law_416 dd_L_law_416d.2.2.1)).to) hC, ?_⟩
  refine List.forall_mem_cons.mpr ⟨f_sld hC hX hb (am_dp pw_L_law_416 dd_L_law_416d.2.2.2.1), ?_⟩
  refine List.forall_mem_cons.mpr ⟨am_Snd.toF ((s_aloadn (am_dp pw_L_law_416 dd_L_law_416d.2.2.2.2.1) rfl).to) hC, ?_⟩
  refine List.forall_mem_cons.mpr ⟨am_Snd.toF ((s_iloadn (am_dp pw_L_law_416 dd_L_law_416d.2.2.2.2.2) rfl).to) hC, ?_⟩
  refine List.forall_mem_cons.mpr ⟨am_Snd.toF ((s_iconst (am_dp pw_L_law_448 dd_L_law_448a.1) (by decide)).to) hC, ?_⟩
  refine List.forall_mem_cons.mpr ⟨am_Snd.toF ((s_iadd (am_dp pw_L_law_448 dd_L_law_448a.2.1)).to) hC, ?_⟩
  refine List.forall_mem_cons.mpr ⟨f_sld hC hX hb (am_dp pw_L_law_448 dd_L_law_448a.2.2.1), ?_⟩
  refine List.forall_mem_cons.mpr ⟨am_Snd.toF (zw_cv254 (am_dp pw_L_law_448 dd_L_law_448a.2.2.2.1) wd1922) hC, ?_⟩
  refine List.forall_mem_cons.mpr ⟨am_Snd.toF ((s_pop (am_dp pw_L_law_448 dd_L_law_448a.2.2.2.2.1)).to) hC, ?_⟩
  refine List.forall_mem_cons.mpr ⟨am_Snd.toF ((s_goto (am_dp pw_L_law_448 dd_L_law_448a.2.2.2.2.2.1) (by decide)).to) hC, ?_⟩
  refine List.forall_mem_cons.mpr ⟨am_Snd.toF ((s_aloadn (am_dp pw_L_law_448 dd_L_law_448a.2.2.2.2.2.2.1) rfl).to) hC, ?_⟩
  refine List.forall_mem_cons.mpr ⟨am_Snd.toF ((s_aloadn (am_dp pw_L_law_448 dd_L_law_448a.2.2.2.2.2.2.2) rfl).to) hC, ?_⟩
  refine List.forall_mem_cons.mpr ⟨am_Snd.toF ((s_iloadn (am_dp pw_L_law_448 dd_L_law_448b.1) rfl).to) hC, ?_⟩
  refine List.forall_mem_cons.mpr ⟨am_Snd.toF ((s_iconst (am_dp pw_L_law_448 dd_L_law_448b.2.1) (by decide)).to) hC, ?_⟩
  refine List.forall_mem_cons.mpr ⟨am_Snd.toF ((s_iadd (am_dp pw_L_law_448 dd_L_law_448b.2.2.1)).to) hC, ?_⟩
  refine List.forall_mem_cons.mpr ⟨f_sld hC hX hb (am_dp pw_L_law_448 dd_L_law_448b.2.2.2.1), ?_⟩
  refine List.forall_mem_cons.mpr ⟨am_Snd.toF ((s_aloadn (am_dp pw_L_law_448 dd_L_law_448b.2.2.2.2.1) rfl).to) hC, ?_⟩
  refine List.forall_mem_cons.mpr ⟨am_Snd.toF ((s_iloadn (am_dp pw_L_law_448 dd_L_law_448b.2.2.2.2.2.1) rfl).to) hC, ?_⟩
  refine List.forall_mem_cons.mpr ⟨am_Snd.toF ((s_iconst (am_dp pw_L_law_448 dd_L_law_448b.2.2.2.2.2.2.1) (by decide)).to) hC, ?_⟩
  refine List.forall_mem_cons.mpr ⟨am_Snd.toF ((s_iadd (am_dp pw_L_law_448 dd_L_law_448b.2.2.2.2.2.2.2)).to) hC, ?_⟩
  refine List.forall_mem_cons.mpr ⟨f_sld hC hX hb (am_dp pw_L_law_448 dd_L_law_448c.1), ?_⟩
  refine List.forall_mem_cons.mpr ⟨am_Snd.toF ((s_aloadn (am_dp pw_L_law_448 dd_L_law_448c.2.1) rfl).to) hC, ?_⟩
  exact fun _ h => absurd h List.not_mem_nil
theorem snL_4 (hC : am_Cx G RL code 4 (some .boolean) nm p s m args meth c) (hX : va_X (G.2.1.1 0) L xs s s.heap) (hb : G.2.1.1 0 < G.1) : ∀ q ∈ tL_4 xs L, am_SndF am_P0 G 4 p l e R s m args below meth c q.1 q.2 := by
  unfold tL_4
  refine List.forall_mem_cons.mpr ⟨am_Snd.toF ((s_iloadn (am_dp pw_L_law_448 dd_L_law_448c.2.2.1) rfl).to) hC, ?_⟩
  refine List.forall_mem_cons.mpr ⟨am_Snd.toF ((s_iconst (am_dp pw_L_law_448 dd_L_law_448c.2.2.2.1) (by decide)).to) hC, ?_⟩
  refine List.forall_mem_cons.mpr ⟨am_Snd.toF ((s_iadd (am_dp pw_L_law_448 dd_L_law_448c.2.2.2.2.1)).to) hC, ?_⟩
  refine List.forall_mem_cons.mpr ⟨f_sld hC hX hb (am_dp pw_L_law_448 dd_L_law_448c.2.2.2.2.2.1), ?_⟩
  refine List.forall_mem_cons.mpr ⟨am_Snd.toF ((s_aloadn (am_dp pw_L_law_448 dd_L_law_448c.2.2.2.2.2.2.1) rfl).to) hC, ?_⟩
  refine List.forall_mem_cons.mpr ⟨am_Snd.toF ((s_iloadn (am_dp pw_L_law_448 dd_L_law_448c.2.2.2.2.2.2.2) rfl).to) hC, ?_⟩
  refine List.forall_mem_cons.mpr ⟨am_Snd.toF ((s_iconst (am_dp pw_L_law_448 dd_L_law_448d.1) (by decide)).to) hC, ?_⟩
  refine List.forall_mem_cons.mpr ⟨am_Snd.toF ((s_iadd (am_dp pw_L_law_448 dd_L_law_448d.2.1)).to) hC, ?_⟩
  refine List.forall_mem_cons.mpr ⟨f_sld hC hX hb (am_dp pw_L_law_448 dd_L_law_448d.2.2.1), ?_⟩
  refine List.forall_mem_cons.mpr ⟨am_Snd.toF (zw_cv117 (am_dp pw_L_law_448 dd_L_law_448d.2.2.2) wd1020) hC, ?_⟩
  refine List.forall_mem_cons.mpr ⟨am_Snd.toF ((s_pop (am_dp pw_L_law_480 dd_L_law_480a.1)).to) hC, ?_⟩
  refine List.forall_mem_cons.mpr ⟨am_Snd.toF ((s_aloadn (am_dp pw_L_law_480 dd_L_law_480a.2.1) rfl).to) hC, ?_⟩
  refine List.forall_mem_cons.mpr ⟨am_Snd.toF ((s_aloadn (am_dp pw_L_law_480 dd_L_law_480a.2.2.1) rfl).to) hC, ?_⟩
  refine List.forall_mem_cons.mpr ⟨am_Snd.toF ((s_iloadn (am_dp pw_L_law_480 dd_L_law_480a.2.2.2.1) rfl).to) hC, ?_⟩
  refine List.forall_mem_cons.mpr ⟨am_Snd.toF ((s_iconst (am_dp pw_L_law_480 dd_L_law_480a.2.2.2.2.1) (by decide)).to) hC, ?_⟩
  refine List.forall_mem_cons.mpr ⟨am_Snd.toF ((s_iadd (am_dp pw_L_law_480 dd_L_law_480a.2.2.2.2.2.1)).to) hC, ?_⟩
  refine List.forall_mem_cons.mpr ⟨f_sld hC hX hb (am_dp pw_L_law_480 dd_L_law_480a.2.2.2.2.2.2.1), ?_⟩
  refine List.forall_mem_cons.mpr ⟨am_Snd.toF ((s_aloadn (am_dp pw_L_law_480 dd_L_law_480a.2.2.2.2.2.2.2) rfl).to) hC, ?_⟩
  refine List.forall_mem_cons.mpr ⟨am_Snd.toF ((s_iloadn (am_dp pw_L_law_480 dd_L_law_480b.1) rfl).to) hC, ?_⟩
  refine List.forall_mem_cons.mpr ⟨am_Snd.toF ((s_iconst (am_dp pw_L_law_480 dd_L_law_480b.2.1) (by decide)).to) hC, ?_⟩
  refine List.forall_mem_cons.mpr ⟨am_Snd.toF ((s_iadd (am_dp pw_L_law_480 dd_L_law_480b.2.2.1)).to) hC, ?_⟩
  refine List.forall_mem_cons.mpr ⟨f_sld hC hX hb (am_dp pw_L_law_480 dd_L_law_480b.2.2.2.1), ?_⟩
  refine List.forall_mem_cons.mpr ⟨am_Snd.toF ((s_aloadn (am_dp pw_L_law_480 dd_L_law_480b.2.2.2.2.1) rfl).to) hC, ?_⟩
  refine List.forall_mem_cons.mpr ⟨am_Snd.toF ((s_iloadn (am_dp pw_L_law_480 dd_L_law_480b.2.2.2.2.2.1) rfl).to) hC, ?_⟩
  refine List.forall_mem_cons.mpr ⟨am_Snd.toF ((s_iconst (am_dp pw_L_law_480 dd_L_law_480b.2.2.2.2.2.2.1) (by decide)).to) hC, ?_⟩
  refine List.forall_mem_cons.mpr ⟨am_Snd.toF ((s_iadd (am_dp pw_L_law_480 dd_L_law_480b.2.2.2.2.2.2.2)).to) hC, ?_⟩
  refine List.forall_mem_cons.mpr ⟨f_sld hC hX hb (am_dp pw_L_law_480 dd_L_law_480c.1), ?_⟩
  refine List.forall_mem_cons.mpr ⟨am_Snd.toF ((s_aloadn (am_dp pw_L_law_480 dd_L_law_480c.2.1) rfl).to) hC, ?_⟩
  refine List.forall_mem_cons.mpr ⟨am_Snd.toF ((s_iloadn (am_dp pw_L_law_480 dd_L_law_480c.2.2.1) rfl).to) hC, ?_⟩
  refine List.forall_mem_cons.mpr ⟨am_Snd.toF ((s_iconst (am_dp pw_L_law_480 dd_L_law_480c.2.2.2.1) (by decide)).to) hC, ?_⟩
  refine List.forall_mem_cons.mpr ⟨am_Snd.toF ((s_iadd (am_dp pw_L_law_480 dd_L_law_480c.2.2.2.2.1)).to) hC, ?_⟩
  refine List.forall_mem_cons.mpr ⟨f_sld hC hX hb (am_dp pw_L_law_480 dd_L_law_480c.2.2.2.2.2.1), ?_⟩
  refine List.forall_mem_cons.mpr ⟨am_Snd.toF (zw_cv225 (am_dp pw_L_law_480 dd_L_law_480c.2.2.2.2.2.2.1) wd1815) hC, ?_⟩
  refine List.forall_mem_cons.mpr ⟨am_Snd.toF ((s_pop (am_dp pw_L_law_480 dd_L_law_480c.2.2.2.2.2.2.2)).to) hC, ?_⟩
  refine List.forall_mem_cons.mpr ⟨am_Snd.toF ((s_goto (am_dp pw_L_law_480 dd_L_law_480d.1) (by decide)).to) hC, ?_⟩
  refine List.forall_mem_cons.mpr ⟨am_Snd.toF ((s_aloadn (am_dp pw_L_law_480 dd_L_law_480d.2) rfl).to) hC, ?_⟩
  refine List.forall_mem_cons.mpr ⟨am_Snd.toF ((s_aloadn (am_dp pw_L_law_512 dd_L_law_512a.1) rfl).to) hC, ?_⟩
  refine List.forall_mem_cons.mpr ⟨am_Snd.toF ((s_iloadn (am_dp pw_L_law_512 dd_L_law_512a.2.1) rfl).to) hC, ?_⟩
  refine List.forall_mem_cons.mpr ⟨am_Snd.toF ((s_iconst (am_dp pw_L_law_512 dd_L_law_512a.2.2.1) (by decide)).to) hC, ?_⟩
  refine List.forall_mem_cons.mpr ⟨am_Snd.toF ((s_iadd (am_dp pw_L_law_512 dd_L_law_512a.2.2.2.1)).to) hC, ?_⟩
  refine List.forall_mem_cons.mpr ⟨f_sld hC hX hb (am_dp pw_L_law_512 dd_L_law_512a.2.2.2.2.1), ?_⟩
  refine List.forall_mem_cons.mpr ⟨am_Snd.toF ((s_aloadn (am_dp pw_L_law_512 dd_L_law_512a.2.2.2.2.2.1) rfl).to) hC, ?_⟩
  refine List.forall_mem_cons.mpr ⟨am_Snd.toF ((s_iloadn (am_dp pw_L_law_512 dd_L_law_512a.2.2.2.2.2.2.1) rfl).to) hC, ?_⟩
  refine List.forall_mem_cons.mpr ⟨am_Snd.toF ((s_iconst (am_dp pw_L_law_512 dd_L_law_512a.2.2.2.2.2.2.2) (by decide)).to) hC, ?_⟩
  refine List.forall_mem_cons.mpr ⟨am_Snd.toF ((s_iadd (am_dp pw_L_law_512 dd_L_law_512b.1)).to) hC, ?_⟩
  refine List.forall_mem_cons.mpr ⟨f_sld hC hX hb (am_dp pw_L_law_512 dd_L_law_512b.2.1), ?_⟩
  refine List.forall_mem_cons.mpr ⟨am_Snd.toF ((s_aloadn (am_dp pw_L_law_512 dd_L_law_512b.2.2.1) rfl).to) hC, ?_⟩
  refine List.forall_mem_cons.mpr ⟨am_Snd.toF ((s_iloadn (am_dp pw_L_law_512 dd_L_law_512b.2.2.2.1) rfl).to) hC, ?_⟩
  refine List.forall_mem_cons.mpr ⟨am_Snd.toF ((s_iconst (am_dp pw_L_law_512 dd_L_law_512b.2.2.2.2.1) (by decide)).to) hC, ?_⟩
  refine List.forall_mem_cons.mpr ⟨am_Snd.toF ((s_iadd (am_dp pw_L_law_512 dd_L_law_512b.2.2.2.2.2.1)).to) hC, ?_⟩
  refine List.forall_mem_cons.mpr ⟨f_sld hC hX hb (am_dp pw_L_law_512 dd_L_law_512b.2.2.2.2.2.2.1), ?_⟩
  refine List.forall_mem_cons.mpr ⟨am_Snd.toF ((s_aloadn (am_dp pw_L_law_512 dd_L_law_512b.2.2.2.2.2.2.2) rfl).to) hC, ?_⟩
  refine List.forall_mem_cons.mpr ⟨am_Snd.toF ((s_iloadn (am_dp pw_L_law_512 dd_L_law_512c.1) rfl).to) hC, ?_⟩
  refine List.forall_mem_cons.mpr ⟨am_Snd.toF ((s_iconst (am_dp pw_L_law_512 dd_L_law_512c.2.1) (by decide)).to) hC, ?_⟩
  refine List.forall_mem_cons.mpr ⟨am_Snd.toF ((s_iadd (am_dp pw_L_law_512 dd_L_law_512c.2.2.1)).to) hC, ?_⟩
  refine List.forall_mem_cons.mpr ⟨f_sld hC hX hb (am_dp pw_L_law_512 dd_L_law_512c.2.2.2.1), ?_⟩
  refine List.forall_mem_cons.mpr ⟨am_Snd.toF ((s_aloadn (am_dp pw_L_law_512 dd_L_law_512c.2.2.2.2.1) rfl).to) hC, ?_⟩
  refine List.forall_mem_cons.mpr ⟨am_Snd.toF ((s_iloadn (am_dp pw_L_law_512 dd_L_law_512c.2.2.2.2.2.1) rfl).to) hC, ?_⟩
  refine List.forall_mem_cons.mpr ⟨am_Snd.toF ((s_iconst (am_dp pw_L_law_512 dd_L_law_512c.2.2.2.2.2.2.1) (by decide)).to) hC, ?_⟩
  refine List.forall_mem_cons.mpr ⟨am_Snd.toF ((s_iadd (am_dp pw_L_law_512 dd_L_law_512c.2.2.2.2.2.2.2)).to) hC, ?_⟩
  exact fun _ h => absurd h List.not_mem_nil
theorem snL_5 (hC : am_Cx G RL code 4 (some .boolean) nm p s m args meth c) (hX : va_X (G.2.1.1 0) L xs s s.heap) (hb : G.2.1.1 0 < G.1) : ∀ q ∈ tL_5 xs L, am_SndF am_P0 G 4 p l e R s m args below meth c q.1 q.2 := by
  unfold tL_5
  refine List.forall_mem_cons.mpr ⟨f_sld hC hX hb (am_dp pw_L_law_512 dd_L_law_512d.1), ?_⟩
  refine List.forall_mem_cons.mpr ⟨am_Snd.toF (zw_cv118 (am_dp pw_L_law_512 dd_L_law_512d.2.1) wd1040) hC, ?_⟩
  refine List.forall_mem_cons.mpr ⟨am_Snd.toF ((s_pop (am_dp pw_L_law_512 dd_L_law_512d.2.2.1)).to) hC, ?_⟩
  refine List.forall_mem_cons.mpr ⟨am_Snd.toF ((s_aloadn (am_dp pw_L_law_512 dd_L_law_512d.2.2.2.1) rfl).to) hC, ?_⟩
  refine List.forall_mem_cons.mpr ⟨am_Snd.toF ((s_aloadn (am_dp pw_L_law_512 dd_L_law_512d.2.2.2.2.1) rfl).to) hC, ?_⟩
  refine List.forall_mem_cons.mpr ⟨am_Snd.toF ((s_iloadn (am_dp pw_L_law_512 dd_L_law_512d.2.2.2.2.2) rfl).to) hC, ?_⟩
  refine List.forall_mem_cons.mpr ⟨am_Snd.toF ((s_iconst (am_dp pw_L_law_544 dd_L_law_544a.1) (by decide)).to) hC, ?_⟩
  refine List.forall_mem_cons.mpr ⟨am_Snd.toF ((s_iadd (am_dp pw_L_law_544 dd_L_law_544a.2.1)).to) hC, ?_⟩
  refine List.forall_mem_cons.mpr ⟨f_sld hC hX hb (am_dp pw_L_law_544 dd_L_law_544a.2.2.1), ?_⟩
  refine List.forall_mem_cons.mpr ⟨am_Snd.toF ((s_aloadn (am_dp pw_L_law_544 dd_L_law_544a.2.2.2.1) rfl).to) hC, ?_⟩
  refine List.forall_mem_cons.mpr ⟨am_Snd.toF ((s_iloadn (am_dp pw_L_law_544 dd_L_law_544a.2.2.2.2.1) rfl).to) hC, ?_⟩
  refine List.forall_mem_cons.mpr ⟨am_Snd.toF ((s_iconst (am_dp pw_L_law_544 dd_L_law_544a.2.2.2.2.2.1) (by decide)).to) hC, ?_⟩
  refine List.forall_mem_cons.mpr ⟨am_Snd.toF ((s_iadd (am_dp pw_L_law_544 dd_L_law_544a.2.2.2.2.2.2.1)).to) hC, ?_⟩
  refine List.forall_mem_cons.mpr ⟨f_sld hC hX hb (am_dp pw_L_law_544 dd_L_law_544a.2.2.2.2.2.2.2), ?_⟩
  refine List.forall_mem_cons.mpr ⟨am_Snd.toF ((s_aloadn (am_dp pw_L_law_544 dd_L_law_544b.1) rfl).to) hC, ?_⟩
  refine List.forall_mem_cons.mpr ⟨am_Snd.toF ((s_iloadn (am_dp pw_L_law_544 dd_L_law_544b.2.1) rfl).to) hC, ?_⟩
  refine List.forall_mem_cons.mpr ⟨am_Snd.toF ((s_iconst (am_dp pw_L_law_544 dd_L_law_544b.2.2.1) (by decide)).to) hC, ?_⟩
  refine List.forall_mem_cons.mpr ⟨am_Snd.toF ((s_iadd (am_dp pw_L_law_544 dd_L_law_544b.2.2.2.1)).to) hC, ?_⟩
  refine List.forall_mem_cons.mpr ⟨f_sld hC hX hb (am_dp pw_L_law_544 dd_L_law_544b.2.2.2.2.1), ?_⟩
  refine List.forall_mem_cons.mpr ⟨am_Snd.toF ((s_aloadn (am_dp pw_L_law_544 dd_L_law_544b.2.2.2.2.2.1) rfl).to) hC, ?_⟩
  refine List.forall_mem_cons.mpr ⟨am_Snd.toF ((s_iloadn (am_dp pw_L_law_544 dd_L_law_544b.2.2.2.2.2.2.1) rfl).to) hC, ?_⟩
  refine List.forall_mem_cons.mpr ⟨am_Snd.toF ((s_iconst (am_dp pw_L_law_544 dd_L_law_544b.2.2.2.2.2.2.2) (by decide)).to) hC, ?_⟩
  refine List.forall_mem_cons.mpr ⟨am_Snd.toF ((s_iadd (am_dp pw_L_law_544 dd_L_law_544c.1)).to) hC, ?_⟩
  refine List.forall_mem_cons.mpr ⟨f_sld hC hX hb (am_dp pw_L_law_544 dd_L_law_544c.2.1), ?_⟩
  refine List.forall_mem_cons.mpr ⟨am_Snd.toF ((s_aloadn (am_dp pw_L_law_544 dd_L_law_544c.2.2.1) rfl).to) hC, ?_⟩
  refine List.forall_mem_cons.mpr ⟨am_Snd.toF ((s_iloadn (am_dp pw_L_law_544 dd_L_law_544c.2.2.2.1) rfl).to) hC, ?_⟩
  refine List.forall_mem_cons.mpr ⟨am_Snd.toF ((s_iconst (am_dp pw_L_law_544 dd_L_law_544c.2.2.2.2.1) (by decide)).to) hC, ?_⟩
  refine List.forall_mem_cons.mpr ⟨am_Snd.toF ((s_iadd (am_dp pw_L_law_544 dd_L_law_544c.2.2.2.2.2.1)).to) hC, ?_⟩
  refine List.forall_mem_cons.mpr ⟨f_sld hC hX hb (am_dp pw_L_law_544 dd_L_law_544c.2.2.2.2.2.2.1), ?_⟩
  refine List.forall_mem_cons.mpr ⟨am_Snd.toF (zw_cv239 (am_dp pw_L_law_544 dd_L_law_544c.2.2.2.2.2.2.2) wd1855) hC, ?_⟩
  refine List.forall_mem_cons.mpr ⟨am_Snd.toF ((s_pop (am_dp pw_L_law_544 dd_L_law_544d.1)).to) hC, ?_⟩
  refine List.forall_mem_cons.mpr ⟨am_Snd.toF ((s_goto (am_dp pw_L_law_544 dd_L_law_544d.2.1) (by decide)).to) hC, ?_⟩
  refine List.forall_mem_cons.mpr ⟨am_Snd.toF ((s_aloadn (am_dp pw_L_law_544 dd_L_law_544d.2.2.1) rfl).to) hC, ?_⟩
  refine List.forall_mem_cons.mpr ⟨am_Snd.toF ((s_aloadn (am_dp pw_L_law_544 dd_L_law_544d.2.2.2) rfl).to) hC, ?_⟩
  refine List.forall_mem_cons.mpr ⟨am_Snd.toF ((s_iloadn (am_dp pw_L_law_576 dd_L_law_576a.1) rfl).to) hC, ?_⟩
  refine List.forall_mem_cons.mpr ⟨am_Snd.toF ((s_iconst (am_dp pw_L_law_576 dd_L_law_576a.2.1) (by decide)).to) hC, ?_⟩
  refine List.forall_mem_cons.mpr ⟨am_Snd.toF ((s_iadd (am_dp pw_L_law_576 dd_L_law_576a.2.2.1)).to) hC, ?_⟩
  refine List.forall_mem_cons.mpr ⟨f_sld hC hX hb (am_dp pw_L_law_576 dd_L_law_576a.2.2.2.1), ?_⟩
  refine List.forall_mem_cons.mpr ⟨am_Snd.toF ((s_aloadn (am_dp pw_L_law_576 dd_L_law_576a.2.2.2.2.1) rfl).to) hC, ?_⟩
  refine List.forall_mem_cons.mpr ⟨am_Snd.toF ((s_iloadn (am_dp pw_L_law_576 dd_L_law_576a.2.2.2.2.2.1) rfl).to) hC, ?_⟩
  refine List.forall_mem_cons.mpr ⟨am_Snd.toF ((s_iconst (am_dp pw_L_law_576 dd_L_law_576a.2.2.2.2.2.2.1) (by decide)).to) hC, ?_⟩
  refine List.forall_mem_cons.mpr ⟨am_Snd.toF ((s_iadd (am_dp pw_L_law_576 dd_L_law_576a.2.2.2.2.2.2.2)).to) hC, ?_⟩
  refine List.forall_mem_cons.mpr ⟨f_sld hC hX hb (am_dp pw_L_law_576 dd_L_law_576b.1), ?_⟩
  refine List.forall_mem_cons.mpr ⟨am_Snd.toF ((s_aloadn (am_dp pw_L_law_576 dd_L_law_576b.2.1) rfl).to) hC, ?_⟩
  refine List.forall_mem_cons.mpr ⟨am_Snd.toF ((s_iloadn (am_dp pw_L_law_576 dd_L_law_576b.2.2.1) rfl).to) hC, ?_⟩
  refine List.forall_mem_cons.mpr ⟨am_Snd.toF ((s_iconst (am_dp pw_L_law_576 dd_L_law_576b.2.2.2.1) (by decide)).to) hC, ?_⟩
  refine List.forall_mem_cons.mpr ⟨am_Snd.toF ((s_iadd (am_dp pw_L_law_576 dd_L_law_576b.2.2.2.2.1)).to) hC, ?_⟩
  refine List.forall_mem_cons.mpr ⟨f_sld hC hX hb (am_dp pw_L_law_576 dd_L_law_576b.2.2.2.2.2.1), ?_⟩
  refine List.forall_mem_cons.mpr ⟨am_Snd.toF (zw_cv119 (am_dp pw_L_law_576 dd_L_law_576b.2.2.2.2.2.2.1) wd1049) hC, ?_⟩
  refine List.forall_mem_cons.mpr ⟨am_Snd.toF ((s_pop (am_dp pw_L_law_576 dd_L_law_576b.2.2.2.2.2.2.2)).to) hC, ?_⟩
  refine List.forall_mem_cons.mpr ⟨am_Snd.toF ((s_aloadn (am_dp pw_L_law_576 dd_L_law_576c.1) rfl).to) hC, ?_⟩
  refine List.forall_mem_cons.mpr ⟨am_Snd.toF ((s_aloadn (am_dp pw_L_law_576 dd_L_law_576c.2.1) rfl).to) hC, ?_⟩
  refine List.forall_mem_cons.mpr ⟨am_Snd.toF ((s_iloadn (am_dp pw_L_law_576 dd_L_law_576c.2.2.1) rfl).to) hC, ?_⟩
  refine List.forall_mem_cons.mpr ⟨am_Snd.toF ((s_iconst (am_dp pw_L_law_576 dd_L_law_576c.2.2.2.1) (by decide)).to) hC, ?_⟩
  refine List.forall_mem_cons.mpr ⟨am_Snd.toF ((s_iadd (am_dp pw_L_law_576 dd_L_law_576c.2.2.2.2.1)).to) hC, ?_⟩
  refine List.forall_mem_cons.mpr ⟨f_sld hC hX hb (am_dp pw_L_law_576 dd_L_law_576c.2.2.2.2.2.1), ?_⟩
  refine List.forall_mem_cons.mpr ⟨am_Snd.toF ((s_aloadn (am_dp pw_L_law_576 dd_L_law_576c.2.2.2.2.2.2.1) rfl).to) hC, ?_⟩
  refine List.forall_mem_cons.mpr ⟨am_Snd.toF ((s_iloadn (am_dp pw_L_law_576 dd_L_law_576c.2.2.2.2.2.2.2) rfl).to) hC, ?_⟩
  refine List.forall_mem_cons.mpr ⟨am_Snd.toF ((s_iconst (am_dp pw_L_law_576 dd_L_law_576d.1) (by decide)).to) hC, ?_⟩
  refine List.forall_mem_cons.mpr ⟨am_Snd.toF ((s_iadd (am_dp pw_L_law_576 dd_L_law_576d.2.1)).to) hC, ?_⟩
  exact fun _ h => absurd h List.not_mem_nil
theorem snL_6 (hC : am_Cx G RL code 4 (some .boolean) nm p s m args meth c) (hX : va_X (G.2.1.1 0) L xs s s.heap) (hb : G.2.1.1 0 < G.1) : ∀ q ∈ tL_6 xs L, am_SndF am_P0 G 4 p l e R s m args below meth c q.1 q.2 := by
  unfold tL_6
  refine List.forall_mem_cons.mpr ⟨f_sld hC hX hb (am_dp pw_L_law_576 dd_L_law_576d.2.2.1), ?_⟩
  refine List.forall_mem_cons.mpr ⟨am_Snd.toF ((s_aloadn (am_dp pw_L_law_576 dd_L_law_576d.2.2.2.1) rfl).to) hC, ?_⟩
  refine List.forall_mem_cons.mpr ⟨am_Snd.toF ((s_iloadn (am_dp pw_L_law_576 dd_L_law_576d.2.2.2.2.1) rfl).to) hC, ?_⟩
  refine List.forall_mem_cons.mpr ⟨am_Snd.toF ((s_iconst (am_dp pw_L_law_576 dd_L_law_576d.2.2.2.2.2) (by decide)).to) hC, ?_⟩
  refine List.forall_mem_cons.mpr ⟨am_Snd.toF ((s_iadd (am_dp pw_L_law_608 dd_L_law_608a.1)).to) hC, ?_⟩
  refine List.forall_mem_cons.mpr ⟨f_sld hC hX hb (am_dp pw_L_law_608 dd_L_law_608a.2.1), ?_⟩
  refine List.forall_mem_cons.mpr ⟨am_Snd.toF (zw_cv255 (am_dp pw_L_law_608 dd_L_law_608a.2.2.1) wd1930) hC, ?_⟩
  refine List.forall_mem_cons.mpr ⟨am_Snd.toF ((s_pop (am_dp pw_L_law_608 dd_L_law_608a.2.2.2.1)).to) hC, ?_⟩
  refine List.forall_mem_cons.mpr ⟨am_Snd.toF ((s_goto (am_dp pw_L_law_608 dd_L_law_608a.2.2.2.2.1) (by decide)).to) hC, ?_⟩
  refine List.forall_mem_cons.mpr ⟨am_Snd.toF ((s_aloadn (am_dp pw_L_law_608 dd_L_law_608a.2.2.2.2.2.1) rfl).to) hC, ?_⟩
  refine List.forall_mem_cons.mpr ⟨am_Snd.toF ((s_aloadn (am_dp pw_L_law_608 dd_L_law_608a.2.2.2.2.2.2.1) rfl).to) hC, ?_⟩
  refine List.forall_mem_cons.mpr ⟨am_Snd.toF ((s_iloadn (am_dp pw_L_law_608 dd_L_law_608a.2.2.2.2.2.2.2) rfl).to) hC, ?_⟩
  refine List.forall_mem_cons.mpr ⟨am_Snd.toF ((s_iconst (am_dp pw_L_law_608 dd_L_law_608b.1) (by decide)).to) hC, ?_⟩
  refine List.forall_mem_cons.mpr ⟨am_Snd.toF ((s_iadd (am_dp pw_L_law_608 dd_L_law_608b.2.1)).to) hC, ?_⟩
  refine List.forall_mem_cons.mpr ⟨f_sld hC hX hb (am_dp pw_L_law_608 dd_L_law_608b.2.2.1), ?_⟩
  refine List.forall_mem_cons.mpr ⟨am_Snd.toF ((s_aloadn (am_dp pw_L_law_608 dd_L_law_608b.2.2.2.1) rfl).to) hC, ?_⟩
  refine List.forall_mem_cons.mpr ⟨am_Snd.toF ((s_iloadn (am_dp pw_L_law_608 dd_L_law_608b.2.2.2.2.1) rfl).to) hC, ?_⟩
  refine List.forall_mem_cons.mpr ⟨am_Snd.toF ((s_iconst (am_dp pw_L_law_608 dd_L_law_608b.2.2.2.2.2.1) (by decide)).to) hC, ?_⟩
  refine List.forall_mem_cons.mpr ⟨am_Snd.toF ((s_iadd (am_dp pw_L_law_608 dd_L_law_608b.2.2.2.2.2.2.1)).to) hC, ?_⟩
  refine List.forall_mem_cons.mpr ⟨f_sld hC hX hb (am_dp pw_L_law_608 dd_L_law_608b.2.2.2.2.2.2.2), ?_⟩
  refine List.forall_mem_cons.mpr ⟨am_Snd.toF ((s_aloadn (am_dp pw_L_law_608 dd_L_law_608c.1) rfl).to) hC, ?_⟩
  refine List.forall_mem_cons.mpr ⟨am_Snd.toF ((s_iloadn (am_dp pw_L_law_608 dd_L_law_608c.2.1) rfl).to) hC, ?_⟩
  refine List.forall_mem_cons.mpr ⟨am_Snd.toF ((s_iconst (am_dp pw_L_law_608 dd_L_law_608c.2.2.1) (by decide)).to) hC, ?_⟩
  refine List.forall_mem_cons.mpr ⟨am_Snd.toF ((s_iadd (am_dp pw_L_law_608 dd_L_law_608c.2.2.2.1)).to) hC, ?_⟩
  refine List.forall_mem_cons.mpr ⟨f_sld hC hX hb (am_dp pw_L_law_608 dd_L_law_608c.2.2.2.2.1), ?_⟩
  refine List.forall_mem_cons.mpr ⟨am_Snd.toF (zw_cv120 (am_dp pw_L_law_608 dd_L_law_608c.2.2.2.2.2.1) wd1060) hC, ?_⟩
  refine List.forall_mem_cons.mpr ⟨am_Snd.toF ((s_pop (am_dp pw_L_law_608 dd_L_law_608c.2.2.2.2.2.2.1)).to) hC, ?_⟩
  refine List.forall_mem_cons.mpr ⟨am_Snd.toF ((s_aloadn (am_dp pw_L_law_608 dd_L_law_608c.2.2.2.2.2.2.2) rfl).to) hC, ?_⟩
  refine List.forall_mem_cons.mpr ⟨am_Snd.toF ((s_aloadn (am_dp pw_L_law_608 dd_L_law_608d.1) rfl).to) hC, ?_⟩
  refine List.forall_mem_cons.mpr ⟨am_Snd.toF ((s_iloadn (am_dp pw_L_law_608 dd_L_law_608d.2) rfl).to) hC, ?_⟩
  refine List.forall_mem_cons.mpr ⟨am_Snd.toF ((s_iconst (am_dp pw_L_law_640 dd_L_law_640a.1) (by decide)).to) hC, ?_⟩
  refine List.forall_mem_cons.mpr ⟨am_Snd.toF ((s_iadd (am_dp pw_L_law_640 dd_L_law_640a.2.1)).to) hC, ?_⟩
  refine List.forall_mem_cons.mpr ⟨f_sld hC hX hb (am_dp pw_L_law_640 dd_L_law_640a.2.2.1), ?_⟩
  refine List.forall_mem_cons.mpr ⟨am_Snd.toF ((s_aloadn (am_dp pw_L_law_640 dd_L_law_640a.2.2.2.1) rfl).to) hC, ?_⟩
  refine List.forall_mem_cons.mpr ⟨am_Snd.toF ((s_iloadn (am_dp pw_L_law_640 dd_L_law_640a.2.2.2.2.1) rfl).to) hC, ?_⟩
  refine List.forall_mem_cons.mpr ⟨am_Snd.toF ((s_iconst (am_dp pw_L_law_640 dd_L_law_640a.2.2.2.2.2.1) (by decide)).to) hC, ?_⟩
  refine List.forall_mem_cons.mpr ⟨am_Snd.toF ((s_iadd (am_dp pw_L_law_640 dd_L_law_640a.2.2.2.2.2.2.1)).to) hC, ?_⟩
  refine List.forall_mem_cons.mpr ⟨f_sld hC hX hb (am_dp pw_L_law_640 dd_L_law_640a.2.2.2.2.2.2.2), ?_⟩
  refine List.forall_mem_cons.mpr ⟨am_Snd.toF ((s_aloadn (am_dp pw_L_law_640 dd_L_law_640b.1) rfl).to) hC, ?_⟩
  refine List.forall_mem_cons.mpr ⟨am_Snd.toF ((s_iloadn (am_dp pw_L_law_640 dd_L_law_640b.2.1) rfl).to) hC, ?_⟩
  refine List.forall_mem_cons.mpr ⟨am_Snd.toF ((s_iconst (am_dp pw_L_law_640 dd_L_law_640b.2.2.1) (by decide)).to) hC, ?_⟩
  refine List.forall_mem_cons.mpr ⟨am_Snd.toF ((s_iadd (am_dp pw_L_law_640 dd_L_law_640b.2.2.2.1)).to) hC, ?_⟩
  refine List.forall_mem_cons.mpr ⟨f_sld hC hX hb (am_dp pw_L_law_640 dd_L_law_640b.2.2.2.2.1), ?_⟩
  refine List.forall_mem_cons.mpr ⟨am_Snd.toF (zw_cv256 (am_dp pw_L_law_640 dd_L_law_640b.2.2.2.2.2.1) wd1934) hC, ?_⟩
  refine List.forall_mem_cons.mpr ⟨am_Snd.toF ((s_pop (am_dp pw_L_law_640 dd_L_law_640b.2.2.2.2.2.2.1)).to) hC, ?_⟩
  refine List.forall_mem_cons.mpr ⟨am_Snd.toF ((s_goto (am_dp pw_L_law_640 dd_L_law_640b.2.2.2.2.2.2.2) (by decide)).to) hC, ?_⟩
  refine List.forall_mem_cons.mpr ⟨am_Snd.toF ((s_aloadn (am_dp pw_L_law_640 dd_L_law_640c.1) rfl).to) hC, ?_⟩
  refine List.forall_mem_cons.mpr ⟨am_Snd.toF ((s_aloadn (am_dp pw_L_law_640 dd_L_law_640c.2.1) rfl).to) hC, ?_⟩
  refine List.forall_mem_cons.mpr ⟨am_Snd.toF ((s_iloadn (am_dp pw_L_law_640 dd_L_law_640c.2.2.1) rfl).to) hC, ?_⟩
  refine List.forall_mem_cons.mpr ⟨am_Snd.toF ((s_iconst (am_dp pw_L_law_640 dd_L_law_640c.2.2.2.1) (by decide)).to) hC, ?_⟩
  refine List.forall_mem_cons.mpr ⟨am_Snd.toF ((s_iadd (am_dp pw_L_law_640 dd_L_law_640c.2.2.2.2.1)).to) hC, ?_⟩
  refine List.forall_mem_cons.mpr ⟨f_sld hC hX hb (am_dp pw_L_law_640 dd_L_law_640c.2.2.2.2.2.1), ?_⟩
  refine List.forall_mem_cons.mpr ⟨am_Snd.toF ((s_aloadn (am_dp pw_L_law_640 dd_L_law_640c.2.2.2.2.2.2.1) rfl).to) hC, ?_⟩
  refine List.forall_mem_cons.mpr ⟨am_Snd.toF ((s_iloadn (am_dp pw_L_law_640 dd_L_law_640c.2.2.2.2.2.2.2) rfl).to) hC, ?_⟩
  refine List.forall_mem_cons.mpr ⟨am_Snd.toF ((s_iconst (am_dp pw_L_law_640 dd_L_law_640d.1) (by decide)).to) hC, ?_⟩
  refine List.forall_mem_cons.mpr ⟨am_Snd.toF ((s_iadd (am_dp pw_L_law_640 dd_L_law_640d.2.1)).to) hC, ?_⟩
  refine List.forall_mem_cons.mpr ⟨f_sld hC hX hb (am_dp pw_L_law_640 dd_L_law_640d.2.2.1), ?_⟩
  refine List.forall_mem_cons.mpr ⟨am_Snd.toF ((s_aloadn (am_dp pw_L_law_640 dd_L_law_640d.2.2.2) rfl).to) hC, ?_⟩
  refine List.forall_mem_cons.mpr ⟨am_Snd.toF ((s_iloadn (am_dp pw_L_law_672 dd_L_law_672a.1) rfl).to) hC, ?_⟩
  refine List.forall_mem_cons.mpr ⟨am_Snd.toF ((s_iconst (am_dp pw_L_law_672 dd_L_law_672a.2.1) (by decide)).to) hC, ?_⟩
  exact fun _ h => absurd h List.not_mem_nil
theorem snL_7 (hC : am_Cx G RL code 4 (some .boolean) nm p s m args meth c) (hX : va_X (G.2.1.1 0) L xs s s.heap) (hb : G.2.1.1 0 < G.1) : ∀ q ∈ tL_7 xs L, am_SndF am_P0 G 4 p l e R s m args below meth c q.1 q.2 := by
  unfold tL_7
  refine List.forall_mem_cons.mpr ⟨am_Snd.toF ((s_iadd (am_dp pw_L_law_672 dd_L_law_672a.2.2.1)).to) hC, ?_⟩
  refine List.forall_mem_cons.mpr ⟨f_sld hC hX hb (am_dp pw_L_law_672 dd_L_law_672a.2.2.2.1), ?_⟩
  refine List.forall_mem_cons.mpr ⟨am_Snd.toF ((s_aloadn (am_dp pw_L_law_672 dd_L_law_672a.2.2.2.2.1) rfl).to) hC, ?_⟩
  refine List.forall_mem_cons.mpr ⟨am_Snd.toF ((s_iloadn (am_dp pw_L_law_672 dd_L_law_672a.2.2.2.2.2.1) rfl).to) hC, ?_⟩
  refine List.forall_mem_cons.mpr ⟨am_Snd.toF ((s_iconst (am_dp pw_L_law_672 dd_L_law_672a.2.2.2.2.2.2.1) (by decide)).to) hC, ?_⟩
  refine List.forall_mem_cons.mpr ⟨am_Snd.toF ((s_iadd (am_dp pw_L_law_672 dd_L_law_672a.2.2.2.2.2.2.2)).to) hC, ?_⟩
  refine List.forall_mem_cons.mpr ⟨f_sld hC hX hb (am_dp pw_L_law_672 dd_L_law_672b.1), ?_⟩
  refine List.forall_mem_cons.mpr ⟨am_Snd.toF (zw_cv121 (am_dp pw_L_law_672 dd_L_law_672b.2.1) wd1082) hC, ?_⟩
  refine List.forall_mem_cons.mpr ⟨am_Snd.toF ((s_pop (am_dp pw_L_law_672 dd_L_law_672b.2.2.1)).to) hC, ?_⟩
  refine List.forall_mem_cons.mpr ⟨am_Snd.toF ((s_aloadn (am_dp pw_L_law_672 dd_L_law_672b.2.2.2.1) rfl).to) hC, ?_⟩
  refine List.forall_mem_cons.mpr ⟨am_Snd.toF ((s_aloadn (am_dp pw_L_law_672 dd_L_law_672b.2.2.2.2.1) rfl).to) hC, ?_⟩
  refine List.forall_mem_cons.mpr ⟨am_Snd.toF ((s_iloadn (am_dp pw_L_law_672 dd_L_law_672b.2.2.2.2.2.1) rfl).to) hC, ?_⟩
  refine List.forall_mem_cons.mpr ⟨am_Snd.toF ((s_iconst (am_dp pw_L_law_672 dd_L_law_672b.2.2.2.2.2.2.1) (by decide)).to) hC, ?_⟩
  refine List.forall_mem_cons.mpr ⟨am_Snd.toF ((s_iadd (am_dp pw_L_law_672 dd_L_law_672b.2.2.2.2.2.2.2)).to) hC, ?_⟩
  refine List.forall_mem_cons.mpr ⟨f_sld hC hX hb (am_dp pw_L_law_672 dd_L_law_672c.1), ?_⟩
  refine List.forall_mem_cons.mpr ⟨am_Snd.toF ((s_aloadn (am_dp pw_L_law_672 dd_L_law_672c.2.1) rfl).to) hC, ?_⟩
  refine List.forall_mem_cons.mpr ⟨am_Snd.toF ((s_iloadn (am_dp pw_L_law_672 dd_L_law_672c.2.2.1) rfl).to) hC, ?_⟩
  refine List.forall_mem_cons.mpr ⟨am_Snd.toF ((s_iconst (am_dp pw_L_law_672 dd_L_law_672c.2.2.2.1) (by decide)).to) hC, ?_⟩
  refine List.forall_mem_cons.mpr ⟨am_Snd.toF ((s_iadd (am_dp pw_L_law_672 dd_L_law_672c.2.2.2.2.1)).to) hC, ?_⟩
  refine List.forall_mem_cons.mpr ⟨f_sld hC hX hb (am_dp pw_L_law_672 dd_L_law_672c.2.2.2.2.2.1), ?_⟩
  refine List.forall_mem_cons.mpr ⟨am_Snd.toF ((s_aloadn (am_dp pw_L_law_672 dd_L_law_672c.2.2.2.2.2.2.1) rfl).to) hC, ?_⟩
  refine List.forall_mem_cons.mpr ⟨am_Snd.toF ((s_iloadn (am_dp pw_L_law_672 dd_L_law_672c.2.2.2.2.2.2.2) rfl).to) hC, ?_⟩
  refine List.forall_mem_cons.mpr ⟨am_Snd.toF ((s_iconst (am_dp pw_L_law_672 dd_L_law_672d.1) (by decide)).to) hC, ?_⟩
  refine List.forall_mem_cons.mpr ⟨am_Snd.toF ((s_iadd (am_dp pw_L_law_672 dd_L_law_672d.2.1)).to) hC, ?_⟩
  refine List.forall_mem_cons.mpr ⟨f_sld hC hX hb (am_dp pw_L_law_672 dd_L_law_672d.2.2.1), ?_⟩
  refine List.forall_mem_cons.mpr ⟨am_Snd.toF ((s_aloadn (am_dp pw_L_law_672 dd_L_law_672d.2.2.2.1) rfl).to) hC, ?_⟩
  refine List.forall_mem_cons.mpr ⟨am_Snd.toF ((s_iloadn (am_dp pw_L_law_672 dd_L_law_672d.2.2.2.2.1) rfl).to) hC, ?_⟩
  refine List.forall_mem_cons.mpr ⟨am_Snd.toF ((s_iconst (am_dp pw_L_law_672 dd_L_law_672d.2.2.2.2.2) (by decide)).to) hC, ?_⟩
  refine List.forall_mem_cons.mpr ⟨am_Snd.toF ((s_iadd (am_dp pw_L_law_704 dd_L_law_704a.1)).to) hC, ?_⟩
  refine List.forall_mem_cons.mpr ⟨f_sld hC hX hb (am_dp pw_L_law_704 dd_L_law_704a.2.1), ?_⟩
  refine List.forall_mem_cons.mpr ⟨am_Snd.toF (zw_cv257 (am_dp pw_L_law_704 dd_L_law_704a.2.2.1) wd1950) hC, ?_⟩
  refine List.forall_mem_cons.mpr ⟨am_Snd.toF ((s_pop (am_dp pw_L_law_704 dd_L_law_704a.2.2.2.1)).to) hC, ?_⟩
  refine List.forall_mem_cons.mpr ⟨am_Snd.toF ((s_goto (am_dp pw_L_law_704 dd_L_law_704a.2.2.2.2.1) (by decide)).to) hC, ?_⟩
  refine List.forall_mem_cons.mpr ⟨am_Snd.toF ((s_aloadn (am_dp pw_L_law_704 dd_L_law_704a.2.2.2.2.2.1) rfl).to) hC, ?_⟩
  refine List.forall_mem_cons.mpr ⟨am_Snd.toF ((s_aloadn (am_dp pw_L_law_704 dd_L_law_704a.2.2.2.2.2.2.1) rfl).to) hC, ?_⟩
  refine List.forall_mem_cons.mpr ⟨am_Snd.toF ((s_iloadn (am_dp pw_L_law_704 dd_L_law_704a.2.2.2.2.2.2.2) rfl).to) hC, ?_⟩
  refine List.forall_mem_cons.mpr ⟨am_Snd.toF ((s_iconst (am_dp pw_L_law_704 dd_L_law_704b.1) (by decide)).to) hC, ?_⟩
  refine List.forall_mem_cons.mpr ⟨am_Snd.toF ((s_iadd (am_dp pw_L_law_704 dd_L_law_704b.2.1)).to) hC, ?_⟩
  refine List.forall_mem_cons.mpr ⟨f_sld hC hX hb (am_dp pw_L_law_704 dd_L_law_704b.2.2.1), ?_⟩
  refine List.forall_mem_cons.mpr ⟨am_Snd.toF ((s_aloadn (am_dp pw_L_law_704 dd_L_law_704b.2.2.2.1) rfl).to) hC, ?_⟩
  refine List.forall_mem_cons.mpr ⟨am_Snd.toF ((s_iloadn (am_dp pw_L_law_704 dd_L_law_704b.2.2.2.2.1) rfl).to) hC, ?_⟩
  refine List.forall_mem_cons.mpr ⟨am_Snd.toF ((s_iconst (am_dp pw_L_law_704 dd_L_law_704b.2.2.2.2.2.1) (by decide)).to) hC, ?_⟩
  refine List.forall_mem_cons.mpr ⟨am_Snd.toF ((s_iadd (am_dp pw_L_law_704 dd_L_law_704b.2.2.2.2.2.2.1)).to) hC, ?_⟩
  refine List.forall_mem_cons.mpr ⟨f_sld hC hX hb (am_dp pw_L_law_704 dd_L_law_704b.2.2.2.2.2.2.2), ?_⟩
  refine List.forall_mem_cons.mpr ⟨am_Snd.toF (zw_cv122 (am_dp pw_L_law_704 dd_L_law_704c.1) wd1086) hC, ?_⟩
  refine List.forall_mem_cons.mpr ⟨am_Snd.toF ((s_pop (am_dp pw_L_law_704 dd_L_law_704c.2.1)).to) hC, ?_⟩
  refine List.forall_mem_cons.mpr ⟨am_Snd.toF ((s_aloadn (am_dp pw_L_law_704 dd_L_law_704c.2.2.1) rfl).to) hC, ?_⟩
  refine List.forall_mem_cons.mpr ⟨am_Snd.toF ((s_aloadn (am_dp pw_L_law_704 dd_L_law_704c.2.2.2.1) rfl).to) hC, ?_⟩
  refine List.forall_mem_cons.mpr ⟨am_Snd.toF ((s_iloadn (am_dp pw_L_law_704 dd_L_law_704c.2.2.2.2.1) rfl).to) hC, ?_⟩
  refine List.forall_mem_cons.mpr ⟨am_Snd.toF ((s_iconst (am_dp pw_L_law_704 dd_L_law_704c.2.2.2.2.2.1) (by decide)).to) hC, ?_⟩
  refine List.forall_mem_cons.mpr ⟨am_Snd.toF ((s_iadd (am_dp pw_L_law_704 dd_L_law_704c.2.2.2.2.2.2.1)).to) hC, ?_⟩
  refine List.forall_mem_cons.mpr ⟨f_sld hC hX hb (am_dp pw_L_law_704 dd_L_law_704c.2.2.2.2.2.2.2), ?_⟩
  refine List.forall_mem_cons.mpr ⟨am_Snd.toF ((s_aloadn (am_dp pw_L_law_704 dd_L_law_704d.1) rfl).to) hC, ?_⟩
  refine List.forall_mem_cons.mpr ⟨am_Snd.toF ((s_iloadn (am_dp pw_L_law_704 dd_L_law_704d.2) rfl).to) hC, ?_⟩
  refine List.forall_mem_cons.mpr ⟨am_Snd.toF ((s_iconst (am_dp pw_L_law_736 dd_L_law_736a.1) (by decide)).to) hC, ?_⟩
  refine List.forall_mem_cons.mpr ⟨am_Snd.toF ((s_iadd (am_dp pw_L_law_736 dd_L_law_736a.2.1)).to) hC, ?_⟩
  refine List.forall_mem_cons.mpr ⟨f_sld hC hX hb (am_dp pw_L_law_736 dd_L_law_736a.2.2.1), ?_⟩
  refine List.forall_mem_cons.mpr ⟨am_Snd.toF (zw_cv266 (am_dp pw_L_law_736 dd_L_law_736a.2.2.2.1) wd1954) hC, ?_⟩
  refine List.forall_mem_cons.mpr ⟨am_Snd.toF ((s_pop (am_dp pw_L_law_736 dd_L_law_736a.2.2.2.2.1)).to) hC, ?_⟩
  refine List.forall_mem_cons.mpr ⟨am_Snd.toF ((s_goto (am_dp pw_L_law_736 dd_L_law_736a.2.2.2.2.2.1) (by decide)).to) hC, ?_⟩
  exact fun _ h => absurd h List.not_mem_nil
theorem snL_8 (hC : am_Cx G RL code 4 (some .boolean) nm p s m args meth c) (hX : va_X (G.2.1.1 0) L xs s s.heap) (hb : G.2.1.1 0 < G.1) : ∀ q ∈ tL_8 xs L, am_SndF am_P0 G 4 p l e R s m args below meth c q.1 q.2 := by
  unfold tL_8
  refine List.forall_mem_cons.mpr ⟨am_Snd.toF ((s_aloadn (am_dp pw_L_law_736 dd_L_law_736a.2.2.2.2.2.2.1) rfl).to) hC, ?_⟩
  refine List.forall_mem_cons.mpr ⟨am_Snd.toF ((s_aloadn (am_dp pw_L_law_736 dd_L_law_736a.2.2.2.2.2.2.2) rfl).to) hC, ?_⟩
  refine List.forall_mem_cons.mpr ⟨am_Snd.toF ((s_iloadn (am_dp pw_L_law_736 dd_L_law_736b.1) rfl).to) hC, ?_⟩
  refine List.forall_mem_cons.mpr ⟨am_Snd.toF ((s_iconst (am_dp pw_L_law_736 dd_L_law_736b.2.1) (by decide)).to) hC, ?_⟩
  refine List.forall_mem_cons.mpr ⟨am_Snd.toF ((s_iadd (am_dp pw_L_law_736 dd_L_law_736b.2.2.1)).to) hC, ?_⟩
  refine List.forall_mem_cons.mpr ⟨f_sld hC hX hb (am_dp pw_L_law_736 dd_L_law_736b.2.2.2.1), ?_⟩
  refine List.forall_mem_cons.mpr ⟨am_Snd.toF ((s_aloadn (am_dp pw_L_law_736 dd_L_law_736b.2.2.2.2.1) rfl).to) hC, ?_⟩
  refine List.forall_mem_cons.mpr ⟨am_Snd.toF ((s_iloadn (am_dp pw_L_law_736 dd_L_law_736b.2.2.2.2.2.1) rfl).to) hC, ?_⟩
  refine List.forall_mem_cons.mpr ⟨am_Snd.toF ((s_iconst (am_dp pw_L_law_736 dd_L_law_736b.2.2.2.2.2.2.1) (by decide)).to) hC, ?_⟩
  refine List.forall_mem_cons.mpr ⟨am_Snd.toF ((s_iadd (am_dp pw_L_law_736 dd_L_law_736b.2.2.2.2.2.2.2)).to) hC, ?_⟩
  refine List.forall_mem_cons.mpr ⟨f_sld hC hX hb (am_dp pw_L_law_736 dd_L_law_736c.1), ?_⟩
  refine List.forall_mem_cons.mpr ⟨am_Snd.toF (zw_cv123 (am_dp pw_L_law_736 dd_L_law_736c.2.1) wd1133) hC, ?_⟩
  refine List.forall_mem_cons.mpr ⟨am_Snd.toF ((s_pop (am_dp pw_L_law_736 dd_L_law_736c.2.2.1)).to) hC, ?_⟩
  refine List.forall_mem_cons.mpr ⟨am_Snd.toF ((s_aloadn (am_dp pw_L_law_736 dd_L_law_736c.2.2.2.1) rfl).to) hC, ?_⟩
  refine List.forall_mem_cons.mpr ⟨am_Snd.toF ((s_aloadn (am_dp pw_L_law_736 dd_L_law_736c.2.2.2.2.1) rfl).to) hC, ?_⟩
  refine List.forall_mem_cons.mpr ⟨am_Snd.toF ((s_iloadn (am_dp pw_L_law_736 dd_L_law_736c.2.2.2.2.2.1) rfl).to) hC, ?_⟩
  refine List.forall_mem_cons.mpr ⟨am_Snd.toF ((s_iconst (am_dp pw_L_law_736 dd_L_law_736c.2.2.2.2.2.2.1) (by decide)).to) hC, ?_⟩
  refine List.forall_mem_cons.mpr ⟨am_Snd.toF ((s_iadd (am_dp pw_L_law_736 dd_L_law_736c.2.2.2.2.2.2.2)).to) hC, ?_⟩
  refine List.forall_mem_cons.mpr ⟨f_sld hC hX hb (am_dp pw_L_law_736 dd_L_law_736d.1), ?_⟩
  refine List.forall_mem_cons.mpr ⟨am_Snd.toF ((s_aloadn (am_dp pw_L_law_736 dd_L_law_736d.2) rfl).to) hC, ?_⟩
  refine List.forall_mem_cons.mpr ⟨am_Snd.toF ((s_iloadn (am_dp pw_L_law_768 dd_L_law_768a.1) rfl).to) hC, ?_⟩
  refine List.forall_mem_cons.mpr ⟨am_Snd.toF ((s_iconst (am_dp pw_L_law_768 dd_L_law_768a.2.1) (by decide)).to) hC, ?_⟩
  refine List.forall_mem_cons.mpr ⟨am_Snd.toF ((s_iadd (am_dp pw_L_law_768 dd_L_law_768a.2.2.1)).to) hC, ?_⟩
  refine List.forall_mem_cons.mpr ⟨f_sld hC hX hb (am_dp pw_L_law_768 dd_L_law_768a.2.2.2.1), ?_⟩
  refine List.forall_mem_cons.mpr ⟨am_Snd.toF (zw_cv268 (am_dp pw_L_law_768 dd_L_law_768a.2.2.2.2.1) wd1998) hC, ?_⟩
  refine List.forall_mem_cons.mpr ⟨am_Snd.toF ((s_pop (am_dp pw_L_law_768 dd_L_law_768a.2.2.2.2.2.1)).to) hC, ?_⟩
  refine List.forall_mem_cons.mpr ⟨am_Snd.toF ((s_goto (am_dp pw_L_law_768 dd_L_law_768a.2.2.2.2.2.2.1) (by decide)).to) hC, ?_⟩
  refine List.forall_mem_cons.mpr ⟨am_Snd.toF ((s_aloadn (am_dp pw_L_law_768 dd_L_law_768a.2.2.2.2.2.2.2) rfl).to) hC, ?_⟩
  refine List.forall_mem_cons.mpr ⟨am_Snd.toF ((s_aloadn (am_dp pw_L_law_768 dd_L_law_768b.1) rfl).to) hC, ?_⟩
  refine List.forall_mem_cons.mpr ⟨am_Snd.toF ((s_iloadn (am_dp pw_L_law_768 dd_L_law_768b.2.1) rfl).to) hC, ?_⟩
  refine List.forall_mem_cons.mpr ⟨am_Snd.toF ((s_iconst (am_dp pw_L_law_768 dd_L_law_768b.2.2.1) (by decide)).to) hC, ?_⟩
  refine List.forall_mem_cons.mpr ⟨am_Snd.toF ((s_iadd (am_dp pw_L_law_768 dd_L_law_768b.2.2.2.1)).to) hC, ?_⟩
  refine List.forall_mem_cons.mpr ⟨f_sld hC hX hb (am_dp pw_L_law_768 dd_L_law_768b.2.2.2.2.1), ?_⟩
  refine List.forall_mem_cons.mpr ⟨am_Snd.toF (zw_cv124 (am_dp pw_L_law_768 dd_L_law_768b.2.2.2.2.2.1) wd1137) hC, ?_⟩
  refine List.forall_mem_cons.mpr ⟨am_Snd.toF ((s_pop (am_dp pw_L_law_768 dd_L_law_768b.2.2.2.2.2.2.1)).to) hC, ?_⟩
  refine List.forall_mem_cons.mpr ⟨am_Snd.toF ((s_aloadn (am_dp pw_L_law_768 dd_L_law_768b.2.2.2.2.2.2.2) rfl).to) hC, ?_⟩
  refine List.forall_mem_cons.mpr ⟨am_Snd.toF ((s_aloadn (am_dp pw_L_law_768 dd_L_law_768c.1) rfl).to) hC, ?_⟩
  refine List.forall_mem_cons.mpr ⟨am_Snd.toF ((s_iloadn (am_dp pw_L_law_768 dd_L_law_768c.2.1) rfl).to) hC, ?_⟩
  refine List.forall_mem_cons.mpr ⟨am_Snd.toF ((s_iconst (am_dp pw_L_law_768 dd_L_law_768c.2.2.1) (by decide)).to) hC, ?_⟩
  refine List.forall_mem_cons.mpr ⟨am_Snd.toF ((s_iadd (am_dp pw_L_law_768 dd_L_law_768c.2.2.2.1)).to) hC, ?_⟩
  refine List.forall_mem_cons.mpr ⟨f_sld hC hX hb (am_dp pw_L_law_768 dd_L_law_768c.2.2.2.2.1), ?_⟩
  refine List.forall_mem_cons.mpr ⟨am_Snd.toF (zw_cv269 (am_dp pw_L_law_768 dd_L_law_768c.2.2.2.2.2.1) wd2006) hC, ?_⟩
  refine List.forall_mem_cons.mpr ⟨am_Snd.toF ((s_pop (am_dp pw_L_law_768 dd_L_law_768c.2.2.2.2.2.2.1)).to) hC, ?_⟩
  refine List.forall_mem_cons.mpr ⟨am_Snd.toF ((s_goto (am_dp pw_L_law_768 dd_L_law_768c.2.2.2.2.2.2.2) (by decide)).to) hC, ?_⟩
  refine List.forall_mem_cons.mpr ⟨am_Snd.toF ((s_aloadn (am_dp pw_L_law_800 dd_L_law_800a.1) rfl).to) hC, ?_⟩
  refine List.forall_mem_cons.mpr ⟨am_Snd.toF ((s_aloadn (am_dp pw_L_law_800 dd_L_law_800a.2.1) rfl).to) hC, ?_⟩
  refine List.forall_mem_cons.mpr ⟨am_Snd.toF ((s_iloadn (am_dp pw_L_law_800 dd_L_law_800a.2.2.1) rfl).to) hC, ?_⟩
  refine List.forall_mem_cons.mpr ⟨am_Snd.toF ((s_iconst (am_dp pw_L_law_800 dd_L_law_800a.2.2.2.1) (by decide)).to) hC, ?_⟩
  refine List.forall_mem_cons.mpr ⟨am_Snd.toF ((s_iadd (am_dp pw_L_law_800 dd_L_law_800a.2.2.2.2.1)).to) hC, ?_⟩
  refine List.forall_mem_cons.mpr ⟨f_sld hC hX hb (am_dp pw_L_law_800 dd_L_law_800a.2.2.2.2.2.1), ?_⟩
  refine List.forall_mem_cons.mpr ⟨am_Snd.toF ((s_aloadn (am_dp pw_L_law_800 dd_L_law_800a.2.2.2.2.2.2.1) rfl).to) hC, ?_⟩
  refine List.forall_mem_cons.mpr ⟨am_Snd.toF ((s_iloadn (am_dp pw_L_law_800 dd_L_law_800a.2.2.2.2.2.2.2) rfl).to) hC, ?_⟩
  refine List.forall_mem_cons.mpr ⟨am_Snd.toF ((s_iconst (am_dp pw_L_law_800 dd_L_law_800b.1) (by decide)).to) hC, ?_⟩
  refine List.forall_mem_cons.mpr ⟨am_Snd.toF ((s_iadd (am_dp pw_L_law_800 dd_L_law_800b.2.1)).to) hC, ?_⟩
  refine List.forall_mem_cons.mpr ⟨f_sld hC hX hb (am_dp pw_L_law_800 dd_L_law_800b.2.2.1), ?_⟩
  refine List.forall_mem_cons.mpr ⟨am_Snd.toF (zw_cv125 (am_dp pw_L_law_800 dd_L_law_800b.2.2.2.1) wd1145) hC, ?_⟩
  refine List.forall_mem_cons.mpr ⟨am_Snd.toF ((s_pop (am_dp pw_L_law_800 dd_L_law_800b.2.2.2.2.1)).to) hC, ?_⟩
  refine List.forall_mem_cons.mpr ⟨am_Snd.toF ((s_aloadn (am_dp pw_L_law_800 dd_L_law_800b.2.2.2.2.2.1) rfl).to) hC, ?_⟩
  refine List.forall_mem_cons.mpr ⟨am_Snd.toF ((s_aloadn (am_dp pw_L_law_800 dd_L_law_800b.2.2.2.2.2.2.1) rfl).to) hC, ?_⟩
  refine List.forall_mem_cons.mpr ⟨am_Snd.toF ((s_iloadn (am_dp pw_L_law_800 dd_L_law_800b.2.2.2.2.2.2.2) rfl).to) hC, ?_⟩
  exact fun _ h => absurd h List.not_mem_nil
theorem snL_9 (hC : am_Cx G RL code 4 (some .boolean) nm p s m args meth c) (hX : va_X (G.2.1.1 0) L xs s s.heap) (hb : G.2.1.1 0 < G.1) : ∀ q ∈ tL_9 xs L, am_SndF am_P0 G 4 p l e R s m args below meth c q.1 q.2 := by
  unfold tL_9
  refine List.forall_mem_cons.mpr ⟨am_Snd.toF ((s_iconst (am_dp pw_L_law_800 dd_L_law_800c.1) (by decide)).to) hC, ?_⟩
  refine List.forall_mem_cons.mpr ⟨am_Snd.toF ((s_iadd (am_dp pw_L_law_800 dd_L_law_800c.2.1)).to) hC, ?_⟩
  refine List.forall_mem_cons.mpr ⟨f_sld hC hX hb (am_dp pw_L_law_800 dd_L_law_800c.2.2.1), ?_⟩
  refine List.forall_mem_cons.mpr ⟨am_Snd.toF ((s_aloadn (am_dp pw_L_law_800 dd_L_law_800c.2.2.2.1) rfl).to) hC, ?_⟩
  refine List.forall_mem_cons.mpr ⟨am_Snd.toF ((s_iloadn (am_dp pw_L_law_800 dd_L_law_800c.2.2.2.2.1) rfl).to) hC, ?_⟩
  refine List.forall_mem_cons.mpr ⟨am_Snd.toF ((s_iconst (am_dp pw_L_law_800 dd_L_law_800c.2.2.2.2.2.1) (by decide)).to) hC, ?_⟩
  refine List.forall_mem_cons.mpr ⟨am_Snd.toF ((s_iadd (am_dp pw_L_law_800 dd_L_law_800c.2.2.2.2.2.2.1)).to) hC, ?_⟩
  refine List.forall_mem_cons.mpr ⟨f_sld hC hX hb (am_dp pw_L_law_800 dd_L_law_800c.2.2.2.2.2.2.2), ?_⟩
  refine List.forall_mem_cons.mpr ⟨am_Snd.toF (zw_cv270 (am_dp pw_L_law_800 dd_L_law_800d.1) wd2010) hC, ?_⟩
  refine List.forall_mem_cons.mpr ⟨am_Snd.toF ((s_pop (am_dp pw_L_law_800 dd_L_law_800d.2)).to) hC, ?_⟩
  refine List.forall_mem_cons.mpr ⟨am_Snd.toF ((s_goto (am_dp pw_L_law_832 dd_L_law_832a.1) (by decide)).to) hC, ?_⟩
  refine List.forall_mem_cons.mpr ⟨am_Snd.toF ((s_aloadn (am_dp pw_L_law_832 dd_L_law_832a.2.1) rfl).to) hC, ?_⟩
  refine List.forall_mem_cons.mpr ⟨am_Snd.toF ((s_aloadn (am_dp pw_L_law_832 dd_L_law_832a.2.2.1) rfl).to) hC, ?_⟩
  refine List.forall_mem_cons.mpr ⟨am_Snd.toF ((s_iloadn (am_dp pw_L_law_832 dd_L_law_832a.2.2.2.1) rfl).to) hC, ?_⟩
  refine List.forall_mem_cons.mpr ⟨am_Snd.toF ((s_iconst (am_dp pw_L_law_832 dd_L_law_832a.2.2.2.2.1) (by decide)).to) hC, ?_⟩
  refine List.forall_mem_cons.mpr ⟨am_Snd.toF ((s_iadd (am_dp pw_L_law_832 dd_L_law_832a.2.2.2.2.2.1)).to) hC, ?_⟩
  refine List.forall_mem_cons.mpr ⟨f_sld hC hX hb (am_dp pw_L_law_832 dd_L_law_832a.2.2.2.2.2.2.1), ?_⟩
  refine List.forall_mem_cons.mpr ⟨am_Snd.toF (zw_cv126 (am_dp pw_L_law_832 dd_L_law_832a.2.2.2.2.2.2.2) wd1158) hC, ?_⟩
  refine List.forall_mem_cons.mpr ⟨am_Snd.toF ((s_pop (am_dp pw_L_law_832 dd_L_law_832b.1)).to) hC, ?_⟩
  refine List.forall_mem_cons.mpr ⟨am_Snd.toF ((s_aloadn (am_dp pw_L_law_832 dd_L_law_832b.2.1) rfl).to) hC, ?_⟩
  refine List.forall_mem_cons.mpr ⟨am_Snd.toF ((s_aloadn (am_dp pw_L_law_832 dd_L_law_832b.2.2.1) rfl).to) hC, ?_⟩
  refine List.forall_mem_cons.mpr ⟨am_Snd.toF ((s_iloadn (am_dp pw_L_law_832 dd_L_law_832b.2.2.2.1) rfl).to) hC, ?_⟩
  refine List.forall_mem_cons.mpr ⟨am_Snd.toF ((s_iconst (am_dp pw_L_law_832 dd_L_law_832b.2.2.2.2.1) (by decide)).to) hC, ?_⟩
  refine List.forall_mem_cons.mpr ⟨am_Snd.toF ((s_iadd (am_dp pw_L_law_832 dd_L_law_832b.2.2.2.2.2.1)).to) hC, ?_⟩
  refine List.forall_mem_cons.mpr ⟨f_sld hC hX hb (am_dp pw_L_law_832 dd_L_law_832b.2.2.2.2.2.2.1), ?_⟩
  refine List.forall_mem_cons.mpr ⟨am_Snd.toF (zw_cv271 (am_dp pw_L_law_832 dd_L_law_832b.2.2.2.2.2.2.2) wd2014) hC, ?_⟩
  refine List.forall_mem_cons.mpr ⟨am_Snd.toF ((s_pop (am_dp pw_L_law_832 dd_L_law_832c.1)).to) hC, ?_⟩
  refine List.forall_mem_cons.mpr ⟨am_Snd.toF ((s_goto (am_dp pw_L_law_832 dd_L_law_832c.2.1) (by decide)).to) hC, ?_⟩
  refine List.forall_mem_cons.mpr ⟨am_Snd.toF ((s_aloadn (am_dp pw_L_law_832 dd_L_law_832c.2.2.1) rfl).to) hC, ?_⟩
  refine List.forall_mem_cons.mpr ⟨am_Snd.toF ((s_aloadn (am_dp pw_L_law_832 dd_L_law_832c.2.2.2.1) rfl).to) hC, ?_⟩
  refine List.forall_mem_cons.mpr ⟨am_Snd.toF ((s_iloadn (am_dp pw_L_law_832 dd_L_law_832c.2.2.2.2.1) rfl).to) hC, ?_⟩
  refine List.forall_mem_cons.mpr ⟨am_Snd.toF ((s_iconst (am_dp pw_L_law_832 dd_L_law_832c.2.2.2.2.2.1) (by decide)).to) hC, ?_⟩
  refine List.forall_mem_cons.mpr ⟨am_Snd.toF ((s_iadd (am_dp pw_L_law_832 dd_L_law_832c.2.2.2.2.2.2.1)).to) hC, ?_⟩
  refine List.forall_mem_cons.mpr ⟨f_sld hC hX hb (am_dp pw_L_law_832 dd_L_law_832c.2.2.2.2.2.2.2), ?_⟩
  refine List.forall_mem_cons.mpr ⟨am_Snd.toF ((s_aloadn (am_dp pw_L_law_864 dd_L_law_864a.1) rfl).to) hC, ?_⟩
  refine List.forall_mem_cons.mpr ⟨am_Snd.toF ((s_iloadn (am_dp pw_L_law_864 dd_L_law_864a.2.1) rfl).to) hC, ?_⟩
  refine List.forall_mem_cons.mpr ⟨am_Snd.toF ((s_iconst (am_dp pw_L_law_864 dd_L_law_864a.2.2.1) (by decide)).to) hC, ?_⟩
  refine List.forall_mem_cons.mpr ⟨am_Snd.toF ((s_iadd (am_dp pw_L_law_864 dd_L_law_864a.2.2.2.1)).to) hC, ?_⟩
  refine List.forall_mem_cons.mpr ⟨f_sld hC hX hb (am_dp pw_L_law_864 dd_L_law_864a.2.2.2.2.1), ?_⟩
  refine List.forall_mem_cons.mpr ⟨am_Snd.toF (zw_cv127 (am_dp pw_L_law_864 dd_L_law_864a.2.2.2.2.2.1) wd1162) hC, ?_⟩
  refine List.forall_mem_cons.mpr ⟨am_Snd.toF ((s_pop (am_dp pw_L_law_864 dd_L_law_864a.2.2.2.2.2.2.1)).to) hC, ?_⟩
  refine List.forall_mem_cons.mpr ⟨am_Snd.toF ((s_aloadn (am_dp pw_L_law_864 dd_L_law_864a.2.2.2.2.2.2.2) rfl).to) hC, ?_⟩
  refine List.forall_mem_cons.mpr ⟨am_Snd.toF ((s_aloadn (am_dp pw_L_law_864 dd_L_law_864b.1) rfl).to) hC, ?_⟩
  refine List.forall_mem_cons.mpr ⟨am_Snd.toF ((s_iloadn (am_dp pw_L_law_864 dd_L_law_864b.2.1) rfl).to) hC, ?_⟩
  refine List.forall_mem_cons.mpr ⟨am_Snd.toF ((s_iconst (am_dp pw_L_law_864 dd_L_law_864b.2.2.1) (by decide)).to) hC, ?_⟩
  refine List.forall_mem_cons.mpr ⟨am_Snd.toF ((s_iadd (am_dp pw_L_law_864 dd_L_law_864b.2.2.2.1)).to) hC, ?_⟩
  refine List.forall_mem_cons.mpr ⟨f_sld hC hX hb (am_dp pw_L_law_864 dd_L_law_864b.2.2.2.2.1), ?_⟩
  refine List.forall_mem_cons.mpr ⟨am_Snd.toF ((s_aloadn (am_dp pw_L_law_864 dd_L_law_864b.2.2.2.2.2.1) rfl).to) hC, ?_⟩
  refine List.forall_mem_cons.mpr ⟨am_Snd.toF ((s_iloadn (am_dp pw_L_law_864 dd_L_law_864b.2.2.2.2.2.2.1) rfl).to) hC, ?_⟩
  refine List.forall_mem_cons.mpr ⟨am_Snd.toF ((s_iconst (am_dp pw_L_law_864 dd_L_law_864b.2.2.2.2.2.2.2) (by decide)).to) hC, ?_⟩
  refine List.forall_mem_cons.mpr ⟨am_Snd.toF ((s_iadd (am_dp pw_L_law_864 dd_L_law_864c.1)).to) hC, ?_⟩
  refine List.forall_mem_cons.mpr ⟨f_sld hC hX hb (am_dp pw_L_law_864 dd_L_law_864c.2.1), ?_⟩
  refine List.forall_mem_cons.mpr ⟨am_Snd.toF (zw_cv273 (am_dp pw_L_law_864 dd_L_law_864c.2.2.1) wd2018) hC, ?_⟩
  refine List.forall_mem_cons.mpr ⟨am_Snd.toF ((s_pop (am_dp pw_L_law_864 dd_L_law_864c.2.2.2.1)).to) hC, ?_⟩
  refine List.forall_mem_cons.mpr ⟨am_Snd.toF ((s_goto (am_dp pw_L_law_864 dd_L_law_864c.2.2.2.2.1) (by decide)).to) hC, ?_⟩
  refine List.forall_mem_cons.mpr ⟨am_Snd.toF ((s_aloadn (am_dp pw_L_law_864 dd_L_law_864c.2.2.2.2.2.1) rfl).to) hC, ?_⟩
  refine List.forall_mem_cons.mpr ⟨am_Snd.toF ((s_aloadn (am_dp pw_L_law_864 dd_L_law_864c.2.2.2.2.2.2.1) rfl).to) hC, ?_⟩
  refine List.forall_mem_cons.mpr ⟨am_Snd.toF ((s_iloadn (am_dp pw_L_law_864 dd_L_law_864c.2.2.2.2.2.2.2) rfl).to) hC, ?_⟩
  refine List.forall_mem_cons.mpr ⟨am_Snd.toF ((s_iconst (am_dp pw_L_law_864 dd_L_law_864d.1) (by decide)).to) hC, ?_⟩
  refine List.forall_mem_cons.mpr ⟨am_Snd.toF ((s_iadd (am_dp pw_L_law_864 dd_L_law_864d.2)).to) hC, ?_⟩
  exact fun _ h => absurd h List.not_mem_nil
theorem snL_10 (hC : am_Cx G RL code 4 (some .boolean) nm p s m args meth c) (hX : va_X (G.2.1.1 0) L xs s s.heap) (hb : G.2.1.1 0 < G.1) : ∀ q ∈ tL_10 xs L, am_SndF am_P0 G 4 p l e R s m args below meth c q.1 q.2 := by
  unfold tL_10
  refine List.forall_mem_cons.mpr ⟨f_sld hC hX hb (am_dp pw_L_law_896 dd_L_law_896a.1), ?_⟩
  refine List.forall_mem_cons.mpr ⟨am_Snd.toF (zw_cv128 (am_dp pw_L_law_896 dd_L_law_896a.2.1) wd1166) hC, ?_⟩
  refine List.forall_mem_cons.mpr ⟨am_Snd.toF ((s_pop (am_dp pw_L_law_896 dd_L_law_896a.2.2.1)).to) hC, ?_⟩
  refine List.forall_mem_cons.mpr ⟨am_Snd.toF ((s_aloadn (am_dp pw_L_law_896 dd_L_law_896a.2.2.2.1) rfl).to) hC, ?_⟩
  refine List.forall_mem_cons.mpr ⟨am_Snd.toF ((s_aloadn (am_dp pw_L_law_896 dd_L_law_896a.2.2.2.2.1) rfl).to) hC, ?_⟩
  refine List.forall_mem_cons.mpr ⟨am_Snd.toF ((s_iloadn (am_dp pw_L_law_896 dd_L_law_896a.2.2.2.2.2.1) rfl).to) hC, ?_⟩
  refine List.forall_mem_cons.mpr ⟨am_Snd.toF ((s_iconst (am_dp pw_L_law_896 dd_L_law_896a.2.2.2.2.2.2.1) (by decide)).to) hC, ?_⟩
  refine List.forall_mem_cons.mpr ⟨am_Snd.toF ((s_iadd (am_dp pw_L_law_896 dd_L_law_896a.2.2.2.2.2.2.2)).to) hC, ?_⟩
  refine List.forall_mem_cons.mpr ⟨f_sld hC hX hb (am_dp pw_L_law_896 dd_L_law_896b.1), ?_⟩
  refine List.forall_mem_cons.mpr ⟨am_Snd.toF (zw_cv274 (am_dp pw_L_law_896 dd_L_law_896b.2.1) wd2026) hC, ?_⟩
  refine List.forall_mem_cons.mpr ⟨am_Snd.toF ((s_pop (am_dp pw_L_law_896 dd_L_law_896b.2.2.1)).to) hC, ?_⟩
  refine List.forall_mem_cons.mpr ⟨am_Snd.toF ((s_goto (am_dp pw_L_law_896 dd_L_law_896b.2.2.2.1) (by decide)).to) hC, ?_⟩
  refine List.forall_mem_cons.mpr ⟨am_Snd.toF ((s_aloadn (am_dp pw_L_law_896 dd_L_law_896b.2.2.2.2.1) rfl).to) hC, ?_⟩
  refine List.forall_mem_cons.mpr ⟨am_Snd.toF (zw_cv129 (am_dp pw_L_law_896 dd_L_law_896b.2.2.2.2.2.1) wd1173) hC, ?_⟩
  refine List.forall_mem_cons.mpr ⟨am_Snd.toF ((s_pop (am_dp pw_L_law_896 dd_L_law_896b.2.2.2.2.2.2.1)).to) hC, ?_⟩
  refine List.forall_mem_cons.mpr ⟨am_Snd.toF ((s_aloadn (am_dp pw_L_law_896 dd_L_law_896b.2.2.2.2.2.2.2) rfl).to) hC, ?_⟩
  refine List.forall_mem_cons.mpr ⟨am_Snd.toF (zw_cv276 (am_dp pw_L_law_896 dd_L_law_896c.1) wd2030) hC, ?_⟩
  refine List.forall_mem_cons.mpr ⟨am_Snd.toF ((s_pop (am_dp pw_L_law_896 dd_L_law_896c.2.1)).to) hC, ?_⟩
  refine List.forall_mem_cons.mpr ⟨am_Snd.toF ((s_goto (am_dp pw_L_law_896 dd_L_law_896c.2.2.1) (by decide)).to) hC, ?_⟩
  refine List.forall_mem_cons.mpr ⟨am_Snd.toF ((s_aloadn (am_dp pw_L_law_896 dd_L_law_896c.2.2.2) rfl).to) hC, ?_⟩
  refine List.forall_mem_cons.mpr ⟨am_Snd.toF ((s_aloadn (am_dp pw_L_law_928 dd_L_law_928a.1) rfl).to) hC, ?_⟩
  refine List.forall_mem_cons.mpr ⟨am_Snd.toF ((s_iloadn (am_dp pw_L_law_928 dd_L_law_928a.2.1) rfl).to) hC, ?_⟩
  refine List.forall_mem_cons.mpr ⟨am_Snd.toF ((s_iconst (am_dp pw_L_law_928 dd_L_law_928a.2.2.1) (by decide)).to) hC, ?_⟩
  refine List.forall_mem_cons.mpr ⟨am_Snd.toF ((s_iadd (am_dp pw_L_law_928 dd_L_law_928a.2.2.2.1)).to) hC, ?_⟩
  refine List.forall_mem_cons.mpr ⟨f_sld hC hX hb (am_dp pw_L_law_928 dd_L_law_928a.2.2.2.2.1), ?_⟩
  refine List.forall_mem_cons.mpr ⟨am_Snd.toF ((s_aloadn (am_dp pw_L_law_928 dd_L_law_928a.2.2.2.2.2.1) rfl).to) hC, ?_⟩
  refine List.forall_mem_cons.mpr ⟨am_Snd.toF ((s_iloadn (am_dp pw_L_law_928 dd_L_law_928a.2.2.2.2.2.2.1) rfl).to) hC, ?_⟩
  refine List.forall_mem_cons.mpr ⟨am_Snd.toF ((s_iconst (am_dp pw_L_law_928 dd_L_law_928a.2.2.2.2.2.2.2) (by decide)).to) hC, ?_⟩
  refine List.forall_mem_cons.mpr ⟨am_Snd.toF ((s_iadd (am_dp pw_L_law_928 dd_L_law_928b.1)).to) hC, ?_⟩
  refine List.forall_mem_cons.mpr ⟨f_sld hC hX hb (am_dp pw_L_law_928 dd_L_law_928b.2.1), ?_⟩
  refine List.forall_mem_cons.mpr ⟨am_Snd.toF ((s_aloadn (am_dp pw_L_law_928 dd_L_law_928b.2.2.1) rfl).to) hC, ?_⟩
  refine List.forall_mem_cons.mpr ⟨am_Snd.toF ((s_iloadn (am_dp pw_L_law_928 dd_L_law_928b.2.2.2.1) rfl).to) hC, ?_⟩
  refine List.forall_mem_cons.mpr ⟨am_Snd.toF ((s_iconst (am_dp pw_L_law_928 dd_L_law_928b.2.2.2.2.1) (by decide)).to) hC, ?_⟩
  refine List.forall_mem_cons.mpr ⟨am_Snd.toF ((s_iadd (am_dp pw_L_law_928 dd_L_law_928b.2.2.2.2.2.1)).to) hC, ?_⟩
  refine List.forall_mem_cons.mpr ⟨f_sld hC hX hb (am_dp pw_L_law_928 dd_L_law_928b.2.2.2.2.2.2.1), ?_⟩
  refine List.forall_mem_cons.mpr ⟨am_Snd.toF (zw_cv130 (am_dp pw_L_law_928 dd_L_law_928b.2.2.2.2.2.2.2) wd1177) hC, ?_⟩
  refine List.forall_mem_cons.mpr ⟨am_Snd.toF ((s_pop (am_dp pw_L_law_928 dd_L_law_928c.1)).to) hC, ?_⟩
  refine List.forall_mem_cons.mpr ⟨am_Snd.toF ((s_aloadn (am_dp pw_L_law_928 dd_L_law_928c.2.1) rfl).to) hC, ?_⟩
  refine List.forall_mem_cons.mpr ⟨am_Snd.toF ((s_aloadn (am_dp pw_L_law_928 dd_L_law_928c.2.2.1) rfl).to) hC, ?_⟩
  refine List.forall_mem_cons.mpr ⟨am_Snd.toF ((s_iloadn (am_dp pw_L_law_928 dd_L_law_928c.2.2.2.1) rfl).to) hC, ?_⟩
  refine List.forall_mem_cons.mpr ⟨am_Snd.toF ((s_iconst (am_dp pw_L_law_928 dd_L_law_928c.2.2.2.2.1) (by decide)).to) hC, ?_⟩
  refine List.forall_mem_cons.mpr ⟨am_Snd.toF ((s_iadd (am_dp pw_L_law_928 dd_L_law_928c.2.2.2.2.2.1)).to) hC, ?_⟩
  refine List.forall_mem_cons.mpr ⟨f_sld hC hX hb (am_dp pw_L_law_928 dd_L_law_928c.2.2.2.2.2.2.1), ?_⟩
  refine List.forall_mem_cons.mpr ⟨am_Snd.toF ((s_aloadn (am_dp pw_L_law_928 dd_L_law_928c.2.2.2.2.2.2.2) rfl).to) hC, ?_⟩
  refine List.forall_mem_cons.mpr ⟨am_Snd.toF ((s_iloadn (am_dp pw_L_law_928 dd_L_law_928d.1) rfl).to) hC, ?_⟩
  refine List.forall_mem_cons.mpr ⟨am_Snd.toF ((s_iconst (am_dp pw_L_law_928 dd_L_law_928d.2.1) (by decide)).to) hC, ?_⟩
  refine List.forall_mem_cons.mpr ⟨am_Snd.toF ((s_iadd (am_dp pw_L_law_928 dd_L_law_928d.2.2.1)).to) hC, ?_⟩
  refine List.forall_mem_cons.mpr ⟨f_sld hC hX hb (am_dp pw_L_law_928 dd_L_law_928d.2.2.2.1), ?_⟩
  refine List.forall_mem_cons.mpr ⟨am_Snd.toF ((s_aloadn (am_dp pw_L_law_928 dd_L_law_928d.2.2.2.2.1) rfl).to) hC, ?_⟩
  refine List.forall_mem_cons.mpr ⟨am_Snd.toF ((s_iloadn (am_dp pw_L_law_928 dd_L_law_928d.2.2.2.2.2) rfl).to) hC, ?_⟩
  refine List.forall_mem_cons.mpr ⟨am_Snd.toF ((s_iconst (am_dp pw_L_law_960 dd_L_law_960a.1) (by decide)).to) hC, ?_⟩
  refine List.forall_mem_cons.mpr ⟨am_Snd.toF ((s_iadd (am_dp pw_L_law_960 dd_L_law_960a.2.1)).to) hC, ?_⟩
  refine List.forall_mem_cons.mpr ⟨f_sld hC hX hb (am_dp pw_L_law_960 dd_L_law_960a.2.2.1), ?_⟩
  refine List.forall_mem_cons.mpr ⟨am_Snd.toF (zw_cv278 (am_dp pw_L_law_960 dd_L_law_960a.2.2.2.1) wd2038) hC, ?_⟩
  refine List.forall_mem_cons.mpr ⟨am_Snd.toF ((s_pop (am_dp pw_L_law_960 dd_L_law_960a.2.2.2.2.1)).to) hC, ?_⟩
  refine List.forall_mem_cons.mpr ⟨am_Snd.toF ((s_goto (am_dp pw_L_law_960 dd_L_law_960a.2.2.2.2.2.1) (by decide)).to) hC, ?_⟩
  refine List.forall_mem_cons.mpr ⟨am_Snd.toF ((s_aloadn (am_dp pw_L_law_960 dd_L_law_960a.2.2.2.2.2.2.1) rfl).to) hC, ?_⟩
  refine List.forall_mem_cons.mpr ⟨am_Snd.toF ((s_aloadn (am_dp pw_L_law_960 dd_L_law_960a.2.2.2.2.2.2.2) rfl).to) hC, ?_⟩
  refine List.forall_mem_cons.mpr ⟨am_Snd.toF ((s_iloadn (am_dp pw_L_law_960 dd_L_law_960b.1) rfl).to) hC, ?_⟩
  refine List.forall_mem_cons.mpr ⟨am_Snd.toF ((s_iconst (am_dp pw_L_law_960 dd_L_law_960b.2.1) (by decide)).to) hC, ?_⟩
  exact fun _ h => absurd h List.not_mem_nil
theorem snL_11 (hC : am_Cx G RL code 4 (some .boolean) nm p s m args meth c) (hX : va_X (G.2.1.1 0) L xs s s.heap) (hb : G.2.1.1 0 < G.1) : ∀ q ∈ tL_11 xs L, am_SndF am_P0 G 4 p l e R s m args below meth c q.1 q.2 := by
  unfold tL_11
  refine List.forall_mem_cons.mpr ⟨am_Snd.toF ((s_iadd (am_dp pw_L_law_960 dd_L_law_960b.2.2.1)).to) hC, ?_⟩
  refine List.forall_mem_cons.mpr ⟨f_sld hC hX hb (am_dp pw_L_law_960 dd_L_law_960b.2.2.2.1), ?_⟩
  refine List.forall_mem_cons.mpr ⟨am_Snd.toF ((s_aloadn (am_dp pw_L_law_960 dd_L_law_960b.2.2.2.2.1) rfl).to) hC, ?_⟩
  refine List.forall_mem_cons.mpr ⟨am_Snd.toF ((s_iloadn (am_dp pw_L_law_960 dd_L_law_960b.2.2.2.2.2.1) rfl).to) hC, ?_⟩
  refine List.forall_mem_cons.mpr ⟨am_Snd.toF ((s_iconst (am_dp pw_L_law_960 dd_L_law_960b.2.2.2.2.2.2.1) (by decide)).to) hC, ?_⟩
  refine List.forall_mem_cons.mpr ⟨am_Snd.toF ((s_iadd (am_dp pw_L_law_960 dd_L_law_960b.2.2.2.2.2.2.2)).to) hC, ?_⟩
  refine List.forall_mem_cons.mpr ⟨f_sld hC hX hb (am_dp pw_L_law_960 dd_L_law_960c.1), ?_⟩
  refine List.forall_mem_cons.mpr ⟨am_Snd.toF (zw_cv131 (am_dp pw_L_law_960 dd_L_law_960c.2.1) wd1186) hC, ?_⟩
  refine List.forall_mem_cons.mpr ⟨am_Snd.toF ((s_pop (am_dp pw_L_law_960 dd_L_law_960c.2.2.1)).to) hC, ?_⟩
  refine List.forall_mem_cons.mpr ⟨am_Snd.toF ((s_aloadn (am_dp pw_L_law_960 dd_L_law_960c.2.2.2.1) rfl).to) hC, ?_⟩
  refine List.forall_mem_cons.mpr ⟨am_Snd.toF ((s_aloadn (am_dp pw_L_law_960 dd_L_law_960c.2.2.2.2.1) rfl).to) hC, ?_⟩
  refine List.forall_mem_cons.mpr ⟨am_Snd.toF ((s_iloadn (am_dp pw_L_law_960 dd_L_law_960c.2.2.2.2.2.1) rfl).to) hC, ?_⟩
  refine List.forall_mem_cons.mpr ⟨am_Snd.toF ((s_iconst (am_dp pw_L_law_960 dd_L_law_960c.2.2.2.2.2.2.1) (by decide)).to) hC, ?_⟩
  refine List.forall_mem_cons.mpr ⟨am_Snd.toF ((s_iadd (am_dp pw_L_law_960 dd_L_law_960c.2.2.2.2.2.2.2)).to) hC, ?_⟩
  refine List.forall_mem_cons.mpr ⟨f_sld hC hX hb (am_dp pw_L_law_960 dd_L_law_960d.1), ?_⟩
  refine List.forall_mem_cons.mpr ⟨am_Snd.toF ((s_aloadn (am_dp pw_L_law_960 dd_L_law_960d.2) rfl).to) hC, ?_⟩
  refine List.forall_mem_cons.mpr ⟨am_Snd.toF ((s_iloadn (am_dp pw_L_law_992 dd_L_law_992a.1) rfl).to) hC, ?_⟩
  refine List.forall_mem_cons.mpr ⟨am_Snd.toF ((s_iconst (am_dp pw_L_law_992 dd_L_law_992a.2.1) (by decide)).to) hC, ?_⟩
  refine List.forall_mem_cons.mpr ⟨am_Snd.toF ((s_iadd (am_dp pw_L_law_992 dd_L_law_992a.2.2.1)).to) hC, ?_⟩
  refine List.forall_mem_cons.mpr ⟨f_sld hC hX hb (am_dp pw_L_law_992 dd_L_law_992a.2.2.2.1), ?_⟩
  refine List.forall_mem_cons.mpr ⟨am_Snd.toF (zw_cv280 (am_dp pw_L_law_992 dd_L_law_992a.2.2.2.2.1) wd2046) hC, ?_⟩
  refine List.forall_mem_cons.mpr ⟨am_Snd.toF ((s_pop (am_dp pw_L_law_992 dd_L_law_992a.2.2.2.2.2.1)).to) hC, ?_⟩
  refine List.forall_mem_cons.mpr ⟨am_Snd.toF ((s_goto (am_dp pw_L_law_992 dd_L_law_992a.2.2.2.2.2.2.1) (by decide)).to) hC, ?_⟩
  refine List.forall_mem_cons.mpr ⟨am_Snd.toF ((s_aloadn (am_dp pw_L_law_992 dd_L_law_992a.2.2.2.2.2.2.2) rfl).to) hC, ?_⟩
  refine List.forall_mem_cons.mpr ⟨am_Snd.toF (zw_cv132 (am_dp pw_L_law_992 dd_L_law_992b.1) wd1194) hC, ?_⟩
  refine List.forall_mem_cons.mpr ⟨am_Snd.toF ((s_aloadn (am_dp pw_L_law_992 dd_L_law_992b.2.1) rfl).to) hC, ?_⟩
  refine List.forall_mem_cons.mpr ⟨am_Snd.toF (zw_cv281 (am_dp pw_L_law_992 dd_L_law_992b.2.2.1) wd2054) hC, ?_⟩
  refine List.forall_mem_cons.mpr ⟨am_Snd.toF ((s_icmp_eq (am_dp pw_L_law_992 dd_L_law_992b.2.2.2.1) (by decide)).to) hC, ?_⟩
  refine List.forall_mem_cons.mpr ⟨am_Snd.toF ((s_iconst (am_dp pw_L_law_992 dd_L_law_992b.2.2.2.2.1) (by decide)).to) hC, ?_⟩
  refine List.forall_mem_cons.mpr ⟨am_Snd.toF (s_zret (am_dp pw_L_law_992 dd_L_law_992b.2.2.2.2.2.1) rfl) hC, ?_⟩
  refine List.forall_mem_cons.mpr ⟨am_Snd.toF ((s_aloadn (am_dp pw_L_law_992 dd_L_law_992b.2.2.2.2.2.2.1) rfl).to) hC, ?_⟩
  refine List.forall_mem_cons.mpr ⟨am_Snd.toF (zw_cv133 (am_dp pw_L_law_992 dd_L_law_992b.2.2.2.2.2.2.2) wd1198) hC, ?_⟩
  refine List.forall_mem_cons.mpr ⟨am_Snd.toF ((s_pop (am_dp pw_L_law_992 dd_L_law_992c.1)).to) hC, ?_⟩
  refine List.forall_mem_cons.mpr ⟨am_Snd.toF ((s_aloadn (am_dp pw_L_law_992 dd_L_law_992c.2.1) rfl).to) hC, ?_⟩
  refine List.forall_mem_cons.mpr ⟨am_Snd.toF (zw_cv282 (am_dp pw_L_law_992 dd_L_law_992c.2.2) wd2058) hC, ?_⟩
  refine List.forall_mem_cons.mpr ⟨am_Snd.toF ((s_pop (am_dp pw_L_law_1024 dd_L_law_1024a.1)).to) hC, ?_⟩
  refine List.forall_mem_cons.mpr ⟨am_Snd.toF ((s_goto (am_dp pw_L_law_1024 dd_L_law_1024a.2.1) (by decide)).to) hC, ?_⟩
  refine List.forall_mem_cons.mpr ⟨am_Snd.toF ((s_aloadn (am_dp pw_L_law_1024 dd_L_law_1024a.2.2.1) rfl).to) hC, ?_⟩
  refine List.forall_mem_cons.mpr ⟨am_Snd.toF ((s_aloadn (am_dp pw_L_law_1024 dd_L_law_1024a.2.2.2.1) rfl).to) hC, ?_⟩
  refine List.forall_mem_cons.mpr ⟨am_Snd.toF ((s_iloadn (am_dp pw_L_law_1024 dd_L_law_1024a.2.2.2.2.1) rfl).to) hC, ?_⟩
  refine List.forall_mem_cons.mpr ⟨am_Snd.toF ((s_iconst (am_dp pw_L_law_1024 dd_L_law_1024a.2.2.2.2.2.1) (by decide)).to) hC, ?_⟩
  refine List.forall_mem_cons.mpr ⟨am_Snd.toF ((s_iadd (am_dp pw_L_law_1024 dd_L_law_1024a.2.2.2.2.2.2.1)).to) hC, ?_⟩
  refine List.forall_mem_cons.mpr ⟨f_sld hC hX hb (am_dp pw_L_law_1024 dd_L_law_1024a.2.2.2.2.2.2.2), ?_⟩
  refine List.forall_mem_cons.mpr ⟨am_Snd.toF ((s_aloadn (am_dp pw_L_law_1024 dd_L_law_1024b.1) rfl).to) hC, ?_⟩
  refine List.forall_mem_cons.mpr ⟨am_Snd.toF ((s_iloadn (am_dp pw_L_law_1024 dd_L_law_1024b.2.1) rfl).to) hC, ?_⟩
  refine List.forall_mem_cons.mpr ⟨am_Snd.toF ((s_iconst (am_dp pw_L_law_1024 dd_L_law_1024b.2.2.1) (by decide)).to) hC, ?_⟩
  refine List.forall_mem_cons.mpr ⟨am_Snd.toF ((s_iadd (am_dp pw_L_law_1024 dd_L_law_1024b.2.2.2.1)).to) hC, ?_⟩
  refine List.forall_mem_cons.mpr ⟨f_sld hC hX hb (am_dp pw_L_law_1024 dd_L_law_1024b.2.2.2.2.1), ?_⟩
  refine List.forall_mem_cons.mpr ⟨am_Snd.toF (zw_cv134 (am_dp pw_L_law_1024 dd_L_law_1024b.2.2.2.2.2.1) wd1202) hC, ?_⟩
  refine List.forall_mem_cons.mpr ⟨am_Snd.toF ((s_pop (am_dp pw_L_law_1024 dd_L_law_1024b.2.2.2.2.2.2.1)).to) hC, ?_⟩
  refine List.forall_mem_cons.mpr ⟨am_Snd.toF ((s_aloadn (am_dp pw_L_law_1024 dd_L_law_1024b.2.2.2.2.2.2.2) rfl).to) hC, ?_⟩
  refine List.forall_mem_cons.mpr ⟨am_Snd.toF ((s_aloadn (am_dp pw_L_law_1024 dd_L_law_1024c.1) rfl).to) hC, ?_⟩
  refine List.forall_mem_cons.mpr ⟨am_Snd.toF ((s_iloadn (am_dp pw_L_law_1024 dd_L_law_1024c.2.1) rfl).to) hC, ?_⟩
  refine List.forall_mem_cons.mpr ⟨am_Snd.toF ((s_iconst (am_dp pw_L_law_1024 dd_L_law_1024c.2.2.1) (by decide)).to) hC, ?_⟩
  refine List.forall_mem_cons.mpr ⟨am_Snd.toF ((s_iadd (am_dp pw_L_law_1024 dd_L_law_1024c.2.2.2.1)).to) hC, ?_⟩
  refine List.forall_mem_cons.mpr ⟨f_sld hC hX hb (am_dp pw_L_law_1024 dd_L_law_1024c.2.2.2.2.1), ?_⟩
  refine List.forall_mem_cons.mpr ⟨am_Snd.toF ((s_aloadn (am_dp pw_L_law_1024 dd_L_law_1024c.2.2.2.2.2.1) rfl).to) hC, ?_⟩
  refine List.forall_mem_cons.mpr ⟨am_Snd.toF ((s_iloadn (am_dp pw_L_law_1024 dd_L_law_1024c.2.2.2.2.2.2.1) rfl).to) hC, ?_⟩
  refine List.forall_mem_cons.mpr ⟨am_Snd.toF ((s_iconst (am_dp pw_L_law_1024 dd_L_law_1024c.2.2.2.2.2.2.2) (by decide)).to) hC, ?_⟩
  refine List.forall_mem_cons.mpr ⟨am_Snd.toF ((s_iadd (am_dp pw_L_law_1024 dd_L_law_1024d.1)).to) hC, ?_⟩
  exact fun _ h => absurd h List.not_mem_nil
theorem snL_12 (hC : am_Cx G RL code 4 (some .boolean) nm p s m args meth c) (hX : va_X (G.2.1.1 0) L xs s s.heap) (hb : G.2.1.1 0 < G.1) : ∀ q ∈ tL_12 xs L, am_SndF am_P0 G 4 p l e R s m args below meth c q.1 q.2 := by
  unfold tL_12
  refine List.forall_mem_cons.mpr ⟨f_sld hC hX hb (am_dp pw_L_law_1024 dd_L_law_1024d.2.1), ?_⟩
  refine List.forall_mem_cons.mpr ⟨am_Snd.toF (zw_cv283 (am_dp pw_L_law_1024 dd_L_law_1024d.2.2) wd2062) hC, ?_⟩
  refine List.forall_mem_cons.mpr ⟨am_Snd.toF ((s_pop (am_dp pw_L_law_1056 dd_L_law_1056a.1)).to) hC, ?_⟩
  refine List.forall_mem_cons.mpr ⟨am_Snd.toF ((s_goto (am_dp pw_L_law_1056 dd_L_law_1056a.2.1) (by decide)).to) hC, ?_⟩
  refine List.forall_mem_cons.mpr ⟨am_Snd.toF ((s_aloadn (am_dp pw_L_law_1056 dd_L_law_1056a.2.2.1) rfl).to) hC, ?_⟩
  refine List.forall_mem_cons.mpr ⟨am_Snd.toF ((s_aloadn (am_dp pw_L_law_1056 dd_L_law_1056a.2.2.2.1) rfl).to) hC, ?_⟩
  refine List.forall_mem_cons.mpr ⟨am_Snd.toF ((s_iloadn (am_dp pw_L_law_1056 dd_L_law_1056a.2.2.2.2.1) rfl).to) hC, ?_⟩
  refine List.forall_mem_cons.mpr ⟨am_Snd.toF ((s_iconst (am_dp pw_L_law_1056 dd_L_law_1056a.2.2.2.2.2.1) (by decide)).to) hC, ?_⟩
  refine List.forall_mem_cons.mpr ⟨am_Snd.toF ((s_iadd (am_dp pw_L_law_1056 dd_L_law_1056a.2.2.2.2.2.2.1)).to) hC, ?_⟩
  refine List.forall_mem_cons.mpr ⟨f_sld hC hX hb (am_dp pw_L_law_1056 dd_L_law_1056a.2.2.2.2.2.2.2), ?_⟩
  refine List.forall_mem_cons.mpr ⟨am_Snd.toF (zw_cv135 (am_dp pw_L_law_1056 dd_L_law_1056b.1) wd1206) hC, ?_⟩
  refine List.forall_mem_cons.mpr ⟨f_pop2 hC (am_dp pw_L_law_1056 dd_L_law_1056b.2.1), ?_⟩
  refine List.forall_mem_cons.mpr ⟨am_Snd.toF ((s_aloadn (am_dp pw_L_law_1056 dd_L_law_1056b.2.2.1) rfl).to) hC, ?_⟩
  refine List.forall_mem_cons.mpr ⟨am_Snd.toF ((s_aloadn (am_dp pw_L_law_1056 dd_L_law_1056b.2.2.2.1) rfl).to) hC, ?_⟩
  refine List.forall_mem_cons.mpr ⟨am_Snd.toF ((s_iloadn (am_dp pw_L_law_1056 dd_L_law_1056b.2.2.2.2.1) rfl).to) hC, ?_⟩
  refine List.forall_mem_cons.mpr ⟨am_Snd.toF ((s_iconst (am_dp pw_L_law_1056 dd_L_law_1056b.2.2.2.2.2.1) (by decide)).to) hC, ?_⟩
  refine List.forall_mem_cons.mpr ⟨am_Snd.toF ((s_iadd (am_dp pw_L_law_1056 dd_L_law_1056b.2.2.2.2.2.2.1)).to) hC, ?_⟩
  refine List.forall_mem_cons.mpr ⟨f_sld hC hX hb (am_dp pw_L_law_1056 dd_L_law_1056b.2.2.2.2.2.2.2), ?_⟩
  refine List.forall_mem_cons.mpr ⟨am_Snd.toF (zw_cv285 (am_dp pw_L_law_1056 dd_L_law_1056c.1) wd2066) hC, ?_⟩
  refine List.forall_mem_cons.mpr ⟨f_pop2 hC (am_dp pw_L_law_1056 dd_L_law_1056c.2.1), ?_⟩
  refine List.forall_mem_cons.mpr ⟨am_Snd.toF ((s_goto (am_dp pw_L_law_1056 dd_L_law_1056c.2.2.1) (by decide)).to) hC, ?_⟩
  refine List.forall_mem_cons.mpr ⟨am_Snd.toF ((s_aloadn (am_dp pw_L_law_1056 dd_L_law_1056c.2.2.2.1) rfl).to) hC, ?_⟩
  refine List.forall_mem_cons.mpr ⟨am_Snd.toF (zw_cv136 (am_dp pw_L_law_1056 dd_L_law_1056c.2.2.2.2) wd1223) hC, ?_⟩
  refine List.forall_mem_cons.mpr ⟨am_Snd.toF ((s_pop (am_dp pw_L_law_1088 dd_L_law_1088a.1)).to) hC, ?_⟩
  refine List.forall_mem_cons.mpr ⟨am_Snd.toF ((s_aloadn (am_dp pw_L_law_1088 dd_L_law_1088a.2.1) rfl).to) hC, ?_⟩
  refine List.forall_mem_cons.mpr ⟨am_Snd.toF (zw_cv286 (am_dp pw_L_law_1088 dd_L_law_1088a.2.2.1) wd2077) hC, ?_⟩
  refine List.forall_mem_cons.mpr ⟨am_Snd.toF ((s_pop (am_dp pw_L_law_1088 dd_L_law_1088a.2.2.2.1)).to) hC, ?_⟩
  refine List.forall_mem_cons.mpr ⟨am_Snd.toF ((s_goto (am_dp pw_L_law_1088 dd_L_law_1088a.2.2.2.2.1) (by decide)).to) hC, ?_⟩
  refine List.forall_mem_cons.mpr ⟨am_Snd.toF ((s_aloadn (am_dp pw_L_law_1088 dd_L_law_1088a.2.2.2.2.2.1) rfl).to) hC, ?_⟩
  refine List.forall_mem_cons.mpr ⟨am_Snd.toF ((s_aloadn (am_dp pw_L_law_1088 dd_L_law_1088a.2.2.2.2.2.2.1) rfl).to) hC, ?_⟩
  refine List.forall_mem_cons.mpr ⟨am_Snd.toF ((s_iloadn (am_dp pw_L_law_1088 dd_L_law_1088a.2.2.2.2.2.2.2) rfl).to) hC, ?_⟩
  refine List.forall_mem_cons.mpr ⟨am_Snd.toF ((s_iconst (am_dp pw_L_law_1088 dd_L_law_1088b.1) (by decide)).to) hC, ?_⟩
  refine List.forall_mem_cons.mpr ⟨am_Snd.toF ((s_iadd (am_dp pw_L_law_1088 dd_L_law_1088b.2.1)).to) hC, ?_⟩
  refine List.forall_mem_cons.mpr ⟨f_sld hC hX hb (am_dp pw_L_law_1088 dd_L_law_1088b.2.2.1), ?_⟩
  refine List.forall_mem_cons.mpr ⟨am_Snd.toF ((s_aloadn (am_dp pw_L_law_1088 dd_L_law_1088b.2.2.2.1) rfl).to) hC, ?_⟩
  refine List.forall_mem_cons.mpr ⟨am_Snd.toF ((s_iloadn (am_dp pw_L_law_1088 dd_L_law_1088b.2.2.2.2.1) rfl).to) hC, ?_⟩
  refine List.forall_mem_cons.mpr ⟨am_Snd.toF ((s_iconst (am_dp pw_L_law_1088 dd_L_law_1088b.2.2.2.2.2.1) (by decide)).to) hC, ?_⟩
  refine List.forall_mem_cons.mpr ⟨am_Snd.toF ((s_iadd (am_dp pw_L_law_1088 dd_L_law_1088b.2.2.2.2.2.2.1)).to) hC, ?_⟩
  refine List.forall_mem_cons.mpr ⟨f_sld hC hX hb (am_dp pw_L_law_1088 dd_L_law_1088b.2.2.2.2.2.2.2), ?_⟩
  refine List.forall_mem_cons.mpr ⟨am_Snd.toF ((s_aloadn (am_dp pw_L_law_1088 dd_L_law_1088c.1) rfl).to) hC, ?_⟩
  refine List.forall_mem_cons.mpr ⟨am_Snd.toF ((s_iloadn (am_dp pw_L_law_1088 dd_L_law_1088c.2.1) rfl).to) hC, ?_⟩
  refine List.forall_mem_cons.mpr ⟨am_Snd.toF ((s_iconst (am_dp pw_L_law_1088 dd_L_law_1088c.2.2.1) (by decide)).to) hC, ?_⟩
  refine List.forall_mem_cons.mpr ⟨am_Snd.toF ((s_iadd (am_dp pw_L_law_1088 dd_L_law_1088c.2.2.2.1)).to) hC, ?_⟩
  refine List.forall_mem_cons.mpr ⟨f_sld hC hX hb (am_dp pw_L_law_1088 dd_L_law_1088c.2.2.2.2.1), ?_⟩
  refine List.forall_mem_cons.mpr ⟨am_Snd.toF (zw_cv137 (am_dp pw_L_law_1088 dd_L_law_1088c.2.2.2.2.2.1) wd1228) hC, ?_⟩
  refine List.forall_mem_cons.mpr ⟨am_Snd.toF ((s_pop (am_dp pw_L_law_1088 dd_L_law_1088c.2.2.2.2.2.2.1)).to) hC, ?_⟩
  refine List.forall_mem_cons.mpr ⟨am_Snd.toF ((s_aloadn (am_dp pw_L_law_1088 dd_L_law_1088c.2.2.2.2.2.2.2) rfl).to) hC, ?_⟩
  refine List.forall_mem_cons.mpr ⟨am_Snd.toF ((s_aloadn (am_dp pw_L_law_1088 dd_L_law_1088d) rfl).to) hC, ?_⟩
  refine List.forall_mem_cons.mpr ⟨am_Snd.toF ((s_iloadn (am_dp pw_L_law_1120 dd_L_law_1120a.1) rfl).to) hC, ?_⟩
  refine List.forall_mem_cons.mpr ⟨am_Snd.toF ((s_iconst (am_dp pw_L_law_1120 dd_L_law_1120a.2.1) (by decide)).to) hC, ?_⟩
  refine List.forall_mem_cons.mpr ⟨am_Snd.toF ((s_iadd (am_dp pw_L_law_1120 dd_L_law_1120a.2.2.1)).to) hC, ?_⟩
  refine List.forall_mem_cons.mpr ⟨f_sld hC hX hb (am_dp pw_L_law_1120 dd_L_law_1120a.2.2.2.1), ?_⟩
  refine List.forall_mem_cons.mpr ⟨am_Snd.toF ((s_aloadn (am_dp pw_L_law_1120 dd_L_law_1120a.2.2.2.2.1) rfl).to) hC, ?_⟩
  refine List.forall_mem_cons.mpr ⟨am_Snd.toF ((s_iloadn (am_dp pw_L_law_1120 dd_L_law_1120a.2.2.2.2.2.1) rfl).to) hC, ?_⟩
  refine List.forall_mem_cons.mpr ⟨am_Snd.toF ((s_iconst (am_dp pw_L_law_1120 dd_L_law_1120a.2.2.2.2.2.2.1) (by decide)).to) hC, ?_⟩
  refine List.forall_mem_cons.mpr ⟨am_Snd.toF ((s_iadd (am_dp pw_L_law_1120 dd_L_law_1120a.2.2.2.2.2.2.2)).to) hC, ?_⟩
  refine List.forall_mem_cons.mpr ⟨f_sld hC hX hb (am_dp pw_L_law_1120 dd_L_law_1120b.1), ?_⟩
  refine List.forall_mem_cons.mpr ⟨am_Snd.toF ((s_aloadn (am_dp pw_L_law_1120 dd_L_law_1120b.2.1) rfl).to) hC, ?_⟩
  refine List.forall_mem_cons.mpr ⟨am_Snd.toF ((s_iloadn (am_dp pw_L_law_1120 dd_L_law_1120b.2.2.1) rfl).to) hC, ?_⟩
  refine List.forall_mem_cons.mpr ⟨am_Snd.toF ((s_iconst (am_dp pw_L_law_1120 dd_L_law_1120b.2.2.2.1) (by decide)).to) hC, ?_⟩
  exact fun _ h => absurd h List.not_mem_nil
theorem snL_13 (hC : am_Cx G RL code 4 (some .boolean) nm p s m args meth c) (hX : va_X (G.2.1.1 0) L xs s s.heap) (hb : G.2.1.1 0 < G.1) : ∀ q ∈ tL_13 xs L, am_SndF am_P0 G 4 p l e R s m args below meth c q.1 q.2 := by
  unfold tL_13
  refine List.forall_mem_cons.mpr ⟨am_Snd.toF ((s_iadd (am_dp pw_L_law_1120 dd_L_law_1120b.2.2.2.2.1)).to) hC, ?_⟩
  refine List.forall_mem_cons.mpr ⟨f_sld hC hX hb (am_dp pw_L_law_1120 dd_L_law_1120b.2.2.2.2.2.1), ?_⟩
  refine List.forall_mem_cons.mpr ⟨am_Snd.toF (zw_cv288 (am_dp pw_L_law_1120 dd_L_law_1120b.2.2.2.2.2.2.1) wd2082) hC, ?_⟩
  refine List.forall_mem_cons.mpr ⟨am_Snd.toF ((s_pop (am_dp pw_L_law_1120 dd_L_law_1120b.2.2.2.2.2.2.2)).to) hC, ?_⟩
  refine List.forall_mem_cons.mpr ⟨am_Snd.toF ((s_goto (am_dp pw_L_law_1120 dd_L_law_1120c.1) (by decide)).to) hC, ?_⟩
  refine List.forall_mem_cons.mpr ⟨am_Snd.toF ((s_aloadn (am_dp pw_L_law_1120 dd_L_law_1120c.2.1) rfl).to) hC, ?_⟩
  refine List.forall_mem_cons.mpr ⟨am_Snd.toF ((s_aloadn (am_dp pw_L_law_1120 dd_L_law_1120c.2.2.1) rfl).to) hC, ?_⟩
  refine List.forall_mem_cons.mpr ⟨am_Snd.toF ((s_iloadn (am_dp pw_L_law_1120 dd_L_law_1120c.2.2.2.1) rfl).to) hC, ?_⟩
  refine List.forall_mem_cons.mpr ⟨am_Snd.toF ((s_iconst (am_dp pw_L_law_1120 dd_L_law_1120c.2.2.2.2.1) (by decide)).to) hC, ?_⟩
  refine List.forall_mem_cons.mpr ⟨am_Snd.toF ((s_iadd (am_dp pw_L_law_1120 dd_L_law_1120c.2.2.2.2.2.1)).to) hC, ?_⟩
  refine List.forall_mem_cons.mpr ⟨f_sld hC hX hb (am_dp pw_L_law_1120 dd_L_law_1120c.2.2.2.2.2.2.1), ?_⟩
  refine List.forall_mem_cons.mpr ⟨am_Snd.toF (zw_cv138 (am_dp pw_L_law_1120 dd_L_law_1120c.2.2.2.2.2.2.2) wd1232) hC, ?_⟩
  refine List.forall_mem_cons.mpr ⟨am_Snd.toF ((s_pop (am_dp pw_L_law_1120 dd_L_law_1120d.1)).to) hC, ?_⟩
  refine List.forall_mem_cons.mpr ⟨am_Snd.toF ((s_aloadn (am_dp pw_L_law_1120 dd_L_law_1120d.2) rfl).to) hC, ?_⟩
  refine List.forall_mem_cons.mpr ⟨am_Snd.toF ((s_aloadn (am_dp pw_L_law_1152 dd_L_law_1152a.1) rfl).to) hC, ?_⟩
  refine List.forall_mem_cons.mpr ⟨am_Snd.toF ((s_iloadn (am_dp pw_L_law_1152 dd_L_law_1152a.2.1) rfl).to) hC, ?_⟩
  refine List.forall_mem_cons.mpr ⟨am_Snd.toF ((s_iconst (am_dp pw_L_law_1152 dd_L_law_1152a.2.2.1) (by decide)).to) hC, ?_⟩
  refine List.forall_mem_cons.mpr ⟨am_Snd.toF ((s_iadd (am_dp pw_L_law_1152 dd_L_law_1152a.2.2.2.1)).to) hC, ?_⟩
  refine List.forall_mem_cons.mpr ⟨f_sld hC hX hb (am_dp pw_L_law_1152 dd_L_law_1152a.2.2.2.2.1), ?_⟩
  refine List.forall_mem_cons.mpr ⟨am_Snd.toF (zw_cv289 (am_dp pw_L_law_1152 dd_L_law_1152a.2.2.2.2.2.1) wd2090) hC, ?_⟩
  refine List.forall_mem_cons.mpr ⟨am_Snd.toF ((s_pop (am_dp pw_L_law_1152 dd_L_law_1152a.2.2.2.2.2.2.1)).to) hC, ?_⟩
  refine List.forall_mem_cons.mpr ⟨am_Snd.toF ((s_goto (am_dp pw_L_law_1152 dd_L_law_1152a.2.2.2.2.2.2.2) (by decide)).to) hC, ?_⟩
  refine List.forall_mem_cons.mpr ⟨am_Snd.toF ((s_aloadn (am_dp pw_L_law_1152 dd_L_law_1152b.1) rfl).to) hC, ?_⟩
  refine List.forall_mem_cons.mpr ⟨am_Snd.toF ((s_aloadn (am_dp pw_L_law_1152 dd_L_law_1152b.2.1) rfl).to) hC, ?_⟩
  refine List.forall_mem_cons.mpr ⟨am_Snd.toF ((s_iloadn (am_dp pw_L_law_1152 dd_L_law_1152b.2.2.1) rfl).to) hC, ?_⟩
  refine List.forall_mem_cons.mpr ⟨am_Snd.toF ((s_iconst (am_dp pw_L_law_1152 dd_L_law_1152b.2.2.2.1) (by decide)).to) hC, ?_⟩
  refine List.forall_mem_cons.mpr ⟨am_Snd.toF ((s_iadd (am_dp pw_L_law_1152 dd_L_law_1152b.2.2.2.2.1)).to) hC, ?_⟩
  refine List.forall_mem_cons.mpr ⟨f_sld hC hX hb (am_dp pw_L_law_1152 dd_L_law_1152b.2.2.2.2.2.1), ?_⟩
  refine List.forall_mem_cons.mpr ⟨am_Snd.toF (zw_cv139 (am_dp pw_L_law_1152 dd_L_law_1152b.2.2.2.2.2.2.1) wd1251) hC, ?_⟩
  refine List.forall_mem_cons.mpr ⟨am_Snd.toF ((s_pop (am_dp pw_L_law_1152 dd_L_law_1152b.2.2.2.2.2.2.2)).to) hC, ?_⟩
  refine List.forall_mem_cons.mpr ⟨am_Snd.toF ((s_aloadn (am_dp pw_L_law_1152 dd_L_law_1152c.1) rfl).to) hC, ?_⟩
  refine List.forall_mem_cons.mpr ⟨am_Snd.toF ((s_aloadn (am_dp pw_L_law_1152 dd_L_law_1152c.2.1) rfl).to) hC, ?_⟩
  refine List.forall_mem_cons.mpr ⟨am_Snd.toF ((s_iloadn (am_dp pw_L_law_1152 dd_L_law_1152c.2.2.1) rfl).to) hC, ?_⟩
  refine List.forall_mem_cons.mpr ⟨am_Snd.toF ((s_iconst (am_dp pw_L_law_1152 dd_L_law_1152c.2.2.2.1) (by decide)).to) hC, ?_⟩
  refine List.forall_mem_cons.mpr ⟨am_Snd.toF ((s_iadd (am_dp pw_L_law_1152 dd_L_law_1152c.2.2.2.2.1)).to) hC, ?_⟩
  refine List.forall_mem_cons.mpr ⟨f_sld hC hX hb (am_dp pw_L_law_1152 dd_L_law_1152c.2.2.2.2.2.1), ?_⟩
  refine List.forall_mem_cons.mpr ⟨am_Snd.toF (zw_cv291 (am_dp pw_L_law_1152 dd_L_law_1152c.2.2.2.2.2.2.1) wd2094) hC, ?_⟩
  refine List.forall_mem_cons.mpr ⟨am_Snd.toF ((s_pop (am_dp pw_L_law_1152 dd_L_law_1152c.2.2.2.2.2.2.2)).to) hC, ?_⟩
  refine List.forall_mem_cons.mpr ⟨am_Snd.toF ((s_goto (am_dp pw_L_law_1184 dd_L_law_1184a.1) (by decide)).to) hC, ?_⟩
  refine List.forall_mem_cons.mpr ⟨am_Snd.toF ((s_aloadn (am_dp pw_L_law_1184 dd_L_law_1184a.2.1) rfl).to) hC, ?_⟩
  refine List.forall_mem_cons.mpr ⟨am_Snd.toF (zw_cv140 (am_dp pw_L_law_1184 dd_L_law_1184a.2.2.1) wd1264) hC, ?_⟩
  refine List.forall_mem_cons.mpr ⟨am_Snd.toF ((s_pop (am_dp pw_L_law_1184 dd_L_law_1184a.2.2.2.1)).to) hC, ?_⟩
  refine List.forall_mem_cons.mpr ⟨am_Snd.toF ((s_aloadn (am_dp pw_L_law_1184 dd_L_law_1184a.2.2.2.2.1) rfl).to) hC, ?_⟩
  refine List.forall_mem_cons.mpr ⟨am_Snd.toF (zw_cv292 (am_dp pw_L_law_1184 dd_L_law_1184a.2.2.2.2.2.1) wd2102) hC, ?_⟩
  refine List.forall_mem_cons.mpr ⟨am_Snd.toF ((s_pop (am_dp pw_L_law_1184 dd_L_law_1184a.2.2.2.2.2.2.1)).to) hC, ?_⟩
  refine List.forall_mem_cons.mpr ⟨am_Snd.toF ((s_goto (am_dp pw_L_law_1184 dd_L_law_1184a.2.2.2.2.2.2.2) (by decide)).to) hC, ?_⟩
  refine List.forall_mem_cons.mpr ⟨am_Snd.toF ((s_aloadn (am_dp pw_L_law_1184 dd_L_law_1184b.1) rfl).to) hC, ?_⟩
  refine List.forall_mem_cons.mpr ⟨am_Snd.toF ((s_aloadn (am_dp pw_L_law_1184 dd_L_law_1184b.2.1) rfl).to) hC, ?_⟩
  refine List.forall_mem_cons.mpr ⟨am_Snd.toF ((s_iloadn (am_dp pw_L_law_1184 dd_L_law_1184b.2.2.1) rfl).to) hC, ?_⟩
  refine List.forall_mem_cons.mpr ⟨am_Snd.toF ((s_iconst (am_dp pw_L_law_1184 dd_L_law_1184b.2.2.2.1) (by decide)).to) hC, ?_⟩
  refine List.forall_mem_cons.mpr ⟨am_Snd.toF ((s_iadd (am_dp pw_L_law_1184 dd_L_law_1184b.2.2.2.2.1)).to) hC, ?_⟩
  refine List.forall_mem_cons.mpr ⟨f_sld hC hX hb (am_dp pw_L_law_1184 dd_L_law_1184b.2.2.2.2.2.1), ?_⟩
  refine List.forall_mem_cons.mpr ⟨am_Snd.toF ((s_aloadn (am_dp pw_L_law_1184 dd_L_law_1184b.2.2.2.2.2.2.1) rfl).to) hC, ?_⟩
  refine List.forall_mem_cons.mpr ⟨am_Snd.toF ((s_iloadn (am_dp pw_L_law_1184 dd_L_law_1184b.2.2.2.2.2.2.2) rfl).to) hC, ?_⟩
  refine List.forall_mem_cons.mpr ⟨am_Snd.toF ((s_iconst (am_dp pw_L_law_1184 dd_L_law_1184c.1) (by decide)).to) hC, ?_⟩
  refine List.forall_mem_cons.mpr ⟨am_Snd.toF ((s_iadd (am_dp pw_L_law_1184 dd_L_law_1184c.2.1)).to) hC, ?_⟩
  refine List.forall_mem_cons.mpr ⟨f_sld hC hX hb (am_dp pw_L_law_1184 dd_L_law_1184c.2.2.1), ?_⟩
  refine List.forall_mem_cons.mpr ⟨am_Snd.toF ((s_aloadn (am_dp pw_L_law_1184 dd_L_law_1184c.2.2.2.1) rfl).to) hC, ?_⟩
  refine List.forall_mem_cons.mpr ⟨am_Snd.toF ((s_iloadn (am_dp pw_L_law_1184 dd_L_law_1184c.2.2.2.2.1) rfl).to) hC, ?_⟩
  refine List.forall_mem_cons.mpr ⟨am_Snd.toF ((s_iconst (am_dp pw_L_law_1184 dd_L_law_1184c.2.2.2.2.2.1) (by decide)).to) hC, ?_⟩
  exact fun _ h => absurd h List.not_mem_nil
theorem snL_14 (hC : am_Cx G RL code 4 (some .boolean) nm p s m args meth c) (hX : va_X (G.2.1.1 0) L xs s s.heap) (hb : G.2.1.1 0 < G.1) : ∀ q ∈ tL_14 xs L, am_SndF am_P0 G 4 p l e R s m args below meth c q.1 q.2 := by
  unfold tL_14
  refine List.forall_mem_cons.mpr ⟨am_Snd.toF ((s_iadd (am_dp pw_L_law_1184 dd_L_law_1184c.2.2.2.2.2.2.1)).to) hC, ?_⟩
  refine List.forall_mem_cons.mpr ⟨f_sld hC hX hb (am_dp pw_L_law_1184 dd_L_law_1184c.2.2.2.2.2.2.2), ?_⟩
  refine List.forall_mem_cons.mpr ⟨am_Snd.toF ((s_aloadn (am_dp pw_L_law_1216 dd_L_law_1216a.1) rfl).to) hC, ?_⟩
  refine List.forall_mem_cons.mpr ⟨am_Snd.toF ((s_iloadn (am_dp pw_L_law_1216 dd_L_law_1216a.2.1) rfl).to) hC, ?_⟩
  refine List.forall_mem_cons.mpr ⟨am_Snd.toF ((s_iconst (am_dp pw_L_law_1216 dd_L_law_1216a.2.2.1) (by decide)).to) hC, ?_⟩
  refine List.forall_mem_cons.mpr ⟨am_Snd.toF ((s_iadd (am_dp pw_L_law_1216 dd_L_law_1216a.2.2.2.1)).to) hC, ?_⟩
  refine List.forall_mem_cons.mpr ⟨f_sld hC hX hb (am_dp pw_L_law_1216 dd_L_law_1216a.2.2.2.2.1), ?_⟩
  refine List.forall_mem_cons.mpr ⟨am_Snd.toF ((s_aloadn (am_dp pw_L_law_1216 dd_L_law_1216a.2.2.2.2.2.1) rfl).to) hC, ?_⟩
  refine List.forall_mem_cons.mpr ⟨am_Snd.toF ((s_iloadn (am_dp pw_L_law_1216 dd_L_law_1216a.2.2.2.2.2.2.1) rfl).to) hC, ?_⟩
  refine List.forall_mem_cons.mpr ⟨am_Snd.toF ((s_iconst (am_dp pw_L_law_1216 dd_L_law_1216a.2.2.2.2.2.2.2) (by decide)).to) hC, ?_⟩
  refine List.forall_mem_cons.mpr ⟨am_Snd.toF ((s_iadd (am_dp pw_L_law_1216 dd_L_law_1216b.1)).to) hC, ?_⟩
  refine List.forall_mem_cons.mpr ⟨f_sld hC hX hb (am_dp pw_L_law_1216 dd_L_law_1216b.2.1), ?_⟩
  refine List.forall_mem_cons.mpr ⟨am_Snd.toF ((s_if_eq (am_dp pw_L_law_1216 dd_L_law_1216b.2.2.1) (by decide)).to) hC, ?_⟩
  refine List.forall_mem_cons.mpr ⟨am_Snd.toF ((s_iconst (am_dp pw_L_law_1216 dd_L_law_1216b.2.2.2.1) (by decide)).to) hC, ?_⟩
  refine List.forall_mem_cons.mpr ⟨am_Snd.toF ((s_goto (am_dp pw_L_law_1216 dd_L_law_1216b.2.2.2.2.1) (by decide)).to) hC, ?_⟩
  refine List.forall_mem_cons.mpr ⟨am_Snd.toF ((s_iconst (am_dp pw_L_law_1216 dd_L_law_1216b.2.2.2.2.2.1) (by decide)).to) hC, ?_⟩
  refine List.forall_mem_cons.mpr ⟨am_Snd.toF (zw_cv141 (am_dp pw_L_law_1216 dd_L_law_1216b.2.2.2.2.2.2.1) wd1268) hC, ?_⟩
  refine List.forall_mem_cons.mpr ⟨am_Snd.toF ((s_pop (am_dp pw_L_law_1216 dd_L_law_1216b.2.2.2.2.2.2.2)).to) hC, ?_⟩
  refine List.forall_mem_cons.mpr ⟨am_Snd.toF ((s_aloadn (am_dp pw_L_law_1216 dd_L_law_1216c.1) rfl).to) hC, ?_⟩
  refine List.forall_mem_cons.mpr ⟨am_Snd.toF ((s_aloadn (am_dp pw_L_law_1216 dd_L_law_1216c.2.1) rfl).to) hC, ?_⟩
  refine List.forall_mem_cons.mpr ⟨am_Snd.toF ((s_iloadn (am_dp pw_L_law_1216 dd_L_law_1216c.2.2.1) rfl).to) hC, ?_⟩
  refine List.forall_mem_cons.mpr ⟨am_Snd.toF ((s_iconst (am_dp pw_L_law_1216 dd_L_law_1216c.2.2.2.1) (by decide)).to) hC, ?_⟩
  refine List.forall_mem_cons.mpr ⟨am_Snd.toF ((s_iadd (am_dp pw_L_law_1216 dd_L_law_1216c.2.2.2.2.1)).to) hC, ?_⟩
  refine List.forall_mem_cons.mpr ⟨f_sld hC hX hb (am_dp pw_L_law_1216 dd_L_law_1216c.2.2.2.2.2.1), ?_⟩
  refine List.forall_mem_cons.mpr ⟨am_Snd.toF ((s_aloadn (am_dp pw_L_law_1216 dd_L_law_1216c.2.2.2.2.2.2.1) rfl).to) hC, ?_⟩
  refine List.forall_mem_cons.mpr ⟨am_Snd.toF ((s_iloadn (am_dp pw_L_law_1216 dd_L_law_1216c.2.2.2.2.2.2.2) rfl).to) hC, ?_⟩
  refine List.forall_mem_cons.mpr ⟨am_Snd.toF ((s_iconst (am_dp pw_L_law_1216 dd_L_law_1216d.1) (by decide)).to) hC, ?_⟩
  refine List.forall_mem_cons.mpr ⟨am_Snd.toF ((s_iadd (am_dp pw_L_law_1216 dd_L_law_1216d.2)).to) hC, ?_⟩
  refine List.forall_mem_cons.mpr ⟨f_sld hC hX hb (am_dp pw_L_law_1248 dd_L_law_1248a.1), ?_⟩
  refine List.forall_mem_cons.mpr ⟨am_Snd.toF ((s_aloadn (am_dp pw_L_law_1248 dd_L_law_1248a.2.1) rfl).to) hC, ?_⟩
  refine List.forall_mem_cons.mpr ⟨am_Snd.toF ((s_iloadn (am_dp pw_L_law_1248 dd_L_law_1248a.2.2.1) rfl).to) hC, ?_⟩
  refine List.forall_mem_cons.mpr ⟨am_Snd.toF ((s_iconst (am_dp pw_L_law_1248 dd_L_law_1248a.2.2.2.1) (by decide)).to) hC, ?_⟩
  refine List.forall_mem_cons.mpr ⟨am_Snd.toF ((s_iadd (am_dp pw_L_law_1248 dd_L_law_1248a.2.2.2.2.1)).to) hC, ?_⟩
  refine List.forall_mem_cons.mpr ⟨f_sld hC hX hb (am_dp pw_L_law_1248 dd_L_law_1248a.2.2.2.2.2.1), ?_⟩
  refine List.forall_mem_cons.mpr ⟨am_Snd.toF ((s_aloadn (am_dp pw_L_law_1248 dd_L_law_1248a.2.2.2.2.2.2.1) rfl).to) hC, ?_⟩
  refine List.forall_mem_cons.mpr ⟨am_Snd.toF ((s_iloadn (am_dp pw_L_law_1248 dd_L_law_1248a.2.2.2.2.2.2.2) rfl).to) hC, ?_⟩
  refine List.forall_mem_cons.mpr ⟨am_Snd.toF ((s_iconst (am_dp pw_L_law_1248 dd_L_law_1248b.1) (by decide)).to) hC, ?_⟩
  refine List.forall_mem_cons.mpr ⟨am_Snd.toF ((s_iadd (am_dp pw_L_law_1248 dd_L_law_1248b.2.1)).to) hC, ?_⟩
  refine List.forall_mem_cons.mpr ⟨f_sld hC hX hb (am_dp pw_L_law_1248 dd_L_law_1248b.2.2.1), ?_⟩
  refine List.forall_mem_cons.mpr ⟨am_Snd.toF ((s_aloadn (am_dp pw_L_law_1248 dd_L_law_1248b.2.2.2.1) rfl).to) hC, ?_⟩
  refine List.forall_mem_cons.mpr ⟨am_Snd.toF ((s_iloadn (am_dp pw_L_law_1248 dd_L_law_1248b.2.2.2.2.1) rfl).to) hC, ?_⟩
  refine List.forall_mem_cons.mpr ⟨am_Snd.toF ((s_iconst (am_dp pw_L_law_1248 dd_L_law_1248b.2.2.2.2.2.1) (by decide)).to) hC, ?_⟩
  refine List.forall_mem_cons.mpr ⟨am_Snd.toF ((s_iadd (am_dp pw_L_law_1248 dd_L_law_1248b.2.2.2.2.2.2.1)).to) hC, ?_⟩
  refine List.forall_mem_cons.mpr ⟨f_sld hC hX hb (am_dp pw_L_law_1248 dd_L_law_1248b.2.2.2.2.2.2.2), ?_⟩
  refine List.forall_mem_cons.mpr ⟨am_Snd.toF ((s_if_eq (am_dp pw_L_law_1248 dd_L_law_1248c.1) (by decide)).to) hC, ?_⟩
  refine List.forall_mem_cons.mpr ⟨am_Snd.toF ((s_iconst (am_dp pw_L_law_1248 dd_L_law_1248c.2.1) (by decide)).to) hC, ?_⟩
  refine List.forall_mem_cons.mpr ⟨am_Snd.toF ((s_goto (am_dp pw_L_law_1248 dd_L_law_1248c.2.2.1) (by decide)).to) hC, ?_⟩
  refine List.forall_mem_cons.mpr ⟨am_Snd.toF ((s_iconst (am_dp pw_L_law_1248 dd_L_law_1248c.2.2.2.1) (by decide)).to) hC, ?_⟩
  refine List.forall_mem_cons.mpr ⟨am_Snd.toF (zw_cv294 (am_dp pw_L_law_1248 dd_L_law_1248c.2.2.2.2.1) wd2106) hC, ?_⟩
  refine List.forall_mem_cons.mpr ⟨am_Snd.toF ((s_pop (am_dp pw_L_law_1248 dd_L_law_1248c.2.2.2.2.2.1)).to) hC, ?_⟩
  refine List.forall_mem_cons.mpr ⟨am_Snd.toF ((s_goto (am_dp pw_L_law_1248 dd_L_law_1248c.2.2.2.2.2.2.1) (by decide)).to) hC, ?_⟩
  refine List.forall_mem_cons.mpr ⟨am_Snd.toF ((s_aloadn (am_dp pw_L_law_1248 dd_L_law_1248c.2.2.2.2.2.2.2) rfl).to) hC, ?_⟩
  refine List.forall_mem_cons.mpr ⟨am_Snd.toF ((s_aloadn (am_dp pw_L_law_1280 dd_L_law_1280a.1) rfl).to) hC, ?_⟩
  refine List.forall_mem_cons.mpr ⟨am_Snd.toF ((s_iloadn (am_dp pw_L_law_1280 dd_L_law_1280a.2.1) rfl).to) hC, ?_⟩
  refine List.forall_mem_cons.mpr ⟨am_Snd.toF ((s_iconst (am_dp pw_L_law_1280 dd_L_law_1280a.2.2.1) (by decide)).to) hC, ?_⟩
  refine List.forall_mem_cons.mpr ⟨am_Snd.toF ((s_iadd (am_dp pw_L_law_1280 dd_L_law_1280a.2.2.2.1)).to) hC, ?_⟩
  refine List.forall_mem_cons.mpr ⟨f_sld hC hX hb (am_dp pw_L_law_1280 dd_L_law_1280a.2.2.2.2.1), ?_⟩
  refine List.forall_mem_cons.mpr ⟨am_Snd.toF ((s_aloadn (am_dp pw_L_law_1280 dd_L_law_1280a.2.2.2.2.2.1) rfl).to) hC, ?_⟩
  refine List.forall_mem_cons.mpr ⟨am_Snd.toF ((s_iloadn (am_dp pw_L_law_1280 dd_L_law_1280a.2.2.2.2.2.2.1) rfl).to) hC, ?_⟩
  refine List.forall_mem_cons.mpr ⟨am_Snd.toF ((s_iconst (am_dp pw_L_law_1280 dd_L_law_1280a.2.2.2.2.2.2.2) (by decide)).to) hC, ?_⟩
  exact fun _ h => absurd h List.not_mem_nil
theorem snL_15 (hC : am_Cx G RL code 4 (some .boolean) nm p s m args meth c) (hX : va_X (G.2.1.1 0) L xs s s.heap) (hb : G.2.1.1 0 < G.1) : ∀ q ∈ tL_15 xs L, am_SndF am_P0 G 4 p l e R s m args below meth c q.1 q.2 := by
  unfold tL_15
  refine List.forall_mem_cons.mpr ⟨am_Snd.toF ((s_iadd (am_dp pw_L_law_1280 dd_L_law_1280b.1)).to) hC, ?_⟩
  refine List.forall_mem_cons.mpr ⟨f_sld hC hX hb (am_dp pw_L_law_1280 dd_L_law_1280b.2.1), ?_⟩
  refine List.forall_mem_cons.mpr ⟨am_Snd.toF (zw_cv142 (am_dp pw_L_law_1280 dd_L_law_1280b.2.2.1) wd1279) hC, ?_⟩
  refine List.forall_mem_cons.mpr ⟨am_Snd.toF ((s_pop (am_dp pw_L_law_1280 dd_L_law_1280b.2.2.2.1)).to) hC, ?_⟩
  refine List.forall_mem_cons.mpr ⟨am_Snd.toF ((s_aloadn (am_dp pw_L_law_1280 dd_L_law_1280b.2.2.2.2.1) rfl).to) hC, ?_⟩
  refine List.forall_mem_cons.mpr ⟨am_Snd.toF ((s_aloadn (am_dp pw_L_law_1280 dd_L_law_1280b.2.2.2.2.2.1) rfl).to) hC, ?_⟩
  refine List.forall_mem_cons.mpr ⟨am_Snd.toF ((s_iloadn (am_dp pw_L_law_1280 dd_L_law_1280b.2.2.2.2.2.2.1) rfl).to) hC, ?_⟩
  refine List.forall_mem_cons.mpr ⟨am_Snd.toF ((s_iconst (am_dp pw_L_law_1280 dd_L_law_1280b.2.2.2.2.2.2.2) (by decide)).to) hC, ?_⟩
  refine List.forall_mem_cons.mpr ⟨am_Snd.toF ((s_iadd (am_dp pw_L_law_1280 dd_L_law_1280c.1)).to) hC, ?_⟩
  refine List.forall_mem_cons.mpr ⟨f_sld hC hX hb (am_dp pw_L_law_1280 dd_L_law_1280c.2.1), ?_⟩
  refine List.forall_mem_cons.mpr ⟨am_Snd.toF ((s_aloadn (am_dp pw_L_law_1280 dd_L_law_1280c.2.2.1) rfl).to) hC, ?_⟩
  refine List.forall_mem_cons.mpr ⟨am_Snd.toF ((s_iloadn (am_dp pw_L_law_1280 dd_L_law_1280c.2.2.2.1) rfl).to) hC, ?_⟩
  refine List.forall_mem_cons.mpr ⟨am_Snd.toF ((s_iconst (am_dp pw_L_law_1280 dd_L_law_1280c.2.2.2.2.1) (by decide)).to) hC, ?_⟩
  refine List.forall_mem_cons.mpr ⟨am_Snd.toF ((s_iadd (am_dp pw_L_law_1280 dd_L_law_1280c.2.2.2.2.2.1)).to) hC, ?_⟩
  refine List.forall_mem_cons.mpr ⟨f_sld hC hX hb (am_dp pw_L_law_1280 dd_L_law_1280c.2.2.2.2.2.2.1), ?_⟩
  refine List.forall_mem_cons.mpr ⟨am_Snd.toF (zw_cv295 (am_dp pw_L_law_1280 dd_L_law_1280c.2.2.2.2.2.2.2) wd2118) hC, ?_⟩
  refine List.forall_mem_cons.mpr ⟨am_Snd.toF ((s_pop (am_dp pw_L_law_1280 dd_L_law_1280d.1)).to) hC, ?_⟩
  refine List.forall_mem_cons.mpr ⟨am_Snd.toF ((s_goto (am_dp pw_L_law_1280 dd_L_law_1280d.2) (by decide)).to) hC, ?_⟩
  refine List.forall_mem_cons.mpr ⟨am_Snd.toF ((s_aloadn (am_dp pw_L_law_1312 dd_L_law_1312a.1) rfl).to) hC, ?_⟩
  refine List.forall_mem_cons.mpr ⟨am_Snd.toF ((s_aloadn (am_dp pw_L_law_1312 dd_L_law_1312a.2.1) rfl).to) hC, ?_⟩
  refine List.forall_mem_cons.mpr ⟨am_Snd.toF ((s_iloadn (am_dp pw_L_law_1312 dd_L_law_1312a.2.2.1) rfl).to) hC, ?_⟩
  refine List.forall_mem_cons.mpr ⟨am_Snd.toF ((s_iconst (am_dp pw_L_law_1312 dd_L_law_1312a.2.2.2.1) (by decide)).to) hC, ?_⟩
  refine List.forall_mem_cons.mpr ⟨am_Snd.toF ((s_iadd (am_dp pw_L_law_1312 dd_L_law_1312a.2.2.2.2.1)).to) hC, ?_⟩
  refine List.forall_mem_cons.mpr ⟨f_sld hC hX hb (am_dp pw_L_law_1312 dd_L_law_1312a.2.2.2.2.2.1), ?_⟩
  refine List.forall_mem_cons.mpr ⟨am_Snd.toF ((s_aloadn (am_dp pw_L_law_1312 dd_L_law_1312a.2.2.2.2.2.2.1) rfl).to) hC, ?_⟩
  refine List.forall_mem_cons.mpr ⟨am_Snd.toF ((s_iloadn (am_dp pw_L_law_1312 dd_L_law_1312a.2.2.2.2.2.2.2) rfl).to) hC, ?_⟩
  refine List.forall_mem_cons.mpr ⟨am_Snd.toF ((s_iconst (am_dp pw_L_law_1312 dd_L_law_1312b.1) (by decide)).to) hC, ?_⟩
  refine List.forall_mem_cons.mpr ⟨am_Snd.toF ((s_iadd (am_dp pw_L_law_1312 dd_L_law_1312b.2.1)).to) hC, ?_⟩
  refine List.forall_mem_cons.mpr ⟨f_sld hC hX hb (am_dp pw_L_law_1312 dd_L_law_1312b.2.2.1), ?_⟩
  refine List.forall_mem_cons.mpr ⟨am_Snd.toF ((s_aloadn (am_dp pw_L_law_1312 dd_L_law_1312b.2.2.2.1) rfl).to) hC, ?_⟩
  refine List.forall_mem_cons.mpr ⟨am_Snd.toF ((s_iloadn (am_dp pw_L_law_1312 dd_L_law_1312b.2.2.2.2.1) rfl).to) hC, ?_⟩
  refine List.forall_mem_cons.mpr ⟨am_Snd.toF ((s_iconst (am_dp pw_L_law_1312 dd_L_law_1312b.2.2.2.2.2.1) (by decide)).to) hC, ?_⟩
  refine List.forall_mem_cons.mpr ⟨am_Snd.toF ((s_iadd (am_dp pw_L_law_1312 dd_L_law_1312b.2.2.2.2.2.2.1)).to) hC, ?_⟩
  refine List.forall_mem_cons.mpr ⟨f_sld hC hX hb (am_dp pw_L_law_1312 dd_L_law_1312b.2.2.2.2.2.2.2), ?_⟩
  refine List.forall_mem_cons.mpr ⟨am_Snd.toF ((s_aloadn (am_dp pw_L_law_1312 dd_L_law_1312c.1) rfl).to) hC, ?_⟩
  refine List.forall_mem_cons.mpr ⟨am_Snd.toF ((s_iloadn (am_dp pw_L_law_1312 dd_L_law_1312c.2.1) rfl).to) hC, ?_⟩
  refine List.forall_mem_cons.mpr ⟨am_Snd.toF ((s_iconst (am_dp pw_L_law_1312 dd_L_law_1312c.2.2.1) (by decide)).to) hC, ?_⟩
  refine List.forall_mem_cons.mpr ⟨am_Snd.toF ((s_iadd (am_dp pw_L_law_1312 dd_L_law_1312c.2.2.2.1)).to) hC, ?_⟩
  refine List.forall_mem_cons.mpr ⟨f_sld hC hX hb (am_dp pw_L_law_1312 dd_L_law_1312c.2.2.2.2.1), ?_⟩
  refine List.forall_mem_cons.mpr ⟨am_Snd.toF (zw_cv143 (am_dp pw_L_law_1312 dd_L_law_1312c.2.2.2.2.2.1) wd1287) hC, ?_⟩
  refine List.forall_mem_cons.mpr ⟨am_Snd.toF ((s_pop (am_dp pw_L_law_1312 dd_L_law_1312c.2.2.2.2.2.2.1)).to) hC, ?_⟩
  refine List.forall_mem_cons.mpr ⟨am_Snd.toF ((s_aloadn (am_dp pw_L_law_1312 dd_L_law_1312c.2.2.2.2.2.2.2) rfl).to) hC, ?_⟩
  refine List.forall_mem_cons.mpr ⟨am_Snd.toF ((s_aloadn (am_dp pw_L_law_1312 dd_L_law_1312d.1) rfl).to) hC, ?_⟩
  refine List.forall_mem_cons.mpr ⟨am_Snd.toF ((s_iloadn (am_dp pw_L_law_1312 dd_L_law_1312d.2.1) rfl).to) hC, ?_⟩
  refine List.forall_mem_cons.mpr ⟨am_Snd.toF ((s_iconst (am_dp pw_L_law_1312 dd_L_law_1312d.2.2.1) (by decide)).to) hC, ?_⟩
  refine List.forall_mem_cons.mpr ⟨am_Snd.toF ((s_iadd (am_dp pw_L_law_1312 dd_L_law_1312d.2.2.2.1)).to) hC, ?_⟩
  refine List.forall_mem_cons.mpr ⟨f_sld hC hX hb (am_dp pw_L_law_1312 dd_L_law_1312d.2.2.2.2.1), ?_⟩
  refine List.forall_mem_cons.mpr ⟨am_Snd.toF ((s_aloadn (am_dp pw_L_law_1312 dd_L_law_1312d.2.2.2.2.2) rfl).to) hC, ?_⟩
  refine List.forall_mem_cons.mpr ⟨am_Snd.toF ((s_iloadn (am_dp pw_L_law_1344 dd_L_law_1344a.1) rfl).to) hC, ?_⟩
  refine List.forall_mem_cons.mpr ⟨am_Snd.toF ((s_iconst (am_dp pw_L_law_1344 dd_L_law_1344a.2.1) (by decide)).to) hC, ?_⟩
  refine List.forall_mem_cons.mpr ⟨am_Snd.toF ((s_iadd (am_dp pw_L_law_1344 dd_L_law_1344a.2.2.1)).to) hC, ?_⟩
  refine List.forall_mem_cons.mpr ⟨f_sld hC hX hb (am_dp pw_L_law_1344 dd_L_law_1344a.2.2.2.1), ?_⟩
  refine List.forall_mem_cons.mpr ⟨am_Snd.toF ((s_aloadn (am_dp pw_L_law_1344 dd_L_law_1344a.2.2.2.2.1) rfl).to) hC, ?_⟩
  refine List.forall_mem_cons.mpr ⟨am_Snd.toF ((s_iloadn (am_dp pw_L_law_1344 dd_L_law_1344a.2.2.2.2.2.1) rfl).to) hC, ?_⟩
  refine List.forall_mem_cons.mpr ⟨am_Snd.toF ((s_iconst (am_dp pw_L_law_1344 dd_L_law_1344a.2.2.2.2.2.2.1) (by decide)).to) hC, ?_⟩
  refine List.forall_mem_cons.mpr ⟨am_Snd.toF ((s_iadd (am_dp pw_L_law_1344 dd_L_law_1344a.2.2.2.2.2.2.2)).to) hC, ?_⟩
  refine List.forall_mem_cons.mpr ⟨f_sld hC hX hb (am_dp pw_L_law_1344 dd_L_law_1344b.1), ?_⟩
  refine List.forall_mem_cons.mpr ⟨am_Snd.toF ((s_aloadn (am_dp pw_L_law_1344 dd_L_law_1344b.2.1) rfl).to) hC, ?_⟩
  refine List.forall_mem_cons.mpr ⟨am_Snd.toF ((s_iloadn (am_dp pw_L_law_1344 dd_L_law_1344b.2.2.1) rfl).to) hC, ?_⟩
  refine List.forall_mem_cons.mpr ⟨am_Snd.toF ((s_iconst (am_dp pw_L_law_1344 dd_L_law_1344b.2.2.2.1) (by decide)).to) hC, ?_⟩
  exact fun _ h => absurd h List.not_mem_nil
theorem snL_16 (hC : am_Cx G RL code 4 (some .boolean) nm p s m args meth c) (hX : va_X (G.2.1.1 0) L xs s s.heap) (hb : G.2.1.1 0 < G.1) : ∀ q ∈ tL_16 xs L, am_SndF am_P0 G 4 p l e R s m args below meth c q.1 q.2 := by
  unfold tL_16
  refine List.forall_mem_cons.mpr ⟨am_Snd.toF ((s_iadd (am_dp pw_L_law_1344 dd_L_law_1344b.2.2.2.2.1)).to) hC, ?_⟩
  refine List.forall_mem_cons.mpr ⟨f_sld hC hX hb (am_dp pw_L_law_1344 dd_L_law_1344b.2.2.2.2.2.1), ?_⟩
  refine List.forall_mem_cons.mpr ⟨am_Snd.toF (zw_cv297 (am_dp pw_L_law_1344 dd_L_law_1344b.2.2.2.2.2.2.1) wd2122) hC, ?_⟩
  refine List.forall_mem_cons.mpr ⟨am_Snd.toF ((s_pop (am_dp pw_L_law_1344 dd_L_law_1344b.2.2.2.2.2.2.2)).to) hC, ?_⟩
  refine List.forall_mem_cons.mpr ⟨am_Snd.toF ((s_goto (am_dp pw_L_law_1344 dd_L_law_1344c.1) (by decide)).to) hC, ?_⟩
  refine List.forall_mem_cons.mpr ⟨am_Snd.toF ((s_aloadn (am_dp pw_L_law_1344 dd_L_law_1344c.2.1) rfl).to) hC, ?_⟩
  refine List.forall_mem_cons.mpr ⟨am_Snd.toF (zw_cv144 (am_dp pw_L_law_1344 dd_L_law_1344c.2.2.1) wd1292) hC, ?_⟩
  refine List.forall_mem_cons.mpr ⟨am_Snd.toF ((s_pop (am_dp pw_L_law_1344 dd_L_law_1344c.2.2.2.1)).to) hC, ?_⟩
  refine List.forall_mem_cons.mpr ⟨am_Snd.toF ((s_aloadn (am_dp pw_L_law_1344 dd_L_law_1344c.2.2.2.2.1) rfl).to) hC, ?_⟩
  refine List.forall_mem_cons.mpr ⟨am_Snd.toF (zw_cv299 (am_dp pw_L_law_1344 dd_L_law_1344c.2.2.2.2.2.1) wd2130) hC, ?_⟩
  refine List.forall_mem_cons.mpr ⟨am_Snd.toF ((s_pop (am_dp pw_L_law_1344 dd_L_law_1344c.2.2.2.2.2.2.1)).to) hC, ?_⟩
  refine List.forall_mem_cons.mpr ⟨am_Snd.toF ((s_goto (am_dp pw_L_law_1344 dd_L_law_1344c.2.2.2.2.2.2.2) (by decide)).to) hC, ?_⟩
  refine List.forall_mem_cons.mpr ⟨am_Snd.toF ((s_aloadn (am_dp pw_L_law_1376 dd_L_law_1376a.1) rfl).to) hC, ?_⟩
  refine List.forall_mem_cons.mpr ⟨am_Snd.toF ((s_aloadn (am_dp pw_L_law_1376 dd_L_law_1376a.2.1) rfl).to) hC, ?_⟩
  refine List.forall_mem_cons.mpr ⟨am_Snd.toF ((s_iloadn (am_dp pw_L_law_1376 dd_L_law_1376a.2.2.1) rfl).to) hC, ?_⟩
  refine List.forall_mem_cons.mpr ⟨am_Snd.toF ((s_iconst (am_dp pw_L_law_1376 dd_L_law_1376a.2.2.2.1) (by decide)).to) hC, ?_⟩
  refine List.forall_mem_cons.mpr ⟨am_Snd.toF ((s_iadd (am_dp pw_L_law_1376 dd_L_law_1376a.2.2.2.2.1)).to) hC, ?_⟩
  refine List.forall_mem_cons.mpr ⟨f_sld hC hX hb (am_dp pw_L_law_1376 dd_L_law_1376a.2.2.2.2.2.1), ?_⟩
  refine List.forall_mem_cons.mpr ⟨am_Snd.toF (zw_cv145 (am_dp pw_L_law_1376 dd_L_law_1376a.2.2.2.2.2.2.1) wd1303) hC, ?_⟩
  refine List.forall_mem_cons.mpr ⟨am_Snd.toF ((s_pop (am_dp pw_L_law_1376 dd_L_law_1376a.2.2.2.2.2.2.2)).to) hC, ?_⟩
  refine List.forall_mem_cons.mpr ⟨am_Snd.toF ((s_aloadn (am_dp pw_L_law_1376 dd_L_law_1376b.1) rfl).to) hC, ?_⟩
  refine List.forall_mem_cons.mpr ⟨am_Snd.toF ((s_aloadn (am_dp pw_L_law_1376 dd_L_law_1376b.2.1) rfl).to) hC, ?_⟩
  refine List.forall_mem_cons.mpr ⟨am_Snd.toF ((s_iloadn (am_dp pw_L_law_1376 dd_L_law_1376b.2.2.1) rfl).to) hC, ?_⟩
  refine List.forall_mem_cons.mpr ⟨am_Snd.toF ((s_iconst (am_dp pw_L_law_1376 dd_L_law_1376b.2.2.2.1) (by decide)).to) hC, ?_⟩
  refine List.forall_mem_cons.mpr ⟨am_Snd.toF ((s_iadd (am_dp pw_L_law_1376 dd_L_law_1376b.2.2.2.2.1)).to) hC, ?_⟩
  refine List.forall_mem_cons.mpr ⟨f_sld hC hX hb (am_dp pw_L_law_1376 dd_L_law_1376b.2.2.2.2.2.1), ?_⟩
  refine List.forall_mem_cons.mpr ⟨am_Snd.toF (zw_cv300 (am_dp pw_L_law_1376 dd_L_law_1376b.2.2.2.2.2.2.1) wd2138) hC, ?_⟩
  refine List.forall_mem_cons.mpr ⟨am_Snd.toF ((s_pop (am_dp pw_L_law_1376 dd_L_law_1376b.2.2.2.2.2.2.2)).to) hC, ?_⟩
  refine List.forall_mem_cons.mpr ⟨am_Snd.toF ((s_goto (am_dp pw_L_law_1376 dd_L_law_1376c.1) (by decide)).to) hC, ?_⟩
  refine List.forall_mem_cons.mpr ⟨am_Snd.toF ((s_aloadn (am_dp pw_L_law_1376 dd_L_law_1376c.2.1) rfl).to) hC, ?_⟩
  refine List.forall_mem_cons.mpr ⟨am_Snd.toF (zw_cv146 (am_dp pw_L_law_1376 dd_L_law_1376c.2.2.1) wd1307) hC, ?_⟩
  refine List.forall_mem_cons.mpr ⟨am_Snd.toF ((s_pop (am_dp pw_L_law_1376 dd_L_law_1376c.2.2.2.1)).to) hC, ?_⟩
  refine List.forall_mem_cons.mpr ⟨am_Snd.toF ((s_aloadn (am_dp pw_L_law_1376 dd_L_law_1376c.2.2.2.2.1) rfl).to) hC, ?_⟩
  refine List.forall_mem_cons.mpr ⟨am_Snd.toF (zw_cv302 (am_dp pw_L_law_1376 dd_L_law_1376c.2.2.2.2.2) wd2142) hC, ?_⟩
  refine List.forall_mem_cons.mpr ⟨am_Snd.toF ((s_pop (am_dp pw_L_law_1408 dd_L_law_1408a.1)).to) hC, ?_⟩
  refine List.forall_mem_cons.mpr ⟨am_Snd.toF ((s_goto (am_dp pw_L_law_1408 dd_L_law_1408a.2.1) (by decide)).to) hC, ?_⟩
  refine List.forall_mem_cons.mpr ⟨am_Snd.toF ((s_aloadn (am_dp pw_L_law_1408 dd_L_law_1408a.2.2.1) rfl).to) hC, ?_⟩
  refine List.forall_mem_cons.mpr ⟨am_Snd.toF ((s_aloadn (am_dp pw_L_law_1408 dd_L_law_1408a.2.2.2.1) rfl).to) hC, ?_⟩
  refine List.forall_mem_cons.mpr ⟨am_Snd.toF ((s_iloadn (am_dp pw_L_law_1408 dd_L_law_1408a.2.2.2.2.1) rfl).to) hC, ?_⟩
  refine List.forall_mem_cons.mpr ⟨am_Snd.toF ((s_iconst (am_dp pw_L_law_1408 dd_L_law_1408a.2.2.2.2.2.1) (by decide)).to) hC, ?_⟩
  refine List.forall_mem_cons.mpr ⟨am_Snd.toF ((s_iadd (am_dp pw_L_law_1408 dd_L_law_1408a.2.2.2.2.2.2.1)).to) hC, ?_⟩
  refine List.forall_mem_cons.mpr ⟨f_sld hC hX hb (am_dp pw_L_law_1408 dd_L_law_1408a.2.2.2.2.2.2.2), ?_⟩
  refine List.forall_mem_cons.mpr ⟨am_Snd.toF (zw_cv147 (am_dp pw_L_law_1408 dd_L_law_1408b.1) wd1323) hC, ?_⟩
  refine List.forall_mem_cons.mpr ⟨am_Snd.toF ((s_pop (am_dp pw_L_law_1408 dd_L_law_1408b.2.1)).to) hC, ?_⟩
  refine List.forall_mem_cons.mpr ⟨am_Snd.toF ((s_aloadn (am_dp pw_L_law_1408 dd_L_law_1408b.2.2.1) rfl).to) hC, ?_⟩
  refine List.forall_mem_cons.mpr ⟨am_Snd.toF ((s_aloadn (am_dp pw_L_law_1408 dd_L_law_1408b.2.2.2.1) rfl).to) hC, ?_⟩
  refine List.forall_mem_cons.mpr ⟨am_Snd.toF ((s_iloadn (am_dp pw_L_law_1408 dd_L_law_1408b.2.2.2.2.1) rfl).to) hC, ?_⟩
  refine List.forall_mem_cons.mpr ⟨am_Snd.toF ((s_iconst (am_dp pw_L_law_1408 dd_L_law_1408b.2.2.2.2.2.1) (by decide)).to) hC, ?_⟩
  refine List.forall_mem_cons.mpr ⟨am_Snd.toF ((s_iadd (am_dp pw_L_law_1408 dd_L_law_1408b.2.2.2.2.2.2.1)).to) hC, ?_⟩
  refine List.forall_mem_cons.mpr ⟨f_sld hC hX hb (am_dp pw_L_law_1408 dd_L_law_1408b.2.2.2.2.2.2.2), ?_⟩
  refine List.forall_mem_cons.mpr ⟨am_Snd.toF (zw_cv209 (am_dp pw_L_law_1408 dd_L_law_1408c.1) wd1811) hC, ?_⟩
  refine List.forall_mem_cons.mpr ⟨am_Snd.toF ((s_pop (am_dp pw_L_law_1408 dd_L_law_1408c.2.1)).to) hC, ?_⟩
  refine List.forall_mem_cons.mpr ⟨am_Snd.toF ((s_goto (am_dp pw_L_law_1408 dd_L_law_1408c.2.2.1) (by decide)).to) hC, ?_⟩
  refine List.forall_mem_cons.mpr ⟨am_Snd.toF ((s_iinc (am_dp pw_L_law_1408 dd_L_law_1408c.2.2.2) (by decide) (by decide)).to) hC, ?_⟩
  refine List.forall_mem_cons.mpr ⟨am_Snd.toF ((s_goto (am_dp pw_L_law_1440 dd_L_law_1440a.1) (by decide)).to) hC, ?_⟩
  refine List.forall_mem_cons.mpr ⟨am_Snd.toF ((s_iconst (am_dp pw_L_law_1440 dd_L_law_1440a.2.1) (by decide)).to) hC, ?_⟩
  refine List.forall_mem_cons.mpr ⟨am_Snd.toF (s_zret (am_dp pw_L_law_1440 dd_L_law_1440a.2.2) rfl) hC, ?_⟩
  exact fun _ h => absurd h List.not_mem_nil
theorem snL (hC : am_Cx G RL code 4 (some .boolean) nm p s m args meth c) (hX : va_X (G.2.1.1 0) L xs s s.heap) (hb : G.2.1.1 0 < G.1) : ∀ q ∈ tL xs L, am_SndF am_P0 G 4 p l e R s m args below meth c q.1 q.2 := List.forall_mem_append.mpr ⟨snL_0 hC hX hb, List.forall_mem_append.mpr ⟨snL_1 hC hX hb, List.forall_mem_append.mpr ⟨snL_2 hC hX hb, List.forall_mem_append.mpr ⟨snL_3 hC hX hb, List.forall_mem_append.mpr ⟨snL_4 hC hX hb, List.forall_mem_append.mpr ⟨snL_5 hC hX hb, List.forall_mem_append.mpr ⟨snL_6 hC hX hb, List.forall_mem_append.mpr ⟨snL_7 hC hX hb, List.forall_mem_append.mpr ⟨snL_8 hC hX hb, List.forall_mem_append.mpr ⟨snL_9 hC hX hb, List.forall_mem_append.mpr ⟨snL_10 hC hX hb, List.forall_mem_append.mpr ⟨snL_11 hC hX hb, List.forall_mem_append.mpr ⟨snL_12 hC hX hb, List.forall_mem_append.mpr ⟨snL_13 hC hX hb, List.forall_mem_append.mpr ⟨snL_14 hC hX hb, List.forall_mem_append.mpr ⟨snL_15 hC hX hb, snL_16 hC hX hb⟩⟩⟩⟩⟩⟩⟩⟩⟩⟩⟩⟩⟩⟩⟩⟩
end
end
