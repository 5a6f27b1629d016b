/-! arrays and new cells: the machine follows -/
section
variable {own : String} {cc : ByteArray} {nL : Nat} {ret : Option FieldType} {nm : String} {pc : Nat}
theorem am_cl {i : Int32} : i.toNatClampNeg = i.toInt.toNat := rfl
theorem am_in2 {i : Int32} {n : Nat} (h : am_in i n) {cA : ClassId} {f : Nat → Value} : ¬ (i < 0 ∨ (arrV cA n f).slots.size ≤ i.toNatClampNeg) := by
  rw [arrV_size]
  exact am_in_vp h
theorem am_in3 {i : Int32} {n : Nat} (h : am_in i n) {cA : ClassId} {f : Nat → Value} : (arrV cA n f).slots[i.toNatClampNeg]? = some (f i.toInt.toNat) := arrV_read _ _ (by have h1 := h.1; have h2 := h.2; rw [am_cl]; omega)
/-- reading an array, by the row of its kind -/
theorem s_arl {kd : Nat} {ty : FieldType} (hc : am_ety[kd]? = some ty) (row : ∀ {p : Program} {l : Launch} {e : Env} {R : Room} {s : State} {m : MethodId} {args : Array Value} {below : List Frame} {meth : Method} {c : Code} {H : Heap} {locs : List Loc} {cells slots : Nat} {Q : State → Prop} {a : Addr} {cell : Cell} {j : Int32} {v : Value} {ls : Array Slot} {rest : List Value}, p.tables.exec = Jvm.exec → c.code = cc → H[a]? = some cell → s.isArrayOf cell ty → cell.vm ≠ .unknown → ¬ (j < 0 ∨ cell.slots.size ≤ j.toNatClampNeg) → cell.slots[j.toNatClampNeg]? = some v → W p l e R s m args below meth c H locs cells slots Q (F0 m (pc + 1) ls (v :: rest)) → W p l e R s m args below meth c H locs cells slots Q (F0 m pc ls (.int j :: .ref a :: rest))) : am_Snd1 own cc nL ret nm pc (a_arl kd ty (pc + 1)) := by
  intro lv st M pc' lv' st' M' he
  unfold a_arl at he
  split at he
  · split at he
    · cases he
      rename_i i a st2 hka
      refine ⟨⟨Nat.le_refl _, Nat.le_refl _⟩, ?_⟩
      intro G p l e R s m args below meth c c0 w0 Q hC _ _ _ _ hV H locs ls kc ks hR hS hL hkc hks
      have h1 := hR.arr hka.1 hc
      exact row hC.1 hC.2.1 h1 ((hC.2.2.2.2.2.2.2.2.1.arr hc).1 _ _) (fun h => by cases h) (am_in2 hka.2) (am_in3 hka.2) (hV H locs ls kc ks hR hS hL hkc hks)
    · cases he
  · cases he
theorem s_iald (hdg : decode cc pc = .ok (.iaload, 1)) : am_Snd1 own cc nL ret nm pc (a_arl 0 .int (pc + 1)) := s_arl rfl (fun h1 h2 h3 h4 h5 h6 h7 k => W.iald h1 h2 h3 h4 h5 h6 h7 rfl rfl hdg k)
theorem s_zald (hdg : decode cc pc = .ok (.baload, 1)) : am_Snd1 own cc nL ret nm pc (a_arl 2 .boolean (pc + 1)) := s_arl rfl (fun h1 h2 h3 h4 h5 h6 h7 k => W.zald h1 h2 h3 h4 h5 h6 h7 rfl rfl hdg k)
theorem s_lald (hdg : decode cc pc = .ok (.laload, 1)) : am_Snd1 own cc nL ret nm pc (a_arl 1 .long (pc + 1)) := s_arl rfl (fun h1 h2 h3 h4 h5 h6 h7 k => W.lald h1 h2 h3 h4 h5 h6 h7 rfl rfl hdg k)
theorem s_aald (hdg : decode cc pc = .ok (.aaload, 1)) : am_Snd1 own cc nL ret nm pc (a_aal (pc + 1)) := by
  have h3 : am_Snd1 own cc nL ret nm pc (a_arl 3 (.object RX6) (pc + 1)) := s_arl rfl (fun h1 h2 h3 h4 h5 h6 h7 k => W.aald h1 h2 h3 h4 rfl h5 h6 h7 rfl rfl hdg k)
  have h4 : am_Snd1 own cc nL ret nm pc (a_arl 4 (.object RX8) (pc + 1)) := s_arl rfl (fun h1 h2 h3 h4 h5 h6 h7 k => W.aald h1 h2 h3 h4 rfl h5 h6 h7 rfl rfl hdg k)
  have h5 : am_Snd1 own cc nL ret nm pc (a_arl 5 (.array .long) (pc + 1)) := s_arl rfl (fun h1 h2 h3 h4 h5 h6 h7 k => W.aald h1 h2 h3 h4 rfl h5 h6 h7 rfl rfl hdg k)
  intro lv st M pc' lv' st' M' he
  unfold a_aal at he
  split at he
  · split at he
    · cases he
      rename_i i a st2 hka
      obtain ⟨hk | hk | hk, hi⟩ := hka
      · exact h3 _ _ _ _ _ _ _ (by unfold a_arl; dsimp only; rw [if_pos ⟨hk, hi⟩]; rfl)
      · exact h4 _ _ _ _ _ _ _ (by unfold a_arl; dsimp only; rw [if_pos ⟨hk, hi⟩]; rfl)
      · exact h5 _ _ _ _ _ _ _ (by unfold a_arl; dsimp only; rw [if_pos ⟨hk, hi⟩]; rfl)
    · cases he
  · cases he
theorem am_R.ars {G : am_G} {M M' : am_M} {H H' : Heap} {a kd k : Nat} {ty : FieldType} {v : Value} (h : am_R G M H) (hka : mK M a = kd) (hc : am_ety[kd]? = some ty) (hw : am_wr ty M a k v = some M')
    (e1 : H'[G.1 + a]? = some ((arrV (G.2.2.1 kd) (mN M a) (fun j => am_v G (am_fv ty M a j))).setSlot k (am_v G v))) (e2 : H'.size = H.size) (e3 : ∀ q, q ≠ G.1 + a → H'[q]? = H[q]?) : am_R G M' H' := by
  obtain ⟨w1, w2, w3, w4, -⟩ := am_wr_s hw
  have hkd : kd < 6 := (List.getElem?_eq_some_iff.mp hc).1
  refine h.set w1 w2 e2 e3 (fun sh hsh => ?_)
  have hsh2 := mS_of hka (by omega)
  rw [hsh] at hsh2
  cases hsh2
  refine ⟨fun t ht => ?_, fun ci' r e hr => ?_⟩
  · cases ht.symm.trans hc
    rw [e1, arrV_store]
    congr 2
    funext j
    unfold updV
    by_cases ej : j = k
    · subst ej
      rw [if_pos rfl, w4]
    · rw [if_neg ej, w3 _ _ ej]
  · have : kd = 10 + ci' := e
    omega
theorem s_ars {kd : Nat} {ty : FieldType} (hc : am_ety[kd]? = some ty) (row : ∀ {p : Program} {l : Launch} {e : Env} {R : Room} {s : State} {m : MethodId} {args : Array Value} {below : List Frame} {meth : Method} {c : Code} {H : Heap} {locs : List Loc} {cells slots : Nat} {Q : State → Prop} {a : Addr} {cell : Cell} {j : Int32} {G : am_G} {M M' : am_M} {b : Nat} {v : Value} {ls : Array Slot} {rest : List Value}, am_wr ty M b j.toInt.toNat v = some M' → p.tables.exec = Jvm.exec → c.code = cc → H[a]? = some cell → s.isArrayOf cell ty → cell.vm ≠ .unknown → ¬ (j < 0 ∨ cell.slots.size ≤ j.toNatClampNeg) → (∀ H' : Heap, H'[a]? = some (cell.setSlot j.toNatClampNeg (am_v G v)) → H'.size = H.size → (∀ q, q ≠ a → H'[q]? = H[q]?) → W p l e R s m args below meth c H' (locs ++ [⟨a, j.toNatClampNeg⟩]) cells slots Q (F0 m (pc + 1) ls rest)) → W p l e R s m args below meth c H locs cells slots Q (F0 m pc ls (am_v G v :: .int j :: .ref a :: rest))) : am_Snd1 own cc nL ret nm pc (a_ars kd ty (pc + 1)) := by
  intro lv st M pc' lv' st' M' he
  unfold a_ars at he
  split at he
  · split at he
    · rename_i v i a st2 hka
      cases hw : am_wr ty M a i.toInt.toNat v with
      | none => rw [hw] at he; cases he
      | some M2 =>
        rw [hw] at he
        cases he
        have hww := am_wr_s hw
        have hCC : mC M' = mC M := by unfold mC; rw [hww.1]
        have hWW : mW M' = mW M := by unfold mW; rw [hww.1]
        refine ⟨⟨by rw [hCC]; exact Nat.le_refl _, by rw [hWW]; exact Nat.le_refl _⟩, ?_⟩
        intro G p l e R s m args below meth c c0 w0 Q hC _ _ _ _ hV H locs ls kc ks hR hS hL hkc hks
        have h1 := hR.arr hka.1 hc
        refine row hw hC.1 hC.2.1 h1 ((hC.2.2.2.2.2.2.2.2.1.arr hc).1 _ _) (fun h => by cases h) (am_in2 hka.2) (fun H' e1 e2 e3 => ?_)
        exact hV H' _ ls kc ks (hR.ars hka.1 hc hw e1 e2 e3) (hS.put e2 e3 (Nat.le_add_right _ _)) hL (by rw [hCC]; exact hkc) (by rw [hWW]; exact hks)
    · cases he
  · cases he
theorem s_iast (hdg : decode cc pc = .ok (.iastore, 1)) : am_Snd1 own cc nL ret nm pc (a_ars 0 .int (pc + 1)) := s_ars rfl (fun {p l e R s m args below meth c H locs cells slots Q a cell j G M M' b v ls rest} hw h1 h2 h3 h4 h5 h6 k => by
  unfold am_wr at hw
  cases v with
  | int x => exact W.iast h1 h2 h3 h4 h5 h6 rfl rfl hdg k
  | _ => cases hw)
theorem s_last (hdg : decode cc pc = .ok (.lastore, 1)) : am_Snd1 own cc nL ret nm pc (a_ars 1 .long (pc + 1)) := s_ars rfl (fun {p l e R s m args below meth c H locs cells slots Q a cell j G M M' b v ls rest} hw h1 h2 h3 h4 h5 h6 k => by
  unfold am_wr at hw
  cases v with
  | long x => exact W.last h1 h2 h3 h4 h5 h6 rfl rfl hdg k
  | _ => cases hw)
theorem s_zast (hdg : decode cc pc = .ok (.bastore, 1)) : am_Snd1 own cc nL ret nm pc (a_ars 2 .boolean (pc + 1)) := s_ars rfl (fun {p l e R s m args below meth c H locs cells slots Q a cell j G M M' b v ls rest} hw h1 h2 h3 h4 h5 h6 k => by
  have hn := ((am_wr_s hw).2.2.2.2 G).1
  unfold am_wr at hw
  cases v with
  | int x =>
    have hn' : narrow .boolean (.int x) = .int x := hn
    refine W.zast h1 h2 h3 h4 h5 h6 rfl rfl hdg ?_
    rw [hn']
    exact k
  | _ => cases hw)
theorem s_len (hdg : decode cc pc = .ok (.arraylength, 1)) : am_Snd1 own cc nL ret nm pc (a_len (pc + 1)) := by
  intro lv st M pc' lv' st' M' he
  unfold a_len at he
  split at he
  · split at he
    · cases he
      rename_i a st2 hka
      refine ⟨⟨Nat.le_refl _, Nat.le_refl _⟩, ?_⟩
      intro G p l e R s m args below meth c c0 w0 Q hC _ _ _ _ hV H locs ls kc ks hR hS hL hkc hks
      have hlt : mK M a < am_ety.length := hka
      have hc := List.getElem?_eq_getElem hlt
      exact W.alen hC.1 hC.2.1 (hR.arr rfl hc) ((hC.2.2.2.2.2.2.2.2.1.arr hc).1 _ _) (by rw [arrV_size] <;> rfl) rfl rfl hdg (hV H locs ls kc ks hR hS hL hkc hks)
    · cases he
  · cases he
theorem am_uN_C (M : am_M) (sh : am_S) : mC (uN M sh) = mC M + 1 := by
  show (mS M ++ [sh]).length = _
  rw [List.length_append]
  rfl
theorem am_uN_W (M : am_M) (sh : am_S) : mW (uN M sh) = mW M + sh.2 := by
  show ((mS M ++ [sh]).map Prod.snd).sum = _
  simp [mW]
theorem am_fv_new (ty : FieldType) (M : am_M) (sh : am_S) (hty : ty ≠ .float ∧ ty ≠ .double) (G : am_G) (j : Nat) : am_v G (am_fv ty (uN M sh) (mC M) j) = defaultValue ty := by
  unfold am_fv
  cases ty <;> simp [uN, mI, mL, mR, am_z, am_v, defaultValue, va_rf] at hty ⊢
theorem s_newa {kd : Nat} {ty : FieldType} {at' : ArrayType} (hdg : decode cc pc = .ok (.newarray at', 2)) (hc : am_ety[kd]? = some ty) (hat : newarray.typeOf at' = ty) (hw : Cond.arrayClass ty ∈ am_ws) (hby : componentBytes ty ≤ 8) (hty : ty ≠ .float ∧ ty ≠ .double) (hra : ∀ (s : State) (cA : ClassId), va_RA s cA ty → s.vm.findClass ("[" ++ ty.toString) = some cA) : am_Snd1 own cc nL ret nm pc (a_newa kd (pc + 2)) := by
  subst hat
  intro lv st M pc' lv' st' M' he
  unfold a_newa at he
  split at he
  · split at he
    · cases he
      rename_i n st2 hn
      refine ⟨⟨by rw [am_uN_C]; omega, by rw [am_uN_W]; omega⟩, ?_⟩
      intro G p l e R s m args below meth c c0 w0 Q hC hrc hrw _ _ hV H locs ls kc ks hR hS hL hkc hks
      rw [am_uN_C] at hrc
      rw [am_uN_W] at hrw
      have hn0 : ¬ n < 0 := fun q => by
        have := Int32.lt_iff_toInt_lt.mp q
        simp at this
        omega
      have hz := hR.1
      have hle : n.toNatClampNeg ≤ 60000 := by rw [am_cl]; omega
      have hb1 : n.toNatClampNeg * componentBytes (newarray.typeOf at') ≤ 536870912 := Nat.le_trans (Nat.mul_le_mul hle hby) (by decide)
      have hb2 : kc + 1 ≤ R.cells := by omega
      have hb3 : ks + n.toNatClampNeg ≤ R.slots := by rw [am_cl]; simp only at hrw; omega
      refine va_newaK (N := n.toNatClampNeg) hC.1 hC.2.1 (hC.2.2.2.2.1 _ hw) rfl hdg rfl hn0 rfl hb1 hb2 hb3 hz (fun H' cA g1 g2 g3 g4 g5 => ?_)
      have hcA : cA = G.2.2.1 kd := Option.some.inj (g5.symm.trans (hra _ _ (hC.2.2.2.2.2.2.2.2.1.arr hc).2))
      subst hcA
      refine hV H' locs ls (kc + 1) (ks + n.toNatClampNeg) (hR.new (by omega) (fun q hq => g3 q (by omega)) ?_) ⟨by have := hS.1; omega, fun q h1 h2 => by rw [g3 q (by have := hS.1; omega)]; exact hS.2.1 q h1 h2, hS.2.2⟩ hL (by rw [am_uN_C]; omega) (by rw [am_uN_W, am_cl]; simp only; omega)
      refine ⟨fun t ht => ?_, fun ci' r e hr => ?_⟩
      · cases ht.symm.trans hc
        rw [g1]
        congr 2
        funext j
        exact (am_fv_new _ _ _ hty _ _).symm
      · have h1 : kd < 6 := (List.getElem?_eq_some_iff.mp hc).1
        have : kd = 10 + ci' := e
        omega
    · cases he
  · cases he
theorem s_new {ci i : Nat} {C : String} {T : u_T} {N : Nat} (hdg : decode cc pc = .ok (.new i, 3)) (hc : vwCl[ci]? = some (C, T, N)) (hl : Cond.classLink own i C ∈ am_ws) (hinst : Cond.instantiable C N ∈ am_ws) (hini : Cond.initialized C ∈ am_ws) (hin : ∀ w ∈ u_ws C T N, w ∈ am_ws) (htys : ∀ k, k < N → parseFieldDescriptor (T k).2.2.1 = some (am_fty ci k)) (hfl : ∀ k, k < N → am_fty ci k ≠ .float ∧ am_fty ci k ≠ .double) : am_Snd1 own cc nL ret nm pc (a_new ci N (pc + 3)) := by
  intro lv st M pc' lv' st' M' he
  cases he
  refine ⟨⟨by rw [am_uN_C]; omega, by rw [am_uN_W]; omega⟩, ?_⟩
  intro G p l e R s m args below meth c c0 w0 Q hC hrc hrw _ _ hV H locs ls kc ks hR hS hL hkc hks
  rw [am_uN_C] at hrc
  rw [am_uN_W] at hrw
  have hz := hR.1
  have hKn := hC.2.2.2.2.2.2.2.2.1.1.1 ci _ hc
  refine W.newcK hC.1 hC.2.1 hC.2.2.2.1 (hC.2.2.2.2.1 _ hl) (hC.2.2.2.2.1 _ hinst) (hC.2.2.2.2.1 _ hini) rfl hdg (by omega) (by simp only at hrw; omega) hKn.2.1 hz (fun H' kC g0 g1 g2 g3 => ?_)
  refine hV H' locs ls (kc + 1) (ks + N) (hR.new (by omega) (fun q hq => g3 q (by omega)) ?_) ⟨by have := hS.1; omega, fun q h1 h2 => by rw [g3 q (by have := hS.1; omega)]; exact hS.2.1 q h1 h2, hS.2.2⟩ hL (by rw [am_uN_C]; omega) (by rw [am_uN_W]; simp only; omega)
  refine ⟨fun t ht => ?_, fun ci' r e hr => ?_⟩
  · have h1 := (List.getElem?_eq_some_iff.mp ht).1
    simp [am_ety] at h1
    omega
  · have e' : ci' = ci := by have : 10 + ci = 10 + ci' := e; omega
    subst e'
    cases hr.symm.trans hc
    refine ⟨rfl, (u_born (am_fty ci') hC.2.2.2.2.1 hin hKn g0 g1 htys).to (fun k hk => ?_)⟩
    exact (am_fv_new _ _ _ (hfl k hk) _ _).symm
theorem s_obj {i : Nat} (hdg : decode cc pc = .ok (.invokespecial i, 3)) (hl : Cond.methodLink own i objectInit ∈ am_ws) (h2 : Cond.instanceMethod objectInit ∈ am_ws) (h3 : Cond.code objectInit ⟨#[0xb1]⟩ 1 none ∈ am_ws) : am_Snd1 own cc nL ret nm pc (a_obj (pc + 3)) := by
  intro lv st M pc' lv' st' M' he
  unfold a_obj at he
  split at he
  · split at he
    · cases he
      rename_i a st2 hcs
      refine ⟨⟨Nat.le_refl _, Nat.le_refl _⟩, ?_⟩
      intro G p l e R s m args below meth c c0 w0 Q hC _ _ hfr hlo hV H locs ls kc ks hR hS hL hkc hks
      refine W.objInit hC.1 hC.2.1 hC.2.2.2.1 (hC.2.2.2.2.1 _ hl) (hC.2.2.2.2.1 _ h2) (hC.2.2.2.2.1 _ h3) rfl (hL.2.1.trans hC.2.2.1.symm) rfl hdg hfr ?_ (hV H locs ls kc ks hR hS hL hkc hks)
      rw [am_cs_eq]
      show 2 * 0 + _ + 12 ≤ _
      omega
    · cases he
  · cases he
end
