/-! arrays of references, copies, answers -/
section
variable {own : String} {cc : ByteArray} {nL : Nat} {ret : Option FieldType} {nm : String} {pc : Nat}
theorem am_in4 {i : Int32} {n : Nat} (h : am_in i n) {cA : ClassId} {f : Nat → Value} : ¬ i < 0 ∧ i.toNatClampNeg < (arrV cA n f).slots.size := by
  have h1 := am_in2 (cA := cA) (f := f) h
  exact ⟨fun q => h1 (Or.inl q), Nat.not_le.mp fun q => h1 (Or.inr q)⟩
theorem am_aas_o {kd ci : Nat} {C : String} {r : vw_C} (hc : am_ety[kd]? = some (.object C)) (hcl : vwCl[ci]? = some r) (hr : r.1 = C) {p : Program} {l : Launch} {e : Env} {R : Room} {s : State} {m : MethodId} {args : Array Value} {below : List Frame} {meth : Method} {c : Code} {H : Heap} {locs : List Loc} {kc ks : Nat} {Q : State → Prop} {ls : Array Slot} {rest : List Value} {G : am_G} {M : am_M} {a b : Nat} {i : Int32} (hdg : decode cc pc = .ok (.aastore, 1)) (hC : am_Cx G own cc nL ret nm p s m args meth c) (hR : am_R G M H) (hS : va_S (fun q => G.1 ≤ q) s.heap H locs) (ha : mK M a = kd) (hb : mK M b = 10 + ci) (hi : am_in i (mN M a))
    (kk : ∀ (H' : Heap) (locs' : List Loc), am_R G (uR M a i.toInt.toNat (some b)) H' → va_S (fun q => G.1 ≤ q) s.heap H' locs' → W p l e R s m args below meth c H' locs' kc ks Q (F0 m (pc + 1) ls rest)) : W p l e R s m args below meth c H locs kc ks Q (F0 m pc ls (.ref (G.1 + b) :: .int i :: .ref (G.1 + a) :: rest)) := by
  have h1 := hR.arr ha hc
  obtain ⟨-, cellV, g1, g2, g3, -⟩ := hR.obj hb hcl
  have hcls := (hC.2.2.2.2.2.2.2.2.1.1.1 ci r hcl).2
  obtain ⟨kA, comp, k1, k2, k3, -⟩ := (hC.2.2.2.2.2.2.2.2.1.arr hc).2
  rw [← hr] at k3
  have hcomp : comp = G.2.2.2.1 ci := Option.some.inj (k3.symm.trans hcls.1)
  subst hcomp
  have hcls0 := hcls
  obtain ⟨kC, hkC, -⟩ := hcls.2
  refine W.aast hC.1 hC.2.1 h1 (fun q h => by cases h) (fun h => by cases h) k1 k2 rfl hkC (am_in4 hi) g1 (fun q h => by rw [g3] at h; cases h) (by rw [g2]; exact hkC) (by rw [g2]; exact va_assign hcls0) rfl rfl hdg fun H1 e z oq => ?_
  refine kk H1 _ (hR.ars ha hc (v := .ref b) (by rfl) e z oq) (hS.put z oq (Nat.le_add_right _ _))
theorem am_aas_l {p : Program} {l : Launch} {e : Env} {R : Room} {s : State} {m : MethodId} {args : Array Value} {below : List Frame} {meth : Method} {c : Code} {H : Heap} {locs : List Loc} {kc ks : Nat} {Q : State → Prop} {ls : Array Slot} {rest : List Value} {G : am_G} {M : am_M} {a b : Nat} {i : Int32} (hdg : decode cc pc = .ok (.aastore, 1)) (hC : am_Cx G own cc nL ret nm p s m args meth c) (hR : am_R G M H) (hS : va_S (fun q => G.1 ≤ q) s.heap H locs) (ha : mK M a = 5) (hb : mK M b = 1) (hi : am_in i (mN M a))
    (kk : ∀ (H' : Heap) (locs' : List Loc), am_R G (uR M a i.toInt.toNat (some b)) H' → va_S (fun q => G.1 ≤ q) s.heap H' locs' → W p l e R s m args below meth c H' locs' kc ks Q (F0 m (pc + 1) ls rest)) : W p l e R s m args below meth c H locs kc ks Q (F0 m pc ls (.ref (G.1 + b) :: .int i :: .ref (G.1 + a) :: rest)) := by
  have h1 := hR.arr (ty := .array .long) ha rfl
  have h2 := hR.arr (ty := .long) hb rfl
  obtain ⟨kA, kJ, k1, k2, k3, -⟩ := hC.2.2.2.2.2.2.2.2.1.2.2.1
  refine W.aast hC.1 hC.2.1 h1 (fun q h => by cases h) (fun h => by cases h) k1 k2 rfl k3 (am_in4 hi) h2 (fun q h => by cases h) k3 (va_asg _ _) rfl rfl hdg fun H1 e z oq => ?_
  refine kk H1 _ (hR.ars (ty := .array .long) ha rfl (v := .ref b) (by rfl) e z oq) (hS.put z oq (Nat.le_add_right _ _))
theorem s_aas (hdg : decode cc pc = .ok (.aastore, 1)) : am_Snd1 own cc nL ret nm pc (a_aas (pc + 1)) := by
  intro lv st M pc' lv' st' M' he
  unfold a_aas at he
  split at he
  · split at he
    · cases he
      rename_i b i a st2 hka
      refine ⟨⟨Nat.le_refl _, Nat.le_refl _⟩, ?_⟩
      intro G p l e R s m args below meth c c0 w0 Q hC _ _ _ _ hV H locs ls kc ks hR hS hL hkc hks
      obtain ⟨⟨ha, hb⟩ | ⟨ha, hb⟩ | ⟨ha, hb⟩, hi⟩ := hka
      · exact am_aas_o (kd := 3) (ci := 6) rfl rfl rfl hdg hC hR hS ha hb hi (fun H' locs' hR' hS' => hV H' locs' ls kc ks hR' hS' hL hkc hks)
      · exact am_aas_o (kd := 4) (ci := 8) rfl rfl rfl hdg hC hR hS ha hb hi (fun H' locs' hR' hS' => hV H' locs' ls kc ks hR' hS' hL hkc hks)
      · exact am_aas_l hdg hC hR hS ha hb hi (fun H' locs' hR' hS' => hV H' locs' ls kc ks hR' hS' hL hkc hks)
    · cases he
  · cases he
theorem am_newq {kd : Nat} {G : am_G} {M : am_M} {H H' : Heap} {n : Nat} {ty : FieldType} (hc : am_ety[kd]? = some ty) (hR : am_R G M H) (hty : defaultValue ty = .null) (hty2 : ty ≠ .float ∧ ty ≠ .double) (g1 : H'[H.size]? = some (arrV (G.2.2.1 kd) n (fun _ => .null))) (g2 : H'.size = H.size + 1) (g3 : ∀ q, q < H.size → H'[q]? = H[q]?) : am_R G (uN M (kd, n)) H' := by
  refine hR.new g2 g3 ⟨fun t ht => ?_, fun ci' r e hr => ?_⟩
  · cases ht.symm.trans hc
    have hz := hR.1
    rw [hz] at g1
    rw [g1]
    congr 2
    funext j
    rw [am_fv_new _ _ _ hty2, hty]
  · have h1 : kd < 6 := (List.getElem?_eq_some_iff.mp hc).1
    have : kd = 10 + ci' := e
    omega
theorem s_newq {kd i : Nat} {C : String} (hdg : decode cc pc = .ok (.anewarray i, 3)) (hc : am_ety[kd]? = some (.object C)) (hl : Cond.classLink own i C ∈ am_ws) (hw : ∀ (G : am_G) (s : State), am_Kn G s → va_AO C s) : am_Snd1 own cc nL ret nm pc (a_newa kd (pc + 3)) := by
  intro lv st M pc' lv' st' M' he
  unfold a_newa at he
  split at he
  · split at he
    · cases he
      rename_i n st2 hn
      refine ⟨⟨by rw [am_uN_C]; omega, by rw [am_uN_W]; omega⟩, ?_⟩
      intro G p l e R s m args below meth c c0 w0 Q hC hrc hrw _ _ hV H locs ls kc ks hR hS hL hkc hks
      rw [am_uN_C] at hrc
      rw [am_uN_W] at hrw
      have hn0 : ¬ n < 0 := fun q => by
        have := Int32.lt_iff_toInt_lt.mp q
        simp at this
        omega
      have hle : n.toNatClampNeg ≤ 60000 := by rw [am_cl]; omega
      have hb1 : n.toNatClampNeg * 4 ≤ 536870912 := by omega
      have hb2 : kc + 1 ≤ R.cells := by omega
      have hb3 : ks + n.toNatClampNeg ≤ R.slots := by rw [am_cl]; simp only at hrw; omega
      have hz := hR.1
      refine W.anew hC.1 hC.2.1 hC.2.2.2.1 (hC.2.2.2.2.1 _ hl) (va_AO.use (hw _ _ hC.2.2.2.2.2.2.2.2.1)) rfl hdg rfl hn0 hb1 hb2 hb3 fun cA kA comp f1 f2 f3 f4 => ?_
      have hcA : cA = G.2.2.1 kd := by
        obtain ⟨_, _, _, _, _, k4⟩ := (hC.2.2.2.2.2.2.2.2.1.arr hc).2
        exact Option.some.inj (f1.symm.trans k4)
      subst hcA
      generalize hH1 : H.push ({ cls := G.2.2.1 kd, slots := Array.replicate n.toNatClampNeg .null, vm := .none } : Cell) = H1
      have z1 : H1.size = H.size + 1 := by rw [← hH1, Array.size_push]
      have e1 : H1[H.size]? = some (arrV (G.2.2.1 kd) n.toNatClampNeg (fun _ => .null)) := by rw [← hH1, Array.getElem?_push_size, ← arrV_new]
      have o1 : ∀ q : Nat, q < H.size → H1[q]? = H[q]? := fun q hq => by rw [← hH1, Array.getElem?_push, if_neg (Nat.ne_of_lt hq)]
      have hR1 := am_newq hc hR rfl ⟨by simp, by simp⟩ e1 z1 o1
      have e9 : H.size = G.1 + mC M := hz
      have hfin := hV H1 locs ls (kc + 1) (ks + n.toNatClampNeg) hR1 ⟨by have := hS.1; omega, fun q h1 h2 => by rw [o1 q (by have := hS.1; omega)]; exact hS.2.1 q h1 h2, hS.2.2⟩ hL (by rw [am_uN_C]; omega) (by rw [am_uN_W, am_cl]; simp only; omega)
      rw [e9]
      exact hfin
    · cases he
  · cases he
theorem s_newl {i : Nat} (hdg : decode cc pc = .ok (.anewarray i, 3)) (hl : Cond.classLink own i "[J" ∈ am_ws) : am_Snd1 own cc nL ret nm pc (a_newa 5 (pc + 3)) := by
  intro lv st M pc' lv' st' M' he
  unfold a_newa at he
  split at he
  · rename_i n st2
    split at he
    · rename_i hn
      cases he
      refine ⟨⟨by rw [am_uN_C]; omega, by rw [am_uN_W]; omega⟩, ?_⟩
      intro G p l e R s m args below meth c c0 w0 Q hC hrc hrw _ _ hV H locs ls kc ks hR hS hL hkc hks
      rw [am_uN_C] at hrc
      rw [am_uN_W] at hrw
      have hn0 : ¬ n < 0 := fun q => by
        have := Int32.lt_iff_toInt_lt.mp q
        simp at this
        omega
      have hle : n.toNatClampNeg ≤ 60000 := by rw [am_cl]; omega
      have hb2 : kc + 1 ≤ R.cells := by omega
      have hb3 : ks + n.toNatClampNeg ≤ R.slots := by rw [am_cl]; simp only at hrw; omega
      have hz := hR.1
      obtain ⟨kA, kJ, k1, k2, k3, k4⟩ := hC.2.2.2.2.2.2.2.2.1.2.2.1
      have hcomp : s.vm.findClass "[J" = some (G.2.2.1 1) := va_nm_long (hC.2.2.2.2.2.2.2.2.1.arr (kd := 1) (ty := .long) rfl).2
      intro T hT X
      have hpl : e.platform.magicAccessors = ({} : Platform).magicAccessors := by rw [X.admits.platform]
      obtain ⟨cc', hfcc, hcl⟩ := Cond.classLink_spec hC.2.2.2.1 (hC.2.2.2.2.1 _ hl) e.platform hpl
      cases hcomp.symm.trans hfcc
      obtain ⟨hg₁, hwarm₁, hready₁⟩ := State.classEntry (e := e) X.warmed hcl
      generalize T.vm.noted m.cls i (.cls (G.2.2.1 1)) = vm₁ at hg₁ hwarm₁ hready₁
      have hal : s.vm.Alike vm₁ := hwarm₁.alike
      obtain ⟨kComp₁, hkComp₁, -⟩ := hal.2.2 _ _ k3
      obtain ⟨kA₁, hkA₁, heA⟩ := hal.2.2 _ _ k1
      have hkindA₁ : kA₁.kind = .array (G.2.2.1 1) (.array .long) := by rw [heA]; exact k2
      have hidx₁ : (vm₁.classes.findIdx? fun x => match x.kind with | .array component _ => component == G.2.2.1 1 | _ => false) = some (G.2.2.1 5) := by
        rw [hal.findIdx?_eq _ (fun _ => rfl)]; exact k4
      have hlimit : ¬ n.toNatClampNeg > e.platform.arrayLengthLimit := by rw [Launch.admits_arrayLengthLimit X.admits]; omega
      have hheap : ¬ n.toNatClampNeg * componentBytes (.array .long) > e.platform.maxHeapBytes := by
        rw [Launch.admits_maxHeapBytes X.admits]; show ¬ n.toNatClampNeg * 4 > 536870912; omega
      have X₁ := X.noted hwarm₁
      have X₂ := X₁.pushed { cls := G.2.2.1 5, slots := Array.replicate n.toNatClampNeg .null, vm := .none }
      obtain ⟨hr1, hr2⟩ := X.roomAbove hb2 hb3
      generalize hH1 : H.push ({ cls := G.2.2.1 5, slots := Array.replicate n.toNatClampNeg .null, vm := .none } : Cell) = H1
      have z1 : H1.size = H.size + 1 := by rw [← hH1, Array.size_push]
      have e1 : H1[H.size]? = some (arrV (G.2.2.1 5) n.toNatClampNeg (fun _ => .null)) := by rw [← hH1, Array.getElem?_push_size, ← arrV_new]
      have o1 : ∀ q : Nat, q < H.size → H1[q]? = H[q]? := fun q hq => by rw [← hH1, Array.getElem?_push, if_neg (Nat.ne_of_lt hq)]
      have hR1 := am_newq (kd := 5) (ty := .array .long) rfl hR rfl ⟨by simp, by simp⟩ e1 z1 o1
      have hfin := hV H1 locs ls (kc + 1) (ks + n.toNatClampNeg) hR1 ⟨by have := hS.1; omega, fun q h1 h2 => by rw [o1 q (by have := hS.1; omega)]; exact hS.2.1 q h1 h2, hS.2.2⟩ hL (by rw [am_uN_C]; omega) (by rw [am_uN_W, am_cl]; simp only; omega)
      have hh : ((T.setVm vm₁).pushCell { cls := G.2.2.1 5, slots := Array.replicate n.toNatClampNeg .null, vm := .none }).heap = H1 := by rw [← hH1, ← hT]; rfl
      obtain ⟨t, a1, b1⟩ := hfin _ hh (by simpa using X₂)
      refine ⟨t, ?_, b1⟩
      have hsz : T.heap.size = G.1 + mC M := by rw [hT]; exact hz
      have hdg2 : decode c.code pc = .ok (.anewarray i, 3) := by rw [hC.2.1]; exact hdg
      show Steps p.tables e below (T.setTop (F0 m pc ls (.int n :: st2.map (am_v G)))) t
      jvm_step X.here [hC.1, hdg2, anewarray.wp_cold (e := e) (s := T) (f := F0 m pc ls (.int n :: st2.map (am_v G))) X.here.top hg₁ hready₁,
        anewarray.wp_ready (e := e) (s := T.setVm vm₁) (f := F0 m pc ls (.int n :: st2.map (am_v G))) (kc := kComp₁) (k := kA₁) (type := .array .long) X.here.top hready₁ hkComp₁ hidx₁ hkA₁ hkindA₁ rfl rfl hn0 hlimit hheap]
      refine ⟨by show T.heap.size < _; omega, by show T.slotsUsed + _ ≤ _; exact hr2, ?_⟩
      have e9 : (F0 m (pc + 3) ls (Value.ref T.heap.size :: st2.map (am_v G))) = F0 m (pc + 3) ls ((Value.ref (mC M) :: st2).map (am_v G)) := by rw [hsz]; rfl
      first
        | (rw [← e9] at a1; exact a1)
        | exact a1
    · cases he
  · cases he
theorem am_nat {z : Int32} (h : 0 ≤ z.toInt) : z.toInt = (z.toNatClampNeg : Int) := by
  show z.toInt = ((z.toInt.toNat : Nat) : Int)
  omega
theorem s_cpl {i : Nat} (hdg : decode cc pc = .ok (.invokestatic i, 3)) (hl : Cond.methodLink own i arraycopyName ∈ am_ws) (h2 : Cond.native arraycopyName ∈ am_ws) (h3 : Cond.static arraycopyName ∈ am_ws) (h4 : Cond.initialized "java/lang/System" ∈ am_ws) : am_Snd1 own cc nL ret nm pc (a_cpl (pc + 3)) := by
  intro lv st M pc' lv' st' M' he
  unfold a_cpl at he
  split at he
  · rename_i n dp b sp a st2
    split at he
    · rename_i hq
      cases he
      obtain ⟨⟨ha, hb⟩, ⟨hsp, hdp, hn⟩, hla, hlb, hcs⟩ := hq
      refine ⟨⟨Nat.le_refl _, Nat.le_refl _⟩, ?_⟩
      intro G p l e R s m args below meth c c0 w0 Q hC _ _ hfr hlo hV H locs ls kc ks hR hS hL hkc hks
      have hn0 : ∀ x : Int32, 0 ≤ x.toInt → ¬ x < 0 := fun x hx q => by
        have := Int32.lt_iff_toInt_lt.mp q
        simp at this
        omega
      have g1 : H[G.1 + a]? = some (arrV (G.2.2.1 1) (mN M a) (fun j => .long (mL M a j))) := hR.arr (ty := .long) ha rfl
      have g2 : H[G.1 + b]? = some (arrV (G.2.2.1 1) (mN M b) (fun j => .long (mL M b j))) := hR.arr (ty := .long) hb rfl
      have hKn := hC.2.2.2.2.2.2.2.2.1.arr (kd := 1) (ty := .long) rfl
      intro T hT X
      obtain ⟨-, k0, hk0, cm0, hkk0⟩ := hKn.1 (mN M a) (fun j => .long (mL M a j))
      obtain ⟨-, k1, hk1, cm1, hkk1⟩ := hKn.1 (mN M b) (fun j => .long (mL M b j))
      obtain ⟨vm', X', step⟩ := X.arraycopy hC.1 hC.2.2.2.1 (hC.2.2.2.2.1 _ hl) (hC.2.2.2.2.1 _ h2) (hC.2.2.2.2.1 _ h3) (hC.2.2.2.2.1 _ h4) (src := G.1 + a) (dst := G.1 + b) (cs := arrV (G.2.2.1 1) (mN M a) (fun j => .long (mL M a j))) (cd := arrV (G.2.2.1 1) (mN M b) (fun j => .long (mL M b j))) (srcPos := sp) (destPos := dp) (n := n) (by rw [hT]; exact g1) (by rw [hT]; exact g2)
        (fun _ h => by cases h) (fun _ h => by cases h) (fun h => by cases h) (fun h => by cases h) hk0 hk1 hkk0 hkk1 (by simp [refKind]) (hn0 _ hsp) (hn0 _ hdp) (hn0 _ hn)
        (by rw [am_nat hsp, am_nat hn, arrV_size, am_cl, am_cl]; omega)
        (by rw [am_nat hdp, am_nat hn, arrV_size, am_cl, am_cl]; omega)
        (fun vm₁ _ i hi => by
          have e : (arrV (G.2.2.1 1) (mN M a) (fun j => .long (mL M a j))).slots.getD (sp.toNatClampNeg + i) .null = .long (mL M a (sp.toNatClampNeg + i)) := by
            rw [Array.getD_eq_getD_getElem?, arrV_read _ _ (by rw [am_cl] at hi ⊢; omega)]
            rfl
          refine ⟨?_, ?_⟩
          · rw [e]; rfl
          · rw [e]; exact trivial)
        (g := F0 m pc ls (.int n :: .int dp :: .ref (G.1 + b) :: .int sp :: .ref (G.1 + a) :: st'.map (am_v G))) rfl (hL.2.1.trans hC.2.2.1.symm) (rest := st'.map (am_v G)) rfl (by rw [hC.2.1]; exact hdg) hfr (by
          rw [am_cs_eq]
          have : nativeFrameWords "java/lang/System" "arraycopy" 5 ≤ 30 := by decide +kernel
          show 2 * 0 + _ + _ ≤ _
          omega)
      have e1 : copied (arrV (G.2.2.1 1) (mN M a) (fun j => .long (mL M a j))) (arrV (G.2.2.1 1) (mN M b) (fun j => .long (mL M b j))) sp dp n = arrV (G.2.2.1 1) (mN M b) (fun j => .long (va_cpy (mL M a) (mL M b) sp.toNatClampNeg dp.toNatClampNeg n.toNatClampNeg j)) := va_copied (fun z => .long z) _ _ _ _ hla
      rw [e1] at X' step
      have hlt : G.1 + b < H.size := (Array.getElem?_eq_some_iff.mp g2).1
      generalize hnew : arrV (G.2.2.1 1) (mN M b) (fun j => .long (va_cpy (mL M a) (mL M b) sp.toNatClampNeg dp.toNatClampNeg n.toNatClampNeg j)) = nw at X' step
      have hheap : ((T.setVm vm').setCell (G.1 + b) nw).heap = H.setIfInBounds (G.1 + b) nw := by rw [← hT]; rfl
      have oq : ∀ q : Nat, q ≠ G.1 + b → (H.setIfInBounds (G.1 + b) nw)[q]? = H[q]? := fun q hq => by simp [Array.getElem?_setIfInBounds, Ne.symm hq]
      have hRn : am_R G (uCL M a sp.toInt.toNat b dp.toInt.toNat n.toInt.toNat) (H.setIfInBounds (G.1 + b) nw) := by
        refine hR.set rfl (fun k hk ty j => ?_) (by simp) oq (fun sh hsh => ?_)
        · unfold am_fv
          cases ty <;> simp [uCL, mI, mL, mR, hk]
        · have hsh2 := mS_of hb (by omega)
          rw [hsh] at hsh2
          cases hsh2
          refine ⟨fun t ht => ?_, fun ci' r e hr => ?_⟩
          · cases ht
            show (H.setIfInBounds (G.1 + b) nw)[G.1 + b]? = _
            rw [Array.getElem?_setIfInBounds, if_pos rfl, if_pos hlt, ← hnew]
            congr 2
            funext j
            show Value.long _ = am_v G (am_fv .long _ b j)
            unfold am_fv
            simp only [am_v, mL, uCL, va_cpy, am_cl, true_and]
          · have : 1 = 10 + ci' := e
            omega
      obtain ⟨t, a1, b1⟩ := hV _ _ ls kc ks hRn ⟨by simp; exact hS.1, fun q g1 g2 => by
          rw [oq q (fun e => g2 (by rw [e]; exact Nat.le_add_right _ _))]
          exact hS.2.1 q g1 g2, fun q hq => by
          rcases List.mem_append.mp hq with h | h
          · exact hS.2.2 q h
          · obtain ⟨z, -, hz⟩ := List.mem_map.mp h
            rw [← hz]
            exact Nat.le_add_right _ _⟩ hL hkc hks _ hheap X'
      exact ⟨t, step t a1, b1⟩
    · cases he
  · cases he
end
