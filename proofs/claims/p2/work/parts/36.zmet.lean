/-! contracts of methods that no native entry runs instead (plainFor: method by method, so java/lang/Math's too) -/
theorem am_ofWF {l : Launch} {y : MethodName} {ws ws' : List Cond} {rm : Room} {Pc : Array Value → State → Prop} {Qc : Array Value → State → Outcome → State → Prop} {mc ms : Nat} {free : Addr → Prop} {cc : ByteArray} {maxL : Nat} {ret : Option FieldType}
    (hy : plainFor y = true) (hw : ws = Cond.code y cc maxL ret :: ws')
    (body : ∀ p e s m args below meth c s₁, BodyLoose p l y (headSpec ws rm) cc maxL ret e s m args below meth c s₁ → c.maxLocals = maxL → Pc args s →
      W p l e (headSpec ws rm).room s m args below meth c s.heap [] 0 0 (MQ below Qc args s mc ms free) (entryFrame m args maxL)) : Met l y ws rm Pc Qc mc ms free := by
  refine MetFree.of_bodySF (code := cc) (maxLocals := maxL) (ret := ret) hy ?_ ?_
  · intro args s m h hn
    obtain ⟨meth, c, h1, h2, h3, h4, h5, h6, -, -⟩ := Cond.code_spec hn (atoms_spec (ws := ws) h _ (by rw [hw]; exact List.mem_cons_self))
    exact ⟨meth, c, h1, h2, h3, h4, h5, h6⟩
  · intro p e s m args below meth c s₁ B hml hP _
    have hh0 : s₁.heap = s.heap := by rw [B.state]; rfl
    obtain ⟨t, a1, o, b1, b2, b3⟩ := body p e s m args below meth c s₁ B hml hP s₁ hh0 (Stand.of_body B)
    exact ⟨t, o, a1, b1, b2, ⟨b3.1, b3.2⟩⟩
theorem am_metF {P : Nat → am_Y} (hP : ∀ y, am_SndM P y) (hpl : ∀ y, plainFor (P y).1 = true) (G : am_G) (l : Launch) : ∀ (d n y : Nat) (as : List Value) (M : am_M) (r : Option Value) (M2 : am_M), am_aok P y as → am_run P n d (P y).2.2.2.2 0 (am_pad (P y).2.2.1 (am_en as)) [] M = some (r, M2) → am_Met P G l y d as M r M2 := by
  intro d
  induction d using Nat.strongRecOn with
  | _ d ih =>
    intro n y as M r M2 hok hrun
    have hgrow := am_run_grows hP n d _ _ _ _ _ _ _ _ _ _ _ _ (hP y) hrun
    unfold am_Met
    refine am_ofWF (cc := (P y).2.1) (maxL := (P y).2.2.1) (ret := (P y).2.2.2.1) (hpl y) rfl ?_
    intro p e s m args below meth c s₁ B hml hv
    obtain ⟨rfl, hR, hK⟩ := hv
    have hC : am_Cx G (P y).1.cls (P y).2.1 (P y).2.2.1 (P y).2.2.2.1 (P y).1.name p s m (as.map (am_v G)).toArray meth c := ⟨B.exec, B.bytes, hml, findClass_of_methodNamed B.named, fun w hw => atoms_spec (ws := .code (P y).1 (P y).2.1 (P y).2.2.1 (P y).2.2.2.1 :: am_ws) B.pre w (List.mem_cons_of_mem _ hw), B.returns, B.notSynchronized, (name_of_methodNamed B.named B.method).1, hK, by rw [hR.1]; exact Nat.le_add_right _ _⟩
    have key := am_run_V hP (G := G) (l := l) (d0 := d) (fun n' d' y' as' M' r' M2' hd' hok' hrun' => ih d' hd' n' y' as' M' r' M2' hok' hrun') (hP y) (e := e) (below := below) hC (c0 := mC M) (w0 := mW M) (R := am_rm d (mC M2 - mC M) (mW M2 - mW M)) (Q := MQ below (am_Qc G r M2) (as.map (am_v G)).toArray s (mC M2 - mC M) (mW M2 - mW M) (am_free G)) (r := r) (M2 := M2) (by show mC M2 ≤ mC M + (mC M2 - mC M); omega) (by show mW M2 ≤ mW M + (mW M2 - mW M); omega)
      (fun pc lv st heq => ((hP y pc lv st M2).2.1 r M2 heq).2 G p l e _ s m _ below meth c (mC M) (mW M) (am_Qc G r M2) (mC M2 - mC M) (mW M2 - mW M) hC (by omega) (by omega) (fun t hW hR' hF => ⟨rfl, hR', hF⟩)) n d 0 _ [] M (Nat.le_refl _) hrun (Nat.le_refl _) (Nat.le_refl _)
    have key2 := key s.heap [] _ 0 0 hR va_S.rf (am_L_entry G hok.1 hok.2) rfl rfl
    rw [lg_entry_eq]
    exact key2
