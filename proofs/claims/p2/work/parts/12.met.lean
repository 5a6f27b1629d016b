/-! every run of AM is a contract of the machine -/
theorem am_en_len (G : am_G) (as : List Value) (hf : ∀ v ∈ as, am_flo v = false) : (lg_sl (as.map (am_v G))).length = (am_en as).length := by
  induction as with
  | nil => rfl
  | cons v vs ih =>
    have h1 := ih (fun w hw => hf w (List.mem_cons_of_mem _ hw))
    have h2 := hf v List.mem_cons_self
    unfold lg_sl at *
    rw [List.map_cons, List.flatMap_cons, List.length_append, h1, am_v_cat, am_en]
    cases v <;> simp [Value.category, am_long, am_flo] at h2 ⊢ <;> omega
theorem am_en_get (G : am_G) (as : List Value) : (∀ v ∈ as, am_flo v = false) → ∀ (i : Nat) (v : Value), (am_en as)[i]? = some v → am_flo v = false → (lg_sl (as.map (am_v G)))[i]? = some (.val (am_v G v)) := by
  induction as with
  | nil => intro _ i v h; simp [am_en] at h
  | cons w ws ih =>
    intro hf i v h hv
    have ih1 := ih (fun w hw => hf w (List.mem_cons_of_mem _ hw))
    have h2 := hf w List.mem_cons_self
    unfold lg_sl at ih1 ⊢
    rw [List.map_cons, List.flatMap_cons, am_v_cat]
    rw [am_en] at h
    by_cases hl : am_long w = true
    · rw [if_pos hl] at h
      have hc : w.category = 2 := by cases w <;> simp [am_long, Value.category] at hl ⊢
      rw [if_pos hc]
      match i, h with
      | 0, h => simp at h; subst h; rfl
      | 1, h => simp at h; subst h; simp [am_flo] at hv
      | i + 2, h =>
        simp only [List.getElem?_cons_succ] at h
        exact ih1 i v h hv
    · rw [if_neg hl] at h
      have hc : ¬ w.category = 2 := by cases w <;> simp [am_long, am_flo, Value.category] at hl h2 ⊢
      rw [if_neg hc]
      match i, h with
      | 0, h => simp at h; subst h; rfl
      | i + 1, h =>
        simp only [List.getElem?_cons_succ] at h
        exact ih1 i v h hv
theorem am_L_entry (G : am_G) {n : Nat} {as : List Value} (hlen : (am_en as).length ≤ n) (hf : ∀ v ∈ as, am_flo v = false) : am_L G n ((lg_sl (as.map (am_v G)) ++ List.replicate (n - (lg_sl (as.map (am_v G))).length) Slot.unset).toArray) (am_pad n (am_en as)) := by
  have e := am_en_len G as hf
  have h := lv_entry (as.map (am_v G)) (n := n) (by rw [e]; exact hlen)
  refine ⟨by unfold am_pad; simp; omega, h.1, h.2.1, fun i v hi hv => ?_⟩
  unfold am_pad at hi
  by_cases hl : i < (am_en as).length
  · rw [List.getElem?_append_left hl] at hi
    have h2 := am_en_get G as hf i v hi hv
    rw [List.getElem?_toArray, List.getElem?_append_left (by rw [e]; exact hl)]
    exact h2
  · rw [List.getElem?_append_right (by omega), List.getElem?_replicate] at hi
    split at hi
    · cases hi; simp [am_flo] at hv
    · cases hi
theorem am_met {P : Nat → am_Y} (hP : ∀ y, am_SndM P y) (hpl : ∀ y, plainName (P y).1.cls = true) (G : am_G) (l : Launch) : ∀ (d n y : Nat) (as : List Value) (M : am_M) (r : Option Value) (M2 : am_M), am_aok P y as → am_run P n d (P y).2.2.2.2 0 (am_pad (P y).2.2.1 (am_en as)) [] M = some (r, M2) → am_Met P G l y d as M r M2 := by
  intro d
  induction d using Nat.strongRecOn with
  | _ d ih =>
    intro n y as M r M2 hok hrun
    have hgrow := am_run_grows hP n d _ _ _ _ _ _ _ _ _ _ _ _ (hP y) hrun
    unfold am_Met
    refine Met.ofW (cc := (P y).2.1) (maxL := (P y).2.2.1) (ret := (P y).2.2.2.1) (hpl y) rfl ?_
    intro p e s m args below meth c s₁ B hml hv
    obtain ⟨rfl, hR, hK⟩ := hv
    have hC : am_Cx G (P y).1.cls (P y).2.1 (P y).2.2.1 (P y).2.2.2.1 (P y).1.name p s m (as.map (am_v G)).toArray meth c := ⟨B.exec, B.bytes, hml, findClass_of_methodNamed B.named, fun w hw => atoms_spec (ws := .code (P y).1 (P y).2.1 (P y).2.2.1 (P y).2.2.2.1 :: am_ws) B.pre w (List.mem_cons_of_mem _ hw), B.returns, B.notSynchronized, (name_of_methodNamed B.named B.method).1, hK, by rw [hR.1]; exact Nat.le_add_right _ _⟩
    have key := am_run_V hP (G := G) (l := l) (d0 := d) (fun n' d' y' as' M' r' M2' hd' hok' hrun' => ih d' hd' n' y' as' M' r' M2' hok' hrun') (hP y) (e := e) (below := below) hC (c0 := mC M) (w0 := mW M) (R := am_rm d (mC M2 - mC M) (mW M2 - mW M)) (Q := MQ below (am_Qc G r M2) (as.map (am_v G)).toArray s (mC M2 - mC M) (mW M2 - mW M) (am_free G)) (r := r) (M2 := M2) (by show mC M2 ≤ mC M + (mC M2 - mC M); omega) (by show mW M2 ≤ mW M + (mW M2 - mW M); omega)
      (fun pc lv st heq => ((hP y pc lv st M2).2.1 r M2 heq).2 G p l e _ s m _ below meth c (mC M) (mW M) (am_Qc G r M2) (mC M2 - mC M) (mW M2 - mW M) hC (by omega) (by omega) (fun t hW hR' hF => ⟨rfl, hR', hF⟩)) n d 0 _ [] M (Nat.le_refl _) hrun (Nat.le_refl _) (Nat.le_refl _)
    have key2 := key s.heap [] _ 0 0 hR va_S.rf (am_L_entry G hok.1 hok.2) rfl rfl
    rw [lg_entry_eq]
    exact key2
