/-! AM's steps at fields, arrays and new cells -/
theorem mS_of {M : am_M} {a k : Nat} (h : mK M a = k) (hk : k ≠ 99) : (mS M)[a]? = some (k, mN M a) := by
  unfold mK mN at *
  rw [List.getD_eq_getElem?_getD] at *
  cases hc : (mS M)[a]? with
  | none => rw [hc] at h; exact absurd h.symm hk
  | some x => rw [hc] at h; simp at h ⊢; exact Prod.ext h rfl
def am_wr (ty : FieldType) (M : am_M) (a k : Nat) (v : Value) : Option am_M := match ty with
  | .long => match v with | .long x => some (uL M a k x) | _ => none
  | .int => match v with | .int x => some (uI M a k x) | _ => none
  | .boolean => match v with | .int x => if x = 0 ∨ x = 1 then some (uI M a k x) else none | _ => none
  | .object _ => match v with | .ref b => some (uR M a k (some b)) | .null => some (uR M a k none) | _ => none
  | .array _ => match v with | .ref b => some (uR M a k (some b)) | .null => some (uR M a k none) | _ => none
  | _ => none
theorem am_wr_s {ty : FieldType} {M M' : am_M} {a k : Nat} {v : Value} (h : am_wr ty M a k v = some M') : mS M' = mS M ∧ (∀ b, b ≠ a → ∀ t j, am_fv t M' b j = am_fv t M b j) ∧ (∀ t j, j ≠ k → am_fv t M' a j = am_fv t M a j) ∧ am_fv ty M' a k = v ∧ ∀ G : am_G, narrow ty (am_v G v) = am_v G v ∧ fits ty (am_v G v) = true := by
  have hI : ∀ (x : Int32), (∀ b, b ≠ a → ∀ t j, am_fv t (uI M a k x) b j = am_fv t M b j) ∧ ∀ t j, j ≠ k → am_fv t (uI M a k x) a j = am_fv t M a j := fun x => ⟨fun b hb t j => by unfold am_fv; cases t <;> simp [uI, mI, mL, mR, am_u, hb], fun t j hj => by unfold am_fv; cases t <;> simp [uI, mI, mL, mR, am_u, hj]⟩
  have hL : ∀ (x : Int64), (∀ b, b ≠ a → ∀ t j, am_fv t (uL M a k x) b j = am_fv t M b j) ∧ ∀ t j, j ≠ k → am_fv t (uL M a k x) a j = am_fv t M a j := fun x => ⟨fun b hb t j => by unfold am_fv; cases t <;> simp [uL, mI, mL, mR, am_u, hb], fun t j hj => by unfold am_fv; cases t <;> simp [uL, mI, mL, mR, am_u, hj]⟩
  have hR : ∀ (x : Option Nat), (∀ b, b ≠ a → ∀ t j, am_fv t (uR M a k x) b j = am_fv t M b j) ∧ ∀ t j, j ≠ k → am_fv t (uR M a k x) a j = am_fv t M a j := fun x => ⟨fun b hb t j => by unfold am_fv; cases t <;> simp [uR, mI, mL, mR, am_u, hb], fun t j hj => by unfold am_fv; cases t <;> simp [uR, mI, mL, mR, am_u, hj]⟩
  unfold am_wr at h
  split at h
  · split at h <;> cases h
    rename_i x
    exact ⟨rfl, (hL x).1, (hL x).2, by simp [am_fv, mL, uL, am_u], fun G => ⟨rfl, rfl⟩⟩
  · split at h <;> cases h
    rename_i x
    exact ⟨rfl, (hI x).1, (hI x).2, by simp [am_fv, mI, uI, am_u], fun G => ⟨rfl, rfl⟩⟩
  · split at h
    · rename_i x
      split at h <;> cases h
      rename_i hx
      exact ⟨rfl, (hI x).1, (hI x).2, by simp [am_fv, mI, uI, am_u], fun G => by rcases hx with rfl | rfl <;> exact ⟨rfl, rfl⟩⟩
    · cases h
  · split at h <;> cases h
    · rename_i x
      exact ⟨rfl, (hR (some x)).1, (hR (some x)).2, by simp [am_fv, mR, uR, am_u, va_rf], fun G => ⟨rfl, rfl⟩⟩
    · exact ⟨rfl, (hR none).1, (hR none).2, by simp [am_fv, mR, uR, am_u, va_rf], fun G => ⟨rfl, rfl⟩⟩
  · split at h <;> cases h
    · rename_i x
      exact ⟨rfl, (hR (some x)).1, (hR (some x)).2, by simp [am_fv, mR, uR, am_u, va_rf], fun G => ⟨rfl, rfl⟩⟩
    · exact ⟨rfl, (hR none).1, (hR none).2, by simp [am_fv, mR, uR, am_u, va_rf], fun G => ⟨rfl, rfl⟩⟩
  · cases h
def a_get (ci k : Nat) (ty : FieldType) (nx : Nat) : am_F := fun lv st M => match st with
  | .ref a :: st' => if mK M a = 10 + ci then some (nx, lv, am_fv ty M a k :: st', M) else none
  | _ => none
def a_put (ci k : Nat) (ty : FieldType) (nx : Nat) : am_F := fun lv st M => match st with
  | v :: .ref a :: st' => if mK M a = 10 + ci then (am_wr ty M a k v).map (fun M' => (nx, lv, st', M')) else none
  | _ => none
def a_arl (kd : Nat) (ty : FieldType) (nx : Nat) : am_F := fun lv st M => match st with
  | .int i :: .ref a :: st' => if mK M a = kd ∧ am_in i (mN M a) then some (nx, lv, am_fv ty M a i.toInt.toNat :: st', M) else none
  | _ => none
def a_aal (nx : Nat) : am_F := fun lv st M => match st with
  | .int i :: .ref a :: st' => if (mK M a = 3 ∨ mK M a = 4 ∨ mK M a = 5) ∧ am_in i (mN M a) then some (nx, lv, va_rf (mR M a i.toInt.toNat) :: st', M) else none
  | _ => none
def a_ars (kd : Nat) (ty : FieldType) (nx : Nat) : am_F := fun lv st M => match st with
  | v :: .int i :: .ref a :: st' => if mK M a = kd ∧ am_in i (mN M a) then (am_wr ty M a i.toInt.toNat v).map (fun M' => (nx, lv, st', M')) else none
  | _ => none
def a_aas (nx : Nat) : am_F := fun lv st M => match st with
  | .ref b :: .int i :: .ref a :: st' => if ((mK M a = 3 ∧ mK M b = 16) ∨ (mK M a = 4 ∧ mK M b = 18) ∨ (mK M a = 5 ∧ mK M b = 1)) ∧ am_in i (mN M a) then some (nx, lv, st', uR M a i.toInt.toNat (some b)) else none
  | _ => none
def a_len (nx : Nat) : am_F := fun lv st M => match st with
  | .ref a :: st' => if mK M a < 6 then some (nx, lv, .int (Int32.ofNat (mN M a)) :: st', M) else none
  | _ => none
def a_newa (kd : Nat) (nx : Nat) : am_F := fun lv st M => match st with
  | .int n :: st' => if 0 ≤ n.toInt ∧ n.toInt ≤ 60000 then some (nx, lv, .ref (mC M) :: st', uN M (kd, n.toInt.toNat)) else none
  | _ => none
def a_new (ci N : Nat) (nx : Nat) : am_F := fun lv st M => some (nx, lv, .ref (mC M) :: st, uN M (10 + ci, N))
def am_cs : List Value → Nat
  | [] => 0
  | v :: vs => v.category + am_cs vs
def a_obj (nx : Nat) : am_F := fun lv st M => match st with
  | .ref _ :: st' => if am_cs st' ≤ 8 then some (nx, lv, st', M) else none
  | _ => none
def a_cpl (nx : Nat) : am_F := fun lv st M => match st with
  | .int n :: .int dp :: .ref b :: .int sp :: .ref a :: st' => if (mK M a = 1 ∧ mK M b = 1) ∧ (0 ≤ sp.toInt ∧ 0 ≤ dp.toInt ∧ 0 ≤ n.toInt) ∧ sp.toInt.toNat + n.toInt.toNat ≤ mN M a ∧ dp.toInt.toNat + n.toInt.toNat ≤ mN M b ∧ am_cs st' ≤ 8 then some (nx, lv, st', uCL M a sp.toInt.toNat b dp.toInt.toNat n.toInt.toNat) else none
  | _ => none
theorem am_cs_eq (G : am_G) (st : List Value) : ((st.map (am_v G)).map fun v => v.category).sum = am_cs st := by
  induction st with
  | nil => rfl
  | cons v vs ih => simp only [List.map_cons, List.sum_cons, ih, am_v_cat]; rfl
section
variable {own : String} {cc : ByteArray} {nL : Nat} {ret : Option FieldType} {nm : String} {pc : Nat}
theorem am_R.obj {G : am_G} {M : am_M} {H : Heap} (h : am_R G M H) {a ci : Nat} {r : vw_C} (hk : mK M a = 10 + ci) (hc : vwCl[ci]? = some r) : mN M a = r.2.2 ∧ t_OB (G.1 + a) (G.2.2.2.1 ci) r.2.2 (G.2.2.2.2 ci) H (fun j => am_v G (am_fv (am_fty ci j) M a j)) := by
  have h1 : ci < 12 := (List.getElem?_eq_some_iff.mp hc).1
  exact (h.2.1 a _ (mS_of hk (by omega))).2 ci r rfl hc
theorem am_R.arr {G : am_G} {M : am_M} {H : Heap} (h : am_R G M H) {a kd : Nat} {ty : FieldType} (hk : mK M a = kd) (hc : am_ety[kd]? = some ty) : H[G.1 + a]? = some (arrV (G.2.2.1 kd) (mN M a) (fun j => am_v G (am_fv ty M a j))) := by
  have h1 : kd < 6 := (List.getElem?_eq_some_iff.mp hc).1
  exact (h.2.1 a _ (mS_of hk (by omega))).1 ty hc
theorem am_Kn.arr {G : am_G} {s : State} (h : am_Kn G s) {kd : Nat} {ty : FieldType} (hc : am_ety[kd]? = some ty) : ArrOfT s (G.2.2.1 kd) ty ∧ va_RA s (G.2.2.1 kd) ty := by
  have h1 : kd < 6 := (List.getElem?_eq_some_iff.mp hc).1
  refine h.1.2 kd (G.2.2.1 kd, ty) ?_
  match kd, h1, hc with
  | 0, _, hc => cases hc; rfl
  | 1, _, hc => cases hc; rfl
  | 2, _, hc => cases hc; rfl
  | 3, _, hc => cases hc; rfl
  | 4, _, hc => cases hc; rfl
  | 5, _, hc => cases hc; rfl
theorem s_get {ci k i : Nat} {C : String} {T : u_T} {N : Nat} {ty : FieldType} (hdg : decode cc pc = .ok (.getfield i, 3)) (hc : vwCl[ci]? = some (C, T, N)) (hk : k < N) (hl : Cond.fieldLink own i (T k).1 (T k).2.1 (T k).2.2.1 ∈ am_ws) (hin : ∀ w ∈ u_ws C T N, w ∈ am_ws) (hty : am_fty ci k = ty) : am_Snd1 own cc nL ret nm pc (a_get ci k ty (pc + 3)) := by
  intro lv st M pc' lv' st' M' he
  unfold a_get at he
  split at he
  · split at he
    · cases he
      rename_i a st2 hka
      refine ⟨⟨Nat.le_refl _, Nat.le_refl _⟩, ?_⟩
      intro G p l e R s m args below meth c c0 w0 Q hC _ _ _ _ hV H locs ls kc ks hR hS hL hkc hks
      obtain ⟨-, cell, q1, q2, q3, q4⟩ := hR.obj hka hc
      obtain ⟨hSl, hfc, kC, hkC, hkind⟩ := hC.2.2.2.2.2.2.2.2.1.1.1 ci _ hc
      obtain ⟨cf, kf, fi, f, hi, hsl⟩ := hSl k hk
      refine W.getf hC.1 hC.2.1 hC.2.2.2.1 (hC.2.2.2.2.1 _ hl) hi (u_facts hfc hkC (u_lays hC.2.2.2.2.1 hin hk) hi).1 q1 (by rw [q3]; exact fun h => by cases h) (v := am_v G (am_fv ty M a k)) ?_ rfl rfl hdg (hV H locs ls kc ks hR hS hL hkc hks)
      rw [hsl, q4 k hk, ← hty]
    · cases he
  · cases he
theorem am_ap {s : State} {args : Array Value} {G : am_G} {C : String} {T : u_T} {N ci : Nat} (hts : ∀ w ∈ am_ws, w.before args s = true) (hin : ∀ w ∈ u_ws C T N, w ∈ am_ws) (hty : ∀ k, k < N → parseFieldDescriptor (T k).2.2.1 = some (am_fty ci k)) (hnm : ∀ a, a < N → ∀ b, b < N → a ≠ b → (T a).2.1 ≠ (T b).2.1) (hK : am_Kn G s) (hc : vwCl[ci]? = some (C, T, N)) : ∀ x y, x < N → y < N → x ≠ y → (G.2.2.2.2 ci) x ≠ (G.2.2.2.2 ci) y :=
  va_apart (own := C) hts hin (am_fty ci) hty hnm hK.1 hc
theorem am_R.put {G : am_G} {M M' : am_M} {H H' : Heap} {a ci k : Nat} {C : String} {T : u_T} {N : Nat} {ty : FieldType} {v : Value} (h : am_R G M H) (hka : mK M a = 10 + ci) (hc : vwCl[ci]? = some (C, T, N)) (hw : am_wr ty M a k v = some M') (hty : am_fty ci k = ty) (hk : k < N) (hap : ∀ x y, x < N → y < N → x ≠ y → (G.2.2.2.2 ci) x ≠ (G.2.2.2.2 ci) y) {cell : Cell} (q1 : H[G.1 + a]? = some cell) (q2 : cell.cls = G.2.2.2.1 ci) (q3 : cell.vm = .none) (q4 : ∀ j, j < N → cell.slots[(G.2.2.2.2 ci) j]? = some (am_v G (am_fv (am_fty ci j) M a j)))
    (e1 : H'[G.1 + a]? = some (cell.setSlot ((G.2.2.2.2 ci) k) (am_v G v))) (e2 : H'.size = H.size) (e3 : ∀ q, q ≠ G.1 + a → H'[q]? = H[q]?) : am_R G M' H' := by
  obtain ⟨w1, w2, w3, w4, -⟩ := am_wr_s hw
  have hci : ci < 12 := (List.getElem?_eq_some_iff.mp hc).1
  refine h.set w1 w2 e2 e3 (fun sh hsh => ?_)
  have hsh2 := mS_of hka (by omega)
  rw [hsh] at hsh2
  cases hsh2
  refine ⟨fun t ht => ?_, fun ci' r e hr => ?_⟩
  · have := (List.getElem?_eq_some_iff.mp ht).1
    simp [am_ety] at this
    omega
  · have e' : ci' = ci := by have : 10 + ci = 10 + ci' := e; omega
    subst e'
    cases hr.symm.trans hc
    refine ⟨(h.obj hka hc).1, ?_⟩
    refine t_OB.to (V := updV (fun j => am_v G (am_fv (am_fty ci' j) M a j)) k (am_v G v)) ⟨_, e1, q2, q3, t_set q4 hap hk (am_v G v)⟩ (fun j _ => ?_)
    unfold updV
    by_cases ej : j = k
    · subst ej
      rw [if_pos rfl, hty, w4]
    · rw [if_neg ej, w3 _ _ ej]
theorem s_put {ci k i : Nat} {C : String} {T : u_T} {N : Nat} {ty : FieldType} (hdg : decode cc pc = .ok (.putfield i, 3)) (hc : vwCl[ci]? = some (C, T, N)) (hk : k < N) (hl : Cond.fieldLink own i (T k).1 (T k).2.1 (T k).2.2.1 ∈ am_ws) (hin : ∀ w ∈ u_ws C T N, w ∈ am_ws) (htys : ∀ k, k < N → parseFieldDescriptor (T k).2.2.1 = some (am_fty ci k)) (hnm : ∀ a, a < N → ∀ b, b < N → a ≠ b → (T a).2.1 ≠ (T b).2.1) (hfin : (T k).2.2.2 = false) (hty : am_fty ci k = ty) : am_Snd1 own cc nL ret nm pc (a_put ci k ty (pc + 3)) := by
  intro lv st M pc' lv' st' M' he
  unfold a_put at he
  split at he
  · split at he
    · rename_i v a st2 hka
      cases hw : am_wr ty M a k v with
      | none => rw [hw] at he; cases he
      | some M2 =>
        rw [hw] at he
        cases he
        have hww := am_wr_s hw
        have hCC : mC M' = mC M := by unfold mC; rw [hww.1]
        have hWW : mW M' = mW M := by unfold mW; rw [hww.1]
        refine ⟨⟨by rw [hCC]; exact Nat.le_refl _, by rw [hWW]; exact Nat.le_refl _⟩, ?_⟩
        intro G p l e R s m args below meth c c0 w0 Q hC _ _ _ _ hV H locs ls kc ks hR hS hL hkc hks
        obtain ⟨-, cell, q1, q2, q3, q4⟩ := hR.obj hka hc
        have hap := am_ap hC.2.2.2.2.1 hin htys hnm hC.2.2.2.2.2.2.2.2.1 hc
        obtain ⟨hSl, hfc, kC, hkC, hkind⟩ := hC.2.2.2.2.2.2.2.2.1.1.1 ci _ hc
        obtain ⟨cf, kf, fi, f, hi, hsl⟩ := hSl k hk
        have hlay : (Cond.lays C (T k).1 (T k).2.1 (T k).2.2.1).before args s = true := by
          have h0 := hC.2.2.2.2.1 (u_lay C T k) (hin _ (List.mem_map.mpr ⟨k, List.mem_range.mpr hk, rfl⟩))
          unfold u_lay at h0
          rw [if_neg (by rw [hfin]; simp)] at h0
          exact h0
        have hst := (u_facts hfc hkC (Or.inl hlay) hi).1
        have h6 := u_store hfc hkC hkind hlay hi (by rw [← hty]; exact htys k hk) (hww.2.2.2.2 G).1 (hww.2.2.2.2 G).2
        refine W.putK hC.1 hC.2.1 (f := f) ⟨hC.2.2.2.1, hC.2.2.2.2.1 _ hl, ⟨_, _, _, hi⟩, hst⟩ (by rw [q2]; exact h6) q1 q3 (by rw [hsl]; exact k2_hasslot (q4 k hk)) rfl rfl hdg fun H' e1 e2 e3 => ?_
        rw [hsl] at e1 ⊢
        exact hV H' _ ls kc ks (hR.put hka hc hw hty hk hap q1 q2 q3 q4 e1 e2 e3) (hS.put e2 e3 (Nat.le_add_right _ _)) hL (by rw [hCC]; exact hkc) (by rw [hWW]; exact hks)
    · cases he
  · cases he
theorem s_putF {ci k i : Nat} {C : String} {T : u_T} {N : Nat} {ty : FieldType} (hdg : decode cc pc = .ok (.putfield i, 3)) (hc : vwCl[ci]? = some (C, T, N)) (hk : k < N) (hl : Cond.fieldLink own i (T k).1 (T k).2.1 (T k).2.2.1 ∈ am_ws) (hin : ∀ w ∈ u_ws C T N, w ∈ am_ws) (htys : ∀ k, k < N → parseFieldDescriptor (T k).2.2.1 = some (am_fty ci k)) (hnm : ∀ a, a < N → ∀ b, b < N → a ≠ b → (T a).2.1 ≠ (T b).2.1) (hfin : (T k).2.2.2 = true) (hini : nm = "<init>") (hdecl : (T k).1 = own) (hty : am_fty ci k = ty) : am_Snd1 own cc nL ret nm pc (a_put ci k ty (pc + 3)) := by
  subst hini
  intro lv st M pc' lv' st' M' he
  unfold a_put at he
  split at he
  · split at he
    · rename_i v a st2 hka
      cases hw : am_wr ty M a k v with
      | none => rw [hw] at he; cases he
      | some M2 =>
        rw [hw] at he
        cases he
        have hww := am_wr_s hw
        have hCC : mC M' = mC M := by unfold mC; rw [hww.1]
        have hWW : mW M' = mW M := by unfold mW; rw [hww.1]
        refine ⟨⟨by rw [hCC]; exact Nat.le_refl _, by rw [hWW]; exact Nat.le_refl _⟩, ?_⟩
        intro G p l e R s m args below meth c c0 w0 Q hC _ _ _ _ hV H locs ls kc ks hR hS hL hkc hks
        have hap := am_ap hC.2.2.2.2.1 hin htys hnm hC.2.2.2.2.2.2.2.2.1 hc
        obtain ⟨-, cell, q1, q2, q3, q4⟩ := hR.obj hka hc
        have hc' := hc
        obtain ⟨hSl, hfc, kC, hkC, hkind⟩ := hC.2.2.2.2.2.2.2.2.1.1.1 ci _ hc
        obtain ⟨cf, kf, fi, f, hi, hsl⟩ := hSl k hk
        have hlay : (Cond.laysFinal C (T k).1 (T k).2.1 (T k).2.2.1).before args s = true := by
          have h0 := hC.2.2.2.2.1 (u_lay C T k) (hin _ (List.mem_map.mpr ⟨k, List.mem_range.mpr hk, rfl⟩))
          unfold u_lay at h0
          rw [if_pos hfin] at h0
          exact h0
        have hst := (u_facts hfc hkC (Or.inr hlay) hi).1
        have hcf : m.cls = cf := by
          obtain ⟨_, _, c', _, _, _, -, -, hf', -, -, -, hown2, -⟩ := Cond.laysFinal_spec hlay
          have e1 : c' = cf := by have := hi.symm.trans hf'; simp at this; exact this.1.symm
          rw [hdecl] at hown2
          rw [← e1]; exact Option.some.inj (hC.2.2.2.1.symm.trans hown2)
        have h6 := u_fits hfc hkC hkind (Or.inr hlay) hi (by rw [← hty]; exact htys k hk) (hww.2.2.2.2 G).1 (hww.2.2.2.2 G).2
        refine W.putFinK hC.1 hC.2.1 hC.2.2.2.1 (hC.2.2.2.2.1 _ hl) hi hst hcf hC.2.2.2.2.2.2.2.1 (by rw [q2]; exact h6) q1 q3 (by rw [hsl]; exact k2_hasslot (q4 k hk)) rfl rfl hdg fun H' e1 e2 e3 => ?_
        rw [hsl] at e1 ⊢
        exact hV H' _ ls kc ks (hR.put hka hc hw hty hk hap q1 q2 q3 q4 e1 e2 e3) (hS.put e2 e3 (Nat.le_add_right _ _)) hL (by rw [hCC]; exact hkc) (by rw [hWW]; exact hks)
    · cases he
  · cases he
end
