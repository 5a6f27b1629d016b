/-! 97a.mdata 97b.mname 97c.mstmt 97d.mstmt2 97e.msay 97f.mrule 97g.mstmt3 97h.msize 97i.mval 97j.msea 97k.msea2 -/
section
/-! what the model's sea holds -/
def RlM (M : am_M) (z kind : Nat) (sm : Bool) (R : Rls) (c : Nat) : Prop := mI M 281 (3 * z + kind) = nI R.length ∧ ∀ k r, R[k]? = some r → ∃ s0 s1 s2, s0 ≤ s1 ∧ s1 ≤ s2 ∧ s2 ≤ c ∧ mI M 282 (30 * z + 12 * kind + k) = nI s0 ∧ mI M 283 (30 * z + 12 * kind + k) = nI s1 ∧ mI M 284 (30 * z + 12 * kind + k) = nI s2 ∧ wfD 1850 (insM M z) s1 (s2 - s1) ∧ cdD (insM M z) s1 (s2 - s1) = [r.2] ∧ (sm = true → wfD 1850 (insM M z) s0 (s1 - s0) ∧ cdD (insM M z) s0 (s1 - s0) = [r.1])
def ShpM (M : am_M) (z : Nat) (L : List Shp) : Prop := mI M 285 z = nI L.length ∧ ∀ s sp, L[s]? = some sp → mL M 286 (8 * z + s) = wdL sp.1 ∧ mI M 287 (8 * z + s) = nI sp.2.1 ∧ mI M 288 (8 * z + s) = nI sp.2.2.1 ∧ mI M 289 (8 * z + s) = nI sp.2.2.2.1 ∧ mI M 290 (8 * z + s) = nI sp.2.2.2.2
def SysM (M : am_M) (z : Nat) (D : Dat) : Prop := mI M 291 z = nI (dTot D) ∧ ∀ s, s < 8 → SyM M z (dC D) (dR D) s (dY D s)
def SgM (M : am_M) (z C : Nat) (L : List (Nat × Nat × Nat)) : Prop := mI M 299 z = nI L.length ∧ ∀ i g, L[i]? = some g → mI M 300 (40 * z + i) = nI g.1 ∧ mI M 301 (40 * z + i) = nI (cel C g.2.1) ∧ mI M 302 (40 * z + i) = nI g.2.2
def Pd1 (M : am_M) (z : Nat) (D : Dat) (c : Nat) : Prop := mI M 303 z = nI (dLk D) ∧ ShpM M z (dSh D) ∧ SysM M z D ∧ BkM M z (dC D) (dBk D) ∧ SgM M z (dC D) (dSg D) ∧ (RlM M z 0 true (dRd D) c ∧ RlM M z 1 true (dRc D) c ∧ RlM M z 2 false (dRq D) c) ∧ FmM M z c
/-- the model's sea as it is told -/
def PdM (M : am_M) (z : Nat) (D : Dat) (c : Nat) : Prop := (mI M 279 z = nI (dC D) ∧ mI M 280 z = nI (dR D)) ∧ Pd1 M z D c
theorem RlM_g {M M' : am_M} {z kd c : Nat} {sm : Bool} {R : Rls} {S T' : Nat → Nat → Prop} (h : RlM M z kd sm R c) (hR : R.length ≤ 12) (hg : gF S T' M M') (h1 : ¬ S 281 (3 * z + kd)) (h2 : ∀ a j, 282 ≤ a → a ≤ 284 → j < R.length → ¬ S a (30 * z + 12 * kd + j)) (h7 : ∀ a j, a = 304 ∨ a = 305 → 1800 * z ≤ j → j < 1800 * z + c → ¬ S a j) : RlM M' z kd sm R c := by
  refine ⟨by rw [hg.1 _ _ h1]; exact h.1, fun k r hr => ?_⟩
  have hk := (List.getElem?_eq_some_iff.mp hr).1
  obtain ⟨s0, s1, s2, b1, b2, b3, b4, b5, b6, b7, b8, b9⟩ := h.2 k r hr
  have e1 : ∀ j, j < s2 - s1 → insM M z (s1 + j) = insM M' z (s1 + j) := fun j hj => by unfold insM; rw [hg.1 _ _ (h7 304 _ (Or.inl rfl) (by omega) (by omega)), hg.1 _ _ (h7 305 _ (Or.inr rfl) (by omega) (by omega))]
  have e0 : ∀ j, j < s1 - s0 → insM M z (s0 + j) = insM M' z (s0 + j) := fun j hj => by unfold insM; rw [hg.1 _ _ (h7 304 _ (Or.inl rfl) (by omega) (by omega)), hg.1 _ _ (h7 305 _ (Or.inr rfl) (by omega) (by omega))]
  refine ⟨s0, s1, s2, b1, b2, b3, by rw [hg.1 _ _ (h2 _ _ (by omega) (by omega) hk)]; exact b4, by rw [hg.1 _ _ (h2 _ _ (by omega) (by omega) hk)]; exact b5, by rw [hg.1 _ _ (h2 _ _ (by omega) (by omega) hk)]; exact b6, wfD_ext e1 b7, by rw [← cdD_ext e1]; exact b8, fun q => ⟨wfD_ext e0 (b9 q).1, by rw [← cdD_ext e0]; exact (b9 q).2⟩⟩
theorem RlM_le {M : am_M} {z kd c c' : Nat} {sm : Bool} {R : Rls} (h : RlM M z kd sm R c) (hc : c ≤ c') : RlM M z kd sm R c' := by
  refine ⟨h.1, fun k r hr => ?_⟩
  obtain ⟨s0, s1, s2, b1, b2, b3, b4⟩ := h.2 k r hr
  exact ⟨s0, s1, s2, b1, b2, by omega, b4⟩
theorem ShpM_g {M M' : am_M} {z : Nat} {L : List Shp} {S T' : Nat → Nat → Prop} (h : ShpM M z L) (hg : gF S T' M M') (h0 : ¬ S 285 z) (hS : ∀ a j, 286 ≤ a → a ≤ 290 → j < L.length → ¬ S a (8 * z + j)) : ShpM M' z L := by
  refine ⟨by rw [hg.1 _ _ h0]; exact h.1, fun s sp hs => ?_⟩
  have hk := (List.getElem?_eq_some_iff.mp hs).1
  obtain ⟨a1, a2, a3, a4, a5⟩ := h.2 s sp hs
  exact ⟨by rw [hg.2.1 _ _ (hS _ _ (by omega) (by omega) hk)]; exact a1, by rw [hg.1 _ _ (hS _ _ (by omega) (by omega) hk)]; exact a2, by rw [hg.1 _ _ (hS _ _ (by omega) (by omega) hk)]; exact a3, by rw [hg.1 _ _ (hS _ _ (by omega) (by omega) hk)]; exact a4, by rw [hg.1 _ _ (hS _ _ (by omega) (by omega) hk)]; exact a5⟩
theorem SyM_gF {M M' : am_M} {b C R s : Nat} {Y : List Sy} {S T' : Nat → Nat → Prop} (h : SyM M b C R s Y) (hg : gF S T' M M') (hS : ∀ a t, a = 292 ∨ a = 293 → t < 48 → ¬ S a (384 * b + 48 * s + t)) : SyM M' b C R s Y := by
  refine ⟨h.1, h.2.1, fun t ht => ?_⟩
  rcases h.2.2 t ht with ⟨y, q1, q2, q3, q4⟩ | ⟨q1, q2⟩
  · exact Or.inl ⟨y, q1, q2, by rw [hg.1 _ _ (hS _ _ (Or.inl rfl) ht)]; exact q3, by rw [hg.1 _ _ (hS _ _ (Or.inr rfl) ht)]; exact q4⟩
  · exact Or.inr ⟨q1, by rw [hg.1 _ _ (hS _ _ (Or.inl rfl) ht)]; exact q2⟩
theorem SysM_g {M M' : am_M} {z : Nat} {D : Dat} {S T' : Nat → Nat → Prop} (h : SysM M z D) (hg : gF S T' M M') (h0 : ¬ S 291 z) (hS : ∀ a j, a = 292 ∨ a = 293 → ¬ S a j) : SysM M' z D := ⟨by rw [hg.1 _ _ h0]; exact h.1, fun s hs => SyM_gF (h.2 s hs) hg (fun a t q _ => hS a _ q)⟩
theorem BkM_gF {M M' : am_M} {z C : Nat} {L : List Bk} {S T' : Nat → Nat → Prop} (h : BkM M z C L) (hg : gF S T' M M') (h0 : ¬ S 294 z) (hS : ∀ a j, 295 ≤ a → a ≤ 298 → j < L.length → ¬ S a (12 * z + j)) : BkM M' z C L := by
  refine ⟨by rw [hg.1 _ _ h0]; exact h.1, fun i k hi => ?_⟩
  have hk := (List.getElem?_eq_some_iff.mp hi).1
  obtain ⟨a1, a2, a3, a4⟩ := h.2 i k hi
  exact ⟨by rw [hg.1 _ _ (hS _ _ (by omega) (by omega) hk)]; exact a1, by rw [hg.1 _ _ (hS _ _ (by omega) (by omega) hk)]; exact a2, by rw [hg.1 _ _ (hS _ _ (by omega) (by omega) hk)]; exact a3, by rw [hg.1 _ _ (hS _ _ (by omega) (by omega) hk)]; exact a4⟩
theorem SgM_g {M M' : am_M} {z C : Nat} {L : List (Nat × Nat × Nat)} {S T' : Nat → Nat → Prop} (h : SgM M z C L) (hg : gF S T' M M') (h0 : ¬ S 299 z) (hS : ∀ a j, 300 ≤ a → a ≤ 302 → j < L.length → ¬ S a (40 * z + j)) : SgM M' z C L := by
  refine ⟨by rw [hg.1 _ _ h0]; exact h.1, fun i g hi => ?_⟩
  have hk := (List.getElem?_eq_some_iff.mp hi).1
  obtain ⟨a1, a2, a3⟩ := h.2 i g hi
  exact ⟨by rw [hg.1 _ _ (hS _ _ (by omega) (by omega) hk)]; exact a1, by rw [hg.1 _ _ (hS _ _ (by omega) (by omega) hk)]; exact a2, by rw [hg.1 _ _ (hS _ _ (by omega) (by omega) hk)]; exact a3⟩
/-- nothing that is told is touched, but code from c on -/
theorem Pd1_g {M M' : am_M} {z c c' : Nat} {D : Dat} {S T' : Nat → Nat → Prop} (h : Pd1 M z D c) (hD : DOK D) (hg : gF S T' M M') (hS : ∀ a j, S a j → ¬ (281 ≤ a ∧ a ≤ 303) ∧ ¬ ((a = 304 ∨ a = 305) ∧ 1800 * z ≤ j ∧ j < 1800 * z + c)) (hF : FmM M' z c') (hc : c ≤ c') : Pd1 M' z D c' := by
  obtain ⟨h1, h2, h3, h4, h5, ⟨r1, r2, r3⟩, f⟩ := h
  have k : ∀ a j, 281 ≤ a → a ≤ 303 → ¬ S a j := fun a j q1 q2 w => (hS a j w).1 ⟨q1, q2⟩
  have kc : ∀ a j, a = 304 ∨ a = 305 → 1800 * z ≤ j → j < 1800 * z + c → ¬ S a j := fun a j q1 q2 q3 w => (hS a j w).2 ⟨q1, q2, q3⟩
  have l1 := hD.2.2.2.2.2.2.2.2.1.1
  have l2 := hD.2.2.2.2.2.2.2.2.2.1.1
  have l3 := hD.2.2.2.2.2.2.2.2.2.2.1
  exact ⟨by rw [hg.1 _ _ (k _ _ (by omega) (by omega))]; exact h1, ShpM_g h2 hg (k _ _ (by omega) (by omega)) (fun a j q1 q2 _ => k _ _ (by omega) (by omega)), SysM_g h3 hg (k _ _ (by omega) (by omega)) (fun a j q => k _ _ (by omega) (by omega)), BkM_gF h4 hg (k _ _ (by omega) (by omega)) (fun a j q1 q2 _ => k _ _ (by omega) (by omega)), SgM_g h5 hg (k _ _ (by omega) (by omega)) (fun a j q1 q2 _ => k _ _ (by omega) (by omega)), ⟨RlM_le (RlM_g r1 l1 hg (k _ _ (by omega) (by omega)) (fun a j q1 q2 _ => k _ _ (by omega) (by omega)) kc) hc, RlM_le (RlM_g r2 l2 hg (k _ _ (by omega) (by omega)) (fun a j q1 q2 _ => k _ _ (by omega) (by omega)) kc) hc, RlM_le (RlM_g r3 (by omega) hg (k _ _ (by omega) (by omega)) (fun a j q1 q2 _ => k _ _ (by omega) (by omega)) kc) hc⟩, hF⟩
theorem PdM_g {M M' : am_M} {z c c' : Nat} {D : Dat} {S T' : Nat → Nat → Prop} (h : PdM M z D c) (hD : DOK D) (hg : gF S T' M M') (hS : ∀ a j, S a j → ¬ (279 ≤ a ∧ a ≤ 303) ∧ ¬ ((a = 304 ∨ a = 305) ∧ 1800 * z ≤ j ∧ j < 1800 * z + c)) (hF : FmM M' z c') (hc : c ≤ c') : PdM M' z D c' := by
  refine ⟨⟨?_, ?_⟩, Pd1_g h.2 hD hg (fun a j w => ⟨fun q => (hS a j w).1 ⟨by omega, q.2⟩, (hS a j w).2⟩) hF hc⟩
  · rw [hg.1 _ _ (fun w => (hS _ _ w).1 ⟨by omega, by omega⟩)]; exact h.1.1
  · rw [hg.1 _ _ (fun w => (hS _ _ w).1 ⟨by omega, by omega⟩)]; exact h.1.2
theorem FmM_R {M M' : am_M} {z c : Nat} (h : FmM M z c) (hg : gF sRm nT M M') : FmM M' z c := FmM_g h hg (fun j q w => by unfold sRm at w; omega)
theorem PdM_R {M M' : am_M} {z c : Nat} {D : Dat} (h : PdM M z D c) (hD : DOK D) (hg : gF sRm nT M M') : PdM M' z D c := PdM_g h hD hg (fun a j w => by unfold sRm at w; omega) (FmM_R h.2.2.2.2.2.2.2 hg) (Nat.le_refl _)
theorem Pd1_R {M M' : am_M} {z c : Nat} {D : Dat} (h : Pd1 M z D c) (hD : DOK D) (hg : gF sRm nT M M') : Pd1 M' z D c := Pd1_g h hD hg (fun a j w => by unfold sRm at w; omega) (FmM_R h.2.2.2.2.2.2 hg) (Nat.le_refl _)
/-- what a text that is read changes -/
def sSm (z a j : Nat) : Prop := (a = 277 ∧ ((3 ≤ j ∧ j ≤ 9) ∨ j = 40 ∨ j = 47 ∨ j = 48 ∨ j = 50 ∨ j = 51)) ∨ ((a = 279 ∨ a = 280 ∨ a = 285 ∨ a = 291 ∨ a = 294 ∨ a = 299 ∨ a = 303) ∧ j = z) ∨ (a = 281 ∧ 3 * z ≤ j ∧ j < 3 * z + 3) ∨ ((282 ≤ a ∧ a ≤ 284) ∧ 30 * z ≤ j ∧ j < 30 * z + 30) ∨ ((286 ≤ a ∧ a ≤ 290) ∧ 8 * z ≤ j ∧ j < 8 * z + 8) ∨ ((a = 292 ∨ a = 293) ∧ 384 * z ≤ j ∧ j < 384 * z + 384) ∨ ((295 ≤ a ∧ a ≤ 298) ∧ 12 * z ≤ j ∧ j < 12 * z + 12) ∨ ((300 ≤ a ∧ a ≤ 302) ∧ 40 * z ≤ j ∧ j < 40 * z + 40) ∨ ((a = 304 ∨ a = 305) ∧ 1800 * z ≤ j ∧ j < 1800 * z + 1800) ∨ (306 ≤ a ∧ a ≤ 311)
theorem sS_0 {z a j : Nat} (h : a = 277 ∧ ((3 ≤ j ∧ j ≤ 9) ∨ j = 40 ∨ j = 47 ∨ j = 48 ∨ j = 50 ∨ j = 51)) : sSm z a j := Or.inl h
theorem sS_1 {z a j : Nat} (h : (a = 279 ∨ a = 280 ∨ a = 285 ∨ a = 291 ∨ a = 294 ∨ a = 299 ∨ a = 303) ∧ j = z) : sSm z a j := Or.inr (Or.inl h)
theorem sS_2 {z a j : Nat} (h : a = 281 ∧ 3 * z ≤ j ∧ j < 3 * z + 3) : sSm z a j := Or.inr (Or.inr (Or.inl h))
theorem sS_3 {z a j : Nat} (h : (282 ≤ a ∧ a ≤ 284) ∧ 30 * z ≤ j ∧ j < 30 * z + 30) : sSm z a j := Or.inr (Or.inr (Or.inr (Or.inl h)))
theorem sS_4 {z a j : Nat} (h : (286 ≤ a ∧ a ≤ 290) ∧ 8 * z ≤ j ∧ j < 8 * z + 8) : sSm z a j := Or.inr (Or.inr (Or.inr (Or.inr (Or.inl h))))
theorem sS_5 {z a j : Nat} (h : (a = 292 ∨ a = 293) ∧ 384 * z ≤ j ∧ j < 384 * z + 384) : sSm z a j := Or.inr (Or.inr (Or.inr (Or.inr (Or.inr (Or.inl h)))))
theorem sS_6 {z a j : Nat} (h : (295 ≤ a ∧ a ≤ 298) ∧ 12 * z ≤ j ∧ j < 12 * z + 12) : sSm z a j := Or.inr (Or.inr (Or.inr (Or.inr (Or.inr (Or.inr (Or.inl h))))))
theorem sS_7 {z a j : Nat} (h : (300 ≤ a ∧ a ≤ 302) ∧ 40 * z ≤ j ∧ j < 40 * z + 40) : sSm z a j := Or.inr (Or.inr (Or.inr (Or.inr (Or.inr (Or.inr (Or.inr (Or.inl h)))))))
theorem sS_8 {z a j : Nat} (h : (a = 304 ∨ a = 305) ∧ 1800 * z ≤ j ∧ j < 1800 * z + 1800) : sSm z a j := Or.inr (Or.inr (Or.inr (Or.inr (Or.inr (Or.inr (Or.inr (Or.inr (Or.inl h))))))))
theorem sS_9 {z a j : Nat} (h : 306 ≤ a ∧ a ≤ 311) : sSm z a j := Or.inr (Or.inr (Or.inr (Or.inr (Or.inr (Or.inr (Or.inr (Or.inr (Or.inr h))))))))
theorem sRm_S {M M' : am_M} {z : Nat} (h : gF sRm nT M M') : gF (sSm z) nT M M' := gF_up h (fun a j q => sS_0 (by unfold sRm at q; omega)) (fun _ _ q => q)
theorem sFm_S {M M' : am_M} {z c : Nat} (h : gF (sFm z c) nT M M') : gF (sSm z) nT M M' := gF_up h (fun a j q => by
  rcases q with q | q | q
  · exact sS_0 q
  · exact sS_8 (by omega)
  · exact sS_9 q) (fun _ _ q => q)
def GdM (T : Nat → Nat) (n z : Nat) (M : am_M) (D : Dat) (c : Nat) (t : Tok) : Prop := Lay M ∧ RdM M T n t ∧ PdM M z D c ∧ DOK D ∧ c ≤ tS t
def EdM (T : Nat → Nat) (n z : Nat) (t : Tok) (M M' : am_M) : Sum (Nat × Nat) (Tok × Dat) → Prop
  | .inl e => gF (sSm z) nT M M' ∧ FtM M' T n e.1 e.2
  | .inr q => gF (sSm z) nT M M' ∧ (∃ c', GdM T n z M' q.2 c' q.1) ∧ tS t < tS q.1
/-! own words, names -/
def ownL : List Int64 := [1936292453, 431198598248, 1668248436, 487301145972, 1936222576, 1819242347, 495806932324, 431415715444, 1819238756, 1935767923, 24948, 465490437486, 1651470187, 1718775661, 29807, 1936024942, 1752135026, 1819632491, 2003330414, 28530, 6385252, 7237492, 6384748, 109330212154734, 7499639, 7170414, 7168376]
theorem ownL_1 : ∀ k, k < 27 → wdL (ownW.getD k []) ∈ ownL := by decide
theorem ownL_2 : ownL = ownW.map wdL := by decide
theorem ownL_i {l : List Nat} (h1 : isWd l) (h2 : l.length ≤ 6) : wdL l ∈ ownL ↔ l ∈ ownW := by
  rw [ownL_2, List.mem_map]
  constructor
  · rintro ⟨w, hw, he⟩
    obtain ⟨k, hk⟩ := List.mem_iff_getElem?.mp hw
    have hk27 : k < 27 := (List.getElem?_eq_some_iff.mp hk).1
    have e : ownW.getD k [] = w := by rw [List.getD_eq_getElem?_getD, hk]; rfl
    have := own_6 k hk27
    rw [e] at this
    rw [wdL_eq (ownW_wd w hw) h1 this h2] at he
    rw [← he]; exact hw
  · intro h; exact ⟨l, h, rfl⟩
theorem c_m_isOwn (d : Nat) (x : Int64) (M : am_M) (Q : Option Value → am_M → Prop) : am_E am_P0 d 178 [.ref 277, .long x] M Q ↔ Q (some (.int (b01 (decide (x ∈ ownL))))) M := by
  have yes : ∀ y, y ∈ ownL → x = y → Q (some (.int (b01 (decide (x ∈ ownL))))) M = Q (some (.int 1)) M := fun y hy e => by rw [decide_eq_true (by rw [e]; exact hy)]; rfl
  rw [eX11_isOwn]
  simp +decide only [qX11_isOwn_0, qX11_isOwn_1, qX11_isOwn_2, qX11_isOwn_3, lgc_0, am_w1_i, am_w1_r, am_w1_x, am_w1_l, am_w1_w, va_rf_s, am_push_n, am_push_s, am_cs_0, am_cs_i, am_cs_l, am_cs_r, m_uI_K, m_uI_N, m_uI_R, m_uI_L, m_uI_I, m_uL_K, m_uL_N, m_uL_R, m_uL_I, m_uL_L, m_uR_K, m_uR_N, m_uR_I, m_uR_L, m_uR_R, true_and, and_true, true_implies, false_implies, not_true_eq_false, not_false_eq_true, if_true, if_false, false_and, and_false]
  by_cases c0 : x = 1936292453
  · rw [br_p c0, yes 1936292453 (by decide) c0]
  rw [br_n c0]
  by_cases c1 : x = 431198598248
  · rw [br_p c1, yes 431198598248 (by decide) c1]
  rw [br_n c1]
  by_cases c2 : x = 1668248436
  · rw [br_p c2, yes 1668248436 (by decide) c2]
  rw [br_n c2]
  by_cases c3 : x = 487301145972
  · rw [br_p c3, yes 487301145972 (by decide) c3]
  rw [br_n c3]
  by_cases c4 : x = 1936222576
  · rw [br_r c4, yes 1936222576 (by decide) c4]
  rw [br_q c4]
  by_cases c5 : x = 1819242347
  · rw [br_p c5, yes 1819242347 (by decide) c5]
  rw [br_n c5]
  by_cases c6 : x = 495806932324
  · rw [br_p c6, yes 495806932324 (by decide) c6]
  rw [br_n c6]
  by_cases c7 : x = 431415715444
  · rw [br_p c7, yes 431415715444 (by decide) c7]
  rw [br_n c7]
  by_cases c8 : x = 1819238756
  · rw [br_p c8, yes 1819238756 (by decide) c8]
  rw [br_n c8]
  by_cases c9 : x = 1935767923
  · rw [br_r c9, yes 1935767923 (by decide) c9]
  rw [br_q c9]
  by_cases c10 : x = 24948
  · rw [br_p c10, yes 24948 (by decide) c10]
  rw [br_n c10]
  by_cases c11 : x = 465490437486
  · rw [br_p c11, yes 465490437486 (by decide) c11]
  rw [br_n c11]
  by_cases c12 : x = 1651470187
  · rw [br_p c12, yes 1651470187 (by decide) c12]
  rw [br_n c12]
  by_cases c13 : x = 1718775661
  · rw [br_p c13, yes 1718775661 (by decide) c13]
  rw [br_n c13]
  by_cases c14 : x = 29807
  · rw [br_r c14, yes 29807 (by decide) c14]
  rw [br_q c14]
  by_cases c15 : x = 1936024942
  · rw [br_p c15, yes 1936024942 (by decide) c15]
  rw [br_n c15]
  by_cases c16 : x = 1752135026
  · rw [br_p c16, yes 1752135026 (by decide) c16]
  rw [br_n c16]
  by_cases c17 : x = 1819632491
  · rw [br_p c17, yes 1819632491 (by decide) c17]
  rw [br_n c17]
  by_cases c18 : x = 2003330414
  · rw [br_p c18, yes 2003330414 (by decide) c18]
  rw [br_n c18]
  by_cases c19 : x = 28530
  · rw [br_r c19, yes 28530 (by decide) c19]
  rw [br_q c19]
  by_cases c20 : x = 6385252
  · rw [br_p c20, yes 6385252 (by decide) c20]
  rw [br_n c20]
  by_cases c21 : x = 7237492
  · rw [br_p c21, yes 7237492 (by decide) c21]
  rw [br_n c21]
  by_cases c22 : x = 6384748
  · rw [br_p c22, yes 6384748 (by decide) c22]
  rw [br_n c22]
  by_cases c23 : x = 109330212154734
  · rw [br_p c23, yes 109330212154734 (by decide) c23]
  rw [br_n c23]
  by_cases c24 : x = 7499639
  · rw [br_r c24, yes 7499639 (by decide) c24]
  rw [br_q c24]
  by_cases c25 : x = 7170414
  · rw [br_p c25, yes 7170414 (by decide) c25]
  rw [br_n c25]
  by_cases c26 : x = 7168376
  · rw [br_r c26, yes 7168376 (by decide) c26]
  rw [br_q c26]
  have hn : ¬ x ∈ ownL := by
    simp only [ownL, List.mem_cons, List.not_mem_nil, or_false, not_or]
    exact ⟨c0, c1, c2, c3, c4, c5, c6, c7, c8, c9, c10, c11, c12, c13, c14, c15, c16, c17, c18, c19, c20, c21, c22, c23, c24, c25, c26⟩
  rw [decide_eq_false hn]
  exact Iff.rfl
end
section
/-! the model: names, places -/
theorem l_m_named (d z : Nat) (D : Dat) (l : List Nat) (M : am_M) (Q : Option Value → am_M → Prop) (hL : Lay M) (hz : z ≤ 1) (hin : mI M 277 41 = nI z) (hS : ShpM M z (dSh D)) (hD : DOK D) (hl : isWd l) (h6 : l.length ≤ 6) : ∀ (m k : Nat), k + m = (dSh D).length → (∀ j sp, j < k → (dSh D)[j]? = some sp → ¬ sp.1 = l) → (am_P am_P0 d (am_look tX11_named) 2 [.ref 277, .long (wdL l), am_x, .int (nI k)] [] M Q ↔ Q (some (.int (match shF D l with | some s => nI s | none => -1))) M) := by
  have h8 := hD.2.2.1.1
  intro m
  induction m with
  | zero =>
    intro k hk hno
    have e : k = (dSh D).length := by omega
    subst e
    have hle : nI (dSh D).length ≤ nI (dSh D).length := (ni_le (by omega) (by omega)).mpr (Nat.le_refl _)
    have hn : shF D l = none := by
      unfold shF
      rw [List.findIdx?_eq_none_iff]
      intro sp hsp
      obtain ⟨j, hj⟩ := List.mem_iff_getElem?.mp hsp
      have := hno j sp (List.getElem?_eq_some_iff.mp hj).1 hj
      simpa using this
    rw [hn, hX11_named_2]
    simp +decide (disch := omega) only [qX11_named, lm hL, hin, hS.1, ni_in_t, ni_tn, am_w1_i, am_w1_r, am_w1_x, am_w1_l, am_w1_w, va_rf_s, am_push_n, am_push_s, am_cs_0, am_cs_i, am_cs_l, am_cs_r, m_uI_K, m_uI_N, m_uI_R, m_uI_L, m_uI_I, m_uL_K, m_uL_N, m_uL_R, m_uL_I, m_uL_L, m_uR_K, m_uR_N, m_uR_I, m_uR_L, m_uR_R, true_and, and_true, true_implies, false_implies, not_true_eq_false, not_false_eq_true, if_true, if_false, false_and, and_false]
    rw [br_p hle]
  | succ m ih =>
    intro k hk hno
    have hlt : ¬ nI (dSh D).length ≤ nI k := by rw [ni_le (by omega) (by omega)]; omega
    have hkl : k < (dSh D).length := by omega
    obtain ⟨sp, hsp⟩ : ∃ sp, (dSh D)[k]? = some sp := ⟨(dSh D)[k]'hkl, List.getElem?_eq_getElem hkl⟩
    have hok := hD.2.2.1.2.2 sp (List.mem_of_getElem? hsp)
    have hnm := (hS.2 k sp hsp).1
    have e : (8 : Int32) * nI z + nI k = nI (8 * z + k) := by rw [show (8 : Int32) = nI 8 from rfl, ni_mul, ni_add]
    have he := wdL_eq hok.1 hl hok.2.2.1 h6
    rw [hX11_named_2]
    simp +decide (disch := omega) only [qX11_named, lm hL, hin, hS.1, e, hnm, lgc_0, ni_in_t, ni_tn, ni_add1, am_w1_i, am_w1_r, am_w1_x, am_w1_l, am_w1_w, va_rf_s, am_push_n, am_push_s, am_cs_0, am_cs_i, am_cs_l, am_cs_r, m_uI_K, m_uI_N, m_uI_R, m_uI_L, m_uI_I, m_uL_K, m_uL_N, m_uL_R, m_uL_I, m_uL_L, m_uR_K, m_uR_N, m_uR_I, m_uR_L, m_uR_R, true_and, and_true, true_implies, false_implies, not_true_eq_false, not_false_eq_true, if_true, if_false, false_and, and_false]
    rw [br_n hlt]
    by_cases cq : sp.1 = l
    · rw [br_r (he.mpr cq)]
      have hf : shF D l = some k := by
        unfold shF
        rw [List.findIdx?_eq_some_iff_getElem]
        refine ⟨hkl, ?_, fun j hj => ?_⟩
        · have : (dSh D)[k] = sp := by rw [List.getElem?_eq_getElem hkl] at hsp; cases hsp; rfl
          rw [this]; simpa using cq
        · have := hno j ((dSh D)[j]'(by omega)) hj (List.getElem?_eq_getElem (by omega))
          simpa using this
      rw [hf]
    · rw [br_q (fun q => cq (he.mp q))]
      exact ih (k + 1) (by omega) (fun j sp' hj hsp' => by
        by_cases ej : j = k
        · subst ej; cases hsp.symm.trans hsp'; exact cq
        · exact hno j sp' (by omega) hsp')
theorem c_m_named (d z : Nat) (D : Dat) (l : List Nat) (M : am_M) (Q : Option Value → am_M → Prop) (hL : Lay M) (hz : z ≤ 1) (hin : mI M 277 41 = nI z) (hS : ShpM M z (dSh D)) (hD : DOK D) (hl : isWd l) (h6 : l.length ≤ 6) : am_E am_P0 d 181 [.ref 277, .long (wdL l)] M Q ↔ Q (some (.int (match shF D l with | some s => nI s | none => -1))) M := by
  rw [eX11_named]
  simp +decide only [qX11_named, am_w1_i, am_w1_r, am_w1_x, am_w1_l, am_w1_w, va_rf_s, am_push_n, am_push_s, am_cs_0, am_cs_i, am_cs_l, am_cs_r, m_uI_K, m_uI_N, m_uI_R, m_uI_L, m_uI_I, m_uL_K, m_uL_N, m_uL_R, m_uL_I, m_uL_L, m_uR_K, m_uR_N, m_uR_I, m_uR_L, m_uR_R, true_and, and_true, true_implies, false_implies, not_true_eq_false, not_false_eq_true, if_true, if_false, false_and, and_false]
  exact l_m_named d z D l M Q hL hz hin hS hD hl h6 (dSh D).length 0 (by omega) (fun j sp hj => by omega)
section
variable {T : Nat → Nat} {n z : Nat}
/-- is it a name -/
theorem m_isNm (d : Nat) (t : Tok) (M : am_M) (Q : Option Value → am_M → Prop) (hR : RdM M T n t) (h1 : t.1 = 1) : am_E am_P0 d 178 [.ref 277, .long (mL M 277 7)] M Q ↔ Q (some (.int (b01 (!isNm t)))) M := by
  have hw := hR.2.2.2.2.2.2.2.2.2.2.2.2.2.1 h1
  rw [c_m_isOwn, hR.2.2.2.2.2.2.2.1 h1]
  have e : decide (wdL t.2.2.1 ∈ ownL) = !isNm t := by
    unfold isNm
    rw [h1]
    by_cases q : t.2.2.1 ∈ ownW
    · rw [decide_eq_true ((ownL_i hw.1 hw.2.1).mpr q), decide_eq_true q]; rfl
    · rw [decide_eq_false (fun w => q ((ownL_i hw.1 hw.2.1).mp w)), decide_eq_false q]; rfl
  rw [e]
def frR (T : Nat → Nat) (n : Nat) (D : Dat) (r : Rt) : Rt := bR (nameR r).1 (fun t1 => if (shF D t1.2.2.1).isSome = true then .inl (2, tS t1) else advR T n t1)
theorem m_fresh (d z : Nat) (D : Dat) (r : Rt) (M : am_M) (Q : Option Value → am_M → Prop) (hL : Lay M) (hz : z ≤ 1) (hin : mI M 277 41 = nI z) (hS : ShpM M z (dSh D)) (hD : DOK D) (hR : StM M T n r)
    (hQ : ∀ M' x, gF sRm nT M M' → StM M' T n (frR T n D r) → (∀ t1 t', (nameR r).1 = .inr t1 → frR T n D r = .inr t' → x = wdL t1.2.2.1) → Q (some (.long x)) M') : am_E am_P0 (d + 2) 195 [.ref 277] M Q := by
  rw [eX11_fresh]
  cases r with
  | inl e =>
    have p := FtM_pos hR
    have h0 := hQ M 0 (gF_refl _ _ _) hR (fun t1 t' q => by cases q)
    simp +decide only [qX11_fresh_0, qX11_fresh_1, lm hL, am_w1_i, am_w1_r, am_w1_x, am_w1_l, am_w1_w, va_rf_s, am_push_n, am_push_s, am_cs_0, am_cs_i, am_cs_l, am_cs_r, m_uI_K, m_uI_N, m_uI_R, m_uI_L, m_uI_I, m_uL_K, m_uL_N, m_uL_R, m_uL_I, m_uL_L, m_uR_K, m_uR_N, m_uR_I, m_uR_L, m_uR_R, true_and, and_true, true_implies, false_implies, not_true_eq_false, not_false_eq_true, if_true, if_false, false_and, and_false]
    rw [br_n p.2.2]
    exact h0
  | inr t =>
    have hR' : RdM M T n t := hR
    have h3 := RdM_3 hR' 1 (by omega)
    rw [show nI 1 = (1 : Int32) from rfl] at h3
    have en : nameR (.inr t) = if isNm t = true then (.inr t, true) else (.inl (1, tS t), false) := rfl
    -- the first fault
    have bad : isNm t = false → ∀ x, Q (some (.long x)) (uI (uI M 277 8 1) 277 9 (nI (tS t))) := fun hn x => by
      have hf := FtM_0 (k := 1) hR' (by omega)
      refine hQ _ x hf.2 ?_ ?_
      · unfold frR; rw [en, hn]; exact hf.1
      · intro t1 t' q; rw [en, hn] at q; cases q
    have hf := FtM_0 (k := 1) hR' (by omega)
    have hp := FtM_pos hf.1
    have hbl := fun Q => m_blame (T := T) (n := n) (d + 1) 1 t M Q hL hR'
    have Lf : Lay (uI (uI M 277 8 1) 277 9 (nI (tS t))) := hL
    rw [show nI 1 = (1 : Int32) from rfl] at hbl hp hf
    by_cases c1 : t.1 = 1
    · have hown := fun Q => m_isNm (d + 1) t M Q hR' c1
      have hw := hR'.2.2.2.2.2.2.2.2.2.2.2.2.2.1 c1
      have h7 := hR'.2.2.2.2.2.2.2.1 c1
      by_cases cn : isNm t = true
      · rw [en, if_pos cn] at hQ
        have efr : frR T n D (.inr t) = if (shF D t.2.2.1).isSome = true then .inl (2, tS t) else advR T n t := by unfold frR; rw [en, if_pos cn]; rfl
        rw [efr] at hQ
        rw [h7] at hown
        have hnd := fun Q => c_m_named (d + 1) z D t.2.2.1 M Q hL hz hin hS hD hw.1 hw.2.1
        simp +decide only [qX11_fresh_0, qX11_fresh_1, lm hL, h3.mpr c1, hR'.2.1, h7, hown, cn, Bool.not_true, b01, hnd, am_w1_i, am_w1_r, am_w1_x, am_w1_l, am_w1_w, va_rf_s, am_push_n, am_push_s, am_cs_0, am_cs_i, am_cs_l, am_cs_r, m_uI_K, m_uI_N, m_uI_R, m_uI_L, m_uI_I, m_uL_K, m_uL_N, m_uL_R, m_uL_I, m_uL_L, m_uR_K, m_uR_N, m_uR_I, m_uR_L, m_uR_R, true_and, and_true, true_implies, false_implies, not_true_eq_false, not_false_eq_true, if_true, if_false, false_and, and_false]
        cases hs : shF D t.2.2.1 with
        | some s =>
          have hsl : s < (dSh D).length := by
            unfold shF at hs
            rw [List.findIdx?_eq_some_iff_getElem] at hs
            exact hs.1
          have h8 := hD.2.2.1.1
          rw [hs, if_pos (show (some s).isSome = true from rfl)] at hQ
          have hf2 := FtM_0 (k := 2) hR' (by omega)
          have hp2 := (FtM_pos hf2.1).2.1
          have h0 := hQ _ (mL M 277 7) hf2.2 hf2.1 (fun t1 t' _ q => by cases q)
          have hbl2 := fun Q => m_blame (T := T) (n := n) (d + 1) 2 t M Q hL hR'
          rw [show nI 2 = (2 : Int32) from rfl] at hbl2 hp2 h0
          simp +decide only [qX11_fresh_0, qX11_fresh_1, lm hL, hR'.2.2.2.2.1, hbl2, am_w1_i, am_w1_r, am_w1_x, am_w1_l, am_w1_w, va_rf_s, am_push_n, am_push_s, am_cs_0, am_cs_i, am_cs_l, am_cs_r, m_uI_K, m_uI_N, m_uI_R, m_uI_L, m_uI_I, m_uL_K, m_uL_N, m_uL_R, m_uL_I, m_uL_L, m_uR_K, m_uR_N, m_uR_I, m_uR_L, m_uR_R, true_and, and_true, true_implies, false_implies, not_true_eq_false, not_false_eq_true, if_true, if_false, false_and, and_false]
          rw [br_n (nI_m1 (by omega))]
          exact h0
        | none =>
          rw [hs, if_neg (show ¬ (none : Option Nat).isSome = true by decide)] at hQ
          simp +decide only [qX11_fresh_0, qX11_fresh_1, lm hL, hR'.2.1, am_w1_i, am_w1_r, am_w1_x, am_w1_l, am_w1_w, va_rf_s, am_push_n, am_push_s, am_cs_0, am_cs_i, am_cs_l, am_cs_r, m_uI_K, m_uI_N, m_uI_R, m_uI_L, m_uI_I, m_uL_K, m_uL_N, m_uL_R, m_uL_I, m_uL_L, m_uR_K, m_uR_N, m_uR_I, m_uR_L, m_uR_R, true_and, and_true, true_implies, false_implies, not_true_eq_false, not_false_eq_true, if_true, if_false, false_and, and_false]
          refine m_adv d t M _ hL hR' (fun M1 g1 h1 => ?_)
          have h0 := hQ M1 (mL M 277 7) g1 h1 (fun t1 t' q _ => by cases q; exact h7)
          rw [h7] at h0
          simp +decide only [qX11_fresh_0, qX11_fresh_1, h7, am_w1_i, am_w1_r, am_w1_x, am_w1_l, am_w1_w, va_rf_s, am_push_n, am_push_s, am_cs_0, am_cs_i, am_cs_l, am_cs_r, m_uI_K, m_uI_N, m_uI_R, m_uI_L, m_uI_I, m_uL_K, m_uL_N, m_uL_R, m_uL_I, m_uL_L, m_uR_K, m_uR_N, m_uR_I, m_uR_L, m_uR_R, true_and, and_true, true_implies, false_implies, not_true_eq_false, not_false_eq_true, if_true, if_false, false_and, and_false]
          exact h0
      · have cn' : isNm t = false := by simpa using cn
        have h0 := bad cn' (wdL t.2.2.1)
        rw [h7] at hown
        simp +decide only [qX11_fresh_0, qX11_fresh_1, lm hL, h3.mpr c1, hR'.2.1, h7, hown, cn', Bool.not_false, b01, hR'.2.2.2.2.1, hbl, am_w1_i, am_w1_r, am_w1_x, am_w1_l, am_w1_w, va_rf_s, am_push_n, am_push_s, am_cs_0, am_cs_i, am_cs_l, am_cs_r, m_uI_K, m_uI_N, m_uI_R, m_uI_L, m_uI_I, m_uL_K, m_uL_N, m_uL_R, m_uL_I, m_uL_L, m_uR_K, m_uR_N, m_uR_I, m_uR_L, m_uR_R, true_and, and_true, true_implies, false_implies, not_true_eq_false, not_false_eq_true, if_true, if_false, false_and, and_false]
        exact h0
    · have cn' : isNm t = false := by
        unfold isNm
        rw [Bool.and_eq_false_iff]
        exact Or.inl (by simpa using c1)
      have h0 := bad cn' (mL M 277 7)
      simp +decide only [qX11_fresh_0, qX11_fresh_1, lm hL, hR'.2.1, hR'.2.2.2.2.1, hbl, am_w1_i, am_w1_r, am_w1_x, am_w1_l, am_w1_w, va_rf_s, am_push_n, am_push_s, am_cs_0, am_cs_i, am_cs_l, am_cs_r, m_uI_K, m_uI_N, m_uI_R, m_uI_L, m_uI_I, m_uL_K, m_uL_N, m_uL_R, m_uL_I, m_uL_L, m_uR_K, m_uR_N, m_uR_I, m_uR_L, m_uR_R, true_and, and_true, true_implies, false_implies, not_true_eq_false, not_false_eq_true, if_true, if_false, false_and, and_false]
      rw [br_q (fun q => c1 (h3.mp q))]
      exact h0
theorem m_asked (d z : Nat) (D : Dat) (r : Rt) (M : am_M) (Q : Option Value → am_M → Prop) (hL : Lay M) (hz : z ≤ 1) (hin : mI M 277 41 = nI z) (hS : ShpM M z (dSh D)) (hD : DOK D) (hR : StM M T n r)
    (hQ : ∀ M' s, s < 8 → gF sRm nT M M' → StM M' T n (shpR T n D r).1 → (∀ t', (shpR T n D r).1 = .inr t' → s = (shpR T n D r).2) → Q (some (.int (nI s))) M') : am_E am_P0 (d + 2) 196 [.ref 277] M Q := by
  rw [eX11_asked]
  cases r with
  | inl e =>
    have p := FtM_pos hR
    have h0 := hQ M 0 (by omega) (gF_refl _ _ _) hR (fun t' q => by cases q)
    rw [show nI 0 = (0 : Int32) from rfl] at h0
    simp +decide only [qX11_asked_0, qX11_asked_1, lm hL, am_w1_i, am_w1_r, am_w1_x, am_w1_l, am_w1_w, va_rf_s, am_push_n, am_push_s, am_cs_0, am_cs_i, am_cs_l, am_cs_r, m_uI_K, m_uI_N, m_uI_R, m_uI_L, m_uI_I, m_uL_K, m_uL_N, m_uL_R, m_uL_I, m_uL_L, m_uR_K, m_uR_N, m_uR_I, m_uR_L, m_uR_R, true_and, and_true, true_implies, false_implies, not_true_eq_false, not_false_eq_true, if_true, if_false, false_and, and_false]
    rw [br_n p.2.2]
    exact h0
  | inr t =>
    have hR' : RdM M T n t := hR
    have h3 := RdM_3 hR' 1 (by omega)
    rw [show nI 1 = (1 : Int32) from rfl] at h3
    have en : nameR (.inr t) = if isNm t = true then (.inr t, true) else (.inl (1, tS t), false) := rfl
    have hf := FtM_0 (k := 1) hR' (by omega)
    have bad : isNm t = false → Q (some (.int 0)) (uI (uI M 277 8 1) 277 9 (nI (tS t))) := fun hn => by
      have es : shpR T n D (.inr t) = (.inl (1, tS t), 0) := by unfold shpR; rw [en, hn]; rfl
      rw [es] at hQ
      exact hQ _ 0 (by omega) hf.2 hf.1 (fun t' q => by cases q)
    have hp := FtM_pos hf.1
    have hbl := fun Q => m_blame (T := T) (n := n) (d + 1) 1 t M Q hL hR'
    have Lf : Lay (uI (uI M 277 8 1) 277 9 (nI (tS t))) := hL
    rw [show nI 1 = (1 : Int32) from rfl] at hbl hp hf
    by_cases c1 : t.1 = 1
    · have hown := fun Q => m_isNm (d + 1) t M Q hR' c1
      have hw := hR'.2.2.2.2.2.2.2.2.2.2.2.2.2.1 c1
      have h7 := hR'.2.2.2.2.2.2.2.1 c1
      rw [h7] at hown
      by_cases cn : isNm t = true
      · have es : shpR T n D (.inr t) = (match shF D t.2.2.1 with
          | none => (.inl (3, tS t), 0)
          | some s => (advR T n t, s)) := by unfold shpR; rw [en, if_pos cn]; rfl
        have hnd := fun Q => c_m_named (d + 1) z D t.2.2.1 M Q hL hz hin hS hD hw.1 hw.2.1
        simp +decide only [qX11_asked_0, qX11_asked_1, lm hL, h3.mpr c1, hR'.2.1, h7, hown, cn, Bool.not_true, b01, hnd, am_w1_i, am_w1_r, am_w1_x, am_w1_l, am_w1_w, va_rf_s, am_push_n, am_push_s, am_cs_0, am_cs_i, am_cs_l, am_cs_r, m_uI_K, m_uI_N, m_uI_R, m_uI_L, m_uI_I, m_uL_K, m_uL_N, m_uL_R, m_uL_I, m_uL_L, m_uR_K, m_uR_N, m_uR_I, m_uR_L, m_uR_R, true_and, and_true, true_implies, false_implies, not_true_eq_false, not_false_eq_true, if_true, if_false, false_and, and_false]
        cases hs : shF D t.2.2.1 with
        | none =>
          rw [hs] at es
          dsimp only at es
          rw [es] at hQ
          have hf2 := FtM_0 (k := 3) hR' (by omega)
          have hp2 := FtM_pos hf2.1
          have h0 := hQ _ 0 (by omega) hf2.2 hf2.1 (fun t' q => by cases q)
          have hbl2 := fun Q => m_blame (T := T) (n := n) (d + 1) 3 t M Q hL hR'
          rw [show nI 3 = (3 : Int32) from rfl] at hbl2 hp2 h0
          rw [show nI 0 = (0 : Int32) from rfl] at h0
          have L2 : Lay (uI (uI M 277 8 3) 277 9 (nI (tS t))) := hL
          simp +decide only [qX11_asked_0, qX11_asked_1, lm hL, hR'.2.1, hR'.2.2.2.2.1, hbl2, am_w1_i, am_w1_r, am_w1_x, am_w1_l, am_w1_w, va_rf_s, am_push_n, am_push_s, am_cs_0, am_cs_i, am_cs_l, am_cs_r, m_uI_K, m_uI_N, m_uI_R, m_uI_L, m_uI_I, m_uL_K, m_uL_N, m_uL_R, m_uL_I, m_uL_L, m_uR_K, m_uR_N, m_uR_I, m_uR_L, m_uR_R, true_and, and_true, true_implies, false_implies, not_true_eq_false, not_false_eq_true, if_true, if_false, false_and, and_false]
          exact h0
        | some s =>
          have hsl : s < (dSh D).length := by
            unfold shF at hs
            rw [List.findIdx?_eq_some_iff_getElem] at hs
            exact hs.1
          have h8 := hD.2.2.1.1
          rw [hs] at es
          dsimp only at es
          rw [es] at hQ
          simp +decide only [qX11_asked_0, qX11_asked_1, lm hL, hR'.2.1, am_w1_i, am_w1_r, am_w1_x, am_w1_l, am_w1_w, va_rf_s, am_push_n, am_push_s, am_cs_0, am_cs_i, am_cs_l, am_cs_r, m_uI_K, m_uI_N, m_uI_R, m_uI_L, m_uI_I, m_uL_K, m_uL_N, m_uL_R, m_uL_I, m_uL_L, m_uR_K, m_uR_N, m_uR_I, m_uR_L, m_uR_R, true_and, and_true, true_implies, false_implies, not_true_eq_false, not_false_eq_true, if_true, if_false, false_and, and_false]
          rw [br_q (nI_m1 (by omega))]
          refine m_adv d t M _ hL hR' (fun M1 g1 h1 => ?_)
          have L1 := gF_LayN g1 hL
          cases hr : advR T n t with
          | inl e =>
            have h1' := h1
            rw [hr] at h1'
            have h0 := hQ M1 0 (by omega) g1 h1 (fun t' q => by rw [hr] at q; cases q)
            rw [show nI 0 = (0 : Int32) from rfl] at h0
            simp +decide only [qX11_asked_0, qX11_asked_1, lm L1, am_w1_i, am_w1_r, am_w1_x, am_w1_l, am_w1_w, va_rf_s, am_push_n, am_push_s, am_cs_0, am_cs_i, am_cs_l, am_cs_r, m_uI_K, m_uI_N, m_uI_R, m_uI_L, m_uI_I, m_uL_K, m_uL_N, m_uL_R, m_uL_I, m_uL_L, m_uR_K, m_uR_N, m_uR_I, m_uR_L, m_uR_R, true_and, and_true, true_implies, false_implies, not_true_eq_false, not_false_eq_true, if_true, if_false, false_and, and_false]
            rw [br_n (FtM_pos h1').2.2]
            exact h0
          | inr t' =>
            have h1' := h1
            rw [hr] at h1'
            have h1'' : RdM M1 T n t' := h1'
            have h0 := hQ M1 s (by omega) g1 h1 (fun t' q => rfl)
            simp +decide only [qX11_asked_0, qX11_asked_1, lm L1, h1''.2.1, am_w1_i, am_w1_r, am_w1_x, am_w1_l, am_w1_w, va_rf_s, am_push_n, am_push_s, am_cs_0, am_cs_i, am_cs_l, am_cs_r, m_uI_K, m_uI_N, m_uI_R, m_uI_L, m_uI_I, m_uL_K, m_uL_N, m_uL_R, m_uL_I, m_uL_L, m_uR_K, m_uR_N, m_uR_I, m_uR_L, m_uR_R, true_and, and_true, true_implies, false_implies, not_true_eq_false, not_false_eq_true, if_true, if_false, false_and, and_false]
            exact h0
      · have cn' : isNm t = false := by simpa using cn
        have h0 := bad cn'
        simp +decide only [qX11_asked_0, qX11_asked_1, lm hL, h3.mpr c1, hR'.2.1, h7, hown, cn', Bool.not_false, b01, hR'.2.2.2.2.1, hbl, am_w1_i, am_w1_r, am_w1_x, am_w1_l, am_w1_w, va_rf_s, am_push_n, am_push_s, am_cs_0, am_cs_i, am_cs_l, am_cs_r, m_uI_K, m_uI_N, m_uI_R, m_uI_L, m_uI_I, m_uL_K, m_uL_N, m_uL_R, m_uL_I, m_uL_L, m_uR_K, m_uR_N, m_uR_I, m_uR_L, m_uR_R, true_and, and_true, true_implies, false_implies, not_true_eq_false, not_false_eq_true, if_true, if_false, false_and, and_false]
        exact h0
    · have cn' : isNm t = false := by
        unfold isNm
        rw [Bool.and_eq_false_iff]
        exact Or.inl (by simpa using c1)
      have h0 := bad cn'
      simp +decide only [qX11_asked_0, qX11_asked_1, lm hL, hR'.2.1, hR'.2.2.2.2.1, hbl, am_w1_i, am_w1_r, am_w1_x, am_w1_l, am_w1_w, va_rf_s, am_push_n, am_push_s, am_cs_0, am_cs_i, am_cs_l, am_cs_r, m_uI_K, m_uI_N, m_uI_R, m_uI_L, m_uI_I, m_uL_K, m_uL_N, m_uL_R, m_uL_I, m_uL_L, m_uR_K, m_uR_N, m_uR_I, m_uR_L, m_uR_R, true_and, and_true, true_implies, false_implies, not_true_eq_false, not_false_eq_true, if_true, if_false, false_and, and_false]
      rw [br_q (fun q => c1 (h3.mp q))]
      exact h0
theorem m_word2 (d k : Nat) (w : Int64) (r : Rt) (M : am_M) (Q : Option Value → am_M → Prop) (hL : Lay M) (hk : k < 27) (h2 : wdL (ownW.getD k []) = w) (hR : StM M T n r) (hQ : ∀ M', gF sRm nT M M' → StM M' T n (wordR T n k r) → Q none M') : am_E am_P0 (d + 2) 194 [.ref 277, .long w] M Q := by
  subst h2
  exact m_mustW d k r M Q hL hk hR hQ
/-- a place of the text -/
theorem m_here (d z C R : Nat) (r : Rt) (M : am_M) (Q : Option Value → am_M → Prop) (hL : Lay M) (hz : z ≤ 1) (hin : mI M 277 41 = nI z) (h1 : mI M 279 z = nI C) (h2 : mI M 280 z = nI R) (hC : 1 ≤ C ∧ C ≤ 16) (hRr : 1 ≤ R ∧ R ≤ 16) (hR : StM M T n r)
    (hQ : ∀ M' x, gF sRm nT M M' → StM M' T n (plcR T n C R r).1 → (∀ t', (plcR T n C R r).1 = .inr t' → x = nI (cel C (plcR T n C R r).2)) → Q (some (.int x)) M') : am_E am_P0 (d + 3) 200 [.ref 277] M Q := by
  rw [eX11_cellHere]
  simp +decide only [qX11_cellHere, lm hL, am_w1_i, am_w1_r, am_w1_x, am_w1_l, am_w1_w, va_rf_s, am_push_n, am_push_s, am_cs_0, am_cs_i, am_cs_l, am_cs_r, m_uI_K, m_uI_N, m_uI_R, m_uI_L, m_uI_I, m_uL_K, m_uL_N, m_uL_R, m_uL_I, m_uL_L, m_uR_K, m_uR_N, m_uR_I, m_uR_L, m_uR_R, true_and, and_true, true_implies, false_implies, not_true_eq_false, not_false_eq_true, if_true, if_false, false_and, and_false]
  refine m_word2 d 10 24948 r M _ hL (by omega) (by decide) hR (fun M1 g1 s1 => ?_)
  have L1 := gF_LayN g1 hL
  have kk : ∀ (M' : am_M), gF sRm nT M M' → mI M' 277 41 = nI z ∧ mI M' 279 z = nI C ∧ mI M' 280 z = nI R := fun M' g => ⟨by rw [g.1 _ _ (fun w => by unfold sRm at w; omega)]; exact hin, by rw [g.1 _ _ (fun w => by unfold sRm at w; omega)]; exact h1, by rw [g.1 _ _ (fun w => by unfold sRm at w; omega)]; exact h2⟩
  obtain ⟨i1, c1, r1⟩ := kk M1 g1
  have eC : nI C - 1 = nI (C - 1) := by rw [show (1 : Int32) = nI 1 from rfl, ni_sub (by omega)]
  have eR : nI R - 1 = nI (R - 1) := by rw [show (1 : Int32) = nI 1 from rfl, ni_sub (by omega)]
  simp +decide (disch := omega) only [qX11_cellHere, lm L1, i1, c1, eC, ni_in_t, ni_tn, am_w1_i, am_w1_r, am_w1_x, am_w1_l, am_w1_w, va_rf_s, am_push_n, am_push_s, am_cs_0, am_cs_i, am_cs_l, am_cs_r, m_uI_K, m_uI_N, m_uI_R, m_uI_L, m_uI_I, m_uL_K, m_uL_N, m_uL_R, m_uL_I, m_uL_L, m_uR_K, m_uR_N, m_uR_I, m_uR_L, m_uR_R, true_and, and_true, true_implies, false_implies, not_true_eq_false, not_false_eq_true, if_true, if_false, false_and, and_false]
  rw [show (0 : Int32) = nI 0 from rfl]
  refine m_num d 0 (C - 1) _ M1 _ L1 (by omega) (by omega) s1 (fun M2 x2 g2 s2 e2 => ?_)
  have L2 := gF_LayN g2 L1
  obtain ⟨i2, c2, r2⟩ := kk M2 (gF_trans g1 g2)
  simp +decide (disch := omega) only [qX11_cellHere, lm L2, i2, r2, eR, ni_in_t, ni_tn, am_w1_i, am_w1_r, am_w1_x, am_w1_l, am_w1_w, va_rf_s, am_push_n, am_push_s, am_cs_0, am_cs_i, am_cs_l, am_cs_r, m_uI_K, m_uI_N, m_uI_R, m_uI_L, m_uI_I, m_uL_K, m_uL_N, m_uL_R, m_uL_I, m_uL_L, m_uR_K, m_uR_N, m_uR_I, m_uR_L, m_uR_R, true_and, and_true, true_implies, false_implies, not_true_eq_false, not_false_eq_true, if_true, if_false, false_and, and_false]
  rw [show (0 : Int32) = nI 0 from rfl]
  refine m_num d 0 (R - 1) _ M2 _ L2 (by omega) (by omega) s2 (fun M3 x3 g3 s3 e3 => ?_)
  have L3 := gF_LayN g3 L2
  obtain ⟨i3, c3, r3⟩ := kk M3 (gF_trans g1 (gF_trans g2 g3))
  have h0 := hQ M3 (nI C * x3 + x2) (gF_trans g1 (gF_trans g2 g3)) s3 (fun t' ht' => by
    have hp : (plcR T n C R r).1 = (numR T n 0 (R - 1) (numR T n 0 (C - 1) (wordR T n 10 r)).1).1 := rfl
    rw [hp] at ht'
    have hx3 := e3 t' ht'
    obtain ⟨t1, ht1⟩ := numR_i ht'
    have hx2 := e2 t1 ht1
    have hv3 := numR_v ht'
    have hv2 := numR_v ht1
    have ep : (plcR T n C R r).2 = 16 * (numR T n 0 (R - 1) (numR T n 0 (C - 1) (wordR T n 10 r)).1).2 + (numR T n 0 (C - 1) (wordR T n 10 r)).2 := rfl
    rw [hx3, hx2, ni_mul, ni_add, ep]
    congr 1
    unfold cel
    generalize (numR T n 0 (R - 1) (numR T n 0 (C - 1) (wordR T n 10 r)).1).2 = rr at hv3 ⊢
    generalize (numR T n 0 (C - 1) (wordR T n 10 r)).2 = cc at hv2 ⊢
    have q1 : (16 * rr + cc) / 16 = rr := by omega
    have q2 : (16 * rr + cc) % 16 = cc := by omega
    rw [q1, q2])
  simp +decide (disch := omega) only [qX11_cellHere, lm L3, i3, c3, ni_in_t, ni_tn, am_w1_i, am_w1_r, am_w1_x, am_w1_l, am_w1_w, va_rf_s, am_push_n, am_push_s, am_cs_0, am_cs_i, am_cs_l, am_cs_r, m_uI_K, m_uI_N, m_uI_R, m_uI_L, m_uI_I, m_uL_K, m_uL_N, m_uL_R, m_uL_I, m_uL_L, m_uR_K, m_uR_N, m_uR_I, m_uR_L, m_uR_R, true_and, and_true, true_implies, false_implies, not_true_eq_false, not_false_eq_true, if_true, if_false, false_and, and_false]
  exact h0
end
end
section
/-! the model's statements: sizes, luck, sightings, books -/
theorem PdM_w {M M' : am_M} {z c : Nat} {D : Dat} {S T' : Nat → Nat → Prop} (h : PdM M z D c) (hD : DOK D) (hg : gF S T' M M') (h0 : ∀ a, a = 279 ∨ a = 280 ∨ a = 285 ∨ a = 291 ∨ a = 294 ∨ a = 299 ∨ a = 303 → ¬ S a z) (h1 : ∀ j, 3 * z ≤ j → j < 3 * z + 3 → ¬ S 281 j) (h2 : ∀ a k j, 282 ≤ a → a ≤ 284 → (k = 0 ∧ j < (dRd D).length) ∨ (k = 1 ∧ j < (dRc D).length) ∨ (k = 2 ∧ j < (dRq D).length) → ¬ S a (30 * z + 12 * k + j)) (h3 : ∀ a j, 286 ≤ a → a ≤ 290 → j < (dSh D).length → ¬ S a (8 * z + j)) (h4 : ∀ a j, a = 292 ∨ a = 293 → ¬ S a j) (h5 : ∀ a j, 295 ≤ a → a ≤ 298 → j < (dBk D).length → ¬ S a (12 * z + j)) (h6 : ∀ a j, 300 ≤ a → a ≤ 302 → j < (dSg D).length → ¬ S a (40 * z + j)) (h7 : ∀ a j, a = 304 ∨ a = 305 → 1800 * z ≤ j → j < 1800 * z + c → ¬ S a j) (h8 : ∀ j, j = 40 ∨ j = 41 → ¬ S 277 j) : PdM M' z D c := by
  obtain ⟨⟨a1, a2⟩, b1, b2, b3, b4, b5, ⟨r1, r2, r3⟩, f⟩ := h
  have l1 := hD.2.2.2.2.2.2.2.2.1.1
  have l2 := hD.2.2.2.2.2.2.2.2.2.1.1
  have l3 := hD.2.2.2.2.2.2.2.2.2.2.1
  exact ⟨⟨by rw [hg.1 _ _ (h0 _ (by omega))]; exact a1, by rw [hg.1 _ _ (h0 _ (by omega))]; exact a2⟩, by rw [hg.1 _ _ (h0 _ (by omega))]; exact b1, ShpM_g b2 hg (h0 _ (by omega)) h3, SysM_g b3 hg (h0 _ (by omega)) h4, BkM_gF b4 hg (h0 _ (by omega)) h5, SgM_g b5 hg (h0 _ (by omega)) h6, ⟨RlM_g r1 l1 hg (h1 _ (by omega) (by omega)) (fun a j q1 q2 q3 => h2 a 0 j q1 q2 (by omega)) h7, RlM_g r2 l2 hg (h1 _ (by omega) (by omega)) (fun a j q1 q2 q3 => h2 a 1 j q1 q2 (by omega)) h7, RlM_g r3 (by omega) hg (h1 _ (by omega) (by omega)) (fun a j q1 q2 q3 => h2 a 2 j q1 q2 (by omega)) h7⟩, FmM_g f hg h8⟩
theorem getA {α : Type} {L : List α} {x g : α} {i : Nat} (h : (L ++ [x])[i]? = some g) : (i < L.length ∧ L[i]? = some g) ∨ (i = L.length ∧ g = x) := by
  by_cases e : i < L.length
  · rw [List.getElem?_append_left e] at h; exact Or.inl ⟨e, h⟩
  · rw [List.getElem?_append_right (by omega)] at h
    have hl := (List.getElem?_eq_some_iff.mp h).1
    have e2 : i = L.length := by
      simp only [List.length_cons, List.length_nil] at hl
      omega
    rw [e2, Nat.sub_self] at h
    cases h
    exact Or.inr ⟨e2, rfl⟩
section
variable {T : Nat → Nat} {n z : Nat}
theorem StM_0 {M : am_M} {r : Rt} (h : StM M T n r) : (∀ e, r = .inl e → ¬ mI M 277 8 = 0) ∧ (∀ t, r = .inr t → mI M 277 8 = 0) := by
  constructor
  · intro e he
    rw [he] at h
    exact (FtM_pos h).2.1
  · intro t ht
    rw [ht] at h
    exact h.2.1
theorem GdM_t {M : am_M} {D : Dat} {c : Nat} {t : Tok} (h : GdM T n z M D c t) : tkG T n t := h.2.1.2.2.2.2.2.2.2.2
theorem k_luck (d c : Nat) (D : Dat) (t : Tok) (M : am_M) (Q : Option Value → am_M → Prop) (hG : GdM T n z M D c t) (h0 : ¬ t.1 = 0) (hQ : ∀ M', EdM T n z t M M' (spLuck T n D t) → Q none M') : am_E am_P0 (d + 3) 204 [.ref 277] M Q := by
  obtain ⟨hL, hR, hP, hD, hc⟩ := id hG
  have hEn := (GdM_t hG).1
  have hz := hP.2.2.2.2.2.2.2.2.2.2
  rw [eX11_lucks]
  simp +decide only [qX11_lucks, lm hL, am_w1_i, am_w1_r, am_w1_x, am_w1_l, am_w1_w, va_rf_s, am_push_n, am_push_s, am_cs_0, am_cs_i, am_cs_l, am_cs_r, m_uI_K, m_uI_N, m_uI_R, m_uI_L, m_uI_I, m_uL_K, m_uL_N, m_uL_R, m_uL_I, m_uL_L, m_uR_K, m_uR_N, m_uR_I, m_uR_L, m_uR_R, true_and, and_true, true_implies, false_implies, not_true_eq_false, not_false_eq_true, if_true, if_false, false_and, and_false]
  refine m_counts d false t M _ hL hR (fun M1 x1 g1 s1 f1 o1 => ?_)
  rw [if_neg (by decide)] at s1 f1 o1
  have L1 := gF_LayN g1 hL
  have P1 := PdM_R hP hD g1
  unfold spLuck at hQ
  cases hr1 : advR T n t with
  | inl e =>
    rw [hr1] at s1 hQ
    have h9 := hQ M1 ⟨sRm_S g1, s1⟩
    simp +decide only [qX11_lucks, f1 e hr1, am_w1_i, am_w1_r, am_w1_x, am_w1_l, am_w1_w, va_rf_s, am_push_n, am_push_s, am_cs_0, am_cs_i, am_cs_l, am_cs_r, m_uI_K, m_uI_N, m_uI_R, m_uI_L, m_uI_I, m_uL_K, m_uL_N, m_uL_R, m_uL_I, m_uL_L, m_uR_K, m_uR_N, m_uR_I, m_uR_L, m_uR_R, true_and, and_true, true_implies, false_implies, not_true_eq_false, not_false_eq_true, if_true, if_false, false_and, and_false]
    exact h9
  | inr t1 =>
    have i1 := P1.2.2.2.2.2.2.2.2.2.1
    simp +decide (disch := omega) only [qX11_lucks, o1 t1 hr1, lm L1, i1, am_w1_i, am_w1_r, am_w1_x, am_w1_l, am_w1_w, va_rf_s, am_push_n, am_push_s, am_cs_0, am_cs_i, am_cs_l, am_cs_r, m_uI_K, m_uI_N, m_uI_R, m_uI_L, m_uI_I, m_uL_K, m_uL_N, m_uL_R, m_uL_I, m_uL_L, m_uR_K, m_uR_N, m_uR_I, m_uR_L, m_uR_R, true_and, and_true, true_implies, false_implies, not_true_eq_false, not_false_eq_true, if_true, if_false, false_and, and_false]
    rw [show (0 : Int32) = nI 0 from rfl, show (100 : Int32) = nI 100 from rfl]
    refine m_num d 0 100 _ M1 _ L1 (by omega) (by omega) s1 (fun M2 x2 g2 s2 e2 => ?_)
    have L2 := gF_LayN g2 L1
    have P2 := PdM_R P1 hD g2
    simp +decide (disch := omega) only [qX11_lucks, lm L2, ni_in_t, ni_tn, am_w1_i, am_w1_r, am_w1_x, am_w1_l, am_w1_w, va_rf_s, am_push_n, am_push_s, am_cs_0, am_cs_i, am_cs_l, am_cs_r, m_uI_K, m_uI_N, m_uI_R, m_uI_L, m_uI_I, m_uL_K, m_uL_N, m_uL_R, m_uL_I, m_uL_L, m_uR_K, m_uR_N, m_uR_I, m_uR_L, m_uR_R, true_and, and_true, true_implies, false_implies, not_true_eq_false, not_false_eq_true, if_true, if_false, false_and, and_false]
    have g3 : gF (fun a j => a = 303 ∧ j = z) nT M2 (uI M2 303 z x2) := gF_i _ ⟨rfl, rfl⟩
    have s3 := StM_g s2 g3 (fun a j q w => by omega)
    have G := gF_trans (sRm_S (z := z) g1) (gF_trans (sRm_S g2) (gF_up g3 (fun a j q => sS_1 (by omega)) (fun _ _ q => q)))
    refine hQ _ ?_
    unfold bR
    cases hr : (numR T n 0 100 (advR T n t)).1 with
    | inl e => rw [hr] at s3; exact ⟨G, s3⟩
    | inr t' =>
      rw [hr] at s3
      have haf : AfR T n t (.inr t') := by rw [← hr]; exact AfR_n _ _ (AfR_1 hEn)
      have hlt := AfR_lt (GdM_t hG) h0 haf
      have hv := numR_v hr
      have hx := e2 t' hr
      refine ⟨G, ⟨c, L2, s3, ?_, ?_, by show c ≤ tS t'; omega⟩, hlt⟩
      · obtain ⟨⟨a1, a2⟩, b1, b2, b3, b4, b5, ⟨r1, r2, r3⟩, f⟩ := P2
        have l1 := hD.2.2.2.2.2.2.2.2.1.1
        have l2 := hD.2.2.2.2.2.2.2.2.2.1.1
        have l3 := hD.2.2.2.2.2.2.2.2.2.2.1
        exact ⟨⟨by rw [g3.1 _ _ (by omega)]; exact a1, by rw [g3.1 _ _ (by omega)]; exact a2⟩, by rw [m_uI_I, if_pos ⟨rfl, rfl⟩, hx]; rfl, ShpM_g b2 g3 (by omega) (fun a j q1 q2 q3 w => by omega), SysM_g b3 g3 (by omega) (fun a j q w => by omega), BkM_gF b4 g3 (by omega) (fun a j q1 q2 q3 w => by omega), SgM_g b5 g3 (by omega) (fun a j q1 q2 q3 w => by omega), ⟨RlM_g r1 l1 g3 (by omega) (fun a j q1 q2 q3 w => by omega) (fun a j q1 q2 q3 w => by omega), RlM_g r2 l2 g3 (by omega) (fun a j q1 q2 q3 w => by omega) (fun a j q1 q2 q3 w => by omega), RlM_g r3 (Nat.le_trans l3 (by decide)) g3 (by omega) (fun a j q1 q2 q3 w => by omega) (fun a j q1 q2 q3 w => by omega)⟩, FmM_g f g3 (fun j q w => by omega)⟩
      · obtain ⟨d1, d2, d3⟩ := hD
        exact ⟨d1, hv.2, d3⟩
theorem k_seen (d c : Nat) (D : Dat) (t : Tok) (M : am_M) (Q : Option Value → am_M → Prop) (hG : GdM T n z M D c t) (hC : 1 ≤ dC D) (hRr : 1 ≤ dR D) (h0 : ¬ t.1 = 0) (hQ : ∀ M', EdM T n z t M M' (spSeen T n D t) → Q none M') : am_E am_P0 (d + 4) 203 [.ref 277] M Q := by
  obtain ⟨hL, hR, hP, hD, hc⟩ := id hG
  have hEn := (GdM_t hG).1
  have hz := hP.2.2.2.2.2.2.2.2.2.2
  have h40 := hD.2.2.2.2.2.2.2.1.1
  have hCR := hD.1
  obtain ⟨N, hN⟩ : ∃ N, N = (dSg D).length := ⟨_, rfl⟩
  rw [← hN] at h40
  have hn40 : nI N = 40 ↔ N = 40 := by rw [show (40 : Int32) = nI 40 from rfl, ni_eq (by omega) (by omega)]
  have idx : (40 : Int32) * nI z + nI N = nI (40 * z + N) := by rw [show (40 : Int32) = nI 40 from rfl, ni_mul, ni_add]
  -- what is written beside
  have sc : ∀ (M' : am_M), gF (fun a j => sRm a j ∨ (300 ≤ a ∧ a ≤ 302 ∧ j = 40 * z + N)) nT M M' → PdM M' z D c ∧ Lay M' ∧ mI M' 277 41 = nI z ∧ mI M' 299 z = nI N ∧ gF (sSm z) nT M M' ∨ 40 ≤ N := fun M' g => by
    by_cases cN : 40 ≤ N
    · exact Or.inr cN
    · have P := PdM_w hP hD g (fun a q w => by unfold sRm at w; omega) (fun j q1 q2 w => by unfold sRm at w; omega) (fun a k j q1 q2 q3 w => by unfold sRm at w; omega) (fun a j q1 q2 q3 w => by unfold sRm at w; omega) (fun a j q w => by unfold sRm at w; omega) (fun a j q1 q2 q3 w => by unfold sRm at w; omega) (fun a j q1 q2 q3 w => by unfold sRm at w; omega) (fun a j q1 q2 q3 w => by unfold sRm at w; omega) (fun j q w => by unfold sRm at w; omega)
      refine Or.inl ⟨P, gF_LayN g hL, P.2.2.2.2.2.2.2.2.2.1, by rw [hN]; exact P.2.2.2.2.2.1.1, gF_up g (fun a j q => ?_) (fun _ _ q => q)⟩
      rcases q with q | q
      · exact sS_0 (by unfold sRm at q; omega)
      · exact sS_7 (by omega)
  have main : am_E am_P0 (d + 3) 193 [.ref 277, .int (b01 (decide (40 ≤ N)))] M (fun r M2 => am_P am_P0 (d + 4) (am_look tX11_seen) 23 [.ref 277, am_x] (am_push r []) M2 Q) := by
    refine m_counts (d + 1) (decide (40 ≤ N)) t M _ hL hR (fun M1 x1 g1 s1 f1 o1 => ?_)
    by_cases cf : 40 ≤ N
    · rw [if_pos (decide_eq_true cf)] at s1 f1
      have h9 := hQ M1 (by unfold spSeen; rw [if_pos (by omega)]; exact ⟨sRm_S g1, s1⟩)
      simp +decide only [qX11_seen_0, qX11_seen_1, f1 _ rfl, am_w1_i, am_w1_r, am_w1_x, am_w1_l, am_w1_w, va_rf_s, am_push_n, am_push_s, am_cs_0, am_cs_i, am_cs_l, am_cs_r, m_uI_K, m_uI_N, m_uI_R, m_uI_L, m_uI_I, m_uL_K, m_uL_N, m_uL_R, m_uL_I, m_uL_L, m_uR_K, m_uR_N, m_uR_I, m_uR_L, m_uR_R, true_and, and_true, true_implies, false_implies, not_true_eq_false, not_false_eq_true, if_true, if_false, false_and, and_false]
      exact h9
    · rw [if_neg (by rw [decide_eq_false cf]; decide)] at s1 f1 o1
      unfold spSeen at hQ
      rw [if_neg (by omega)] at hQ
      have up1 : ∀ {A B : am_M}, gF sRm nT A B → gF (fun a j => sRm a j ∨ (300 ≤ a ∧ a ≤ 302 ∧ j = 40 * z + N)) nT A B := fun h => gF_up h (fun a j q => Or.inl q) (fun _ _ q => q)
      cases hr1 : advR T n t with
      | inl e =>
        rw [hr1] at s1 hQ
        have h9 := hQ M1 ⟨sRm_S g1, s1⟩
        simp +decide only [qX11_seen_0, qX11_seen_1, f1 e hr1, am_w1_i, am_w1_r, am_w1_x, am_w1_l, am_w1_w, va_rf_s, am_push_n, am_push_s, am_cs_0, am_cs_i, am_cs_l, am_cs_r, m_uI_K, m_uI_N, m_uI_R, m_uI_L, m_uI_I, m_uL_K, m_uL_N, m_uL_R, m_uL_I, m_uL_L, m_uR_K, m_uR_N, m_uR_I, m_uR_L, m_uR_R, true_and, and_true, true_implies, false_implies, not_true_eq_false, not_false_eq_true, if_true, if_false, false_and, and_false]
        exact h9
      | inr t1 =>
        have G1 := up1 g1
        obtain ⟨P1, L1, i1, n1, S1⟩ := (sc M1 G1).resolve_right (by omega)
        simp +decide (disch := omega) only [qX11_seen_0, qX11_seen_1, o1 t1 hr1, lm L1, i1, n1, idx, ni_in_t, ni_tn, am_w1_i, am_w1_r, am_w1_x, am_w1_l, am_w1_w, va_rf_s, am_push_n, am_push_s, am_cs_0, am_cs_i, am_cs_l, am_cs_r, m_uI_K, m_uI_N, m_uI_R, m_uI_L, m_uI_I, m_uL_K, m_uL_N, m_uL_R, m_uL_I, m_uL_L, m_uR_K, m_uR_N, m_uR_I, m_uR_L, m_uR_R, true_and, and_true, true_implies, false_implies, not_true_eq_false, not_false_eq_true, if_true, if_false, false_and, and_false]
        rw [show (0 : Int32) = nI 0 from rfl, show (3 : Int32) = nI 3 from rfl]
        refine m_num (d + 1) 0 3 _ M1 _ L1 (by omega) (by omega) s1 (fun M2 x2 g2 s2 e2 => ?_)
        have L2 := gF_LayN g2 L1
        have w2 : gF (fun a j => a = 300 ∧ j = 40 * z + N) nT M2 (uI M2 300 (40 * z + N) x2) := gF_i _ ⟨rfl, rfl⟩
        have G2 := gF_trans G1 (gF_trans (up1 g2) (gF_up w2 (fun a j q => Or.inr (by omega)) (fun _ _ q => q)))
        have s2' := StM_g s2 w2 (fun a j q w => by omega)
        simp +decide (disch := omega) only [qX11_seen_0, qX11_seen_1, lm L2, ni_in_t, ni_tn, am_w1_i, am_w1_r, am_w1_x, am_w1_l, am_w1_w, va_rf_s, am_push_n, am_push_s, am_cs_0, am_cs_i, am_cs_l, am_cs_r, m_uI_K, m_uI_N, m_uI_R, m_uI_L, m_uI_I, m_uL_K, m_uL_N, m_uL_R, m_uL_I, m_uL_L, m_uR_K, m_uR_N, m_uR_I, m_uR_L, m_uR_R, true_and, and_true, true_implies, false_implies, not_true_eq_false, not_false_eq_true, if_true, if_false, false_and, and_false]
        obtain ⟨A2, hA2⟩ : ∃ A2, A2 = uI M2 300 (40 * z + N) x2 := ⟨_, rfl⟩
        have v2 : mI A2 300 (40 * z + N) = x2 := by rw [hA2, m_uI_I, if_pos ⟨rfl, rfl⟩]
        rw [← hA2] at G2 s2' ⊢
        obtain ⟨P2, LA2, i2, n2, S2⟩ := (sc A2 G2).resolve_right (by omega)
        refine m_here d z (dC D) (dR D) _ A2 _ LA2 hz i2 P2.1.1 P2.1.2 (by omega) (by omega) s2' (fun M3 x3 g3 s3 e3 => ?_)
        have L3 := gF_LayN g3 LA2
        have w3 : gF (fun a j => a = 301 ∧ j = 40 * z + N) nT M3 (uI M3 301 (40 * z + N) x3) := gF_i _ ⟨rfl, rfl⟩
        have G3 := gF_trans G2 (gF_trans (up1 g3) (gF_up w3 (fun a j q => Or.inr (by omega)) (fun _ _ q => q)))
        have s3' := StM_g s3 w3 (fun a j q w => by omega)
        simp +decide (disch := omega) only [qX11_seen_0, qX11_seen_1, lm L3, ni_in_t, ni_tn, am_w1_i, am_w1_r, am_w1_x, am_w1_l, am_w1_w, va_rf_s, am_push_n, am_push_s, am_cs_0, am_cs_i, am_cs_l, am_cs_r, m_uI_K, m_uI_N, m_uI_R, m_uI_L, m_uI_I, m_uL_K, m_uL_N, m_uL_R, m_uL_I, m_uL_L, m_uR_K, m_uR_N, m_uR_I, m_uR_L, m_uR_R, true_and, and_true, true_implies, false_implies, not_true_eq_false, not_false_eq_true, if_true, if_false, false_and, and_false]
        obtain ⟨A3, hA3⟩ : ∃ A3, A3 = uI M3 301 (40 * z + N) x3 := ⟨_, rfl⟩
        have v3 : mI A3 301 (40 * z + N) = x3 := by rw [hA3, m_uI_I, if_pos ⟨rfl, rfl⟩]
        have v2' : mI A3 300 (40 * z + N) = x2 := by rw [hA3, m_uI_I, if_neg (by omega), g3.1 _ _ (fun w => by unfold sRm at w; omega)]; exact v2
        rw [← hA3] at G3 s3' ⊢
        obtain ⟨P3, LA3, i3, n3, S3⟩ := (sc A3 G3).resolve_right (by omega)
        refine m_word2 (d + 1) 16 1752135026 _ A3 _ LA3 (by omega) (by decide) s3' (fun M4 g4 s4 => ?_)
        have L4 := gF_LayN g4 LA3
        simp +decide (disch := omega) only [qX11_seen_0, qX11_seen_1, lm L4, ni_in_t, ni_tn, am_w1_i, am_w1_r, am_w1_x, am_w1_l, am_w1_w, va_rf_s, am_push_n, am_push_s, am_cs_0, am_cs_i, am_cs_l, am_cs_r, m_uI_K, m_uI_N, m_uI_R, m_uI_L, m_uI_I, m_uL_K, m_uL_N, m_uL_R, m_uL_I, m_uL_L, m_uR_K, m_uR_N, m_uR_I, m_uR_L, m_uR_R, true_and, and_true, true_implies, false_implies, not_true_eq_false, not_false_eq_true, if_true, if_false, false_and, and_false]
        rw [show (0 : Int32) = nI 0 from rfl, show (47 : Int32) = nI 47 from rfl]
        refine m_num (d + 1) 0 47 _ M4 _ L4 (by omega) (by omega) s4 (fun M5 x5 g5 s5 e5 => ?_)
        have L5 := gF_LayN g5 L4
        have w5 : gF (fun a j => a = 302 ∧ j = 40 * z + N) nT M5 (uI M5 302 (40 * z + N) x5) := gF_i _ ⟨rfl, rfl⟩
        have G5 := gF_trans G3 (gF_trans (up1 g4) (gF_trans (up1 g5) (gF_up w5 (fun a j q => Or.inr (by omega)) (fun _ _ q => q))))
        have s5' := StM_g s5 w5 (fun a j q w => by omega)
        simp +decide (disch := omega) only [qX11_seen_0, qX11_seen_1, lm L5, ni_in_t, ni_tn, am_w1_i, am_w1_r, am_w1_x, am_w1_l, am_w1_w, va_rf_s, am_push_n, am_push_s, am_cs_0, am_cs_i, am_cs_l, am_cs_r, m_uI_K, m_uI_N, m_uI_R, m_uI_L, m_uI_I, m_uL_K, m_uL_N, m_uL_R, m_uL_I, m_uL_L, m_uR_K, m_uR_N, m_uR_I, m_uR_L, m_uR_R, true_and, and_true, true_implies, false_implies, not_true_eq_false, not_false_eq_true, if_true, if_false, false_and, and_false]
        obtain ⟨A5, hA5⟩ : ∃ A5, A5 = uI M5 302 (40 * z + N) x5 := ⟨_, rfl⟩
        have v5 : mI A5 302 (40 * z + N) = x5 := by rw [hA5, m_uI_I, if_pos ⟨rfl, rfl⟩]
        have v3' : mI A5 301 (40 * z + N) = x3 := by rw [hA5, m_uI_I, if_neg (by omega), g5.1 _ _ (fun w => by unfold sRm at w; omega), g4.1 _ _ (fun w => by unfold sRm at w; omega)]; exact v3
        have v2'' : mI A5 300 (40 * z + N) = x2 := by rw [hA5, m_uI_I, if_neg (by omega), g5.1 _ _ (fun w => by unfold sRm at w; omega), g4.1 _ _ (fun w => by unfold sRm at w; omega)]; exact v2'
        have e8 : mI M5 277 8 = mI A5 277 8 := (w5.1 _ _ (by omega)).symm.trans (by rw [hA5])
        have i5' : mI M5 277 41 = mI A5 277 41 := (w5.1 _ _ (by omega)).symm.trans (by rw [hA5])
        have n5' : mI M5 299 z = mI A5 299 z := (w5.1 _ _ (by omega)).symm.trans (by rw [hA5])
        rw [← hA5] at G5 s5' ⊢
        rw [e8, i5']
        obtain ⟨P5, LA5, i5, n5, S5⟩ := (sc A5 G5).resolve_right (by omega)
        have hf := StM_0 s5'
        have hres : (numR T n 0 47 (wordR T n 16 (plcR T n (dC D) (dR D) (numR T n 0 3 (advR T n t)).1).1)).1 = (aftR T n 16 0 47 (plcR T n (dC D) (dR D) (numR T n 0 3 (advR T n t)).1).1).1 := rfl
        rw [hres] at s5' hf
        cases hr : (aftR T n 16 0 47 (plcR T n (dC D) (dR D) (numR T n 0 3 (advR T n t)).1).1).1 with
        | inl e =>
          rw [hr] at s5' hQ
          have h9 := hQ A5 ⟨S5, s5'⟩
          rw [br_p (hf.1 e hr)]
          exact h9
        | inr t' =>
          have hv := numR_v hr
          have hx5 := e5 t' hr
          obtain ⟨t3, ht3⟩ := aft_i hr
          have hpv := plR_v hD hC hRr ht3
          have hx3 := e3 t3 ht3
          obtain ⟨t2, ht2⟩ := plR_i ht3
          have hlk := numR_v ht2
          have hx2 := e2 t2 ht2
          have haf : AfR T n t (.inr t') := by rw [← hr]; exact AfR_f _ _ _ (AfR_p _ _ (AfR_n _ _ (AfR_1 hEn)))
          have hlt := AfR_lt (GdM_t hG) h0 haf
          rw [br_n (fun w => w (hf.2 t' hr))]
          simp +decide (disch := omega) only [i5, n5', n5, ni_in_t, ni_tn, ni_add1, am_w1_i, am_w1_r, am_w1_x, am_w1_l, am_w1_w, va_rf_s, am_push_n, am_push_s, am_cs_0, am_cs_i, am_cs_l, am_cs_r, m_uI_K, m_uI_N, m_uI_R, m_uI_L, m_uI_I, m_uL_K, m_uL_N, m_uL_R, m_uL_I, m_uL_L, m_uR_K, m_uR_N, m_uR_I, m_uR_L, m_uR_R, true_and, and_true, true_implies, false_implies, not_true_eq_false, not_false_eq_true, if_true, if_false, false_and, and_false]
          have w6 : gF (fun a j => a = 299 ∧ j = z) nT A5 (uI A5 299 z (nI (N + 1))) := gF_i _ ⟨rfl, rfl⟩
          rw [hr] at s5' hQ
          have s6 := StM_g s5' w6 (fun a j q w => by omega)
          refine hQ _ ⟨gF_trans S5 (gF_up w6 (fun a j q => sS_1 (by omega)) (fun _ _ q => q)), ⟨c, LA5, s6, ?_, DOK_sg hD (by omega) ⟨hlk.2, hpv.1, by show (aftR T n 16 0 47 (plcR T n (dC D) (dR D) (numR T n 0 3 (advR T n t)).1).1).2 < 48; have := hv.2; unfold aftR; omega⟩, by show c ≤ tS t'; omega⟩, hlt⟩
          obtain ⟨⟨a1, a2⟩, b1, b2, b3, b4, b5, ⟨r1, r2, r3⟩, f⟩ := P5
          have l1 := hD.2.2.2.2.2.2.2.2.1.1
          have l2 := hD.2.2.2.2.2.2.2.2.2.1.1
          have l3 := hD.2.2.2.2.2.2.2.2.2.2.1
          refine ⟨⟨by rw [w6.1 _ _ (by omega)]; exact a1, by rw [w6.1 _ _ (by omega)]; exact a2⟩, by rw [w6.1 _ _ (by omega)]; exact b1, ShpM_g b2 w6 (by omega) (fun a j q1 q2 q3 w => by omega), SysM_g b3 w6 (by omega) (fun a j q w => by omega), BkM_gF b4 w6 (by omega) (fun a j q1 q2 q3 w => by omega), ⟨?_, fun i g hi => ?_⟩, ⟨RlM_g r1 l1 w6 (by omega) (fun a j q1 q2 q3 w => by omega) (fun a j q1 q2 q3 w => by omega), RlM_g r2 l2 w6 (by omega) (fun a j q1 q2 q3 w => by omega) (fun a j q1 q2 q3 w => by omega), RlM_g r3 (Nat.le_trans l3 (by decide)) w6 (by omega) (fun a j q1 q2 q3 w => by omega) (fun a j q1 q2 q3 w => by omega)⟩, FmM_g f w6 (fun j q w => by omega)⟩
          · rw [m_uI_I, if_pos ⟨rfl, rfl⟩]
            show _ = nI (dSg D ++ [_]).length
            rw [List.length_append, hN]; rfl
          · rw [w6.1 _ _ (by omega), w6.1 _ _ (by omega), w6.1 _ _ (by omega)]
            rcases getA (L := dSg D) hi with ⟨q1, q2⟩ | ⟨q1, q2⟩
            · exact b5.2 i g q2
            · rw [q1, ← hN, q2, v2'', v3', v5]
              exact ⟨hx2, hx3, hx5⟩
  rw [eX11_seen]
  have i0 := hP.2.2.2.2.2.2.2.2.2.1
  have n0 := hP.2.2.2.2.2.1.1
  rw [← hN] at n0
  simp +decide (disch := omega) only [qX11_seen_0, qX11_seen_1, lm hL, i0, n0, hn40, ni_in_t, ni_tn, am_w1_i, am_w1_r, am_w1_x, am_w1_l, am_w1_w, va_rf_s, am_push_n, am_push_s, am_cs_0, am_cs_i, am_cs_l, am_cs_r, m_uI_K, m_uI_N, m_uI_R, m_uI_L, m_uI_I, m_uL_K, m_uL_N, m_uL_R, m_uL_I, m_uL_L, m_uR_K, m_uR_N, m_uR_I, m_uR_L, m_uR_R, true_and, and_true, true_implies, false_implies, not_true_eq_false, not_false_eq_true, if_true, if_false, false_and, and_false]
  by_cases cf : 40 ≤ N
  · rw [decide_eq_true cf] at main
    rw [br_r (by omega)]
    exact main
  · rw [decide_eq_false cf] at main
    rw [br_q (by omega)]
    exact main
end
end
section
/-! the model's statements: books, ships -/
def sX (lo hi J a j : Nat) : Prop := sRm a j ∨ (lo ≤ a ∧ a ≤ hi ∧ j = J)
theorem sX_u {lo hi J : Nat} {A B : am_M} (h : gF sRm nT A B) : gF (sX lo hi J) nT A B := gF_up h (fun a j q => Or.inl q) (fun _ _ q => q)
theorem sX_i {lo hi J a : Nat} {A : am_M} (x : Int32) (h : lo ≤ a ∧ a ≤ hi) : gF (sX lo hi J) nT A (uI A a J x) := gF_i _ (Or.inr ⟨h.1, h.2, rfl⟩)
theorem StM_u {M : am_M} {T : Nat → Nat} {n a j : Nat} {x : Int32} {r : Rt} (h : StM M T n r) (ha : 279 ≤ a) : StM (uI M a j x) T n r := StM_g h (gF_i (S := fun b i => b = a ∧ i = j) (T := nT) x ⟨rfl, rfl⟩) (fun b i q w => by omega)
theorem dTot_app {D : Dat} {sp : Shp} (hD : DOK D) : dTot (D.1, (dSh D ++ [sp], dYs D ++ [[]], dBk D, dSg D), D.2.2) = dTot D := by
  have h : sumF (fun s => (dY (D.1, (dSh D ++ [sp], dYs D ++ [[]], dBk D, dSg D), D.2.2) s).length) (dSh D ++ [sp]).length = sumF (fun s => (dY D s).length) (dSh D ++ [sp]).length := sumF_ext _ (fun i _ => by rw [dY_app hD])
  show sumF (fun s => (dY (D.1, (dSh D ++ [sp], dYs D ++ [[]], dBk D, dSg D), D.2.2) s).length) (dSh D ++ [sp]).length = _
  rw [h, List.length_append]
  show sumF (fun s => (dY D s).length) (dSh D).length + (dY D (dSh D).length).length = _
  have hz0 : dY D (dSh D).length = [] := by
    unfold dY
    rw [List.getD_eq_getElem?_getD, List.getElem?_eq_none (by have := hD.2.2.1.2.1; omega)]; rfl
  rw [hz0]
  rfl
section
variable {T : Nat → Nat} {n z : Nat}
theorem k_book (d c : Nat) (D : Dat) (t : Tok) (M : am_M) (Q : Option Value → am_M → Prop) (hG : GdM T n z M D c t) (hC : 1 ≤ dC D) (hRr : 1 ≤ dR D) (h0 : ¬ t.1 = 0) (hQ : ∀ M', EdM T n z t M M' (spBook T n D t) → Q none M') : am_E am_P0 (d + 4) 202 [.ref 277] M Q := by
  obtain ⟨hL, hR, hP, hD, hc⟩ := id hG
  have hEn := (GdM_t hG).1
  have hz := hP.2.2.2.2.2.2.2.2.2.2
  have hmx : (dBk D).length ≤ 12 := hD.2.2.2.2.2.2.1.1.1
  have hCR := hD.1
  obtain ⟨N, hN⟩ : ∃ N, N = (dBk D).length := ⟨_, rfl⟩
  rw [← hN] at hmx
  have hnm : nI N = 12 ↔ N = 12 := by rw [show (12 : Int32) = nI 12 from rfl, ni_eq (by omega) (by omega)]
  have idx : (12 : Int32) * nI z + nI N = nI (12 * z + N) := by rw [show (12 : Int32) = nI 12 from rfl, ni_mul, ni_add]
  have sc : ∀ (M' : am_M), gF (sX 295 298 (12 * z + N)) nT M M' → PdM M' z D c ∧ Lay M' ∧ mI M' 277 41 = nI z ∧ mI M' 294 z = nI N ∧ gF (sSm z) nT M M' ∨ 12 ≤ N := fun M' g => by
    by_cases cN : 12 ≤ N
    · exact Or.inr cN
    · have P := PdM_w hP hD g (fun a q w => by unfold sX sRm at w; omega) (fun j q1 q2 w => by unfold sX sRm at w; omega) (fun a k j q1 q2 q3 w => by unfold sX sRm at w; omega) (fun a j q1 q2 q3 w => by unfold sX sRm at w; omega) (fun a j q w => by unfold sX sRm at w; omega) (fun a j q1 q2 q3 w => by unfold sX sRm at w; omega) (fun a j q1 q2 q3 w => by unfold sX sRm at w; omega) (fun a j q1 q2 q3 w => by unfold sX sRm at w; omega) (fun j q w => by unfold sX sRm at w; omega)
      refine Or.inl ⟨P, gF_LayN g hL, P.2.2.2.2.2.2.2.2.2.1, by rw [hN]; exact P.2.2.2.2.1.1, gF_up g (fun a j q => ?_) (fun _ _ q => q)⟩
      rcases q with q | q
      · exact sS_0 (by unfold sRm at q; omega)
      · exact sS_6 (by omega)
  have main : am_E am_P0 (d + 3) 193 [.ref 277, .int (b01 (decide (12 ≤ N)))] M (fun r M2 => am_P am_P0 (d + 4) (am_look tX11_book) 23 [.ref 277, am_x] (am_push r []) M2 Q) := by
    refine m_counts (d + 1) (decide (12 ≤ N)) t M _ hL hR (fun M1 x1 g1 s1 f1 o1 => ?_)
    by_cases cf : 12 ≤ N
    · rw [if_pos (decide_eq_true cf)] at s1 f1
      have h9 := hQ M1 (by unfold spBook; rw [if_pos (by omega)]; exact ⟨sRm_S g1, s1⟩)
      simp +decide only [qX11_book_0, qX11_book_1, f1 _ rfl, am_w1_i, am_w1_r, am_w1_x, am_w1_l, am_w1_w, va_rf_s, am_push_n, am_push_s, am_cs_0, am_cs_i, am_cs_l, am_cs_r, m_uI_K, m_uI_N, m_uI_R, m_uI_L, m_uI_I, m_uL_K, m_uL_N, m_uL_R, m_uL_I, m_uL_L, m_uR_K, m_uR_N, m_uR_I, m_uR_L, m_uR_R, true_and, and_true, true_implies, false_implies, not_true_eq_false, not_false_eq_true, if_true, if_false, false_and, and_false]
      exact h9
    · rw [if_neg (by rw [decide_eq_false cf]; decide)] at s1 f1 o1
      unfold spBook at hQ
      rw [if_neg (by omega)] at hQ
      cases hr1 : advR T n t with
      | inl e =>
        rw [hr1] at s1 hQ
        have h9 := hQ M1 ⟨sRm_S g1, s1⟩
        simp +decide only [qX11_book_0, qX11_book_1, f1 e hr1, am_w1_i, am_w1_r, am_w1_x, am_w1_l, am_w1_w, va_rf_s, am_push_n, am_push_s, am_cs_0, am_cs_i, am_cs_l, am_cs_r, m_uI_K, m_uI_N, m_uI_R, m_uI_L, m_uI_I, m_uL_K, m_uL_N, m_uL_R, m_uL_I, m_uL_L, m_uR_K, m_uR_N, m_uR_I, m_uR_L, m_uR_R, true_and, and_true, true_implies, false_implies, not_true_eq_false, not_false_eq_true, if_true, if_false, false_and, and_false]
        exact h9
      | inr t1 =>
        have G1 := sX_u (lo := 295) (hi := 298) (J := 12 * z + N) g1
        obtain ⟨P1, L1, i1, n1, S1⟩ := (sc M1 G1).resolve_right (by omega)
        simp +decide (disch := omega) only [qX11_book_0, qX11_book_1, o1 t1 hr1, lm L1, i1, n1, idx, ni_in_t, ni_tn, am_w1_i, am_w1_r, am_w1_x, am_w1_l, am_w1_w, va_rf_s, am_push_n, am_push_s, am_cs_0, am_cs_i, am_cs_l, am_cs_r, m_uI_K, m_uI_N, m_uI_R, m_uI_L, m_uI_I, m_uL_K, m_uL_N, m_uL_R, m_uL_I, m_uL_L, m_uR_K, m_uR_N, m_uR_I, m_uR_L, m_uR_R, true_and, and_true, true_implies, false_implies, not_true_eq_false, not_false_eq_true, if_true, if_false, false_and, and_false]
        have Hs := P1.2.2.1
        refine m_asked (d + 1) z D _ M1 _ L1 hz i1 Hs hD s1 (fun M2 q2 hq2 g2 s2 e2 => ?_)
        obtain ⟨x2, hx2⟩ : ∃ x : Int32, x = nI q2 := ⟨_, rfl⟩
        rw [← hx2]
        have L2 := gF_LayN g2 L1
        have G2 : gF (sX 295 298 (12 * z + N)) nT M (uI M2 295 (12 * z + N) x2) := gF_trans G1 (gF_trans (sX_u g2) (sX_i _ ⟨by omega, by omega⟩))
        have s2' := StM_u (a := 295) (j := 12 * z + N) (x := x2) s2 (by omega)
        simp +decide (disch := omega) only [qX11_book_0, qX11_book_1, lm L2, ni_in_t, ni_tn, am_w1_i, am_w1_r, am_w1_x, am_w1_l, am_w1_w, va_rf_s, am_push_n, am_push_s, am_cs_0, am_cs_i, am_cs_l, am_cs_r, m_uI_K, m_uI_N, m_uI_R, m_uI_L, m_uI_I, m_uL_K, m_uL_N, m_uL_R, m_uL_I, m_uL_L, m_uR_K, m_uR_N, m_uR_I, m_uR_L, m_uR_R, true_and, and_true, true_implies, false_implies, not_true_eq_false, not_false_eq_true, if_true, if_false, false_and, and_false]
        obtain ⟨A2, hA2⟩ : ∃ A, A = uI M2 295 (12 * z + N) x2 := ⟨_, rfl⟩
        have v2_2 : mI A2 295 (12 * z + N) = x2 := by rw [hA2, m_uI_I, if_pos ⟨rfl, rfl⟩]
        rw [← hA2] at G2 s2' ⊢
        obtain ⟨P2, LA2, i2, n2, S2⟩ := (sc A2 G2).resolve_right (by omega)
        refine m_here d z (dC D) (dR D) _ A2 _ LA2 hz i2 P2.1.1 P2.1.2 (by omega) (by omega) s2' (fun M3 x3 g3 s3 e3 => ?_)
        have L3 := gF_LayN g3 LA2
        have G3 : gF (sX 295 298 (12 * z + N)) nT M (uI M3 296 (12 * z + N) x3) := gF_trans G2 (gF_trans (sX_u g3) (sX_i _ ⟨by omega, by omega⟩))
        have s3' := StM_u (a := 296) (j := 12 * z + N) (x := x3) s3 (by omega)
        simp +decide (disch := omega) only [qX11_book_0, qX11_book_1, lm L3, ni_in_t, ni_tn, am_w1_i, am_w1_r, am_w1_x, am_w1_l, am_w1_w, va_rf_s, am_push_n, am_push_s, am_cs_0, am_cs_i, am_cs_l, am_cs_r, m_uI_K, m_uI_N, m_uI_R, m_uI_L, m_uI_I, m_uL_K, m_uL_N, m_uL_R, m_uL_I, m_uL_L, m_uR_K, m_uR_N, m_uR_I, m_uR_L, m_uR_R, true_and, and_true, true_implies, false_implies, not_true_eq_false, not_false_eq_true, if_true, if_false, false_and, and_false]
        obtain ⟨A3, hA3⟩ : ∃ A, A = uI M3 296 (12 * z + N) x3 := ⟨_, rfl⟩
        have v3_3 : mI A3 296 (12 * z + N) = x3 := by rw [hA3, m_uI_I, if_pos ⟨rfl, rfl⟩]
        have v2_3 : mI A3 295 (12 * z + N) = x2 := by rw [hA3, m_uI_I, if_neg (by omega), g3.1 _ _ (fun w => by unfold sRm at w; omega)]; exact v2_2
        rw [← hA3] at G3 s3' ⊢
        obtain ⟨P3, LA3, i3, n3, S3⟩ := (sc A3 G3).resolve_right (by omega)
        refine m_word2 (d + 1) 13 1718775661 _ A3 _ LA3 (by omega) (by decide) s3' (fun M4 g4 s4 => ?_)
        have L4 := gF_LayN g4 LA3
        simp +decide (disch := omega) only [qX11_book_0, qX11_book_1, lm L4, ni_in_t, ni_tn, am_w1_i, am_w1_r, am_w1_x, am_w1_l, am_w1_w, va_rf_s, am_push_n, am_push_s, am_cs_0, am_cs_i, am_cs_l, am_cs_r, m_uI_K, m_uI_N, m_uI_R, m_uI_L, m_uI_I, m_uL_K, m_uL_N, m_uL_R, m_uL_I, m_uL_L, m_uR_K, m_uR_N, m_uR_I, m_uR_L, m_uR_R, true_and, and_true, true_implies, false_implies, not_true_eq_false, not_false_eq_true, if_true, if_false, false_and, and_false]
        rw [show (0 : Int32) = nI 0 from rfl, show (47 : Int32) = nI 47 from rfl]
        refine m_num (d + 1) 0 47 _ M4 _ L4 (by omega) (by omega) s4 (fun M5 x5 g5 s5 e5 => ?_)
        have L5 := gF_LayN g5 L4
        have G5 : gF (sX 295 298 (12 * z + N)) nT M (uI M5 297 (12 * z + N) x5) := gF_trans G3 (gF_trans (sX_u g4) (gF_trans (sX_u g5) (sX_i _ ⟨by omega, by omega⟩)))
        have s5' := StM_u (a := 297) (j := 12 * z + N) (x := x5) s5 (by omega)
        simp +decide (disch := omega) only [qX11_book_0, qX11_book_1, lm L5, ni_in_t, ni_tn, am_w1_i, am_w1_r, am_w1_x, am_w1_l, am_w1_w, va_rf_s, am_push_n, am_push_s, am_cs_0, am_cs_i, am_cs_l, am_cs_r, m_uI_K, m_uI_N, m_uI_R, m_uI_L, m_uI_I, m_uL_K, m_uL_N, m_uL_R, m_uL_I, m_uL_L, m_uR_K, m_uR_N, m_uR_I, m_uR_L, m_uR_R, true_and, and_true, true_implies, false_implies, not_true_eq_false, not_false_eq_true, if_true, if_false, false_and, and_false]
        obtain ⟨A5, hA5⟩ : ∃ A, A = uI M5 297 (12 * z + N) x5 := ⟨_, rfl⟩
        have v5_5 : mI A5 297 (12 * z + N) = x5 := by rw [hA5, m_uI_I, if_pos ⟨rfl, rfl⟩]
        have v2_5 : mI A5 295 (12 * z + N) = x2 := by rw [hA5, m_uI_I, if_neg (by omega), g5.1 _ _ (fun w => by unfold sRm at w; omega), g4.1 _ _ (fun w => by unfold sRm at w; omega)]; exact v2_3
        have v3_5 : mI A5 296 (12 * z + N) = x3 := by rw [hA5, m_uI_I, if_neg (by omega), g5.1 _ _ (fun w => by unfold sRm at w; omega), g4.1 _ _ (fun w => by unfold sRm at w; omega)]; exact v3_3
        rw [← hA5] at G5 s5' ⊢
        obtain ⟨P5, LA5, i5, n5, S5⟩ := (sc A5 G5).resolve_right (by omega)
        refine m_word2 (d + 1) 14 29807 _ A5 _ LA5 (by omega) (by decide) s5' (fun M6 g6 s6 => ?_)
        have L6 := gF_LayN g6 LA5
        have v5_6 : mI M6 297 (12 * z + N) = x5 := by rw [g6.1 _ _ (fun w => by unfold sRm at w; omega)]; exact v5_5
        simp +decide (disch := omega) only [qX11_book_0, qX11_book_1, lm L6, v5_6, ni_in_t, ni_tn, am_w1_i, am_w1_r, am_w1_x, am_w1_l, am_w1_w, va_rf_s, am_push_n, am_push_s, am_cs_0, am_cs_i, am_cs_l, am_cs_r, m_uI_K, m_uI_N, m_uI_R, m_uI_L, m_uI_I, m_uL_K, m_uL_N, m_uL_R, m_uL_I, m_uL_L, m_uR_K, m_uR_N, m_uR_I, m_uR_L, m_uR_R, true_and, and_true, true_implies, false_implies, not_true_eq_false, not_false_eq_true, if_true, if_false, false_and, and_false]
        have e5' : ∀ t', (aftR T n 13 0 47 (plcR T n (dC D) (dR D) (shpR T n D (advR T n t)).1).1).1 = .inr t' → x5 = nI (aftR T n 13 0 47 (plcR T n (dC D) (dR D) (shpR T n D (advR T n t)).1).1).2 := e5
        have s6' : StM M6 T n (wordR T n 14 (aftR T n 13 0 47 (plcR T n (dC D) (dR D) (shpR T n D (advR T n t)).1).1).1) := s6
        have hfr := aftR_le (T := T) (n := n) (w := 13) (lo := 0) (hi := 47) (by omega) (plcR T n (dC D) (dR D) (shpR T n D (advR T n t)).1).1
        have num7 : ∀ (K : Option Value → am_M → Prop), (∀ M7 x7, gF sRm nT M6 M7 → StM M7 T n (aftR T n 14 (aftR T n 13 0 47 (plcR T n (dC D) (dR D) (shpR T n D (advR T n t)).1).1).2 47 (aftR T n 13 0 47 (plcR T n (dC D) (dR D) (shpR T n D (advR T n t)).1).1).1).1 → (∀ t', (aftR T n 14 (aftR T n 13 0 47 (plcR T n (dC D) (dR D) (shpR T n D (advR T n t)).1).1).2 47 (aftR T n 13 0 47 (plcR T n (dC D) (dR D) (shpR T n D (advR T n t)).1).1).1).1 = .inr t' → x7 = nI (aftR T n 14 (aftR T n 13 0 47 (plcR T n (dC D) (dR D) (shpR T n D (advR T n t)).1).1).2 47 (aftR T n 13 0 47 (plcR T n (dC D) (dR D) (shpR T n D (advR T n t)).1).1).1).2) → K (some (.int x7)) M7) → am_E am_P0 (d + 3) 182 [.ref 277, .int x5, .int 47] M6 K := fun K hK => by
          cases hr6 : wordR T n 14 (aftR T n 13 0 47 (plcR T n (dC D) (dR D) (shpR T n D (advR T n t)).1).1).1 with
          | inl e =>
            have s6'' := s6'
            rw [hr6] at s6''
            have ea : (aftR T n 14 (aftR T n 13 0 47 (plcR T n (dC D) (dR D) (shpR T n D (advR T n t)).1).1).2 47 (aftR T n 13 0 47 (plcR T n (dC D) (dR D) (shpR T n D (advR T n t)).1).1).1).1 = .inl e := by show (numR T n _ 47 (wordR T n 14 (aftR T n 13 0 47 (plcR T n (dC D) (dR D) (shpR T n D (advR T n t)).1).1).1)).1 = _; rw [hr6]; rfl
            rw [m_numF (d + 3) e x5 47 M6 K L6 s6'']
            exact hK M6 0 (gF_refl _ _ _) (by rw [ea]; exact s6'') (fun t' q => by rw [ea] at q; cases q)
          | inr t6 =>
            obtain ⟨u, hu⟩ := wordR_i hr6
            have hx5 := e5' u hu
            rw [hx5, show (47 : Int32) = nI 47 from rfl]
            exact m_num (d + 1) (aftR T n 13 0 47 (plcR T n (dC D) (dR D) (shpR T n D (advR T n t)).1).1).2 47 _ M6 K L6 (by omega) (by omega) s6' (fun M7 x7 g7 s7 e7 => hK M7 x7 g7 s7 e7)
        refine num7 _ (fun M7 x7 g7 s7 e7 => ?_)
        have L7 := gF_LayN g7 L6
        have G7 : gF (sX 295 298 (12 * z + N)) nT M (uI M7 298 (12 * z + N) x7) := gF_trans G5 (gF_trans (sX_u g6) (gF_trans (sX_u g7) (sX_i _ ⟨by omega, by omega⟩)))
        have s7' := StM_u (a := 298) (j := 12 * z + N) (x := x7) s7 (by omega)
        simp +decide (disch := omega) only [qX11_book_0, qX11_book_1, lm L7, ni_in_t, ni_tn, am_w1_i, am_w1_r, am_w1_x, am_w1_l, am_w1_w, va_rf_s, am_push_n, am_push_s, am_cs_0, am_cs_i, am_cs_l, am_cs_r, m_uI_K, m_uI_N, m_uI_R, m_uI_L, m_uI_I, m_uL_K, m_uL_N, m_uL_R, m_uL_I, m_uL_L, m_uR_K, m_uR_N, m_uR_I, m_uR_L, m_uR_R, true_and, and_true, true_implies, false_implies, not_true_eq_false, not_false_eq_true, if_true, if_false, false_and, and_false]
        obtain ⟨A7, hA7⟩ : ∃ A, A = uI M7 298 (12 * z + N) x7 := ⟨_, rfl⟩
        have v7_7 : mI A7 298 (12 * z + N) = x7 := by rw [hA7, m_uI_I, if_pos ⟨rfl, rfl⟩]
        have v2_7 : mI A7 295 (12 * z + N) = x2 := by rw [hA7, m_uI_I, if_neg (by omega), g7.1 _ _ (fun w => by unfold sRm at w; omega), g6.1 _ _ (fun w => by unfold sRm at w; omega)]; exact v2_5
        have v3_7 : mI A7 296 (12 * z + N) = x3 := by rw [hA7, m_uI_I, if_neg (by omega), g7.1 _ _ (fun w => by unfold sRm at w; omega), g6.1 _ _ (fun w => by unfold sRm at w; omega)]; exact v3_5
        have v5_7 : mI A7 297 (12 * z + N) = x5 := by rw [hA7, m_uI_I, if_neg (by omega), g7.1 _ _ (fun w => by unfold sRm at w; omega), g6.1 _ _ (fun w => by unfold sRm at w; omega)]; exact v5_5
        rw [← hA7] at G7 s7' ⊢
        obtain ⟨P7, LA7, i7, n7, S7⟩ := (sc A7 G7).resolve_right (by omega)
        have e8 : mI M7 277 8 = mI A7 277 8 := by rw [hA7, m_uI_I, if_neg (by omega)]
        have i7' : mI M7 277 41 = mI A7 277 41 := by rw [hA7, m_uI_I, if_neg (by omega)]
        have n7' : mI M7 294 z = mI A7 294 z := by rw [hA7, m_uI_I, if_neg (by omega)]
        rw [e8, i7']
        have hf := StM_0 s7'
        cases hr : (aftR T n 14 (aftR T n 13 0 47 (plcR T n (dC D) (dR D) (shpR T n D (advR T n t)).1).1).2 47 (aftR T n 13 0 47 (plcR T n (dC D) (dR D) (shpR T n D (advR T n t)).1).1).1).1 with
        | inl e =>
          rw [hr] at s7' hQ
          have h9 := hQ A7 ⟨S7, s7'⟩
          rw [br_p (hf.1 e hr)]
          exact h9
        | inr t' =>
          have hv := numR_v hr
          have hx7 := e7 t' hr
          obtain ⟨u2, hu2⟩ := aft_i hr
          have hv2 := numR_v hu2
          have hx5 := e5' u2 hu2
          obtain ⟨u1, hu1⟩ := aft_i hu2
          have hpv := plR_v hD hC hRr hu1
          have hx3 := e3 u1 hu1
          obtain ⟨u0, hu0⟩ := plR_i hu1
          have hsl := shp_i hu0
          have hxs := e2 u0 hu0
          have haf : AfR T n t (.inr t') := by rw [← hr]; exact AfR_f _ _ _ (AfR_f _ _ _ (AfR_p _ _ (AfR_h D (AfR_1 hEn))))
          have hlt := AfR_lt (GdM_t hG) h0 haf
          rw [br_n (fun w => w (hf.2 t' hr))]
          simp +decide (disch := omega) only [i7, n7', n7, ni_in_t, ni_tn, ni_add1, am_w1_i, am_w1_r, am_w1_x, am_w1_l, am_w1_w, va_rf_s, am_push_n, am_push_s, am_cs_0, am_cs_i, am_cs_l, am_cs_r, m_uI_K, m_uI_N, m_uI_R, m_uI_L, m_uI_I, m_uL_K, m_uL_N, m_uL_R, m_uL_I, m_uL_L, m_uR_K, m_uR_N, m_uR_I, m_uR_L, m_uR_R, true_and, and_true, true_implies, false_implies, not_true_eq_false, not_false_eq_true, if_true, if_false, false_and, and_false]
          have w8 : gF (fun a j => a = 294 ∧ j = z) nT A7 (uI A7 294 z (nI (N + 1))) := gF_i _ ⟨rfl, rfl⟩
          rw [hr] at s7' hQ
          have s8 := StM_g s7' w8 (fun a j q w => by omega)
          refine hQ _ ⟨gF_trans S7 (gF_up w8 (fun a j q => sS_1 (by omega)) (fun _ _ q => q)), ⟨c, LA7, s8, ?_, DOK_b hD (by omega) hsl ⟨hpv.1, hv.1, by show (aftR T n 14 (aftR T n 13 0 47 (plcR T n (dC D) (dR D) (shpR T n D (advR T n t)).1).1).2 47 (aftR T n 13 0 47 (plcR T n (dC D) (dR D) (shpR T n D (advR T n t)).1).1).1).2 < 48; have := hv.2; unfold aftR at this ⊢; omega⟩, by show c ≤ tS t'; omega⟩, hlt⟩
          obtain ⟨⟨a1, a2⟩, b1, b2, b3, b4, b5, ⟨r1, r2, r3⟩, f⟩ := P7
          have l1 := hD.2.2.2.2.2.2.2.2.1.1
          have l2 := hD.2.2.2.2.2.2.2.2.2.1.1
          have l3 := hD.2.2.2.2.2.2.2.2.2.2.1
          refine ⟨⟨by rw [w8.1 _ _ (by omega)]; exact a1, by rw [w8.1 _ _ (by omega)]; exact a2⟩, by rw [w8.1 _ _ (by omega)]; exact b1, ShpM_g b2 w8 (by omega) (fun a j q1 q2 q3 w => by omega), SysM_g b3 w8 (by omega) (fun a j q w => by omega), ⟨?_, fun i g hi => ?_⟩, SgM_g b5 w8 (by omega) (fun a j q1 q2 q3 w => by omega), ⟨RlM_g r1 l1 w8 (by omega) (fun a j q1 q2 q3 w => by omega) (fun a j q1 q2 q3 w => by omega), RlM_g r2 l2 w8 (by omega) (fun a j q1 q2 q3 w => by omega) (fun a j q1 q2 q3 w => by omega), RlM_g r3 (Nat.le_trans l3 (by decide)) w8 (by omega) (fun a j q1 q2 q3 w => by omega) (fun a j q1 q2 q3 w => by omega)⟩, FmM_g f w8 (fun j q w => by omega)⟩
          · rw [m_uI_I, if_pos ⟨rfl, rfl⟩]
            show _ = nI (dBk D ++ [_]).length
            rw [List.length_append, hN]; rfl
          · rw [w8.1 _ _ (by omega), w8.1 _ _ (by omega), w8.1 _ _ (by omega), w8.1 _ _ (by omega)]
            rcases getA (L := dBk D) hi with ⟨q1, q2⟩ | ⟨q1, q2⟩
            · exact b4.2 i g q2
            · rw [q1, ← hN, q2, v2_7, v3_7, v5_7, v7_7]
              exact ⟨by rw [hx2, hxs], hx3, hx5, hx7⟩
  rw [eX11_book]
  have i0 := hP.2.2.2.2.2.2.2.2.2.1
  have n0 := hP.2.2.2.2.1.1
  rw [← hN] at n0
  simp +decide (disch := omega) only [qX11_book_0, qX11_book_1, lm hL, i0, n0, hnm, ni_in_t, ni_tn, am_w1_i, am_w1_r, am_w1_x, am_w1_l, am_w1_w, va_rf_s, am_push_n, am_push_s, am_cs_0, am_cs_i, am_cs_l, am_cs_r, m_uI_K, m_uI_N, m_uI_R, m_uI_L, m_uI_I, m_uL_K, m_uL_N, m_uL_R, m_uL_I, m_uL_L, m_uR_K, m_uR_N, m_uR_I, m_uR_L, m_uR_R, true_and, and_true, true_implies, false_implies, not_true_eq_false, not_false_eq_true, if_true, if_false, false_and, and_false]
  by_cases cf : 12 ≤ N
  · rw [decide_eq_true cf] at main
    rw [br_r (by omega)]
    exact main
  · rw [decide_eq_false cf] at main
    rw [br_q (by omega)]
    exact main
theorem k_ship (d c : Nat) (D : Dat) (t : Tok) (M : am_M) (Q : Option Value → am_M → Prop) (hG : GdM T n z M D c t) (hC : 1 ≤ dC D) (hRr : 1 ≤ dR D) (h0 : ¬ t.1 = 0) (hQ : ∀ M', EdM T n z t M M' (spShip T n D t) → Q none M') : am_E am_P0 (d + 4) 199 [.ref 277] M Q := by
  obtain ⟨hL, hR, hP, hD, hc⟩ := id hG
  have hEn := (GdM_t hG).1
  have hz := hP.2.2.2.2.2.2.2.2.2.2
  have hmx : (dSh D).length ≤ 8 := hD.2.2.1.1
  have hCR := hD.1
  obtain ⟨N, hN⟩ : ∃ N, N = (dSh D).length := ⟨_, rfl⟩
  rw [← hN] at hmx
  have hnm : nI N = 8 ↔ N = 8 := by rw [show (8 : Int32) = nI 8 from rfl, ni_eq (by omega) (by omega)]
  have idx : (8 : Int32) * nI z + nI N = nI (8 * z + N) := by rw [show (8 : Int32) = nI 8 from rfl, ni_mul, ni_add]
  have sc : ∀ (M' : am_M), gF (sX 286 290 (8 * z + N)) nT M M' → PdM M' z D c ∧ Lay M' ∧ mI M' 277 41 = nI z ∧ mI M' 285 z = nI N ∧ gF (sSm z) nT M M' ∨ 8 ≤ N := fun M' g => by
    by_cases cN : 8 ≤ N
    · exact Or.inr cN
    · have P := PdM_w hP hD g (fun a q w => by unfold sX sRm at w; omega) (fun j q1 q2 w => by unfold sX sRm at w; omega) (fun a k j q1 q2 q3 w => by unfold sX sRm at w; omega) (fun a j q1 q2 q3 w => by unfold sX sRm at w; omega) (fun a j q w => by unfold sX sRm at w; omega) (fun a j q1 q2 q3 w => by unfold sX sRm at w; omega) (fun a j q1 q2 q3 w => by unfold sX sRm at w; omega) (fun a j q1 q2 q3 w => by unfold sX sRm at w; omega) (fun j q w => by unfold sX sRm at w; omega)
      refine Or.inl ⟨P, gF_LayN g hL, P.2.2.2.2.2.2.2.2.2.1, by rw [hN]; exact P.2.2.1.1, gF_up g (fun a j q => ?_) (fun _ _ q => q)⟩
      rcases q with q | q
      · exact sS_0 (by unfold sRm at q; omega)
      · exact sS_4 (by omega)
  have main : am_E am_P0 (d + 3) 193 [.ref 277, .int (b01 (decide (8 ≤ N)))] M (fun r M2 => am_P am_P0 (d + 4) (am_look tX11_ship) 23 [.ref 277, am_x] (am_push r []) M2 Q) := by
    refine m_counts (d + 1) (decide (8 ≤ N)) t M _ hL hR (fun M1 x1 g1 s1 f1 o1 => ?_)
    by_cases cf : 8 ≤ N
    · rw [if_pos (decide_eq_true cf)] at s1 f1
      have h9 := hQ M1 (by unfold spShip; rw [if_pos (by omega)]; exact ⟨sRm_S g1, s1⟩)
      simp +decide only [qX11_ship_0, qX11_ship_1, qX11_ship_2, f1 _ rfl, am_w1_i, am_w1_r, am_w1_x, am_w1_l, am_w1_w, va_rf_s, am_push_n, am_push_s, am_cs_0, am_cs_i, am_cs_l, am_cs_r, m_uI_K, m_uI_N, m_uI_R, m_uI_L, m_uI_I, m_uL_K, m_uL_N, m_uL_R, m_uL_I, m_uL_L, m_uR_K, m_uR_N, m_uR_I, m_uR_L, m_uR_R, true_and, and_true, true_implies, false_implies, not_true_eq_false, not_false_eq_true, if_true, if_false, false_and, and_false]
      exact h9
    · rw [if_neg (by rw [decide_eq_false cf]; decide)] at s1 f1 o1
      unfold spShip at hQ
      rw [if_neg (by omega)] at hQ
      cases hr1 : advR T n t with
      | inl e =>
        rw [hr1] at s1 hQ
        have h9 := hQ M1 ⟨sRm_S g1, s1⟩
        simp +decide only [qX11_ship_0, qX11_ship_1, qX11_ship_2, f1 e hr1, am_w1_i, am_w1_r, am_w1_x, am_w1_l, am_w1_w, va_rf_s, am_push_n, am_push_s, am_cs_0, am_cs_i, am_cs_l, am_cs_r, m_uI_K, m_uI_N, m_uI_R, m_uI_L, m_uI_I, m_uL_K, m_uL_N, m_uL_R, m_uL_I, m_uL_L, m_uR_K, m_uR_N, m_uR_I, m_uR_L, m_uR_R, true_and, and_true, true_implies, false_implies, not_true_eq_false, not_false_eq_true, if_true, if_false, false_and, and_false]
        exact h9
      | inr t1 =>
        have G1 := sX_u (lo := 286) (hi := 290) (J := 8 * z + N) g1
        obtain ⟨P1, L1, i1, n1, S1⟩ := (sc M1 G1).resolve_right (by omega)
        simp +decide (disch := omega) only [qX11_ship_0, qX11_ship_1, qX11_ship_2, o1 t1 hr1, lm L1, i1, n1, idx, ni_in_t, ni_tn, am_w1_i, am_w1_r, am_w1_x, am_w1_l, am_w1_w, va_rf_s, am_push_n, am_push_s, am_cs_0, am_cs_i, am_cs_l, am_cs_r, m_uI_K, m_uI_N, m_uI_R, m_uI_L, m_uI_I, m_uL_K, m_uL_N, m_uL_R, m_uL_I, m_uL_L, m_uR_K, m_uR_N, m_uR_I, m_uR_L, m_uR_R, true_and, and_true, true_implies, false_implies, not_true_eq_false, not_false_eq_true, if_true, if_false, false_and, and_false]
        have Hs := P1.2.2.1
        refine m_fresh (d + 1) z D _ M1 _ L1 hz i1 Hs hD s1 (fun M2 x2 g2 s2 e2 => ?_)
        have L2 := gF_LayN g2 L1
        have G2 : gF (sX 286 290 (8 * z + N)) nT M (uL M2 286 (8 * z + N) x2) := gF_trans G1 (gF_trans (sX_u g2) (gF_l _ (Or.inr ⟨by omega, by omega, rfl⟩)))
        have s2' : StM (uL M2 286 (8 * z + N) x2) T n _ := StM_g s2 (gF_l (S := fun b i => b = 286) (T := nT) x2 rfl) (fun b i q w => by omega)
        simp +decide (disch := omega) only [qX11_ship_0, qX11_ship_1, qX11_ship_2, lm L2, ni_in_t, ni_tn, am_w1_i, am_w1_r, am_w1_x, am_w1_l, am_w1_w, va_rf_s, am_push_n, am_push_s, am_cs_0, am_cs_i, am_cs_l, am_cs_r, m_uI_K, m_uI_N, m_uI_R, m_uI_L, m_uI_I, m_uL_K, m_uL_N, m_uL_R, m_uL_I, m_uL_L, m_uR_K, m_uR_N, m_uR_I, m_uR_L, m_uR_R, true_and, and_true, true_implies, false_implies, not_true_eq_false, not_false_eq_true, if_true, if_false, false_and, and_false]
        obtain ⟨A2, hA2⟩ : ∃ A, A = uL M2 286 (8 * z + N) x2 := ⟨_, rfl⟩
        have v2_2 : mL A2 286 (8 * z + N) = x2 := by rw [hA2, m_uL_L, if_pos ⟨rfl, rfl⟩]
        rw [← hA2] at G2 s2' ⊢
        obtain ⟨P2, LA2, i2, n2, S2⟩ := (sc A2 G2).resolve_right (by omega)
        refine m_word2 (d + 1) 5 1819242347 _ A2 _ LA2 (by omega) (by decide) s2' (fun M3 g3 s3 => ?_)
        have L3 := gF_LayN g3 LA2
        simp +decide (disch := omega) only [qX11_ship_0, qX11_ship_1, qX11_ship_2, lm L3, ni_in_t, ni_tn, am_w1_i, am_w1_r, am_w1_x, am_w1_l, am_w1_w, va_rf_s, am_push_n, am_push_s, am_cs_0, am_cs_i, am_cs_l, am_cs_r, m_uI_K, m_uI_N, m_uI_R, m_uI_L, m_uI_I, m_uL_K, m_uL_N, m_uL_R, m_uL_I, m_uL_L, m_uR_K, m_uR_N, m_uR_I, m_uR_L, m_uR_R, true_and, and_true, true_implies, false_implies, not_true_eq_false, not_false_eq_true, if_true, if_false, false_and, and_false]
        rw [show (0 : Int32) = nI 0 from rfl, show (3 : Int32) = nI 3 from rfl]
        refine m_num (d + 1) 0 3 _ M3 _ L3 (by omega) (by omega) s3 (fun M4 x4 g4 s4 e4 => ?_)
        have L4 := gF_LayN g4 L3
        have G4 : gF (sX 286 290 (8 * z + N)) nT M (uI M4 287 (8 * z + N) x4) := gF_trans G2 (gF_trans (sX_u g3) (gF_trans (sX_u g4) (sX_i _ ⟨by omega, by omega⟩)))
        have s4' := StM_u (a := 287) (j := 8 * z + N) (x := x4) s4 (by omega)
        simp +decide (disch := omega) only [qX11_ship_0, qX11_ship_1, qX11_ship_2, lm L4, ni_in_t, ni_tn, am_w1_i, am_w1_r, am_w1_x, am_w1_l, am_w1_w, va_rf_s, am_push_n, am_push_s, am_cs_0, am_cs_i, am_cs_l, am_cs_r, m_uI_K, m_uI_N, m_uI_R, m_uI_L, m_uI_I, m_uL_K, m_uL_N, m_uL_R, m_uL_I, m_uL_L, m_uR_K, m_uR_N, m_uR_I, m_uR_L, m_uR_R, true_and, and_true, true_implies, false_implies, not_true_eq_false, not_false_eq_true, if_true, if_false, false_and, and_false]
        obtain ⟨A4, hA4⟩ : ∃ A, A = uI M4 287 (8 * z + N) x4 := ⟨_, rfl⟩
        have v4_4 : mI A4 287 (8 * z + N) = x4 := by rw [hA4, m_uI_I, if_pos ⟨rfl, rfl⟩]
        have v2_4 : mL A4 286 (8 * z + N) = x2 := by rw [hA4, m_uI_L, g4.2.1 _ _ (fun w => by unfold sRm at w; omega), g3.2.1 _ _ (fun w => by unfold sRm at w; omega)]; exact v2_2
        rw [← hA4] at G4 s4' ⊢
        obtain ⟨P4, LA4, i4, n4, S4⟩ := (sc A4 G4).resolve_right (by omega)
        refine m_word2 (d + 1) 6 495806932324 _ A4 _ LA4 (by omega) (by decide) s4' (fun M5 g5 s5 => ?_)
        have L5 := gF_LayN g5 LA4
        simp +decide (disch := omega) only [qX11_ship_0, qX11_ship_1, qX11_ship_2, lm L5, ni_in_t, ni_tn, am_w1_i, am_w1_r, am_w1_x, am_w1_l, am_w1_w, va_rf_s, am_push_n, am_push_s, am_cs_0, am_cs_i, am_cs_l, am_cs_r, m_uI_K, m_uI_N, m_uI_R, m_uI_L, m_uI_I, m_uL_K, m_uL_N, m_uL_R, m_uL_I, m_uL_L, m_uR_K, m_uR_N, m_uR_I, m_uR_L, m_uR_R, true_and, and_true, true_implies, false_implies, not_true_eq_false, not_false_eq_true, if_true, if_false, false_and, and_false]
        rw [show (1 : Int32) = nI 1 from rfl, show (4 : Int32) = nI 4 from rfl]
        refine m_num (d + 1) 1 4 _ M5 _ L5 (by omega) (by omega) s5 (fun M6 x6 g6 s6 e6 => ?_)
        have L6 := gF_LayN g6 L5
        have G6 : gF (sX 286 290 (8 * z + N)) nT M (uI M6 288 (8 * z + N) x6) := gF_trans G4 (gF_trans (sX_u g5) (gF_trans (sX_u g6) (sX_i _ ⟨by omega, by omega⟩)))
        have s6' := StM_u (a := 288) (j := 8 * z + N) (x := x6) s6 (by omega)
        simp +decide (disch := omega) only [qX11_ship_0, qX11_ship_1, qX11_ship_2, lm L6, ni_in_t, ni_tn, am_w1_i, am_w1_r, am_w1_x, am_w1_l, am_w1_w, va_rf_s, am_push_n, am_push_s, am_cs_0, am_cs_i, am_cs_l, am_cs_r, m_uI_K, m_uI_N, m_uI_R, m_uI_L, m_uI_I, m_uL_K, m_uL_N, m_uL_R, m_uL_I, m_uL_L, m_uR_K, m_uR_N, m_uR_I, m_uR_L, m_uR_R, true_and, and_true, true_implies, false_implies, not_true_eq_false, not_false_eq_true, if_true, if_false, false_and, and_false]
        obtain ⟨A6, hA6⟩ : ∃ A, A = uI M6 288 (8 * z + N) x6 := ⟨_, rfl⟩
        have v6_6 : mI A6 288 (8 * z + N) = x6 := by rw [hA6, m_uI_I, if_pos ⟨rfl, rfl⟩]
        have v2_6 : mL A6 286 (8 * z + N) = x2 := by rw [hA6, m_uI_L, g6.2.1 _ _ (fun w => by unfold sRm at w; omega), g5.2.1 _ _ (fun w => by unfold sRm at w; omega)]; exact v2_4
        have v4_6 : mI A6 287 (8 * z + N) = x4 := by rw [hA6, m_uI_I, if_neg (by omega), g6.1 _ _ (fun w => by unfold sRm at w; omega), g5.1 _ _ (fun w => by unfold sRm at w; omega)]; exact v4_4
        rw [← hA6] at G6 s6' ⊢
        obtain ⟨P6, LA6, i6, n6, S6⟩ := (sc A6 G6).resolve_right (by omega)
        refine m_word2 (d + 1) 7 431415715444 _ A6 _ LA6 (by omega) (by decide) s6' (fun M7 g7 s7 => ?_)
        have L7 := gF_LayN g7 LA6
        simp +decide (disch := omega) only [qX11_ship_0, qX11_ship_1, qX11_ship_2, lm L7, ni_in_t, ni_tn, am_w1_i, am_w1_r, am_w1_x, am_w1_l, am_w1_w, va_rf_s, am_push_n, am_push_s, am_cs_0, am_cs_i, am_cs_l, am_cs_r, m_uI_K, m_uI_N, m_uI_R, m_uI_L, m_uI_I, m_uL_K, m_uL_N, m_uL_R, m_uL_I, m_uL_L, m_uR_K, m_uR_N, m_uR_I, m_uR_L, m_uR_R, true_and, and_true, true_implies, false_implies, not_true_eq_false, not_false_eq_true, if_true, if_false, false_and, and_false]
        rw [show (1 : Int32) = nI 1 from rfl, show (40 : Int32) = nI 40 from rfl]
        refine m_num (d + 1) 1 40 _ M7 _ L7 (by omega) (by omega) s7 (fun M8 x8 g8 s8 e8 => ?_)
        have L8 := gF_LayN g8 L7
        have G8 : gF (sX 286 290 (8 * z + N)) nT M (uI M8 289 (8 * z + N) x8) := gF_trans G6 (gF_trans (sX_u g7) (gF_trans (sX_u g8) (sX_i _ ⟨by omega, by omega⟩)))
        have s8' := StM_u (a := 289) (j := 8 * z + N) (x := x8) s8 (by omega)
        simp +decide (disch := omega) only [qX11_ship_0, qX11_ship_1, qX11_ship_2, lm L8, ni_in_t, ni_tn, am_w1_i, am_w1_r, am_w1_x, am_w1_l, am_w1_w, va_rf_s, am_push_n, am_push_s, am_cs_0, am_cs_i, am_cs_l, am_cs_r, m_uI_K, m_uI_N, m_uI_R, m_uI_L, m_uI_I, m_uL_K, m_uL_N, m_uL_R, m_uL_I, m_uL_L, m_uR_K, m_uR_N, m_uR_I, m_uR_L, m_uR_R, true_and, and_true, true_implies, false_implies, not_true_eq_false, not_false_eq_true, if_true, if_false, false_and, and_false]
        obtain ⟨A8, hA8⟩ : ∃ A, A = uI M8 289 (8 * z + N) x8 := ⟨_, rfl⟩
        have v8_8 : mI A8 289 (8 * z + N) = x8 := by rw [hA8, m_uI_I, if_pos ⟨rfl, rfl⟩]
        have v2_8 : mL A8 286 (8 * z + N) = x2 := by rw [hA8, m_uI_L, g8.2.1 _ _ (fun w => by unfold sRm at w; omega), g7.2.1 _ _ (fun w => by unfold sRm at w; omega)]; exact v2_6
        have v4_8 : mI A8 287 (8 * z + N) = x4 := by rw [hA8, m_uI_I, if_neg (by omega), g8.1 _ _ (fun w => by unfold sRm at w; omega), g7.1 _ _ (fun w => by unfold sRm at w; omega)]; exact v4_6
        have v6_8 : mI A8 288 (8 * z + N) = x6 := by rw [hA8, m_uI_I, if_neg (by omega), g8.1 _ _ (fun w => by unfold sRm at w; omega), g7.1 _ _ (fun w => by unfold sRm at w; omega)]; exact v6_6
        rw [← hA8] at G8 s8' ⊢
        obtain ⟨P8, LA8, i8, n8, S8⟩ := (sc A8 G8).resolve_right (by omega)
        refine m_word2 (d + 1) 8 1819238756 _ A8 _ LA8 (by omega) (by decide) s8' (fun M9 g9 s9 => ?_)
        have L9 := gF_LayN g9 LA8
        simp +decide (disch := omega) only [qX11_ship_0, qX11_ship_1, qX11_ship_2, lm L9, ni_in_t, ni_tn, am_w1_i, am_w1_r, am_w1_x, am_w1_l, am_w1_w, va_rf_s, am_push_n, am_push_s, am_cs_0, am_cs_i, am_cs_l, am_cs_r, m_uI_K, m_uI_N, m_uI_R, m_uI_L, m_uI_I, m_uL_K, m_uL_N, m_uL_R, m_uL_I, m_uL_L, m_uR_K, m_uR_N, m_uR_I, m_uR_L, m_uR_R, true_and, and_true, true_implies, false_implies, not_true_eq_false, not_false_eq_true, if_true, if_false, false_and, and_false]
        rw [show (0 : Int32) = nI 0 from rfl, show (40 : Int32) = nI 40 from rfl]
        refine m_num (d + 1) 0 40 _ M9 _ L9 (by omega) (by omega) s9 (fun M10 x10 g10 s10 e10 => ?_)
        have L10 := gF_LayN g10 L9
        have G10 : gF (sX 286 290 (8 * z + N)) nT M (uI M10 290 (8 * z + N) x10) := gF_trans G8 (gF_trans (sX_u g9) (gF_trans (sX_u g10) (sX_i _ ⟨by omega, by omega⟩)))
        have s10' := StM_u (a := 290) (j := 8 * z + N) (x := x10) s10 (by omega)
        simp +decide (disch := omega) only [qX11_ship_0, qX11_ship_1, qX11_ship_2, lm L10, ni_in_t, ni_tn, am_w1_i, am_w1_r, am_w1_x, am_w1_l, am_w1_w, va_rf_s, am_push_n, am_push_s, am_cs_0, am_cs_i, am_cs_l, am_cs_r, m_uI_K, m_uI_N, m_uI_R, m_uI_L, m_uI_I, m_uL_K, m_uL_N, m_uL_R, m_uL_I, m_uL_L, m_uR_K, m_uR_N, m_uR_I, m_uR_L, m_uR_R, true_and, and_true, true_implies, false_implies, not_true_eq_false, not_false_eq_true, if_true, if_false, false_and, and_false]
        obtain ⟨A10, hA10⟩ : ∃ A, A = uI M10 290 (8 * z + N) x10 := ⟨_, rfl⟩
        have v10_10 : mI A10 290 (8 * z + N) = x10 := by rw [hA10, m_uI_I, if_pos ⟨rfl, rfl⟩]
        have v2_10 : mL A10 286 (8 * z + N) = x2 := by rw [hA10, m_uI_L, g10.2.1 _ _ (fun w => by unfold sRm at w; omega), g9.2.1 _ _ (fun w => by unfold sRm at w; omega)]; exact v2_8
        have v4_10 : mI A10 287 (8 * z + N) = x4 := by rw [hA10, m_uI_I, if_neg (by omega), g10.1 _ _ (fun w => by unfold sRm at w; omega), g9.1 _ _ (fun w => by unfold sRm at w; omega)]; exact v4_8
        have v6_10 : mI A10 288 (8 * z + N) = x6 := by rw [hA10, m_uI_I, if_neg (by omega), g10.1 _ _ (fun w => by unfold sRm at w; omega), g9.1 _ _ (fun w => by unfold sRm at w; omega)]; exact v6_8
        have v8_10 : mI A10 289 (8 * z + N) = x8 := by rw [hA10, m_uI_I, if_neg (by omega), g10.1 _ _ (fun w => by unfold sRm at w; omega), g9.1 _ _ (fun w => by unfold sRm at w; omega)]; exact v8_8
        rw [← hA10] at G10 s10' ⊢
        obtain ⟨P10, LA10, i10, n10, S10⟩ := (sc A10 G10).resolve_right (by omega)
        have e8' : mI M10 277 8 = mI A10 277 8 := by rw [hA10, m_uI_I, if_neg (by omega)]
        have i10' : mI M10 277 41 = mI A10 277 41 := by rw [hA10, m_uI_I, if_neg (by omega)]
        have n10' : mI M10 285 z = mI A10 285 z := by rw [hA10, m_uI_I, if_neg (by omega)]
        rw [e8', i10']
        have hf := StM_0 s10'
        have s11 : StM A10 T n (aftR T n 8 0 40 (aftR T n 7 1 40 (aftR T n 6 1 4 (aftR T n 5 0 3 (frR T n D (advR T n t))).1).1).1).1 := s10'
        have hf : (∀ e, (aftR T n 8 0 40 (aftR T n 7 1 40 (aftR T n 6 1 4 (aftR T n 5 0 3 (frR T n D (advR T n t))).1).1).1).1 = .inl e → ¬ mI A10 277 8 = 0) ∧ (∀ u, (aftR T n 8 0 40 (aftR T n 7 1 40 (aftR T n 6 1 4 (aftR T n 5 0 3 (frR T n D (advR T n t))).1).1).1).1 = .inr u → mI A10 277 8 = 0) := hf
        have hQf : ∀ e, (aftR T n 8 0 40 (aftR T n 7 1 40 (aftR T n 6 1 4 (aftR T n 5 0 3 (frR T n D (advR T n t))).1).1).1).1 = .inl e → ∀ M', EdM T n z t M M' (.inl e) → Q none M' := fun e he M' hE => by
          refine hQ M' ?_
          cases hnm2 : (nameR (advR T n t)).1 with
          | inl e' =>
            have hfr : (frR T n D (advR T n t)) = .inl e' := by unfold frR; rw [hnm2]; rfl
            rw [hfr] at he
            cases he
            exact hE
          | inr t1 =>
            have hfr : (frR T n D (advR T n t)) = if (shF D t1.2.2.1).isSome = true then .inl (2, tS t1) else advR T n t1 := by unfold frR; rw [hnm2]; rfl
            rw [hfr] at he
            unfold bR
            dsimp only
            by_cases ch : (shF D t1.2.2.1).isSome = true
            · rw [if_pos ch] at he ⊢
              cases he
              exact hE
            · rw [if_neg ch] at he ⊢
              rw [he]
              exact hE
        cases hr : (aftR T n 8 0 40 (aftR T n 7 1 40 (aftR T n 6 1 4 (aftR T n 5 0 3 (frR T n D (advR T n t))).1).1).1).1 with
        | inl e =>
          rw [hr] at s11
          have h9 := hQf e hr A10 ⟨S10, s11⟩
          rw [br_p (hf.1 e hr)]
          exact h9
        | inr t' =>
          have hv8 := numR_v hr
          have hx10 := e10 t' hr
          obtain ⟨u3, hu3⟩ := aft_i hr
          have hv7 := numR_v hu3
          have hx8 := e8 u3 hu3
          obtain ⟨u2, hu2⟩ := aft_i hu3
          have hv6 := numR_v hu2
          have hx6 := e6 u2 hu2
          obtain ⟨u1, hu1⟩ := aft_i hu2
          have hv5 := numR_v hu1
          have hx4 := e4 u1 hu1
          obtain ⟨u0, hu0⟩ := aft_i hu1
          have haf0 : AfR T n t (nameR (advR T n t)).1 := AfR_m (AfR_1 hEn)
          cases hnm2 : (nameR (advR T n t)).1 with
          | inl e' =>
            have hfr : (frR T n D (advR T n t)) = .inl e' := by unfold frR; rw [hnm2]; rfl
            rw [hfr] at hu0; cases hu0
          | inr t1 =>
            have hfr : (frR T n D (advR T n t)) = if (shF D t1.2.2.1).isSome = true then .inl (2, tS t1) else advR T n t1 := by unfold frR; rw [hnm2]; rfl
            by_cases ch : (shF D t1.2.2.1).isSome = true
            · rw [if_pos ch] at hfr; rw [hfr] at hu0; cases hu0
            · rw [if_neg ch] at hfr
              have hxn := e2 t1 u0 hnm2 hu0
              rw [hnm2] at hQ haf0
              have hQ : ∀ M', EdM T n z t M M' (if (shF D t1.2.2.1).isSome = true then .inl (2, tS t1) else
                bR (aftR T n 8 0 40 (aftR T n 7 1 40 (aftR T n 6 1 4 (aftR T n 5 0 3 (advR T n t1)).1).1).1).1 (fun t' => .inr (t', (D.1, (dSh D ++ [(t1.2.2.1, (aftR T n 5 0 3 (advR T n t1)).2, (aftR T n 6 1 4 (aftR T n 5 0 3 (advR T n t1)).1).2, (aftR T n 7 1 40 (aftR T n 6 1 4 (aftR T n 5 0 3 (advR T n t1)).1).1).2, (aftR T n 8 0 40 (aftR T n 7 1 40 (aftR T n 6 1 4 (aftR T n 5 0 3 (advR T n t1)).1).1).1).2)], dYs D ++ [[]], dBk D, dSg D), D.2.2)))) → Q none M' := hQ
              rw [if_neg ch, ← hfr, hr] at hQ
              have hw : isWd t1.2.2.1 ∧ t1.2.2.1.length ≤ 6 ∧ 1 ≤ t1.2.2.1.length := by
                cases ha : advR T n t with
                | inl e' => rw [ha] at hr1; cases hr1
                | inr t1' =>
                  rw [ha] at hnm2 s1
                  have s1' : RdM M1 T n t1' := s1
                  have en : nameR (.inr t1') = if isNm t1' = true then (.inr t1', true) else (.inl (1, tS t1'), false) := rfl
                  rw [en] at hnm2
                  by_cases cn : isNm t1' = true
                  · rw [if_pos cn] at hnm2
                    cases hnm2
                    have ht1 : t1.1 = 1 := by have := cn; unfold isNm at this; rw [Bool.and_eq_true, beq_iff_eq] at this; exact this.1
                    exact s1'.2.2.2.2.2.2.2.2.2.2.2.2.2.1 ht1
                  · rw [if_neg cn] at hnm2; cases hnm2
              have haf : AfR T n t (.inr t') := by rw [← hr, hfr]; exact AfR_f _ _ _ (AfR_f _ _ _ (AfR_f _ _ _ (AfR_f _ _ _ (AfR_a haf0))))
              have hlt := AfR_lt (GdM_t hG) h0 haf
              have hok : shOK (t1.2.2.1, (aftR T n 5 0 3 (frR T n D (advR T n t))).2, (aftR T n 6 1 4 (aftR T n 5 0 3 (frR T n D (advR T n t))).1).2, (aftR T n 7 1 40 (aftR T n 6 1 4 (aftR T n 5 0 3 (frR T n D (advR T n t))).1).1).2, (aftR T n 8 0 40 (aftR T n 7 1 40 (aftR T n 6 1 4 (aftR T n 5 0 3 (frR T n D (advR T n t))).1).1).1).2) := ⟨hw.1, hw.2.2, hw.2.1, hv5.2, hv6.1, hv6.2, hv7.1, hv7.2, hv8.2⟩
              rw [br_n (fun w => w (hf.2 t' hr))]
              simp +decide (disch := omega) only [i10, n10', n10, ni_in_t, ni_tn, ni_add1, am_w1_i, am_w1_r, am_w1_x, am_w1_l, am_w1_w, va_rf_s, am_push_n, am_push_s, am_cs_0, am_cs_i, am_cs_l, am_cs_r, m_uI_K, m_uI_N, m_uI_R, m_uI_L, m_uI_I, m_uL_K, m_uL_N, m_uL_R, m_uL_I, m_uL_L, m_uR_K, m_uR_N, m_uR_I, m_uR_L, m_uR_R, true_and, and_true, true_implies, false_implies, not_true_eq_false, not_false_eq_true, if_true, if_false, false_and, and_false]
              have w12 : gF (fun a j => a = 285 ∧ j = z) nT A10 (uI A10 285 z (nI (N + 1))) := gF_i _ ⟨rfl, rfl⟩
              rw [hr] at s11
              have s12 := StM_g s11 w12 (fun a j q w => by omega)
              have hY := fun s => dY_app (sp := (t1.2.2.1, (aftR T n 5 0 3 (frR T n D (advR T n t))).2, (aftR T n 6 1 4 (aftR T n 5 0 3 (frR T n D (advR T n t))).1).2, (aftR T n 7 1 40 (aftR T n 6 1 4 (aftR T n 5 0 3 (frR T n D (advR T n t))).1).1).2, (aftR T n 8 0 40 (aftR T n 7 1 40 (aftR T n 6 1 4 (aftR T n 5 0 3 (frR T n D (advR T n t))).1).1).1).2)) hD s
              refine hQ _ ⟨gF_trans S10 (gF_up w12 (fun a j q => sS_1 (by omega)) (fun _ _ q => q)), ⟨c, LA10, s12, ?_, DOK_sh hD (by omega) hok, by show c ≤ tS t'; omega⟩, hlt⟩
              obtain ⟨⟨a1, a2⟩, b1, b2, b3, b4, b5, ⟨r1, r2, r3⟩, f⟩ := P10
              have l1 := hD.2.2.2.2.2.2.2.2.1.1
              have l2 := hD.2.2.2.2.2.2.2.2.2.1.1
              have l3 := hD.2.2.2.2.2.2.2.2.2.2.1
              refine ⟨⟨by rw [w12.1 _ _ (by omega)]; exact a1, by rw [w12.1 _ _ (by omega)]; exact a2⟩, by rw [w12.1 _ _ (by omega)]; exact b1, ⟨?_, fun i g hi => ?_⟩, ⟨?_, fun s hs => ?_⟩, BkM_gF b4 w12 (by omega) (fun a j q1 q2 q3 w => by omega), SgM_g b5 w12 (by omega) (fun a j q1 q2 q3 w => by omega), ⟨RlM_g r1 l1 w12 (by omega) (fun a j q1 q2 q3 w => by omega) (fun a j q1 q2 q3 w => by omega), RlM_g r2 l2 w12 (by omega) (fun a j q1 q2 q3 w => by omega) (fun a j q1 q2 q3 w => by omega), RlM_g r3 (Nat.le_trans l3 (by decide)) w12 (by omega) (fun a j q1 q2 q3 w => by omega) (fun a j q1 q2 q3 w => by omega)⟩, FmM_g f w12 (fun j q w => by omega)⟩
              · rw [m_uI_I, if_pos ⟨rfl, rfl⟩]
                show _ = nI (dSh D ++ [_]).length
                rw [List.length_append, hN]; rfl
              · rw [w12.1 _ _ (by omega), w12.1 _ _ (by omega), w12.1 _ _ (by omega), w12.1 _ _ (by omega), w12.2.1 _ _ (by omega)]
                rcases getA (L := dSh D) hi with ⟨q1, q2⟩ | ⟨q1, q2⟩
                · exact b2.2 i g q2
                · rw [q1, ← hN, q2, v2_10, v4_10, v6_10, v8_10, v10_10]
                  exact ⟨hxn, hx4, hx6, hx8, hx10⟩
              · rw [w12.1 _ _ (by omega), b3.1]
                congr 1
                exact (dTot_app hD).symm
              · show SyM _ z (dC D) (dR D) s _
                rw [hY]
                exact SyM_gF (b3.2 s hs) w12 (fun a t q _ w => by omega)
  rw [eX11_ship]
  have i0 := hP.2.2.2.2.2.2.2.2.2.1
  have n0 := hP.2.2.1.1
  rw [← hN] at n0
  simp +decide (disch := omega) only [qX11_ship_0, qX11_ship_1, qX11_ship_2, lm hL, i0, n0, hnm, ni_in_t, ni_tn, am_w1_i, am_w1_r, am_w1_x, am_w1_l, am_w1_w, va_rf_s, am_push_n, am_push_s, am_cs_0, am_cs_i, am_cs_l, am_cs_r, m_uI_K, m_uI_N, m_uI_R, m_uI_L, m_uI_I, m_uL_K, m_uL_N, m_uL_R, m_uL_I, m_uL_L, m_uR_K, m_uR_N, m_uR_I, m_uR_L, m_uR_R, true_and, and_true, true_implies, false_implies, not_true_eq_false, not_false_eq_true, if_true, if_false, false_and, and_false]
  by_cases cf : 8 ≤ N
  · rw [decide_eq_true cf] at main
    rw [br_r (by omega)]
    exact main
  · rw [decide_eq_false cf] at main
    rw [br_q (by omega)]
    exact main
end
end
section
/-! the model's statements: sayings -/
section
variable {T : Nat → Nat} {n z : Nat}
def sY0 (z J a j : Nat) : Prop := ((a = 292 ∨ a = 293) ∧ j = J) ∨ (a = 291 ∧ j = z)
theorem k_sayT (d c s h : Nat) (D : Dat) (r : Rt) (xh : Int32) (M : am_M) (Q : Option Value → am_M → Prop) (hL : Lay M) (hS : StM M T n r) (hP : PdM M z D c) (hD : DOK D) (hC : 1 ≤ dC D) (hRr : 1 ≤ dR D) (hs : s < 8) (hh : ∀ t', r = .inr t' → xh = nI h ∧ h < 48) (h96 : dTot D < 96)
    (hf : ∀ e M', (aftR T n 11 0 1 (plcR T n (dC D) (dR D) r).1).1 = .inl e → gF sRm nT M M' → FtM M' T n e.1 e.2 → Q none M')
    (hQ : ∀ t' M', (aftR T n 11 0 1 (plcR T n (dC D) (dR D) r).1).1 = .inr t' → gF (fun a j => sRm a j ∨ sY0 z (384 * z + 48 * s + h) a j) nT M M' → RdM M' T n t' → mI M' 291 z = nI (dTot D + 1) → mI M' 292 (384 * z + 48 * s + h) = nI (cel (dC D) (plcR T n (dC D) (dR D) r).2) → mI M' 293 (384 * z + 48 * s + h) = b01 ((aftR T n 11 0 1 (plcR T n (dC D) (dR D) r).1).2 == 1) → Q none M') : am_P am_P0 (d + 4) (am_look tX11_says) 103 [.ref 277, .int (nI s), am_x, am_x, am_x, am_x] [.int xh] M Q := by
  have hz := hP.2.2.2.2.2.2.2.2.2.2
  have hCR := hD.1
  have i0 := hP.2.2.2.2.2.2.2.2.2.1
  simp +decide (disch := omega) only [qX11_says_0, qX11_says_1, qX11_says_2, lm hL, i0, am_w1_i, am_w1_r, am_w1_x, am_w1_l, am_w1_w, va_rf_s, am_push_n, am_push_s, am_cs_0, am_cs_i, am_cs_l, am_cs_r, m_uI_K, m_uI_N, m_uI_R, m_uI_L, m_uI_I, m_uL_K, m_uL_N, m_uL_R, m_uL_I, m_uL_L, m_uR_K, m_uR_N, m_uR_I, m_uR_L, m_uR_R, true_and, and_true, true_implies, false_implies, not_true_eq_false, not_false_eq_true, if_true, if_false, false_and, and_false]
  refine m_here d z (dC D) (dR D) _ M _ hL hz i0 hP.1.1 hP.1.2 (by omega) (by omega) hS (fun M1 x1 g1 s1 e1 => ?_)
  have L1 := gF_LayN g1 hL
  simp +decide (disch := omega) only [qX11_says_0, qX11_says_1, qX11_says_2, lm L1, am_w1_i, am_w1_r, am_w1_x, am_w1_l, am_w1_w, va_rf_s, am_push_n, am_push_s, am_cs_0, am_cs_i, am_cs_l, am_cs_r, m_uI_K, m_uI_N, m_uI_R, m_uI_L, m_uI_I, m_uL_K, m_uL_N, m_uL_R, m_uL_I, m_uL_L, m_uR_K, m_uR_N, m_uR_I, m_uR_L, m_uR_R, true_and, and_true, true_implies, false_implies, not_true_eq_false, not_false_eq_true, if_true, if_false, false_and, and_false]
  refine m_word2 (d + 1) 11 465490437486 _ M1 _ L1 (by omega) (by decide) s1 (fun M2 g2 s2 => ?_)
  have L2 := gF_LayN g2 L1
  simp +decide (disch := omega) only [qX11_says_0, qX11_says_1, qX11_says_2, lm L2, am_w1_i, am_w1_r, am_w1_x, am_w1_l, am_w1_w, va_rf_s, am_push_n, am_push_s, am_cs_0, am_cs_i, am_cs_l, am_cs_r, m_uI_K, m_uI_N, m_uI_R, m_uI_L, m_uI_I, m_uL_K, m_uL_N, m_uL_R, m_uL_I, m_uL_L, m_uR_K, m_uR_N, m_uR_I, m_uR_L, m_uR_R, true_and, and_true, true_implies, false_implies, not_true_eq_false, not_false_eq_true, if_true, if_false, false_and, and_false]
  rw [show (0 : Int32) = nI 0 from rfl, show (1 : Int32) = nI 1 from rfl]
  refine m_num (d + 1) 0 1 _ M2 _ L2 (by omega) (by omega) s2 (fun M3 x3 g3 s3 e3 => ?_)
  have L3 := gF_LayN g3 L2
  have G3 := gF_trans g1 (gF_trans g2 g3)
  have P3 := PdM_R hP hD G3
  have i3 := P3.2.2.2.2.2.2.2.2.2.1
  have n3 := P3.2.2.2.1.1
  have s3' : StM M3 T n (aftR T n 11 0 1 (plcR T n (dC D) (dR D) r).1).1 := s3
  have e3' : ∀ t', (aftR T n 11 0 1 (plcR T n (dC D) (dR D) r).1).1 = .inr t' → x3 = nI (aftR T n 11 0 1 (plcR T n (dC D) (dR D) r).1).2 := e3
  cases hr : (aftR T n 11 0 1 (plcR T n (dC D) (dR D) r).1).1 with
  | inl e =>
    rw [hr] at s3'
    have h9 := hf e M3 hr G3 s3'
    simp +decide (disch := omega) only [qX11_says_0, qX11_says_1, qX11_says_2, lm L3, am_w1_i, am_w1_r, am_w1_x, am_w1_l, am_w1_w, va_rf_s, am_push_n, am_push_s, am_cs_0, am_cs_i, am_cs_l, am_cs_r, m_uI_K, m_uI_N, m_uI_R, m_uI_L, m_uI_I, m_uL_K, m_uL_N, m_uL_R, m_uL_I, m_uL_L, m_uR_K, m_uR_N, m_uR_I, m_uR_L, m_uR_R, true_and, and_true, true_implies, false_implies, not_true_eq_false, not_false_eq_true, if_true, if_false, false_and, and_false]
    rw [br_n (FtM_pos s3').2.2]
    exact h9
  | inr t' =>
    rw [hr] at s3'
    have s3'' : RdM M3 T n t' := s3'
    have hx3 := e3' t' hr
    have hv := numR_v hr
    obtain ⟨u1, hu1⟩ := aft_i hr
    have hx1 := e1 u1 hu1
    obtain ⟨u0, hu0⟩ := plR_i hu1
    obtain ⟨hxh, hh48⟩ := hh u0 hu0
    obtain ⟨J, hJ⟩ : ∃ J, J = 384 * z + 48 * s + h := ⟨_, rfl⟩
    have eJ : (384 : Int32) * nI z + 48 * nI s + xh = nI J := by
      rw [hxh, show (384 : Int32) = nI 384 from rfl, show (48 : Int32) = nI 48 from rfl, ni_mul, ni_mul, ni_add, ni_add, hJ]
    obtain ⟨lv, hlv⟩ : ∃ lv, lv = (aftR T n 11 0 1 (plcR T n (dC D) (dR D) r).1).2 := ⟨_, rfl⟩
    have hlv1 : lv ≤ 1 := by rw [hlv]; exact hv.2
    rw [← hlv] at hx3 hQ
    rw [← hJ] at hQ
    have fin : ∀ b : Bool, (lv == 1) = b → Q none (uI (uI (uI M3 292 J x1) 293 J (b01 b)) 291 z (nI (dTot D + 1))) := fun b hb => by
      have g4 : gF (sY0 z J) nT M3 (uI (uI (uI M3 292 J x1) 293 J (b01 b)) 291 z (nI (dTot D + 1))) := gF_trans (gF_i _ (Or.inl ⟨Or.inl rfl, rfl⟩)) (gF_trans (gF_i _ (Or.inl ⟨Or.inr rfl, rfl⟩)) (gF_i _ (Or.inr ⟨rfl, rfl⟩)))
      refine hQ t' _ hr (gF_trans (gF_up G3 (fun a j q => Or.inl q) (fun _ _ q => q)) (gF_up g4 (fun a j q => Or.inr q) (fun _ _ q => q))) (RdM_g s3'' g4 (fun a j q w => by unfold sY0 at w; omega)) ?_ ?_ ?_
      · rw [m_uI_I, if_pos ⟨rfl, rfl⟩]
      · rw [m_uI_I, if_neg (by omega), m_uI_I, if_neg (by omega), m_uI_I, if_pos ⟨rfl, rfl⟩, hx1]
      · rw [m_uI_I, if_neg (by omega), m_uI_I, if_pos ⟨rfl, rfl⟩, hb]
    by_cases cl : lv = 1
    · have h9 := fin true (by rw [cl]; rfl)
      have hx31 : x3 = 1 := by rw [hx3, cl]; rfl
      simp +decide (disch := omega) only [qX11_says_0, qX11_says_1, qX11_says_2, lm L3, i3, n3, eJ, s3''.2.1, hx31, b01, ni_in_t, ni_tn, ni_add1, show nI 1 = (1 : Int32) from rfl, am_w1_i, am_w1_r, am_w1_x, am_w1_l, am_w1_w, va_rf_s, am_push_n, am_push_s, am_cs_0, am_cs_i, am_cs_l, am_cs_r, m_uI_K, m_uI_N, m_uI_R, m_uI_L, m_uI_I, m_uL_K, m_uL_N, m_uL_R, m_uL_I, m_uL_L, m_uR_K, m_uR_N, m_uR_I, m_uR_L, m_uR_R, true_and, and_true, true_implies, false_implies, not_true_eq_false, not_false_eq_true, if_true, if_false, false_and, and_false] at h9 ⊢
      exact h9
    · have cl0 : lv = 0 := by omega
      have h9 := fin false (by rw [cl0]; rfl)
      have hx30 : x3 = 0 := by rw [hx3, cl0]; rfl
      simp +decide (disch := omega) only [qX11_says_0, qX11_says_1, qX11_says_2, lm L3, i3, n3, eJ, s3''.2.1, hx30, b01, ni_in_t, ni_tn, ni_add1, show nI 1 = (1 : Int32) from rfl, am_w1_i, am_w1_r, am_w1_x, am_w1_l, am_w1_w, va_rf_s, am_push_n, am_push_s, am_cs_0, am_cs_i, am_cs_l, am_cs_r, m_uI_K, m_uI_N, m_uI_R, m_uI_L, m_uI_I, m_uL_K, m_uL_N, m_uL_R, m_uL_I, m_uL_L, m_uR_K, m_uR_N, m_uR_I, m_uR_L, m_uR_R, true_and, and_true, true_implies, false_implies, not_true_eq_false, not_false_eq_true, if_true, if_false, false_and, and_false] at h9 ⊢
      exact h9
theorem k_say (d c : Nat) (D : Dat) (t : Tok) (M : am_M) (Q : Option Value → am_M → Prop) (hG : GdM T n z M D c t) (hC : 1 ≤ dC D) (hRr : 1 ≤ dR D) (h0 : ¬ t.1 = 0) (hQ : ∀ M', EdM T n z t M M' (spSay T n D t) → Q none M') : am_E am_P0 (d + 4) 201 [.ref 277] M Q := by
  obtain ⟨hL, hR, hP, hD, hc⟩ := id hG
  have hEn := (GdM_t hG).1
  have hz := hP.2.2.2.2.2.2.2.2.2.2
  have h96 := hD.2.2.2.2.2.1
  have h8 := hD.2.2.1.1
  obtain ⟨N, hN⟩ : ∃ N, N = dTot D := ⟨_, rfl⟩
  rw [← hN] at h96
  have hnm : nI N = 96 ↔ N = 96 := by rw [show (96 : Int32) = nI 96 from rfl, ni_eq (by omega) (by omega)]
  have main : am_E am_P0 (d + 3) 193 [.ref 277, .int (b01 (decide (96 ≤ N)))] M (fun r M2 => am_P am_P0 (d + 4) (am_look tX11_says) 23 [.ref 277, am_x, am_x, am_x, am_x, am_x] (am_push r []) M2 Q) := by
    refine m_counts (d + 1) (decide (96 ≤ N)) t M _ hL hR (fun M1 x1 g1 s1 f1 o1 => ?_)
    by_cases cf : 96 ≤ N
    · rw [if_pos (decide_eq_true cf)] at s1 f1
      have h9 := hQ M1 (by unfold spSay; rw [if_pos (by omega)]; exact ⟨sRm_S g1, s1⟩)
      simp +decide only [qX11_says_0, qX11_says_1, qX11_says_2, f1 _ rfl, am_w1_i, am_w1_r, am_w1_x, am_w1_l, am_w1_w, va_rf_s, am_push_n, am_push_s, am_cs_0, am_cs_i, am_cs_l, am_cs_r, m_uI_K, m_uI_N, m_uI_R, m_uI_L, m_uI_I, m_uL_K, m_uL_N, m_uL_R, m_uL_I, m_uL_L, m_uR_K, m_uR_N, m_uR_I, m_uR_L, m_uR_R, true_and, and_true, true_implies, false_implies, not_true_eq_false, not_false_eq_true, if_true, if_false, false_and, and_false]
      exact h9
    · rw [if_neg (by rw [decide_eq_false cf]; decide)] at s1 f1 o1
      unfold spSay at hQ
      rw [if_neg (by omega)] at hQ
      cases hr1 : advR T n t with
      | inl e =>
        rw [hr1] at s1 hQ
        have h9 := hQ M1 ⟨sRm_S g1, s1⟩
        simp +decide only [qX11_says_0, qX11_says_1, qX11_says_2, f1 e hr1, am_w1_i, am_w1_r, am_w1_x, am_w1_l, am_w1_w, va_rf_s, am_push_n, am_push_s, am_cs_0, am_cs_i, am_cs_l, am_cs_r, m_uI_K, m_uI_N, m_uI_R, m_uI_L, m_uI_I, m_uL_K, m_uL_N, m_uL_R, m_uL_I, m_uL_L, m_uR_K, m_uR_N, m_uR_I, m_uR_L, m_uR_R, true_and, and_true, true_implies, false_implies, not_true_eq_false, not_false_eq_true, if_true, if_false, false_and, and_false]
        exact h9
      | inr t1 =>
        have L1 := gF_LayN g1 hL
        have P1 := PdM_R hP hD g1
        have haf1 : AfR T n t (shpR T n D (advR T n t)).1 := AfR_h D (AfR_1 hEn)
        simp +decide (disch := omega) only [qX11_says_0, qX11_says_1, qX11_says_2, o1 t1 hr1, lm L1, am_w1_i, am_w1_r, am_w1_x, am_w1_l, am_w1_w, va_rf_s, am_push_n, am_push_s, am_cs_0, am_cs_i, am_cs_l, am_cs_r, m_uI_K, m_uI_N, m_uI_R, m_uI_L, m_uI_I, m_uL_K, m_uL_N, m_uL_R, m_uL_I, m_uL_L, m_uR_K, m_uR_N, m_uR_I, m_uR_L, m_uR_R, true_and, and_true, true_implies, false_implies, not_true_eq_false, not_false_eq_true, if_true, if_false, false_and, and_false]
        refine m_asked (d + 1) z D _ M1 _ L1 hz P1.2.2.2.2.2.2.2.2.2.1 P1.2.2.1 hD s1 (fun M2 s hs8 g2 s2 e2 => ?_)
        have L2 := gF_LayN g2 L1
        have G2 := gF_trans g1 g2
        have P2 := PdM_R hP hD G2
        -- behind the number of the hour, after a fault
        have bad : ∀ (e : Nat × Nat) (M3 : am_M), gF sRm nT M M3 → FtM M3 T n e.1 e.2 → (∀ M', EdM T n z t M M' (.inl e) → Q none M') → ∀ (x : Int32), am_P am_P0 (d + 4) (am_look tX11_says) 103 [.ref 277, .int (nI s), am_x, am_x, am_x, am_x] [.int x] M3 Q := by
          intro e M3 G3 h3 hQ3 x
          refine k_sayT d c s 0 D (.inl e) x M3 Q (gF_LayN G3 hL) h3 (PdM_R hP hD G3) hD hC hRr hs8 (fun t' q => by cases q) (by omega) (fun e' M' he' g' h' => ?_) (fun t' M' ht' => by cases ht')
          cases he'
          exact hQ3 M' ⟨sRm_S (gF_trans G3 g'), h'⟩
        cases hr2 : (shpR T n D (advR T n t)).1 with
        | inl e =>
          rw [hr2] at s2 hQ
          have s2' : FtM M2 T n e.1 e.2 := s2
          have hp := FtM_pos s2'
          have h9 := bad e M2 G2 s2' hQ 0
          have hnf := fun lo hi Q => m_numF (T := T) (n := n) (d + 3) e lo hi M2 Q L2 s2
          simp +decide (disch := omega) only [qX11_says_0, qX11_says_1, qX11_says_2, lm L2, hnf, am_w1_i, am_w1_r, am_w1_x, am_w1_l, am_w1_w, va_rf_s, am_push_n, am_push_s, am_cs_0, am_cs_i, am_cs_l, am_cs_r, m_uI_K, m_uI_N, m_uI_R, m_uI_L, m_uI_I, m_uL_K, m_uL_N, m_uL_R, m_uL_I, m_uL_L, m_uR_K, m_uR_N, m_uR_I, m_uR_L, m_uR_R, true_and, and_true, true_implies, false_implies, not_true_eq_false, not_false_eq_true, if_true, if_false, false_and, and_false] at h9 ⊢
          rw [br_p hp.2.1]
          exact h9
        | inr u =>
          have s2' := s2
          rw [hr2] at s2'
          have s2u : RdM M2 T n u := s2'
          have hse := e2 u hr2
          have hsl : s < (dSh D).length := by rw [hse]; exact shp_i hr2
          rw [hr2, ← hse] at hQ
          have h3 := RdM_3 s2u 2 (by omega)
          rw [show nI 2 = (2 : Int32) from rfl] at h3
          have en : isNR 0 47 (.inr u) = if ¬ u.1 = 2 then (.inl (1, tS u), false) else if u.2.1 < 0 ∨ 47 < u.2.1 then (.inl (4, tS u), false) else (.inr u, true) := rfl
          have em : numR T n 0 47 (.inr u) = if ¬ u.1 = 2 then (.inl (1, tS u), 0) else if u.2.1 < 0 ∨ 47 < u.2.1 then (.inl (4, tS u), 0) else (advR T n u, u.2.1) := rfl
          have hQ : ∀ M', EdM T n z t M M' (bR (isNR 0 47 (.inr u)).1 (fun t2 => if dB (∃ y, y ∈ dY D s ∧ y.1 = t2.2.1) = true then .inl (3, tS t2) else (bR (aftR T n 11 0 1 (plcR T n (dC D) (dR D) (advR T n t2)).1).1 (fun t' => .inr (t', addY D s (inY (dY D s) (t2.2.1, (plcR T n (dC D) (dR D) (advR T n t2)).2, (aftR T n 11 0 1 (plcR T n (dC D) (dR D) (advR T n t2)).1).2 == 1))))))) → Q none M' := hQ
          by_cases cn : u.1 = 2 ∧ u.2.1 ≤ 47
          · rw [if_neg (by omega), if_neg (by omega)] at en em
            rw [en] at hQ
            have hQ : ∀ M', EdM T n z t M M' (if dB (∃ y, y ∈ dY D s ∧ y.1 = u.2.1) = true then .inl (3, tS u) else (bR (aftR T n 11 0 1 (plcR T n (dC D) (dR D) (advR T n u)).1).1 (fun t' => .inr (t', addY D s (inY (dY D s) (u.2.1, (plcR T n (dC D) (dR D) (advR T n u)).2, (aftR T n 11 0 1 (plcR T n (dC D) (dR D) (advR T n u)).1).2 == 1)))))) → Q none M' := hQ
            obtain ⟨h, hh⟩ : ∃ h, h = u.2.1 := ⟨_, rfl⟩
            have h6 := s2u.2.2.2.2.2.2.1 (Or.inl cn.1)
            rw [← hh] at h6 hQ cn
            have his := fun Q => c_m_is (d + 3) (nI h) 0 47 M2 Q
            have hb1 : bI ((0 : Int32) ≤ nI h ∧ nI h ≤ 47) = 1 := bI_t (by rw [show (0 : Int32) = nI 0 from rfl, show (47 : Int32) = nI 47 from rfl, ni_le (by omega) (by omega), ni_le (by omega) (by omega)]; omega)
            have i2 := P2.2.2.2.2.2.2.2.2.2.1
            have eJ : (384 : Int32) * nI z + 48 * nI s + nI h = nI (384 * z + 48 * s + h) := by
              rw [show (384 : Int32) = nI 384 from rfl, show (48 : Int32) = nI 48 from rfl, ni_mul, ni_mul, ni_add, ni_add]
            have hSy := P2.2.2.2.1.2 s hs8
            have hsaid : mI M2 292 (384 * z + 48 * s + h) = -1 ↔ ¬ ∃ y, y ∈ dY D s ∧ y.1 = h := by
              rcases hSy.2.2 h (by omega) with ⟨y, q1, q2, q3, -⟩ | ⟨q1, q2⟩
              · constructor
                · intro w
                  rw [q3] at w
                  have hv := (hSy.2.1 y q1).2
                  have hcl : cel (dC D) y.2.1 < 2147483648 := by
                    unfold cel; unfold vld at hv
                    have := hD.1
                    have h1 : dC D * (y.2.1 / 16) ≤ 16 * 16 := Nat.mul_le_mul (by omega) (by omega)
                    omega
                  exact absurd w (nI_m1 hcl)
                · intro w; exact absurd ⟨y, q1, q2⟩ w
              · exact ⟨fun _ ⟨y, w1, w2⟩ => q1 y w1 w2, fun _ => q2⟩
            simp +decide (disch := omega) only [qX11_says_0, qX11_says_1, qX11_says_2, lm L2, s2u.2.1, h3.mpr cn.1, h6, his, hb1, i2, eJ, ni_in_t, ni_tn, am_w1_i, am_w1_r, am_w1_x, am_w1_l, am_w1_w, va_rf_s, am_push_n, am_push_s, am_cs_0, am_cs_i, am_cs_l, am_cs_r, m_uI_K, m_uI_N, m_uI_R, m_uI_L, m_uI_I, m_uL_K, m_uL_N, m_uL_R, m_uL_I, m_uL_L, m_uR_K, m_uR_N, m_uR_I, m_uR_L, m_uR_R, true_and, and_true, true_implies, false_implies, not_true_eq_false, not_false_eq_true, if_true, if_false, false_and, and_false]
            by_cases cs : ∃ y, y ∈ dY D s ∧ y.1 = h
            · rw [if_pos (dB_t.mpr cs)] at hQ
              rw [br_n (fun w => (hsaid.mp w) cs)]
              have hfm := FtM_0 (k := 3) s2u (by omega)
              have hbl := fun Q => m_blame (T := T) (n := n) (d + 3) 3 u M2 Q L2 s2u
              rw [show nI 3 = (3 : Int32) from rfl] at hbl hfm
              have Lf : Lay (uI (uI M2 277 8 3) 277 9 (nI (tS u))) := L2
              have hnf := fun lo hi Q => m_numF (T := T) (n := n) (d + 3) (3, tS u) lo hi (uI (uI M2 277 8 3) 277 9 (nI (tS u))) Q Lf hfm.1
              have h9 := bad (3, tS u) _ (gF_trans G2 hfm.2) hfm.1 hQ 0
              simp +decide (disch := omega) only [qX11_says_0, qX11_says_1, qX11_says_2, lm L2, lm Lf, s2u.2.2.2.2.1, hbl, hnf, am_w1_i, am_w1_r, am_w1_x, am_w1_l, am_w1_w, va_rf_s, am_push_n, am_push_s, am_cs_0, am_cs_i, am_cs_l, am_cs_r, m_uI_K, m_uI_N, m_uI_R, m_uI_L, m_uI_I, m_uL_K, m_uL_N, m_uL_R, m_uL_I, m_uL_L, m_uR_K, m_uR_N, m_uR_I, m_uR_L, m_uR_R, true_and, and_true, true_implies, false_implies, not_true_eq_false, not_false_eq_true, if_true, if_false, false_and, and_false] at h9 ⊢
              exact h9
            · rw [if_neg (fun q => cs (dB_t.mp q))] at hQ
              rw [br_p (hsaid.mpr cs)]
              rw [show (0 : Int32) = nI 0 from rfl, show (47 : Int32) = nI 47 from rfl]
              refine m_num (d + 1) 0 47 (.inr u) M2 _ L2 (by omega) (by omega) s2u (fun M3 x3 g3 s3 e3 => ?_)
              rw [em] at s3 e3
              have G3 := gF_trans G2 g3
              have P3 := PdM_R hP hD G3
              have L3 := gF_LayN G3 hL
              have h9 := k_sayT d c s h D (advR T n u) x3 M3 Q L3 s3 P3 hD hC hRr hs8 (fun t' q => ⟨by rw [e3 t' q, hh], by omega⟩) (by omega) (fun e M' he g' h' => ?_) (fun t' M' ht' g' hR' n' v1 v2 => ?_)
              · simp +decide (disch := omega) only [qX11_says_0, qX11_says_1, qX11_says_2, lm L3, am_w1_i, am_w1_r, am_w1_x, am_w1_l, am_w1_w, va_rf_s, am_push_n, am_push_s, am_cs_0, am_cs_i, am_cs_l, am_cs_r, m_uI_K, m_uI_N, m_uI_R, m_uI_L, m_uI_I, m_uL_K, m_uL_N, m_uL_R, m_uL_I, m_uL_L, m_uR_K, m_uR_N, m_uR_I, m_uR_L, m_uR_R, true_and, and_true, true_implies, false_implies, not_true_eq_false, not_false_eq_true, if_true, if_false, false_and, and_false] at h9 ⊢
                exact h9
              · rw [he] at hQ
                exact hQ M' ⟨sRm_S (gF_trans G3 g'), h'⟩
              · rw [hr2] at haf1
                have haf : AfR T n t (.inr t') := by rw [← ht']; exact AfR_f _ _ _ (AfR_p _ _ (AfR_a haf1))
                have hlt := AfR_lt (GdM_t hG) h0 haf
                have hv := numR_v ht'
                obtain ⟨u3, hu3⟩ := aft_i ht'
                have hpv := plR_v hD hC hRr hu3
                obtain ⟨pl, hple⟩ : ∃ pl, pl = (plcR T n (dC D) (dR D) (advR T n u)).2 := ⟨_, rfl⟩
                obtain ⟨lb, hlbe⟩ : ∃ lb : Bool, lb = ((aftR T n 11 0 1 (plcR T n (dC D) (dR D) (advR T n u)).1).2 == 1) := ⟨_, rfl⟩
                rw [ht', ← hple, ← hlbe] at hQ
                rw [← hple] at hpv v1
                rw [← hlbe] at v2
                have hno : ∀ y, y ∈ dY D s → ¬ y.1 = h := fun y hy q => cs ⟨y, hy, q⟩
                have hsr := hD.2.2.2.2.1 s
                have hall := hD.2.2.2.1 s
                have hin := inY_srt (y0 := (h, pl, lb)) hsr hno
                have hin2 : ∀ y, y ∈ inY (dY D s) (h, pl, lb) → y.1 < 48 ∧ vld (dC D) (dR D) y.2.1 := fun y hy => by
                  rcases inY_mem.mp hy with rfl | q
                  · exact ⟨by show h < 48; omega, hpv.1⟩
                  · exact hall y q
                have hyl : s < (dYs D).length := by have := hD.2.2.1.2.1; omega
                have hYs := dY_set (D := D) (s := s) (Y := inY (dY D s) (h, pl, lb)) hyl
                have htot1 : dTot (addY D s (inY (dY D s) (h, pl, lb))) = dTot D + 1 := by
                  have := sumF_one (f := fun i => (dY D i).length) (g := fun i => (dY (addY D s (inY (dY D s) (h, pl, lb))) i).length) (s := s) (by rw [hYs, if_pos rfl, inY_len]) (fun i hi => by rw [hYs, if_neg hi]) (dSh D).length
                  rw [if_pos hsl] at this
                  exact this
                have G : gF (sSm z) nT M3 M' := gF_up g' (fun a j q => by
                  rcases q with q | q
                  · exact sS_0 (by unfold sRm at q; omega)
                  · unfold sY0 at q
                    by_cases q1 : a = 291
                    · exact sS_1 (by omega)
                    · exact sS_5 (by omega)) (fun _ _ q => q)
                refine hQ M' ⟨gF_trans (sRm_S G3) G, ⟨c, gF_LayN g' L3, hR', ?_, DOK_y hD hsl hin hin2 (by omega), by show c ≤ tS t'; omega⟩, hlt⟩
                obtain ⟨⟨a1, a2⟩, b1, b2, b3, b4, b5, ⟨r1, r2, r3⟩, f⟩ := P3
                have l1 := hD.2.2.2.2.2.2.2.2.1.1
                have l2 := hD.2.2.2.2.2.2.2.2.2.1.1
                have l3 := hD.2.2.2.2.2.2.2.2.2.2.1
                refine ⟨⟨by rw [g'.1 _ _ (by unfold sRm sY0; omega)]; exact a1, by rw [g'.1 _ _ (by unfold sRm sY0; omega)]; exact a2⟩, by rw [g'.1 _ _ (by unfold sRm sY0; omega)]; exact b1, ShpM_g b2 g' (by unfold sRm sY0; omega) (fun a j q1 q2 q3 w => by unfold sRm sY0 at w; omega), ⟨by rw [n', htot1], fun s' hs' => ?_⟩, BkM_gF b4 g' (by unfold sRm sY0; omega) (fun a j q1 q2 q3 w => by unfold sRm sY0 at w; omega), SgM_g b5 g' (by unfold sRm sY0; omega) (fun a j q1 q2 q3 w => by unfold sRm sY0 at w; omega), ⟨RlM_g r1 l1 g' (by unfold sRm sY0; omega) (fun a j q1 q2 q3 w => by unfold sRm sY0 at w; omega) (fun a j q1 q2 q3 w => by unfold sRm sY0 at w; omega), RlM_g r2 l2 g' (by unfold sRm sY0; omega) (fun a j q1 q2 q3 w => by unfold sRm sY0 at w; omega) (fun a j q1 q2 q3 w => by unfold sRm sY0 at w; omega), RlM_g r3 (Nat.le_trans l3 (by decide)) g' (by unfold sRm sY0; omega) (fun a j q1 q2 q3 w => by unfold sRm sY0 at w; omega) (fun a j q1 q2 q3 w => by unfold sRm sY0 at w; omega)⟩, FmM_g f g' (fun j q w => by unfold sRm sY0 at w; omega)⟩
                show SyM M' z (dC D) (dR D) s' (dY (addY D s (inY (dY D s) (h, pl, lb))) s')
                rw [hYs]
                by_cases es : s' = s
                · subst es
                  rw [if_pos rfl]
                  refine ⟨hin, hin2, fun t2 ht2 => ?_⟩
                  by_cases et : t2 = h
                  · subst et
                    exact Or.inl ⟨(t2, pl, lb), inY_mem.mpr (Or.inl rfl), rfl, v1, v2⟩
                  · have k1 : mI M' 292 (384 * z + 48 * s' + t2) = mI M3 292 (384 * z + 48 * s' + t2) := g'.1 _ _ (by unfold sRm sY0; omega)
                    have k2 : mI M' 293 (384 * z + 48 * s' + t2) = mI M3 293 (384 * z + 48 * s' + t2) := g'.1 _ _ (by unfold sRm sY0; omega)
                    rw [k1, k2]
                    rcases (b3.2 s' hs').2.2 t2 ht2 with ⟨y, q1, q2⟩ | ⟨q1, q2⟩
                    · exact Or.inl ⟨y, inY_mem.mpr (Or.inr q1), q2⟩
                    · refine Or.inr ⟨fun y hy => ?_, q2⟩
                      rcases inY_mem.mp hy with rfl | q
                      · exact fun w => et w.symm
                      · exact q1 y q
                · rw [if_neg es]
                  exact SyM_gF (b3.2 s' hs') g' (fun a t2 q ht2 w => by unfold sRm sY0 at w; omega)
          · have en2 : ∃ k, 1 ≤ k ∧ k ≤ 5 ∧ isNR 0 47 (.inr u) = (.inl (k, tS u), false) ∧ numR T n 0 47 (.inr u) = (.inl (k, tS u), 0) := by
              by_cases c2 : u.1 = 2
              · exact ⟨4, by omega, by omega, by rw [en, if_neg (by omega), if_pos (by omega)], by rw [em, if_neg (by omega), if_pos (by omega)]⟩
              · exact ⟨1, by omega, by omega, by rw [en, if_pos c2], by rw [em, if_pos c2]⟩
            obtain ⟨k, hk1, hk5, hk, hk'⟩ := en2
            rw [hk] at hQ
            -- nothing is blamed before the number is read
            have num : am_E am_P0 (d + 3) 182 [.ref 277, .int 0, .int 47] M2 (fun r M3 => am_P am_P0 (d + 4) (am_look tX11_says) 103 [.ref 277, .int (nI s), am_x, am_x, am_x, am_x] (am_push r []) M3 Q) := by
              rw [show (0 : Int32) = nI 0 from rfl, show (47 : Int32) = nI 47 from rfl]
              refine m_num (d + 1) 0 47 (.inr u) M2 _ L2 (by omega) (by omega) s2u (fun M3 x3 g3 s3 e3 => ?_)
              rw [hk'] at s3
              exact bad (k, tS u) M3 (gF_trans G2 g3) s3 hQ x3
            by_cases c2 : u.1 = 2
            · have h6 := s2u.2.2.2.2.2.2.1 (Or.inl c2)
              have hv := s2u.2.2.2.2.2.2.2.2.2.2.2.2.2.2.1 c2
              have his := fun Q => c_m_is (d + 3) (nI u.2.1) 0 47 M2 Q
              have hb1 : bI ((0 : Int32) ≤ nI u.2.1 ∧ nI u.2.1 ≤ 47) = 0 := bI_f (by rw [show (0 : Int32) = nI 0 from rfl, show (47 : Int32) = nI 47 from rfl, ni_le (by omega) (by omega), ni_le (by omega) (by omega)]; omega)
              simp +decide (disch := omega) only [qX11_says_0, qX11_says_1, qX11_says_2, lm L2, s2u.2.1, h3.mpr c2, h6, his, hb1, am_w1_i, am_w1_r, am_w1_x, am_w1_l, am_w1_w, va_rf_s, am_push_n, am_push_s, am_cs_0, am_cs_i, am_cs_l, am_cs_r, m_uI_K, m_uI_N, m_uI_R, m_uI_L, m_uI_I, m_uL_K, m_uL_N, m_uL_R, m_uL_I, m_uL_L, m_uR_K, m_uR_N, m_uR_I, m_uR_L, m_uR_R, true_and, and_true, true_implies, false_implies, not_true_eq_false, not_false_eq_true, if_true, if_false, false_and, and_false] at num ⊢
              exact num
            · simp +decide (disch := omega) only [qX11_says_0, qX11_says_1, qX11_says_2, lm L2, s2u.2.1, am_w1_i, am_w1_r, am_w1_x, am_w1_l, am_w1_w, va_rf_s, am_push_n, am_push_s, am_cs_0, am_cs_i, am_cs_l, am_cs_r, m_uI_K, m_uI_N, m_uI_R, m_uI_L, m_uI_I, m_uL_K, m_uL_N, m_uL_R, m_uL_I, m_uL_L, m_uR_K, m_uR_N, m_uR_I, m_uR_L, m_uR_R, true_and, and_true, true_implies, false_implies, not_true_eq_false, not_false_eq_true, if_true, if_false, false_and, and_false] at num ⊢
              rw [br_q (fun w => c2 (h3.mp w))]
              exact num
  rw [eX11_says]
  have i0 := hP.2.2.2.2.2.2.2.2.2.1
  have n0 := hP.2.2.2.1.1
  rw [← hN] at n0
  simp +decide (disch := omega) only [qX11_says_0, qX11_says_1, qX11_says_2, lm hL, i0, n0, hnm, ni_in_t, ni_tn, am_w1_i, am_w1_r, am_w1_x, am_w1_l, am_w1_w, va_rf_s, am_push_n, am_push_s, am_cs_0, am_cs_i, am_cs_l, am_cs_r, m_uI_K, m_uI_N, m_uI_R, m_uI_L, m_uI_I, m_uL_K, m_uL_N, m_uL_R, m_uL_I, m_uL_L, m_uR_K, m_uR_N, m_uR_I, m_uR_L, m_uR_R, true_and, and_true, true_implies, false_implies, not_true_eq_false, not_false_eq_true, if_true, if_false, false_and, and_false]
  by_cases cf : 96 ≤ N
  · rw [decide_eq_true cf] at main
    rw [br_r (by omega)]
    exact main
  · rw [decide_eq_false cf] at main
    rw [br_q (by omega)]
    exact main
end
end
section
/-! the model's statements: rules -/
theorem m_first (d k : Nat) (M : am_M) (Q : Option Value → am_M → Prop) : am_E am_P0 d 179 [.int (nI k)] M Q ↔ Q (some (.int (nI (12 * k)))) M := by
  have e : (12 : Int32) * nI k = nI (12 * k) := by rw [show (12 : Int32) = nI 12 from rfl, ni_mul]
  rw [eX11_firstRule]
  simp +decide only [qX11_firstRule, e, am_w1_i, am_w1_r, am_w1_x, am_w1_l, am_w1_w, va_rf_s, am_push_n, am_push_s, am_cs_0, am_cs_i, am_cs_l, am_cs_r, m_uI_K, m_uI_N, m_uI_R, m_uI_L, m_uI_I, m_uL_K, m_uL_N, m_uL_R, m_uL_I, m_uL_L, m_uR_K, m_uR_N, m_uR_I, m_uR_L, m_uR_R, true_and, and_true, true_implies, false_implies, not_true_eq_false, not_false_eq_true, if_true, if_false, false_and, and_false]
theorem m_most (d k : Nat) (M : am_M) (Q : Option Value → am_M → Prop) (hk : k ≤ 2) : am_E am_P0 d 180 [.int (nI k)] M Q ↔ Q (some (.int (nI (if k = 2 then 6 else 12)))) M := by
  have e2 : nI k = 2 ↔ k = 2 := ni_eq (a := k) (b := 2) (by omega) (by omega)
  rw [eX11_mostRules]
  simp +decide only [qX11_mostRules, e2, am_w1_i, am_w1_r, am_w1_x, am_w1_l, am_w1_w, va_rf_s, am_push_n, am_push_s, am_cs_0, am_cs_i, am_cs_l, am_cs_r, m_uI_K, m_uI_N, m_uI_R, m_uI_L, m_uI_I, m_uL_K, m_uL_N, m_uL_R, m_uL_I, m_uL_L, m_uR_K, m_uR_N, m_uR_I, m_uR_L, m_uR_R, true_and, and_true, true_implies, false_implies, not_true_eq_false, not_false_eq_true, if_true, if_false, false_and, and_false]
  by_cases c : k = 2
  · rw [br_r c, if_pos c]; exact Iff.rfl
  · rw [br_q c, if_neg c]; exact Iff.rfl
def sRu (z c J kd a j : Nat) : Prop := sFm z c a j ∨ ((282 ≤ a ∧ a ≤ 284) ∧ j = J) ∨ (a = 281 ∧ j = 3 * z + kd)
section
variable {T : Nat → Nat} {n z : Nat}
theorem advR_V {t t' : Tok} (hE : tE t ≤ n) (h : advR T n t = .inr t') : tkV T n t' := by
  unfold advR at h
  split at h
  · cases h
  · cases h; exact (tk_V T n (tE t) hE).1
theorem wordR_V {t t' : Tok} {k : Nat} (hE : tE t ≤ n) (h : wordR T n k (.inr t) = .inr t') : tkV T n t' ∧ advR T n t = .inr t' ∧ isW t (ownW.getD k []) = true := by
  have e : wordR T n k (.inr t) = if isW t (ownW.getD k []) = true then advR T n t else .inl (1, tS t) := rfl
  rw [e] at h
  split at h
  · rename_i q; exact ⟨advR_V hE h, h, q⟩
  · cases h
theorem advR_lt {t t' : Tok} (hG : tkG T n t) (h0 : ¬ t.1 = 0) (h : advR T n t = .inr t') : tS t < tS t' := AfR_lt hG h0 (by rw [← h]; exact AfR_1 hG.1)
def RuM (T : Nat → Nat) (n z kd : Nat) (sm : Bool) (R : Rls) (c J : Nat) (t : Tok) (M M' : am_M) : Sum (Nat × Nat) (Tok × Den × Den) → Prop
  | .inl e => gF (sSm z) nT M M' ∧ FtM M' T n e.1 e.2
  | .inr p => gF (sRu z c J kd) nT M M' ∧ tS t < tS p.1 ∧ (sm = true → bdS p.2.1) ∧ bdT p.2.2 ∧ ∃ c', RdM M' T n p.1 ∧ FmM M' z c' ∧ c ≤ c' ∧ c' ≤ tS p.1 ∧ RlM M' z kd sm (R ++ [p.2]) c'
theorem sRu_S {c J kd : Nat} {M M' : am_M} (h : gF (sRu z c J kd) nT M M') (hJ : 30 * z ≤ J ∧ J < 30 * z + 30) (hk : kd ≤ 2) : gF (sSm z) nT M M' := gF_up h (fun a j q => by
  rcases q with q | q | q
  · rcases q with q | q | q
    · exact sS_0 q
    · exact sS_8 (by omega)
    · exact sS_9 q
  · exact sS_3 (by omega)
  · exact sS_2 (by omega)) (fun _ _ q => q)
theorem k_rule (d c kd N : Nat) (sm : Bool) (R : Rls) (t : Tok) (M : am_M) (Q : Option Value → am_M → Prop) (hL : Lay M) (hR : RdM M T n t) (hF : FmM M z c) (hct : c ≤ tS t) (hk : (kd ≤ 1 ∧ sm = true ∧ N = 12) ∨ (kd = 2 ∧ sm = false ∧ N = 6)) (hrl : RlM M z kd sm R c) (hRN : R.length ≤ N) (h0 : ¬ t.1 = 0)
    (hQ : ∀ M', RuM T n z kd sm R c (30 * z + 12 * kd + R.length) t M M' (spRl T n sm (decide (N ≤ R.length)) t) → Q none M') : am_E am_P0 (d + 5) 198 [.ref 277, .int (nI kd)] M Q := by
  have hz := hF.2.2.2
  have hG : tkG T n t := hR.2.2.2.2.2.2.2.2
  have hEn := hG.1
  obtain ⟨m, hm⟩ : ∃ m, m = R.length := ⟨_, rfl⟩
  obtain ⟨J, hJ⟩ : ∃ J, J = 30 * z + 12 * kd + m := ⟨_, rfl⟩
  rw [← hm, ← hJ] at hQ
  rw [← hm] at hRN
  have hk2 : kd ≤ 2 := by omega
  have hN : N = if kd = 2 then 6 else 12 := by
    rcases hk with ⟨q1, -, q3⟩ | ⟨q1, -, q3⟩
    · rw [if_neg (by omega)]; exact q3
    · rw [if_pos q1]; exact q3
  have eK : (3 : Int32) * nI z + nI kd = nI (3 * z + kd) := by rw [show (3 : Int32) = nI 3 from rfl, ni_mul, ni_add]
  have hmN : nI m = nI N ↔ m = N := ni_eq (by omega) (by omega)
  have n0 := hrl.1
  rw [← hm] at n0
  -- the end after a fault, from the test on
  have badE : ∀ e M3, m < N → gF (sSm z) nT M M3 → FtM M3 T n e.1 e.2 → (∀ M', RuM T n z kd sm R c J t M M' (.inl e) → Q none M') → am_P am_P0 (d + 5) (am_look tX11_rule) 109 [.ref 277, .int (nI kd), .int (nI J)] [] M3 Q := by
    intro e M3 hmn G3 h3 hQ3
    have L3 := gF_LayN G3 hL
    have hg : gF (fun a j => a = 284 ∧ j = J) nT M3 (uI M3 284 J (mI M3 277 40)) := gF_i _ ⟨rfl, rfl⟩
    have h9 := hQ3 (uI M3 284 J (mI M3 277 40)) ⟨gF_trans G3 (gF_up hg (fun a j q => sS_3 (by omega)) (fun _ _ q => q)), FtM_g h3 hg (fun a j q w => by omega)⟩
    have hp := (FtM_pos h3).2.1
    simp +decide (disch := omega) only [qX11_rule_0, qX11_rule_1, qX11_rule_2, lm L3, ni_in_t, ni_tn, am_w1_i, am_w1_r, am_w1_x, am_w1_l, am_w1_w, va_rf_s, am_push_n, am_push_s, am_cs_0, am_cs_i, am_cs_l, am_cs_r, m_uI_K, m_uI_N, m_uI_R, m_uI_L, m_uI_I, m_uL_K, m_uL_N, m_uL_R, m_uL_I, m_uL_L, m_uR_K, m_uR_N, m_uR_I, m_uR_L, m_uR_R, true_and, and_true, true_implies, false_implies, not_true_eq_false, not_false_eq_true, if_true, if_false, false_and, and_false]
    rw [br_p hp]
    exact h9
  have bad80 : ∀ e M3, m < N → gF (sSm z) nT M M3 → FtM M3 T n e.1 e.2 → (∀ M', RuM T n z kd sm R c J t M M' (.inl e) → Q none M') → am_P am_P0 (d + 5) (am_look tX11_rule) 87 [.ref 277, .int (nI kd), .int (nI J)] [] M3 Q := by
    intro e M3 hmn G3 h3 hQ3
    have L3 := gF_LayN G3 hL
    have hg : gF (fun a j => a = 283 ∧ j = J) nT M3 (uI M3 283 J (mI M3 277 40)) := gF_i _ ⟨rfl, rfl⟩
    have hp := (FtM_pos h3).2.1
    have h9 := badE e (uI M3 283 J (mI M3 277 40)) hmn (gF_trans G3 (gF_up hg (fun a j q => sS_3 (by omega)) (fun _ _ q => q))) (FtM_g h3 hg (fun a j q w => by omega)) hQ3
    simp +decide (disch := omega) only [qX11_rule_0, qX11_rule_1, qX11_rule_2, lm L3, ni_in_t, ni_tn, am_w1_i, am_w1_r, am_w1_x, am_w1_l, am_w1_w, va_rf_s, am_push_n, am_push_s, am_cs_0, am_cs_i, am_cs_l, am_cs_r, m_uI_K, m_uI_N, m_uI_R, m_uI_L, m_uI_I, m_uL_K, m_uL_N, m_uL_R, m_uL_I, m_uL_L, m_uR_K, m_uR_N, m_uR_I, m_uR_L, m_uR_R, true_and, and_true, true_implies, false_implies, not_true_eq_false, not_false_eq_true, if_true, if_false, false_and, and_false] at h9 ⊢
    rw [br_p hp]
    exact h9
  -- from the word behind the sum on
  have tail : ∀ (t2 : Tok) (v : Den) (c1 : Nat) (M2 : am_M), m < N → gF (sRu z c J kd) nT M M2 → RdM M2 T n t2 → FmM M2 z c1 → c ≤ c1 → c1 ≤ tS t2 → tS t < tS t2 → mI M2 282 J = nI c → RlM M2 z kd sm R c → (sm = true → CdM M2 z c c1 [v] ∧ bdS v) → (∀ M', RuM T n z kd sm R c J t M M' (ruK T n t2 v) → Q none M') → am_P am_P0 (d + 5) (am_look tX11_rule) 80 [.ref 277, .int (nI kd), .int (nI J)] [] M2 Q := by
    intro t2 v c1 M2 hmn G2 R2 F2 hcc hct2 htt v282 rl2 hsum hQ2
    have L2 := gF_LayN G2 hL
    have hG2 : tkG T n t2 := R2.2.2.2.2.2.2.2.2
    have hcl := F2.2.1
    simp +decide (disch := omega) only [qX11_rule_0, qX11_rule_1, qX11_rule_2, lm L2, am_w1_i, am_w1_r, am_w1_x, am_w1_l, am_w1_w, va_rf_s, am_push_n, am_push_s, am_cs_0, am_cs_i, am_cs_l, am_cs_r, m_uI_K, m_uI_N, m_uI_R, m_uI_L, m_uI_I, m_uL_K, m_uL_N, m_uL_R, m_uL_I, m_uL_L, m_uR_K, m_uR_N, m_uR_I, m_uR_L, m_uR_R, true_and, and_true, true_implies, false_implies, not_true_eq_false, not_false_eq_true, if_true, if_false, false_and, and_false]
    refine m_word2 (d + 2) 18 2003330414 (.inr t2) M2 _ L2 (by omega) (by decide) R2 (fun M3 g3 s3 => ?_)
    have G3 := gF_trans G2 (gF_up g3 (fun a j q => Or.inl (by unfold sRm at q; unfold sFm; omega)) (fun _ _ q => q) : gF (sRu z c J kd) nT M2 M3)
    have L3 := gF_LayN G3 hL
    have F3 := FmM_R F2 g3
    unfold ruK at hQ2
    suffices key : am_P am_P0 (d + 5) (am_look tX11_rule) 87 [.ref 277, .int (nI kd), .int (nI J)] [] M3 Q by
      simp +decide (disch := omega) only [qX11_rule_0, qX11_rule_1, qX11_rule_2, lm L3, ni_in_t, ni_tn, am_w1_i, am_w1_r, am_w1_x, am_w1_l, am_w1_w, va_rf_s, am_push_n, am_push_s, am_cs_0, am_cs_i, am_cs_l, am_cs_r, m_uI_K, m_uI_N, m_uI_R, m_uI_L, m_uI_I, m_uL_K, m_uL_N, m_uL_R, m_uL_I, m_uL_L, m_uR_K, m_uR_N, m_uR_I, m_uR_L, m_uR_R, true_and, and_true, true_implies, false_implies, not_true_eq_false, not_false_eq_true, if_true, if_false, false_and, and_false] at key ⊢
      exact key
    cases hw : wordR T n 18 (.inr t2) with
    | inl e =>
      rw [hw] at s3 hQ2
      exact bad80 e M3 hmn (sRu_S G3 (by omega) hk2) s3 hQ2
    | inr t3 =>
      rw [hw] at s3 hQ2
      have R3 : RdM M3 T n t3 := s3
      obtain ⟨hV3, ha3, hw3⟩ := wordR_V hG2.1 hw
      have hlt3 := advR_lt hG2 (isW_n0 hw3) ha3
      have hG3 : tkG T n t3 := R3.2.2.2.2.2.2.2.2
      have wA : gF (fun a j => a = 283 ∧ j = J) nT M3 (uI M3 283 J (nI c1)) := gF_i _ ⟨rfl, rfl⟩
      obtain ⟨A3, hA3⟩ : ∃ A3, A3 = uI M3 283 J (nI c1) := ⟨_, rfl⟩
      rw [← hA3] at wA
      have GA := gF_trans G3 (gF_up wA (fun a j q => Or.inr (Or.inl (by omega))) (fun _ _ q => q) : gF (sRu z c J kd) nT M3 A3)
      have LA := gF_LayN wA L3
      have RA : RdM A3 T n t3 := RdM_g R3 wA (fun a j q w => by omega)
      have FA : FmM A3 z c1 := FmM_g F3 wA (fun j q w => by omega)
      have v283 : mI A3 283 J = nI c1 := by rw [hA3, m_uI_I, if_pos ⟨rfl, rfl⟩]
      have v282A : mI A3 282 J = nI c := by rw [hA3, m_uI_I, if_neg (by omega), g3.1 _ _ (fun w => by unfold sRm at w; omega)]; exact v282
      have rlA : RlM A3 z kd sm R c := RlM_g (RlM_g rl2 (by omega) g3 (fun w => by unfold sRm at w; omega) (fun a j q1 q2 q3 w => by unfold sRm at w; omega) (fun a j q1 q2 q3 w => by unfold sRm at w; omega)) (by omega) wA (fun w => by omega) (fun a j q1 q2 q3 w => by omega) (fun a j q1 q2 q3 w => by omega)
      have sumA : sm = true → CdM A3 z c c1 [v] ∧ bdS v := fun hs => ⟨CdM_g (CdM_g (hsum hs).1 g3 (fun a j q _ _ w => by unfold sRm at w; omega)) wA (fun a j q _ _ w => by omega), (hsum hs).2⟩
      obtain ⟨res, hres⟩ := ps_some (T := T) (n := n) (g := 5) t3 (by omega) hG3.1 (fun _ => 0)
      have hQ3 : ∀ M', RuM T n z kd sm R c J t M M' (psX T n 5 t3 (fun t4 w => .inr (t4, v, w))) → Q none M' := hQ2
      unfold psX at hQ3
      rw [hres] at hQ3
      simp +decide (disch := omega) only [qX11_rule_0, qX11_rule_1, qX11_rule_2, lm L3, F3.1, ni_in_t, ni_tn, R3.2.1, ← hA3, am_w1_i, am_w1_r, am_w1_x, am_w1_l, am_w1_w, va_rf_s, am_push_n, am_push_s, am_cs_0, am_cs_i, am_cs_l, am_cs_r, m_uI_K, m_uI_N, m_uI_R, m_uI_L, m_uI_I, m_uL_K, m_uL_N, m_uL_R, m_uL_I, m_uL_L, m_uR_K, m_uR_N, m_uR_I, m_uR_L, m_uR_R, true_and, and_true, true_implies, false_implies, not_true_eq_false, not_false_eq_true, if_true, if_false, false_and, and_false]
      simp +decide (disch := omega) only [qX11_rule_0, qX11_rule_1, qX11_rule_2, lm LA, RA.2.1, am_w1_i, am_w1_r, am_w1_x, am_w1_l, am_w1_w, va_rf_s, am_push_n, am_push_s, am_cs_0, am_cs_i, am_cs_l, am_cs_r, m_uI_K, m_uI_N, m_uI_R, m_uI_L, m_uI_I, m_uL_K, m_uL_N, m_uL_R, m_uL_I, m_uL_L, m_uR_K, m_uR_N, m_uR_I, m_uR_L, m_uR_R, true_and, and_true, true_implies, false_implies, not_true_eq_false, not_false_eq_true, if_true, if_false, false_and, and_false]
      refine m_reads d z c1 true t3 res A3 _ LA RA hV3 FA (by omega) hres (fun M4 g4 h4 => ?_)
      have G4 := gF_trans GA (gF_up g4 (fun a j q => Or.inl (by unfold sFm at q ⊢; omega)) (fun _ _ q => q) : gF (sRu z c J kd) nT A3 M4)
      have L4 := gF_LayN g4 LA
      suffices key : am_P am_P0 (d + 5) (am_look tX11_rule) 109 [.ref 277, .int (nI kd), .int (nI J)] [] M4 Q by
        simp +decide (disch := omega) only [qX11_rule_0, qX11_rule_1, qX11_rule_2, lm L4, ni_in_t, ni_tn, am_w1_i, am_w1_r, am_w1_x, am_w1_l, am_w1_w, va_rf_s, am_push_n, am_push_s, am_cs_0, am_cs_i, am_cs_l, am_cs_r, m_uI_K, m_uI_N, m_uI_R, m_uI_L, m_uI_I, m_uL_K, m_uL_N, m_uL_R, m_uL_I, m_uL_L, m_uR_K, m_uR_N, m_uR_I, m_uR_L, m_uR_R, true_and, and_true, true_implies, false_implies, not_true_eq_false, not_false_eq_true, if_true, if_false, false_and, and_false] at key ⊢
        exact key
      cases res with
      | inl e => exact badE e M4 hmn (sRu_S G4 (by omega) hk2) h4 hQ3
      | inr p =>
        obtain ⟨R4, ⟨c2, F4, C4, hc2⟩, htk4⟩ := h4
        have hbt := ((ps_typ (T := T) (n := n) (fuelP n)).2.2.2.2.2.1 0 t3 (fun _ => 0) (tkG_OK hG3) p.1 p.2 hres).2
        have i4 := F4.2.2.1
        have rl4 : RlM M4 z kd sm R c := RlM_g rlA (by omega) g4 (fun w => by unfold sFm at w; omega) (fun a j q1 q2 q3 w => by unfold sFm at w; omega) (fun a j q1 q2 q3 w => by unfold sFm at w; omega)
        have n4 := rl4.1
        rw [← hm] at n4
        have sum4 : sm = true → CdM M4 z c c1 [v] ∧ bdS v := fun hs => ⟨CdM_g (sumA hs).1 g4 (fun a j q q2 q3 w => by unfold sFm at w; omega), (sumA hs).2⟩
        have w5 : gF (fun a j => (a = 284 ∧ j = J) ∨ (a = 281 ∧ j = 3 * z + kd)) nT M4 (uI (uI M4 284 J (nI c2)) 281 (3 * z + kd) (nI (m + 1))) := gF_trans (gF_i _ (Or.inl ⟨rfl, rfl⟩)) (gF_i _ (Or.inr ⟨rfl, rfl⟩))
        have htt4 : tS t < tS p.1 := by omega
        have h9 := hQ3 (uI (uI M4 284 J (nI c2)) 281 (3 * z + kd) (nI (m + 1))) ⟨gF_trans G4 (gF_up w5 (fun a j q => Or.inr (by omega)) (fun _ _ q => q)), htt4, fun hs => (sum4 hs).2, hbt, c2, RdM_g R4 w5 (fun a j q w => by omega), FmM_g F4 w5 (fun j q w => by omega), by have := C4.1; show c ≤ c2; omega, hc2, ?_⟩
        · simp +decide (disch := omega) only [qX11_rule_0, qX11_rule_1, qX11_rule_2, lm L4, F4.1, i4, eK, n4, R4.2.1, ni_in_t, ni_tn, ni_add1, am_w1_i, am_w1_r, am_w1_x, am_w1_l, am_w1_w, va_rf_s, am_push_n, am_push_s, am_cs_0, am_cs_i, am_cs_l, am_cs_r, m_uI_K, m_uI_N, m_uI_R, m_uI_L, m_uI_I, m_uL_K, m_uL_N, m_uL_R, m_uL_I, m_uL_L, m_uR_K, m_uR_N, m_uR_I, m_uR_L, m_uR_R, true_and, and_true, true_implies, false_implies, not_true_eq_false, not_false_eq_true, if_true, if_false, false_and, and_false]
          exact h9
        · refine ⟨?_, fun k r hr => ?_⟩
          · rw [m_uI_I, if_pos ⟨rfl, rfl⟩, List.length_append, hm]; rfl
          · have eI : ∀ j, insM (uI (uI M4 284 J (nI c2)) 281 (3 * z + kd) (nI (m + 1))) z j = insM M4 z j := fun j => by unfold insM; rw [w5.1 _ _ (by omega), w5.1 _ _ (by omega)]
            have eI' : insM (uI (uI M4 284 J (nI c2)) 281 (3 * z + kd) (nI (m + 1))) z = insM M4 z := funext eI
            rw [eI']
            rcases getA (L := R) hr with ⟨q1, q2⟩ | ⟨q1, q2⟩
            · obtain ⟨s0, s1, s2, b1, b2, b3, b4, b5, b6, b7⟩ := rl4.2 k r q2
              exact ⟨s0, s1, s2, b1, b2, by have := C4.1; omega, by rw [w5.1 _ _ (by omega)]; exact b4, by rw [w5.1 _ _ (by omega)]; exact b5, by rw [w5.1 _ _ (by omega)]; exact b6, b7⟩
            · rw [q1, ← hm, ← hJ, q2]
              refine ⟨c, c1, c2, hcc, C4.1, Nat.le_refl _, ?_, ?_, ?_, C4.2.1, C4.2.2, fun hs => ⟨(sum4 hs).1.2.1, (sum4 hs).1.2.2⟩⟩
              · rw [w5.1 _ _ (by omega), g4.1 _ _ (fun w => by unfold sFm at w; omega)]; exact v282A
              · rw [w5.1 _ _ (by omega), g4.1 _ _ (fun w => by unfold sFm at w; omega)]; exact v283
              · rw [m_uI_I, if_neg (by omega), m_uI_I, if_pos ⟨rfl, rfl⟩]
  -- the rule
  have main : am_E am_P0 (d + 4) 193 [.ref 277, .int (b01 (decide (N ≤ m)))] M (fun r M2 => am_P am_P0 (d + 5) (am_look tX11_rule) 29 [.ref 277, .int (nI kd), am_x] (am_push r []) M2 Q) := by
    refine m_counts (d + 2) (decide (N ≤ m)) t M _ hL hR (fun M1 x1 g1 s1 f1 o1 => ?_)
    unfold spRl at hQ
    by_cases cf : N ≤ m
    · rw [if_pos (decide_eq_true cf)] at s1 f1 hQ
      have h9 := hQ M1 ⟨sRm_S g1, s1⟩
      simp +decide only [qX11_rule_0, qX11_rule_1, qX11_rule_2, f1 _ rfl, am_w1_i, am_w1_r, am_w1_x, am_w1_l, am_w1_w, va_rf_s, am_push_n, am_push_s, am_cs_0, am_cs_i, am_cs_l, am_cs_r, m_uI_K, m_uI_N, m_uI_R, m_uI_L, m_uI_I, m_uL_K, m_uL_N, m_uL_R, m_uL_I, m_uL_L, m_uR_K, m_uR_N, m_uR_I, m_uR_L, m_uR_R, true_and, and_true, true_implies, false_implies, not_true_eq_false, not_false_eq_true, if_true, if_false, false_and, and_false]
      exact h9
    · rw [if_neg (by rw [decide_eq_false cf]; decide)] at s1 f1 o1 hQ
      cases hr1 : advR T n t with
      | inl e =>
        rw [hr1] at s1 hQ
        have h9 := hQ M1 ⟨sRm_S g1, s1⟩
        simp +decide only [qX11_rule_0, qX11_rule_1, qX11_rule_2, f1 e hr1, am_w1_i, am_w1_r, am_w1_x, am_w1_l, am_w1_w, va_rf_s, am_push_n, am_push_s, am_cs_0, am_cs_i, am_cs_l, am_cs_r, m_uI_K, m_uI_N, m_uI_R, m_uI_L, m_uI_I, m_uL_K, m_uL_N, m_uL_R, m_uL_I, m_uL_L, m_uR_K, m_uR_N, m_uR_I, m_uR_L, m_uR_R, true_and, and_true, true_implies, false_implies, not_true_eq_false, not_false_eq_true, if_true, if_false, false_and, and_false]
        exact h9
      | inr t1 =>
        rw [hr1] at s1 hQ
        have R1 : RdM M1 T n t1 := s1
        have hV1 := advR_V hEn hr1
        have hlt1 := advR_lt hG h0 hr1
        have hG1 : tkG T n t1 := R1.2.2.2.2.2.2.2.2
        have L1 := gF_LayN g1 hL
        have F1 := FmM_R hF g1
        have rl1 : RlM M1 z kd sm R c := RlM_g hrl (by omega) g1 (fun w => by unfold sRm at w; omega) (fun a j q1 q2 q3 w => by unfold sRm at w; omega) (fun a j q1 q2 q3 w => by unfold sRm at w; omega)
        have n1 := rl1.1
        rw [← hm] at n1
        have i1 := F1.2.2.1
        have eJ : (30 : Int32) * nI z + nI (12 * kd) + nI m = nI J := by rw [show (30 : Int32) = nI 30 from rfl, ni_mul, ni_add, ni_add, hJ]
        have hfr := fun Q => m_first (d + 4) kd M1 Q
        have wA : gF (fun a j => a = 282 ∧ j = J) nT M1 (uI M1 282 J (nI c)) := gF_i _ ⟨rfl, rfl⟩
        obtain ⟨A1, hA1⟩ : ∃ A1, A1 = uI M1 282 J (nI c) := ⟨_, rfl⟩
        rw [← hA1] at wA
        have GA : gF (sRu z c J kd) nT M A1 := gF_trans (gF_up g1 (fun a j q => Or.inl (by unfold sRm at q; unfold sFm; omega)) (fun _ _ q => q)) (gF_up wA (fun a j q => Or.inr (Or.inl (by omega))) (fun _ _ q => q))
        have LA := gF_LayN wA L1
        have RA : RdM A1 T n t1 := RdM_g R1 wA (fun a j q w => by omega)
        have FA : FmM A1 z c := FmM_g F1 wA (fun j q w => by omega)
        have v282 : mI A1 282 J = nI c := by rw [hA1, m_uI_I, if_pos ⟨rfl, rfl⟩]
        have rlA : RlM A1 z kd sm R c := RlM_g rl1 (by omega) wA (fun w => by omega) (fun a j q1 q2 q3 w => by omega) (fun a j q1 q2 q3 w => by omega)
        have e2 : nI kd = 2 ↔ kd = 2 := ni_eq (a := kd) (b := 2) (by omega) (by omega)
        simp +decide (disch := omega) only [qX11_rule_0, qX11_rule_1, qX11_rule_2, o1 t1 hr1, lm L1, i1, hfr, eK, n1, eJ, F1.1, e2, ni_in_t, ni_tn, ← hA1, am_w1_i, am_w1_r, am_w1_x, am_w1_l, am_w1_w, va_rf_s, am_push_n, am_push_s, am_cs_0, am_cs_i, am_cs_l, am_cs_r, m_uI_K, m_uI_N, m_uI_R, m_uI_L, m_uI_I, m_uL_K, m_uL_N, m_uL_R, m_uL_I, m_uL_L, m_uR_K, m_uR_N, m_uR_I, m_uR_L, m_uR_R, true_and, and_true, true_implies, false_implies, not_true_eq_false, not_false_eq_true, if_true, if_false, false_and, and_false]
        rcases hk with ⟨q1, rfl, q3⟩ | ⟨q1, rfl, q3⟩
        · rw [br_n (by omega)]
          obtain ⟨res, hres⟩ := ps_some (T := T) (n := n) (g := 0) t1 (by omega) hG1.1 (fun _ => 0)
          have hQ' : ∀ M', RuM T n z kd true R c J t M M' (psX T n 0 t1 (fun t2 v => ruK T n t2 v)) → Q none M' := hQ
          unfold psX at hQ'
          rw [hres] at hQ'
          simp +decide (disch := omega) only [qX11_rule_0, qX11_rule_1, qX11_rule_2, lm LA, am_w1_i, am_w1_r, am_w1_x, am_w1_l, am_w1_w, va_rf_s, am_push_n, am_push_s, am_cs_0, am_cs_i, am_cs_l, am_cs_r, m_uI_K, m_uI_N, m_uI_R, m_uI_L, m_uI_I, m_uL_K, m_uL_N, m_uL_R, m_uL_I, m_uL_L, m_uR_K, m_uR_N, m_uR_I, m_uR_L, m_uR_R, true_and, and_true, true_implies, false_implies, not_true_eq_false, not_false_eq_true, if_true, if_false, false_and, and_false]
          refine m_reads d z c false t1 res A1 _ LA RA hV1 FA (by omega) hres (fun M2 g2 h2 => ?_)
          have G2 := gF_trans GA (gF_up g2 (fun a j q => Or.inl q) (fun _ _ q => q) : gF (sRu z c J kd) nT A1 M2)
          have L2 := gF_LayN g2 LA
          suffices key : am_P am_P0 (d + 5) (am_look tX11_rule) 80 [.ref 277, .int (nI kd), .int (nI J)] [] M2 Q by
            simp +decide (disch := omega) only [qX11_rule_0, qX11_rule_1, qX11_rule_2, lm L2, am_w1_i, am_w1_r, am_w1_x, am_w1_l, am_w1_w, va_rf_s, am_push_n, am_push_s, am_cs_0, am_cs_i, am_cs_l, am_cs_r, m_uI_K, m_uI_N, m_uI_R, m_uI_L, m_uI_I, m_uL_K, m_uL_N, m_uL_R, m_uL_I, m_uL_L, m_uR_K, m_uR_N, m_uR_I, m_uR_L, m_uR_R, true_and, and_true, true_implies, false_implies, not_true_eq_false, not_false_eq_true, if_true, if_false, false_and, and_false] at key ⊢
            exact key
          cases res with
          | inl e =>
            have h2' : FtM M2 T n e.1 e.2 := h2
            simp +decide (disch := omega) only [qX11_rule_0, qX11_rule_1, qX11_rule_2, lm L2, am_w1_i, am_w1_r, am_w1_x, am_w1_l, am_w1_w, va_rf_s, am_push_n, am_push_s, am_cs_0, am_cs_i, am_cs_l, am_cs_r, m_uI_K, m_uI_N, m_uI_R, m_uI_L, m_uI_I, m_uL_K, m_uL_N, m_uL_R, m_uL_I, m_uL_L, m_uR_K, m_uR_N, m_uR_I, m_uR_L, m_uR_R, true_and, and_true, true_implies, false_implies, not_true_eq_false, not_false_eq_true, if_true, if_false, false_and, and_false]
            refine m_word2 (d + 2) 18 2003330414 (.inl e) M2 _ L2 (by omega) (by decide) h2 (fun M3 g3 s3 => ?_)
            have h9 := bad80 e M3 (by omega) (gF_trans (sRu_S G2 (by omega) hk2) (sRm_S g3)) s3 hQ'
            simp +decide (disch := omega) only [qX11_rule_0, qX11_rule_1, qX11_rule_2, lm (gF_LayN g3 L2), ni_in_t, ni_tn, am_w1_i, am_w1_r, am_w1_x, am_w1_l, am_w1_w, va_rf_s, am_push_n, am_push_s, am_cs_0, am_cs_i, am_cs_l, am_cs_r, m_uI_K, m_uI_N, m_uI_R, m_uI_L, m_uI_I, m_uL_K, m_uL_N, m_uL_R, m_uL_I, m_uL_L, m_uR_K, m_uR_N, m_uR_I, m_uR_L, m_uR_R, true_and, and_true, true_implies, false_implies, not_true_eq_false, not_false_eq_true, if_true, if_false, false_and, and_false] at h9 ⊢
            exact h9
          | inr p =>
            obtain ⟨R2, ⟨c1, F2, C2, hc1⟩, htk2⟩ := h2
            have hbs := ((ps_typ (T := T) (n := n) (fuelP n)).1 0 t1 (fun _ => 0) (tkG_OK hG1) p.1 p.2 hres).2
            have rl2 : RlM M2 z kd true R c := RlM_g rlA (by omega) g2 (fun w => by unfold sFm at w; omega) (fun a j q1 q2 q3 w => by unfold sFm at w; omega) (fun a j q1 q2 q3 w => by unfold sFm at w; omega)
            exact tail p.1 p.2 c1 M2 (by omega) G2 R2 F2 C2.1 hc1 (by omega) (by rw [g2.1 _ _ (fun w => by unfold sFm at w; omega)]; exact v282) rl2 (fun _ => ⟨C2, hbs⟩) hQ'
        · rw [br_p q1]
          have h9 := tail t1 (fun _ => 0) c A1 (by omega) GA RA FA (Nat.le_refl _) (by omega) hlt1 v282 rlA (fun q => by cases q) hQ
          simp +decide (disch := omega) only [qX11_rule_0, qX11_rule_1, qX11_rule_2, lm LA, am_w1_i, am_w1_r, am_w1_x, am_w1_l, am_w1_w, va_rf_s, am_push_n, am_push_s, am_cs_0, am_cs_i, am_cs_l, am_cs_r, m_uI_K, m_uI_N, m_uI_R, m_uI_L, m_uI_I, m_uL_K, m_uL_N, m_uL_R, m_uL_I, m_uL_L, m_uR_K, m_uR_N, m_uR_I, m_uR_L, m_uR_R, true_and, and_true, true_implies, false_implies, not_true_eq_false, not_false_eq_true, if_true, if_false, false_and, and_false] at h9 ⊢
          exact h9
  rw [eX11_rule]
  have hmo := fun Q => m_most (d + 4) kd M Q hk2
  rw [← hN] at hmo
  simp +decide (disch := omega) only [qX11_rule_0, qX11_rule_1, qX11_rule_2, lm hL, hF.2.2.1, eK, n0, hmo, hmN, ni_in_t, ni_tn, am_w1_i, am_w1_r, am_w1_x, am_w1_l, am_w1_w, va_rf_s, am_push_n, am_push_s, am_cs_0, am_cs_i, am_cs_l, am_cs_r, m_uI_K, m_uI_N, m_uI_R, m_uI_L, m_uI_I, m_uL_K, m_uL_N, m_uL_R, m_uL_I, m_uL_L, m_uR_K, m_uR_N, m_uR_I, m_uR_L, m_uR_R, true_and, and_true, true_implies, false_implies, not_true_eq_false, not_false_eq_true, if_true, if_false, false_and, and_false]
  by_cases cf : N ≤ m
  · rw [decide_eq_true cf] at main
    rw [br_r (by omega)]
    exact main
  · rw [decide_eq_false cf] at main
    rw [br_q (by omega)]
    exact main
end
end
section
/-! the model: a statement, the first one, all -/
section
variable {T : Nat → Nat} {n z : Nat}
theorem c_m_isWord (d : Nat) (w : Int64) (M : am_M) (Q : Option Value → am_M → Prop) (hL : Lay M) : am_E am_P0 d 176 [.ref 277, .long w] M Q ↔ Q (some (.int (bI (mI M 277 3 = 1 ∧ mL M 277 7 = w)))) M := by
  rw [eX11_isWord]
  simp +decide only [qX11_isWord, lm hL, lgc_0, am_w1_i, am_w1_r, am_w1_x, am_w1_l, am_w1_w, va_rf_s, am_push_n, am_push_s, am_cs_0, am_cs_i, am_cs_l, am_cs_r, m_uI_K, m_uI_N, m_uI_R, m_uI_L, m_uI_I, m_uL_K, m_uL_N, m_uL_R, m_uL_I, m_uL_L, m_uR_K, m_uR_N, m_uR_I, m_uR_L, m_uR_R, true_and, and_true, true_implies, false_implies, not_true_eq_false, not_false_eq_true, if_true, if_false, false_and, and_false]
  by_cases c : mI M 277 3 = 1
  · rw [br_r c]
    by_cases c2 : mL M 277 7 = w
    · rw [br_r c2, bI_t ⟨c, c2⟩]
    · rw [br_q c2, bI_f (fun q => c2 q.2)]
  · rw [br_q c, bI_f (fun q => c q.1)]
theorem sFm_R {c : Nat} {M M' : am_M} {D : Dat} {J kd c' m : Nat} (hg : gF (sRu z c J kd) nT M M') (hP : PdM M z D c) (hD : DOK D) (hF : FmM M' z c') (hc : c ≤ c') (hJ : J = 30 * z + 12 * kd + m) (hm : (kd = 0 ∧ m = (dRd D).length ∧ m < 12) ∨ (kd = 1 ∧ m = (dRc D).length ∧ m < 12) ∨ (kd = 2 ∧ m = (dRq D).length ∧ m < 6)) : (mI M' 279 z = nI (dC D) ∧ mI M' 280 z = nI (dR D)) ∧ mI M' 303 z = nI (dLk D) ∧ ShpM M' z (dSh D) ∧ SysM M' z D ∧ BkM M' z (dC D) (dBk D) ∧ SgM M' z (dC D) (dSg D) ∧ ((¬ kd = 0 → RlM M' z 0 true (dRd D) c') ∧ (¬ kd = 1 → RlM M' z 1 true (dRc D) c') ∧ (¬ kd = 2 → RlM M' z 2 false (dRq D) c')) := by
  obtain ⟨⟨a1, a2⟩, b1, b2, b3, b4, b5, ⟨r1, r2, r3⟩, f⟩ := hP
  have l1 := hD.2.2.2.2.2.2.2.2.1.1
  have l2 := hD.2.2.2.2.2.2.2.2.2.1.1
  have l3 := hD.2.2.2.2.2.2.2.2.2.2.1
  have hz := f.2.2.2
  have hcl := f.2.1
  exact ⟨⟨by rw [hg.1 _ _ (by unfold sRu sFm; omega)]; exact a1, by rw [hg.1 _ _ (by unfold sRu sFm; omega)]; exact a2⟩, by rw [hg.1 _ _ (by unfold sRu sFm; omega)]; exact b1, ShpM_g b2 hg (by unfold sRu sFm; omega) (fun a j q1 q2 q3 w => by unfold sRu sFm at w; omega), SysM_g b3 hg (by unfold sRu sFm; omega) (fun a j q w => by unfold sRu sFm at w; omega), BkM_gF b4 hg (by unfold sRu sFm; omega) (fun a j q1 q2 q3 w => by unfold sRu sFm at w; omega), SgM_g b5 hg (by unfold sRu sFm; omega) (fun a j q1 q2 q3 w => by unfold sRu sFm at w; omega), fun hn => RlM_le (RlM_g r1 l1 hg (by unfold sRu sFm; omega) (fun a j q1 q2 q3 w => by unfold sRu sFm at w; omega) (fun a j q1 q2 q3 w => by unfold sRu sFm at w; omega)) hc, fun hn => RlM_le (RlM_g r2 l2 hg (by unfold sRu sFm; omega) (fun a j q1 q2 q3 w => by unfold sRu sFm at w; omega) (fun a j q1 q2 q3 w => by unfold sRu sFm at w; omega)) hc, fun hn => RlM_le (RlM_g r3 (by omega) hg (by unfold sRu sFm; omega) (fun a j q1 q2 q3 w => by unfold sRu sFm at w; omega) (fun a j q1 q2 q3 w => by unfold sRu sFm at w; omega)) hc⟩
theorem k_stmt (d c : Nat) (D : Dat) (t : Tok) (M : am_M) (Q : Option Value → am_M → Prop) (hG : GdM T n z M D c t) (hC : 1 ≤ dC D) (hRr : 1 ≤ dR D) (h0 : ¬ t.1 = 0) (hQ : ∀ M', EdM T n z t M M' (spS1 T n D t) → Q none M') : am_E am_P0 (d + 6) 205 [.ref 277] M Q := by
  obtain ⟨hL, hR, hP, hD, hc⟩ := id hG
  -- from the statement's end on
  have fin : ∀ (r : Rq) M1, spSt T n D t = r → EdM T n z t M M1 r → am_P am_P0 (d + 6) (am_look tX11_statement) 148 [.ref 277] [] M1 Q := by
    intro r M1 hr hE
    cases r with
    | inl e =>
      obtain ⟨g1, h1⟩ := hE
      have L1 := gF_LayN g1 hL
      have h9 := hQ M1 (by unfold spS1; rw [hr]; exact ⟨g1, h1⟩)
      simp +decide only [qX11_statement_0, qX11_statement_1, lm L1, am_w1_i, am_w1_r, am_w1_x, am_w1_l, am_w1_w, va_rf_s, am_push_n, am_push_s, am_cs_0, am_cs_i, am_cs_l, am_cs_r, m_uI_K, m_uI_N, m_uI_R, m_uI_L, m_uI_I, m_uL_K, m_uL_N, m_uL_R, m_uL_I, m_uL_L, m_uR_K, m_uR_N, m_uR_I, m_uR_L, m_uR_R, true_and, and_true, true_implies, false_implies, not_true_eq_false, not_false_eq_true, if_true, if_false, false_and, and_false]
      rw [br_p (FtM_pos h1).2.1]
      exact h9
    | inr q =>
      obtain ⟨g1, ⟨c', L1, R1, P1, D1, hc1⟩, ht⟩ := hE
      have es : spS1 T n D t = bR (signR T n 59 (.inr q.1)) (fun t' => .inr (t', q.2)) := by unfold spS1; rw [hr]
      rw [es] at hQ
      simp +decide only [qX11_statement_0, qX11_statement_1, lm L1, R1.2.1, am_w1_i, am_w1_r, am_w1_x, am_w1_l, am_w1_w, va_rf_s, am_push_n, am_push_s, am_cs_0, am_cs_i, am_cs_l, am_cs_r, m_uI_K, m_uI_N, m_uI_R, m_uI_L, m_uI_I, m_uL_K, m_uL_N, m_uL_R, m_uL_I, m_uL_L, m_uR_K, m_uR_N, m_uR_I, m_uR_L, m_uR_R, true_and, and_true, true_implies, false_implies, not_true_eq_false, not_false_eq_true, if_true, if_false, false_and, and_false]
      rw [show (59 : Int32) = nI 59 from rfl]
      refine m_must (d + 3) 59 (.inr q.1) M1 _ L1 (by omega) R1 (fun M2 g2 s2 => ?_)
      have h9 := hQ M2
      simp +decide only [qX11_statement_0, qX11_statement_1, am_w1_i, am_w1_r, am_w1_x, am_w1_l, am_w1_w, va_rf_s, am_push_n, am_push_s, am_cs_0, am_cs_i, am_cs_l, am_cs_r, m_uI_K, m_uI_N, m_uI_R, m_uI_L, m_uI_I, m_uL_K, m_uL_N, m_uL_R, m_uL_I, m_uL_L, m_uR_K, m_uR_N, m_uR_I, m_uR_L, m_uR_R, true_and, and_true, true_implies, false_implies, not_true_eq_false, not_false_eq_true, if_true, if_false, false_and, and_false]
      refine h9 ?_
      cases hs : signR T n 59 (.inr q.1) with
      | inl e => rw [hs] at s2; exact ⟨gF_trans g1 (sRm_S g2), s2⟩
      | inr t' =>
        rw [hs] at s2
        have hG1 : tkG T n q.1 := R1.2.2.2.2.2.2.2.2
        have e2 : signR T n 59 (.inr q.1) = if isS q.1 59 = true then advR T n q.1 else .inl (1, tS q.1) := rfl
        rw [e2] at hs
        by_cases c9 : isS q.1 59 = true
        · rw [if_pos c9] at hs
          have hlt := advR_lt hG1 (isS_n0 c9) hs
          exact ⟨gF_trans g1 (sRm_S g2), ⟨c', gF_LayN g2 L1, s2, PdM_R P1 D1 g2, D1, by show c' ≤ tS t'; omega⟩, by show tS t < tS t'; omega⟩
        · rw [if_neg c9] at hs; cases hs
  have wd : ∀ k w, k < 27 → wdL (ownW.getD k []) = w → ∀ Q, am_E am_P0 (d + 5) 176 [.ref 277, .long w] M Q ↔ Q (some (.int (b01 (isW t (ownW.getD k []))))) M := fun k w hk hw Q => m_word1 (d + 5) k w _ t M Q hL hR hk rfl hw
  have w1 := wd 1 431198598248 (by omega) (by decide)
  have w2 := wd 2 1668248436 (by omega) (by decide)
  have w3 := wd 3 487301145972 (by omega) (by decide)
  have w4 := wd 4 1936222576 (by omega) (by decide)
  have w9 := wd 9 1935767923 (by omega) (by decide)
  have w12 := wd 12 1651470187 (by omega) (by decide)
  have w15 := wd 15 1936024942 (by omega) (by decide)
  have w17 := wd 17 1819632491 (by omega) (by decide)
  have l1 := hD.2.2.2.2.2.2.2.2.1.1
  have l2 := hD.2.2.2.2.2.2.2.2.2.1.1
  have l3 := hD.2.2.2.2.2.2.2.2.2.2.1
  have hz := hP.2.2.2.2.2.2.2.2.2.2
  rw [eX11_statement]
  by_cases c1 : isW t (ownW.getD 1 []) = true
  · have hsp : spSt T n D t = spDepth T n D t := by unfold spSt; rw [if_pos c1]
    simp +decide only [qX11_statement_0, qX11_statement_1, lm hL, w1, c1, b01, am_w1_i, am_w1_r, am_w1_x, am_w1_l, am_w1_w, va_rf_s, am_push_n, am_push_s, am_cs_0, am_cs_i, am_cs_l, am_cs_r, m_uI_K, m_uI_N, m_uI_R, m_uI_L, m_uI_I, m_uL_K, m_uL_N, m_uL_R, m_uL_I, m_uL_L, m_uR_K, m_uR_N, m_uR_I, m_uR_L, m_uR_R, true_and, and_true, true_implies, false_implies, not_true_eq_false, not_false_eq_true, if_true, if_false, false_and, and_false]
    refine k_rule d c 0 12 true (dRd D) t M _ hL hR hP.2.2.2.2.2.2.2 hc (Or.inl ⟨by omega, rfl, rfl⟩) hP.2.2.2.2.2.2.1.1 l1 h0 (fun M1 R1 => ?_)
    have h9 := fin _ M1 hsp (by
      unfold spDepth
      rw [spSum_r]
      cases hr : spRl T n true (decide (12 ≤ (dRd D).length)) t with
      | inl e => rw [hr] at R1; exact R1
      | inr p =>
        rw [hr] at R1
        obtain ⟨g1, ht, hb1, hb2, c', rd1, F1, hcc, hct, hrl⟩ := R1
        have hl : (dRd D).length < 12 := by
          unfold spRl at hr
          by_cases cf : 12 ≤ (dRd D).length
          · rw [if_pos (decide_eq_true cf)] at hr; cases hr
          · omega
        obtain ⟨k1, k2, k3, k4, k5, k6, k7, k8, k9⟩ := sFm_R g1 hP hD F1 hcc rfl (Or.inl ⟨rfl, rfl, hl⟩)
        refine ⟨sRu_S g1 (by omega) (by omega), ⟨c', gF_LayN g1 hL, rd1, ⟨k1, k2, k3, k4, k5, k6, ⟨hrl, k8 (by omega), k9 (by omega)⟩, F1⟩, ?_, hct⟩, ht⟩
        obtain ⟨d1, d2, d3, d4, d5, d6, d7, d8, d9, d10⟩ := hD
        exact ⟨d1, d2, d3, d4, d5, d6, d7, d8, rlOK_a d9 hl (hb1 rfl) hb2, d10⟩)
    simp +decide only [qX11_statement_0, qX11_statement_1, am_w1_i, am_w1_r, am_w1_x, am_w1_l, am_w1_w, va_rf_s, am_push_n, am_push_s, am_cs_0, am_cs_i, am_cs_l, am_cs_r, m_uI_K, m_uI_N, m_uI_R, m_uI_L, m_uI_I, m_uL_K, m_uL_N, m_uL_R, m_uL_I, m_uL_L, m_uR_K, m_uR_N, m_uR_I, m_uR_L, m_uR_R, true_and, and_true, true_implies, false_implies, not_true_eq_false, not_false_eq_true, if_true, if_false, false_and, and_false] at h9 ⊢
    exact h9
  have c1' : isW t (ownW.getD 1 []) = false := by simpa using c1
  by_cases c2 : isW t (ownW.getD 2 []) = true
  · have hsp : spSt T n D t = spCost T n D t := by unfold spSt; rw [if_neg c1, if_pos c2]
    simp +decide only [qX11_statement_0, qX11_statement_1, lm hL, w1, c1', w2, c2, b01, am_w1_i, am_w1_r, am_w1_x, am_w1_l, am_w1_w, va_rf_s, am_push_n, am_push_s, am_cs_0, am_cs_i, am_cs_l, am_cs_r, m_uI_K, m_uI_N, m_uI_R, m_uI_L, m_uI_I, m_uL_K, m_uL_N, m_uL_R, m_uL_I, m_uL_L, m_uR_K, m_uR_N, m_uR_I, m_uR_L, m_uR_R, true_and, and_true, true_implies, false_implies, not_true_eq_false, not_false_eq_true, if_true, if_false, false_and, and_false]
    refine k_rule d c 1 12 true (dRc D) t M _ hL hR hP.2.2.2.2.2.2.2 hc (Or.inl ⟨by omega, rfl, rfl⟩) hP.2.2.2.2.2.2.1.2.1 l2 h0 (fun M1 R1 => ?_)
    have h9 := fin _ M1 hsp (by
      unfold spCost
      rw [spSum_r]
      cases hr : spRl T n true (decide (12 ≤ (dRc D).length)) t with
      | inl e => rw [hr] at R1; exact R1
      | inr p =>
        rw [hr] at R1
        obtain ⟨g1, ht, hb1, hb2, c', rd1, F1, hcc, hct, hrl⟩ := R1
        have hl : (dRc D).length < 12 := by
          unfold spRl at hr
          by_cases cf : 12 ≤ (dRc D).length
          · rw [if_pos (decide_eq_true cf)] at hr; cases hr
          · omega
        obtain ⟨k1, k2, k3, k4, k5, k6, k7, k8, k9⟩ := sFm_R g1 hP hD F1 hcc rfl (Or.inr (Or.inl ⟨rfl, rfl, hl⟩))
        refine ⟨sRu_S g1 (by omega) (by omega), ⟨c', gF_LayN g1 hL, rd1, ⟨k1, k2, k3, k4, k5, k6, ⟨k7 (by omega), hrl, k9 (by omega)⟩, F1⟩, ?_, hct⟩, ht⟩
        obtain ⟨d1, d2, d3, d4, d5, d6, d7, d8, d9, d10, d11⟩ := hD
        exact ⟨d1, d2, d3, d4, d5, d6, d7, d8, d9, rlOK_a d10 hl (hb1 rfl) hb2, d11⟩)
    simp +decide only [qX11_statement_0, qX11_statement_1, am_w1_i, am_w1_r, am_w1_x, am_w1_l, am_w1_w, va_rf_s, am_push_n, am_push_s, am_cs_0, am_cs_i, am_cs_l, am_cs_r, m_uI_K, m_uI_N, m_uI_R, m_uI_L, m_uI_I, m_uL_K, m_uL_N, m_uL_R, m_uL_I, m_uL_L, m_uR_K, m_uR_N, m_uR_I, m_uR_L, m_uR_R, true_and, and_true, true_implies, false_implies, not_true_eq_false, not_false_eq_true, if_true, if_false, false_and, and_false] at h9 ⊢
    exact h9
  have c2' : isW t (ownW.getD 2 []) = false := by simpa using c2
  by_cases c3 : isW t (ownW.getD 3 []) = true
  · have hsp : spSt T n D t = spQuiet T n D t := by unfold spSt; rw [if_neg c1, if_neg c2, if_pos c3]
    simp +decide only [qX11_statement_0, qX11_statement_1, lm hL, w1, c1', w2, c2', w3, c3, b01, am_w1_i, am_w1_r, am_w1_x, am_w1_l, am_w1_w, va_rf_s, am_push_n, am_push_s, am_cs_0, am_cs_i, am_cs_l, am_cs_r, m_uI_K, m_uI_N, m_uI_R, m_uI_L, m_uI_I, m_uL_K, m_uL_N, m_uL_R, m_uL_I, m_uL_L, m_uR_K, m_uR_N, m_uR_I, m_uR_L, m_uR_R, true_and, and_true, true_implies, false_implies, not_true_eq_false, not_false_eq_true, if_true, if_false, false_and, and_false]
    refine k_rule d c 2 6 false (dRq D) t M _ hL hR hP.2.2.2.2.2.2.2 hc (Or.inr ⟨rfl, rfl, rfl⟩) hP.2.2.2.2.2.2.1.2.2 l3 h0 (fun M1 R1 => ?_)
    have h9 := fin _ M1 hsp (by
      unfold spQuiet
      rw [spTest_r]
      cases hr : spRl T n false (decide (6 ≤ (dRq D).length)) t with
      | inl e => rw [hr] at R1; exact R1
      | inr p =>
        rw [hr] at R1
        obtain ⟨g1, ht, hb1, hb2, c', rd1, F1, hcc, hct, hrl⟩ := R1
        have hl : (dRq D).length < 6 := by
          unfold spRl at hr
          by_cases cf : 6 ≤ (dRq D).length
          · rw [if_pos (decide_eq_true cf)] at hr; cases hr
          · omega
        obtain ⟨k1, k2, k3, k4, k5, k6, k7, k8, k9⟩ := sFm_R g1 hP hD F1 hcc rfl (Or.inr (Or.inr ⟨rfl, rfl, hl⟩))
        have hrl' : RlM M1 z 2 false (dRq D ++ [(fun _ => 0, p.2.2)]) c' := by
          refine ⟨by rw [hrl.1, List.length_append, List.length_append]; rfl, fun k r hr' => ?_⟩
          rcases getA hr' with ⟨q1, q2⟩ | ⟨q1, q2⟩
          · exact hrl.2 k r (by rw [List.getElem?_append_left q1]; exact q2)
          · obtain ⟨s0, s1, s2, b1, b2, b3, b4, b5, b6, b7, b8, b9⟩ := hrl.2 k p.2 (by rw [q1, List.getElem?_append_right (Nat.le_refl _), Nat.sub_self]; rfl)
            rw [q2]
            exact ⟨s0, s1, s2, b1, b2, b3, b4, b5, b6, b7, b8, fun q => by cases q⟩
        refine ⟨sRu_S g1 (by omega) (by omega), ⟨c', gF_LayN g1 hL, rd1, ⟨k1, k2, k3, k4, k5, k6, ⟨k7 (by omega), k8 (by omega), hrl'⟩, F1⟩, ?_, hct⟩, ht⟩
        obtain ⟨d1, d2, d3, d4, d5, d6, d7, d8, d9, d10, d11⟩ := hD
        exact ⟨d1, d2, d3, d4, d5, d6, d7, d8, d9, d10, rlOK_a d11 hl (fun e he => ⟨by show (-1000000 : Int) ≤ 0; omega, by show (0 : Int) ≤ 1000000; omega⟩) hb2⟩)
    simp +decide only [qX11_statement_0, qX11_statement_1, am_w1_i, am_w1_r, am_w1_x, am_w1_l, am_w1_w, va_rf_s, am_push_n, am_push_s, am_cs_0, am_cs_i, am_cs_l, am_cs_r, m_uI_K, m_uI_N, m_uI_R, m_uI_L, m_uI_I, m_uL_K, m_uL_N, m_uL_R, m_uL_I, m_uL_L, m_uR_K, m_uR_N, m_uR_I, m_uR_L, m_uR_R, true_and, and_true, true_implies, false_implies, not_true_eq_false, not_false_eq_true, if_true, if_false, false_and, and_false] at h9 ⊢
    exact h9
  have c3' : isW t (ownW.getD 3 []) = false := by simpa using c3
  by_cases c4 : isW t (ownW.getD 4 []) = true
  · have hsp : spSt T n D t = spShip T n D t := by unfold spSt; rw [if_neg c1, if_neg c2, if_neg c3, if_pos c4]
    simp +decide only [qX11_statement_0, qX11_statement_1, lm hL, w1, c1', w2, c2', w3, c3', w4, c4, b01, am_w1_i, am_w1_r, am_w1_x, am_w1_l, am_w1_w, va_rf_s, am_push_n, am_push_s, am_cs_0, am_cs_i, am_cs_l, am_cs_r, m_uI_K, m_uI_N, m_uI_R, m_uI_L, m_uI_I, m_uL_K, m_uL_N, m_uL_R, m_uL_I, m_uL_L, m_uR_K, m_uR_N, m_uR_I, m_uR_L, m_uR_R, true_and, and_true, true_implies, false_implies, not_true_eq_false, not_false_eq_true, if_true, if_false, false_and, and_false]
    refine k_ship (d + 1) c D t M _ hG hC hRr h0 (fun M1 E1 => ?_)
    have h9 := fin _ M1 hsp E1
    simp +decide only [qX11_statement_0, qX11_statement_1, am_w1_i, am_w1_r, am_w1_x, am_w1_l, am_w1_w, va_rf_s, am_push_n, am_push_s, am_cs_0, am_cs_i, am_cs_l, am_cs_r, m_uI_K, m_uI_N, m_uI_R, m_uI_L, m_uI_I, m_uL_K, m_uL_N, m_uL_R, m_uL_I, m_uL_L, m_uR_K, m_uR_N, m_uR_I, m_uR_L, m_uR_R, true_and, and_true, true_implies, false_implies, not_true_eq_false, not_false_eq_true, if_true, if_false, false_and, and_false] at h9 ⊢
    exact h9
  have c4' : isW t (ownW.getD 4 []) = false := by simpa using c4
  by_cases c5 : isW t (ownW.getD 9 []) = true
  · have hsp : spSt T n D t = spSay T n D t := by unfold spSt; rw [if_neg c1, if_neg c2, if_neg c3, if_neg c4, if_pos c5]
    simp +decide only [qX11_statement_0, qX11_statement_1, lm hL, w1, c1', w2, c2', w3, c3', w4, c4', w9, c5, b01, am_w1_i, am_w1_r, am_w1_x, am_w1_l, am_w1_w, va_rf_s, am_push_n, am_push_s, am_cs_0, am_cs_i, am_cs_l, am_cs_r, m_uI_K, m_uI_N, m_uI_R, m_uI_L, m_uI_I, m_uL_K, m_uL_N, m_uL_R, m_uL_I, m_uL_L, m_uR_K, m_uR_N, m_uR_I, m_uR_L, m_uR_R, true_and, and_true, true_implies, false_implies, not_true_eq_false, not_false_eq_true, if_true, if_false, false_and, and_false]
    refine k_say (d + 1) c D t M _ hG hC hRr h0 (fun M1 E1 => ?_)
    have h9 := fin _ M1 hsp E1
    simp +decide only [qX11_statement_0, qX11_statement_1, am_w1_i, am_w1_r, am_w1_x, am_w1_l, am_w1_w, va_rf_s, am_push_n, am_push_s, am_cs_0, am_cs_i, am_cs_l, am_cs_r, m_uI_K, m_uI_N, m_uI_R, m_uI_L, m_uI_I, m_uL_K, m_uL_N, m_uL_R, m_uL_I, m_uL_L, m_uR_K, m_uR_N, m_uR_I, m_uR_L, m_uR_R, true_and, and_true, true_implies, false_implies, not_true_eq_false, not_false_eq_true, if_true, if_false, false_and, and_false] at h9 ⊢
    exact h9
  have c5' : isW t (ownW.getD 9 []) = false := by simpa using c5
  by_cases c6 : isW t (ownW.getD 12 []) = true
  · have hsp : spSt T n D t = spBook T n D t := by unfold spSt; rw [if_neg c1, if_neg c2, if_neg c3, if_neg c4, if_neg c5, if_pos c6]
    simp +decide only [qX11_statement_0, qX11_statement_1, lm hL, w1, c1', w2, c2', w3, c3', w4, c4', w9, c5', w12, c6, b01, am_w1_i, am_w1_r, am_w1_x, am_w1_l, am_w1_w, va_rf_s, am_push_n, am_push_s, am_cs_0, am_cs_i, am_cs_l, am_cs_r, m_uI_K, m_uI_N, m_uI_R, m_uI_L, m_uI_I, m_uL_K, m_uL_N, m_uL_R, m_uL_I, m_uL_L, m_uR_K, m_uR_N, m_uR_I, m_uR_L, m_uR_R, true_and, and_true, true_implies, false_implies, not_true_eq_false, not_false_eq_true, if_true, if_false, false_and, and_false]
    refine k_book (d + 1) c D t M _ hG hC hRr h0 (fun M1 E1 => ?_)
    have h9 := fin _ M1 hsp E1
    simp +decide only [qX11_statement_0, qX11_statement_1, am_w1_i, am_w1_r, am_w1_x, am_w1_l, am_w1_w, va_rf_s, am_push_n, am_push_s, am_cs_0, am_cs_i, am_cs_l, am_cs_r, m_uI_K, m_uI_N, m_uI_R, m_uI_L, m_uI_I, m_uL_K, m_uL_N, m_uL_R, m_uL_I, m_uL_L, m_uR_K, m_uR_N, m_uR_I, m_uR_L, m_uR_R, true_and, and_true, true_implies, false_implies, not_true_eq_false, not_false_eq_true, if_true, if_false, false_and, and_false] at h9 ⊢
    exact h9
  have c6' : isW t (ownW.getD 12 []) = false := by simpa using c6
  by_cases c7 : isW t (ownW.getD 15 []) = true
  · have hsp : spSt T n D t = spSeen T n D t := by unfold spSt; rw [if_neg c1, if_neg c2, if_neg c3, if_neg c4, if_neg c5, if_neg c6, if_pos c7]
    simp +decide only [qX11_statement_0, qX11_statement_1, lm hL, w1, c1', w2, c2', w3, c3', w4, c4', w9, c5', w12, c6', w15, c7, b01, am_w1_i, am_w1_r, am_w1_x, am_w1_l, am_w1_w, va_rf_s, am_push_n, am_push_s, am_cs_0, am_cs_i, am_cs_l, am_cs_r, m_uI_K, m_uI_N, m_uI_R, m_uI_L, m_uI_I, m_uL_K, m_uL_N, m_uL_R, m_uL_I, m_uL_L, m_uR_K, m_uR_N, m_uR_I, m_uR_L, m_uR_R, true_and, and_true, true_implies, false_implies, not_true_eq_false, not_false_eq_true, if_true, if_false, false_and, and_false]
    refine k_seen (d + 1) c D t M _ hG hC hRr h0 (fun M1 E1 => ?_)
    have h9 := fin _ M1 hsp E1
    simp +decide only [qX11_statement_0, qX11_statement_1, am_w1_i, am_w1_r, am_w1_x, am_w1_l, am_w1_w, va_rf_s, am_push_n, am_push_s, am_cs_0, am_cs_i, am_cs_l, am_cs_r, m_uI_K, m_uI_N, m_uI_R, m_uI_L, m_uI_I, m_uL_K, m_uL_N, m_uL_R, m_uL_I, m_uL_L, m_uR_K, m_uR_N, m_uR_I, m_uR_L, m_uR_R, true_and, and_true, true_implies, false_implies, not_true_eq_false, not_false_eq_true, if_true, if_false, false_and, and_false] at h9 ⊢
    exact h9
  have c7' : isW t (ownW.getD 15 []) = false := by simpa using c7
  by_cases c8 : isW t (ownW.getD 17 []) = true
  · have hsp : spSt T n D t = spLuck T n D t := by unfold spSt; rw [if_neg c1, if_neg c2, if_neg c3, if_neg c4, if_neg c5, if_neg c6, if_neg c7, if_pos c8]
    simp +decide only [qX11_statement_0, qX11_statement_1, lm hL, w1, c1', w2, c2', w3, c3', w4, c4', w9, c5', w12, c6', w15, c7', w17, c8, b01, am_w1_i, am_w1_r, am_w1_x, am_w1_l, am_w1_w, va_rf_s, am_push_n, am_push_s, am_cs_0, am_cs_i, am_cs_l, am_cs_r, m_uI_K, m_uI_N, m_uI_R, m_uI_L, m_uI_I, m_uL_K, m_uL_N, m_uL_R, m_uL_I, m_uL_L, m_uR_K, m_uR_N, m_uR_I, m_uR_L, m_uR_R, true_and, and_true, true_implies, false_implies, not_true_eq_false, not_false_eq_true, if_true, if_false, false_and, and_false]
    refine k_luck (d + 2) c D t M _ hG h0 (fun M1 E1 => ?_)
    have h9 := fin _ M1 hsp E1
    simp +decide only [qX11_statement_0, qX11_statement_1, am_w1_i, am_w1_r, am_w1_x, am_w1_l, am_w1_w, va_rf_s, am_push_n, am_push_s, am_cs_0, am_cs_i, am_cs_l, am_cs_r, m_uI_K, m_uI_N, m_uI_R, m_uI_L, m_uI_I, m_uL_K, m_uL_N, m_uL_R, m_uL_I, m_uL_L, m_uR_K, m_uR_N, m_uR_I, m_uR_L, m_uR_R, true_and, and_true, true_implies, false_implies, not_true_eq_false, not_false_eq_true, if_true, if_false, false_and, and_false] at h9 ⊢
    exact h9
  have c8' : isW t (ownW.getD 17 []) = false := by simpa using c8
  have hsp : spSt T n D t = .inl (1, tS t) := by unfold spSt; rw [if_neg c1, if_neg c2, if_neg c3, if_neg c4, if_neg c5, if_neg c6, if_neg c7, if_neg c8]
  have hf := FtM_0 (k := 1) hR (by omega)
  have hbl := fun Q => m_blame (T := T) (n := n) (d + 5) 1 t M Q hL hR
  have h9 := fin _ _ hsp ⟨sRm_S hf.2, hf.1⟩
  rw [show nI 1 = (1 : Int32) from rfl] at hbl h9
  have Lf : Lay (uI (uI M 277 8 1) 277 9 (nI (tS t))) := hL
  simp +decide only [qX11_statement_0, qX11_statement_1, lm hL, lm Lf, w1, c1', w2, c2', w3, c3', w4, c4', w9, c5', w12, c6', w15, c7', w17, c8', b01, hR.2.2.2.2.1, hbl, am_w1_i, am_w1_r, am_w1_x, am_w1_l, am_w1_w, va_rf_s, am_push_n, am_push_s, am_cs_0, am_cs_i, am_cs_l, am_cs_r, m_uI_K, m_uI_N, m_uI_R, m_uI_L, m_uI_I, m_uL_K, m_uL_N, m_uL_R, m_uL_I, m_uL_L, m_uR_K, m_uR_N, m_uR_I, m_uR_L, m_uR_R, true_and, and_true, true_implies, false_implies, not_true_eq_false, not_false_eq_true, if_true, if_false, false_and, and_false] at h9 ⊢
  exact h9
end
end
section
/-! the model: the first statement, all statements -/
section
variable {T : Nat → Nat} {n z : Nat}
def rq1 (T : Nat → Nat) (n : Nat) (r : Rt) : Rq := bR r (fun t => if isW t (ownW.getD 0 []) = true then (match spSize T n dat0 t with
    | .inl e => .inl e
    | .inr q => bR (signR T n 59 (.inr q.1)) (fun t' => (.inr (t', q.2) : Rq))) else .inl (1, tS t))
theorem spTx_i : spTx T n = (match rq1 T n (advR T n (0, 0, [], 0, 0)) with
  | .inl e => some (.inl e)
  | .inr q => spR T n (n + 2) 1 q.2 q.1) := rfl
def EsM (T : Nat → Nat) (n z : Nat) (M M' : am_M) : Rq → Prop
  | .inl e => gF (sSm z) nT M M' ∧ FtM M' T n e.1 e.2
  | .inr q => gF (sSm z) nT M M' ∧ GdM T n z M' q.2 0 q.1 ∧ 1 ≤ dC q.2 ∧ 1 ≤ dR q.2
theorem Pd1_0 {M : am_M} {C R : Nat} (h : Pd1 M z dat0 0) : Pd1 M z ((C, R, dLk dat0), dat0.2) 0 := by
  obtain ⟨b1, b2, b3, b4, b5, r, f⟩ := h
  refine ⟨b1, b2, ⟨b3.1, fun s hs => ?_⟩, ⟨b4.1, fun i k hi => by cases hi⟩, ⟨b5.1, fun i g hi => by cases hi⟩, r, f⟩
  obtain ⟨c1, c2, c3⟩ := b3.2 s hs
  refine ⟨c1, fun y hy => ?_, fun t ht => ?_⟩
  · have e : dY ((C, R, dLk dat0), dat0.2) s = [] := rfl
    rw [e] at hy; cases hy
  · rcases c3 t ht with ⟨y, q1, -⟩ | q
    · have e : dY dat0 s = [] := rfl
      rw [e] at q1; cases q1
    · exact Or.inr q
theorem DOK_0 {C R : Nat} (hC : C ≤ 16) (hR : R ≤ 16) : DOK ((C, R, dLk dat0), dat0.2) := ⟨⟨hC, hR⟩, (show 10 ≤ 100 by decide), ⟨Nat.zero_le _, rfl, fun s hs => absurd hs List.not_mem_nil⟩, fun s y hy => absurd hy List.not_mem_nil, fun s => List.Pairwise.nil, Nat.zero_le _, ⟨⟨Nat.zero_le _, fun k hk => absurd hk List.not_mem_nil⟩, fun k hk => absurd hk List.not_mem_nil⟩, ⟨Nat.zero_le _, fun g hg => absurd hg List.not_mem_nil⟩, ⟨Nat.zero_le _, fun r hr => absurd hr List.not_mem_nil⟩, ⟨Nat.zero_le _, fun r hr => absurd hr List.not_mem_nil⟩, ⟨Nat.zero_le _, fun r hr => absurd hr List.not_mem_nil⟩⟩
theorem k_size (d : Nat) (r : Rt) (M : am_M) (Q : Option Value → am_M → Prop) (hL : Lay M) (hS : StM M T n r) (hP : Pd1 M z dat0 0) (hQ : ∀ M', EsM T n z M M' (rq1 T n r) → Q none M') : am_E am_P0 (d + 3) 197 [.ref 277] M Q := by
  have hz := hP.2.2.2.2.2.2.2.2.2
  have i0 := hP.2.2.2.2.2.2.2.2.1
  rw [eX11_sizes]
  cases r with
  | inl e =>
    have h9 := hQ M ⟨gF_refl _ _ _, hS⟩
    have hp := FtM_pos hS
    have hbl := fun x p Q => c_m_blame (d + 2) x p M Q hL
    have hw := fun Q => c_m_isWord (d + 2) 1936292453 M Q hL
    simp +decide only [qX11_sizes, lm hL, hw, hbl, hp.1, am_w1_i, am_w1_r, am_w1_x, am_w1_l, am_w1_w, va_rf_s, am_push_n, am_push_s, am_cs_0, am_cs_i, am_cs_l, am_cs_r, m_uI_K, m_uI_N, m_uI_R, m_uI_L, m_uI_I, m_uL_K, m_uL_N, m_uL_R, m_uL_I, m_uL_L, m_uR_K, m_uR_N, m_uR_I, m_uR_L, m_uR_R, true_and, and_true, true_implies, false_implies, not_true_eq_false, not_false_eq_true, if_true, if_false, false_and, and_false]
    rw [br_n hp.2.2]
    exact ⟨fun _ => h9, fun _ => h9⟩
  | inr t =>
    have hR : RdM M T n t := hS
    have hw := fun Q => m_word1 (T := T) (n := n) (d + 2) 0 1936292453 _ t M Q hL hR (by omega) rfl (by decide)
    have er : rq1 T n (.inr t) = if isW t (ownW.getD 0 []) = true then (match spSize T n dat0 t with
      | .inl e => .inl e
      | .inr q => bR (signR T n 59 (.inr q.1)) (fun t' => (.inr (t', q.2) : Rq))) else .inl (1, tS t) := rfl
    rw [er] at hQ
    by_cases c0 : isW t (ownW.getD 0 []) = true
    · rw [if_pos c0] at hQ
      simp +decide only [qX11_sizes, lm hL, hw, c0, hR.2.1, b01, am_w1_i, am_w1_r, am_w1_x, am_w1_l, am_w1_w, va_rf_s, am_push_n, am_push_s, am_cs_0, am_cs_i, am_cs_l, am_cs_r, m_uI_K, m_uI_N, m_uI_R, m_uI_L, m_uI_I, m_uL_K, m_uL_N, m_uL_R, m_uL_I, m_uL_L, m_uR_K, m_uR_N, m_uR_I, m_uR_L, m_uR_R, true_and, and_true, true_implies, false_implies, not_true_eq_false, not_false_eq_true, if_true, if_false, false_and, and_false]
      refine m_adv (d + 1) t M _ hL hR (fun M1 g1 s1 => ?_)
      have L1 := gF_LayN g1 hL
      have P1 := Pd1_g hP (DOK_0 (C := 0) (R := 0) (by omega) (by omega)) g1 (fun a j w => by unfold sRm at w; omega) (FmM_R hP.2.2.2.2.2.2 g1) (Nat.le_refl _)
      have i1 := P1.2.2.2.2.2.2.2.2.1
      simp +decide (disch := omega) only [qX11_sizes, lm L1, i1, am_w1_i, am_w1_r, am_w1_x, am_w1_l, am_w1_w, va_rf_s, am_push_n, am_push_s, am_cs_0, am_cs_i, am_cs_l, am_cs_r, m_uI_K, m_uI_N, m_uI_R, m_uI_L, m_uI_I, m_uL_K, m_uL_N, m_uL_R, m_uL_I, m_uL_L, m_uR_K, m_uR_N, m_uR_I, m_uR_L, m_uR_R, true_and, and_true, true_implies, false_implies, not_true_eq_false, not_false_eq_true, if_true, if_false, false_and, and_false]
      rw [show (2 : Int32) = nI 2 from rfl, show (16 : Int32) = nI 16 from rfl]
      refine m_num d 2 16 _ M1 _ L1 (by omega) (by omega) s1 (fun M2 x2 g2 s2 e2 => ?_)
      have L2 := gF_LayN g2 L1
      simp +decide (disch := omega) only [qX11_sizes, lm L2, ni_in_t, ni_tn, am_w1_i, am_w1_r, am_w1_x, am_w1_l, am_w1_w, va_rf_s, am_push_n, am_push_s, am_cs_0, am_cs_i, am_cs_l, am_cs_r, m_uI_K, m_uI_N, m_uI_R, m_uI_L, m_uI_I, m_uL_K, m_uL_N, m_uL_R, m_uL_I, m_uL_L, m_uR_K, m_uR_N, m_uR_I, m_uR_L, m_uR_R, true_and, and_true, true_implies, false_implies, not_true_eq_false, not_false_eq_true, if_true, if_false, false_and, and_false]
      obtain ⟨A2, hA2⟩ : ∃ A2, A2 = uI M2 279 z x2 := ⟨_, rfl⟩
      have w2 : gF (fun a j => a = 279 ∧ j = z) nT M2 A2 := by rw [hA2]; exact gF_i _ ⟨rfl, rfl⟩
      have v2 : mI A2 279 z = x2 := by rw [hA2, m_uI_I, if_pos ⟨rfl, rfl⟩]
      have LA := gF_LayN w2 L2
      have sA : StM A2 T n _ := StM_g s2 w2 (fun a j q w => by omega)
      have GA : gF (fun a j => sRm a j ∨ ((a = 279 ∨ a = 280) ∧ j = z)) nT M1 A2 := gF_trans (gF_up g2 (fun a j q => Or.inl q) (fun _ _ q => q)) (gF_up w2 (fun a j q => Or.inr (by omega)) (fun _ _ q => q))
      have iA : mI A2 277 41 = nI z := by rw [GA.1 _ _ (by unfold sRm; omega)]; exact i1
      have iM2 : mI M2 277 41 = nI z := by rw [g2.1 _ _ (fun w => by unfold sRm at w; omega)]; exact i1
      rw [← hA2]
      simp +decide (disch := omega) only [qX11_sizes, lm LA, iM2, iA, am_w1_i, am_w1_r, am_w1_x, am_w1_l, am_w1_w, va_rf_s, am_push_n, am_push_s, am_cs_0, am_cs_i, am_cs_l, am_cs_r, m_uI_K, m_uI_N, m_uI_R, m_uI_L, m_uI_I, m_uL_K, m_uL_N, m_uL_R, m_uL_I, m_uL_L, m_uR_K, m_uR_N, m_uR_I, m_uR_L, m_uR_R, true_and, and_true, true_implies, false_implies, not_true_eq_false, not_false_eq_true, if_true, if_false, false_and, and_false]
      rw [show (2 : Int32) = nI 2 from rfl, show (16 : Int32) = nI 16 from rfl]
      refine m_num d 2 16 _ A2 _ LA (by omega) (by omega) sA (fun M3 x3 g3 s3 e3 => ?_)
      have L3 := gF_LayN g3 LA
      simp +decide (disch := omega) only [qX11_sizes, lm L3, ni_in_t, ni_tn, am_w1_i, am_w1_r, am_w1_x, am_w1_l, am_w1_w, va_rf_s, am_push_n, am_push_s, am_cs_0, am_cs_i, am_cs_l, am_cs_r, m_uI_K, m_uI_N, m_uI_R, m_uI_L, m_uI_I, m_uL_K, m_uL_N, m_uL_R, m_uL_I, m_uL_L, m_uR_K, m_uR_N, m_uR_I, m_uR_L, m_uR_R, true_and, and_true, true_implies, false_implies, not_true_eq_false, not_false_eq_true, if_true, if_false, false_and, and_false]
      obtain ⟨A3, hA3⟩ : ∃ A3, A3 = uI M3 280 z x3 := ⟨_, rfl⟩
      have w3 : gF (fun a j => a = 280 ∧ j = z) nT M3 A3 := by rw [hA3]; exact gF_i _ ⟨rfl, rfl⟩
      have v3 : mI A3 280 z = x3 := by rw [hA3, m_uI_I, if_pos ⟨rfl, rfl⟩]
      have v2' : mI A3 279 z = x2 := by rw [w3.1 _ _ (by omega), g3.1 _ _ (fun w => by unfold sRm at w; omega)]; exact v2
      have LB := gF_LayN w3 L3
      have sB : StM A3 T n _ := StM_g s3 w3 (fun a j q w => by omega)
      have GB : gF (fun a j => sRm a j ∨ ((a = 279 ∨ a = 280) ∧ j = z)) nT M1 A3 := gF_trans GA (gF_trans (gF_up g3 (fun a j q => Or.inl q) (fun _ _ q => q)) (gF_up w3 (fun a j q => Or.inr (by omega)) (fun _ _ q => q)))
      have G : gF (sSm z) nT M A3 := gF_trans (sRm_S g1) (gF_up GB (fun a j q => by
        rcases q with q | q
        · exact sS_0 (by unfold sRm at q; omega)
        · exact sS_1 (by omega)) (fun _ _ q => q))
      have PB := Pd1_g P1 (DOK_0 (C := 0) (R := 0) (by omega) (by omega)) GB (fun a j w => by unfold sRm at w; omega) (FmM_g P1.2.2.2.2.2.2 GB (fun j q w => by unfold sRm at w; omega)) (Nat.le_refl _)
      have e8 : mI M3 277 8 = mI A3 277 8 := by rw [hA3, m_uI_I, if_neg (by omega)]
      rw [← hA3, e8]
      have hf := StM_0 sB
      have esz : spSize T n dat0 t = bR (numR T n 2 16 (numR T n 2 16 (advR T n t)).1).1 (fun t' => .inr (t', (((numR T n 2 16 (advR T n t)).2, (numR T n 2 16 (numR T n 2 16 (advR T n t)).1).2, dLk dat0), dat0.2))) := rfl
      cases hr : (numR T n 2 16 (numR T n 2 16 (advR T n t)).1).1 with
      | inl e =>
        rw [hr] at sB esz
        rw [esz] at hQ
        have h9 := hQ A3 ⟨G, sB⟩
        rw [br_p (hf.1 e hr)]
        exact h9
      | inr t' =>
        have hv3 := numR_v hr
        have hx3 := e3 t' hr
        obtain ⟨t1, ht1⟩ := numR_i hr
        have hv2 := numR_v ht1
        have hx2 := e2 t1 ht1
        have hf8 := hf.2 t' hr
        rw [hr] at sB esz
        rw [esz] at hQ
        have sB' : RdM A3 T n t' := sB
        obtain ⟨D1, hD1⟩ : ∃ D1 : Dat, D1 = (((numR T n 2 16 (advR T n t)).2, (numR T n 2 16 (numR T n 2 16 (advR T n t)).1).2, dLk dat0), dat0.2) := ⟨_, rfl⟩
        rw [← hD1] at hQ
        have hOK : DOK D1 := by rw [hD1]; exact DOK_0 hv2.2 hv3.2
        have hPd : PdM A3 z D1 0 := by
          rw [hD1]
          exact ⟨⟨by rw [v2', hx2]; rfl, by rw [v3, hx3]; rfl⟩, Pd1_0 PB⟩
        have hQ : ∀ M', EsM T n z M M' (bR (signR T n 59 (.inr t')) (fun t'' => .inr (t'', D1))) → Q none M' := hQ
        rw [br_n (fun w => w hf8)]
        rw [show (59 : Int32) = nI 59 from rfl]
        refine m_must d 59 (.inr t') A3 _ LB (by omega) sB' (fun M4 g4 s4 => ?_)
        have h9 := hQ M4
        simp +decide only [qX11_sizes, am_w1_i, am_w1_r, am_w1_x, am_w1_l, am_w1_w, va_rf_s, am_push_n, am_push_s, am_cs_0, am_cs_i, am_cs_l, am_cs_r, m_uI_K, m_uI_N, m_uI_R, m_uI_L, m_uI_I, m_uL_K, m_uL_N, m_uL_R, m_uL_I, m_uL_L, m_uR_K, m_uR_N, m_uR_I, m_uR_L, m_uR_R, true_and, and_true, true_implies, false_implies, not_true_eq_false, not_false_eq_true, if_true, if_false, false_and, and_false]
        refine h9 ?_
        cases hs : signR T n 59 (.inr t') with
        | inl e => rw [hs] at s4; exact ⟨gF_trans G (sRm_S g4), s4⟩
        | inr t'' =>
          rw [hs] at s4
          exact ⟨gF_trans G (sRm_S g4), ⟨gF_LayN g4 LB, s4, PdM_R hPd hOK g4, hOK, Nat.zero_le _⟩, by show 1 ≤ dC D1; rw [hD1]; show 1 ≤ (numR T n 2 16 (advR T n t)).2; omega, by show 1 ≤ dR D1; rw [hD1]; show 1 ≤ (numR T n 2 16 (numR T n 2 16 (advR T n t)).1).2; omega⟩
    · have c0' : isW t (ownW.getD 0 []) = false := by simpa using c0
      rw [if_neg c0] at hQ
      have hf := FtM_0 (k := 1) hR (by omega)
      have hp := FtM_pos hf.1
      have hbl := fun Q => m_blame (T := T) (n := n) (d + 2) 1 t M Q hL hR
      have h9 := hQ _ ⟨sRm_S hf.2, hf.1⟩
      rw [show nI 1 = (1 : Int32) from rfl] at hbl h9 hp
      have Lf : Lay (uI (uI M 277 8 1) 277 9 (nI (tS t))) := hL
      simp +decide only [qX11_sizes, lm hL, lm Lf, hw, c0', b01, hR.2.2.2.2.1, hbl, am_w1_i, am_w1_r, am_w1_x, am_w1_l, am_w1_w, va_rf_s, am_push_n, am_push_s, am_cs_0, am_cs_i, am_cs_l, am_cs_r, m_uI_K, m_uI_N, m_uI_R, m_uI_L, m_uI_I, m_uL_K, m_uL_N, m_uL_R, m_uL_I, m_uL_L, m_uR_K, m_uR_N, m_uR_I, m_uR_L, m_uR_R, true_and, and_true, true_implies, false_implies, not_true_eq_false, not_false_eq_true, if_true, if_false, false_and, and_false]
      exact h9
theorem spS1_CR {D D' : Dat} {t t' : Tok} (h : spS1 T n D t = .inr (t', D')) : dC D' = dC D ∧ dR D' = dR D := by
  have key : ∀ q, spSt T n D t = .inr q → dC q.2 = dC D ∧ dR q.2 = dR D := by
    intro q hq
    have hb : ∀ (r : Rt) (k : Tok → Rq), bR r k = .inr q → ∃ t1, k t1 = .inr q := fun r k h => by
      cases r with
      | inl e => cases h
      | inr t1 => exact ⟨t1, h⟩
    have hp : ∀ g t0 (k : Tok → Den → Rq), psX T n g t0 k = .inr q → ∃ t1 v, k t1 v = .inr q := fun g t0 k h => by
      unfold psX at h
      split at h
      · cases h
      · cases h
      · exact ⟨_, _, h⟩
    unfold spSt at hq
    split at hq
    · unfold spDepth spSum at hq
      split at hq
      · cases hq
      · obtain ⟨t1, h1⟩ := hb _ _ hq
        obtain ⟨t2, v, h2⟩ := hp _ _ _ h1
        obtain ⟨t3, h3⟩ := hb _ _ h2
        obtain ⟨t4, w, h4⟩ := hp _ _ _ h3
        cases h4; exact ⟨rfl, rfl⟩
    · split at hq
      · unfold spCost spSum at hq
        split at hq
        · cases hq
        · obtain ⟨t1, h1⟩ := hb _ _ hq
          obtain ⟨t2, v, h2⟩ := hp _ _ _ h1
          obtain ⟨t3, h3⟩ := hb _ _ h2
          obtain ⟨t4, w, h4⟩ := hp _ _ _ h3
          cases h4; exact ⟨rfl, rfl⟩
      · split at hq
        · unfold spQuiet spTest at hq
          split at hq
          · cases hq
          · obtain ⟨t3, h3⟩ := hb _ _ hq
            obtain ⟨t4, w, h4⟩ := hp _ _ _ h3
            cases h4; exact ⟨rfl, rfl⟩
        · split at hq
          · unfold spShip at hq
            split at hq
            · cases hq
            · obtain ⟨t1, h1⟩ := hb _ _ hq
              split at h1
              · cases h1
              · obtain ⟨t2, h2⟩ := hb _ _ h1
                cases h2; exact ⟨rfl, rfl⟩
          · split at hq
            · unfold spSay at hq
              split at hq
              · cases hq
              · obtain ⟨t1, h1⟩ := hb _ _ hq
                obtain ⟨t2, h2⟩ := hb _ _ h1
                split at h2
                · cases h2
                · obtain ⟨t3, h3⟩ := hb _ _ h2
                  cases h3; exact ⟨rfl, rfl⟩
            · split at hq
              · unfold spBook at hq
                split at hq
                · cases hq
                · obtain ⟨t1, h1⟩ := hb _ _ hq
                  cases h1; exact ⟨rfl, rfl⟩
              · split at hq
                · unfold spSeen at hq
                  split at hq
                  · cases hq
                  · obtain ⟨t1, h1⟩ := hb _ _ hq
                    cases h1; exact ⟨rfl, rfl⟩
                · split at hq
                  · unfold spLuck at hq
                    obtain ⟨t1, h1⟩ := hb _ _ hq
                    cases h1; exact ⟨rfl, rfl⟩
                  · cases hq
  unfold spS1 at h
  cases hs : spSt T n D t with
  | inl e => rw [hs] at h; cases h
  | inr q =>
    rw [hs] at h
    dsimp only at h
    cases hr : signR T n 59 (.inr q.1) with
    | inl e => rw [hr] at h; cases h
    | inr t1 => rw [hr] at h; cases h; exact key q hs
theorem l_m_sea (d : Nat) (M0 : am_M) (Q : Option Value → am_M → Prop) (hL0 : Lay M0) (r : Sum (Nat × Nat) (Nat × Dat))
    (hF : ∀ e M' x, r = .inl e → gF (sSm z) nT M0 M' → FtM M' T n e.1 e.2 → am_P am_P0 (d + 7) (am_look tX11_sea) 186 [.ref 277, .int x] [] M' Q)
    (hN : ∀ k D M' c t, r = .inr (k, D) → gF (sSm z) nT M0 M' → GdM T n z M' D c t → 1 ≤ dC D → 1 ≤ dR D → am_P am_P0 (d + 7) (am_look tX11_sea) 186 [.ref 277, .int (nI k)] [] M' Q) :
    ∀ (f k : Nat) (D : Dat) (t : Tok) (c : Nat) (M : am_M), spR T n f k D t = some r → gF (sSm z) nT M0 M → GdM T n z M D c t → 1 ≤ dC D → 1 ≤ dR D → am_P am_P0 (d + 7) (am_look tX11_sea) 162 [.ref 277, .int (nI k)] [] M Q := by
  intro f
  induction f with
  | zero => intro k D t c M h; cases h
  | succ f ih =>
    intro k D t c M hr hM hG hC hR
    obtain ⟨hL, hRd, hP, hD, hc⟩ := id hG
    have e : spR T n (f + 1) k D t = if t.1 = 0 then some (.inr (k, D)) else (match spS1 T n D t with
      | .inl e => some (.inl e)
      | .inr q => spR T n f (k + 1) q.2 q.1) := rfl
    rw [e] at hr
    have h3 := RdM_3 hRd 0 (by omega)
    rw [show nI 0 = (0 : Int32) from rfl] at h3
    rw [hX11_sea_162]
    by_cases c0 : t.1 = 0
    · rw [if_pos c0] at hr
      cases hr
      have h9 := hN k D M c t rfl hM hG hC hR
      simp +decide only [qX11_sea_0, qX11_sea_1, qX11_sea_2, qX11_sea_3, lm hL, hRd.2.1, h3.mpr c0, am_w1_i, am_w1_r, am_w1_x, am_w1_l, am_w1_w, va_rf_s, am_push_n, am_push_s, am_cs_0, am_cs_i, am_cs_l, am_cs_r, m_uI_K, m_uI_N, m_uI_R, m_uI_L, m_uI_I, m_uL_K, m_uL_N, m_uL_R, m_uL_I, m_uL_L, m_uR_K, m_uR_N, m_uR_I, m_uR_L, m_uR_R, true_and, and_true, true_implies, false_implies, not_true_eq_false, not_false_eq_true, if_true, if_false, false_and, and_false] at h9 ⊢
      exact h9
    · rw [if_neg c0] at hr
      simp +decide only [qX11_sea_0, qX11_sea_1, qX11_sea_2, qX11_sea_3, lm hL, hRd.2.1, am_w1_i, am_w1_r, am_w1_x, am_w1_l, am_w1_w, va_rf_s, am_push_n, am_push_s, am_cs_0, am_cs_i, am_cs_l, am_cs_r, m_uI_K, m_uI_N, m_uI_R, m_uI_L, m_uI_I, m_uL_K, m_uL_N, m_uL_R, m_uL_I, m_uL_L, m_uR_K, m_uR_N, m_uR_I, m_uR_L, m_uR_R, true_and, and_true, true_implies, false_implies, not_true_eq_false, not_false_eq_true, if_true, if_false, false_and, and_false]
      rw [br_n (fun w => c0 (h3.mp w))]
      refine k_stmt d c D t M _ hG hC hR c0 (fun M1 E1 => ?_)
      cases hs : spS1 T n D t with
      | inl e =>
        rw [hs] at hr E1
        cases hr
        obtain ⟨g1, f1⟩ := E1
        have L1 := gF_LayN g1 hL
        have h9 := hF e M1 (nI (k + 1)) rfl (gF_trans hM g1) f1
        have hp := (FtM_pos f1).2.1
        simp +decide only [qX11_sea_0, qX11_sea_1, qX11_sea_2, qX11_sea_3, ni_add1, am_w1_i, am_w1_r, am_w1_x, am_w1_l, am_w1_w, va_rf_s, am_push_n, am_push_s, am_cs_0, am_cs_i, am_cs_l, am_cs_r, m_uI_K, m_uI_N, m_uI_R, m_uI_L, m_uI_I, m_uL_K, m_uL_N, m_uL_R, m_uL_I, m_uL_L, m_uR_K, m_uR_N, m_uR_I, m_uR_L, m_uR_R, true_and, and_true, true_implies, false_implies, not_true_eq_false, not_false_eq_true, if_true, if_false, false_and, and_false]
        rw [hX11_sea_162]
        simp +decide only [qX11_sea_0, qX11_sea_1, qX11_sea_2, qX11_sea_3, lm L1, am_w1_i, am_w1_r, am_w1_x, am_w1_l, am_w1_w, va_rf_s, am_push_n, am_push_s, am_cs_0, am_cs_i, am_cs_l, am_cs_r, m_uI_K, m_uI_N, m_uI_R, m_uI_L, m_uI_I, m_uL_K, m_uL_N, m_uL_R, m_uL_I, m_uL_L, m_uR_K, m_uR_N, m_uR_I, m_uR_L, m_uR_R, true_and, and_true, true_implies, false_implies, not_true_eq_false, not_false_eq_true, if_true, if_false, false_and, and_false] at h9 ⊢
        rw [br_p hp]
        exact h9
      | inr q =>
        rw [hs] at hr E1
        obtain ⟨g1, ⟨c', G1⟩, ht⟩ := E1
        have hCR := spS1_CR hs
        have h9 := ih (k + 1) q.2 q.1 c' M1 hr (gF_trans hM g1) G1 (by omega) (by omega)
        simp +decide only [qX11_sea_0, qX11_sea_1, qX11_sea_2, qX11_sea_3, ni_add1, am_w1_i, am_w1_r, am_w1_x, am_w1_l, am_w1_w, va_rf_s, am_push_n, am_push_s, am_cs_0, am_cs_i, am_cs_l, am_cs_r, m_uI_K, m_uI_N, m_uI_R, m_uI_L, m_uI_I, m_uL_K, m_uL_N, m_uL_R, m_uL_I, m_uL_L, m_uR_K, m_uR_N, m_uR_I, m_uR_L, m_uR_R, true_and, and_true, true_implies, false_implies, not_true_eq_false, not_false_eq_true, if_true, if_false, false_and, and_false]
        exact h9
end
end
section
/-! the model: what sums and tests come to -/
theorem m_bounded (d : Nat) (x : Int) (M : am_M) (Q : Option Value → am_M → Prop) (h : sm_ x) : am_E am_P0 d 210 [.long (zL x)] M Q ↔ Q (some (.long (zL (lim x)))) M := by
  have h1 : lg_cmp (zL x) 1000000 = t3 x 1000000 := by rw [show (1000000 : Int64) = zL 1000000 from rfl]; exact lgc_z h (by unfold sm_; omega)
  have h2 : lg_cmp (zL x) (-1000000) = t3 x (-1000000) := by rw [show (-1000000 : Int64) = zL (-1000000) from rfl]; exact lgc_z h (by unfold sm_; omega)
  rw [eX11_bounded]
  simp +decide only [qX11_bounded, h1, h2, t3_z, t3_n, t3_p, t3_np, t3_nn, am_w1_i, am_w1_r, am_w1_x, am_w1_l, am_w1_w, va_rf_s, am_push_n, am_push_s, am_cs_0, am_cs_i, am_cs_l, am_cs_r, m_uI_K, m_uI_N, m_uI_R, m_uI_L, m_uI_I, m_uL_K, m_uL_N, m_uL_R, m_uL_I, m_uL_L, m_uR_K, m_uR_N, m_uR_I, m_uR_L, m_uR_R, true_and, and_true, true_implies, false_implies, not_true_eq_false, not_false_eq_true, if_true, if_false, false_and, and_false]
  unfold lim
  by_cases c : x ≤ 1000000
  · rw [br_p c, if_neg (by omega)]
    by_cases c2 : -1000000 ≤ x
    · rw [br_p c2, if_neg (by omega)]
    · rw [br_n c2, if_pos (by omega)]; exact Iff.rfl
  · rw [br_n c, if_pos (by omega)]; exact Iff.rfl
theorem m_over (d : Nat) (a b : Int) (M : am_M) (Q : Option Value → am_M → Prop) (a1 : -1000000 ≤ a) (a2 : a ≤ 1000000) (b1 : -1000000 ≤ b) (b2 : b ≤ 1000000) : am_E am_P0 d 211 [.long (zL a), .long (zL b)] M Q ↔ Q (some (.long (zL (if b = 0 then 0 else a.fdiv b)))) M := by
  have s1 := sm_6 a1 a2
  have s2 := sm_6 b1 b2
  have t := tdv_bd (b := b) a1 a2
  have tm := tmd_bd (b := b) a1 a2
  have h0 : sm_ 0 := by unfold sm_; omega
  have c1 : lg_cmp (zL b) 0 = t3 b 0 := lgc_z (b := 0) s2 h0
  have c2 : lg_cmp (zL a) 0 = t3 a 0 := lgc_z (b := 0) s1 h0
  have c3 : lg_cmp (zL (a.tmod b)) 0 = t3 (a.tmod b) 0 := lgc_z (b := 0) (sm_6 tm.1 tm.2) h0
  rw [eX11_over]
  by_cases hb : b = 0
  · subst hb
    have c1' : lg_cmp (zL 0) 0 = 0 := by decide
    simp +decide only [qX11_over, c1', am_w1_i, am_w1_r, am_w1_x, am_w1_l, am_w1_w, va_rf_s, am_push_n, am_push_s, am_cs_0, am_cs_i, am_cs_l, am_cs_r, m_uI_K, m_uI_N, m_uI_R, m_uI_L, m_uI_I, m_uL_K, m_uL_N, m_uL_R, m_uL_I, m_uL_L, m_uR_K, m_uR_N, m_uR_I, m_uR_L, m_uR_R, true_and, and_true, true_implies, false_implies, not_true_eq_false, not_false_eq_true, if_true, if_false, false_and, and_false]
    exact Iff.rfl
  · have hb0 : ¬ zL b = 0 := fun q => hb ((zL_eq s2 (b := 0) h0).mp q)
    rw [if_neg hb, fdiv_t hb]
    simp +decide only [qX11_over, zL_div s1 s2, zL_mul, hb0, show (1 : Int64) = zL 1 from rfl, zL_sub, tdm, c1, c2, c3, t3_z, t3_n, t3_p, t3_np, t3_nn, am_w1_i, am_w1_r, am_w1_x, am_w1_l, am_w1_w, va_rf_s, am_push_n, am_push_s, am_cs_0, am_cs_i, am_cs_l, am_cs_r, m_uI_K, m_uI_N, m_uI_R, m_uI_L, m_uI_I, m_uL_K, m_uL_N, m_uL_R, m_uL_I, m_uL_L, m_uR_K, m_uR_N, m_uR_I, m_uR_L, m_uR_R, true_and, and_true, true_implies, false_implies, not_true_eq_false, not_false_eq_true, if_true, if_false, false_and, and_false]
    rw [br_p hb]
    by_cases cm : a.tmod b = 0
    · rw [br_p cm, if_neg (fun q => q.2 (tdv_0.mp cm))]
    · rw [br_n cm]
      by_cases ca : 0 ≤ a
      · rw [br_p ca]
        by_cases cb : 0 ≤ b
        · rw [br_p cb, if_neg (fun q => q.1 (by omega))]
        · rw [br_n cb, if_pos ⟨by omega, fun q => cm (tdv_0.mpr q)⟩]
      · rw [br_n ca]
        by_cases cb : 0 ≤ b
        · rw [br_p cb, if_pos ⟨by omega, fun q => cm (tdv_0.mpr q)⟩]
        · rw [br_n cb, if_neg (fun q => q.1 (by omega))]
theorem m_made (d op : Nat) (a b : Int) (M : am_M) (Q : Option Value → am_M → Prop) (ho : 10 ≤ op) (h21 : op ≤ 21) (a1 : -1000000 ≤ a) (a2 : a ≤ 1000000) (b1 : -1000000 ≤ b) (b2 : b ≤ 1000000) (h01 : op = 20 ∨ op = 21 → (a = 0 ∨ a = 1) ∧ (b = 0 ∨ b = 1)) : am_E am_P0 (d + 1) 212 [.int (nI op), .long (zL a), .long (zL b)] M Q ↔ Q (some (.long (zL (jn op a b)))) M := by
  have s1 := sm_6 a1 a2
  have s2 := sm_6 b1 b2
  have h0 : sm_ 0 := by unfold sm_; omega
  have cab := lgc_z s1 s2
  have cb0 : lg_cmp (zL b) 0 = t3 b 0 := lgc_z (b := 0) s2 h0
  have sab : sm_ (a + b) := by unfold sm_; omega
  have smb : sm_ (a - b) := by unfold sm_; omega
  have sml := mul_bd a1 a2 b1 b2
  have cs0 : lg_cmp (zL (a + b)) 0 = t3 (a + b) 0 := lgc_z (b := 0) sab h0
  have ba := fun Q => m_bounded d (a + b) M Q sab
  have bs := fun Q => m_bounded d (a - b) M Q smb
  have bm := fun Q => m_bounded d (a * b) M Q sml
  have ov := fun Q => m_over d a b M Q a1 a2 b1 b2
  rw [eX11_made]
  have cs : op = 10 ∨ op = 11 ∨ op = 12 ∨ op = 13 ∨ op = 14 ∨ op = 15 ∨ op = 16 ∨ op = 17 ∨ op = 18 ∨ op = 19 ∨ op = 20 ∨ op = 21 := by omega
  have tab : ∀ k p, am_tab (10) [60, 67, 74, 81, 87, 107, 119, 131, 143, 155, 167] 171 (nI k) = p → am_tab (10) [60, 67, 74, 81, 87, 107, 119, 131, 143, 155, 167] 171 (nI k) = p := fun _ _ h => h
  rcases cs with rfl | rfl | rfl | rfl | rfl | rfl | rfl | rfl | rfl | rfl | rfl | rfl
  · have e := tab 10 60 (by decide)
    simp +decide only [qX11_made_0, qX11_made_1, qX11_made_2, e, zL_add, ba, am_w1_i, am_w1_r, am_w1_x, am_w1_l, am_w1_w, va_rf_s, am_push_n, am_push_s, am_cs_0, am_cs_i, am_cs_l, am_cs_r, m_uI_K, m_uI_N, m_uI_R, m_uI_L, m_uI_I, m_uL_K, m_uL_N, m_uL_R, m_uL_I, m_uL_L, m_uR_K, m_uR_N, m_uR_I, m_uR_L, m_uR_R, true_and, and_true, true_implies, false_implies, not_true_eq_false, not_false_eq_true, if_true, if_false, false_and, and_false]
    rw [jn_10]
  · have e := tab 11 67 (by decide)
    simp +decide only [qX11_made_0, qX11_made_1, qX11_made_2, e, zL_sub, bs, am_w1_i, am_w1_r, am_w1_x, am_w1_l, am_w1_w, va_rf_s, am_push_n, am_push_s, am_cs_0, am_cs_i, am_cs_l, am_cs_r, m_uI_K, m_uI_N, m_uI_R, m_uI_L, m_uI_I, m_uL_K, m_uL_N, m_uL_R, m_uL_I, m_uL_L, m_uR_K, m_uR_N, m_uR_I, m_uR_L, m_uR_R, true_and, and_true, true_implies, false_implies, not_true_eq_false, not_false_eq_true, if_true, if_false, false_and, and_false]
    rw [jn_11]
  · have e := tab 12 74 (by decide)
    simp +decide only [qX11_made_0, qX11_made_1, qX11_made_2, e, zL_mul, bm, am_w1_i, am_w1_r, am_w1_x, am_w1_l, am_w1_w, va_rf_s, am_push_n, am_push_s, am_cs_0, am_cs_i, am_cs_l, am_cs_r, m_uI_K, m_uI_N, m_uI_R, m_uI_L, m_uI_I, m_uL_K, m_uL_N, m_uL_R, m_uL_I, m_uL_L, m_uR_K, m_uR_N, m_uR_I, m_uR_L, m_uR_R, true_and, and_true, true_implies, false_implies, not_true_eq_false, not_false_eq_true, if_true, if_false, false_and, and_false]
    rw [jn_12]
  · have e := tab 13 81 (by decide)
    simp +decide only [qX11_made_0, qX11_made_1, qX11_made_2, e, ov, am_w1_i, am_w1_r, am_w1_x, am_w1_l, am_w1_w, va_rf_s, am_push_n, am_push_s, am_cs_0, am_cs_i, am_cs_l, am_cs_r, m_uI_K, m_uI_N, m_uI_R, m_uI_L, m_uI_I, m_uL_K, m_uL_N, m_uL_R, m_uL_I, m_uL_L, m_uR_K, m_uR_N, m_uR_I, m_uR_L, m_uR_R, true_and, and_true, true_implies, false_implies, not_true_eq_false, not_false_eq_true, if_true, if_false, false_and, and_false]
    rw [jn_13]
  · have e := tab 14 87 (by decide)
    simp +decide only [qX11_made_0, qX11_made_1, qX11_made_2, e, cb0, t3_z, ov, zL_mul, zL_sub, am_w1_i, am_w1_r, am_w1_x, am_w1_l, am_w1_w, va_rf_s, am_push_n, am_push_s, am_cs_0, am_cs_i, am_cs_l, am_cs_r, m_uI_K, m_uI_N, m_uI_R, m_uI_L, m_uI_I, m_uL_K, m_uL_N, m_uL_R, m_uL_I, m_uL_L, m_uR_K, m_uR_N, m_uR_I, m_uR_L, m_uR_R, true_and, and_true, true_implies, false_implies, not_true_eq_false, not_false_eq_true, if_true, if_false, false_and, and_false]
    rw [jn_14]
    by_cases hb : b = 0
    · rw [br_r hb, if_pos hb]; exact Iff.rfl
    · rw [br_q hb, if_neg hb, if_neg hb, Int.fmod_def]
  · have e := tab 15 107 (by decide)
    simp +decide only [qX11_made_0, qX11_made_1, qX11_made_2, e, cab, t3_z, t3_n, t3_p, t3_np, t3_nn, am_w1_i, am_w1_r, am_w1_x, am_w1_l, am_w1_w, va_rf_s, am_push_n, am_push_s, am_cs_0, am_cs_i, am_cs_l, am_cs_r, m_uI_K, m_uI_N, m_uI_R, m_uI_L, m_uI_I, m_uL_K, m_uL_N, m_uL_R, m_uL_I, m_uL_L, m_uR_K, m_uR_N, m_uR_I, m_uR_L, m_uR_R, true_and, and_true, true_implies, false_implies, not_true_eq_false, not_false_eq_true, if_true, if_false, false_and, and_false]
    rw [jn_15]
    by_cases c : b ≤ a
    · rw [br_p c, if_neg (by omega)]
    · rw [br_n c, if_pos (by omega)]
  · have e := tab 16 119 (by decide)
    simp +decide only [qX11_made_0, qX11_made_1, qX11_made_2, e, cab, t3_z, t3_n, t3_p, t3_np, t3_nn, am_w1_i, am_w1_r, am_w1_x, am_w1_l, am_w1_w, va_rf_s, am_push_n, am_push_s, am_cs_0, am_cs_i, am_cs_l, am_cs_r, m_uI_K, m_uI_N, m_uI_R, m_uI_L, m_uI_I, m_uL_K, m_uL_N, m_uL_R, m_uL_I, m_uL_L, m_uR_K, m_uR_N, m_uR_I, m_uR_L, m_uR_R, true_and, and_true, true_implies, false_implies, not_true_eq_false, not_false_eq_true, if_true, if_false, false_and, and_false]
    rw [jn_16]
    by_cases c : a ≤ b
    · rw [br_p c, if_neg (by omega)]
    · rw [br_n c, if_pos (by omega)]
  · have e := tab 17 131 (by decide)
    simp +decide only [qX11_made_0, qX11_made_1, qX11_made_2, e, cab, t3_z, t3_n, t3_p, t3_np, t3_nn, am_w1_i, am_w1_r, am_w1_x, am_w1_l, am_w1_w, va_rf_s, am_push_n, am_push_s, am_cs_0, am_cs_i, am_cs_l, am_cs_r, m_uI_K, m_uI_N, m_uI_R, m_uI_L, m_uI_I, m_uL_K, m_uL_N, m_uL_R, m_uL_I, m_uL_L, m_uR_K, m_uR_N, m_uR_I, m_uR_L, m_uR_R, true_and, and_true, true_implies, false_implies, not_true_eq_false, not_false_eq_true, if_true, if_false, false_and, and_false]
    rw [jn_17]
    by_cases c : b ≤ a
    · rw [br_p c, if_neg (by omega)]; exact Iff.rfl
    · rw [br_n c, if_pos (by omega)]; exact Iff.rfl
  · have e := tab 18 143 (by decide)
    simp +decide only [qX11_made_0, qX11_made_1, qX11_made_2, e, cab, t3_z, t3_n, t3_p, t3_np, t3_nn, am_w1_i, am_w1_r, am_w1_x, am_w1_l, am_w1_w, va_rf_s, am_push_n, am_push_s, am_cs_0, am_cs_i, am_cs_l, am_cs_r, m_uI_K, m_uI_N, m_uI_R, m_uI_L, m_uI_I, m_uL_K, m_uL_N, m_uL_R, m_uL_I, m_uL_L, m_uR_K, m_uR_N, m_uR_I, m_uR_L, m_uR_R, true_and, and_true, true_implies, false_implies, not_true_eq_false, not_false_eq_true, if_true, if_false, false_and, and_false]
    rw [jn_18]
    by_cases c : a ≤ b
    · rw [br_p c, if_neg (by omega)]; exact Iff.rfl
    · rw [br_n c, if_pos (by omega)]; exact Iff.rfl
  · have e := tab 19 155 (by decide)
    simp +decide only [qX11_made_0, qX11_made_1, qX11_made_2, e, cab, t3_z, t3_n, t3_p, t3_np, t3_nn, am_w1_i, am_w1_r, am_w1_x, am_w1_l, am_w1_w, va_rf_s, am_push_n, am_push_s, am_cs_0, am_cs_i, am_cs_l, am_cs_r, m_uI_K, m_uI_N, m_uI_R, m_uI_L, m_uI_I, m_uL_K, m_uL_N, m_uL_R, m_uL_I, m_uL_L, m_uR_K, m_uR_N, m_uR_I, m_uR_L, m_uR_R, true_and, and_true, true_implies, false_implies, not_true_eq_false, not_false_eq_true, if_true, if_false, false_and, and_false]
    rw [jn_19]
    by_cases c : a = b
    · rw [br_r c, if_pos c]; exact Iff.rfl
    · rw [br_q c, if_neg c]; exact Iff.rfl
  · have e := tab 20 167 (by decide)
    simp +decide only [qX11_made_0, qX11_made_1, qX11_made_2, e, zL_mul, am_w1_i, am_w1_r, am_w1_x, am_w1_l, am_w1_w, va_rf_s, am_push_n, am_push_s, am_cs_0, am_cs_i, am_cs_l, am_cs_r, m_uI_K, m_uI_N, m_uI_R, m_uI_L, m_uI_I, m_uL_K, m_uL_N, m_uL_R, m_uL_I, m_uL_L, m_uR_K, m_uR_N, m_uR_I, m_uR_L, m_uR_R, true_and, and_true, true_implies, false_implies, not_true_eq_false, not_false_eq_true, if_true, if_false, false_and, and_false]
    rw [jn_20']
  · have e := tab 21 171 (by decide)
    simp +decide only [qX11_made_0, qX11_made_1, qX11_made_2, e, zL_add, cs0, t3_z, t3_n, t3_p, t3_np, t3_nn, am_w1_i, am_w1_r, am_w1_x, am_w1_l, am_w1_w, va_rf_s, am_push_n, am_push_s, am_cs_0, am_cs_i, am_cs_l, am_cs_r, m_uI_K, m_uI_N, m_uI_R, m_uI_L, m_uI_I, m_uL_K, m_uL_N, m_uL_R, m_uL_I, m_uL_L, m_uR_K, m_uR_N, m_uR_I, m_uR_L, m_uR_R, true_and, and_true, true_implies, false_implies, not_true_eq_false, not_false_eq_true, if_true, if_false, false_and, and_false]
    rw [jn_21']
    by_cases c : a + b ≤ 0
    · rw [br_p c, if_neg (by omega)]; exact Iff.rfl
    · rw [br_n c, if_pos (by omega)]; exact Iff.rfl
/-- the heap of longs -/
def PlM (M : am_M) (e : Env) : List Den → Prop
  | [] => True
  | v :: r => mL M 313 r.length = zL (v e) ∧ PlM M e r
theorem PlM_u {M M' : am_M} {e : Env} : ∀ vs : List Den, (∀ j, j < vs.length → mL M' 313 j = mL M 313 j) → PlM M e vs → PlM M' e vs := by
  intro vs
  induction vs with
  | nil => intro _ _; trivial
  | cons v r ih =>
    intro h h1
    rw [List.length_cons] at h
    exact ⟨by rw [h _ (by omega)]; exact h1.1, ih (fun j hj => h j (by omega)) h1.2⟩
def MoM (M : am_M) (e : Env) : Prop := mI M 314 1 = nI e.1 ∧ mI M 314 2 = nI e.2.1 ∧ mI M 314 3 = nI e.2.2.1 ∧ mI M 314 4 = nI e.2.2.2
def sHp (a _j : Nat) : Prop := a = 313
theorem l_m_works (d z a m : Nat) (v : Den) (e : Env) (M0 : am_M) (Q : Option Value → am_M → Prop) (x1 : Int32) (hL : Lay M0) (hz : z ≤ 1) (hb : mI M0 277 12 = nI z) (ham : a + m ≤ 1800) (he : eOK e) (hMo : MoM M0 e) (hw : wfD 1850 (insM M0 z) a m) (hc : cdD (insM M0 z) a m = [v])
    (hQ : ∀ M', gF sHp nT M0 M' → Q (some (.long (zL (v e)))) M') :
    ∀ (r j : Nat), j + r = m → ∀ (M : am_M) (v5 : Value), gF sHp nT M0 M → PlM M e (cdD (insM M0 z) a j) → am_P am_P0 (d + 2) (am_look tX11_works) 14 [.ref 277, .int x1, .int (nI (a + m)), .int (nI (cdD (insM M0 z) a j).length), .int (nI (1800 * z + (a + j))), v5] [] M Q := by
  intro r
  induction r with
  | zero =>
    intro j hj M v5 hM hP
    have ej : j = m := by omega
    subst ej
    have hLM := gF_LayN hM hL
    have h0 := hQ M hM
    have hb' : mI M 277 12 = nI z := by rw [hM.1 _ _ (by unfold sHp; omega)]; exact hb
    rw [hc] at hP ⊢
    have hP1 : mL M 313 (Int32.toInt 0).toNat = zL (v e) := hP.1
    have e1 : (1800 : Int32) * nI z + nI (a + j) = nI (1800 * z + (a + j)) := by rw [show (1800 : Int32) = nI 1800 from rfl, ni_mul, ni_add]
    have hle : nI (1800 * z + (a + j)) ≤ nI (1800 * z + (a + j)) := (ni_le (by omega) (by omega)).mpr (Nat.le_refl _)
    rw [hX11_works_14]
    simp +decide (disch := omega) only [qX11_works_0, qX11_works_1, qX11_works_2, lm hLM, hb', e1, hP1, ni_in_t, ni_tn, am_w1_i, am_w1_r, am_w1_x, am_w1_l, am_w1_w, va_rf_s, am_push_n, am_push_s, am_cs_0, am_cs_i, am_cs_l, am_cs_r, m_uI_K, m_uI_N, m_uI_R, m_uI_L, m_uI_I, m_uL_K, m_uL_N, m_uL_R, m_uL_I, m_uL_L, m_uR_K, m_uR_N, m_uR_I, m_uR_L, m_uR_R, true_and, and_true, true_implies, false_implies, not_true_eq_false, not_false_eq_true, if_true, if_false, false_and, and_false]
    rw [br_p hle]
    exact h0
  | succ r ih =>
    intro j hj M v5 hM hP
    have hLM := gF_LayN hM hL
    have hb' : mI M 277 12 = nI z := by rw [hM.1 _ _ (by unfold sHp; omega)]; exact hb
    have e1 : (1800 : Int32) * nI z + nI (a + m) = nI (1800 * z + (a + m)) := by rw [show (1800 : Int32) = nI 1800 from rfl, ni_mul, ni_add]
    have hlt : ¬ nI (1800 * z + (a + m)) ≤ nI (1800 * z + (a + j)) := by rw [ni_le (by omega) (by omega)]; omega
    have hok := hw j (by omega)
    have hlen := cdD_len (lm := 1850) (ins := insM M0 z) (a := a) (m := j) (fun i hi => hw i (by omega))
    have hst : cdD (insM M0 z) a (j + 1) = stD (insM M0 z (a + j)) (cdD (insM M0 z) a j) := rfl
    have hx : mI M 304 (1800 * z + (a + j)) = mI M0 304 (1800 * z + (a + j)) := hM.1 _ _ (by unfold sHp; omega)
    have hy : mI M 305 (1800 * z + (a + j)) = mI M0 305 (1800 * z + (a + j)) := hM.1 _ _ (by unfold sHp; omega)
    have hmo : MoM M e := ⟨by rw [hM.1 _ _ (by unfold sHp; omega)]; exact hMo.1, by rw [hM.1 _ _ (by unfold sHp; omega)]; exact hMo.2.1, by rw [hM.1 _ _ (by unfold sHp; omega)]; exact hMo.2.2.1, by rw [hM.1 _ _ (by unfold sHp; omega)]; exact hMo.2.2.2⟩
    obtain ⟨x, hxe⟩ : ∃ x, x = mI M0 304 (1800 * z + (a + j)) := ⟨_, rfl⟩
    obtain ⟨y, hye⟩ : ∃ y, y = mI M0 305 (1800 * z + (a + j)) := ⟨_, rfl⟩
    have hin : insM M0 z (a + j) = (uW x, y.toInt) := by rw [hxe, hye]; rfl
    rw [hin] at hok hst
    rw [← hxe] at hx
    rw [← hye] at hy
    have hIH := ih (j + 1) (by omega)
    rw [hst] at hIH
    obtain ⟨vs, hvs⟩ : ∃ vs, vs = cdD (insM M0 z) a j := ⟨_, rfl⟩
    rw [← hvs] at hP hlen hok hIH ⊢
    have enx : 1800 * z + (a + (j + 1)) = 1800 * z + (a + j) + 1 := by omega
    rw [enx] at hIH
    have mk : ∀ (x : Int64) (i : Nat), gF sHp nT M0 (uL M 313 i x) := fun x i => gF_trans hM (gF_l _ rfl)
    obtain ⟨op, hop⟩ : ∃ op, op = uW x := ⟨_, rfl⟩
    rw [← hop] at hok hIH
    have h22 : op ≤ 22 := hok.2.2.2.2
    obtain ⟨hxn, h48⟩ := uW_i hop.symm h22
    rw [hxn] at hx
    have k9 : (9 : Int32) < nI op ↔ 9 < op := by rw [show (9 : Int32) = nI 9 from rfl, ni_lt (by omega) (by omega)]
    have kn : ∀ k, k ≤ 22 → (nI op = nI k ↔ op = k) := fun k hk => ni_eq (by omega) (by omega)
    have k0 := kn 0 (by omega)
    have k22 := kn 22 (by omega)
    have kk9 := kn 9 (by omega)
    rw [show nI 0 = (0 : Int32) from rfl] at k0
    rw [show nI 22 = (22 : Int32) from rfl] at k22
    rw [show nI 9 = (9 : Int32) from rfl] at kk9
    by_cases c1 : op < 10
    · have hvl := (hok.1 c1).1
      have est : stD (op, y.toInt) vs = ldD (op, y.toInt) :: vs := if_pos c1
      rw [est] at hIH
      have fin : ∀ (w : Int64), w = zL (ldD (op, y.toInt) e) → ∀ v5, am_P am_P0 (d + 2) (am_look tX11_works) 14 [.ref 277, .int x1, .int (nI (a + m)), .int (nI (vs.length + 1)), .int (nI (1800 * z + (a + j) + 1)), v5] [] (uL M 313 vs.length w) Q := fun w hw5 v5 => by
        refine hIH (uL M 313 vs.length w) v5 (mk _ _) ⟨?_, PlM_u vs (fun j' hj' => ?_) hP⟩
        · rw [m_uL_L, if_pos ⟨rfl, rfl⟩]; exact hw5
        · rw [m_uL_L, if_neg (by omega)]
      rw [hX11_works_14]
      simp +decide (disch := omega) only [qX11_works_0, qX11_works_1, qX11_works_2, lm hLM, hb', e1, hx, hy, ni_in_t, ni_tn, ni_add1, k9, k0, kk9, am_w1_i, am_w1_r, am_w1_x, am_w1_l, am_w1_w, va_rf_s, am_push_n, am_push_s, am_cs_0, am_cs_i, am_cs_l, am_cs_r, m_uI_K, m_uI_N, m_uI_R, m_uI_L, m_uI_I, m_uL_K, m_uL_N, m_uL_R, m_uL_I, m_uL_L, m_uR_K, m_uR_N, m_uR_I, m_uR_L, m_uR_R, true_and, and_true, true_implies, false_implies, not_true_eq_false, not_false_eq_true, if_true, if_false, false_and, and_false]
      rw [br_n hlt, br_n (by omega)]
      by_cases o0 : op = 0
      · rw [br_r o0]
        refine fin _ ?_ _
        have : ldD (op, y.toInt) e = y.toInt := by rw [o0]; rfl
        rw [this]
        rw [← Int64.toInt_inj, Int32.toInt_toInt64, zL_ti (by have := Int32.le_toInt y; omega) (by have := Int32.toInt_lt y; omega)]
      · rw [br_q o0]
        by_cases o9 : op = 9
        · rw [br_r o9]
          refine fin _ ?_ _
          rw [o9]; rfl
        · rw [br_q o9]
          have mo : ∀ k u, k ≤ 1000 → u = nI k → u.toInt64 = zL (k : Int) := fun k u hk hu => by rw [hu, ← zI_n, zIL (by omega) (by omega)]
          have e14 : 1 ≤ op ∧ op ≤ 8 := by omega
          by_cases o4 : op ≤ 4
          · refine fin _ ?_ _
            have h4 : op = 1 ∨ op = 2 ∨ op = 3 ∨ op = 4 := by omega
            rcases h4 with rfl | rfl | rfl | rfl
            · exact mo _ _ he.1 hmo.1
            · exact mo _ _ he.2.1 hmo.2.1
            · exact mo _ _ he.2.2.1 hmo.2.2.1
            · exact mo _ _ he.2.2.2 hmo.2.2.2
          · omega
    · by_cases c2 : op = 22
      · obtain ⟨w, r', hvw, hbt⟩ := hok.2.1 c2
        have est : stD (op, y.toInt) vs = ntD w :: r' := by
          unfold stD appD
          rw [if_neg c1, if_pos c2, hvw]
        rw [est] at hIH
        rw [hvw] at hP hlen ⊢
        have hl1 : r'.length < 1850 := by simp at hlen; omega
        rw [List.length_cons] at hIH ⊢
        have hPw : mL M 313 r'.length = zL (w e) := hP.1
        have e2 : (1 : Int64) - zL (w e) = zL (ntD w e) := by rw [show (1 : Int64) = zL 1 from rfl, zL_sub]; rfl
        rw [hX11_works_14]
        simp +decide (disch := omega) only [qX11_works_0, qX11_works_1, qX11_works_2, lm hLM, hb', e1, hx, ni_sub1, hPw, e2, ni_in_t, ni_tn, ni_add1, k9, k22, am_w1_i, am_w1_r, am_w1_x, am_w1_l, am_w1_w, va_rf_s, am_push_n, am_push_s, am_cs_0, am_cs_i, am_cs_l, am_cs_r, m_uI_K, m_uI_N, m_uI_R, m_uI_L, m_uI_I, m_uL_K, m_uL_N, m_uL_R, m_uL_I, m_uL_L, m_uR_K, m_uR_N, m_uR_I, m_uR_L, m_uR_R, true_and, and_true, true_implies, false_implies, not_true_eq_false, not_false_eq_true, if_true, if_false, false_and, and_false]
        rw [br_n hlt, br_p (by omega), br_r c2]
        refine hIH _ _ (mk _ _) ⟨?_, PlM_u r' (fun j' hj' => ?_) hP.2⟩
        · rw [m_uL_L, if_pos ⟨rfl, rfl⟩]
        · rw [m_uL_L, if_neg (by omega)]
      · have two : ∃ w u r', vs = w :: u :: r' ∧ (bdS u ∧ bdS w) ∧ (op = 20 ∨ op = 21 → bdT u ∧ bdT w) := by
          by_cases c3 : op ≤ 19
          · obtain ⟨w, u, r', q1, q2, q3⟩ := hok.2.2.1 (by show 10 ≤ op; omega) c3
            exact ⟨w, u, r', q1, ⟨q2, q3⟩, fun q => by omega⟩
          · obtain ⟨w, u, r', q1, q2, q3⟩ := hok.2.2.2.1 (by show op = 20 ∨ op = 21; omega)
            exact ⟨w, u, r', q1, ⟨bdT_S q2, bdT_S q3⟩, fun _ => ⟨q2, q3⟩⟩
        obtain ⟨w, u, r', hvw, ⟨bu, bw⟩, h01⟩ := two
        have est : stD (op, y.toInt) vs = jnD op u w :: r' := by
          unfold stD appD
          rw [if_neg c1, if_neg c2, hvw]
        rw [est] at hIH
        rw [hvw] at hP hlen ⊢
        have hl1 : r'.length + 1 < 1850 := by simp at hlen; omega
        rw [List.length_cons, List.length_cons] at ⊢
        rw [List.length_cons] at hIH
        have hPw : mL M 313 (r'.length + 1) = zL (w e) := hP.1
        have hPu : mL M 313 r'.length = zL (u e) := hP.2.1
        have bu' := bu e he
        have bw' := bw e he
        have hma := fun Q => m_made d op (u e) (w e) M Q (by omega) (by omega) bu'.1 bu'.2 bw'.1 bw'.2 (fun q => ⟨(h01 q).1 e, (h01 q).2 e⟩)
        rw [hX11_works_14]
        simp +decide (disch := omega) only [qX11_works_0, qX11_works_1, qX11_works_2, lm hLM, hb', e1, hx, ni_sub1, ni_dec, hPw, hPu, hma, ni_in_t, ni_tn, ni_add1, k9, k22, am_w1_i, am_w1_r, am_w1_x, am_w1_l, am_w1_w, va_rf_s, am_push_n, am_push_s, am_cs_0, am_cs_i, am_cs_l, am_cs_r, m_uI_K, m_uI_N, m_uI_R, m_uI_L, m_uI_I, m_uL_K, m_uL_N, m_uL_R, m_uL_I, m_uL_L, m_uR_K, m_uR_N, m_uR_I, m_uR_L, m_uR_R, true_and, and_true, true_implies, false_implies, not_true_eq_false, not_false_eq_true, if_true, if_false, false_and, and_false]
        rw [br_n hlt, br_p (by omega), br_q c2]
        refine hIH _ _ (mk _ _) ⟨?_, PlM_u r' (fun j' hj' => ?_) hP.2.2⟩
        · rw [m_uL_L, if_pos ⟨rfl, rfl⟩]; rfl
        · rw [m_uL_L, if_neg (by omega)]
theorem m_works (d z a b : Nat) (v : Den) (e : Env) (M : am_M) (Q : Option Value → am_M → Prop) (hL : Lay M) (hz : z ≤ 1) (hb : mI M 277 12 = nI z) (hab : a ≤ b) (hb8 : b ≤ 1800) (he : eOK e) (hMo : MoM M e) (hw : wfD 1850 (insM M z) a (b - a)) (hc : cdD (insM M z) a (b - a) = [v])
    (hQ : ∀ M', gF sHp nT M M' → Q (some (.long (zL (v e)))) M') : am_E am_P0 (d + 2) 213 [.ref 277, .int (nI a), .int (nI b)] M Q := by
  have h0 := l_m_works d z a (b - a) v e M Q (nI a) hL hz hb (by omega) he hMo hw hc hQ (b - a) 0 (by omega) M am_x (gF_refl _ _ _) trivial
  have e0 : a + (b - a) = b := by omega
  have e1 : (1800 : Int32) * nI z + nI a = nI (1800 * z + a) := by rw [show (1800 : Int32) = nI 1800 from rfl, ni_mul, ni_add]
  rw [e0] at h0
  have e2 : nI (cdD (insM M z) a 0).length = 0 := rfl
  rw [e2, Nat.add_zero] at h0
  rw [eX11_works]
  simp +decide only [qX11_works_0, qX11_works_1, qX11_works_2, lm hL, hb, e1, am_w1_i, am_w1_r, am_w1_x, am_w1_l, am_w1_w, va_rf_s, am_push_n, am_push_s, am_cs_0, am_cs_i, am_cs_l, am_cs_r, m_uI_K, m_uI_N, m_uI_R, m_uI_L, m_uI_I, m_uL_K, m_uL_N, m_uL_R, m_uL_I, m_uL_L, m_uR_K, m_uR_N, m_uR_I, m_uR_L, m_uR_R, true_and, and_true, true_implies, false_implies, not_true_eq_false, not_false_eq_true, if_true, if_false, false_and, and_false]
  exact h0
def sWk (a _j : Nat) : Prop := a = 313 ∨ a = 314
/-- rules, as they are asked -/
def RaM (M : am_M) (z kd : Nat) (sm : Bool) (R : Rls) : Prop := (R.length ≤ 12 ∧ 12 * kd + R.length ≤ 30) ∧ mI M 281 (3 * z + kd) = nI R.length ∧ ∀ k r, R[k]? = some r → ∃ s0 s1 s2, s0 ≤ s1 ∧ s1 ≤ s2 ∧ s2 ≤ 1800 ∧ mI M 282 (30 * z + 12 * kd + k) = nI s0 ∧ mI M 283 (30 * z + 12 * kd + k) = nI s1 ∧ mI M 284 (30 * z + 12 * kd + k) = nI s2 ∧ wfD 1850 (insM M z) s1 (s2 - s1) ∧ cdD (insM M z) s1 (s2 - s1) = [r.2] ∧ bdT r.2 ∧ (sm = true → wfD 1850 (insM M z) s0 (s1 - s0) ∧ cdD (insM M z) s0 (s1 - s0) = [r.1] ∧ bdS r.1)
theorem RaM_g {M M' : am_M} {z kd : Nat} {sm : Bool} {R : Rls} {S T' : Nat → Nat → Prop} (h : RaM M z kd sm R) (hg : gF S T' M M') (hS : ∀ a j, (281 ≤ a ∧ a ≤ 284) ∨ a = 304 ∨ a = 305 → ¬ S a j) : RaM M' z kd sm R := by
  have e : insM M' z = insM M z := funext fun k => by unfold insM; rw [hg.1 _ _ (hS _ _ (by omega)), hg.1 _ _ (hS _ _ (by omega))]
  obtain ⟨h0, h1, h2⟩ := h
  refine ⟨h0, by rw [hg.1 _ _ (hS _ _ (by omega))]; exact h1, fun k r hr => ?_⟩
  obtain ⟨s0, s1, s2, b1, b2, b3, b4, b5, b6, b7⟩ := h2 k r hr
  rw [e]
  exact ⟨s0, s1, s2, b1, b2, b3, by rw [hg.1 _ _ (hS _ _ (by omega))]; exact b4, by rw [hg.1 _ _ (hS _ _ (by omega))]; exact b5, by rw [hg.1 _ _ (hS _ _ (by omega))]; exact b6, b7⟩
theorem RlM_a {M : am_M} {z kd c m : Nat} {sm : Bool} {R : Rls} (h : RlM M z kd sm R c) (hc : c ≤ 1800) (hm : rlOK m R) (h12 : m ≤ 12) (h30 : 12 * kd + m ≤ 30) : RaM M z kd sm R := by
  refine ⟨by have := hm.1; omega, h.1, fun k r hr => ?_⟩
  obtain ⟨s0, s1, s2, b1, b2, b3, b4, b5, b6, b7, b8, b9⟩ := h.2 k r hr
  have hb := hm.2 r (List.mem_of_getElem? hr)
  exact ⟨s0, s1, s2, b1, b2, by omega, b4, b5, b6, b7, b8, hb.2, fun q => ⟨(b9 q).1, (b9 q).2, hb.1⟩⟩
theorem l_m_ruleOf (d z kd cc h dp : Nat) (sm : Bool) (R : Rls) (e : Env) (M0 : am_M) (Q : Option Value → am_M → Prop) (hL : Lay M0) (hz : z ≤ 1) (hk : kd ≤ 2) (hb : mI M0 277 12 = nI z) (he : eOK e) (hMo : MoM M0 e) (hR : RaM M0 z kd sm R)
    (hN : fstR R e = none → ∀ M', gF sHp nT M0 M' → Q (some (.int (-1))) M')
    (hS : ∀ k r, R[k]? = some r → fstR R e = some r → ∀ M', gF sHp nT M0 M' → Q (some (.int (nI (30 * z + 12 * kd + k)))) M') :
    ∀ (m k : Nat), k + m = R.length → (∀ j r, j < k → R[j]? = some r → r.2 e = 0) → ∀ (M : am_M), gF sHp nT M0 M → am_P am_P0 (d + 3) (am_look tX11_ruleOf) 55 [.ref 277, .int (nI kd), .int (nI cc), .int (nI h), .int (nI dp), .int (nI (30 * z + 12 * kd)), .int (nI (30 * z + 12 * kd + k))] [] M Q := by
  have eK : (3 : Int32) * nI z + nI kd = nI (3 * z + kd) := by rw [show (3 : Int32) = nI 3 from rfl, ni_mul, ni_add]
  have h12 := hR.1
  intro m
  induction m with
  | zero =>
    intro k hk' hno M hM
    have ek : k = R.length := by omega
    have hLM := gF_LayN hM hL
    have hR' := RaM_g hR hM (fun a j q w => by unfold sHp at w; omega)
    have hb' : mI M 277 12 = nI z := by rw [hM.1 _ _ (by unfold sHp; omega)]; exact hb
    have h0 := hN (fstR_no (fun j r' hj => hno j r' (by have := (List.getElem?_eq_some_iff.mp hj).1; omega) hj)) M hM
    have hle : nI (30 * z + 12 * kd + R.length) ≤ nI (30 * z + 12 * kd + k) := (ni_le (by omega) (by omega)).mpr (by omega)
    rw [hX11_ruleOf_55]
    simp +decide (disch := omega) only [qX11_ruleOf_0, qX11_ruleOf_1, lm hLM, hb', eK, hR'.2.1, ni_add, ni_in_t, ni_tn, am_w1_i, am_w1_r, am_w1_x, am_w1_l, am_w1_w, va_rf_s, am_push_n, am_push_s, am_cs_0, am_cs_i, am_cs_l, am_cs_r, m_uI_K, m_uI_N, m_uI_R, m_uI_L, m_uI_I, m_uL_K, m_uL_N, m_uL_R, m_uL_I, m_uL_L, m_uR_K, m_uR_N, m_uR_I, m_uR_L, m_uR_R, true_and, and_true, true_implies, false_implies, not_true_eq_false, not_false_eq_true, if_true, if_false, false_and, and_false]
    rw [br_p hle]
    exact h0
  | succ m ih =>
    intro k hk' hno M hM
    have hkl : k < R.length := by omega
    have hLM := gF_LayN hM hL
    have hR' := RaM_g hR hM (fun a j q w => by unfold sHp at w; omega)
    have hb' : mI M 277 12 = nI z := by rw [hM.1 _ _ (by unfold sHp; omega)]; exact hb
    have hmo : MoM M e := ⟨by rw [hM.1 _ _ (by unfold sHp; omega)]; exact hMo.1, by rw [hM.1 _ _ (by unfold sHp; omega)]; exact hMo.2.1, by rw [hM.1 _ _ (by unfold sHp; omega)]; exact hMo.2.2.1, by rw [hM.1 _ _ (by unfold sHp; omega)]; exact hMo.2.2.2⟩
    obtain ⟨r, hr⟩ : ∃ r, R[k]? = some r := ⟨R[k]'hkl, List.getElem?_eq_getElem hkl⟩
    obtain ⟨s0, s1, s2, b1, b2, b3, b4, b5, b6, b7, b8, bT, b9⟩ := hR'.2.2 k r hr
    have hlt : ¬ nI (30 * z + 12 * kd + R.length) ≤ nI (30 * z + 12 * kd + k) := by rw [ni_le (by omega) (by omega)]; omega
    rw [hX11_ruleOf_55]
    simp +decide (disch := omega) only [qX11_ruleOf_0, qX11_ruleOf_1, lm hLM, hb', eK, hR'.2.1, b5, b6, ni_add, ni_in_t, ni_tn, am_w1_i, am_w1_r, am_w1_x, am_w1_l, am_w1_w, va_rf_s, am_push_n, am_push_s, am_cs_0, am_cs_i, am_cs_l, am_cs_r, m_uI_K, m_uI_N, m_uI_R, m_uI_L, m_uI_I, m_uL_K, m_uL_N, m_uL_R, m_uL_I, m_uL_L, m_uR_K, m_uR_N, m_uR_I, m_uR_L, m_uR_R, true_and, and_true, true_implies, false_implies, not_true_eq_false, not_false_eq_true, if_true, if_false, false_and, and_false]
    rw [br_n hlt]
    refine m_works d z s1 s2 r.2 e M _ hLM hz hb' b2 b3 he hmo b7 b8 (fun M1 g1 => ?_)
    have G1 := gF_trans hM g1
    have hc : lg_cmp (zL (r.2 e)) 1 = t3 (r.2 e) 1 := by
      rw [show (1 : Int64) = zL 1 from rfl]
      exact lgc_z (by rcases bT e with q | q <;> rw [q] <;> unfold sm_ <;> omega) (by unfold sm_; omega)
    simp +decide (disch := omega) only [qX11_ruleOf_0, qX11_ruleOf_1, hc, t3_z, ni_add1, am_w1_i, am_w1_r, am_w1_x, am_w1_l, am_w1_w, va_rf_s, am_push_n, am_push_s, am_cs_0, am_cs_i, am_cs_l, am_cs_r, m_uI_K, m_uI_N, m_uI_R, m_uI_L, m_uI_I, m_uL_K, m_uL_N, m_uL_R, m_uL_I, m_uL_L, m_uR_K, m_uR_N, m_uR_I, m_uR_L, m_uR_R, true_and, and_true, true_implies, false_implies, not_true_eq_false, not_false_eq_true, if_true, if_false, false_and, and_false]
    by_cases c1 : r.2 e = 1
    · rw [br_r c1]
      exact hS k r hr (fstR_at hr hno (by omega)) M1 G1
    · rw [br_q c1]
      exact ih (k + 1) (by omega) (fun j r' hj hr' => by
        by_cases ej : j = k
        · subst ej; cases hr.symm.trans hr'; rcases bT e with q | q <;> omega
        · exact hno j r' (by omega) hr') M1 G1
theorem m_ruleOf (d z kd C R0 p h dp : Nat) (sm : Bool) (R : Rls) (M : am_M) (Q : Option Value → am_M → Prop) (hL : Lay M) (hB : MB M z C R0) (hk : kd ≤ 2) (hp : vld C R0 p) (hh : h ≤ 1000) (hdp : dp ≤ 1000) (hR : RaM M z kd sm R)
    (hN : fstR R (p % 16, p / 16, h, dp) = none → ∀ M', gF sWk nT M M' → Q (some (.int (-1))) M')
    (hS : ∀ k r, R[k]? = some r → fstR R (p % 16, p / 16, h, dp) = some r → ∀ M', gF sWk nT M M' → MoM M' (p % 16, p / 16, h, dp) → Q (some (.int (nI (30 * z + 12 * kd + k)))) M') : am_E am_P0 (d + 3) 221 [.ref 277, .int (nI kd), .int (nI (cel C p)), .int (nI h), .int (nI dp)] M Q := by
  obtain ⟨m1, m2, m3, m4, m5, m6, m7, m8⟩ := hB
  have hcl := cel_lt m6 m8 hp
  have e1 : cel C p % C = p % 16 ∧ cel C p / C = p / 16 := by
    obtain ⟨q, q1, q2, q3, q4⟩ := cel_of (C := C) (R := R0) m6 hcl.1
    have := cel_inj q1 hp q2
    subst this
    exact ⟨q3, q4⟩
  obtain ⟨M1, hM1⟩ : ∃ M1, M1 = uI M 314 1 (nI (p % 16)) := ⟨_, rfl⟩
  have g1 : gF (fun a j => a = 314 ∧ j = 1) nT M M1 := by rw [hM1]; exact gF_i _ ⟨rfl, rfl⟩
  have L1 := gF_LayN g1 hL
  have hco := fun Q => c_m_columnOf (d + 2) (cel C p) M Q hL z C m1 m2 m3 (by omega) m6 hcl.2.1
  have hro := fun Q => c_m_rowOf (d + 2) (cel C p) M1 Q L1 z C (by rw [g1.1 _ _ (by omega)]; exact m1) m2 (by rw [g1.1 _ _ (by omega)]; exact m3) (by omega) m6 hcl.2.1
  rw [e1.1] at hco
  rw [e1.2] at hro
  obtain ⟨M2, hM2⟩ : ∃ M2, M2 = uI (uI (uI M1 314 2 (nI (p / 16))) 314 3 (nI h)) 314 4 (nI dp) := ⟨_, rfl⟩
  have g2 : gF (fun a j => a = 314) nT M M2 := gF_trans (gF_up g1 (fun a j q => q.1) (fun _ _ q => q)) (by rw [hM2]; exact gF_trans (gF_i _ rfl) (gF_trans (gF_i _ rfl) (gF_i _ rfl)))
  have L2 := gF_LayN g2 hL
  have mo : MoM M2 (p % 16, p / 16, h, dp) := by
    refine ⟨?_, ?_, ?_, ?_⟩ <;> rw [hM2, hM1] <;> simp [m_uI_I]
  have heok : eOK (p % 16, p / 16, h, dp) := ⟨by show p % 16 ≤ 1000; omega, by show p / 16 ≤ 1000; omega, hh, hdp⟩
  have hb2 : mI M2 277 12 = nI z := by rw [g2.1 _ _ (by omega)]; exact m1
  have up : ∀ M', gF sHp nT M2 M' → gF sWk nT M M' := fun M' g => gF_trans (gF_up g2 (fun a j q => Or.inr q) (fun _ _ q => q)) (gF_up g (fun a j q => Or.inl q) (fun _ _ q => q))
  have h0 := l_m_ruleOf d z kd (cel C p) h dp sm R _ M2 Q L2 (by omega) hk hb2 heok mo (RaM_g hR g2 (fun a j q w => by omega)) (fun hn M' g => hN hn M' (up M' g)) (fun k r hr hf M' g => hS k r hr hf M' (up M' g) ⟨by rw [g.1 _ _ (by unfold sHp; omega)]; exact mo.1, by rw [g.1 _ _ (by unfold sHp; omega)]; exact mo.2.1, by rw [g.1 _ _ (by unfold sHp; omega)]; exact mo.2.2.1, by rw [g.1 _ _ (by unfold sHp; omega)]; exact mo.2.2.2⟩) R.length 0 (by omega) (fun j r hj => by omega) M2 (gF_refl _ _ _)
  have hfr := fun M Q => m_first (d + 2) kd M Q
  have e3 : (30 : Int32) * nI z + nI (12 * kd) = nI (30 * z + 12 * kd) := by rw [show (30 : Int32) = nI 30 from rfl, ni_mul, ni_add]
  rw [show 30 * z + 12 * kd + 0 = 30 * z + 12 * kd from rfl] at h0
  have t1 : (1 : Int32).toInt.toNat = 1 := rfl
  have t2 : (2 : Int32).toInt.toNat = 2 := rfl
  have t3' : (3 : Int32).toInt.toNat = 3 := rfl
  have t4 : (4 : Int32).toInt.toNat = 4 := rfl
  have m1' : mI M1 277 12 = nI z := by rw [g1.1 _ _ (by omega)]; exact m1
  rw [eX11_ruleOf]
  simp +decide (disch := omega) only [qX11_ruleOf_0, qX11_ruleOf_1, lm hL, hco, t1, ← hM1, am_w1_i, am_w1_r, am_w1_x, am_w1_l, am_w1_w, va_rf_s, am_push_n, am_push_s, am_cs_0, am_cs_i, am_cs_l, am_cs_r, m_uI_K, m_uI_N, m_uI_R, m_uI_L, m_uI_I, m_uL_K, m_uL_N, m_uL_R, m_uL_I, m_uL_L, m_uR_K, m_uR_N, m_uR_I, m_uR_L, m_uR_R, true_and, and_true, true_implies, false_implies, not_true_eq_false, not_false_eq_true, if_true, if_false, false_and, and_false]
  simp +decide (disch := omega) only [qX11_ruleOf_0, qX11_ruleOf_1, lm L1, hro, t2, t3', t4, ← hM2, hfr, m1', e3, am_w1_i, am_w1_r, am_w1_x, am_w1_l, am_w1_w, va_rf_s, am_push_n, am_push_s, am_cs_0, am_cs_i, am_cs_l, am_cs_r, m_uI_K, m_uI_N, m_uI_R, m_uI_L, m_uI_I, m_uL_K, m_uL_N, m_uL_R, m_uL_I, m_uL_L, m_uR_K, m_uR_N, m_uR_I, m_uR_L, m_uR_R, true_and, and_true, true_implies, false_implies, not_true_eq_false, not_false_eq_true, if_true, if_false, false_and, and_false]
  simp +decide (disch := omega) only [qX11_ruleOf_0, qX11_ruleOf_1, lm L2, hb2, e3, am_w1_i, am_w1_r, am_w1_x, am_w1_l, am_w1_w, va_rf_s, am_push_n, am_push_s, am_cs_0, am_cs_i, am_cs_l, am_cs_r, m_uI_K, m_uI_N, m_uI_R, m_uI_L, m_uI_I, m_uL_K, m_uL_N, m_uL_R, m_uL_I, m_uL_L, m_uR_K, m_uR_N, m_uR_I, m_uR_L, m_uR_R, true_and, and_true, true_implies, false_implies, not_true_eq_false, not_false_eq_true, if_true, if_false, false_and, and_false]
  exact h0
end
section
/-! the model: depths and costs; sea() -/
theorem m_sumOf (d z kd C R0 p dp : Nat) (R : Rls) (M : am_M) (Q : Option Value → am_M → Prop) (hL : Lay M) (hB : MB M z C R0) (hk : kd ≤ 1) (hp : vld C R0 p) (hdp : dp ≤ 1000) (hR : RaM M z kd true R)
    (hQ : ∀ M', gF sWk nT M M' → Q (some (.int (nI (sumR R (p % 16, p / 16, 0, dp)).toNat))) M') : am_E am_P0 (d + 4) 222 [.ref 277, .int (nI kd), .int (nI (cel C p)), .int (nI dp)] M Q := by
  have heok : eOK (p % 16, p / 16, 0, dp) := ⟨by show p % 16 ≤ 1000; omega, by
    have := hB.2.2.2.2.2.2.2
    have := hp.2
    show p / 16 ≤ 1000; omega, by show 0 ≤ 1000; omega, hdp⟩
  rw [eX11_sumOf]
  simp +decide only [qX11_sumOf, lm hL, am_w1_i, am_w1_r, am_w1_x, am_w1_l, am_w1_w, va_rf_s, am_push_n, am_push_s, am_cs_0, am_cs_i, am_cs_l, am_cs_r, m_uI_K, m_uI_N, m_uI_R, m_uI_L, m_uI_I, m_uL_K, m_uL_N, m_uL_R, m_uL_I, m_uL_L, m_uR_K, m_uR_N, m_uR_I, m_uR_L, m_uR_R, true_and, and_true, true_implies, false_implies, not_true_eq_false, not_false_eq_true, if_true, if_false, false_and, and_false]
  rw [show (0 : Int32) = nI 0 from rfl]
  refine m_ruleOf d z kd C R0 p 0 dp true R M _ hL hB (by omega) hp (by omega) hdp hR (fun hn M1 g1 => ?_) (fun k r hr hf M1 g1 mo => ?_)
  · have h0 := hQ M1 g1
    have hs : sumR R (p % 16, p / 16, 0, dp) = 0 := by unfold sumR; rw [hn]
    rw [hs] at h0
    have c1 : lg_cmp 0 0 = 0 := by decide
    have c2 : lg_cmp 0 99 = -1 := by decide
    have c3 : (0 : Int64).toInt32 = 0 := by decide
    rw [show nI (0 : Int).toNat = (0 : Int32) from rfl] at h0
    simp +decide only [qX11_sumOf, c1, c2, c3, show nI 0 = (0 : Int32) from rfl, am_w1_i, am_w1_r, am_w1_x, am_w1_l, am_w1_w, va_rf_s, am_push_n, am_push_s, am_cs_0, am_cs_i, am_cs_l, am_cs_r, m_uI_K, m_uI_N, m_uI_R, m_uI_L, m_uI_I, m_uL_K, m_uL_N, m_uL_R, m_uL_I, m_uL_L, m_uR_K, m_uR_N, m_uR_I, m_uR_L, m_uR_R, true_and, and_true, true_implies, false_implies, not_true_eq_false, not_false_eq_true, if_true, if_false, false_and, and_false]
    exact h0
  · have L1 := gF_LayN g1 hL
    have hkl := (List.getElem?_eq_some_iff.mp hr).1
    have hR1 := RaM_g hR g1 (fun a j q w => by unfold sWk at w; omega)
    have h12 := hR.1
    obtain ⟨s0, s1, s2, b1, b2, b3, b4, b5, b6, b7, b8, bT, b9⟩ := hR1.2.2 k r hr
    obtain ⟨q1, q2, q3⟩ := b9 rfl
    have hz : z ≤ 1 := by have := hB.2.1; omega
    have hb1 : mI M1 277 12 = nI z := by rw [g1.1 _ _ (by unfold sWk; omega)]; exact hB.1
    have hne : ¬ nI (30 * z + 12 * kd + k) = -1 := nI_m1 (by omega)
    simp +decide (disch := omega) only [qX11_sumOf, lm L1, b4, b5, ni_in_t, ni_tn, am_w1_i, am_w1_r, am_w1_x, am_w1_l, am_w1_w, va_rf_s, am_push_n, am_push_s, am_cs_0, am_cs_i, am_cs_l, am_cs_r, m_uI_K, m_uI_N, m_uI_R, m_uI_L, m_uI_I, m_uL_K, m_uL_N, m_uL_R, m_uL_I, m_uL_L, m_uR_K, m_uR_N, m_uR_I, m_uR_L, m_uR_R, true_and, and_true, true_implies, false_implies, not_true_eq_false, not_false_eq_true, if_true, if_false, false_and, and_false]
    rw [br_q hne]
    have hin : am_in (nI (30 * z + 12 * kd + k)) 60 = True := ni_in_t (by omega) (by omega)
    refine m_works (d + 1) z s0 s1 r.1 _ M1 _ L1 hz hb1 b1 (by omega) heok mo q1 q2 (fun M2 g2 => ?_)
    have G2 : gF sWk nT M M2 := gF_trans g1 (gF_up g2 (fun a j q => Or.inl q) (fun _ _ q => q))
    have h0 := hQ M2 G2
    have hs : sumR R (p % 16, p / 16, 0, dp) = max 0 (min 99 (r.1 (p % 16, p / 16, 0, dp))) := by unfold sumR; rw [hf]
    rw [hs] at h0
    have hbd := q3 _ heok
    generalize r.1 (p % 16, p / 16, 0, dp) = y at hbd h0 ⊢
    have c1 : lg_cmp (zL y) 0 = t3 y 0 := lgc_z (b := 0) (sm_6 hbd.1 hbd.2) (by unfold sm_; omega)
    have c2 : lg_cmp (zL y) 99 = t3 y 99 := by
      rw [show (99 : Int64) = zL 99 from rfl]
      exact lgc_z (sm_6 hbd.1 hbd.2) (by unfold sm_; omega)
    simp +decide only [qX11_sumOf, c1, c2, t3_z, t3_n, t3_p, t3_np, t3_nn, am_w1_i, am_w1_r, am_w1_x, am_w1_l, am_w1_w, va_rf_s, am_push_n, am_push_s, am_cs_0, am_cs_i, am_cs_l, am_cs_r, m_uI_K, m_uI_N, m_uI_R, m_uI_L, m_uI_I, m_uL_K, m_uL_N, m_uL_R, m_uL_I, m_uL_L, m_uR_K, m_uR_N, m_uR_I, m_uR_L, m_uR_R, true_and, and_true, true_implies, false_implies, not_true_eq_false, not_false_eq_true, if_true, if_false, false_and, and_false]
    by_cases y0 : 0 ≤ y
    · rw [br_p y0]
      by_cases y9 : y ≤ 99
      · rw [br_p y9, zLI (by omega) (by omega)]
        have e : max 0 (min 99 y) = ((y.toNat : Nat) : Int) := by omega
        have e2 : (max 0 (min 99 y)).toNat = y.toNat := by omega
        rw [e2] at h0
        have e3 : zI y = nI y.toNat := by rw [← zI_n]; congr 1; omega
        rw [e3]
        exact h0
      · rw [br_n y9]
        have e2 : (max 0 (min 99 y)).toNat = 99 := by omega
        rw [e2] at h0
        exact h0
    · rw [br_n y0]
      have e2 : (max 0 (min 99 y)).toNat = 0 := by omega
      rw [e2] at h0
      exact h0
def sLy (a _j : Nat) : Prop := a = 313 ∨ a = 314 ∨ a = 315 ∨ a = 316
/-- depths and costs of the model's sea -/
def DcM (M : am_M) (C R : Nat) (Rd Rc : Rls) : Prop := ∀ p, vld C R p → mI M 315 (cel C p) = nI (dpF C R Rd p) ∧ mI M 316 (cel C p) = nI (csF C R Rd Rc p)
theorem l_m_lays (d z C R : Nat) (Rd Rc : Rls) (M0 : am_M) (Q : Option Value → am_M → Prop) (hL : Lay M0) (hB : MB M0 z C R) (hd : RaM M0 z 0 true Rd) (hc : RaM M0 z 1 true Rc)
    (hQ : ∀ M', gF sLy nT M0 M' → DcM M' C R Rd Rc → Q none M') :
    ∀ (m c : Nat), c + m = C * R → ∀ (M : am_M), gF sLy nT M0 M → (∀ p, vld C R p → cel C p < c → mI M 315 (cel C p) = nI (dpF C R Rd p) ∧ mI M 316 (cel C p) = nI (csF C R Rd Rc p)) → am_P am_P0 (d + 5) (am_look tX11_lays) 2 [.ref 277, .int (nI c)] [] M Q := by
  have hB0 := hB
  obtain ⟨b1, b2, b3, b4, b5, b6, b7, b8⟩ := hB0
  have hcr : C * R ≤ 16 * 16 := Nat.mul_le_mul b6 b8
  have kB : ∀ M, gF sLy nT M0 M → MB M z C R := fun M g => ⟨by rw [g.1 _ _ (by unfold sLy; omega)]; exact b1, b2, by rw [g.1 _ _ (by unfold sLy; omega)]; exact b3, by rw [g.1 _ _ (by unfold sLy; omega)]; exact b4, b5, b6, b7, b8⟩
  intro m
  induction m with
  | zero =>
    intro c hcm M hM hall
    have ec : c = C * R := by omega
    have hLM := gF_LayN hM hL
    have hB1 := kB M hM
    have hce := fun Q => c_m_cells (d + 4) M Q hLM z C R hB1.1 hB1.2.1 hB1.2.2.1 hB1.2.2.2.1
    have hle : nI (C * R) ≤ nI c := (ni_le (by omega) (by omega)).mpr (by omega)
    have h0 := hQ M hM (fun p hp => hall p hp (by have := (cel_lt b6 b8 hp).1; omega))
    rw [hX11_lays_2]
    simp +decide (disch := omega) only [qX11_lays, lm hLM, hce, am_w1_i, am_w1_r, am_w1_x, am_w1_l, am_w1_w, va_rf_s, am_push_n, am_push_s, am_cs_0, am_cs_i, am_cs_l, am_cs_r, m_uI_K, m_uI_N, m_uI_R, m_uI_L, m_uI_I, m_uL_K, m_uL_N, m_uL_R, m_uL_I, m_uL_L, m_uR_K, m_uR_N, m_uR_I, m_uR_L, m_uR_R, true_and, and_true, true_implies, false_implies, not_true_eq_false, not_false_eq_true, if_true, if_false, false_and, and_false]
    rw [br_p hle]
    exact h0
  | succ m ih =>
    intro c hcm M hM hall
    have hLM := gF_LayN hM hL
    have hB1 := kB M hM
    have hce := fun Q => c_m_cells (d + 4) M Q hLM z C R hB1.1 hB1.2.1 hB1.2.2.1 hB1.2.2.2.1
    have hlt : ¬ nI (C * R) ≤ nI c := by rw [ni_le (by omega) (by omega)]; omega
    have hc256 : c < 256 := by omega
    obtain ⟨p, hp, hpe, -, -⟩ := cel_of (C := C) (R := R) b6 (show c < C * R by omega)
    rw [hX11_lays_2]
    simp +decide (disch := omega) only [qX11_lays, lm hLM, hce, am_w1_i, am_w1_r, am_w1_x, am_w1_l, am_w1_w, va_rf_s, am_push_n, am_push_s, am_cs_0, am_cs_i, am_cs_l, am_cs_r, m_uI_K, m_uI_N, m_uI_R, m_uI_L, m_uI_I, m_uL_K, m_uL_N, m_uL_R, m_uL_I, m_uL_L, m_uR_K, m_uR_N, m_uR_I, m_uR_L, m_uR_R, true_and, and_true, true_implies, false_implies, not_true_eq_false, not_false_eq_true, if_true, if_false, false_and, and_false]
    rw [br_n hlt]
    have hd1 := RaM_g hd hM (fun a j q w => by unfold sLy at w; omega)
    rw [← hpe]
    refine m_sumOf d z 0 C R p 0 Rd M _ hLM hB1 (by omega) hp (by omega) hd1 (fun M1 g1 => ?_)
    have G1 : gF sLy nT M0 M1 := gF_trans hM (gF_up g1 (fun a j q => by unfold sWk at q; unfold sLy; omega) (fun _ _ q => q))
    have L1 := gF_LayN G1 hL
    have edp : (sumR Rd (p % 16, p / 16, 0, 0)).toNat = dpF C R Rd p := by unfold dpF; rw [if_pos hp]
    rw [edp]
    have hcl := cel_lt b6 b8 hp
    obtain ⟨A1, hA1⟩ : ∃ A1, A1 = uI M1 315 (cel C p) (nI (dpF C R Rd p)) := ⟨_, rfl⟩
    have w1 : gF (fun a j => a = 315 ∧ j = cel C p) nT M1 A1 := by rw [hA1]; exact gF_i _ ⟨rfl, rfl⟩
    have GA : gF sLy nT M0 A1 := gF_trans G1 (gF_up w1 (fun a j q => by unfold sLy; omega) (fun _ _ q => q))
    have LA := gF_LayN GA hL
    have v1 : mI A1 315 (cel C p) = nI (dpF C R Rd p) := by rw [hA1, m_uI_I, if_pos ⟨rfl, rfl⟩]
    have hBA := kB A1 GA
    have hcA := RaM_g hc GA (fun a j q w => by unfold sLy at w; omega)
    have hdp99 : dpF C R Rd p ≤ 99 := by
      rw [← edp]
      have := sumR_bd Rd (p % 16, p / 16, 0, 0)
      omega
    simp +decide (disch := omega) only [qX11_lays, lm L1, ni_in_t, ni_tn, ← hA1, am_w1_i, am_w1_r, am_w1_x, am_w1_l, am_w1_w, va_rf_s, am_push_n, am_push_s, am_cs_0, am_cs_i, am_cs_l, am_cs_r, m_uI_K, m_uI_N, m_uI_R, m_uI_L, m_uI_I, m_uL_K, m_uL_N, m_uL_R, m_uL_I, m_uL_L, m_uR_K, m_uR_N, m_uR_I, m_uR_L, m_uR_R, true_and, and_true, true_implies, false_implies, not_true_eq_false, not_false_eq_true, if_true, if_false, false_and, and_false]
    simp +decide (disch := omega) only [qX11_lays, lm LA, v1, ni_in_t, ni_tn, am_w1_i, am_w1_r, am_w1_x, am_w1_l, am_w1_w, va_rf_s, am_push_n, am_push_s, am_cs_0, am_cs_i, am_cs_l, am_cs_r, m_uI_K, m_uI_N, m_uI_R, m_uI_L, m_uI_I, m_uL_K, m_uL_N, m_uL_R, m_uL_I, m_uL_L, m_uR_K, m_uR_N, m_uR_I, m_uR_L, m_uR_R, true_and, and_true, true_implies, false_implies, not_true_eq_false, not_false_eq_true, if_true, if_false, false_and, and_false]
    refine m_sumOf d z 1 C R p (dpF C R Rd p) Rc A1 _ LA hBA (by omega) hp (by omega) hcA (fun M2 g2 => ?_)
    have G2 : gF sLy nT M0 M2 := gF_trans GA (gF_up g2 (fun a j q => by unfold sWk at q; unfold sLy; omega) (fun _ _ q => q))
    have L2 := gF_LayN G2 hL
    have ecs : (sumR Rc (p % 16, p / 16, 0, dpF C R Rd p)).toNat = csF C R Rd Rc p := rfl
    rw [ecs]
    have w2 : gF (fun a j => a = 316 ∧ j = cel C p) nT M2 (uI M2 316 (cel C p) (nI (csF C R Rd Rc p))) := gF_i _ ⟨rfl, rfl⟩
    have h0 := ih (c + 1) (by omega) (uI M2 316 (cel C p) (nI (csF C R Rd Rc p))) (gF_trans G2 (gF_up w2 (fun a j q => by unfold sLy; omega) (fun _ _ q => q))) (fun p' hp' hlt' => by
      by_cases ep : p' = p
      · subst ep
        exact ⟨by rw [w2.1 _ _ (by omega), g2.1 _ _ (by unfold sWk; omega)]; exact v1, by rw [m_uI_I, if_pos ⟨rfl, rfl⟩]⟩
      · have hne : ¬ cel C p' = cel C p := fun q => ep (cel_inj hp' hp q)
        obtain ⟨k1, k2⟩ := hall p' hp' (by omega)
        exact ⟨by rw [w2.1 _ _ (by omega), g2.1 _ _ (by unfold sWk; omega), w1.1 _ _ (by omega), g1.1 _ _ (by unfold sWk; omega)]; exact k1, by rw [w2.1 _ _ (by omega), g2.1 _ _ (by unfold sWk; omega), w1.1 _ _ (by omega), g1.1 _ _ (by unfold sWk; omega)]; exact k2⟩)
    rw [← hpe] at h0
    simp +decide (disch := omega) only [qX11_lays, lm L2, ni_in_t, ni_tn, ni_add1, am_w1_i, am_w1_r, am_w1_x, am_w1_l, am_w1_w, va_rf_s, am_push_n, am_push_s, am_cs_0, am_cs_i, am_cs_l, am_cs_r, m_uI_K, m_uI_N, m_uI_R, m_uI_L, m_uI_I, m_uL_K, m_uL_N, m_uL_R, m_uL_I, m_uL_L, m_uR_K, m_uR_N, m_uR_I, m_uR_L, m_uR_R, true_and, and_true, true_implies, false_implies, not_true_eq_false, not_false_eq_true, if_true, if_false, false_and, and_false]
    exact h0
theorem m_lays (d z C R : Nat) (Rd Rc : Rls) (M : am_M) (Q : Option Value → am_M → Prop) (hL : Lay M) (hB : MB M z C R) (hd : RaM M z 0 true Rd) (hc : RaM M z 1 true Rc)
    (hQ : ∀ M', gF sLy nT M M' → DcM M' C R Rd Rc → Q none M') : am_E am_P0 (d + 5) 223 [.ref 277] M Q := by
  have h0 := l_m_lays d z C R Rd Rc M Q hL hB hd hc hQ (C * R) 0 (by omega) M (gF_refl _ _ _) (fun p hp h => by omega)
  rw [eX11_lays]
  simp +decide only [qX11_lays, am_w1_i, am_w1_r, am_w1_x, am_w1_l, am_w1_w, va_rf_s, am_push_n, am_push_s, am_cs_0, am_cs_i, am_cs_l, am_cs_r, m_uI_K, m_uI_N, m_uI_R, m_uI_L, m_uI_I, m_uL_K, m_uL_N, m_uL_R, m_uL_I, m_uL_L, m_uR_K, m_uR_N, m_uR_I, m_uR_L, m_uR_R, true_and, and_true, true_implies, false_implies, not_true_eq_false, not_false_eq_true, if_true, if_false, false_and, and_false]
  exact h0
/-- is a place quiet at an hour -/
theorem m_isQuiet (d z C R p h : Nat) (Rd Rc Rq : Rls) (M : am_M) (Q : Option Value → am_M → Prop) (hL : Lay M) (hB : MB M z C R) (hD : DcM M C R Rd Rc) (hq : RaM M z 2 false Rq) (hp : vld C R p) (hh : h ≤ 1000)
    (hQ : ∀ M', gF sWk nT M M' → Q (some (.int (tI (qtF C R Rd Rq p h)))) M') : am_E am_P0 (d + 4) 224 [.ref 277, .int (nI (cel C p)), .int (nI h)] M Q := by
  have hcl := cel_lt hB.2.2.2.2.2.1 hB.2.2.2.2.2.2.2 hp
  have hdp99 : dpF C R Rd p ≤ 99 := by
    unfold dpF
    rw [if_pos hp]
    have := sumR_bd Rd (p % 16, p / 16, 0, 0)
    omega
  rw [eX11_isQuiet]
  simp +decide (disch := omega) only [qX11_isQuiet, lm hL, (hD p hp).1, ni_in_t, ni_tn, am_w1_i, am_w1_r, am_w1_x, am_w1_l, am_w1_w, va_rf_s, am_push_n, am_push_s, am_cs_0, am_cs_i, am_cs_l, am_cs_r, m_uI_K, m_uI_N, m_uI_R, m_uI_L, m_uI_I, m_uL_K, m_uL_N, m_uL_R, m_uL_I, m_uL_L, m_uR_K, m_uR_N, m_uR_I, m_uR_L, m_uR_R, true_and, and_true, true_implies, false_implies, not_true_eq_false, not_false_eq_true, if_true, if_false, false_and, and_false]
  refine m_ruleOf d z 2 C R p h (dpF C R Rd p) false Rq M _ hL hB (by omega) hp hh (by omega) hq (fun hn M1 g1 => ?_) (fun k r hr hf M1 g1 mo => ?_)
  · have h0 := hQ M1 g1
    rw [tI_f (fun w => w hn)] at h0
    simp +decide only [qX11_isQuiet, am_w1_i, am_w1_r, am_w1_x, am_w1_l, am_w1_w, va_rf_s, am_push_n, am_push_s, am_cs_0, am_cs_i, am_cs_l, am_cs_r, m_uI_K, m_uI_N, m_uI_R, m_uI_L, m_uI_I, m_uL_K, m_uL_N, m_uL_R, m_uL_I, m_uL_L, m_uR_K, m_uR_N, m_uR_I, m_uR_L, m_uR_R, true_and, and_true, true_implies, false_implies, not_true_eq_false, not_false_eq_true, if_true, if_false, false_and, and_false]
    exact h0
  · have h0 := hQ M1 g1
    have hkl := (List.getElem?_eq_some_iff.mp hr).1
    have h12 := hq.1
    have hz := hB.2.1
    have hqt : qtF C R Rd Rq p h := by
      unfold qtF
      rw [hf]
      exact fun w => by cases w
    rw [tI_t hqt] at h0
    simp +decide only [qX11_isQuiet, am_w1_i, am_w1_r, am_w1_x, am_w1_l, am_w1_w, va_rf_s, am_push_n, am_push_s, am_cs_0, am_cs_i, am_cs_l, am_cs_r, m_uI_K, m_uI_N, m_uI_R, m_uI_L, m_uI_I, m_uL_K, m_uL_N, m_uL_R, m_uL_I, m_uL_L, m_uR_K, m_uR_N, m_uR_I, m_uR_L, m_uR_R, true_and, and_true, true_implies, false_implies, not_true_eq_false, not_false_eq_true, if_true, if_false, false_and, and_false]
    rw [br_n (nI_m1 (by omega))]
    exact h0
end
section
/-! the model: sea() -/
/-- what the model's sea() changes -/
def sSo (z a j : Nat) : Prop := sSm z a j ∨ (a = 277 ∧ (j = 1 ∨ j = 2 ∨ j = 10 ∨ j = 11 ∨ j = 12 ∨ j = 41)) ∨ (a = 312 ∧ j = 1) ∨ (313 ≤ a ∧ a ≤ 316)
theorem l_m_sea40 (d z : Nat) (M0 : am_M) (Q : Option Value → am_M → Prop) (hL : Lay M0) (hz : z ≤ 1) (h41 : mI M0 277 41 = nI z)
    (hN : ∀ M', gF (fun a j => a = 281 ∧ 3 * z ≤ j ∧ j < 3 * z + 3) nT M0 M' → (∀ j, j < 3 → mI M' 281 (3 * z + j) = 0) → am_P am_P0 d (am_look tX11_sea) 67 [.ref 277, .int 0] [] M' Q) :
    ∀ (m k : Nat), k + m = 3 → ∀ (M : am_M), gF (fun a j => a = 281 ∧ 3 * z ≤ j ∧ j < 3 * z + 3) nT M0 M → (∀ j, j < k → mI M 281 (3 * z + j) = 0) → am_P am_P0 d (am_look tX11_sea) 40 [.ref 277, .int (nI k)] [] M Q := by
  intro m
  induction m with
  | zero =>
    intro k hk M hM hall
    have ek : k = 3 := by omega
    subst ek
    rw [hX11_sea_40]
    have h0 := hN M hM hall
    simp +decide only [qX11_sea_0, qX11_sea_1, qX11_sea_2, qX11_sea_3, am_w1_i, am_w1_r, am_w1_x, am_w1_l, am_w1_w, va_rf_s, am_push_n, am_push_s, am_cs_0, am_cs_i, am_cs_l, am_cs_r, m_uI_K, m_uI_N, m_uI_R, m_uI_L, m_uI_I, m_uL_K, m_uL_N, m_uL_R, m_uL_I, m_uL_L, m_uR_K, m_uR_N, m_uR_I, m_uR_L, m_uR_R, true_and, and_true, true_implies, false_implies, not_true_eq_false, not_false_eq_true, if_true, if_false, false_and, and_false]
    exact h0
  | succ m ih =>
    intro k hk M hM hall
    have hLM := gF_LayN hM hL
    have h1 : mI M 277 41 = nI z := by rw [hM.1 _ _ (by omega)]; exact h41
    have hlt : ¬ (3 : Int32) ≤ nI k := by rw [show (3 : Int32) = nI 3 from rfl, ni_le (by omega) (by omega)]; omega
    have e : (3 : Int32) * nI z + nI k = nI (3 * z + k) := by rw [show (3 : Int32) = nI 3 from rfl, ni_mul, ni_add]
    have w1 : gF (fun a j => a = 281 ∧ 3 * z ≤ j ∧ j < 3 * z + 3) nT M (uI M 281 (3 * z + k) 0) := gF_i _ ⟨rfl, by omega, by omega⟩
    have h0 := ih (k + 1) (by omega) (uI M 281 (3 * z + k) 0) (gF_trans hM w1) (fun j hj => by
      rw [m_uI_I]
      by_cases e : j = k
      · subst e; rw [if_pos ⟨rfl, rfl⟩]
      · rw [if_neg (by omega)]; exact hall j (by omega))
    rw [hX11_sea_40]
    simp +decide (disch := omega) only [qX11_sea_0, qX11_sea_1, qX11_sea_2, qX11_sea_3, lm hLM, h1, e, ni_in_t, ni_tn, ni_add1, am_w1_i, am_w1_r, am_w1_x, am_w1_l, am_w1_w, va_rf_s, am_push_n, am_push_s, am_cs_0, am_cs_i, am_cs_l, am_cs_r, m_uI_K, m_uI_N, m_uI_R, m_uI_L, m_uI_I, m_uL_K, m_uL_N, m_uL_R, m_uL_I, m_uL_L, m_uR_K, m_uR_N, m_uR_I, m_uR_L, m_uR_R, true_and, and_true, true_implies, false_implies, not_true_eq_false, not_false_eq_true, if_true, if_false, false_and, and_false]
    rw [br_n hlt]
    exact h0
theorem l_m_sea67 (d z : Nat) (M0 : am_M) (Q : Option Value → am_M → Prop) (hL : Lay M0) (hz : z ≤ 1) (h41 : mI M0 277 41 = nI z)
    (hN : ∀ M', gF (fun a j => a = 292 ∧ 384 * z ≤ j ∧ j < 384 * z + 384) nT M0 M' → (∀ j, j < 384 → mI M' 292 (384 * z + j) = -1) → am_P am_P0 d (am_look tX11_sea) 96 [.ref 277, .int 384] [] M' Q) :
    ∀ (m k : Nat), k + m = 384 → ∀ (M : am_M), gF (fun a j => a = 292 ∧ 384 * z ≤ j ∧ j < 384 * z + 384) nT M0 M → (∀ j, j < k → mI M 292 (384 * z + j) = -1) → am_P am_P0 d (am_look tX11_sea) 67 [.ref 277, .int (nI k)] [] M Q := by
  intro m
  induction m with
  | zero =>
    intro k hk M hM hall
    have ek : k = 384 := by omega
    subst ek
    rw [hX11_sea_67]
    have h0 := hN M hM hall
    simp +decide only [qX11_sea_0, qX11_sea_1, qX11_sea_2, qX11_sea_3, show nI 384 = (384 : Int32) from rfl, am_w1_i, am_w1_r, am_w1_x, am_w1_l, am_w1_w, va_rf_s, am_push_n, am_push_s, am_cs_0, am_cs_i, am_cs_l, am_cs_r, m_uI_K, m_uI_N, m_uI_R, m_uI_L, m_uI_I, m_uL_K, m_uL_N, m_uL_R, m_uL_I, m_uL_L, m_uR_K, m_uR_N, m_uR_I, m_uR_L, m_uR_R, true_and, and_true, true_implies, false_implies, not_true_eq_false, not_false_eq_true, if_true, if_false, false_and, and_false] at h0 ⊢
    exact h0
  | succ m ih =>
    intro k hk M hM hall
    have hLM := gF_LayN hM hL
    have h1 : mI M 277 41 = nI z := by rw [hM.1 _ _ (by omega)]; exact h41
    have hlt : ¬ (384 : Int32) ≤ nI k := by rw [show (384 : Int32) = nI 384 from rfl, ni_le (by omega) (by omega)]; omega
    have e : (384 : Int32) * nI z + nI k = nI (384 * z + k) := by rw [show (384 : Int32) = nI 384 from rfl, ni_mul, ni_add]
    have w1 : gF (fun a j => a = 292 ∧ 384 * z ≤ j ∧ j < 384 * z + 384) nT M (uI M 292 (384 * z + k) (-1)) := gF_i _ ⟨rfl, by omega, by omega⟩
    have h0 := ih (k + 1) (by omega) (uI M 292 (384 * z + k) (-1)) (gF_trans hM w1) (fun j hj => by
      rw [m_uI_I]
      by_cases e : j = k
      · subst e; rw [if_pos ⟨rfl, rfl⟩]
      · rw [if_neg (by omega)]; exact hall j (by omega))
    rw [hX11_sea_67]
    simp +decide (disch := omega) only [qX11_sea_0, qX11_sea_1, qX11_sea_2, qX11_sea_3, lm hLM, h1, e, ni_in_t, ni_tn, ni_add1, am_w1_i, am_w1_r, am_w1_x, am_w1_l, am_w1_w, va_rf_s, am_push_n, am_push_s, am_cs_0, am_cs_i, am_cs_l, am_cs_r, m_uI_K, m_uI_N, m_uI_R, m_uI_L, m_uI_I, m_uL_K, m_uL_N, m_uL_R, m_uL_I, m_uL_L, m_uR_K, m_uR_N, m_uR_I, m_uR_L, m_uR_R, true_and, and_true, true_implies, false_implies, not_true_eq_false, not_false_eq_true, if_true, if_false, false_and, and_false]
    rw [br_n hlt]
    exact h0
/-- what the model's bank b tells -/
def MdM (M : am_M) (b : Nat) (D : Dat) : Prop := (mI M 277 12 = nI b ∧ b < 2) ∧ (mI M 279 b = nI (dC D) ∧ mI M 280 b = nI (dR D)) ∧ mI M 303 b = nI (dLk D) ∧ ShpM M b (dSh D) ∧ SysM M b D ∧ BkM M b (dC D) (dBk D) ∧ SgM M b (dC D) (dSg D) ∧ (RaM M b 0 true (dRd D) ∧ RaM M b 1 true (dRc D) ∧ RaM M b 2 false (dRq D)) ∧ DcM M (dC D) (dR D) (dRd D) (dRc D)
section
variable {T : Nat → Nat} {n b : Nat}
/-- behind the reading -/
theorem l_m_seaF (d : Nat) (M0 M : am_M) (x : Int32) (e : Nat × Nat) (Q : Option Value → am_M → Prop) (hL0 : Lay M0) (g : gF (sSo (1 - b)) nT M0 M) (h1 : mI M 277 1 = 0) (hF : FtM M T n e.1 e.2) (h312 : mI M 312 1 = mI M0 312 1)
    (hQ : ∀ M', gF (sSo (1 - b)) nT M0 M' → mI M' 277 1 = 0 → mI M' 277 10 = nI e.1 → mI M' 277 11 = nI e.2 → mI M' 312 1 = mI M0 312 1 + 1 → mI M' 277 12 = mI M 277 12 → (∀ a j, 313 ≤ a → mI M' a j = mI M a j) → Q (some (.int (-1))) M') : am_P am_P0 (d + 1) (am_look tX11_sea) 186 [.ref 277, .int x] [] M Q := by
  have hL := gF_LayN g hL0
  have hp := FtM_pos hF
  obtain ⟨A, hA⟩ : ∃ A, A = uI (uI M 277 10 (mI M 277 8)) 277 11 (mI M 277 9) := ⟨_, rfl⟩
  have w1 : gF (sSo (1 - b)) nT M A := by rw [hA]; exact gF_trans (gF_i _ (Or.inr (Or.inl ⟨rfl, by omega⟩))) (gF_i _ (Or.inr (Or.inl ⟨rfl, by omega⟩)))
  have LA := gF_LayN w1 hL
  have a8 : mI A 277 8 = mI M 277 8 := by rw [hA, m_uI_I, if_neg (by omega), m_uI_I, if_neg (by omega)]
  have a10 : mI A 277 10 = mI M 277 8 := by rw [hA, m_uI_I, if_neg (by omega), m_uI_I, if_pos ⟨rfl, rfl⟩]
  have a11 : mI A 277 11 = mI M 277 9 := by rw [hA, m_uI_I, if_pos ⟨rfl, rfl⟩]
  have a1 : mI A 277 1 = mI M 277 1 := by rw [hA, m_uI_I, if_neg (by omega), m_uI_I, if_neg (by omega)]
  have a12 : mI A 277 12 = mI M 277 12 := by rw [hA, m_uI_I, if_neg (by omega), m_uI_I, if_neg (by omega)]
  have a312 : mI A 312 1 = mI M 312 1 := by rw [hA, m_uI_I, if_neg (by omega), m_uI_I, if_neg (by omega)]
  have hr := fun Q => c_m_refuses d 1 (by omega) A Q LA
  rw [← ni_1] at hr
  have hpA : ¬ mI A 277 8 ≤ 0 := by rw [a8]; exact hp.2.2
  have h0 := hQ (uI A 312 1 (mI A 312 1 + 1)) (gF_trans (gF_trans g w1) (gF_i _ (Or.inr (Or.inr (Or.inl ⟨rfl, rfl⟩))))) (by rw [m_uI_I, if_neg (by omega), a1]; exact h1) (by rw [m_uI_I, if_neg (by omega), a10]; exact hF.2.1) (by rw [m_uI_I, if_neg (by omega), a11]; exact hF.2.2.2) (by rw [m_uI_I, if_pos ⟨rfl, rfl⟩, a312, h312]) (by rw [m_uI_I, if_neg (by omega), a12]) (fun a j ha => by rw [m_uI_I, if_neg (by omega), hA, m_uI_I, if_neg (by omega), m_uI_I, if_neg (by omega)])
  have e9 : mI (uI M 277 10 (mI M 277 8)) 277 9 = mI M 277 9 := by rw [m_uI_I, if_neg (by omega)]
  simp +decide only [qX11_sea_0, qX11_sea_1, qX11_sea_2, qX11_sea_3, lm hL, am_w1_i, am_w1_r, am_w1_x, am_w1_l, am_w1_w, va_rf_s, am_push_n, am_push_s, am_cs_0, am_cs_i, am_cs_l, am_cs_r, m_uI_K, m_uI_N, m_uI_R, m_uI_L, m_uI_I, m_uL_K, m_uL_N, m_uL_R, m_uL_I, m_uL_L, m_uR_K, m_uR_N, m_uR_I, m_uR_L, m_uR_R, true_and, and_true, true_implies, false_implies, not_true_eq_false, not_false_eq_true, if_true, if_false, false_and, and_false, ← hA]
  simp +decide only [qX11_sea_0, qX11_sea_1, qX11_sea_2, qX11_sea_3, lm LA, hr, am_w1_i, am_w1_r, am_w1_x, am_w1_l, am_w1_w, va_rf_s, am_push_n, am_push_s, am_cs_0, am_cs_i, am_cs_l, am_cs_r, m_uI_K, m_uI_N, m_uI_R, m_uI_L, m_uI_I, m_uL_K, m_uL_N, m_uL_R, m_uL_I, m_uL_L, m_uR_K, m_uR_N, m_uR_I, m_uR_L, m_uR_R, true_and, and_true, true_implies, false_implies, not_true_eq_false, not_false_eq_true, if_true, if_false, false_and, and_false]
  rw [br_n hpA]
  exact h0
end
section
variable {T : Nat → Nat} {n b : Nat}
def sE3 (a j : Nat) : Prop := (a = 277 ∧ (j = 10 ∨ j = 11 ∨ j = 12)) ∨ sLy a j
theorem l_m_seaN (d c : Nat) (t : Tok) (D : Dat) (M0 M : am_M) (x : Int32) (Q : Option Value → am_M → Prop) (hL0 : Lay M0) (hb2 : b < 2) (g : gF (sSo (1 - b)) nT M0 M) (h1 : mI M 277 1 = 0) (hG : GdM T n (1 - b) M D c t) (hC : 1 ≤ dC D) (hR : 1 ≤ dR D)
    (hQ : ∀ M', gF (sSo (1 - b)) nT M0 M' → mI M' 277 1 = 0 → mI M' 277 10 = 0 → mI M' 277 11 = -1 → mI M' 312 1 = mI M 312 1 → MdM M' (1 - b) D → DOK D → Q (some (.int x)) M') : am_P am_P0 (d + 6) (am_look tX11_sea) 186 [.ref 277, .int x] [] M Q := by
  obtain ⟨hL, hRd, hP, hD, hc⟩ := hG
  obtain ⟨hCR, p1, p2, p3, p4, p5, ⟨r1, r2, r3⟩, hFm⟩ := id hP
  have h41 := hFm.2.2.1
  have hc18 := hFm.2.1
  obtain ⟨A, hA⟩ : ∃ A, A = uI (uI (uI M 277 10 0) 277 11 (-1)) 277 12 (nI (1 - b)) := ⟨_, rfl⟩
  have w1 : gF sE3 nT M A := by rw [hA]; exact gF_trans (gF_trans (gF_i _ (Or.inl ⟨rfl, by omega⟩)) (gF_i _ (Or.inl ⟨rfl, by omega⟩))) (gF_i _ (Or.inl ⟨rfl, by omega⟩))
  have LA := gF_LayN w1 hL
  have kS : ∀ a j, sE3 a j → ¬ (279 ≤ a ∧ a ≤ 303) ∧ ¬ ((a = 304 ∨ a = 305) ∧ 1800 * (1 - b) ≤ j ∧ j < 1800 * (1 - b) + c) := fun a j q => by unfold sE3 sLy at q; omega
  have kF : ∀ M', gF sE3 nT M M' → FmM M' (1 - b) c := fun M' q => ⟨by rw [q.1 _ _ (by unfold sE3 sLy; omega)]; exact hFm.1, hFm.2.1, by rw [q.1 _ _ (by unfold sE3 sLy; omega)]; exact h41, hFm.2.2.2⟩
  have a12 : mI A 277 12 = nI (1 - b) := by rw [hA, m_uI_I, if_pos ⟨rfl, rfl⟩]
  have hPA := PdM_g hP hD w1 kS (kF A w1) (Nat.le_refl c)
  obtain ⟨hCRA, q1, q2, q3, q4, q5, ⟨s1, s2, s3⟩, -⟩ := id hPA
  have hB : MB A (1 - b) (dC D) (dR D) := ⟨a12, by omega, hCRA.1, hCRA.2, hC, hD.1.1, hR, hD.1.2⟩
  obtain ⟨-, -, -, -, -, -, -, -, o1, o2, o3⟩ := id hD
  have e1 : nI (1 - b) = mI M 277 41 := h41.symm
  have h8 : mI M 277 8 = 0 := hRd.2.1
  have h9 : mI M 277 9 = -1 := hRd.2.2.1
  simp +decide only [qX11_sea_0, qX11_sea_1, qX11_sea_2, qX11_sea_3, lm hL, h8, h9, h41, am_w1_i, am_w1_r, am_w1_x, am_w1_l, am_w1_w, va_rf_s, am_push_n, am_push_s, am_cs_0, am_cs_i, am_cs_l, am_cs_r, m_uI_K, m_uI_N, m_uI_R, m_uI_L, m_uI_I, m_uL_K, m_uL_N, m_uL_R, m_uL_I, m_uL_L, m_uR_K, m_uR_N, m_uR_I, m_uR_L, m_uR_R, true_and, and_true, true_implies, false_implies, not_true_eq_false, not_false_eq_true, if_true, if_false, false_and, and_false, ← hA]
  refine ⟨(lm LA).1, ?_⟩
  refine m_lays d (1 - b) (dC D) (dR D) (dRd D) (dRc D) A _ LA hB (RlM_a s1 hc18 o1 (by omega) (by omega)) (RlM_a s2 hc18 o2 (by omega) (by omega)) (fun M2 g2 hDc => ?_)
  have G2 : gF sE3 nT M M2 := gF_trans w1 (gF_up g2 (fun a j q => Or.inr q) (fun _ _ q => q))
  have L2 := gF_LayN G2 hL
  have hP2 := PdM_g hP hD G2 kS (kF M2 G2) (Nat.le_refl c)
  obtain ⟨hCR2, u1, u2, u3, u4, u5, ⟨v1, v2, v3⟩, -⟩ := id hP2
  have rd : ∀ j, j ≤ 12 → mI M2 277 j = mI A 277 j := fun j hj => by rw [g2.1 _ _ (by unfold sLy; omega)]
  have h0 := hQ M2 (gF_trans g (gF_up G2 (fun a j q => by unfold sE3 sLy at q; unfold sSo; omega) (fun _ _ q => q))) (by rw [rd 1 (by omega), hA, m_uI_I, if_neg (by omega), m_uI_I, if_neg (by omega), m_uI_I, if_neg (by omega)]; exact h1) (by rw [rd 10 (by omega), hA, m_uI_I, if_neg (by omega), m_uI_I, if_neg (by omega), m_uI_I, if_pos ⟨rfl, rfl⟩]) (by rw [rd 11 (by omega), hA, m_uI_I, if_neg (by omega), m_uI_I, if_pos ⟨rfl, rfl⟩]) (by rw [G2.1 _ _ (by unfold sE3 sLy; omega)])
    ⟨⟨by rw [rd 12 (by omega)]; exact a12, by omega⟩, hCR2, u1, u2, u3, u4, u5, ⟨RlM_a v1 hc18 o1 (by omega) (by omega), RlM_a v2 hc18 o2 (by omega) (by omega), RlM_a v3 hc18 o3 (by omega) (by omega)⟩, hDc⟩ hD
  simp +decide only [qX11_sea_0, qX11_sea_1, qX11_sea_2, qX11_sea_3, am_w1_i, am_w1_r, am_w1_x, am_w1_l, am_w1_w, va_rf_s, am_push_n, am_push_s, am_cs_0, am_cs_i, am_cs_l, am_cs_r, m_uI_K, m_uI_N, m_uI_R, m_uI_L, m_uI_I, m_uL_K, m_uL_N, m_uL_R, m_uL_I, m_uL_L, m_uR_K, m_uR_N, m_uR_I, m_uR_L, m_uR_R, true_and, and_true, true_implies, false_implies, not_true_eq_false, not_false_eq_true, if_true, if_false, false_and, and_false]
  exact h0
theorem m_sea (d : Nat) (r : Sum (Nat × Nat) (Nat × Dat)) (M : am_M) (Q : Option Value → am_M → Prop) (hr : spTx T n = some r) (hL : Lay M) (hb : mI M 277 12 = nI b) (hb2 : b < 2) (hn : mI M 277 1 = nI n) (hn2 : n ≤ 1800) (hT : ∀ j, j < 1800 → T j < 256 ∧ mI M 278 j = nI (T j))
    (hF : ∀ e M', r = .inl e → gF (sSo (1 - b)) nT M M' → mI M' 277 1 = 0 → mI M' 277 10 = nI e.1 → mI M' 277 11 = nI e.2 → mI M' 312 1 = mI M 312 1 + 1 → mI M' 277 12 = nI b → (∀ a j, 313 ≤ a → mI M' a j = mI M a j) → Q (some (.int (-1))) M')
    (hN : ∀ k D M', r = .inr (k, D) → gF (sSo (1 - b)) nT M M' → mI M' 277 1 = 0 → mI M' 277 10 = 0 → mI M' 277 11 = -1 → mI M' 312 1 = mI M 312 1 → MdM M' (1 - b) D → DOK D → Q (some (.int (nI k))) M') : am_E am_P0 (d + 7) 206 [.ref 277] M Q := by
  obtain ⟨z, hz⟩ : ∃ z, z = 1 - b := ⟨_, rfl⟩
  rw [← hz] at hF hN
  have hz1 : z ≤ 1 := by omega
  have e1 : (1 : Int32) - nI b = nI z := by rw [ni_1, ni_sub (by omega), hz]
  obtain ⟨A, hA⟩ : ∃ A, A = uI (uI (uI (uI (uI (uI M 277 2 (nI n)) 277 1 0) 277 5 0) 277 8 0) 277 9 (-1)) 277 41 (nI z) := ⟨_, rfl⟩
  have wA : gF (fun a j => a = 277 ∧ (j = 1 ∨ j = 2 ∨ j = 5 ∨ j = 8 ∨ j = 9 ∨ j = 41)) nT M A := by
    rw [hA]
    exact gF_trans (gF_trans (gF_trans (gF_trans (gF_trans (gF_i _ ⟨rfl, by omega⟩) (gF_i _ ⟨rfl, by omega⟩)) (gF_i _ ⟨rfl, by omega⟩)) (gF_i _ ⟨rfl, by omega⟩)) (gF_i _ ⟨rfl, by omega⟩)) (gF_i _ ⟨rfl, by omega⟩)
  have LA := gF_LayN wA hL
  have a2 : mI A 277 2 = nI n := by rw [hA]; simp +decide only [m_uI_I, if_true, if_false]
  have a1 : mI A 277 1 = 0 := by rw [hA]; simp +decide only [m_uI_I, if_true, if_false]
  have a5 : mI A 277 5 = 0 := by rw [hA]; simp +decide only [m_uI_I, if_true, if_false]
  have a8 : mI A 277 8 = 0 := by rw [hA]; simp +decide only [m_uI_I, if_true, if_false]
  have a9 : mI A 277 9 = -1 := by rw [hA]; simp +decide only [m_uI_I, if_true, if_false]
  have a41 : mI A 277 41 = nI z := by rw [hA]; simp +decide only [m_uI_I, if_true, if_false]
  rw [eX11_sea]
  simp +decide only [qX11_sea_0, qX11_sea_1, qX11_sea_2, qX11_sea_3, lm hL, hb, hn, e1, am_w1_i, am_w1_r, am_w1_x, am_w1_l, am_w1_w, va_rf_s, am_push_n, am_push_s, am_cs_0, am_cs_i, am_cs_l, am_cs_r, m_uI_K, m_uI_N, m_uI_R, m_uI_L, m_uI_I, m_uL_K, m_uL_N, m_uL_R, m_uL_I, m_uL_L, m_uR_K, m_uR_N, m_uR_I, m_uR_L, m_uR_R, true_and, and_true, true_implies, false_implies, not_true_eq_false, not_false_eq_true, if_true, if_false, false_and, and_false, ← hA]
  rw [show (0 : Int32) = nI 0 from rfl]
  refine l_m_sea40 (d + 7) z A _ LA hz1 a41 (fun M1 g1 f1 => ?_) 3 0 rfl A (gF_refl _ _ _) (fun j hj => by omega)
  have L1 := gF_LayN g1 LA
  rw [show (0 : Int32) = nI 0 from rfl]
  refine l_m_sea67 (d + 7) z M1 _ L1 hz1 (by rw [g1.1 _ _ (by omega)]; exact a41) (fun M2 g2 f2 => ?_) 384 0 rfl M1 (gF_refl _ _ _) (fun j hj => by omega)
  have L2 := gF_LayN g2 L1
  have h41 : mI M2 277 41 = nI z := by rw [g2.1 _ _ (by omega), g1.1 _ _ (by omega)]; exact a41
  obtain ⟨E, hE⟩ : ∃ E, E = uI (uI (uI (uI (uI (uI M2 285 z 0) 291 z 0) 294 z 0) 299 z 0) 303 z 10) 277 40 0 := ⟨_, rfl⟩
  have wE : gF (fun a j => ((a = 285 ∨ a = 291 ∨ a = 294 ∨ a = 299 ∨ a = 303) ∧ j = z) ∨ (a = 277 ∧ j = 40)) nT M2 E := by
    rw [hE]
    exact gF_trans (gF_trans (gF_trans (gF_trans (gF_trans (gF_i _ (by omega)) (gF_i _ (by omega))) (gF_i _ (by omega))) (gF_i _ (by omega))) (gF_i _ (by omega))) (gF_i _ (by omega))
  have LE := gF_LayN wE L2
  have GE : gF (sSo z) nT M E := by
    refine gF_trans (gF_up wA (fun a j q => ?_) (fun _ _ q => q)) (gF_trans (gF_up g1 (fun a j q => Or.inl (sS_2 q)) (fun _ _ q => q)) (gF_trans (gF_up g2 (fun a j q => Or.inl (sS_5 ⟨Or.inl q.1, q.2⟩)) (fun _ _ q => q)) (gF_up wE (fun a j q => ?_) (fun _ _ q => q))))
    · by_cases c : j = 5 ∨ j = 8 ∨ j = 9
      · exact Or.inl (sS_0 ⟨q.1, by omega⟩)
      · exact Or.inr (Or.inl ⟨q.1, by omega⟩)
    · rcases q with q | q
      · exact Or.inl (sS_1 ⟨by omega, q.2⟩)
      · exact Or.inl (sS_0 ⟨q.1, by omega⟩)
  have rdE : ∀ j, j ≤ 41 → ¬ j = 40 → mI E 277 j = mI A 277 j := fun j hj h40 => by rw [wE.1 _ _ (by omega), g2.1 _ _ (by omega), g1.1 _ _ (by omega)]
  have hTp : TpM E T n := ⟨by rw [rdE 2 (by omega) (by omega)]; exact a2, hn2, fun j hj => ⟨(hT j hj).1, by rw [wE.1 _ _ (by omega), g2.1 _ _ (by omega), g1.1 _ _ (by omega), wA.1 _ _ (by omega)]; exact (hT j hj).2⟩⟩
  have E40 : mI E 277 40 = nI 0 := by rw [hE, m_uI_I, if_pos ⟨rfl, rfl⟩]; rfl
  have E285 : mI E 285 z = nI 0 := by rw [hE]; simp +decide only [m_uI_I, and_true, true_and, and_false, false_and, if_true, if_false]
  have E291 : mI E 291 z = nI 0 := by rw [hE]; simp +decide only [m_uI_I, and_true, true_and, and_false, false_and, if_true, if_false]
  have E294 : mI E 294 z = nI 0 := by rw [hE]; simp +decide only [m_uI_I, and_true, true_and, and_false, false_and, if_true, if_false]
  have E299 : mI E 299 z = nI 0 := by rw [hE]; simp +decide only [m_uI_I, and_true, true_and, and_false, false_and, if_true, if_false]
  have E303 : mI E 303 z = nI 10 := by rw [hE]; simp +decide only [m_uI_I, and_true, true_and, and_false, false_and, if_true, if_false]
  have m281 : ∀ kd, kd < 3 → mI E 281 (3 * z + kd) = nI 0 := fun kd hk => by rw [wE.1 _ _ (by omega), g2.1 _ _ (by omega)]; exact f1 kd hk
  have hPd : Pd1 E z dat0 0 := ⟨E303, ⟨E285, fun s sp q => by cases q⟩, ⟨E291, fun s hs => ⟨List.Pairwise.nil, fun y hy => absurd hy List.not_mem_nil, fun t ht => Or.inr ⟨fun y hy => absurd hy List.not_mem_nil, by
      rw [wE.1 _ _ (by omega), show 384 * z + 48 * s + t = 384 * z + (48 * s + t) by omega]
      exact f2 _ (by omega)⟩⟩⟩, ⟨E294, fun i k q => by cases q⟩, ⟨E299, fun i k q => by cases q⟩, ⟨⟨m281 0 (by omega), fun k r q => by cases q⟩, ⟨m281 1 (by omega), fun k r q => by cases q⟩, ⟨m281 2 (by omega), fun k r q => by cases q⟩⟩, ⟨E40, by omega, by rw [rdE 41 (by omega) (by omega)]; exact a41, hz1⟩⟩
  have hin : am_in (nI z) 2 = True := ni_in_t (by omega) (by omega)
  simp +decide (disch := omega) only [qX11_sea_0, qX11_sea_1, qX11_sea_2, qX11_sea_3, lm L2, h41, ni_in_t, ni_tn, am_w1_i, am_w1_r, am_w1_x, am_w1_l, am_w1_w, va_rf_s, am_push_n, am_push_s, am_cs_0, am_cs_i, am_cs_l, am_cs_r, m_uI_K, m_uI_N, m_uI_R, m_uI_L, m_uI_I, m_uL_K, m_uL_N, m_uL_R, m_uL_I, m_uL_L, m_uR_K, m_uR_N, m_uR_I, m_uR_L, m_uR_R, true_and, and_true, true_implies, false_implies, not_true_eq_false, not_false_eq_true, if_true, if_false, false_and, and_false, ← hE]
  have mk : ∀ M3, gF sRm nT E M3 → StM M3 T n (advR T n (0, 0, [], 0, 0)) → am_P am_P0 (d + 7) (am_look tX11_sea) 158 [.ref 277, .int 1] [] M3 Q := fun M3 g3 hS3 => by
    have L3 := gF_LayN g3 LE
    have hP3 : Pd1 M3 z dat0 0 := Pd1_R hPd (DOK_0 (C := 0) (R := 0) (by omega) (by omega)) g3
    simp +decide only [qX11_sea_0, qX11_sea_1, qX11_sea_2, qX11_sea_3, lm L3, am_w1_i, am_w1_r, am_w1_x, am_w1_l, am_w1_w, va_rf_s, am_push_n, am_push_s, am_cs_0, am_cs_i, am_cs_l, am_cs_r, m_uI_K, m_uI_N, m_uI_R, m_uI_L, m_uI_I, m_uL_K, m_uL_N, m_uL_R, m_uL_I, m_uL_L, m_uR_K, m_uR_N, m_uR_I, m_uR_L, m_uR_R, true_and, and_true, true_implies, false_implies, not_true_eq_false, not_false_eq_true, if_true, if_false, false_and, and_false]
    refine k_size (d + 3) (advR T n (0, 0, [], 0, 0)) M3 _ L3 hS3 hP3 (fun M4 hM4 => ?_)
    have kG : ∀ M4, gF (sSm z) nT M3 M4 → gF (sSo z) nT M M4 := fun M4 g4 => gF_trans GE (gF_trans (gF_up (sRm_S (z := z) g3) (fun a j q => Or.inl q) (fun _ _ q => q)) (gF_up g4 (fun a j q => Or.inl q) (fun _ _ q => q)))
    have k1 : ∀ M4, gF (sSm z) nT M3 M4 → mI M4 277 1 = 0 ∧ mI M4 312 1 = mI M 312 1 ∧ mI M4 277 12 = nI b := fun M4 g4 => by
      refine ⟨?_, ?_, ?_⟩
      · rw [g4.1 _ _ (by unfold sSm; omega), g3.1 _ _ (by unfold sRm; omega), rdE 1 (by omega) (by omega)]; exact a1
      · rw [g4.1 _ _ (by unfold sSm; omega), g3.1 _ _ (by unfold sRm; omega), wE.1 _ _ (by omega), g2.1 _ _ (by omega), g1.1 _ _ (by omega), wA.1 _ _ (by omega)]
      · rw [g4.1 _ _ (by unfold sSm; omega), g3.1 _ _ (by unfold sRm; omega), rdE 12 (by omega) (by omega), wA.1 _ _ (by omega)]; exact hb
    have k13 : ∀ M4, gF (sSm z) nT M3 M4 → ∀ a j, 313 ≤ a → mI M4 a j = mI M a j := fun M4 g4 a j ha => by
      rw [g4.1 _ _ (by unfold sSm; omega), g3.1 _ _ (by unfold sRm; omega), wE.1 _ _ (by omega), g2.1 _ _ (by omega), g1.1 _ _ (by omega), wA.1 _ _ (by omega)]
    rw [spTx_i] at hr
    cases hq : rq1 T n (advR T n (0, 0, [], 0, 0)) with
    | inl e =>
      rw [hq] at hr hM4
      cases hr
      obtain ⟨g4, f4⟩ := hM4
      have hp := (FtM_pos f4).2.1
      have L4 := gF_LayN g4 L3
      simp +decide only [qX11_sea_0, qX11_sea_1, qX11_sea_2, qX11_sea_3, am_w1_i, am_w1_r, am_w1_x, am_w1_l, am_w1_w, va_rf_s, am_push_n, am_push_s, am_cs_0, am_cs_i, am_cs_l, am_cs_r, m_uI_K, m_uI_N, m_uI_R, m_uI_L, m_uI_I, m_uL_K, m_uL_N, m_uL_R, m_uL_I, m_uL_L, m_uR_K, m_uR_N, m_uR_I, m_uR_L, m_uR_R, true_and, and_true, true_implies, false_implies, not_true_eq_false, not_false_eq_true, if_true, if_false, false_and, and_false]
      rw [hX11_sea_162]
      simp +decide only [qX11_sea_0, qX11_sea_1, qX11_sea_2, qX11_sea_3, lm L4, am_w1_i, am_w1_r, am_w1_x, am_w1_l, am_w1_w, va_rf_s, am_push_n, am_push_s, am_cs_0, am_cs_i, am_cs_l, am_cs_r, m_uI_K, m_uI_N, m_uI_R, m_uI_L, m_uI_I, m_uL_K, m_uL_N, m_uL_R, m_uL_I, m_uL_L, m_uR_K, m_uR_N, m_uR_I, m_uR_L, m_uR_R, true_and, and_true, true_implies, false_implies, not_true_eq_false, not_false_eq_true, if_true, if_false, false_and, and_false]
      rw [br_p hp]
      have h9 := l_m_seaF (T := T) (n := n) (b := b) (d + 6) M M4 1 e Q hL (by rw [← hz]; exact kG M4 g4) (k1 M4 g4).1 f4 (k1 M4 g4).2.1 (fun M5 v1 v2 v3 v4 v5 v6 v7 => hF e M5 rfl (by rw [hz]; exact v1) v2 v3 v4 v5 (by rw [v6]; exact (k1 M4 g4).2.2) (fun a j ha => by rw [v7 a j ha]; exact k13 M4 g4 a j ha))
      simp +decide only [qX11_sea_0, qX11_sea_1, qX11_sea_2, qX11_sea_3, lm L4, am_w1_i, am_w1_r, am_w1_x, am_w1_l, am_w1_w, va_rf_s, am_push_n, am_push_s, am_cs_0, am_cs_i, am_cs_l, am_cs_r, m_uI_K, m_uI_N, m_uI_R, m_uI_L, m_uI_I, m_uL_K, m_uL_N, m_uL_R, m_uL_I, m_uL_L, m_uR_K, m_uR_N, m_uR_I, m_uR_L, m_uR_R, true_and, and_true, true_implies, false_implies, not_true_eq_false, not_false_eq_true, if_true, if_false, false_and, and_false] at h9
      exact h9
    | inr q =>
      rw [hq] at hr hM4
      obtain ⟨g4, G4, c4, r4⟩ := hM4
      have L4 := gF_LayN g4 L3
      simp +decide only [qX11_sea_0, qX11_sea_1, qX11_sea_2, qX11_sea_3, am_w1_i, am_w1_r, am_w1_x, am_w1_l, am_w1_w, va_rf_s, am_push_n, am_push_s, am_cs_0, am_cs_i, am_cs_l, am_cs_r, m_uI_K, m_uI_N, m_uI_R, m_uI_L, m_uI_I, m_uL_K, m_uL_N, m_uL_R, m_uL_I, m_uL_L, m_uR_K, m_uR_N, m_uR_I, m_uR_L, m_uR_R, true_and, and_true, true_implies, false_implies, not_true_eq_false, not_false_eq_true, if_true, if_false, false_and, and_false]
      rw [show (1 : Int32) = nI 1 from rfl]
      refine l_m_sea (T := T) (n := n) (z := z) d M4 Q L4 r (fun e M5 x he g5 f5 => ?_) (fun k D M5 c t he g5 G5 c5 r5 => ?_) (n + 2) 1 q.2 q.1 0 M4 hr (gF_refl _ _ _) G4 c4 r4
      · have g45 := gF_trans g4 g5
        exact l_m_seaF (T := T) (n := n) (b := b) (d + 6) M M5 x e Q hL (by rw [← hz]; exact kG M5 g45) (k1 M5 g45).1 f5 (k1 M5 g45).2.1 (fun M6 v1 v2 v3 v4 v5 v6 v7 => hF e M6 he (by rw [hz]; exact v1) v2 v3 v4 v5 (by rw [v6]; exact (k1 M5 g45).2.2) (fun a j ha => by rw [v7 a j ha]; exact k13 M5 g45 a j ha))
      · have g45 := gF_trans g4 g5
        exact l_m_seaN (T := T) (n := n) (b := b) (d + 1) c t D M M5 (nI k) Q hL hb2 (by rw [← hz]; exact kG M5 g45) (k1 M5 g45).1 (by rw [← hz]; exact G5) c5 r5 (fun M6 v1 v2 v3 v4 v5 v6 v7 => hN k D M6 he (by rw [hz]; exact v1) v2 v3 v4 (by rw [v5]; exact (k1 M5 g45).2.1) (by rw [hz]; exact v6) v7)
  refine ⟨(lm LE).1, ?_⟩
  refine c_m_ahead (d + 5) n T 0 E _ LE hTp (by rw [rdE 8 (by omega) (by omega)]; exact a8) (by rw [rdE 9 (by omega) (by omega)]; exact a9) (by rw [rdE 5 (by omega) (by omega)]; exact a5) (by omega) (fun h4 M3 g3 f3 => ?_) (fun h4 M3 g3 f3 => ?_)
  · have h9 := mk M3 g3 (by
      unfold advR
      rw [show tE (0, 0, [], 0, 0) = 0 from rfl, if_pos h4]
      exact f3)
    have L3 := gF_LayN g3 LE
    simp +decide only [qX11_sea_0, qX11_sea_1, qX11_sea_2, qX11_sea_3, lm L3, am_w1_i, am_w1_r, am_w1_x, am_w1_l, am_w1_w, va_rf_s, am_push_n, am_push_s, am_cs_0, am_cs_i, am_cs_l, am_cs_r, m_uI_K, m_uI_N, m_uI_R, m_uI_L, m_uI_I, m_uL_K, m_uL_N, m_uL_R, m_uL_I, m_uL_L, m_uR_K, m_uR_N, m_uR_I, m_uR_L, m_uR_R, true_and, and_true, true_implies, false_implies, not_true_eq_false, not_false_eq_true, if_true, if_false, false_and, and_false] at h9 ⊢
    exact h9
  · have h9 := mk M3 g3 (by
      unfold advR
      rw [show tE (0, 0, [], 0, 0) = 0 from rfl, if_neg h4]
      exact f3)
    have L3 := gF_LayN g3 LE
    simp +decide only [qX11_sea_0, qX11_sea_1, qX11_sea_2, qX11_sea_3, lm L3, am_w1_i, am_w1_r, am_w1_x, am_w1_l, am_w1_w, va_rf_s, am_push_n, am_push_s, am_cs_0, am_cs_i, am_cs_l, am_cs_r, m_uI_K, m_uI_N, m_uI_R, m_uI_L, m_uI_I, m_uL_K, m_uL_N, m_uL_R, m_uL_I, m_uL_L, m_uR_K, m_uR_N, m_uR_I, m_uR_L, m_uR_R, true_and, and_true, true_implies, false_implies, not_true_eq_false, not_false_eq_true, if_true, if_false, false_and, and_false] at h9 ⊢
    exact h9
end
end
