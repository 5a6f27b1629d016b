/-! what the model's sea holds -/
def RlM (M : am_M) (z kind : Nat) (sm : Bool) (R : Rls) (c : Nat) : Prop := mI M 281 (3 * z + kind) = nI R.length ∧ ∀ k r, R[k]? = some r → ∃ s0 s1 s2, s0 ≤ s1 ∧ s1 ≤ s2 ∧ s2 ≤ c ∧ mI M 282 (30 * z + 12 * kind + k) = nI s0 ∧ mI M 283 (30 * z + 12 * kind + k) = nI s1 ∧ mI M 284 (30 * z + 12 * kind + k) = nI s2 ∧ wfD 1850 (insM M z) s1 (s2 - s1) ∧ cdD (insM M z) s1 (s2 - s1) = [r.2] ∧ (sm = true → wfD 1850 (insM M z) s0 (s1 - s0) ∧ cdD (insM M z) s0 (s1 - s0) = [r.1])
def ShpM (M : am_M) (z : Nat) (L : List Shp) : Prop := mI M 285 z = nI L.length ∧ ∀ s sp, L[s]? = some sp → mL M 286 (8 * z + s) = wdL sp.1 ∧ mI M 287 (8 * z + s) = nI sp.2.1 ∧ mI M 288 (8 * z + s) = nI sp.2.2.1 ∧ mI M 289 (8 * z + s) = nI sp.2.2.2.1 ∧ mI M 290 (8 * z + s) = nI sp.2.2.2.2
def SysM (M : am_M) (z : Nat) (D : Dat) : Prop := mI M 291 z = nI (dTot D) ∧ ∀ s, s < 8 → SyM M z (dC D) (dR D) s (dY D s)
def SgM (M : am_M) (z C : Nat) (L : List (Nat × Nat × Nat)) : Prop := mI M 299 z = nI L.length ∧ ∀ i g, L[i]? = some g → mI M 300 (40 * z + i) = nI g.1 ∧ mI M 301 (40 * z + i) = nI (cel C g.2.1) ∧ mI M 302 (40 * z + i) = nI g.2.2
def Pd1 (M : am_M) (z : Nat) (D : Dat) (c : Nat) : Prop := mI M 303 z = nI (dLk D) ∧ ShpM M z (dSh D) ∧ SysM M z D ∧ BkM M z (dC D) (dBk D) ∧ SgM M z (dC D) (dSg D) ∧ (RlM M z 0 true (dRd D) c ∧ RlM M z 1 true (dRc D) c ∧ RlM M z 2 false (dRq D) c) ∧ FmM M z c
/-- the model's sea as it is told -/
def PdM (M : am_M) (z : Nat) (D : Dat) (c : Nat) : Prop := (mI M 279 z = nI (dC D) ∧ mI M 280 z = nI (dR D)) ∧ Pd1 M z D c
theorem RlM_g {M M' : am_M} {z kd c : Nat} {sm : Bool} {R : Rls} {S T' : Nat → Nat → Prop} (h : RlM M z kd sm R c) (hR : R.length ≤ 12) (hg : gF S T' M M') (h1 : ¬ S 281 (3 * z + kd)) (h2 : ∀ a j, 282 ≤ a → a ≤ 284 → j < R.length → ¬ S a (30 * z + 12 * kd + j)) (h7 : ∀ a j, a = 304 ∨ a = 305 → 1800 * z ≤ j → j < 1800 * z + c → ¬ S a j) : RlM M' z kd sm R c := by
  refine ⟨by rw [hg.1 _ _ h1]; exact h.1, fun k r hr => ?_⟩
  have hk := (List.getElem?_eq_some_iff.mp hr).1
  obtain ⟨s0, s1, s2, b1, b2, b3, b4, b5, b6, b7, b8, b9⟩ := h.2 k r hr
  have e1 : ∀ j, j < s2 - s1 → insM M z (s1 + j) = insM M' z (s1 + j) := fun j hj => by unfold insM; rw [hg.1 _ _ (h7 304 _ (Or.inl rfl) (by omega) (by omega)), hg.1 _ _ (h7 305 _ (Or.inr rfl) (by omega) (by omega))]
  have e0 : ∀ j, j < s1 - s0 → insM M z (s0 + j) = insM M' z (s0 + j) := fun j hj => by unfold insM; rw [hg.1 _ _ (h7 304 _ (Or.inl rfl) (by omega) (by omega)), hg.1 _ _ (h7 305 _ (Or.inr rfl) (by omega) (by omega))]
  refine ⟨s0, s1, s2, b1, b2, b3, by rw [hg.1 _ _ (h2 _ _ (by omega) (by omega) hk)]; exact b4, by rw [hg.1 _ _ (h2 _ _ (by omega) (by omega) hk)]; exact b5, by rw [hg.1 _ _ (h2 _ _ (by omega) (by omega) hk)]; exact b6, wfD_ext e1 b7, by rw [← cdD_ext e1]; exact b8, fun q => ⟨wfD_ext e0 (b9 q).1, by rw [← cdD_ext e0]; exact (b9 q).2⟩⟩
theorem RlM_le {M : am_M} {z kd c c' : Nat} {sm : Bool} {R : Rls} (h : RlM M z kd sm R c) (hc : c ≤ c') : RlM M z kd sm R c' := by
  refine ⟨h.1, fun k r hr => ?_⟩
  obtain ⟨s0, s1, s2, b1, b2, b3, b4⟩ := h.2 k r hr
  exact ⟨s0, s1, s2, b1, b2, by omega, b4⟩
theorem ShpM_g {M M' : am_M} {z : Nat} {L : List Shp} {S T' : Nat → Nat → Prop} (h : ShpM M z L) (hg : gF S T' M M') (h0 : ¬ S 285 z) (hS : ∀ a j, 286 ≤ a → a ≤ 290 → j < L.length → ¬ S a (8 * z + j)) : ShpM M' z L := by
  refine ⟨by rw [hg.1 _ _ h0]; exact h.1, fun s sp hs => ?_⟩
  have hk := (List.getElem?_eq_some_iff.mp hs).1
  obtain ⟨a1, a2, a3, a4, a5⟩ := h.2 s sp hs
  exact ⟨by rw [hg.2.1 _ _ (hS _ _ (by omega) (by omega) hk)]; exact a1, by rw [hg.1 _ _ (hS _ _ (by omega) (by omega) hk)]; exact a2, by rw [hg.1 _ _ (hS _ _ (by omega) (by omega) hk)]; exact a3, by rw [hg.1 _ _ (hS _ _ (by omega) (by omega) hk)]; exact a4, by rw [hg.1 _ _ (hS _ _ (by omega) (by omega) hk)]; exact a5⟩
theorem SyM_gF {M M' : am_M} {b C R s : Nat} {Y : List Sy} {S T' : Nat → Nat → Prop} (h : SyM M b C R s Y) (hg : gF S T' M M') (hS : ∀ a t, a = 292 ∨ a = 293 → t < 48 → ¬ S a (384 * b + 48 * s + t)) : SyM M' b C R s Y := by
  refine ⟨h.1, h.2.1, fun t ht => ?_⟩
  rcases h.2.2 t ht with ⟨y, q1, q2, q3, q4⟩ | ⟨q1, q2⟩
  · exact Or.inl ⟨y, q1, q2, by rw [hg.1 _ _ (hS _ _ (Or.inl rfl) ht)]; exact q3, by rw [hg.1 _ _ (hS _ _ (Or.inr rfl) ht)]; exact q4⟩
  · exact Or.inr ⟨q1, by rw [hg.1 _ _ (hS _ _ (Or.inl rfl) ht)]; exact q2⟩
theorem SysM_g {M M' : am_M} {z : Nat} {D : Dat} {S T' : Nat → Nat → Prop} (h : SysM M z D) (hg : gF S T' M M') (h0 : ¬ S 291 z) (hS : ∀ a j, a = 292 ∨ a = 293 → ¬ S a j) : SysM M' z D := ⟨by rw [hg.1 _ _ h0]; exact h.1, fun s hs => SyM_gF (h.2 s hs) hg (fun a t q _ => hS a _ q)⟩
theorem BkM_gF {M M' : am_M} {z C : Nat} {L : List Bk} {S T' : Nat → Nat → Prop} (h : BkM M z C L) (hg : gF S T' M M') (h0 : ¬ S 294 z) (hS : ∀ a j, 295 ≤ a → a ≤ 298 → j < L.length → ¬ S a (12 * z + j)) : BkM M' z C L := by
  refine ⟨by rw [hg.1 _ _ h0]; exact h.1, fun i k hi => ?_⟩
  have hk := (List.getElem?_eq_some_iff.mp hi).1
  obtain ⟨a1, a2, a3, a4⟩ := h.2 i k hi
  exact ⟨by rw [hg.1 _ _ (hS _ _ (by omega) (by omega) hk)]; exact a1, by rw [hg.1 _ _ (hS _ _ (by omega) (by omega) hk)]; exact a2, by rw [hg.1 _ _ (hS _ _ (by omega) (by omega) hk)]; exact a3, by rw [hg.1 _ _ (hS _ _ (by omega) (by omega) hk)]; exact a4⟩
theorem SgM_g {M M' : am_M} {z C : Nat} {L : List (Nat × Nat × Nat)} {S T' : Nat → Nat → Prop} (h : SgM M z C L) (hg : gF S T' M M') (h0 : ¬ S 299 z) (hS : ∀ a j, 300 ≤ a → a ≤ 302 → j < L.length → ¬ S a (40 * z + j)) : SgM M' z C L := by
  refine ⟨by rw [hg.1 _ _ h0]; exact h.1, fun i g hi => ?_⟩
  have hk := (List.getElem?_eq_some_iff.mp hi).1
  obtain ⟨a1, a2, a3⟩ := h.2 i g hi
  exact ⟨by rw [hg.1 _ _ (hS _ _ (by omega) (by omega) hk)]; exact a1, by rw [hg.1 _ _ (hS _ _ (by omega) (by omega) hk)]; exact a2, by rw [hg.1 _ _ (hS _ _ (by omega) (by omega) hk)]; exact a3⟩
/-- nothing that is told is touched, but code from c on -/
theorem Pd1_g {M M' : am_M} {z c c' : Nat} {D : Dat} {S T' : Nat → Nat → Prop} (h : Pd1 M z D c) (hD : DOK D) (hg : gF S T' M M') (hS : ∀ a j, S a j → ¬ (281 ≤ a ∧ a ≤ 303) ∧ ¬ ((a = 304 ∨ a = 305) ∧ 1800 * z ≤ j ∧ j < 1800 * z + c)) (hF : FmM M' z c') (hc : c ≤ c') : Pd1 M' z D c' := by
  obtain ⟨h1, h2, h3, h4, h5, ⟨r1, r2, r3⟩, f⟩ := h
  have k : ∀ a j, 281 ≤ a → a ≤ 303 → ¬ S a j := fun a j q1 q2 w => (hS a j w).1 ⟨q1, q2⟩
  have kc : ∀ a j, a = 304 ∨ a = 305 → 1800 * z ≤ j → j < 1800 * z + c → ¬ S a j := fun a j q1 q2 q3 w => (hS a j w).2 ⟨q1, q2, q3⟩
  have l1 := hD.2.2.2.2.2.2.2.2.1.1
  have l2 := hD.2.2.2.2.2.2.2.2.2.1.1
  have l3 := hD.2.2.2.2.2.2.2.2.2.2.1
  exact ⟨by rw [hg.1 _ _ (k _ _ (by omega) (by omega))]; exact h1, ShpM_g h2 hg (k _ _ (by omega) (by omega)) (fun a j q1 q2 _ => k _ _ (by omega) (by omega)), SysM_g h3 hg (k _ _ (by omega) (by omega)) (fun a j q => k _ _ (by omega) (by omega)), BkM_gF h4 hg (k _ _ (by omega) (by omega)) (fun a j q1 q2 _ => k _ _ (by omega) (by omega)), SgM_g h5 hg (k _ _ (by omega) (by omega)) (fun a j q1 q2 _ => k _ _ (by omega) (by omega)), ⟨RlM_le (RlM_g r1 l1 hg (k _ _ (by omega) (by omega)) (fun a j q1 q2 _ => k _ _ (by omega) (by omega)) kc) hc, RlM_le (RlM_g r2 l2 hg (k _ _ (by omega) (by omega)) (fun a j q1 q2 _ => k _ _ (by omega) (by omega)) kc) hc, RlM_le (RlM_g r3 (by omega) hg (k _ _ (by omega) (by omega)) (fun a j q1 q2 _ => k _ _ (by omega) (by omega)) kc) hc⟩, hF⟩
theorem PdM_g {M M' : am_M} {z c c' : Nat} {D : Dat} {S T' : Nat → Nat → Prop} (h : PdM M z D c) (hD : DOK D) (hg : gF S T' M M') (hS : ∀ a j, S a j → ¬ (279 ≤ a ∧ a ≤ 303) ∧ ¬ ((a = 304 ∨ a = 305) ∧ 1800 * z ≤ j ∧ j < 1800 * z + c)) (hF : FmM M' z c') (hc : c ≤ c') : PdM M' z D c' := by
  refine ⟨⟨?_, ?_⟩, Pd1_g h.2 hD hg (fun a j w => ⟨fun q => (hS a j w).1 ⟨by omega, q.2⟩, (hS a j w).2⟩) hF hc⟩
  · rw [hg.1 _ _ (fun w => (hS _ _ w).1 ⟨by omega, by omega⟩)]; exact h.1.1
  · rw [hg.1 _ _ (fun w => (hS _ _ w).1 ⟨by omega, by omega⟩)]; exact h.1.2
theorem FmM_R {M M' : am_M} {z c : Nat} (h : FmM M z c) (hg : gF sRm nT M M') : FmM M' z c := FmM_g h hg (fun j q w => by unfold sRm at w; omega)
theorem PdM_R {M M' : am_M} {z c : Nat} {D : Dat} (h : PdM M z D c) (hD : DOK D) (hg : gF sRm nT M M') : PdM M' z D c := PdM_g h hD hg (fun a j w => by unfold sRm at w; omega) (FmM_R h.2.2.2.2.2.2.2 hg) (Nat.le_refl _)
theorem Pd1_R {M M' : am_M} {z c : Nat} {D : Dat} (h : Pd1 M z D c) (hD : DOK D) (hg : gF sRm nT M M') : Pd1 M' z D c := Pd1_g h hD hg (fun a j w => by unfold sRm at w; omega) (FmM_R h.2.2.2.2.2.2 hg) (Nat.le_refl _)
/-- what a text that is read changes -/
def sSm (z a j : Nat) : Prop := (a = 277 ∧ ((3 ≤ j ∧ j ≤ 9) ∨ j = 40 ∨ j = 47 ∨ j = 48 ∨ j = 50 ∨ j = 51)) ∨ ((a = 279 ∨ a = 280 ∨ a = 285 ∨ a = 291 ∨ a = 294 ∨ a = 299 ∨ a = 303) ∧ j = z) ∨ (a = 281 ∧ 3 * z ≤ j ∧ j < 3 * z + 3) ∨ ((282 ≤ a ∧ a ≤ 284) ∧ 30 * z ≤ j ∧ j < 30 * z + 30) ∨ ((286 ≤ a ∧ a ≤ 290) ∧ 8 * z ≤ j ∧ j < 8 * z + 8) ∨ ((a = 292 ∨ a = 293) ∧ 384 * z ≤ j ∧ j < 384 * z + 384) ∨ ((295 ≤ a ∧ a ≤ 298) ∧ 12 * z ≤ j ∧ j < 12 * z + 12) ∨ ((300 ≤ a ∧ a ≤ 302) ∧ 40 * z ≤ j ∧ j < 40 * z + 40) ∨ ((a = 304 ∨ a = 305) ∧ 1800 * z ≤ j ∧ j < 1800 * z + 1800) ∨ (306 ≤ a ∧ a ≤ 311)
theorem sS_0 {z a j : Nat} (h : a = 277 ∧ ((3 ≤ j ∧ j ≤ 9) ∨ j = 40 ∨ j = 47 ∨ j = 48 ∨ j = 50 ∨ j = 51)) : sSm z a j := Or.inl h
theorem sS_1 {z a j : Nat} (h : (a = 279 ∨ a = 280 ∨ a = 285 ∨ a = 291 ∨ a = 294 ∨ a = 299 ∨ a = 303) ∧ j = z) : sSm z a j := Or.inr (Or.inl h)
theorem sS_2 {z a j : Nat} (h : a = 281 ∧ 3 * z ≤ j ∧ j < 3 * z + 3) : sSm z a j := Or.inr (Or.inr (Or.inl h))
theorem sS_3 {z a j : Nat} (h : (282 ≤ a ∧ a ≤ 284) ∧ 30 * z ≤ j ∧ j < 30 * z + 30) : sSm z a j := Or.inr (Or.inr (Or.inr (Or.inl h)))
theorem sS_4 {z a j : Nat} (h : (286 ≤ a ∧ a ≤ 290) ∧ 8 * z ≤ j ∧ j < 8 * z + 8) : sSm z a j := Or.inr (Or.inr (Or.inr (Or.inr (Or.inl h))))
theorem sS_5 {z a j : Nat} (h : (a = 292 ∨ a = 293) ∧ 384 * z ≤ j ∧ j < 384 * z + 384) : sSm z a j := Or.inr (Or.inr (Or.inr (Or.inr (Or.inr (Or.inl h)))))
theorem sS_6 {z a j : Nat} (h : (295 ≤ a ∧ a ≤ 298) ∧ 12 * z ≤ j ∧ j < 12 * z + 12) : sSm z a j := Or.inr (Or.inr (Or.inr (Or.inr (Or.inr (Or.inr (Or.inl h))))))
theorem sS_7 {z a j : Nat} (h : (300 ≤ a ∧ a ≤ 302) ∧ 40 * z ≤ j ∧ j < 40 * z + 40) : sSm z a j := Or.inr (Or.inr (Or.inr (Or.inr (Or.inr (Or.inr (Or.inr (Or.inl h)))))))
theorem sS_8 {z a j : Nat} (h : (a = 304 ∨ a = 305) ∧ 1800 * z ≤ j ∧ j < 1800 * z + 1800) : sSm z a j := Or.inr (Or.inr (Or.inr (Or.inr (Or.inr (Or.inr (Or.inr (Or.inr (Or.inl h))))))))
theorem sS_9 {z a j : Nat} (h : 306 ≤ a ∧ a ≤ 311) : sSm z a j := Or.inr (Or.inr (Or.inr (Or.inr (Or.inr (Or.inr (Or.inr (Or.inr (Or.inr h))))))))
theorem sRm_S {M M' : am_M} {z : Nat} (h : gF sRm nT M M') : gF (sSm z) nT M M' := gF_up h (fun a j q => sS_0 (by unfold sRm at q; omega)) (fun _ _ q => q)
theorem sFm_S {M M' : am_M} {z c : Nat} (h : gF (sFm z c) nT M M') : gF (sSm z) nT M M' := gF_up h (fun a j q => by
  rcases q with q | q | q
  · exact sS_0 q
  · exact sS_8 (by omega)
  · exact sS_9 q) (fun _ _ q => q)
def GdM (T : Nat → Nat) (n z : Nat) (M : am_M) (D : Dat) (c : Nat) (t : Tok) : Prop := Lay M ∧ RdM M T n t ∧ PdM M z D c ∧ DOK D ∧ c ≤ tS t
def EdM (T : Nat → Nat) (n z : Nat) (t : Tok) (M M' : am_M) : Sum (Nat × Nat) (Tok × Dat) → Prop
  | .inl e => gF (sSm z) nT M M' ∧ FtM M' T n e.1 e.2
  | .inr q => gF (sSm z) nT M M' ∧ (∃ c', GdM T n z M' q.2 c' q.1) ∧ tS t < tS q.1
/-! own words, names -/
def ownL : List Int64 := [1936292453, 431198598248, 1668248436, 487301145972, 1936222576, 1819242347, 495806932324, 431415715444, 1819238756, 1935767923, 24948, 465490437486, 1651470187, 1718775661, 29807, 1936024942, 1752135026, 1819632491, 2003330414, 28530, 6385252, 7237492, 6384748, 109330212154734, 7499639, 7170414, 7168376]
theorem ownL_1 : ∀ k, k < 27 → wdL (ownW.getD k []) ∈ ownL := by decide
theorem ownL_2 : ownL = ownW.map wdL := by decide
theorem ownL_i {l : List Nat} (h1 : isWd l) (h2 : l.length ≤ 6) : wdL l ∈ ownL ↔ l ∈ ownW := by
  rw [ownL_2, List.mem_map]
  constructor
  · rintro ⟨w, hw, he⟩
    obtain ⟨k, hk⟩ := List.mem_iff_getElem?.mp hw
    have hk27 : k < 27 := (List.getElem?_eq_some_iff.mp hk).1
    have e : ownW.getD k [] = w := by rw [List.getD_eq_getElem?_getD, hk]; rfl
    have := own_6 k hk27
    rw [e] at this
    rw [wdL_eq (ownW_wd w hw) h1 this h2] at he
    rw [← he]; exact hw
  · intro h; exact ⟨l, h, rfl⟩
theorem c_m_isOwn (d : Nat) (x : Int64) (M : am_M) (Q : Option Value → am_M → Prop) : am_E am_P0 d 178 [.ref 277, .long x] M Q ↔ Q (some (.int (b01 (decide (x ∈ ownL))))) M := by
  have yes : ∀ y, y ∈ ownL → x = y → Q (some (.int (b01 (decide (x ∈ ownL))))) M = Q (some (.int 1)) M := fun y hy e => by rw [decide_eq_true (by rw [e]; exact hy)]; rfl
  rw [eX11_isOwn]
  simp +decide only [qX11_isOwn_0, qX11_isOwn_1, qX11_isOwn_2, qX11_isOwn_3, lgc_0, am_w1_i, am_w1_r, am_w1_x, am_w1_l, am_w1_w, va_rf_s, am_push_n, am_push_s, am_cs_0, am_cs_i, am_cs_l, am_cs_r, m_uI_K, m_uI_N, m_uI_R, m_uI_L, m_uI_I, m_uL_K, m_uL_N, m_uL_R, m_uL_I, m_uL_L, m_uR_K, m_uR_N, m_uR_I, m_uR_L, m_uR_R, true_and, and_true, true_implies, false_implies, not_true_eq_false, not_false_eq_true, if_true, if_false, false_and, and_false]
  by_cases c0 : x = 1936292453
  · rw [br_p c0, yes 1936292453 (by decide) c0]
  rw [br_n c0]
  by_cases c1 : x = 431198598248
  · rw [br_p c1, yes 431198598248 (by decide) c1]
  rw [br_n c1]
  by_cases c2 : x = 1668248436
  · rw [br_p c2, yes 1668248436 (by decide) c2]
  rw [br_n c2]
  by_cases c3 : x = 487301145972
  · rw [br_p c3, yes 487301145972 (by decide) c3]
  rw [br_n c3]
  by_cases c4 : x = 1936222576
  · rw [br_r c4, yes 1936222576 (by decide) c4]
  rw [br_q c4]
  by_cases c5 : x = 1819242347
  · rw [br_p c5, yes 1819242347 (by decide) c5]
  rw [br_n c5]
  by_cases c6 : x = 495806932324
  · rw [br_p c6, yes 495806932324 (by decide) c6]
  rw [br_n c6]
  by_cases c7 : x = 431415715444
  · rw [br_p c7, yes 431415715444 (by decide) c7]
  rw [br_n c7]
  by_cases c8 : x = 1819238756
  · rw [br_p c8, yes 1819238756 (by decide) c8]
  rw [br_n c8]
  by_cases c9 : x = 1935767923
  · rw [br_r c9, yes 1935767923 (by decide) c9]
  rw [br_q c9]
  by_cases c10 : x = 24948
  · rw [br_p c10, yes 24948 (by decide) c10]
  rw [br_n c10]
  by_cases c11 : x = 465490437486
  · rw [br_p c11, yes 465490437486 (by decide) c11]
  rw [br_n c11]
  by_cases c12 : x = 1651470187
  · rw [br_p c12, yes 1651470187 (by decide) c12]
  rw [br_n c12]
  by_cases c13 : x = 1718775661
  · rw [br_p c13, yes 1718775661 (by decide) c13]
  rw [br_n c13]
  by_cases c14 : x = 29807
  · rw [br_r c14, yes 29807 (by decide) c14]
  rw [br_q c14]
  by_cases c15 : x = 1936024942
  · rw [br_p c15, yes 1936024942 (by decide) c15]
  rw [br_n c15]
  by_cases c16 : x = 1752135026
  · rw [br_p c16, yes 1752135026 (by decide) c16]
  rw [br_n c16]
  by_cases c17 : x = 1819632491
  · rw [br_p c17, yes 1819632491 (by decide) c17]
  rw [br_n c17]
  by_cases c18 : x = 2003330414
  · rw [br_p c18, yes 2003330414 (by decide) c18]
  rw [br_n c18]
  by_cases c19 : x = 28530
  · rw [br_r c19, yes 28530 (by decide) c19]
  rw [br_q c19]
  by_cases c20 : x = 6385252
  · rw [br_p c20, yes 6385252 (by decide) c20]
  rw [br_n c20]
  by_cases c21 : x = 7237492
  · rw [br_p c21, yes 7237492 (by decide) c21]
  rw [br_n c21]
  by_cases c22 : x = 6384748
  · rw [br_p c22, yes 6384748 (by decide) c22]
  rw [br_n c22]
  by_cases c23 : x = 109330212154734
  · rw [br_p c23, yes 109330212154734 (by decide) c23]
  rw [br_n c23]
  by_cases c24 : x = 7499639
  · rw [br_r c24, yes 7499639 (by decide) c24]
  rw [br_q c24]
  by_cases c25 : x = 7170414
  · rw [br_p c25, yes 7170414 (by decide) c25]
  rw [br_n c25]
  by_cases c26 : x = 7168376
  · rw [br_r c26, yes 7168376 (by decide) c26]
  rw [br_q c26]
  have hn : ¬ x ∈ ownL := by
    simp only [ownL, List.mem_cons, List.not_mem_nil, or_false, not_or]
    exact ⟨c0, c1, c2, c3, c4, c5, c6, c7, c8, c9, c10, c11, c12, c13, c14, c15, c16, c17, c18, c19, c20, c21, c22, c23, c24, c25, c26⟩
  rw [decide_eq_false hn]
  exact Iff.rfl
