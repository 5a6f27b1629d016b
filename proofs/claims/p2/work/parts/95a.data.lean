/-! what a text tells: data, and what each statement does to it -/
/-- name, look, speed, draft, load -/
abbrev Shp := List Nat × Nat × Nat × Nat × Nat
abbrev Rls := List (Den × Den)
abbrev Dat := (Nat × Nat × Nat) × (List Shp × List (List Sy) × List Bk × List (Nat × Nat × Nat)) × (Rls × Rls × Rls)
def dC (D : Dat) : Nat := D.1.1
def dR (D : Dat) : Nat := D.1.2.1
def dLk (D : Dat) : Nat := D.1.2.2
def dSh (D : Dat) : List Shp := D.2.1.1
def dYs (D : Dat) : List (List Sy) := D.2.1.2.1
def dBk (D : Dat) : List Bk := D.2.1.2.2.1
def dSg (D : Dat) : List (Nat × Nat × Nat) := D.2.1.2.2.2
def dRd (D : Dat) : Rls := D.2.2.1
def dRc (D : Dat) : Rls := D.2.2.2.1
def dRq (D : Dat) : Rls := D.2.2.2.2
def dY (D : Dat) (s : Nat) : List Sy := (dYs D).getD s []
def dTot (D : Dat) : Nat := sumF (fun s => (dY D s).length) (dSh D).length
/-- nothing told -/
def dat0 : Dat := ((0, 0, 10), ([], [], [], []), ([], [], []))
def shF (D : Dat) (l : List Nat) : Option Nat := (dSh D).findIdx? (fun s => s.1 == l)
def bR {β : Type} (r : Rt) (k : Tok → Sum (Nat × Nat) β) : Sum (Nat × Nat) β := match r with
  | .inl e => .inl e
  | .inr t => k t
section
variable (T : Nat → Nat) (n : Nat)
def aftR (w lo hi : Nat) (r : Rt) : Rt × Nat := numR T n lo hi (wordR T n w r)
def plcR (C R : Nat) (r : Rt) : Rt × Nat := ((numR T n 0 (R - 1) (numR T n 0 (C - 1) (wordR T n 10 r)).1).1, 16 * (numR T n 0 (R - 1) (numR T n 0 (C - 1) (wordR T n 10 r)).1).2 + (numR T n 0 (C - 1) (wordR T n 10 r)).2)
def shpR (D : Dat) (r : Rt) : Rt × Nat := match (nameR r).1 with
  | .inl e => (.inl e, 0)
  | .inr t => match shF D t.2.2.1 with
    | none => (.inl (3, tS t), 0)
    | some s => (advR T n t, s)
abbrev Rq := Sum (Nat × Nat) (Tok × Dat)
def fuelP : Nat := 8 * (n + 2) + 8
/-- a sum or a test of the text -/
def psX {β : Type} (g : Nat) (t : Tok) (k : Tok → Den → Sum (Nat × Nat) β) : Sum (Nat × Nat) β := match ps T n (fuelP n) g 0 t (fun _ => 0) with
  | none => .inl (0, 0)
  | some (.inl e) => .inl e
  | some (.inr q) => k q.1 q.2
def spSize (D : Dat) (t : Tok) : Rq := bR (numR T n 2 16 (numR T n 2 16 (advR T n t)).1).1 (fun t' => .inr (t', (((numR T n 2 16 (advR T n t)).2, (numR T n 2 16 (numR T n 2 16 (advR T n t)).1).2, dLk D), D.2)))
def spSum (full : Bool) (t : Tok) (f : Den → Den → Dat) : Rq := if full = true then .inl (5, tS t) else bR (advR T n t) (fun t1 => psX T n 0 t1 (fun t2 v => bR (wordR T n 18 (.inr t2)) (fun t3 => psX T n 5 t3 (fun t4 w => .inr (t4, f v w)))))
def spTest (full : Bool) (t : Tok) (f : Den → Dat) : Rq := if full = true then .inl (5, tS t) else bR (wordR T n 18 (advR T n t)) (fun t3 => psX T n 5 t3 (fun t4 w => .inr (t4, f w)))
def spDepth (D : Dat) (t : Tok) : Rq := spSum T n (decide (12 ≤ (dRd D).length)) t (fun v w => (D.1, D.2.1, dRd D ++ [(v, w)], dRc D, dRq D))
def spCost (D : Dat) (t : Tok) : Rq := spSum T n (decide (12 ≤ (dRc D).length)) t (fun v w => (D.1, D.2.1, dRd D, dRc D ++ [(v, w)], dRq D))
def spQuiet (D : Dat) (t : Tok) : Rq := spTest T n (decide (6 ≤ (dRq D).length)) t (fun w => (D.1, D.2.1, dRd D, dRc D, dRq D ++ [(fun _ => 0, w)]))
def spShip (D : Dat) (t : Tok) : Rq := if 8 ≤ (dSh D).length then .inl (5, tS t) else bR (nameR (advR T n t)).1 (fun t1 => if (shF D t1.2.2.1).isSome = true then .inl (2, tS t1) else
  bR (aftR T n 8 0 40 (aftR T n 7 1 40 (aftR T n 6 1 4 (aftR T n 5 0 3 (advR T n t1)).1).1).1).1 (fun t' => .inr (t', (D.1, (dSh D ++ [(t1.2.2.1, (aftR T n 5 0 3 (advR T n t1)).2, (aftR T n 6 1 4 (aftR T n 5 0 3 (advR T n t1)).1).2, (aftR T n 7 1 40 (aftR T n 6 1 4 (aftR T n 5 0 3 (advR T n t1)).1).1).2, (aftR T n 8 0 40 (aftR T n 7 1 40 (aftR T n 6 1 4 (aftR T n 5 0 3 (advR T n t1)).1).1).1).2)], dYs D ++ [[]], dBk D, dSg D), D.2.2))))
noncomputable def spSay (D : Dat) (t : Tok) : Rq := if 96 ≤ dTot D then .inl (5, tS t) else bR (shpR T n D (advR T n t)).1 (fun t1 => bR (isNR 0 47 (.inr t1)).1 (fun t2 => if dB (∃ y, y ∈ dY D (shpR T n D (advR T n t)).2 ∧ y.1 = t2.2.1) = true then .inl (3, tS t2) else
  bR (aftR T n 11 0 1 (plcR T n (dC D) (dR D) (advR T n t2)).1).1 (fun t' => .inr (t', (D.1, (dSh D, (dYs D).set (shpR T n D (advR T n t)).2 (inY (dY D (shpR T n D (advR T n t)).2) (t2.2.1, (plcR T n (dC D) (dR D) (advR T n t2)).2, (aftR T n 11 0 1 (plcR T n (dC D) (dR D) (advR T n t2)).1).2 == 1)), dBk D, dSg D), D.2.2)))))
def spBook (D : Dat) (t : Tok) : Rq := if 12 ≤ (dBk D).length then .inl (5, tS t) else
  bR (aftR T n 14 (aftR T n 13 0 47 (plcR T n (dC D) (dR D) (shpR T n D (advR T n t)).1).1).2 47 (aftR T n 13 0 47 (plcR T n (dC D) (dR D) (shpR T n D (advR T n t)).1).1).1).1 (fun t' => .inr (t', (D.1, (dSh D, dYs D, dBk D ++ [((shpR T n D (advR T n t)).2, (plcR T n (dC D) (dR D) (shpR T n D (advR T n t)).1).2, (aftR T n 13 0 47 (plcR T n (dC D) (dR D) (shpR T n D (advR T n t)).1).1).2, (aftR T n 14 (aftR T n 13 0 47 (plcR T n (dC D) (dR D) (shpR T n D (advR T n t)).1).1).2 47 (aftR T n 13 0 47 (plcR T n (dC D) (dR D) (shpR T n D (advR T n t)).1).1).1).2)], dSg D), D.2.2)))
def spSeen (D : Dat) (t : Tok) : Rq := if 40 ≤ (dSg D).length then .inl (5, tS t) else
  bR (aftR T n 16 0 47 (plcR T n (dC D) (dR D) (numR T n 0 3 (advR T n t)).1).1).1 (fun t' => .inr (t', (D.1, (dSh D, dYs D, dBk D, dSg D ++ [((numR T n 0 3 (advR T n t)).2, (plcR T n (dC D) (dR D) (numR T n 0 3 (advR T n t)).1).2, (aftR T n 16 0 47 (plcR T n (dC D) (dR D) (numR T n 0 3 (advR T n t)).1).1).2)]), D.2.2)))
def spLuck (D : Dat) (t : Tok) : Rq := bR (numR T n 0 100 (advR T n t)).1 (fun t' => .inr (t', ((dC D, dR D, (numR T n 0 100 (advR T n t)).2), D.2)))
/-- a statement but the first -/
noncomputable def spSt (D : Dat) (t : Tok) : Rq :=
  if isW t (ownW.getD 1 []) = true then spDepth T n D t else if isW t (ownW.getD 2 []) = true then spCost T n D t else if isW t (ownW.getD 3 []) = true then spQuiet T n D t else if isW t (ownW.getD 4 []) = true then spShip T n D t else if isW t (ownW.getD 9 []) = true then spSay T n D t else if isW t (ownW.getD 12 []) = true then spBook T n D t else if isW t (ownW.getD 15 []) = true then spSeen T n D t else if isW t (ownW.getD 17 []) = true then spLuck T n D t else .inl (1, tS t)
/-- a statement and the sign behind it -/
noncomputable def spS1 (D : Dat) (t : Tok) : Rq := match spSt T n D t with
  | .inl e => .inl e
  | .inr q => bR (signR T n 59 (.inr q.1)) (fun t' => .inr (t', q.2))
/-- the rest of a text, k statements being read -/
noncomputable def spR : Nat → Nat → Dat → Tok → Option (Sum (Nat × Nat) (Nat × Dat))
  | 0, _, _, _ => none
  | f + 1, k, D, t => if t.1 = 0 then some (.inr (k, D)) else match spS1 T n D t with
    | .inl e => some (.inl e)
    | .inr q => spR f (k + 1) q.2 q.1
/-- a text -/
noncomputable def spTx : Option (Sum (Nat × Nat) (Nat × Dat)) := match bR (advR T n (0, 0, [], 0, 0)) (fun t => if isW t (ownW.getD 0 []) = true then (match spSize T n dat0 t with
    | .inl e => .inl e
    | .inr q => bR (signR T n 59 (.inr q.1)) (fun t' => (.inr (t', q.2) : Rq))) else .inl (1, tS t)) with
  | .inl e => some (.inl e)
  | .inr q => spR T n (n + 2) 1 q.2 q.1
end
/-- data that can stand -/
def shOK (s : Shp) : Prop := isWd s.1 ∧ 1 ≤ s.1.length ∧ s.1.length ≤ 6 ∧ s.2.1 ≤ 3 ∧ 1 ≤ s.2.2.1 ∧ s.2.2.1 ≤ 4 ∧ 1 ≤ s.2.2.2.1 ∧ s.2.2.2.1 ≤ 40 ∧ s.2.2.2.2 ≤ 40
def rlOK (m : Nat) (R : Rls) : Prop := R.length ≤ m ∧ ∀ r, r ∈ R → bdS r.1 ∧ bdT r.2
def DOK (D : Dat) : Prop := (dC D ≤ 16 ∧ dR D ≤ 16) ∧ dLk D ≤ 100 ∧ ((dSh D).length ≤ 8 ∧ (dYs D).length = (dSh D).length ∧ ∀ s, s ∈ dSh D → shOK s) ∧ (∀ s y, y ∈ dY D s → y.1 < 48 ∧ vld (dC D) (dR D) y.2.1) ∧ (∀ s, srtY (dY D s)) ∧ dTot D ≤ 96 ∧ (bkOK (dC D) (dR D) (dBk D) ∧ ∀ k, k ∈ dBk D → k.1 < (dSh D).length) ∧ ((dSg D).length ≤ 40 ∧ ∀ g, g ∈ dSg D → g.1 ≤ 3 ∧ vld (dC D) (dR D) g.2.1 ∧ g.2.2 < 48) ∧ rlOK 12 (dRd D) ∧ rlOK 12 (dRc D) ∧ rlOK 6 (dRq D)
/-- a ship in the class's sea -/
def ShX (M : am_M) (g : Nat) (sp : Shp) (Y : List Sy) (B : List Fct) : Prop := (mI M g 0 = nI (pkL sp.1) ∧ mI M g 1 = nI sp.2.1 ∧ mI M g 2 = nI sp.2.2.1 ∧ mI M g 3 = nI sp.2.2.2.1 ∧ mI M g 4 = nI sp.2.2.2.2) ∧ SyX M g Y ∧ BkX M g B
def SgX (M : am_M) (z : Nat) (L : List (Nat × Nat × Nat)) : Prop := mI M (z + 2) 0 = nI L.length ∧ ∀ i g, L[i]? = some g → mI M (z + 3) i = nI g.1 ∧ mI M (z + 4) i = nI g.2.1 ∧ mI M (z + 5) i = nI g.2.2
/-- rules, their code ahead of c -/
def RlC (M : am_M) (z q : Nat) (sm : Bool) (R : Rls) (c : Nat) : Prop := mI M q 0 = nI R.length ∧ ∀ k r, R[k]? = some r → ∃ s0 s1 s2, s0 ≤ s1 ∧ s1 ≤ s2 ∧ s2 ≤ c ∧ mI M (q + 1) k = nI s0 ∧ mI M (q + 2) k = nI s1 ∧ mI M (q + 3) k = nI s2 ∧ wfD 64 (insX M z) s1 (s2 - s1) ∧ cdD (insX M z) s1 (s2 - s1) = [r.2] ∧ (sm = true → wfD 64 (insX M z) s0 (s1 - s0) ∧ cdD (insX M z) s0 (s1 - s0) = [r.1])
theorem RlC_X {M : am_M} {z q c m : Nat} {sm : Bool} {R : Rls} (h : RlC M z q sm R c) (hc : c ≤ 1800) (hm : rlOK m R) (h12 : m ≤ 12) : RlX M z q sm R := by
  refine ⟨h.1, by have := hm.1; omega, fun k r hr => ?_⟩
  obtain ⟨s0, s1, s2, b1, b2, b3, b4, b5, b6, b7, b8, b9⟩ := h.2 k r hr
  have hb := hm.2 r (List.mem_of_getElem? hr)
  exact ⟨s0, s1, s2, b1, b2, by omega, b4, b5, b6, b7, b8, hb.2, fun q => ⟨(b9 q).1, (b9 q).2, hb.1⟩⟩
/-- the class's sea as it is told -/
def PsX (M : am_M) (z : Nat) (D : Dat) (c : Nat) : Prop := (mI M z 0 = nI (dC D) ∧ mI M z 1 = nI (dR D) ∧ mI M z 2 = nI (dLk D) ∧ mI M z 3 = nI (dSh D).length) ∧ (∀ s sp, (dSh D)[s]? = some sp → ShX M (z + 25 + 7 * s) sp (dY D s) (bkOf (dBk D) s)) ∧ SgX M z (dSg D) ∧ (RlC M z (z + 9) true (dRd D) c ∧ RlC M z (z + 13) true (dRc D) c ∧ RlC M z (z + 17) false (dRq D) c) ∧ FmX M z c
theorem RlC_g {M M' : am_M} {z q c : Nat} {sm : Bool} {R : Rls} {S T' : Nat → Nat → Prop} (h : RlC M z q sm R c) (hg : gF S T' M M') (h1 : ∀ a j, q ≤ a → a ≤ q + 3 → ¬ S a j) (h7 : ∀ j, j < c → ¬ S (z + 7) j) : RlC M' z q sm R c := by
  refine ⟨by rw [hg.1 _ _ (h1 _ _ (by omega) (by omega))]; exact h.1, fun k r hr => ?_⟩
  obtain ⟨s0, s1, s2, b1, b2, b3, b4, b5, b6, b7, b8, b9⟩ := h.2 k r hr
  have e1 : ∀ j, j < s2 - s1 → insX M z (s1 + j) = insX M' z (s1 + j) := fun j hj => by unfold insX; rw [hg.1 _ _ (h7 _ (by omega))]
  have e0 : ∀ j, j < s1 - s0 → insX M z (s0 + j) = insX M' z (s0 + j) := fun j hj => by unfold insX; rw [hg.1 _ _ (h7 _ (by omega))]
  refine ⟨s0, s1, s2, b1, b2, b3, by rw [hg.1 _ _ (h1 _ _ (by omega) (by omega))]; exact b4, by rw [hg.1 _ _ (h1 _ _ (by omega) (by omega))]; exact b5, by rw [hg.1 _ _ (h1 _ _ (by omega) (by omega))]; exact b6, wfD_ext e1 b7, by rw [← cdD_ext e1]; exact b8, fun q => ⟨wfD_ext e0 (b9 q).1, by rw [← cdD_ext e0]; exact (b9 q).2⟩⟩
theorem RlC_le {M : am_M} {z q c c' : Nat} {sm : Bool} {R : Rls} (h : RlC M z q sm R c) (hc : c ≤ c') : RlC M z q sm R c' := by
  refine ⟨h.1, fun k r hr => ?_⟩
  obtain ⟨s0, s1, s2, b1, b2, b3, b4⟩ := h.2 k r hr
  exact ⟨s0, s1, s2, b1, b2, by omega, b4⟩
theorem ShX_g {M M' : am_M} {g : Nat} {sp : Shp} {Y : List Sy} {B : List Fct} {S T' : Nat → Nat → Prop} (h : ShX M g sp Y B) (hg : gF S T' M M') (h1 : ∀ a j, g ≤ a → a ≤ g + 6 → ¬ S a j) : ShX M' g sp Y B := by
  have k : ∀ a j, g ≤ a → a ≤ g + 6 → mI M' a j = mI M a j := fun a j q1 q2 => hg.1 a j (h1 a j q1 q2)
  obtain ⟨⟨a1, a2, a3, a4, a5⟩, ⟨b1, b2, b3⟩, ⟨c1, c2, c3⟩⟩ := h
  refine ⟨⟨by rw [k _ _ (by omega) (by omega)]; exact a1, by rw [k _ _ (by omega) (by omega)]; exact a2, by rw [k _ _ (by omega) (by omega)]; exact a3, by rw [k _ _ (by omega) (by omega)]; exact a4, by rw [k _ _ (by omega) (by omega)]; exact a5⟩, ⟨by rw [k _ _ (by omega) (by omega)]; exact b1, b2, fun i y hy => ?_⟩, ⟨by rw [k _ _ (by omega) (by omega)]; exact c1, c2, fun i y hy => ?_⟩⟩
  · obtain ⟨q1, q2, q3, q4⟩ := b3 i y hy
    exact ⟨q1, by rw [k _ _ (by omega) (by omega)]; exact q2, by rw [k _ _ (by omega) (by omega)]; exact q3, by rw [k _ _ (by omega) (by omega)]; exact q4⟩
  · obtain ⟨q1, q2, q3, q4⟩ := c3 i y hy
    exact ⟨q1, by rw [k _ _ (by omega) (by omega)]; exact q2, by rw [k _ _ (by omega) (by omega)]; exact q3, by rw [k _ _ (by omega) (by omega)]; exact q4⟩
theorem SgX_g {M M' : am_M} {z : Nat} {L : List (Nat × Nat × Nat)} {S T' : Nat → Nat → Prop} (h : SgX M z L) (hg : gF S T' M M') (h1 : ∀ a j, z + 2 ≤ a → a ≤ z + 5 → ¬ S a j) : SgX M' z L := by
  have k : ∀ a j, z + 2 ≤ a → a ≤ z + 5 → mI M' a j = mI M a j := fun a j q1 q2 => hg.1 a j (h1 a j q1 q2)
  refine ⟨by rw [k _ _ (by omega) (by omega)]; exact h.1, fun i g hi => ?_⟩
  obtain ⟨q1, q2, q3⟩ := h.2 i g hi
  exact ⟨by rw [k _ _ (by omega) (by omega)]; exact q1, by rw [k _ _ (by omega) (by omega)]; exact q2, by rw [k _ _ (by omega) (by omega)]; exact q3⟩
/-- nothing of the sea is touched but code from c on -/
theorem PsX_g {M M' : am_M} {z c c' : Nat} {D : Dat} {S T' : Nat → Nat → Prop} (h : PsX M z D c) (hg : gF S T' M M') (hn : (dSh D).length ≤ 8) (hS : ∀ a j, z ≤ a → a ≤ z + 80 → ¬ (a = z + 7 ∧ c ≤ j) → ¬ (a = z + 6 ∧ j = 1) → ¬ (z + 21 ≤ a ∧ a ≤ z + 24) → ¬ a = z + 8 → ¬ S a j) (hF : FmX M' z c') (hc : c ≤ c') : PsX M' z D c' := by
  have k : ∀ a j, z ≤ a → a ≤ z + 80 → ¬ (a = z + 7 ∧ c ≤ j) → ¬ (a = z + 6 ∧ j = 1) → ¬ (z + 21 ≤ a ∧ a ≤ z + 24) → ¬ a = z + 8 → mI M' a j = mI M a j := fun a j q1 q2 q3 q4 q5 q6 => hg.1 a j (hS a j q1 q2 q3 q4 q5 q6)
  obtain ⟨⟨a1, a2, a3, a4⟩, b, s, ⟨r1, r2, r3⟩, f⟩ := h
  refine ⟨⟨by rw [k _ _ (by omega) (by omega) (by omega) (by omega) (by omega) (by omega)]; exact a1, by rw [k _ _ (by omega) (by omega) (by omega) (by omega) (by omega) (by omega)]; exact a2, by rw [k _ _ (by omega) (by omega) (by omega) (by omega) (by omega) (by omega)]; exact a3, by rw [k _ _ (by omega) (by omega) (by omega) (by omega) (by omega) (by omega)]; exact a4⟩, fun s' sp hs' => ?_, SgX_g s hg (fun a j q1 q2 => hS a j (by omega) (by omega) (by omega) (by omega) (by omega) (by omega)), ⟨RlC_le (RlC_g r1 hg (fun a j q1 q2 => hS a j (by omega) (by omega) (by omega) (by omega) (by omega) (by omega)) (fun j hj => hS _ j (by omega) (by omega) (by omega) (by omega) (by omega) (by omega))) hc, RlC_le (RlC_g r2 hg (fun a j q1 q2 => hS a j (by omega) (by omega) (by omega) (by omega) (by omega) (by omega)) (fun j hj => hS _ j (by omega) (by omega) (by omega) (by omega) (by omega) (by omega))) hc, RlC_le (RlC_g r3 hg (fun a j q1 q2 => hS a j (by omega) (by omega) (by omega) (by omega) (by omega) (by omega)) (fun j hj => hS _ j (by omega) (by omega) (by omega) (by omega) (by omega) (by omega))) hc⟩, hF⟩
  have hsl := (List.getElem?_eq_some_iff.mp hs').1
  exact ShX_g (b s' sp hs') hg (fun a j q1 q2 => hS a j (by omega) (by omega) (by omega) (by omega) (by omega) (by omega))
