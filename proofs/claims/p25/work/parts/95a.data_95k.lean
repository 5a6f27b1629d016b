/-! 95a.data 95b.help 95c.stmt 95d.stmt2 95e.stmt3 95f.stmt4 95g.rule 95h.stmt5 95i.sea 95j.sea2 95k.sea3 -/
section
/-! what a text tells: data, and what each statement does to it -/
/-- name, look, speed, draft, load -/
abbrev Shp := List Nat × Nat × Nat × Nat × Nat
abbrev Rls := List (Den × Den)
abbrev Dat := (Nat × Nat × Nat) × (List Shp × List (List Sy) × List Bk × List (Nat × Nat × Nat)) × (Rls × Rls × Rls)
def dC (D : Dat) : Nat := D.1.1
def dR (D : Dat) : Nat := D.1.2.1
def dLk (D : Dat) : Nat := D.1.2.2
def dSh (D : Dat) : List Shp := D.2.1.1
def dYs (D : Dat) : List (List Sy) := D.2.1.2.1
def dBk (D : Dat) : List Bk := D.2.1.2.2.1
def dSg (D : Dat) : List (Nat × Nat × Nat) := D.2.1.2.2.2
def dRd (D : Dat) : Rls := D.2.2.1
def dRc (D : Dat) : Rls := D.2.2.2.1
def dRq (D : Dat) : Rls := D.2.2.2.2
def dY (D : Dat) (s : Nat) : List Sy := (dYs D).getD s []
def dTot (D : Dat) : Nat := sumF (fun s => (dY D s).length) (dSh D).length
/-- nothing told -/
def dat0 : Dat := ((0, 0, 10), ([], [], [], []), ([], [], []))
def shF (D : Dat) (l : List Nat) : Option Nat := (dSh D).findIdx? (fun s => s.1 == l)
def bR {β : Type} (r : Rt) (k : Tok → Sum (Nat × Nat) β) : Sum (Nat × Nat) β := match r with
  | .inl e => .inl e
  | .inr t => k t
section
variable (T : Nat → Nat) (n : Nat)
def aftR (w lo hi : Nat) (r : Rt) : Rt × Nat := numR T n lo hi (wordR T n w r)
def plcR (C R : Nat) (r : Rt) : Rt × Nat := ((numR T n 0 (R - 1) (numR T n 0 (C - 1) (wordR T n 10 r)).1).1, 16 * (numR T n 0 (R - 1) (numR T n 0 (C - 1) (wordR T n 10 r)).1).2 + (numR T n 0 (C - 1) (wordR T n 10 r)).2)
def shpR (D : Dat) (r : Rt) : Rt × Nat := match (nameR r).1 with
  | .inl e => (.inl e, 0)
  | .inr t => match shF D t.2.2.1 with
    | none => (.inl (3, tS t), 0)
    | some s => (advR T n t, s)
abbrev Rq := Sum (Nat × Nat) (Tok × Dat)
def fuelP : Nat := 8 * (n + 2) + 8
/-- a sum or a test of the text -/
def psX {β : Type} (g : Nat) (t : Tok) (k : Tok → Den → Sum (Nat × Nat) β) : Sum (Nat × Nat) β := match ps T n (fuelP n) g 0 t (fun _ => 0) with
  | none => .inl (0, 0)
  | some (.inl e) => .inl e
  | some (.inr q) => k q.1 q.2
def spSize (D : Dat) (t : Tok) : Rq := bR (numR T n 2 16 (numR T n 2 16 (advR T n t)).1).1 (fun t' => .inr (t', (((numR T n 2 16 (advR T n t)).2, (numR T n 2 16 (numR T n 2 16 (advR T n t)).1).2, dLk D), D.2)))
def spSum (full : Bool) (t : Tok) (f : Den → Den → Dat) : Rq := if full = true then .inl (5, tS t) else bR (advR T n t) (fun t1 => psX T n 0 t1 (fun t2 v => bR (wordR T n 18 (.inr t2)) (fun t3 => psX T n 5 t3 (fun t4 w => .inr (t4, f v w)))))
def spTest (full : Bool) (t : Tok) (f : Den → Dat) : Rq := if full = true then .inl (5, tS t) else bR (wordR T n 18 (advR T n t)) (fun t3 => psX T n 5 t3 (fun t4 w => .inr (t4, f w)))
def spDepth (D : Dat) (t : Tok) : Rq := spSum T n (decide (12 ≤ (dRd D).length)) t (fun v w => (D.1, D.2.1, dRd D ++ [(v, w)], dRc D, dRq D))
def spCost (D : Dat) (t : Tok) : Rq := spSum T n (decide (12 ≤ (dRc D).length)) t (fun v w => (D.1, D.2.1, dRd D, dRc D ++ [(v, w)], dRq D))
def spQuiet (D : Dat) (t : Tok) : Rq := spTest T n (decide (6 ≤ (dRq D).length)) t (fun w => (D.1, D.2.1, dRd D, dRc D, dRq D ++ [(fun _ => 0, w)]))
def spShip (D : Dat) (t : Tok) : Rq := if 8 ≤ (dSh D).length then .inl (5, tS t) else bR (nameR (advR T n t)).1 (fun t1 => if (shF D t1.2.2.1).isSome = true then .inl (2, tS t1) else
  bR (aftR T n 8 0 40 (aftR T n 7 1 40 (aftR T n 6 1 4 (aftR T n 5 0 3 (advR T n t1)).1).1).1).1 (fun t' => .inr (t', (D.1, (dSh D ++ [(t1.2.2.1, (aftR T n 5 0 3 (advR T n t1)).2, (aftR T n 6 1 4 (aftR T n 5 0 3 (advR T n t1)).1).2, (aftR T n 7 1 40 (aftR T n 6 1 4 (aftR T n 5 0 3 (advR T n t1)).1).1).2, (aftR T n 8 0 40 (aftR T n 7 1 40 (aftR T n 6 1 4 (aftR T n 5 0 3 (advR T n t1)).1).1).1).2)], dYs D ++ [[]], dBk D, dSg D), D.2.2))))
noncomputable def spSay (D : Dat) (t : Tok) : Rq := if 96 ≤ dTot D then .inl (5, tS t) else bR (shpR T n D (advR T n t)).1 (fun t1 => bR (isNR 0 47 (.inr t1)).1 (fun t2 => if dB (∃ y, y ∈ dY D (shpR T n D (advR T n t)).2 ∧ y.1 = t2.2.1) = true then .inl (3, tS t2) else
  bR (aftR T n 11 0 1 (plcR T n (dC D) (dR D) (advR T n t2)).1).1 (fun t' => .inr (t', (D.1, (dSh D, (dYs D).set (shpR T n D (advR T n t)).2 (inY (dY D (shpR T n D (advR T n t)).2) (t2.2.1, (plcR T n (dC D) (dR D) (advR T n t2)).2, (aftR T n 11 0 1 (plcR T n (dC D) (dR D) (advR T n t2)).1).2 == 1)), dBk D, dSg D), D.2.2)))))
def spBook (D : Dat) (t : Tok) : Rq := if 12 ≤ (dBk D).length then .inl (5, tS t) else
  bR (aftR T n 14 (aftR T n 13 0 47 (plcR T n (dC D) (dR D) (shpR T n D (advR T n t)).1).1).2 47 (aftR T n 13 0 47 (plcR T n (dC D) (dR D) (shpR T n D (advR T n t)).1).1).1).1 (fun t' => .inr (t', (D.1, (dSh D, dYs D, dBk D ++ [((shpR T n D (advR T n t)).2, (plcR T n (dC D) (dR D) (shpR T n D (advR T n t)).1).2, (aftR T n 13 0 47 (plcR T n (dC D) (dR D) (shpR T n D (advR T n t)).1).1).2, (aftR T n 14 (aftR T n 13 0 47 (plcR T n (dC D) (dR D) (shpR T n D (advR T n t)).1).1).2 47 (aftR T n 13 0 47 (plcR T n (dC D) (dR D) (shpR T n D (advR T n t)).1).1).1).2)], dSg D), D.2.2)))
def spSeen (D : Dat) (t : Tok) : Rq := if 40 ≤ (dSg D).length then .inl (5, tS t) else
  bR (aftR T n 16 0 47 (plcR T n (dC D) (dR D) (numR T n 0 3 (advR T n t)).1).1).1 (fun t' => .inr (t', (D.1, (dSh D, dYs D, dBk D, dSg D ++ [((numR T n 0 3 (advR T n t)).2, (plcR T n (dC D) (dR D) (numR T n 0 3 (advR T n t)).1).2, (aftR T n 16 0 47 (plcR T n (dC D) (dR D) (numR T n 0 3 (advR T n t)).1).1).2)]), D.2.2)))
def spLuck (D : Dat) (t : Tok) : Rq := bR (numR T n 0 100 (advR T n t)).1 (fun t' => .inr (t', ((dC D, dR D, (numR T n 0 100 (advR T n t)).2), D.2)))
/-- a statement but the first -/
noncomputable def spSt (D : Dat) (t : Tok) : Rq :=
  if isW t (ownW.getD 1 []) = true then spDepth T n D t else if isW t (ownW.getD 2 []) = true then spCost T n D t else if isW t (ownW.getD 3 []) = true then spQuiet T n D t else if isW t (ownW.getD 4 []) = true then spShip T n D t else if isW t (ownW.getD 9 []) = true then spSay T n D t else if isW t (ownW.getD 12 []) = true then spBook T n D t else if isW t (ownW.getD 15 []) = true then spSeen T n D t else if isW t (ownW.getD 17 []) = true then spLuck T n D t else .inl (1, tS t)
/-- a statement and the sign behind it -/
noncomputable def spS1 (D : Dat) (t : Tok) : Rq := match spSt T n D t with
  | .inl e => .inl e
  | .inr q => bR (signR T n 59 (.inr q.1)) (fun t' => .inr (t', q.2))
/-- the rest of a text, k statements being read -/
noncomputable def spR : Nat → Nat → Dat → Tok → Option (Sum (Nat × Nat) (Nat × Dat))
  | 0, _, _, _ => none
  | f + 1, k, D, t => if t.1 = 0 then some (.inr (k, D)) else match spS1 T n D t with
    | .inl e => some (.inl e)
    | .inr q => spR f (k + 1) q.2 q.1
/-- a text -/
noncomputable def spTx : Option (Sum (Nat × Nat) (Nat × Dat)) := match bR (advR T n (0, 0, [], 0, 0)) (fun t => if isW t (ownW.getD 0 []) = true then (match spSize T n dat0 t with
    | .inl e => .inl e
    | .inr q => bR (signR T n 59 (.inr q.1)) (fun t' => (.inr (t', q.2) : Rq))) else .inl (1, tS t)) with
  | .inl e => some (.inl e)
  | .inr q => spR T n (n + 2) 1 q.2 q.1
end
/-- data that can stand -/
def shOK (s : Shp) : Prop := isWd s.1 ∧ 1 ≤ s.1.length ∧ s.1.length ≤ 6 ∧ s.2.1 ≤ 3 ∧ 1 ≤ s.2.2.1 ∧ s.2.2.1 ≤ 4 ∧ 1 ≤ s.2.2.2.1 ∧ s.2.2.2.1 ≤ 40 ∧ s.2.2.2.2 ≤ 40
def rlOK (m : Nat) (R : Rls) : Prop := R.length ≤ m ∧ ∀ r, r ∈ R → bdS r.1 ∧ bdT r.2
def DOK (D : Dat) : Prop := (dC D ≤ 16 ∧ dR D ≤ 16) ∧ dLk D ≤ 100 ∧ ((dSh D).length ≤ 8 ∧ (dYs D).length = (dSh D).length ∧ ∀ s, s ∈ dSh D → shOK s) ∧ (∀ s y, y ∈ dY D s → y.1 < 48 ∧ vld (dC D) (dR D) y.2.1) ∧ (∀ s, srtY (dY D s)) ∧ dTot D ≤ 96 ∧ (bkOK (dC D) (dR D) (dBk D) ∧ ∀ k, k ∈ dBk D → k.1 < (dSh D).length) ∧ ((dSg D).length ≤ 40 ∧ ∀ g, g ∈ dSg D → g.1 ≤ 3 ∧ vld (dC D) (dR D) g.2.1 ∧ g.2.2 < 48) ∧ rlOK 12 (dRd D) ∧ rlOK 12 (dRc D) ∧ rlOK 6 (dRq D)
/-- a ship in the class's sea -/
def ShX (M : am_M) (g : Nat) (sp : Shp) (Y : List Sy) (B : List Fct) : Prop := (mI M g 0 = nI (pkL sp.1) ∧ mI M g 1 = nI sp.2.1 ∧ mI M g 2 = nI sp.2.2.1 ∧ mI M g 3 = nI sp.2.2.2.1 ∧ mI M g 4 = nI sp.2.2.2.2) ∧ SyX M g Y ∧ BkX M g B
def SgX (M : am_M) (z : Nat) (L : List (Nat × Nat × Nat)) : Prop := mI M (z + 2) 0 = nI L.length ∧ ∀ i g, L[i]? = some g → mI M (z + 3) i = nI g.1 ∧ mI M (z + 4) i = nI g.2.1 ∧ mI M (z + 5) i = nI g.2.2
/-- rules, their code ahead of c -/
def RlC (M : am_M) (z q : Nat) (sm : Bool) (R : Rls) (c : Nat) : Prop := mI M q 0 = nI R.length ∧ ∀ k r, R[k]? = some r → ∃ s0 s1 s2, s0 ≤ s1 ∧ s1 ≤ s2 ∧ s2 ≤ c ∧ mI M (q + 1) k = nI s0 ∧ mI M (q + 2) k = nI s1 ∧ mI M (q + 3) k = nI s2 ∧ wfD 64 (insX M z) s1 (s2 - s1) ∧ cdD (insX M z) s1 (s2 - s1) = [r.2] ∧ (sm = true → wfD 64 (insX M z) s0 (s1 - s0) ∧ cdD (insX M z) s0 (s1 - s0) = [r.1])
theorem RlC_X {M : am_M} {z q c m : Nat} {sm : Bool} {R : Rls} (h : RlC M z q sm R c) (hc : c ≤ 1800) (hm : rlOK m R) (h12 : m ≤ 12) : RlX M z q sm R := by
  refine ⟨h.1, by have := hm.1; omega, fun k r hr => ?_⟩
  obtain ⟨s0, s1, s2, b1, b2, b3, b4, b5, b6, b7, b8, b9⟩ := h.2 k r hr
  have hb := hm.2 r (List.mem_of_getElem? hr)
  exact ⟨s0, s1, s2, b1, b2, by omega, b4, b5, b6, b7, b8, hb.2, fun q => ⟨(b9 q).1, (b9 q).2, hb.1⟩⟩
/-- the class's sea as it is told -/
def PsX (M : am_M) (z : Nat) (D : Dat) (c : Nat) : Prop := (mI M z 0 = nI (dC D) ∧ mI M z 1 = nI (dR D) ∧ mI M z 2 = nI (dLk D) ∧ mI M z 3 = nI (dSh D).length) ∧ (∀ s sp, (dSh D)[s]? = some sp → ShX M (z + 25 + 7 * s) sp (dY D s) (bkOf (dBk D) s)) ∧ SgX M z (dSg D) ∧ (RlC M z (z + 9) true (dRd D) c ∧ RlC M z (z + 13) true (dRc D) c ∧ RlC M z (z + 17) false (dRq D) c) ∧ FmX M z c
theorem RlC_g {M M' : am_M} {z q c : Nat} {sm : Bool} {R : Rls} {S T' : Nat → Nat → Prop} (h : RlC M z q sm R c) (hg : gF S T' M M') (h1 : ∀ a j, q ≤ a → a ≤ q + 3 → ¬ S a j) (h7 : ∀ j, j < c → ¬ S (z + 7) j) : RlC M' z q sm R c := by
  refine ⟨by rw [hg.1 _ _ (h1 _ _ (by omega) (by omega))]; exact h.1, fun k r hr => ?_⟩
  obtain ⟨s0, s1, s2, b1, b2, b3, b4, b5, b6, b7, b8, b9⟩ := h.2 k r hr
  have e1 : ∀ j, j < s2 - s1 → insX M z (s1 + j) = insX M' z (s1 + j) := fun j hj => by unfold insX; rw [hg.1 _ _ (h7 _ (by omega))]
  have e0 : ∀ j, j < s1 - s0 → insX M z (s0 + j) = insX M' z (s0 + j) := fun j hj => by unfold insX; rw [hg.1 _ _ (h7 _ (by omega))]
  refine ⟨s0, s1, s2, b1, b2, b3, by rw [hg.1 _ _ (h1 _ _ (by omega) (by omega))]; exact b4, by rw [hg.1 _ _ (h1 _ _ (by omega) (by omega))]; exact b5, by rw [hg.1 _ _ (h1 _ _ (by omega) (by omega))]; exact b6, wfD_ext e1 b7, by rw [← cdD_ext e1]; exact b8, fun q => ⟨wfD_ext e0 (b9 q).1, by rw [← cdD_ext e0]; exact (b9 q).2⟩⟩
theorem RlC_le {M : am_M} {z q c c' : Nat} {sm : Bool} {R : Rls} (h : RlC M z q sm R c) (hc : c ≤ c') : RlC M z q sm R c' := by
  refine ⟨h.1, fun k r hr => ?_⟩
  obtain ⟨s0, s1, s2, b1, b2, b3, b4⟩ := h.2 k r hr
  exact ⟨s0, s1, s2, b1, b2, by omega, b4⟩
theorem ShX_g {M M' : am_M} {g : Nat} {sp : Shp} {Y : List Sy} {B : List Fct} {S T' : Nat → Nat → Prop} (h : ShX M g sp Y B) (hg : gF S T' M M') (h1 : ∀ a j, g ≤ a → a ≤ g + 6 → ¬ S a j) : ShX M' g sp Y B := by
  have k : ∀ a j, g ≤ a → a ≤ g + 6 → mI M' a j = mI M a j := fun a j q1 q2 => hg.1 a j (h1 a j q1 q2)
  obtain ⟨⟨a1, a2, a3, a4, a5⟩, ⟨b1, b2, b3⟩, ⟨c1, c2, c3⟩⟩ := h
  refine ⟨⟨by rw [k _ _ (by omega) (by omega)]; exact a1, by rw [k _ _ (by omega) (by omega)]; exact a2, by rw [k _ _ (by omega) (by omega)]; exact a3, by rw [k _ _ (by omega) (by omega)]; exact a4, by rw [k _ _ (by omega) (by omega)]; exact a5⟩, ⟨by rw [k _ _ (by omega) (by omega)]; exact b1, b2, fun i y hy => ?_⟩, ⟨by rw [k _ _ (by omega) (by omega)]; exact c1, c2, fun i y hy => ?_⟩⟩
  · obtain ⟨q1, q2, q3, q4⟩ := b3 i y hy
    exact ⟨q1, by rw [k _ _ (by omega) (by omega)]; exact q2, by rw [k _ _ (by omega) (by omega)]; exact q3, by rw [k _ _ (by omega) (by omega)]; exact q4⟩
  · obtain ⟨q1, q2, q3, q4⟩ := c3 i y hy
    exact ⟨q1, by rw [k _ _ (by omega) (by omega)]; exact q2, by rw [k _ _ (by omega) (by omega)]; exact q3, by rw [k _ _ (by omega) (by omega)]; exact q4⟩
theorem SgX_g {M M' : am_M} {z : Nat} {L : List (Nat × Nat × Nat)} {S T' : Nat → Nat → Prop} (h : SgX M z L) (hg : gF S T' M M') (h1 : ∀ a j, z + 2 ≤ a → a ≤ z + 5 → ¬ S a j) : SgX M' z L := by
  have k : ∀ a j, z + 2 ≤ a → a ≤ z + 5 → mI M' a j = mI M a j := fun a j q1 q2 => hg.1 a j (h1 a j q1 q2)
  refine ⟨by rw [k _ _ (by omega) (by omega)]; exact h.1, fun i g hi => ?_⟩
  obtain ⟨q1, q2, q3⟩ := h.2 i g hi
  exact ⟨by rw [k _ _ (by omega) (by omega)]; exact q1, by rw [k _ _ (by omega) (by omega)]; exact q2, by rw [k _ _ (by omega) (by omega)]; exact q3⟩
/-- nothing of the sea is touched but code from c on -/
theorem PsX_g {M M' : am_M} {z c c' : Nat} {D : Dat} {S T' : Nat → Nat → Prop} (h : PsX M z D c) (hg : gF S T' M M') (hn : (dSh D).length ≤ 8) (hS : ∀ a j, z ≤ a → a ≤ z + 80 → ¬ (a = z + 7 ∧ c ≤ j) → ¬ (a = z + 6 ∧ j = 1) → ¬ (z + 21 ≤ a ∧ a ≤ z + 24) → ¬ a = z + 8 → ¬ S a j) (hF : FmX M' z c') (hc : c ≤ c') : PsX M' z D c' := by
  have k : ∀ a j, z ≤ a → a ≤ z + 80 → ¬ (a = z + 7 ∧ c ≤ j) → ¬ (a = z + 6 ∧ j = 1) → ¬ (z + 21 ≤ a ∧ a ≤ z + 24) → ¬ a = z + 8 → mI M' a j = mI M a j := fun a j q1 q2 q3 q4 q5 q6 => hg.1 a j (hS a j q1 q2 q3 q4 q5 q6)
  obtain ⟨⟨a1, a2, a3, a4⟩, b, s, ⟨r1, r2, r3⟩, f⟩ := h
  refine ⟨⟨by rw [k _ _ (by omega) (by omega) (by omega) (by omega) (by omega) (by omega)]; exact a1, by rw [k _ _ (by omega) (by omega) (by omega) (by omega) (by omega) (by omega)]; exact a2, by rw [k _ _ (by omega) (by omega) (by omega) (by omega) (by omega) (by omega)]; exact a3, by rw [k _ _ (by omega) (by omega) (by omega) (by omega) (by omega) (by omega)]; exact a4⟩, fun s' sp hs' => ?_, SgX_g s hg (fun a j q1 q2 => hS a j (by omega) (by omega) (by omega) (by omega) (by omega) (by omega)), ⟨RlC_le (RlC_g r1 hg (fun a j q1 q2 => hS a j (by omega) (by omega) (by omega) (by omega) (by omega) (by omega)) (fun j hj => hS _ j (by omega) (by omega) (by omega) (by omega) (by omega) (by omega))) hc, RlC_le (RlC_g r2 hg (fun a j q1 q2 => hS a j (by omega) (by omega) (by omega) (by omega) (by omega) (by omega)) (fun j hj => hS _ j (by omega) (by omega) (by omega) (by omega) (by omega) (by omega))) hc, RlC_le (RlC_g r3 hg (fun a j q1 q2 => hS a j (by omega) (by omega) (by omega) (by omega) (by omega) (by omega)) (fun j hj => hS _ j (by omega) (by omega) (by omega) (by omega) (by omega) (by omega))) hc⟩, hF⟩
  have hsl := (List.getElem?_eq_some_iff.mp hs').1
  exact ShX_g (b s' sp hs') hg (fun a j q1 q2 => hS a j (by omega) (by omega) (by omega) (by omega) (by omega) (by omega))
end
section
/-! the class's parser: what statements share -/
theorem PsX_r {M M' : am_M} {z c : Nat} {D : Dat} (h : PsX M z D c) (hz : z = 2 ∨ z = 83) (hD : DOK D) (hg : gF sRd nT M M') : PsX M' z D c :=
  PsX_g h hg hD.2.2.1.1 (fun a j q1 q2 _ _ _ _ q => by unfold sRd at q; omega) (FmX_g h.2.2.2.2 hg (fun q => by unfold sRd at q; omega)) (Nat.le_refl _)
theorem nI_any (x : Int32) : ∃ k, x = nI k := ⟨(x.toInt % 4294967296).toNat, by
  rw [← Int32.toInt_inj]
  have h1 := Int32.le_toInt x
  have h2 := Int32.toInt_lt x
  unfold nI
  rw [Int32.toInt_ofNat']
  have e : (Int32.size : Nat) = 4294967296 := rfl
  rw [e]
  simp only [Int.bmod]
  omega⟩
theorem sumF_ext {f g : Nat → Nat} : ∀ n, (∀ i, i < n → f i = g i) → sumF f n = sumF g n := by
  intro n
  induction n with
  | zero => intro _; rfl
  | succ n ih =>
    intro h
    show sumF f n + f n = sumF g n + g n
    rw [ih (fun i hi => h i (by omega)), h n (by omega)]
theorem bk_sum (N : Nat) : ∀ L : List Bk, (∀ k, k ∈ L → k.1 < N) → sumF (fun s => (bkOf L s).length) N = L.length := by
  intro L
  induction L with
  | nil =>
    intro _
    induction N with
    | zero => rfl
    | succ N ih => show sumF _ N + 0 = 0; rw [ih (fun k hk => by cases hk)]; rfl
  | cons k r ih =>
    intro h
    have ih' := ih (fun q hq => h q (List.mem_cons_of_mem _ hq))
    have hk := h k (List.mem_cons_self ..)
    have e : ∀ s, (bkOf (k :: r) s).length = (bkOf r s).length + (if s = k.1 then 1 else 0) := fun s => by
      unfold bkOf
      rw [List.length_map, List.length_map]
      by_cases c : s = k.1
      · rw [List.filter_cons_of_pos (by simp [c]), if_pos c, List.length_cons]
      · rw [List.filter_cons_of_neg (by simp; exact fun q => c q.symm), if_neg c]; rfl
    have key : ∀ M', sumF (fun s => (bkOf (k :: r) s).length) M' = sumF (fun s => (bkOf r s).length) M' + (if k.1 < M' then 1 else 0) := by
      intro M'
      induction M' with
      | zero => rfl
      | succ M' ihm =>
        show sumF (fun s => (bkOf (k :: r) s).length) M' + (bkOf (k :: r) M').length = sumF (fun s => (bkOf r s).length) M' + (bkOf r M').length + _
        rw [ihm, e M']
        by_cases c : M' = k.1
        · rw [if_pos c, if_neg (by omega), if_pos (by omega)]; omega
        · rw [if_neg c]
          by_cases c2 : k.1 < M'
          · rw [if_pos c2, if_pos (by omega)]; omega
          · rw [if_neg c2, if_neg (by omega)]; omega
    rw [key N, if_pos hk, ih', List.length_cons]
theorem l_x_countBooks (d : Nat) (M : am_M) (Q : Option Value → am_M → Prop) (h : Lay M) (z n : Nat) (g : Nat → Nat) (hz : z = 2 ∨ z = 83) (hn : mI M z 3 = nI n) (hn2 : n ≤ 8) (hg : ∀ s, s < n → mI M (z + 25 + 7 * s) 9 = nI (g s)) : ∀ (m k : Nat), k + m = n → (am_P am_P0 d (am_look tX5_countBooks) 4 [.ref z, .int (nI (sumF g k)), .int (nI k)] [] M Q ↔ Q (some (.int (nI (sumF g n)))) M) := by
  intro m
  induction m with
  | zero =>
    intro k hk
    have e : k = n := by omega
    subst e
    have hle : nI k ≤ nI k := (ni_le (by omega) (by omega)).mpr (Nat.le_refl _)
    rw [hX5_countBooks_4]
    simp +decide only [qX5_countBooks, lz h hz, hn, am_w1_i, am_w1_r, am_w1_x, am_w1_l, am_w1_w, va_rf_s, am_push_n, am_push_s, am_cs_0, am_cs_i, am_cs_l, am_cs_r, m_uI_K, m_uI_N, m_uI_R, m_uI_L, m_uI_I, m_uL_K, m_uL_N, m_uL_R, m_uL_I, m_uL_L, m_uR_K, m_uR_N, m_uR_I, m_uR_L, m_uR_R, true_and, and_true, true_implies, false_implies, not_true_eq_false, not_false_eq_true, if_true, if_false, false_and, and_false]
    rw [br_p hle]
  | succ m ih =>
    intro k hk
    have hlt : ¬ nI n ≤ nI k := by rw [ni_le (by omega) (by omega)]; omega
    have hr := lsh h hz (s := k) (by omega)
    have hk16 : mK M (z + 25 + 7 * k) = 16 := (lw_ h ⟨k, by omega, by omega⟩).1
    rw [hX5_countBooks_4]
    simp +decide (disch := omega) only [qX5_countBooks, lz h hz, hn, hr, hk16, hg k (by omega), ni_in_t, ni_tn, ni_add1, ni_add, am_w1_i, am_w1_r, am_w1_x, am_w1_l, am_w1_w, va_rf_s, am_push_n, am_push_s, am_cs_0, am_cs_i, am_cs_l, am_cs_r, m_uI_K, m_uI_N, m_uI_R, m_uI_L, m_uI_I, m_uL_K, m_uL_N, m_uL_R, m_uL_I, m_uL_L, m_uR_K, m_uR_N, m_uR_I, m_uR_L, m_uR_R, true_and, and_true, true_implies, false_implies, not_true_eq_false, not_false_eq_true, if_true, if_false, false_and, and_false, true_or]
    rw [br_n hlt]
    exact ih (k + 1) (by omega)
theorem c_x_countBooks (d z c : Nat) (D : Dat) (M : am_M) (Q : Option Value → am_M → Prop) (h : Lay M) (hz : z = 2 ∨ z = 83) (hP : PsX M z D c) (hD : DOK D) : am_E am_P0 d 61 [.ref z] M Q ↔ Q (some (.int (nI (dBk D).length))) M := by
  have h0 := l_x_countBooks d M Q h z (dSh D).length (fun s => (bkOf (dBk D) s).length) hz hP.1.2.2.2 hD.2.2.1.1 (fun s hs => by
    obtain ⟨sp, hsp⟩ : ∃ sp, (dSh D)[s]? = some sp := ⟨(dSh D)[s]'hs, List.getElem?_eq_getElem hs⟩
    exact (hP.2.1 s sp hsp).2.2.1) (dSh D).length 0 (by omega)
  rw [bk_sum _ _ hD.2.2.2.2.2.2.1.2] at h0
  rw [eX5_countBooks]
  simp +decide only [qX5_countBooks, am_w1_i, am_w1_r, am_w1_x, am_w1_l, am_w1_w, va_rf_s, am_push_n, am_push_s, am_cs_0, am_cs_i, am_cs_l, am_cs_r, m_uI_K, m_uI_N, m_uI_R, m_uI_L, m_uI_I, m_uL_K, m_uL_N, m_uL_R, m_uL_I, m_uL_L, m_uR_K, m_uR_N, m_uR_I, m_uR_L, m_uR_R, true_and, and_true, true_implies, false_implies, not_true_eq_false, not_false_eq_true, if_true, if_false, false_and, and_false]
  exact h0
theorem c_x_tot (d z c : Nat) (D : Dat) (M : am_M) (Q : Option Value → am_M → Prop) (h : Lay M) (hz : z = 2 ∨ z = 83) (hP : PsX M z D c) (hD : DOK D) : am_E am_P0 d 59 [.ref z] M Q ↔ Q (some (.int (nI (dTot D)))) M := by
  obtain ⟨g, hg⟩ : ∃ g : Nat → Nat, ∀ s, mI M (z + 25 + 7 * s) 5 = nI (g s) ∧ (s < (dSh D).length → g s = (dY D s).length) := by
    refine ⟨fun s => if s < (dSh D).length then (dY D s).length else Classical.choose (nI_any (mI M (z + 25 + 7 * s) 5)), fun s => ⟨?_, fun hs => if_pos hs⟩⟩
    dsimp only
    by_cases hs : s < (dSh D).length
    · rw [if_pos hs]
      obtain ⟨sp, hsp⟩ : ∃ sp, (dSh D)[s]? = some sp := ⟨(dSh D)[s]'hs, List.getElem?_eq_getElem hs⟩
      exact (hP.2.1 s sp hsp).2.1.1
    · rw [if_neg hs]
      exact Classical.choose_spec (nI_any (mI M (z + 25 + 7 * s) 5))
  have h0 := c_x_countSayings d M Q h z (dSh D).length g hz hP.1.2.2.2 hD.2.2.1.1 (fun s _ => (hg s).1)
  rw [sumF_ext _ (fun i hi => (hg i).2 hi)] at h0
  exact h0
theorem l_x_shipNamed (d z c : Nat) (D : Dat) (l : List Nat) (M : am_M) (Q : Option Value → am_M → Prop) (h : Lay M) (hz : z = 2 ∨ z = 83) (hP : PsX M z D c) (hD : DOK D) (hl : isWd l) (h6 : l.length ≤ 6) : ∀ (m k : Nat), k + m = (dSh D).length → (∀ j sp, j < k → (dSh D)[j]? = some sp → ¬ sp.1 = l) → (am_P am_P0 d (am_look tX5_shipNamed) 2 [.ref z, .int (nI (pkL l)), .int (nI k)] [] M Q ↔ Q (some (.int (match shF D l with | some s => nI s | none => -1))) M) := by
  have hpk : ∀ l : List Nat, isWd l → l.length ≤ 6 → pkL l < 2147483648 := fun l hl h6 => by
    have h1 := pkL_lt l hl
    have h2 : 32 ^ l.length ≤ 32 ^ 6 := Nat.pow_le_pow_right (by omega) h6
    have h3 : (32 : Nat) ^ 6 = 1073741824 := by decide
    omega
  have h8 := hD.2.2.1.1
  intro m
  induction m with
  | zero =>
    intro k hk hno
    have e : k = (dSh D).length := by omega
    subst e
    have hle : nI (dSh D).length ≤ nI (dSh D).length := (ni_le (by omega) (by omega)).mpr (Nat.le_refl _)
    have hs : shF D l = none := by
      unfold shF
      rw [List.findIdx?_eq_none_iff]
      intro sp hsp
      obtain ⟨j, hj⟩ := List.mem_iff_getElem?.mp hsp
      have := hno j sp (List.getElem?_eq_some_iff.mp hj).1 hj
      simpa using this
    rw [hX5_shipNamed_2, hs]
    simp +decide only [qX5_shipNamed, lz h hz, hP.1.2.2.2, am_w1_i, am_w1_r, am_w1_x, am_w1_l, am_w1_w, va_rf_s, am_push_n, am_push_s, am_cs_0, am_cs_i, am_cs_l, am_cs_r, m_uI_K, m_uI_N, m_uI_R, m_uI_L, m_uI_I, m_uL_K, m_uL_N, m_uL_R, m_uL_I, m_uL_L, m_uR_K, m_uR_N, m_uR_I, m_uR_L, m_uR_R, true_and, and_true, true_implies, false_implies, not_true_eq_false, not_false_eq_true, if_true, if_false, false_and, and_false]
    rw [br_p hle]
  | succ m ih =>
    intro k hk hno
    have hlt : ¬ nI (dSh D).length ≤ nI k := by rw [ni_le (by omega) (by omega)]; omega
    obtain ⟨sp, hsp⟩ : ∃ sp, (dSh D)[k]? = some sp := ⟨(dSh D)[k]'(by omega), List.getElem?_eq_getElem (by omega)⟩
    have hok := hD.2.2.1.2.2 sp (List.mem_of_getElem? hsp)
    have hr := lsh h hz (s := k) (by omega)
    have hk16 : mK M (z + 25 + 7 * k) = 16 := (lw_ h ⟨k, by omega, by omega⟩).1
    have hnm := (hP.2.1 k sp hsp).1.1
    rw [hX5_shipNamed_2]
    simp +decide (disch := omega) only [qX5_shipNamed, lz h hz, hP.1.2.2.2, hr, hk16, hnm, ni_in_t, ni_tn, ni_add1, am_w1_i, am_w1_r, am_w1_x, am_w1_l, am_w1_w, va_rf_s, am_push_n, am_push_s, am_cs_0, am_cs_i, am_cs_l, am_cs_r, m_uI_K, m_uI_N, m_uI_R, m_uI_L, m_uI_I, m_uL_K, m_uL_N, m_uL_R, m_uL_I, m_uL_L, m_uR_K, m_uR_N, m_uR_I, m_uR_L, m_uR_R, true_and, and_true, true_implies, false_implies, not_true_eq_false, not_false_eq_true, if_true, if_false, false_and, and_false, true_or]
    rw [br_n hlt]
    by_cases cq : sp.1 = l
    · have hs : shF D l = some k := by
        unfold shF
        rw [List.findIdx?_eq_some_iff_getElem]
        obtain ⟨hkl, hke⟩ := List.getElem?_eq_some_iff.mp hsp
        refine ⟨hkl, by rw [hke]; simpa using cq, fun j hj => ?_⟩
        have := hno j _ hj (List.getElem?_eq_getElem (by omega))
        simpa using this
      rw [br_r (by rw [cq]), hs]
    · rw [br_q (fun q => cq (pkL_inj _ _ hok.1 hl ((ni_eq (hpk _ hok.1 hok.2.2.1) (hpk _ hl h6)).mp q)))]
      exact ih (k + 1) (by omega) (fun j sp' hj hsp' => by
        by_cases e : j = k
        · subst e; cases hsp.symm.trans hsp'; exact cq
        · exact hno j sp' (by omega) hsp')
theorem c_x_shipNamed (d z c : Nat) (D : Dat) (l : List Nat) (M : am_M) (Q : Option Value → am_M → Prop) (h : Lay M) (hz : z = 2 ∨ z = 83) (hP : PsX M z D c) (hD : DOK D) (hl : isWd l) (h6 : l.length ≤ 6) : am_E am_P0 d 62 [.ref z, .int (nI (pkL l))] M Q ↔ Q (some (.int (match shF D l with | some s => nI s | none => -1))) M := by
  rw [eX5_shipNamed]
  simp +decide only [qX5_shipNamed, am_w1_i, am_w1_r, am_w1_x, am_w1_l, am_w1_w, va_rf_s, am_push_n, am_push_s, am_cs_0, am_cs_i, am_cs_l, am_cs_r, m_uI_K, m_uI_N, m_uI_R, m_uI_L, m_uI_I, m_uL_K, m_uL_N, m_uL_R, m_uL_I, m_uL_L, m_uR_K, m_uR_N, m_uR_I, m_uR_L, m_uR_R, true_and, and_true, true_implies, false_implies, not_true_eq_false, not_false_eq_true, if_true, if_false, false_and, and_false]
  exact l_x_shipNamed d z c D l M Q h hz hP hD hl h6 (dSh D).length 0 (by omega) (fun j sp hj => by omega)
section
variable {T : Nat → Nat} {n z : Nat}
theorem c_x_oneMore (d : Nat) (b : Bool) (t : Tok) (M : am_M) (Q : Option Value → am_M → Prop) (hL : Lay M) (hR : StR M T n (.inr t))
    (hQ : ∀ M', gF sRd nT M M' → StR M' T n (if b = true then .inl (5, tS t) else advR T n t) → Q (some (.int (b01 (!b)))) M') : am_E am_P0 (d + 2) 13 [.ref 164, .int (b01 b)] M Q := by
  rw [eX2_beginStatement]
  cases b with
  | true =>
    simp +decide only [qX2_beginStatement, lx hL, b01, am_w1_i, am_w1_r, am_w1_x, am_w1_l, am_w1_w, va_rf_s, am_push_n, am_push_s, am_cs_0, am_cs_i, am_cs_l, am_cs_r, m_uI_K, m_uI_N, m_uI_R, m_uI_L, m_uI_I, m_uL_K, m_uL_N, m_uL_R, m_uL_I, m_uL_L, m_uR_K, m_uR_N, m_uR_I, m_uR_L, m_uR_R, true_and, and_true, true_implies, false_implies, not_true_eq_false, not_false_eq_true, if_true, if_false, false_and, and_false]
    rw [show (5 : Int32) = nI 5 from rfl]
    refine c_x_refuse d n 5 T (.inr t) M _ hL (by omega) hR (fun M1 g1 h1 => ?_)
    have h0 := hQ M1 g1 h1
    simp +decide only [qX2_beginStatement, am_w1_i, am_w1_r, am_w1_x, am_w1_l, am_w1_w, va_rf_s, am_push_n, am_push_s, am_cs_0, am_cs_i, am_cs_l, am_cs_r, m_uI_K, m_uI_N, m_uI_R, m_uI_L, m_uI_I, m_uL_K, m_uL_N, m_uL_R, m_uL_I, m_uL_L, m_uR_K, m_uR_N, m_uR_I, m_uR_L, m_uR_R, true_and, and_true, true_implies, false_implies, not_true_eq_false, not_false_eq_true, if_true, if_false, false_and, and_false]
    exact h0
  | false =>
    simp +decide only [qX2_beginStatement, lx hL, b01, am_w1_i, am_w1_r, am_w1_x, am_w1_l, am_w1_w, va_rf_s, am_push_n, am_push_s, am_cs_0, am_cs_i, am_cs_l, am_cs_r, m_uI_K, m_uI_N, m_uI_R, m_uI_L, m_uI_I, m_uL_K, m_uL_N, m_uL_R, m_uL_I, m_uL_L, m_uR_K, m_uR_N, m_uR_I, m_uR_L, m_uR_R, true_and, and_true, true_implies, false_implies, not_true_eq_false, not_false_eq_true, if_true, if_false, false_and, and_false]
    refine c_x_stepR d n T (.inr t) M _ hL hR (fun M1 g1 h1 => ?_)
    have h0 := hQ M1 g1 h1
    simp +decide only [qX2_beginStatement, am_w1_i, am_w1_r, am_w1_x, am_w1_l, am_w1_w, va_rf_s, am_push_n, am_push_s, am_cs_0, am_cs_i, am_cs_l, am_cs_r, m_uI_K, m_uI_N, m_uI_R, m_uI_L, m_uI_I, m_uL_K, m_uL_N, m_uL_R, m_uL_I, m_uL_L, m_uR_K, m_uR_N, m_uR_I, m_uR_L, m_uR_R, true_and, and_true, true_implies, false_implies, not_true_eq_false, not_false_eq_true, if_true, if_false, false_and, and_false]
    exact h0
theorem c_x_takeAfter (d w lo hi : Nat) (r : Rt) (M : am_M) (Q : Option Value → am_M → Prop) (hL : Lay M) (hw : w < 27) (hlo : lo < 10000) (hhi : hi < 10000) (hR : StR M T n r)
    (hQ : ∀ M', gF sRd nT M M' → StR M' T n (aftR T n w lo hi r).1 → Q (some (.int (nI (aftR T n w lo hi r).2))) M') : am_E am_P0 (d + 4) 15 [.ref 164, .int (nI w), .int (nI lo), .int (nI hi)] M Q := by
  rw [eX2_takeAfter]
  simp +decide only [qX2_takeAfter, lx hL, am_w1_i, am_w1_r, am_w1_x, am_w1_l, am_w1_w, va_rf_s, am_push_n, am_push_s, am_cs_0, am_cs_i, am_cs_l, am_cs_r, m_uI_K, m_uI_N, m_uI_R, m_uI_L, m_uI_I, m_uL_K, m_uL_N, m_uL_R, m_uL_I, m_uL_L, m_uR_K, m_uR_N, m_uR_I, m_uR_L, m_uR_R, true_and, and_true, true_implies, false_implies, not_true_eq_false, not_false_eq_true, if_true, if_false, false_and, and_false]
  refine c_x_takeWord (d + 1) n w T r M _ hL hw hR (fun M1 g1 h1 => ?_)
  have L1 := gF_LayN g1 hL
  simp +decide only [qX2_takeAfter, lx L1, am_w1_i, am_w1_r, am_w1_x, am_w1_l, am_w1_w, va_rf_s, am_push_n, am_push_s, am_cs_0, am_cs_i, am_cs_l, am_cs_r, m_uI_K, m_uI_N, m_uI_R, m_uI_L, m_uI_I, m_uL_K, m_uL_N, m_uL_R, m_uL_I, m_uL_L, m_uR_K, m_uR_N, m_uR_I, m_uR_L, m_uR_R, true_and, and_true, true_implies, false_implies, not_true_eq_false, not_false_eq_true, if_true, if_false, false_and, and_false]
  refine c_x_takeNumber d n lo hi T _ M1 _ L1 hlo hhi h1 (fun M2 g2 h2 => ?_)
  have h0 := hQ M2 (gF_trans g1 g2) h2
  simp +decide only [qX2_takeAfter, am_w1_i, am_w1_r, am_w1_x, am_w1_l, am_w1_w, va_rf_s, am_push_n, am_push_s, am_cs_0, am_cs_i, am_cs_l, am_cs_r, m_uI_K, m_uI_N, m_uI_R, m_uI_L, m_uI_I, m_uL_K, m_uL_N, m_uL_R, m_uL_I, m_uL_L, m_uR_K, m_uR_N, m_uR_I, m_uR_L, m_uR_R, true_and, and_true, true_implies, false_implies, not_true_eq_false, not_false_eq_true, if_true, if_false, false_and, and_false]
  exact h0
theorem numR_v {lo hi : Nat} {r : Rt} {t : Tok} (h : (numR T n lo hi r).1 = .inr t) : lo ≤ (numR T n lo hi r).2 ∧ (numR T n lo hi r).2 ≤ hi := by
  cases r with
  | inl e => cases h
  | inr t0 =>
    have em : numR T n lo hi (.inr t0) = if ¬ t0.1 = 2 then (.inl (1, tS t0), lo) else if t0.2.1 < lo ∨ hi < t0.2.1 then (.inl (4, tS t0), lo) else (advR T n t0, t0.2.1) := rfl
    rw [em] at h ⊢
    by_cases c1 : ¬ t0.1 = 2
    · rw [if_pos c1] at h; cases h
    · rw [if_neg c1] at h ⊢
      by_cases c2 : t0.2.1 < lo ∨ hi < t0.2.1
      · rw [if_pos c2] at h; cases h
      · rw [if_neg c2]; show lo ≤ t0.2.1 ∧ t0.2.1 ≤ hi; omega
/-- a fault stays -/
theorem wordR_i {k : Nat} {r : Rt} {t : Tok} (h : wordR T n k r = .inr t) : ∃ t0, r = .inr t0 := by
  cases r with
  | inl e => cases h
  | inr t0 => exact ⟨t0, rfl⟩
theorem numR_i {lo hi : Nat} {r : Rt} {t : Tok} (h : (numR T n lo hi r).1 = .inr t) : ∃ t0, r = .inr t0 := by
  cases r with
  | inl e => cases h
  | inr t0 => exact ⟨t0, rfl⟩
theorem c_x_takePlace (d c : Nat) (D : Dat) (r : Rt) (M : am_M) (Q : Option Value → am_M → Prop) (hL : Lay M) (hz : z = 2 ∨ z = 83) (hp : mR M 164 1 = some z) (hP : PsX M z D c) (hD : DOK D) (hC : 1 ≤ dC D) (hRr : 1 ≤ dR D) (hR : StR M T n r)
    (hQ : ∀ M', gF sRd nT M M' → StR M' T n (plcR T n (dC D) (dR D) r).1 → Q (some (.int (nI (plcR T n (dC D) (dR D) r).2))) M') : am_E am_P0 (d + 4) 18 [.ref 164] M Q := by
  obtain ⟨⟨c1, c2⟩, -⟩ := id hD
  have e1 : nI (dC D) - 1 = nI (dC D - 1) := by rw [show (1 : Int32) = nI 1 from rfl, ni_sub (by omega)]
  have e2 : nI (dR D) - 1 = nI (dR D - 1) := by rw [show (1 : Int32) = nI 1 from rfl, ni_sub (by omega)]
  rw [eX2_takePlace]
  simp +decide only [qX2_takePlace, lx hL, am_w1_i, am_w1_r, am_w1_x, am_w1_l, am_w1_w, va_rf_s, am_push_n, am_push_s, am_cs_0, am_cs_i, am_cs_l, am_cs_r, m_uI_K, m_uI_N, m_uI_R, m_uI_L, m_uI_I, m_uL_K, m_uL_N, m_uL_R, m_uL_I, m_uL_L, m_uR_K, m_uR_N, m_uR_I, m_uR_L, m_uR_R, true_and, and_true, true_implies, false_implies, not_true_eq_false, not_false_eq_true, if_true, if_false, false_and, and_false]
  rw [show (10 : Int32) = nI 10 from rfl]
  refine c_x_takeWord (d + 1) n 10 T r M _ hL (by omega) hR (fun M1 g1 h1 => ?_)
  have L1 := gF_LayN g1 hL
  have P1 := PsX_r hP hz hD g1
  have p1 : mR M1 164 1 = some z := by rw [g1.2.2.1 _ _ (fun q => q)]; exact hp
  simp +decide only [qX2_takePlace, lx L1, lz L1 hz, p1, P1.1.1, e1, am_w1_i, am_w1_r, am_w1_x, am_w1_l, am_w1_w, va_rf_s, am_push_n, am_push_s, am_cs_0, am_cs_i, am_cs_l, am_cs_r, m_uI_K, m_uI_N, m_uI_R, m_uI_L, m_uI_I, m_uL_K, m_uL_N, m_uL_R, m_uL_I, m_uL_L, m_uR_K, m_uR_N, m_uR_I, m_uR_L, m_uR_R, true_and, and_true, true_implies, false_implies, not_true_eq_false, not_false_eq_true, if_true, if_false, false_and, and_false]
  rw [show (0 : Int32) = nI 0 from rfl]
  refine c_x_takeNumber d n 0 (dC D - 1) T _ M1 _ L1 (by omega) (by omega) h1 (fun M2 g2 h2 => ?_)
  have L2 := gF_LayN g2 L1
  have P2 := PsX_r P1 hz hD g2
  have p2 : mR M2 164 1 = some z := by rw [g2.2.2.1 _ _ (fun q => q)]; exact p1
  simp +decide only [qX2_takePlace, lx L2, lz L2 hz, p2, P2.1.2.1, e2, am_w1_i, am_w1_r, am_w1_x, am_w1_l, am_w1_w, va_rf_s, am_push_n, am_push_s, am_cs_0, am_cs_i, am_cs_l, am_cs_r, m_uI_K, m_uI_N, m_uI_R, m_uI_L, m_uI_I, m_uL_K, m_uL_N, m_uL_R, m_uL_I, m_uL_L, m_uR_K, m_uR_N, m_uR_I, m_uR_L, m_uR_R, true_and, and_true, true_implies, false_implies, not_true_eq_false, not_false_eq_true, if_true, if_false, false_and, and_false]
  rw [show (0 : Int32) = nI 0 from rfl]
  refine c_x_takeNumber d n 0 (dR D - 1) T _ M2 _ L2 (by omega) (by omega) h2 (fun M3 g3 h3 => ?_)
  have h0 := hQ M3 (gF_trans g1 (gF_trans g2 g3)) h3
  have e3 : nI (numR T n 0 (dR D - 1) (numR T n 0 (dC D - 1) (wordR T n 10 r)).1).2 * 16 + nI (numR T n 0 (dC D - 1) (wordR T n 10 r)).2 = nI (plcR T n (dC D) (dR D) r).2 := by
    rw [show (16 : Int32) = nI 16 from rfl, ni_mul, ni_add, Nat.mul_comm]; rfl
  simp +decide only [qX2_takePlace, e3, am_w1_i, am_w1_r, am_w1_x, am_w1_l, am_w1_w, va_rf_s, am_push_n, am_push_s, am_cs_0, am_cs_i, am_cs_l, am_cs_r, m_uI_K, m_uI_N, m_uI_R, m_uI_L, m_uI_I, m_uL_K, m_uL_N, m_uL_R, m_uL_I, m_uL_L, m_uR_K, m_uR_N, m_uR_I, m_uR_L, m_uR_R, true_and, and_true, true_implies, false_implies, not_true_eq_false, not_false_eq_true, if_true, if_false, false_and, and_false]
  exact h0
theorem c_x_takeShip (d c : Nat) (D : Dat) (r : Rt) (M : am_M) (Q : Option Value → am_M → Prop) (hL : Lay M) (hz : z = 2 ∨ z = 83) (hp : mR M 164 1 = some z) (hP : PsX M z D c) (hD : DOK D) (hR : StR M T n r)
    (hF : ∀ M' e, gF sRd nT M M' → (shpR T n D r).1 = .inl e → StR M' T n (.inl e) → Q (some (.int (-1))) M')
    (hN : ∀ M' s, gF sRd nT M M' → s < (dSh D).length → (shpR T n D r).2 = s → StR M' T n (shpR T n D r).1 → Q (some (.int (nI s))) M') : am_E am_P0 (d + 3) 17 [.ref 164] M Q := by
  rw [eX2_takeShip]
  simp +decide only [qX2_takeShip, lx hL, am_w1_i, am_w1_r, am_w1_x, am_w1_l, am_w1_w, va_rf_s, am_push_n, am_push_s, am_cs_0, am_cs_i, am_cs_l, am_cs_r, m_uI_K, m_uI_N, m_uI_R, m_uI_L, m_uI_I, m_uL_K, m_uL_N, m_uL_R, m_uL_I, m_uL_L, m_uR_K, m_uR_N, m_uR_I, m_uR_L, m_uR_R, true_and, and_true, true_implies, false_implies, not_true_eq_false, not_false_eq_true, if_true, if_false, false_and, and_false]
  refine c_x_isName d n T r M _ hL hR (fun M1 g1 h1 => ?_)
  have L1 := gF_LayN g1 hL
  have P1 := PsX_r hP hz hD g1
  have p1 : mR M1 164 1 = some z := by rw [g1.2.2.1 _ _ (fun q => q)]; exact hp
  cases r with
  | inl e =>
    have h0 := hF M1 e g1 rfl h1
    have en : (nameR (.inl e)).2 = false := rfl
    simp +decide only [qX2_takeShip, en, b01, am_w1_i, am_w1_r, am_w1_x, am_w1_l, am_w1_w, va_rf_s, am_push_n, am_push_s, am_cs_0, am_cs_i, am_cs_l, am_cs_r, m_uI_K, m_uI_N, m_uI_R, m_uI_L, m_uI_I, m_uL_K, m_uL_N, m_uL_R, m_uL_I, m_uL_L, m_uR_K, m_uR_N, m_uR_I, m_uR_L, m_uR_R, true_and, and_true, true_implies, false_implies, not_true_eq_false, not_false_eq_true, if_true, if_false, false_and, and_false]
    exact h0
  | inr t =>
    have en : nameR (.inr t) = if isNm t = true then (.inr t, true) else (.inl (1, tS t), false) := rfl
    have es : shpR T n D (.inr t) = match (nameR (.inr t)).1 with
      | .inl e => (.inl e, 0)
      | .inr t => match shF D t.2.2.1 with
        | none => (.inl (3, tS t), 0)
        | some s => (advR T n t, s) := rfl
    by_cases cn : isNm t = true
    · rw [if_pos cn] at en
      rw [en] at es h1 ⊢
      dsimp only at es
      have h1' : RdX M1 T n t := h1
      have ht1 : t.1 = 1 := by unfold isNm at cn; rw [Bool.and_eq_true, beq_iff_eq] at cn; exact cn.1
      have hG := h1'.2.2.2.2.2.2.2.2.1
      have hw := hG.2.2.2.2.2.1 ht1
      have h5 := h1'.2.2.2.2.2.2.2.1
      rw [if_pos ht1] at h5
      simp +decide only [qX2_takeShip, lx L1, lz L1 hz, p1, h5, c_x_shipNamed (d + 2) z c D t.2.2.1 M1 _ L1 hz P1 hD hw.1 hw.2.1, b01, am_w1_i, am_w1_r, am_w1_x, am_w1_l, am_w1_w, va_rf_s, am_push_n, am_push_s, am_cs_0, am_cs_i, am_cs_l, am_cs_r, m_uI_K, m_uI_N, m_uI_R, m_uI_L, m_uI_I, m_uL_K, m_uL_N, m_uL_R, m_uL_I, m_uL_L, m_uR_K, m_uR_N, m_uR_I, m_uR_L, m_uR_R, true_and, and_true, true_implies, false_implies, not_true_eq_false, not_false_eq_true, if_true, if_false, false_and, and_false]
      cases hs : shF D t.2.2.1 with
      | none =>
        rw [hs] at es
        dsimp only at es
        simp +decide only [qX2_takeShip, lx L1, am_w1_i, am_w1_r, am_w1_x, am_w1_l, am_w1_w, va_rf_s, am_push_n, am_push_s, am_cs_0, am_cs_i, am_cs_l, am_cs_r, m_uI_K, m_uI_N, m_uI_R, m_uI_L, m_uI_I, m_uL_K, m_uL_N, m_uL_R, m_uL_I, m_uL_L, m_uR_K, m_uR_N, m_uR_I, m_uR_L, m_uR_R, true_and, and_true, true_implies, false_implies, not_true_eq_false, not_false_eq_true, if_true, if_false, false_and, and_false]
        rw [show (3 : Int32) = nI 3 from rfl]
        refine c_x_refuse (d + 1) n 3 T (.inr t) M1 _ L1 (by omega) h1 (fun M2 g2 h2 => ?_)
        have h0 := hF M2 (3, tS t) (gF_trans g1 g2) (by rw [es]) h2
        simp +decide only [qX2_takeShip, am_w1_i, am_w1_r, am_w1_x, am_w1_l, am_w1_w, va_rf_s, am_push_n, am_push_s, am_cs_0, am_cs_i, am_cs_l, am_cs_r, m_uI_K, m_uI_N, m_uI_R, m_uI_L, m_uI_I, m_uL_K, m_uL_N, m_uL_R, m_uL_I, m_uL_L, m_uR_K, m_uR_N, m_uR_I, m_uR_L, m_uR_R, true_and, and_true, true_implies, false_implies, not_true_eq_false, not_false_eq_true, if_true, if_false, false_and, and_false]
        exact h0
      | some s =>
        rw [hs] at es
        dsimp only at es
        have hsl : s < (dSh D).length := by
          unfold shF at hs
          rw [List.findIdx?_eq_some_iff_getElem] at hs
          exact hs.1
        have h8 := hD.2.2.1.1
        have hs1 : ¬ nI s = -1 := nI_m1 (by omega)
        simp +decide only [qX2_takeShip, lx L1, am_w1_i, am_w1_r, am_w1_x, am_w1_l, am_w1_w, va_rf_s, am_push_n, am_push_s, am_cs_0, am_cs_i, am_cs_l, am_cs_r, m_uI_K, m_uI_N, m_uI_R, m_uI_L, m_uI_I, m_uL_K, m_uL_N, m_uL_R, m_uL_I, m_uL_L, m_uR_K, m_uR_N, m_uR_I, m_uR_L, m_uR_R, true_and, and_true, true_implies, false_implies, not_true_eq_false, not_false_eq_true, if_true, if_false, false_and, and_false]
        rw [br_p hs1]
        refine c_x_stepR (d + 1) n T (.inr t) M1 _ L1 h1 (fun M2 g2 h2 => ?_)
        have h0 := hN M2 s (gF_trans g1 g2) hsl (by rw [es]) (by rw [es]; exact h2)
        simp +decide only [qX2_takeShip, am_w1_i, am_w1_r, am_w1_x, am_w1_l, am_w1_w, va_rf_s, am_push_n, am_push_s, am_cs_0, am_cs_i, am_cs_l, am_cs_r, m_uI_K, m_uI_N, m_uI_R, m_uI_L, m_uI_I, m_uL_K, m_uL_N, m_uL_R, m_uL_I, m_uL_L, m_uR_K, m_uR_N, m_uR_I, m_uR_L, m_uR_R, true_and, and_true, true_implies, false_implies, not_true_eq_false, not_false_eq_true, if_true, if_false, false_and, and_false]
        exact h0
    · rw [if_neg cn] at en
      rw [en] at es h1 ⊢
      dsimp only at es
      have h0 := hF M1 (1, tS t) g1 (by rw [es]) h1
      simp +decide only [qX2_takeShip, b01, am_w1_i, am_w1_r, am_w1_x, am_w1_l, am_w1_w, va_rf_s, am_push_n, am_push_s, am_cs_0, am_cs_i, am_cs_l, am_cs_r, m_uI_K, m_uI_N, m_uI_R, m_uI_L, m_uI_I, m_uL_K, m_uL_N, m_uL_R, m_uL_I, m_uL_L, m_uR_K, m_uR_N, m_uR_I, m_uR_L, m_uR_R, true_and, and_true, true_implies, false_implies, not_true_eq_false, not_false_eq_true, if_true, if_false, false_and, and_false]
      exact h0
end
end
section
/-! the class's parser: statements -/
def sSea (z a _j : Nat) : Prop := a = 165 ∨ (z ≤ a ∧ a ≤ z + 80)
section
variable (T : Nat → Nat) (n z : Nat)
def GdX (M : am_M) (D : Dat) (c : Nat) (t : Tok) : Prop := Lay M ∧ mR M 164 1 = some z ∧ RdX M T n t ∧ PsX M z D c ∧ DOK D ∧ c ≤ tS t
def EdX (t : Tok) (M M' : am_M) : Sum (Nat × Nat) (Tok × Dat) → Prop
  | .inl e => gF (sSea z) nT M M' ∧ FaX M' z T n e
  | .inr q => gF (sSea z) nT M M' ∧ (∃ c', GdX T n z M' q.2 c' q.1) ∧ tS t < tS q.1
/-- a token behind another -/
def AfR (t : Tok) : Rt → Prop
  | .inl _ => True
  | .inr t' => ∃ a, tE t ≤ a ∧ a ≤ n ∧ t' = tk T n a
end
section
variable {T : Nat → Nat} {n z : Nat}
theorem AfR_1 {t : Tok} (h : tE t ≤ n) : AfR T n t (advR T n t) := by
  unfold advR
  split
  · trivial
  · exact ⟨tE t, Nat.le_refl _, h, rfl⟩
theorem AfR_a {t t1 : Tok} (h : AfR T n t (.inr t1)) : AfR T n t (advR T n t1) := by
  obtain ⟨a, h1, h2, rfl⟩ := h
  have h3 := tk_go T n a h2
  have h4 := tk_V T n a h2
  unfold advR
  split
  · trivial
  · exact ⟨_, by omega, h3.2.1, rfl⟩
theorem AfR_s {t : Tok} {r : Rt} (h : AfR T n t r) : AfR T n t (stepR T n r) := by
  cases r with
  | inl e => trivial
  | inr t1 => exact AfR_a h
theorem AfR_w {t : Tok} {r : Rt} (k : Nat) (h : AfR T n t r) : AfR T n t (wordR T n k r) := by
  cases r with
  | inl e => trivial
  | inr t1 =>
    show AfR T n t (if isW t1 (ownW.getD k []) = true then advR T n t1 else .inl (1, tS t1))
    split
    · exact AfR_a h
    · trivial
theorem AfR_g {t : Tok} {r : Rt} (k : Nat) (h : AfR T n t r) : AfR T n t (signR T n k r) := by
  cases r with
  | inl e => trivial
  | inr t1 =>
    show AfR T n t (if isS t1 k = true then advR T n t1 else .inl (1, tS t1))
    split
    · exact AfR_a h
    · trivial
theorem AfR_n {t : Tok} {r : Rt} (lo hi : Nat) (h : AfR T n t r) : AfR T n t (numR T n lo hi r).1 := by
  cases r with
  | inl e => trivial
  | inr t1 =>
    show AfR T n t (if ¬ t1.1 = 2 then (.inl (1, tS t1), lo) else if t1.2.1 < lo ∨ hi < t1.2.1 then (.inl (4, tS t1), lo) else (advR T n t1, t1.2.1) : Rt × Nat).1
    split
    · trivial
    · split
      · trivial
      · exact AfR_a h
theorem AfR_f {t : Tok} {r : Rt} (w lo hi : Nat) (h : AfR T n t r) : AfR T n t (aftR T n w lo hi r).1 := AfR_n lo hi (AfR_w w h)
theorem AfR_p {t : Tok} {r : Rt} (C R : Nat) (h : AfR T n t r) : AfR T n t (plcR T n C R r).1 := AfR_n _ _ (AfR_n _ _ (AfR_w 10 h))
theorem AfR_m {t : Tok} {r : Rt} (h : AfR T n t r) : AfR T n t (nameR r).1 := by
  cases r with
  | inl e => trivial
  | inr t1 =>
    show AfR T n t (if isNm t1 = true then (.inr t1, true) else (.inl (1, tS t1), false) : Rt × Bool).1
    split
    · exact h
    · trivial
theorem AfR_i {t : Tok} {r : Rt} (lo hi : Nat) (h : AfR T n t r) : AfR T n t (isNR lo hi r).1 := by
  cases r with
  | inl e => trivial
  | inr t1 =>
    show AfR T n t (if ¬ t1.1 = 2 then (.inl (1, tS t1), false) else if t1.2.1 < lo ∨ hi < t1.2.1 then (.inl (4, tS t1), false) else (.inr t1, true) : Rt × Bool).1
    split
    · trivial
    · split
      · trivial
      · exact h
theorem AfR_h {t : Tok} {r : Rt} (D : Dat) (h : AfR T n t r) : AfR T n t (shpR T n D r).1 := by
  have h1 := AfR_m h
  unfold shpR
  cases hm : (nameR r).1 with
  | inl e => trivial
  | inr t1 =>
    rw [hm] at h1
    dsimp only
    cases shF D t1.2.2.1 with
    | none => trivial
    | some s => exact AfR_a h1
theorem AfR_lt {t t' : Tok} (hG : tkG T n t) (h0 : ¬ t.1 = 0) (h : AfR T n t (.inr t')) : tS t < tS t' := by
  obtain ⟨a, h1, h2, rfl⟩ := h
  have := (tk_V T n a h2).2.1
  have := tkG_0 hG h0
  omega
theorem GdX_t {M : am_M} {D : Dat} {c : Nat} {t : Tok} (h : GdX T n z M D c t) : tkG T n t := h.2.2.1.2.2.2.2.2.2.2.2.1
theorem sRd_S {M M' : am_M} (h : gF sRd nT M M') : gF (sSea z) nT M M' := gF_up h (fun a j q => Or.inl q) (fun _ _ q => q)
theorem sFz_S {M M' : am_M} (h : gF (sFz z) nT M M') : gF (sSea z) nT M M' := gF_up h (fun a j q => by unfold sFz at q; unfold sSea; omega) (fun _ _ q => q)
theorem sPz_S {M M' : am_M} {c : Nat} (h : gF (sPz z c) nT M M') : gF (sSea z) nT M M' := sFz_S (sPz_F h)
theorem Fa_of {M : am_M} {D : Dat} {c : Nat} {e : Nat × Nat} (hp : mR M 164 1 = some z) (hP : PsX M z D c) (h : StR M T n (.inl e)) : FaX M z T n e := ⟨h, hp, c, hP.2.2.2.2⟩
theorem f_0 {M : am_M} {r : Rt} (h : StR M T n r) : (∀ e, r = .inl e → ¬ mI M 165 8 = 0) ∧ (∀ t, r = .inr t → mI M 165 8 = 0) := by
  constructor
  · intro e he
    rw [he] at h
    exact FtX_8 h
  · intro t ht
    rw [ht] at h
    exact h.2.2.1
/-- how far it is: luck -/
theorem PsX_mk {M : am_M} {D D' : Dat} {c : Nat} (h : PsX M z D' c) (e : D = D') : PsX M z D c := by rw [e]; exact h
theorem b_luck (hz : z = 2 ∨ z = 83) (d c : Nat) (D : Dat) (t : Tok) (M : am_M) (Q : Option Value → am_M → Prop) (hG : GdX T n z M D c t) (h0 : ¬ t.1 = 0) (hQ : ∀ M', EdX T n z t M M' (spLuck T n D t) → Q none M') : am_P am_P0 (d + 4) (am_look tX2_readStatement) 200 [.ref 164, .int 0] [] M Q := by
  obtain ⟨hL, hp, hR, hP, hD, hc⟩ := id hG
  have hst : StR M T n (.inr t) := hR
  have hEn := (GdX_t hG).1
  simp +decide only [qX2_readStatement_0, qX2_readStatement_1, lx hL, am_w1_i, am_w1_r, am_w1_x, am_w1_l, am_w1_w, va_rf_s, am_push_n, am_push_s, am_cs_0, am_cs_i, am_cs_l, am_cs_r, m_uI_K, m_uI_N, m_uI_R, m_uI_L, m_uI_I, m_uL_K, m_uL_N, m_uL_R, m_uL_I, m_uL_L, m_uR_K, m_uR_N, m_uR_I, m_uR_L, m_uR_R, true_and, and_true, true_implies, false_implies, not_true_eq_false, not_false_eq_true, if_true, if_false, false_and, and_false]
  refine c_x_stepR (d + 2) n T (.inr t) M _ hL hst (fun M1 g1 h1 => ?_)
  have L1 := gF_LayN g1 hL
  have P1 := PsX_r hP hz hD g1
  have p1 : mR M1 164 1 = some z := by rw [g1.2.2.1 _ _ (fun q => q)]; exact hp
  simp +decide only [qX2_readStatement_0, qX2_readStatement_1, lx L1, p1, am_w1_i, am_w1_r, am_w1_x, am_w1_l, am_w1_w, va_rf_s, am_push_n, am_push_s, am_cs_0, am_cs_i, am_cs_l, am_cs_r, m_uI_K, m_uI_N, m_uI_R, m_uI_L, m_uI_I, m_uL_K, m_uL_N, m_uL_R, m_uL_I, m_uL_L, m_uR_K, m_uR_N, m_uR_I, m_uR_L, m_uR_R, true_and, and_true, true_implies, false_implies, not_true_eq_false, not_false_eq_true, if_true, if_false, false_and, and_false]
  rw [show (0 : Int32) = nI 0 from rfl, show (100 : Int32) = nI 100 from rfl]
  refine c_x_takeNumber d n 0 100 T _ M1 _ L1 (by omega) (by omega) h1 (fun M2 g2 h2 => ?_)
  have L2 := gF_LayN g2 L1
  have P2 := PsX_r P1 hz hD g2
  have p2 : mR M2 164 1 = some z := by rw [g2.2.2.1 _ _ (fun q => q)]; exact p1
  have h2' : StR M2 T n (numR T n 0 100 (advR T n t)).1 := h2
  simp +decide only [qX2_readStatement_0, qX2_readStatement_1, lz L2 hz, am_w1_i, am_w1_r, am_w1_x, am_w1_l, am_w1_w, va_rf_s, am_push_n, am_push_s, am_cs_0, am_cs_i, am_cs_l, am_cs_r, m_uI_K, m_uI_N, m_uI_R, m_uI_L, m_uI_I, m_uL_K, m_uL_N, m_uL_R, m_uL_I, m_uL_L, m_uR_K, m_uR_N, m_uR_I, m_uR_L, m_uR_R, true_and, and_true, true_implies, false_implies, not_true_eq_false, not_false_eq_true, if_true, if_false, false_and, and_false]
  have g3 : gF (fun a j => a = z ∧ j = 2) nT M2 (uI M2 z 2 (nI (numR T n 0 100 (stepR T n (.inr t))).2)) := gF_i _ ⟨rfl, rfl⟩
  have G : gF (sSea z) nT M (uI M2 z 2 (nI (numR T n 0 100 (stepR T n (.inr t))).2)) := gF_trans (sRd_S g1) (gF_trans (sRd_S g2) (gF_up g3 (fun a j q => by unfold sSea; omega) (fun _ _ q => q)))
  have h3 : StR (uI M2 z 2 (nI (numR T n 0 100 (stepR T n (.inr t))).2)) T n (numR T n 0 100 (advR T n t)).1 := StR_g h2' g3 (fun a j q w => by omega) (fun q => q)
  refine hQ _ ?_
  unfold spLuck bR
  cases hr : (numR T n 0 100 (advR T n t)).1 with
  | inl e =>
    rw [hr] at h3
    exact ⟨G, h3, p2, c, FmX_g P2.2.2.2.2 g3 (fun q => by omega)⟩
  | inr t' =>
    rw [hr] at h3
    have haf : AfR T n t (.inr t') := by rw [← hr]; exact AfR_n _ _ (AfR_1 hEn)
    have hlt := AfR_lt (GdX_t hG) h0 haf
    have hv := numR_v hr
    refine ⟨G, ⟨c, L2, p2, h3, ?_, ?_, by show c ≤ tS t'; omega⟩, hlt⟩
    · obtain ⟨⟨a1, a2, a3, a4⟩, b, s, ⟨r1, r2, r3⟩, f⟩ := P2
      refine ⟨⟨by rw [m_uI_I, if_neg (by omega)]; exact a1, by rw [m_uI_I, if_neg (by omega)]; exact a2, by rw [m_uI_I, if_pos ⟨rfl, rfl⟩]; rfl, by rw [m_uI_I, if_neg (by omega)]; exact a4⟩, fun s' sp hs' => ?_, SgX_g s g3 (fun a j q1 q2 w => by omega), ⟨RlC_g r1 g3 (fun a j q1 q2 w => by omega) (fun j hj w => by omega), RlC_g r2 g3 (fun a j q1 q2 w => by omega) (fun j hj w => by omega), RlC_g r3 g3 (fun a j q1 q2 w => by omega) (fun j hj w => by omega)⟩, FmX_g f g3 (fun q => by omega)⟩
      exact ShX_g (b s' sp hs') g3 (fun a j q1 q2 w => by omega)
    · obtain ⟨d1, d2, d3⟩ := hD
      exact ⟨d1, hv.2, d3⟩
theorem b_size (hz : z = 2 ∨ z = 83) (d c : Nat) (t : Tok) (M : am_M) (Q : Option Value → am_M → Prop) (hG : GdX T n z M dat0 c t) (h0 : ¬ t.1 = 0) (hQ : ∀ M', EdX T n z t M M' (spSize T n dat0 t) → Q none M') : am_E am_P0 (d + 4) 12 [.ref 164] M Q := by
  obtain ⟨hL, hp, hR, hP, hD, hc⟩ := id hG
  have hst : StR M T n (.inr t) := hR
  have hEn := (GdX_t hG).1
  rw [eX2_readSize]
  simp +decide only [qX2_readSize, lx hL, am_w1_i, am_w1_r, am_w1_x, am_w1_l, am_w1_w, va_rf_s, am_push_n, am_push_s, am_cs_0, am_cs_i, am_cs_l, am_cs_r, m_uI_K, m_uI_N, m_uI_R, m_uI_L, m_uI_I, m_uL_K, m_uL_N, m_uL_R, m_uL_I, m_uL_L, m_uR_K, m_uR_N, m_uR_I, m_uR_L, m_uR_R, true_and, and_true, true_implies, false_implies, not_true_eq_false, not_false_eq_true, if_true, if_false, false_and, and_false]
  refine c_x_stepR (d + 2) n T (.inr t) M _ hL hst (fun M1 g1 h1 => ?_)
  have L1 := gF_LayN g1 hL
  have P1 := PsX_r hP hz hD g1
  have p1 : mR M1 164 1 = some z := by rw [g1.2.2.1 _ _ (fun q => q)]; exact hp
  simp +decide only [qX2_readSize, lx L1, p1, am_w1_i, am_w1_r, am_w1_x, am_w1_l, am_w1_w, va_rf_s, am_push_n, am_push_s, am_cs_0, am_cs_i, am_cs_l, am_cs_r, m_uI_K, m_uI_N, m_uI_R, m_uI_L, m_uI_I, m_uL_K, m_uL_N, m_uL_R, m_uL_I, m_uL_L, m_uR_K, m_uR_N, m_uR_I, m_uR_L, m_uR_R, true_and, and_true, true_implies, false_implies, not_true_eq_false, not_false_eq_true, if_true, if_false, false_and, and_false]
  rw [show (2 : Int32) = nI 2 from rfl, show (16 : Int32) = nI 16 from rfl]
  refine c_x_takeNumber d n 2 16 T _ M1 _ L1 (by omega) (by omega) h1 (fun M2 g2 h2 => ?_)
  have L2 := gF_LayN g2 L1
  have P2 := PsX_r P1 hz hD g2
  have p2 : mR M2 164 1 = some z := by rw [g2.2.2.1 _ _ (fun q => q)]; exact p1
  have h2' : StR M2 T n (numR T n 2 16 (advR T n t)).1 := h2
  obtain ⟨M3, hM3⟩ : ∃ M3, M3 = uI M2 z 0 (nI (numR T n 2 16 (stepR T n (.inr t))).2) := ⟨_, rfl⟩
  have g3 : gF (fun a j => a = z ∧ j = 0) nT M2 M3 := by rw [hM3]; exact gF_i _ ⟨rfl, rfl⟩
  have h3 : StR M3 T n (numR T n 2 16 (advR T n t)).1 := StR_g h2' g3 (fun a j q w => by omega) (fun q => q)
  have L3 := gF_LayN g3 L2
  have p3 : mR M3 164 1 = some z := by rw [g3.2.2.1 _ _ (fun q => q)]; exact p2
  simp +decide only [qX2_readSize, lz L2 hz, ← hM3, am_w1_i, am_w1_r, am_w1_x, am_w1_l, am_w1_w, va_rf_s, am_push_n, am_push_s, am_cs_0, am_cs_i, am_cs_l, am_cs_r, m_uI_K, m_uI_N, m_uI_R, m_uI_L, m_uI_I, m_uL_K, m_uL_N, m_uL_R, m_uL_I, m_uL_L, m_uR_K, m_uR_N, m_uR_I, m_uR_L, m_uR_R, true_and, and_true, true_implies, false_implies, not_true_eq_false, not_false_eq_true, if_true, if_false, false_and, and_false]
  simp +decide only [qX2_readSize, lx L3, p3, am_w1_i, am_w1_r, am_w1_x, am_w1_l, am_w1_w, va_rf_s, am_push_n, am_push_s, am_cs_0, am_cs_i, am_cs_l, am_cs_r, m_uI_K, m_uI_N, m_uI_R, m_uI_L, m_uI_I, m_uL_K, m_uL_N, m_uL_R, m_uL_I, m_uL_L, m_uR_K, m_uR_N, m_uR_I, m_uR_L, m_uR_R, true_and, and_true, true_implies, false_implies, not_true_eq_false, not_false_eq_true, if_true, if_false, false_and, and_false]
  rw [show (2 : Int32) = nI 2 from rfl, show (16 : Int32) = nI 16 from rfl]
  refine c_x_takeNumber d n 2 16 T _ M3 _ L3 (by omega) (by omega) h3 (fun M4 g4 h4 => ?_)
  have L4 := gF_LayN g4 L3
  have p4 : mR M4 164 1 = some z := by rw [g4.2.2.1 _ _ (fun q => q)]; exact p3
  simp +decide only [qX2_readSize, lz L4 hz, am_w1_i, am_w1_r, am_w1_x, am_w1_l, am_w1_w, va_rf_s, am_push_n, am_push_s, am_cs_0, am_cs_i, am_cs_l, am_cs_r, m_uI_K, m_uI_N, m_uI_R, m_uI_L, m_uI_I, m_uL_K, m_uL_N, m_uL_R, m_uL_I, m_uL_L, m_uR_K, m_uR_N, m_uR_I, m_uR_L, m_uR_R, true_and, and_true, true_implies, false_implies, not_true_eq_false, not_false_eq_true, if_true, if_false, false_and, and_false]
  obtain ⟨M5, hM5⟩ : ∃ M5, M5 = uI M4 z 1 (nI (numR T n 2 16 (numR T n 2 16 (advR T n t)).1).2) := ⟨_, rfl⟩
  have g5 : gF (fun a j => a = z ∧ j = 1) nT M4 M5 := by rw [hM5]; exact gF_i _ ⟨rfl, rfl⟩
  have h5 : StR M5 T n (numR T n 2 16 (numR T n 2 16 (advR T n t)).1).1 := StR_g h4 g5 (fun a j q w => by omega) (fun q => q)
  have G25 : gF (fun a j => a = 165 ∨ (a = z ∧ (j = 0 ∨ j = 1))) nT M2 M5 := gF_trans (gF_up g3 (fun a j q => by omega) (fun _ _ q => q)) (gF_trans (gF_up g4 (fun a j q => Or.inl q) (fun _ _ q => q)) (gF_up g5 (fun a j q => by omega) (fun _ _ q => q)))
  have G : gF (sSea z) nT M M5 := gF_trans (sRd_S g1) (gF_trans (sRd_S g2) (gF_up G25 (fun a j q => by unfold sSea; omega) (fun _ _ q => q)))
  have p5 : mR M5 164 1 = some z := by rw [g5.2.2.1 _ _ (fun q => q)]; exact p4
  rw [← hM5]
  refine hQ M5 ?_
  unfold spSize bR
  cases hr : (numR T n 2 16 (numR T n 2 16 (advR T n t)).1).1 with
  | inl e =>
    rw [hr] at h5
    exact ⟨G, h5, p5, c, FmX_g P2.2.2.2.2 G25 (fun q => by omega)⟩
  | inr t' =>
    rw [hr] at h5
    have haf : AfR T n t (.inr t') := by rw [← hr]; exact AfR_n _ _ (AfR_n _ _ (AfR_1 hEn))
    have hlt := AfR_lt (GdX_t hG) h0 haf
    have hv := numR_v hr
    obtain ⟨t1, ht1⟩ := numR_i hr
    have hv1 := numR_v ht1
    refine ⟨G, ⟨c, gF_LayN g5 L4, p5, h5, ?_, ?_, by show c ≤ tS t'; omega⟩, hlt⟩
    · obtain ⟨⟨a1, a2, a3, a4⟩, b, s, ⟨r1, r2, r3⟩, f⟩ := P2
      refine ⟨⟨?_, ?_, by rw [G25.1 _ _ (by omega)]; exact a3, by rw [G25.1 _ _ (by omega)]; exact a4⟩, fun s' sp hs' => (by cases hs'), SgX_g s G25 (fun a j q1 q2 w => by omega), ⟨RlC_g r1 G25 (fun a j q1 q2 w => by omega) (fun j hj w => by omega), RlC_g r2 G25 (fun a j q1 q2 w => by omega) (fun j hj w => by omega), RlC_g r3 G25 (fun a j q1 q2 w => by omega) (fun j hj w => by omega)⟩, FmX_g f G25 (fun q => by omega)⟩
      · rw [g5.1 _ _ (by omega), g4.1 _ _ (by unfold sRd; omega), hM3, m_uI_I, if_pos ⟨rfl, rfl⟩]; rfl
      · rw [hM5, m_uI_I, if_pos ⟨rfl, rfl⟩]; rfl
    · exact ⟨⟨hv1.2, hv.2⟩, (show 10 ≤ 100 by decide), ⟨Nat.zero_le _, rfl, fun s hs => absurd hs List.not_mem_nil⟩, fun s y hy => absurd hy List.not_mem_nil, fun s => List.Pairwise.nil, Nat.zero_le _, ⟨⟨Nat.zero_le _, fun k hk => absurd hk List.not_mem_nil⟩, fun k hk => absurd hk List.not_mem_nil⟩, ⟨Nat.zero_le _, fun g hg => absurd hg List.not_mem_nil⟩, ⟨Nat.zero_le _, fun r hr => absurd hr List.not_mem_nil⟩, ⟨Nat.zero_le _, fun r hr => absurd hr List.not_mem_nil⟩, ⟨Nat.zero_le _, fun r hr => absurd hr List.not_mem_nil⟩⟩
end
end
section
/-! the class's parser: sightings, ships, sayings, books -/
section
variable {T : Nat → Nat} {n z : Nat}
theorem PsX_p {M M' : am_M} {D : Dat} {c : Nat} (hz : z = 2 ∨ z = 83) (hD : DOK D) (hp : mR M 164 1 = some z) (hP : PsX M z D c) (hg : gF sRd nT M M') : PsX M' z D c ∧ mR M' 164 1 = some z := ⟨PsX_r hP hz hD hg, by rw [hg.2.2.1 _ _ (fun q => q)]; exact hp⟩
theorem plR_v {D : Dat} {r : Rt} {t : Tok} (hD : DOK D) (hC : 1 ≤ dC D) (hR : 1 ≤ dR D) (h : (plcR T n (dC D) (dR D) r).1 = .inr t) : vld (dC D) (dR D) (plcR T n (dC D) (dR D) r).2 ∧ (plcR T n (dC D) (dR D) r).2 < 256 := by
  have h1 := numR_v h
  obtain ⟨t1, ht1⟩ := numR_i h
  have h2 := numR_v ht1
  have hc := hD.1
  have e : (plcR T n (dC D) (dR D) r).2 = 16 * (numR T n 0 (dR D - 1) (numR T n 0 (dC D - 1) (wordR T n 10 r)).1).2 + (numR T n 0 (dC D - 1) (wordR T n 10 r)).2 := rfl
  rw [e]
  unfold vld
  omega
theorem plR_i {C R : Nat} {r : Rt} {t : Tok} (h : (plcR T n C R r).1 = .inr t) : ∃ t0, r = .inr t0 := by
  obtain ⟨t1, ht1⟩ := numR_i h
  obtain ⟨t2, ht2⟩ := numR_i ht1
  exact wordR_i ht2
theorem aft_i {w lo hi : Nat} {r : Rt} {t : Tok} (h : (aftR T n w lo hi r).1 = .inr t) : ∃ t0, r = .inr t0 := by
  obtain ⟨t1, ht1⟩ := numR_i h
  exact wordR_i ht1
theorem DOK_sg {D : Dat} {g : Nat × Nat × Nat} (hD : DOK D) (hl : (dSg D).length < 40) (hg : g.1 ≤ 3 ∧ vld (dC D) (dR D) g.2.1 ∧ g.2.2 < 48) : DOK (D.1, (dSh D, dYs D, dBk D, dSg D ++ [g]), D.2.2) := by
  obtain ⟨d1, d2, d3, d4, d5, d6, d7, d8, d9⟩ := hD
  refine ⟨d1, d2, d3, d4, d5, d6, d7, ⟨?_, fun g' hg' => ?_⟩, d9⟩
  · show (dSg D ++ [g]).length ≤ 40
    rw [List.length_append]
    show (dSg D).length + 1 ≤ 40
    omega
  · rcases List.mem_append.mp hg' with q | q
    · exact d8.2 g' q
    · rw [List.mem_singleton.mp q]; exact hg
theorem b_seen (hz : z = 2 ∨ z = 83) (d c : Nat) (D : Dat) (t : Tok) (M : am_M) (Q : Option Value → am_M → Prop) (hG : GdX T n z M D c t) (hC : 1 ≤ dC D) (hRr : 1 ≤ dR D) (h0 : ¬ t.1 = 0) (hQ : ∀ M', EdX T n z t M M' (spSeen T n D t) → Q none M') : am_E am_P0 (d + 5) 21 [.ref 164] M Q := by
  obtain ⟨hL, hp, hR, hP, hD, hc⟩ := id hG
  have hst : StR M T n (.inr t) := hR
  have hEn := (GdX_t hG).1
  have h40 := hD.2.2.2.2.2.2.2.1.1
  have hn40 : nI (dSg D).length < 40 ↔ (dSg D).length < 40 := by rw [show (40 : Int32) = nI 40 from rfl, ni_lt (by omega) (by omega)]
  have main : am_E am_P0 (d + 4) 13 [.ref 164, .int (b01 (decide (40 ≤ (dSg D).length)))] M (fun r M2 => am_P am_P0 (d + 5) (am_look tX2_readSighting) 24 [.ref 164, am_x, am_x, am_x] (am_push r []) M2 Q) := by
    refine c_x_oneMore (d + 2) _ t M _ hL hst (fun M1 g1 h1 => ?_)
    have L1 := gF_LayN g1 hL
    obtain ⟨P1, p1⟩ := PsX_p hz hD hp hP g1
    by_cases cf : 40 ≤ (dSg D).length
    · rw [if_pos (decide_eq_true cf)] at h1
      have h9 := hQ M1 (by unfold spSeen; rw [if_pos cf]; exact ⟨sRd_S g1, Fa_of p1 P1 h1⟩)
      simp +decide only [qX2_readSighting, decide_eq_true cf, b01, Bool.not_true, am_w1_i, am_w1_r, am_w1_x, am_w1_l, am_w1_w, va_rf_s, am_push_n, am_push_s, am_cs_0, am_cs_i, am_cs_l, am_cs_r, m_uI_K, m_uI_N, m_uI_R, m_uI_L, m_uI_I, m_uL_K, m_uL_N, m_uL_R, m_uL_I, m_uL_L, m_uR_K, m_uR_N, m_uR_I, m_uR_L, m_uR_R, true_and, and_true, true_implies, false_implies, not_true_eq_false, not_false_eq_true, if_true, if_false, false_and, and_false]
      exact h9
    · rw [if_neg (by rw [decide_eq_false cf]; decide)] at h1
      simp +decide only [qX2_readSighting, lx L1, decide_eq_false cf, b01, Bool.not_false, am_w1_i, am_w1_r, am_w1_x, am_w1_l, am_w1_w, va_rf_s, am_push_n, am_push_s, am_cs_0, am_cs_i, am_cs_l, am_cs_r, m_uI_K, m_uI_N, m_uI_R, m_uI_L, m_uI_I, m_uL_K, m_uL_N, m_uL_R, m_uL_I, m_uL_L, m_uR_K, m_uR_N, m_uR_I, m_uR_L, m_uR_R, true_and, and_true, true_implies, false_implies, not_true_eq_false, not_false_eq_true, if_true, if_false, false_and, and_false]
      rw [show (0 : Int32) = nI 0 from rfl, show (3 : Int32) = nI 3 from rfl]
      refine c_x_takeNumber (d + 1) n 0 3 T _ M1 _ L1 (by omega) (by omega) h1 (fun M2 g2 h2 => ?_)
      have L2 := gF_LayN g2 L1
      obtain ⟨P2, p2⟩ := PsX_p hz hD p1 P1 g2
      simp +decide only [qX2_readSighting, lx L2, am_w1_i, am_w1_r, am_w1_x, am_w1_l, am_w1_w, va_rf_s, am_push_n, am_push_s, am_cs_0, am_cs_i, am_cs_l, am_cs_r, m_uI_K, m_uI_N, m_uI_R, m_uI_L, m_uI_I, m_uL_K, m_uL_N, m_uL_R, m_uL_I, m_uL_L, m_uR_K, m_uR_N, m_uR_I, m_uR_L, m_uR_R, true_and, and_true, true_implies, false_implies, not_true_eq_false, not_false_eq_true, if_true, if_false, false_and, and_false]
      refine c_x_takePlace d c D _ M2 _ L2 hz p2 P2 hD hC hRr h2 (fun M3 g3 h3 => ?_)
      have L3 := gF_LayN g3 L2
      obtain ⟨P3, p3⟩ := PsX_p hz hD p2 P2 g3
      simp +decide only [qX2_readSighting, lx L3, am_w1_i, am_w1_r, am_w1_x, am_w1_l, am_w1_w, va_rf_s, am_push_n, am_push_s, am_cs_0, am_cs_i, am_cs_l, am_cs_r, m_uI_K, m_uI_N, m_uI_R, m_uI_L, m_uI_I, m_uL_K, m_uL_N, m_uL_R, m_uL_I, m_uL_L, m_uR_K, m_uR_N, m_uR_I, m_uR_L, m_uR_R, true_and, and_true, true_implies, false_implies, not_true_eq_false, not_false_eq_true, if_true, if_false, false_and, and_false]
      rw [show (16 : Int32) = nI 16 from rfl, show (0 : Int32) = nI 0 from rfl, show (47 : Int32) = nI 47 from rfl]
      refine c_x_takeAfter d 16 0 47 _ M3 _ L3 (by omega) (by omega) (by omega) h3 (fun M4 g4 h4 => ?_)
      have L4 := gF_LayN g4 L3
      obtain ⟨P4, p4⟩ := PsX_p hz hD p3 P3 g4
      have G4 := gF_trans g1 (gF_trans g2 (gF_trans g3 g4))
      have hf := f_0 h4
      have hres : spSeen T n D t = bR (aftR T n 16 0 47 (plcR T n (dC D) (dR D) (numR T n 0 3 (advR T n t)).1).1).1 (fun t' => .inr (t', (D.1, (dSh D, dYs D, dBk D, dSg D ++ [((numR T n 0 3 (advR T n t)).2, (plcR T n (dC D) (dR D) (numR T n 0 3 (advR T n t)).1).2, (aftR T n 16 0 47 (plcR T n (dC D) (dR D) (numR T n 0 3 (advR T n t)).1).1).2)]), D.2.2))) := by unfold spSeen; rw [if_neg cf]
      rw [hres] at hQ
      cases hr : (aftR T n 16 0 47 (plcR T n (dC D) (dR D) (numR T n 0 3 (advR T n t)).1).1).1 with
      | inl e =>
        rw [hr] at h4 hQ
        have h9 := hQ M4 ⟨sRd_S G4, Fa_of p4 P4 h4⟩
        simp +decide only [qX2_readSighting, lx L4, am_w1_i, am_w1_r, am_w1_x, am_w1_l, am_w1_w, va_rf_s, am_push_n, am_push_s, am_cs_0, am_cs_i, am_cs_l, am_cs_r, m_uI_K, m_uI_N, m_uI_R, m_uI_L, m_uI_I, m_uL_K, m_uL_N, m_uL_R, m_uL_I, m_uL_L, m_uR_K, m_uR_N, m_uR_I, m_uR_L, m_uR_R, true_and, and_true, true_implies, false_implies, not_true_eq_false, not_false_eq_true, if_true, if_false, false_and, and_false]
        rw [br_p (hf.1 e hr)]
        exact h9
      | inr t' =>
        have hv := numR_v hr
        obtain ⟨t3, ht3⟩ := aft_i hr
        have hpv := plR_v hD hC hRr ht3
        obtain ⟨t2, ht2⟩ := plR_i ht3
        have hlk := numR_v ht2
        have haf : AfR T n t (.inr t') := by rw [← hr]; exact AfR_f _ _ _ (AfR_p _ _ (AfR_n _ _ (AfR_1 hEn)))
        have hlt := AfR_lt (GdX_t hG) h0 haf
        have hsg := P4.2.2.1
        simp +decide only [qX2_readSighting, lx L4, lz L4 hz, p4, hf.2 t' hr, am_w1_i, am_w1_r, am_w1_x, am_w1_l, am_w1_w, va_rf_s, am_push_n, am_push_s, am_cs_0, am_cs_i, am_cs_l, am_cs_r, m_uI_K, m_uI_N, m_uI_R, m_uI_L, m_uI_I, m_uL_K, m_uL_N, m_uL_R, m_uL_I, m_uL_L, m_uR_K, m_uR_N, m_uR_I, m_uR_L, m_uR_R, true_and, and_true, true_implies, false_implies, not_true_eq_false, not_false_eq_true, if_true, if_false, false_and, and_false]
        rw [c_x_append (d + 4) _ _ _ M4 _ L4 z (dSg D).length hz hsg.1 (by omega)]
        simp +decide only [qX2_readSighting, am_w1_i, am_w1_r, am_w1_x, am_w1_l, am_w1_w, va_rf_s, am_push_n, am_push_s, am_cs_0, am_cs_i, am_cs_l, am_cs_r, m_uI_K, m_uI_N, m_uI_R, m_uI_L, m_uI_I, m_uL_K, m_uL_N, m_uL_R, m_uL_I, m_uL_L, m_uR_K, m_uR_N, m_uR_I, m_uR_L, m_uR_R, true_and, and_true, true_implies, false_implies, not_true_eq_false, not_false_eq_true, if_true, if_false, false_and, and_false]
        have G5 : gF (fun a j => z + 2 ≤ a ∧ a ≤ z + 5) nT M4 (uI (uI (uI (uI M4 (z + 3) (dSg D).length (nI (numR T n 0 3 (advR T n t)).2)) (z + 4) (dSg D).length (nI (plcR T n (dC D) (dR D) (numR T n 0 3 (advR T n t)).1).2)) (z + 5) (dSg D).length (nI (aftR T n 16 0 47 (plcR T n (dC D) (dR D) (numR T n 0 3 (advR T n t)).1).1).2)) (z + 2) 0 (nI ((dSg D).length + 1))) := gF_trans (gF_i _ ⟨by omega, by omega⟩) (gF_trans (gF_i _ ⟨by omega, by omega⟩) (gF_trans (gF_i _ ⟨by omega, by omega⟩) (gF_i _ ⟨by omega, by omega⟩)))
        have hsx : ∀ i g, (dSg D ++ [((numR T n 0 3 (advR T n t)).2, (plcR T n (dC D) (dR D) (numR T n 0 3 (advR T n t)).1).2, (aftR T n 16 0 47 (plcR T n (dC D) (dR D) (numR T n 0 3 (advR T n t)).1).1).2)])[i]? = some g → mI (uI (uI (uI (uI M4 (z + 3) (dSg D).length (nI (numR T n 0 3 (advR T n t)).2)) (z + 4) (dSg D).length (nI (plcR T n (dC D) (dR D) (numR T n 0 3 (advR T n t)).1).2)) (z + 5) (dSg D).length (nI (aftR T n 16 0 47 (plcR T n (dC D) (dR D) (numR T n 0 3 (advR T n t)).1).1).2)) (z + 2) 0 (nI ((dSg D).length + 1))) (z + 3) i = nI g.1 ∧ mI (uI (uI (uI (uI M4 (z + 3) (dSg D).length (nI (numR T n 0 3 (advR T n t)).2)) (z + 4) (dSg D).length (nI (plcR T n (dC D) (dR D) (numR T n 0 3 (advR T n t)).1).2)) (z + 5) (dSg D).length (nI (aftR T n 16 0 47 (plcR T n (dC D) (dR D) (numR T n 0 3 (advR T n t)).1).1).2)) (z + 2) 0 (nI ((dSg D).length + 1))) (z + 4) i = nI g.2.1 ∧ mI (uI (uI (uI (uI M4 (z + 3) (dSg D).length (nI (numR T n 0 3 (advR T n t)).2)) (z + 4) (dSg D).length (nI (plcR T n (dC D) (dR D) (numR T n 0 3 (advR T n t)).1).2)) (z + 5) (dSg D).length (nI (aftR T n 16 0 47 (plcR T n (dC D) (dR D) (numR T n 0 3 (advR T n t)).1).1).2)) (z + 2) 0 (nI ((dSg D).length + 1))) (z + 5) i = nI g.2.2 := by
          intro i g hi
          by_cases e : i < (dSg D).length
          · rw [List.getElem?_append_left e] at hi
            obtain ⟨q1, q2, q3⟩ := hsg.2 i g hi
            refine ⟨?_, ?_, ?_⟩
            · rw [m_uI_I, if_neg (by omega), m_uI_I, if_neg (by omega), m_uI_I, if_neg (by omega), m_uI_I, if_neg (by omega)]; exact q1
            · rw [m_uI_I, if_neg (by omega), m_uI_I, if_neg (by omega), m_uI_I, if_neg (by omega), m_uI_I, if_neg (by omega)]; exact q2
            · rw [m_uI_I, if_neg (by omega), m_uI_I, if_neg (by omega), m_uI_I, if_neg (by omega), m_uI_I, if_neg (by omega)]; exact q3
          · rw [List.getElem?_append_right (by omega)] at hi
            have hl := (List.getElem?_eq_some_iff.mp hi).1
            have e2 : i = (dSg D).length := by
              simp only [List.length_cons, List.length_nil] at hl
              omega
            subst e2
            rw [Nat.sub_self] at hi
            cases hi
            refine ⟨?_, ?_, ?_⟩
            · rw [m_uI_I, if_neg (by omega), m_uI_I, if_neg (by omega), m_uI_I, if_neg (by omega), m_uI_I, if_pos ⟨rfl, rfl⟩]
            · rw [m_uI_I, if_neg (by omega), m_uI_I, if_neg (by omega), m_uI_I, if_pos ⟨rfl, rfl⟩]
            · rw [m_uI_I, if_neg (by omega), m_uI_I, if_pos ⟨rfl, rfl⟩]
        have h5 := StR_g h4 G5 (fun a j q w => by omega) (fun q => q)
        rw [hr] at h5 hQ
        refine hQ _ ⟨gF_trans (sRd_S G4) (gF_up G5 (fun a j q => by unfold sSea; omega) (fun _ _ q => q)), ⟨c, L4, p4, h5, ?_, DOK_sg hD (by omega) ⟨hlk.2, hpv.1, by show (aftR T n 16 0 47 (plcR T n (dC D) (dR D) (numR T n 0 3 (advR T n t)).1).1).2 < 48; have := hv.2; unfold aftR; omega⟩, by show c ≤ tS t'; omega⟩, hlt⟩
        obtain ⟨⟨a1, a2, a3, a4⟩, b, s, ⟨r1, r2, r3⟩, f⟩ := P4
        refine ⟨⟨by rw [G5.1 _ _ (by omega)]; exact a1, by rw [G5.1 _ _ (by omega)]; exact a2, by rw [G5.1 _ _ (by omega)]; exact a3, by rw [G5.1 _ _ (by omega)]; exact a4⟩, fun s' sp hs' => ShX_g (b s' sp hs') G5 (fun a j q1 q2 w => by omega), ⟨?_, hsx⟩, ⟨RlC_g r1 G5 (fun a j q1 q2 w => by omega) (fun j hj w => by omega), RlC_g r2 G5 (fun a j q1 q2 w => by omega) (fun j hj w => by omega), RlC_g r3 G5 (fun a j q1 q2 w => by omega) (fun j hj w => by omega)⟩, FmX_g f G5 (fun q => by omega)⟩
        show mI _ (z + 2) 0 = nI (dSg D ++ [_]).length
        rw [m_uI_I, if_pos ⟨rfl, rfl⟩, List.length_append]
        rfl
  rw [eX2_readSighting]
  simp +decide only [qX2_readSighting, lx hL, lz hL hz, hp, hP.2.2.1.1, hn40, am_w1_i, am_w1_r, am_w1_x, am_w1_l, am_w1_w, va_rf_s, am_push_n, am_push_s, am_cs_0, am_cs_i, am_cs_l, am_cs_r, m_uI_K, m_uI_N, m_uI_R, m_uI_L, m_uI_I, m_uL_K, m_uL_N, m_uL_R, m_uL_I, m_uL_L, m_uR_K, m_uR_N, m_uR_I, m_uR_L, m_uR_R, true_and, and_true, true_implies, false_implies, not_true_eq_false, not_false_eq_true, if_true, if_false, false_and, and_false]
  by_cases cf : 40 ≤ (dSg D).length
  · rw [decide_eq_true cf] at main
    rw [br_n (by omega)]
    exact main
  · rw [decide_eq_false cf] at main
    rw [br_p (by omega)]
    exact main
def sLa (z N a j : Nat) : Prop := (a = z + 25 + 7 * N ∧ (j ≤ 5 ∨ j = 9)) ∨ (a = z ∧ j = 3)
theorem c_x_launch (d N : Nat) (x0 x1 x2 x3 x4 : Int32) (M : am_M) (Q : Option Value → am_M → Prop) (hL : Lay M) (hz : z = 2 ∨ z = 83) (hN : N < 8) (h3 : mI M z 3 = nI N)
    (hQ : ∀ M', gF (sLa z N) nT M M' → mI M' z 3 = nI (N + 1) → mI M' (z + 25 + 7 * N) 0 = x0 → mI M' (z + 25 + 7 * N) 1 = x1 → mI M' (z + 25 + 7 * N) 2 = x2 → mI M' (z + 25 + 7 * N) 3 = x3 → mI M' (z + 25 + 7 * N) 4 = x4 → mI M' (z + 25 + 7 * N) 5 = 0 → mI M' (z + 25 + 7 * N) 9 = 0 → Q none M') : am_E am_P0 d 63 [.ref z, .int x0, .int x1, .int x2, .int x3, .int x4] M Q := by
  obtain ⟨g, hge⟩ : ∃ g, g = z + 25 + 7 * N := ⟨_, rfl⟩
  have hg : isSh g := ⟨N, hN, by omega⟩
  have hr := lsh hL hz hN
  have hlt : ¬ (8 : Int32) ≤ nI N := by rw [show (8 : Int32) = nI 8 from rfl, ni_le (by omega) (by omega)]; omega
  rw [← hge] at hr hQ
  have ng : ¬ z = g := by omega
  rw [eX5_launch]
  simp +decide (disch := omega) only [qX5_launch, lz hL hz, lw_ hL hg, h3, hr, ng, ni_in_t, ni_tn, ni_add1, am_w1_i, am_w1_r, am_w1_x, am_w1_l, am_w1_w, va_rf_s, am_push_n, am_push_s, am_cs_0, am_cs_i, am_cs_l, am_cs_r, m_uI_K, m_uI_N, m_uI_R, m_uI_L, m_uI_I, m_uL_K, m_uL_N, m_uL_R, m_uL_I, m_uL_L, m_uR_K, m_uR_N, m_uR_I, m_uR_L, m_uR_R, true_and, and_true, true_implies, false_implies, not_true_eq_false, not_false_eq_true, if_true, if_false, false_and, and_false, true_or]
  rw [br_n hlt]
  have up : ∀ j, j ≤ 5 ∨ j = 9 → sLa z N g j := fun j hj => Or.inl ⟨hge, hj⟩
  refine hQ _ (gF_trans (gF_i _ (up 0 (by omega))) (gF_trans (gF_i _ (up 1 (by omega))) (gF_trans (gF_i _ (up 2 (by omega))) (gF_trans (gF_i _ (up 3 (by omega))) (gF_trans (gF_i _ (up 4 (by omega))) (gF_trans (gF_i _ (up 5 (by omega))) (gF_trans (gF_i _ (up 9 (by omega))) (gF_i _ (Or.inr ⟨rfl, rfl⟩))))))))) ?_ ?_ ?_ ?_ ?_ ?_ ?_ ?_
  · simp [m_uI_I]
  · have ng' : ¬ g = z := by omega
    simp [m_uI_I, ng']
  · have ng' : ¬ g = z := by omega
    simp [m_uI_I, ng']
  · have ng' : ¬ g = z := by omega
    simp [m_uI_I, ng']
  · have ng' : ¬ g = z := by omega
    simp [m_uI_I, ng']
  · have ng' : ¬ g = z := by omega
    simp [m_uI_I, ng']
  · have ng' : ¬ g = z := by omega
    simp [m_uI_I, ng']
  · have ng' : ¬ g = z := by omega
    simp [m_uI_I, ng']
theorem dY_app {D : Dat} {sp : Shp} (hD : DOK D) (s : Nat) : dY (D.1, (dSh D ++ [sp], dYs D ++ [[]], dBk D, dSg D), D.2.2) s = dY D s := by
  show (dYs D ++ [[]]).getD s [] = (dYs D).getD s []
  rw [List.getD_eq_getElem?_getD, List.getD_eq_getElem?_getD]
  by_cases h : s < (dYs D).length
  · rw [List.getElem?_append_left h]
  · rw [List.getElem?_append_right (by omega), List.getElem?_eq_none (l := dYs D) (by omega)]
    cases hs : s - (dYs D).length with
    | zero => rfl
    | succ k => rfl
theorem DOK_sh {D : Dat} {sp : Shp} (hD : DOK D) (hl : (dSh D).length < 8) (hs : shOK sp) : DOK (D.1, (dSh D ++ [sp], dYs D ++ [[]], dBk D, dSg D), D.2.2) := by
  have hY := fun s => dY_app (sp := sp) hD s
  obtain ⟨d1, d2, ⟨e1, e2, e3⟩, d4, d5, d6, d7, d8, d9⟩ := id hD
  refine ⟨d1, d2, ⟨?_, ?_, fun s hs' => ?_⟩, fun s y hy => ?_, fun s => ?_, ?_, ⟨d7.1, fun k hk => ?_⟩, d8, d9⟩
  · show (dSh D ++ [sp]).length ≤ 8
    rw [List.length_append]; show (dSh D).length + 1 ≤ 8; omega
  · show (dYs D ++ [[]]).length = (dSh D ++ [sp]).length
    rw [List.length_append, List.length_append, e2]; rfl
  · rcases List.mem_append.mp hs' with q | q
    · exact e3 s q
    · rw [List.mem_singleton.mp q]; exact hs
  · rw [hY] at hy; exact d4 s y hy
  · rw [hY]; exact d5 s
  · unfold dTot
    rw [sumF_ext (g := fun s => (dY D s).length) _ (fun i _ => by rw [hY])]
    show sumF _ (dSh D ++ [sp]).length ≤ 96
    rw [List.length_append]
    show sumF (fun s => (dY D s).length) (dSh D).length + (dY D (dSh D).length).length ≤ 96
    have : dY D (dSh D).length = [] := by
      unfold dY
      rw [List.getD_eq_getElem?_getD, List.getElem?_eq_none (by omega)]; rfl
    rw [this]
    exact d6
  · have := d7.2 k hk
    show k.1 < (dSh D ++ [sp]).length
    rw [List.length_append]; omega
theorem b_ship (hz : z = 2 ∨ z = 83) (d c : Nat) (D : Dat) (t : Tok) (M : am_M) (Q : Option Value → am_M → Prop) (hG : GdX T n z M D c t) (h0 : ¬ t.1 = 0) (hQ : ∀ M', EdX T n z t M M' (spShip T n D t) → Q none M') : am_E am_P0 (d + 5) 16 [.ref 164] M Q := by
  obtain ⟨hL, hp, hR, hP, hD, hc⟩ := id hG
  have hst : StR M T n (.inr t) := hR
  have hEn := (GdX_t hG).1
  have h8 := hD.2.2.1.1
  have hn8 : nI (dSh D).length < 8 ↔ (dSh D).length < 8 := by rw [show (8 : Int32) = nI 8 from rfl, ni_lt (by omega) (by omega)]
  have main : am_E am_P0 (d + 4) 13 [.ref 164, .int (b01 (decide (8 ≤ (dSh D).length)))] M (fun r M2 => am_P am_P0 (d + 5) (am_look tX2_readShip) 21 [.ref 164, am_x, am_x, am_x, am_x, am_x] (am_push r []) M2 Q) := by
    refine c_x_oneMore (d + 2) _ t M _ hL hst (fun M1 g1 h1 => ?_)
    have L1 := gF_LayN g1 hL
    obtain ⟨P1, p1⟩ := PsX_p hz hD hp hP g1
    by_cases cf : 8 ≤ (dSh D).length
    · rw [if_pos (decide_eq_true cf)] at h1
      have h9 := hQ M1 (by unfold spShip; rw [if_pos cf]; exact ⟨sRd_S g1, Fa_of p1 P1 h1⟩)
      simp +decide only [qX2_readShip_0, qX2_readShip_1, decide_eq_true cf, b01, Bool.not_true, am_w1_i, am_w1_r, am_w1_x, am_w1_l, am_w1_w, va_rf_s, am_push_n, am_push_s, am_cs_0, am_cs_i, am_cs_l, am_cs_r, m_uI_K, m_uI_N, m_uI_R, m_uI_L, m_uI_I, m_uL_K, m_uL_N, m_uL_R, m_uL_I, m_uL_L, m_uR_K, m_uR_N, m_uR_I, m_uR_L, m_uR_R, true_and, and_true, true_implies, false_implies, not_true_eq_false, not_false_eq_true, if_true, if_false, false_and, and_false]
      exact h9
    · rw [if_neg (by rw [decide_eq_false cf]; decide)] at h1
      have hres : spShip T n D t = bR (nameR (advR T n t)).1 (fun t1 => if (shF D t1.2.2.1).isSome = true then .inl (2, tS t1) else
        bR (aftR T n 8 0 40 (aftR T n 7 1 40 (aftR T n 6 1 4 (aftR T n 5 0 3 (advR T n t1)).1).1).1).1 (fun t' => .inr (t', (D.1, (dSh D ++ [(t1.2.2.1, (aftR T n 5 0 3 (advR T n t1)).2, (aftR T n 6 1 4 (aftR T n 5 0 3 (advR T n t1)).1).2, (aftR T n 7 1 40 (aftR T n 6 1 4 (aftR T n 5 0 3 (advR T n t1)).1).1).2, (aftR T n 8 0 40 (aftR T n 7 1 40 (aftR T n 6 1 4 (aftR T n 5 0 3 (advR T n t1)).1).1).1).2)], dYs D ++ [[]], dBk D, dSg D), D.2.2)))) := by unfold spShip; rw [if_neg cf]
      rw [hres] at hQ
      simp +decide only [qX2_readShip_0, qX2_readShip_1, lx L1, decide_eq_false cf, b01, Bool.not_false, am_w1_i, am_w1_r, am_w1_x, am_w1_l, am_w1_w, va_rf_s, am_push_n, am_push_s, am_cs_0, am_cs_i, am_cs_l, am_cs_r, m_uI_K, m_uI_N, m_uI_R, m_uI_L, m_uI_I, m_uL_K, m_uL_N, m_uL_R, m_uL_I, m_uL_L, m_uR_K, m_uR_N, m_uR_I, m_uR_L, m_uR_R, true_and, and_true, true_implies, false_implies, not_true_eq_false, not_false_eq_true, if_true, if_false, false_and, and_false]
      refine c_x_isName (d + 2) n T _ M1 _ L1 h1 (fun M2 g2 h2 => ?_)
      have L2 := gF_LayN g2 L1
      obtain ⟨P2, p2⟩ := PsX_p hz hD p1 P1 g2
      have G2 := gF_trans g1 g2
      have haf2 : AfR T n t (nameR (advR T n t)).1 := AfR_m (AfR_1 hEn)
      cases hnm : (nameR (advR T n t)).1 with
      | inl e =>
        have hb : (nameR (advR T n t)).2 = false := by
          cases ha : advR T n t with
          | inl e' => rfl
          | inr t1 =>
            rw [ha] at hnm
            have en : nameR (.inr t1) = if isNm t1 = true then (.inr t1, true) else (.inl (1, tS t1), false) := rfl
            rw [en] at hnm ⊢
            by_cases cn : isNm t1 = true
            · rw [if_pos cn] at hnm; cases hnm
            · rw [if_neg cn]
        rw [hnm] at h2 hQ
        have h9 := hQ M2 ⟨sRd_S G2, Fa_of p2 P2 h2⟩
        simp +decide only [qX2_readShip_0, qX2_readShip_1, hb, b01, am_w1_i, am_w1_r, am_w1_x, am_w1_l, am_w1_w, va_rf_s, am_push_n, am_push_s, am_cs_0, am_cs_i, am_cs_l, am_cs_r, m_uI_K, m_uI_N, m_uI_R, m_uI_L, m_uI_I, m_uL_K, m_uL_N, m_uL_R, m_uL_I, m_uL_L, m_uR_K, m_uR_N, m_uR_I, m_uR_L, m_uR_R, true_and, and_true, true_implies, false_implies, not_true_eq_false, not_false_eq_true, if_true, if_false, false_and, and_false]
        exact h9
      | inr t1 =>
        have hb : (nameR (advR T n t)).2 = true ∧ isNm t1 = true := by
          cases ha : advR T n t with
          | inl e' => rw [ha] at hnm; cases hnm
          | inr t1' =>
            rw [ha] at hnm
            have en : nameR (.inr t1') = if isNm t1' = true then (.inr t1', true) else (.inl (1, tS t1'), false) := rfl
            rw [en] at hnm ⊢
            by_cases cn : isNm t1' = true
            · rw [if_pos cn] at hnm ⊢; cases hnm; exact ⟨rfl, cn⟩
            · rw [if_neg cn] at hnm; cases hnm
        rw [hnm] at h2 hQ haf2
        have hQ : ∀ M', EdX T n z t M M' (if (shF D t1.2.2.1).isSome = true then .inl (2, tS t1) else
          bR (aftR T n 8 0 40 (aftR T n 7 1 40 (aftR T n 6 1 4 (aftR T n 5 0 3 (advR T n t1)).1).1).1).1 (fun t' => .inr (t', (D.1, (dSh D ++ [(t1.2.2.1, (aftR T n 5 0 3 (advR T n t1)).2, (aftR T n 6 1 4 (aftR T n 5 0 3 (advR T n t1)).1).2, (aftR T n 7 1 40 (aftR T n 6 1 4 (aftR T n 5 0 3 (advR T n t1)).1).1).2, (aftR T n 8 0 40 (aftR T n 7 1 40 (aftR T n 6 1 4 (aftR T n 5 0 3 (advR T n t1)).1).1).1).2)], dYs D ++ [[]], dBk D, dSg D), D.2.2)))) → Q none M' := hQ
        have h2' : RdX M2 T n t1 := h2
        have ht1 : t1.1 = 1 := by have := hb.2; unfold isNm at this; rw [Bool.and_eq_true, beq_iff_eq] at this; exact this.1
        have hG2 := h2'.2.2.2.2.2.2.2.2.1
        have hw := hG2.2.2.2.2.2.1 ht1
        have h5 := h2'.2.2.2.2.2.2.2.1
        rw [if_pos ht1] at h5
        simp +decide only [qX2_readShip_0, qX2_readShip_1, lx L2, lz L2 hz, p2, h5, hb.1, c_x_shipNamed (d + 4) z c D t1.2.2.1 M2 _ L2 hz P2 hD hw.1 hw.2.1, b01, am_w1_i, am_w1_r, am_w1_x, am_w1_l, am_w1_w, va_rf_s, am_push_n, am_push_s, am_cs_0, am_cs_i, am_cs_l, am_cs_r, m_uI_K, m_uI_N, m_uI_R, m_uI_L, m_uI_I, m_uL_K, m_uL_N, m_uL_R, m_uL_I, m_uL_L, m_uR_K, m_uR_N, m_uR_I, m_uR_L, m_uR_R, true_and, and_true, true_implies, false_implies, not_true_eq_false, not_false_eq_true, if_true, if_false, false_and, and_false]
        cases hs : shF D t1.2.2.1 with
        | some s =>
          have hsl : s < (dSh D).length := by
            unfold shF at hs
            rw [List.findIdx?_eq_some_iff_getElem] at hs
            exact hs.1
          have hs1 : ¬ nI s = -1 := nI_m1 (by omega)
          rw [hs, if_pos (show (some s).isSome = true from rfl)] at hQ
          simp +decide only [qX2_readShip_0, qX2_readShip_1, lx L2, am_w1_i, am_w1_r, am_w1_x, am_w1_l, am_w1_w, va_rf_s, am_push_n, am_push_s, am_cs_0, am_cs_i, am_cs_l, am_cs_r, m_uI_K, m_uI_N, m_uI_R, m_uI_L, m_uI_I, m_uL_K, m_uL_N, m_uL_R, m_uL_I, m_uL_L, m_uR_K, m_uR_N, m_uR_I, m_uR_L, m_uR_R, true_and, and_true, true_implies, false_implies, not_true_eq_false, not_false_eq_true, if_true, if_false, false_and, and_false]
          rw [br_n hs1, show (2 : Int32) = nI 2 from rfl]
          refine c_x_refuse (d + 3) n 2 T (.inr t1) M2 _ L2 (by omega) h2 (fun M3 g3 h3 => ?_)
          obtain ⟨P3, p3⟩ := PsX_p hz hD p2 P2 g3
          have h9 := hQ M3 ⟨gF_trans (sRd_S G2) (sRd_S g3), Fa_of p3 P3 h3⟩
          simp +decide only [qX2_readShip_0, qX2_readShip_1, am_w1_i, am_w1_r, am_w1_x, am_w1_l, am_w1_w, va_rf_s, am_push_n, am_push_s, am_cs_0, am_cs_i, am_cs_l, am_cs_r, m_uI_K, m_uI_N, m_uI_R, m_uI_L, m_uI_I, m_uL_K, m_uL_N, m_uL_R, m_uL_I, m_uL_L, m_uR_K, m_uR_N, m_uR_I, m_uR_L, m_uR_R, true_and, and_true, true_implies, false_implies, not_true_eq_false, not_false_eq_true, if_true, if_false, false_and, and_false]
          exact h9
        | none =>
          rw [hs, if_neg (show ¬ (none : Option Nat).isSome = true by decide)] at hQ
          simp +decide only [qX2_readShip_0, qX2_readShip_1, lx L2, am_w1_i, am_w1_r, am_w1_x, am_w1_l, am_w1_w, va_rf_s, am_push_n, am_push_s, am_cs_0, am_cs_i, am_cs_l, am_cs_r, m_uI_K, m_uI_N, m_uI_R, m_uI_L, m_uI_I, m_uL_K, m_uL_N, m_uL_R, m_uL_I, m_uL_L, m_uR_K, m_uR_N, m_uR_I, m_uR_L, m_uR_R, true_and, and_true, true_implies, false_implies, not_true_eq_false, not_false_eq_true, if_true, if_false, false_and, and_false]
          refine c_x_stepR (d + 3) n T (.inr t1) M2 _ L2 h2 (fun M3 g3 h3 => ?_)
          have L3 := gF_LayN g3 L2
          obtain ⟨P3, p3⟩ := PsX_p hz hD p2 P2 g3
          have h3' : StR M3 T n (advR T n t1) := h3
          simp +decide only [qX2_readShip_0, qX2_readShip_1, lx L3, am_w1_i, am_w1_r, am_w1_x, am_w1_l, am_w1_w, va_rf_s, am_push_n, am_push_s, am_cs_0, am_cs_i, am_cs_l, am_cs_r, m_uI_K, m_uI_N, m_uI_R, m_uI_L, m_uI_I, m_uL_K, m_uL_N, m_uL_R, m_uL_I, m_uL_L, m_uR_K, m_uR_N, m_uR_I, m_uR_L, m_uR_R, true_and, and_true, true_implies, false_implies, not_true_eq_false, not_false_eq_true, if_true, if_false, false_and, and_false]
          rw [show (5 : Int32) = nI 5 from rfl, show (0 : Int32) = nI 0 from rfl, show (3 : Int32) = nI 3 from rfl]
          refine c_x_takeAfter d 5 0 3 _ M3 _ L3 (by omega) (by omega) (by omega) h3' (fun M4 g4 h4 => ?_)
          have L4 := gF_LayN g4 L3
          obtain ⟨P4, p4⟩ := PsX_p hz hD p3 P3 g4
          simp +decide only [qX2_readShip_0, qX2_readShip_1, lx L4, am_w1_i, am_w1_r, am_w1_x, am_w1_l, am_w1_w, va_rf_s, am_push_n, am_push_s, am_cs_0, am_cs_i, am_cs_l, am_cs_r, m_uI_K, m_uI_N, m_uI_R, m_uI_L, m_uI_I, m_uL_K, m_uL_N, m_uL_R, m_uL_I, m_uL_L, m_uR_K, m_uR_N, m_uR_I, m_uR_L, m_uR_R, true_and, and_true, true_implies, false_implies, not_true_eq_false, not_false_eq_true, if_true, if_false, false_and, and_false]
          rw [show (6 : Int32) = nI 6 from rfl, show (1 : Int32) = nI 1 from rfl, show (4 : Int32) = nI 4 from rfl]
          refine c_x_takeAfter d 6 1 4 _ M4 _ L4 (by omega) (by omega) (by omega) h4 (fun M5 g5 h5' => ?_)
          have L5 := gF_LayN g5 L4
          obtain ⟨P5, p5⟩ := PsX_p hz hD p4 P4 g5
          simp +decide only [qX2_readShip_0, qX2_readShip_1, lx L5, am_w1_i, am_w1_r, am_w1_x, am_w1_l, am_w1_w, va_rf_s, am_push_n, am_push_s, am_cs_0, am_cs_i, am_cs_l, am_cs_r, m_uI_K, m_uI_N, m_uI_R, m_uI_L, m_uI_I, m_uL_K, m_uL_N, m_uL_R, m_uL_I, m_uL_L, m_uR_K, m_uR_N, m_uR_I, m_uR_L, m_uR_R, true_and, and_true, true_implies, false_implies, not_true_eq_false, not_false_eq_true, if_true, if_false, false_and, and_false]
          rw [show (7 : Int32) = nI 7 from rfl, show (1 : Int32) = nI 1 from rfl, show (40 : Int32) = nI 40 from rfl]
          refine c_x_takeAfter d 7 1 40 _ M5 _ L5 (by omega) (by omega) (by omega) h5' (fun M6 g6 h6 => ?_)
          have L6 := gF_LayN g6 L5
          obtain ⟨P6, p6⟩ := PsX_p hz hD p5 P5 g6
          simp +decide only [qX2_readShip_0, qX2_readShip_1, lx L6, am_w1_i, am_w1_r, am_w1_x, am_w1_l, am_w1_w, va_rf_s, am_push_n, am_push_s, am_cs_0, am_cs_i, am_cs_l, am_cs_r, m_uI_K, m_uI_N, m_uI_R, m_uI_L, m_uI_I, m_uL_K, m_uL_N, m_uL_R, m_uL_I, m_uL_L, m_uR_K, m_uR_N, m_uR_I, m_uR_L, m_uR_R, true_and, and_true, true_implies, false_implies, not_true_eq_false, not_false_eq_true, if_true, if_false, false_and, and_false]
          rw [show (8 : Int32) = nI 8 from rfl, show (0 : Int32) = nI 0 from rfl, show (40 : Int32) = nI 40 from rfl]
          refine c_x_takeAfter d 8 0 40 _ M6 _ L6 (by omega) (by omega) (by omega) h6 (fun M7 g7 h7 => ?_)
          have L7 := gF_LayN g7 L6
          obtain ⟨P7, p7⟩ := PsX_p hz hD p6 P6 g7
          have G7 := gF_trans G2 (gF_trans g3 (gF_trans g4 (gF_trans g5 (gF_trans g6 g7))))
          have hf := f_0 h7
          cases hr : (aftR T n 8 0 40 (aftR T n 7 1 40 (aftR T n 6 1 4 (aftR T n 5 0 3 (advR T n t1)).1).1).1).1 with
          | inl e =>
            rw [hr] at h7 hQ
            have h9 := hQ M7 ⟨sRd_S G7, Fa_of p7 P7 h7⟩
            simp +decide only [qX2_readShip_0, qX2_readShip_1, lx L7, am_w1_i, am_w1_r, am_w1_x, am_w1_l, am_w1_w, va_rf_s, am_push_n, am_push_s, am_cs_0, am_cs_i, am_cs_l, am_cs_r, m_uI_K, m_uI_N, m_uI_R, m_uI_L, m_uI_I, m_uL_K, m_uL_N, m_uL_R, m_uL_I, m_uL_L, m_uR_K, m_uR_N, m_uR_I, m_uR_L, m_uR_R, true_and, and_true, true_implies, false_implies, not_true_eq_false, not_false_eq_true, if_true, if_false, false_and, and_false]
            rw [br_p (hf.1 e hr)]
            exact h9
          | inr t' =>
            have hv4 := numR_v hr
            obtain ⟨u3, hu3⟩ := aft_i hr
            have hv3 := numR_v hu3
            obtain ⟨u2, hu2⟩ := aft_i hu3
            have hv2 := numR_v hu2
            obtain ⟨u1, hu1⟩ := aft_i hu2
            have hv1 := numR_v hu1
            have haf : AfR T n t (.inr t') := by rw [← hr]; exact AfR_f _ _ _ (AfR_f _ _ _ (AfR_f _ _ _ (AfR_f _ _ _ (AfR_a haf2))))
            have hlt := AfR_lt (GdX_t hG) h0 haf
            have hok : shOK (t1.2.2.1, (aftR T n 5 0 3 (advR T n t1)).2, (aftR T n 6 1 4 (aftR T n 5 0 3 (advR T n t1)).1).2, (aftR T n 7 1 40 (aftR T n 6 1 4 (aftR T n 5 0 3 (advR T n t1)).1).1).2, (aftR T n 8 0 40 (aftR T n 7 1 40 (aftR T n 6 1 4 (aftR T n 5 0 3 (advR T n t1)).1).1).1).2) := ⟨hw.1, hw.2.2, hw.2.1, hv1.2, hv2.1, hv2.2, hv3.1, hv3.2, hv4.2⟩
            simp +decide only [qX2_readShip_0, qX2_readShip_1, lx L7, lz L7 hz, p7, hf.2 t' hr, am_w1_i, am_w1_r, am_w1_x, am_w1_l, am_w1_w, va_rf_s, am_push_n, am_push_s, am_cs_0, am_cs_i, am_cs_l, am_cs_r, m_uI_K, m_uI_N, m_uI_R, m_uI_L, m_uI_I, m_uL_K, m_uL_N, m_uL_R, m_uL_I, m_uL_L, m_uR_K, m_uR_N, m_uR_I, m_uR_L, m_uR_R, true_and, and_true, true_implies, false_implies, not_true_eq_false, not_false_eq_true, if_true, if_false, false_and, and_false]
            refine c_x_launch (d + 4) (dSh D).length _ _ _ _ _ M7 _ L7 hz (by omega) P7.1.2.2.2 (fun M8 g8 k3 k0 k1 k2 k3' k4 k5 k9 => ?_)
            have h8' := StR_g h7 g8 (fun a j q w => by unfold sLa at w; omega) (fun q => q)
            rw [hr] at h8' hQ
            simp +decide only [qX2_readShip_0, qX2_readShip_1, am_w1_i, am_w1_r, am_w1_x, am_w1_l, am_w1_w, va_rf_s, am_push_n, am_push_s, am_cs_0, am_cs_i, am_cs_l, am_cs_r, m_uI_K, m_uI_N, m_uI_R, m_uI_L, m_uI_I, m_uL_K, m_uL_N, m_uL_R, m_uL_I, m_uL_L, m_uR_K, m_uR_N, m_uR_I, m_uR_L, m_uR_R, true_and, and_true, true_implies, false_implies, not_true_eq_false, not_false_eq_true, if_true, if_false, false_and, and_false]
            have hY := fun s => dY_app (sp := (t1.2.2.1, (aftR T n 5 0 3 (advR T n t1)).2, (aftR T n 6 1 4 (aftR T n 5 0 3 (advR T n t1)).1).2, (aftR T n 7 1 40 (aftR T n 6 1 4 (aftR T n 5 0 3 (advR T n t1)).1).1).2, (aftR T n 8 0 40 (aftR T n 7 1 40 (aftR T n 6 1 4 (aftR T n 5 0 3 (advR T n t1)).1).1).1).2)) hD s
            refine hQ M8 ⟨gF_trans (sRd_S G7) (gF_up g8 (fun a j q => by unfold sLa at q; unfold sSea; omega) (fun _ _ q => q)), ⟨c, gF_LayN g8 L7, by rw [g8.2.2.1 _ _ (fun q => q)]; exact p7, h8', ?_, DOK_sh hD (by omega) hok, by show c ≤ tS t'; omega⟩, hlt⟩
            obtain ⟨⟨a1, a2, a3, a4⟩, b, s, ⟨r1, r2, r3⟩, f⟩ := P7
            refine ⟨⟨by rw [g8.1 _ _ (by unfold sLa; omega)]; exact a1, by rw [g8.1 _ _ (by unfold sLa; omega)]; exact a2, by rw [g8.1 _ _ (by unfold sLa; omega)]; exact a3, ?_⟩, fun s' sp hs' => ?_, SgX_g s g8 (fun a j q1 q2 w => by unfold sLa at w; omega), ⟨RlC_g r1 g8 (fun a j q1 q2 w => by unfold sLa at w; omega) (fun j hj w => by unfold sLa at w; omega), RlC_g r2 g8 (fun a j q1 q2 w => by unfold sLa at w; omega) (fun j hj w => by unfold sLa at w; omega), RlC_g r3 g8 (fun a j q1 q2 w => by unfold sLa at w; omega) (fun j hj w => by unfold sLa at w; omega)⟩, FmX_g f g8 (fun q => by unfold sLa at q; omega)⟩
            · rw [k3]
              show _ = nI (dSh D ++ [_]).length
              rw [List.length_append]; rfl
            · rw [hY s']
              by_cases e : s' < (dSh D).length
              · have hs'' : (dSh D)[s']? = some sp := by rw [← List.getElem?_append_left (l₂ := [_]) e]; exact hs'
                exact ShX_g (b s' sp hs'') g8 (fun a j q1 q2 w => by unfold sLa at w; omega)
              · have hl : s' < (dSh D ++ [(t1.2.2.1, (aftR T n 5 0 3 (advR T n t1)).2, (aftR T n 6 1 4 (aftR T n 5 0 3 (advR T n t1)).1).2, (aftR T n 7 1 40 (aftR T n 6 1 4 (aftR T n 5 0 3 (advR T n t1)).1).1).2, (aftR T n 8 0 40 (aftR T n 7 1 40 (aftR T n 6 1 4 (aftR T n 5 0 3 (advR T n t1)).1).1).1).2)]).length := (List.getElem?_eq_some_iff.mp hs').1
                have e2 : s' = (dSh D).length := by
                  rw [List.length_append] at hl
                  simp only [List.length_cons, List.length_nil] at hl
                  omega
                subst e2
                have hs'' : (dSh D ++ [(t1.2.2.1, (aftR T n 5 0 3 (advR T n t1)).2, (aftR T n 6 1 4 (aftR T n 5 0 3 (advR T n t1)).1).2, (aftR T n 7 1 40 (aftR T n 6 1 4 (aftR T n 5 0 3 (advR T n t1)).1).1).2, (aftR T n 8 0 40 (aftR T n 7 1 40 (aftR T n 6 1 4 (aftR T n 5 0 3 (advR T n t1)).1).1).1).2)])[(dSh D).length]? = some sp := hs'
                rw [List.getElem?_append_right (Nat.le_refl _), Nat.sub_self] at hs''
                cases hs''
                have hY0 : dY D (dSh D).length = [] := by
                  unfold dY
                  rw [List.getD_eq_getElem?_getD, List.getElem?_eq_none (by have := hD.2.2.1.2.1; omega)]; rfl
                have hB0 : bkOf (dBk D) (dSh D).length = [] := by
                  unfold bkOf
                  rw [List.map_eq_nil_iff, List.filter_eq_nil_iff]
                  intro k hk
                  have := hD.2.2.2.2.2.2.1.2 k hk
                  simp; omega
                rw [hY0]
                show ShX M8 _ _ [] (bkOf (dBk D) (dSh D).length)
                rw [hB0]
                exact ⟨⟨k0, k1, k2, k3', k4⟩, ⟨k5, Nat.zero_le _, fun i y hy => by cases hy⟩, ⟨k9, Nat.zero_le _, fun i y hy => by cases hy⟩⟩
  rw [eX2_readShip]
  simp +decide only [qX2_readShip_0, qX2_readShip_1, lx hL, lz hL hz, hp, hP.1.2.2.2, hn8, am_w1_i, am_w1_r, am_w1_x, am_w1_l, am_w1_w, va_rf_s, am_push_n, am_push_s, am_cs_0, am_cs_i, am_cs_l, am_cs_r, m_uI_K, m_uI_N, m_uI_R, m_uI_L, m_uI_I, m_uL_K, m_uL_N, m_uL_R, m_uL_I, m_uL_L, m_uR_K, m_uR_N, m_uR_I, m_uR_L, m_uR_R, true_and, and_true, true_implies, false_implies, not_true_eq_false, not_false_eq_true, if_true, if_false, false_and, and_false]
  by_cases cf : 8 ≤ (dSh D).length
  · rw [decide_eq_true cf] at main
    rw [br_n (by omega)]
    exact main
  · rw [decide_eq_false cf] at main
    rw [br_p (by omega)]
    exact main
end
end
section
/-! the class's parser: sayings, books -/
theorem hasF_Y {M : am_M} {g : Nat} {Y : List Sy} {v : Nat} (h : SyX M g Y) (hv : v < 2147483648) : hasF (fun i => mI M (g + 1) i) (nI v) Y.length = true ↔ ∃ y, y ∈ Y ∧ y.1 = v := by
  have key : ∀ k, k ≤ Y.length → (hasF (fun i => mI M (g + 1) i) (nI v) k = true ↔ ∃ i y, i < k ∧ Y[i]? = some y ∧ y.1 = v) := by
    intro k
    induction k with
    | zero => intro _; exact ⟨fun q => absurd q (show ¬ false = true by decide), fun ⟨i, y, q, _⟩ => absurd q (by omega)⟩
    | succ k ih =>
      intro hk
      have e : hasF (fun i => mI M (g + 1) i) (nI v) (k + 1) = (hasF (fun i => mI M (g + 1) i) (nI v) k || decide (mI M (g + 1) k = nI v)) := rfl
      obtain ⟨y, hy⟩ : ∃ y, Y[k]? = some y := ⟨Y[k]'(by omega), List.getElem?_eq_getElem (by omega)⟩
      obtain ⟨⟨y1, -⟩, y3, -⟩ := h.2.2 k y hy
      rw [e, Bool.or_eq_true, ih (by omega), decide_eq_true_iff, y3, ni_eq (by omega) hv]
      constructor
      · rintro (⟨i, u, q1, q2⟩ | q)
        · exact ⟨i, u, by omega, q2⟩
        · exact ⟨k, y, by omega, hy, q⟩
      · rintro ⟨i, u, q1, q2, q3⟩
        by_cases ei : i = k
        · subst ei; cases hy.symm.trans q2; exact Or.inr q3
        · exact Or.inl ⟨i, u, by omega, q2, q3⟩
  rw [key _ (Nat.le_refl _)]
  constructor
  · rintro ⟨i, y, -, q2, q3⟩; exact ⟨y, List.mem_of_getElem? q2, q3⟩
  · rintro ⟨y, q1, q2⟩
    obtain ⟨i, hi⟩ := List.mem_iff_getElem?.mp q1
    exact ⟨i, y, (List.getElem?_eq_some_iff.mp hi).1, hi, q2⟩
theorem sumF_one {f g : Nat → Nat} {s : Nat} (h1 : g s = f s + 1) (h2 : ∀ i, ¬ i = s → g i = f i) : ∀ N, sumF g N = sumF f N + (if s < N then 1 else 0) := by
  intro N
  induction N with
  | zero => rfl
  | succ N ih =>
    show sumF g N + g N = sumF f N + f N + _
    rw [ih]
    by_cases e : N = s
    · subst e; rw [h1, if_neg (by omega), if_pos (by omega)]; omega
    · rw [h2 N e]
      by_cases c : s < N
      · rw [if_pos c, if_pos (by omega)]; omega
      · rw [if_neg c, if_neg (by omega)]; omega
/-- one saying more -/
def addY (D : Dat) (s : Nat) (Y : List Sy) : Dat := (D.1, (dSh D, (dYs D).set s Y, dBk D, dSg D), D.2.2)
theorem dY_set {D : Dat} {s : Nat} {Y : List Sy} (hs : s < (dYs D).length) (s' : Nat) : dY (addY D s Y) s' = if s' = s then Y else dY D s' := by
  show ((dYs D).set s Y).getD s' [] = _
  unfold dY
  rw [List.getD_eq_getElem?_getD, List.getD_eq_getElem?_getD, List.getElem?_set]
  by_cases e : s = s'
  · rw [if_pos e, if_pos e.symm, if_pos hs]; rfl
  · rw [if_neg e, if_neg (fun q => e q.symm)]
theorem len_48 {Y : List Sy} (hs : srtY Y) (h : ∀ y, y ∈ Y → y.1 < 48) : Y.length ≤ 48 := by
  have := bef_len hs 48
  rw [bef_all h] at this
  exact this
theorem DOK_y {D : Dat} {s : Nat} {Y : List Sy} (hD : DOK D) (hs : s < (dSh D).length) (h1 : srtY Y) (h2 : ∀ y, y ∈ Y → y.1 < 48 ∧ vld (dC D) (dR D) y.2.1) (h3 : dTot (addY D s Y) ≤ 96) : DOK (addY D s Y) := by
  obtain ⟨d1, d2, ⟨e1, e2, e3⟩, d4, d5, d6, d7⟩ := id hD
  have hY := dY_set (D := D) (s := s) (Y := Y) (by omega)
  refine ⟨d1, d2, ⟨e1, by show ((dYs D).set s Y).length = _; rw [List.length_set]; exact e2, e3⟩, fun s' y hy => ?_, fun s' => ?_, h3, d7⟩
  · rw [hY] at hy
    by_cases e : s' = s
    · rw [if_pos e] at hy; exact h2 y hy
    · rw [if_neg e] at hy; exact d4 s' y hy
  · rw [hY]
    by_cases e : s' = s
    · rw [if_pos e]; exact h1
    · rw [if_neg e]; exact d5 s'
section
variable {T : Nat → Nat} {n z : Nat}
theorem sIn_R {s a j : Nat} (hz : z = 2 ∨ z = 83) (hs : s < 8) (h : a = 165 ∨ a = 1 ∨ a = 166) : ¬ sIn (z + 25 + 7 * s) a j := by unfold sIn; omega
theorem sEb_R {s a j : Nat} (hz : z = 2 ∨ z = 83) (hs : s < 8) (h : a = 165 ∨ a = 1 ∨ a = 166) : ¬ sEb (z + 25 + 7 * s) a j := by unfold sEb; omega
/-- the ship s of the sea is changed alone -/
theorem PsX_s {M M' : am_M} {D D' : Dat} {c s : Nat} {S : Nat → Nat → Prop} (hz : z = 2 ∨ z = 83) (hP : PsX M z D c) (hg : gF S nT M M') (hs : s < 8) (hS : ∀ a j, S a j → z + 25 + 7 * s ≤ a ∧ a ≤ z + 25 + 7 * s + 6) (e1 : D'.1 = D.1) (e2 : dSh D' = dSh D) (e3 : dSg D' = dSg D) (e4 : D'.2.2 = D.2.2) (hY : ∀ s', ¬ s' = s → dY D' s' = dY D s' ∧ bkOf (dBk D') s' = bkOf (dBk D) s') (hs2 : ∀ sp, (dSh D)[s]? = some sp → ShX M' (z + 25 + 7 * s) sp (dY D' s) (bkOf (dBk D') s)) : PsX M' z D' c := by
  obtain ⟨⟨a1, a2, a3, a4⟩, b, sg, ⟨r1, r2, r3⟩, f⟩ := hP
  have eC : dC D' = dC D := by unfold dC; rw [e1]
  have eR : dR D' = dR D := by unfold dR; rw [e1]
  have eL : dLk D' = dLk D := by unfold dLk; rw [e1]
  have ed : dRd D' = dRd D := by unfold dRd; rw [e4]
  have ec : dRc D' = dRc D := by unfold dRc; rw [e4]
  have eq : dRq D' = dRq D := by unfold dRq; rw [e4]
  have k : ∀ a j, ¬ (z + 25 + 7 * s ≤ a ∧ a ≤ z + 25 + 7 * s + 6) → ¬ S a j := fun a j q w => q (hS a j w)
  refine ⟨⟨by rw [eC, hg.1 _ _ (k _ _ (by omega))]; exact a1, by rw [eR, hg.1 _ _ (k _ _ (by omega))]; exact a2, by rw [eL, hg.1 _ _ (k _ _ (by omega))]; exact a3, by rw [e2, hg.1 _ _ (k _ _ (by omega))]; exact a4⟩, fun s' sp hs' => ?_, by rw [e3]; exact SgX_g sg hg (fun a j q1 q2 => k _ _ (by omega)), ⟨by rw [ed]; exact RlC_g r1 hg (fun a j q1 q2 => k _ _ (by omega)) (fun j hj => k _ _ (by omega)), by rw [ec]; exact RlC_g r2 hg (fun a j q1 q2 => k _ _ (by omega)) (fun j hj => k _ _ (by omega)), by rw [eq]; exact RlC_g r3 hg (fun a j q1 q2 => k _ _ (by omega)) (fun j hj => k _ _ (by omega))⟩, FmX_g f hg (k _ _ (by omega))⟩
  rw [e2] at hs'
  by_cases e : s' = s
  · subst e; exact hs2 sp hs'
  · rw [(hY s' e).1, (hY s' e).2]
    exact ShX_g (b s' sp hs') hg (fun a j q1 q2 => k _ _ (by omega))
theorem b_say (hz : z = 2 ∨ z = 83) (d c : Nat) (D : Dat) (t : Tok) (M : am_M) (Q : Option Value → am_M → Prop) (hG : GdX T n z M D c t) (hC : 1 ≤ dC D) (hRr : 1 ≤ dR D) (h0 : ¬ t.1 = 0) (hQ : ∀ M', EdX T n z t M M' (spSay T n D t) → Q none M') : am_E am_P0 (d + 5) 19 [.ref 164] M Q := by
  obtain ⟨hL, hp, hR, hP, hD, hc⟩ := id hG
  have hst : StR M T n (.inr t) := hR
  have hEn := (GdX_t hG).1
  have h96 := hD.2.2.2.2.2.1
  have h8 := hD.2.2.1.1
  have hn96 : nI (dTot D) < 96 ↔ dTot D < 96 := by rw [show (96 : Int32) = nI 96 from rfl, ni_lt (by omega) (by omega)]
  have main : am_E am_P0 (d + 4) 13 [.ref 164, .int (b01 (decide (96 ≤ dTot D)))] M (fun r M2 => am_P am_P0 (d + 5) (am_look tX2_readSaying) 21 [.ref 164, am_x, am_x, am_x, am_x] (am_push r []) M2 Q) := by
    refine c_x_oneMore (d + 2) _ t M _ hL hst (fun M1 g1 h1 => ?_)
    have L1 := gF_LayN g1 hL
    obtain ⟨P1, p1⟩ := PsX_p hz hD hp hP g1
    by_cases cf : 96 ≤ dTot D
    · rw [if_pos (decide_eq_true cf)] at h1
      have h9 := hQ M1 (by unfold spSay; rw [if_pos cf]; exact ⟨sRd_S g1, Fa_of p1 P1 h1⟩)
      simp +decide only [qX2_readSaying_0, qX2_readSaying_1, decide_eq_true cf, b01, Bool.not_true, am_w1_i, am_w1_r, am_w1_x, am_w1_l, am_w1_w, va_rf_s, am_push_n, am_push_s, am_cs_0, am_cs_i, am_cs_l, am_cs_r, m_uI_K, m_uI_N, m_uI_R, m_uI_L, m_uI_I, m_uL_K, m_uL_N, m_uL_R, m_uL_I, m_uL_L, m_uR_K, m_uR_N, m_uR_I, m_uR_L, m_uR_R, true_and, and_true, true_implies, false_implies, not_true_eq_false, not_false_eq_true, if_true, if_false, false_and, and_false]
      exact h9
    · rw [if_neg (by rw [decide_eq_false cf]; decide)] at h1
      unfold spSay at hQ
      rw [if_neg cf] at hQ
      have haf1 : AfR T n t (shpR T n D (advR T n t)).1 := AfR_h D (AfR_1 hEn)
      simp +decide only [qX2_readSaying_0, qX2_readSaying_1, lx L1, decide_eq_false cf, b01, Bool.not_false, am_w1_i, am_w1_r, am_w1_x, am_w1_l, am_w1_w, va_rf_s, am_push_n, am_push_s, am_cs_0, am_cs_i, am_cs_l, am_cs_r, m_uI_K, m_uI_N, m_uI_R, m_uI_L, m_uI_I, m_uL_K, m_uL_N, m_uL_R, m_uL_I, m_uL_L, m_uR_K, m_uR_N, m_uR_I, m_uR_L, m_uR_R, true_and, and_true, true_implies, false_implies, not_true_eq_false, not_false_eq_true, if_true, if_false, false_and, and_false]
      refine c_x_takeShip (d + 1) c D _ M1 _ L1 hz p1 P1 hD h1 (fun M2 e g2 he h2 => ?_) (fun M2 s g2 hsl hse h2 => ?_)
      · obtain ⟨P2, p2⟩ := PsX_p hz hD p1 P1 g2
        rw [he] at hQ
        have h9 := hQ M2 ⟨sRd_S (gF_trans g1 g2), Fa_of p2 P2 h2⟩
        simp +decide only [qX2_readSaying_0, qX2_readSaying_1, am_w1_i, am_w1_r, am_w1_x, am_w1_l, am_w1_w, va_rf_s, am_push_n, am_push_s, am_cs_0, am_cs_i, am_cs_l, am_cs_r, m_uI_K, m_uI_N, m_uI_R, m_uI_L, m_uI_I, m_uL_K, m_uL_N, m_uL_R, m_uL_I, m_uL_L, m_uR_K, m_uR_N, m_uR_I, m_uR_L, m_uR_R, true_and, and_true, true_implies, false_implies, not_true_eq_false, not_false_eq_true, if_true, if_false, false_and, and_false]
        exact h9
      · have L2 := gF_LayN g2 L1
        obtain ⟨P2, p2⟩ := PsX_p hz hD p1 P1 g2
        have G2 := gF_trans g1 g2
        have hs1 : ¬ nI s = -1 := nI_m1 (by omega)
        simp +decide only [qX2_readSaying_0, qX2_readSaying_1, lx L2, am_w1_i, am_w1_r, am_w1_x, am_w1_l, am_w1_w, va_rf_s, am_push_n, am_push_s, am_cs_0, am_cs_i, am_cs_l, am_cs_r, m_uI_K, m_uI_N, m_uI_R, m_uI_L, m_uI_I, m_uL_K, m_uL_N, m_uL_R, m_uL_I, m_uL_L, m_uR_K, m_uR_N, m_uR_I, m_uR_L, m_uR_R, true_and, and_true, true_implies, false_implies, not_true_eq_false, not_false_eq_true, if_true, if_false, false_and, and_false]
        rw [br_n hs1, show (0 : Int32) = nI 0 from rfl, show (47 : Int32) = nI 47 from rfl]
        refine c_x_isNumber (d + 2) n 0 47 T _ M2 _ L2 (by omega) (by omega) h2 (fun M3 g3 h3 => ?_)
        have L3 := gF_LayN g3 L2
        obtain ⟨P3, p3⟩ := PsX_p hz hD p2 P2 g3
        have G3 := gF_trans G2 g3
        rw [hse] at hQ
        cases hr1 : (shpR T n D (advR T n t)).1 with
        | inl e =>
          rw [hr1] at h3 hQ
          have h9 := hQ M3 ⟨sRd_S G3, Fa_of p3 P3 h3⟩
          have eb : (isNR 0 47 (.inl e)).2 = false := rfl
          simp +decide only [qX2_readSaying_0, qX2_readSaying_1, eb, b01, am_w1_i, am_w1_r, am_w1_x, am_w1_l, am_w1_w, va_rf_s, am_push_n, am_push_s, am_cs_0, am_cs_i, am_cs_l, am_cs_r, m_uI_K, m_uI_N, m_uI_R, m_uI_L, m_uI_I, m_uL_K, m_uL_N, m_uL_R, m_uL_I, m_uL_L, m_uR_K, m_uR_N, m_uR_I, m_uR_L, m_uR_R, true_and, and_true, true_implies, false_implies, not_true_eq_false, not_false_eq_true, if_true, if_false, false_and, and_false]
          exact h9
        | inr t1 =>
          rw [hr1] at h3 hQ haf1
          have en : isNR 0 47 (.inr t1) = if ¬ t1.1 = 2 then (.inl (1, tS t1), false) else if t1.2.1 < 0 ∨ 47 < t1.2.1 then (.inl (4, tS t1), false) else (.inr t1, true) := rfl
          by_cases cn : t1.1 = 2 ∧ t1.2.1 ≤ 47
          · rw [if_neg (by omega), if_neg (by omega)] at en
            rw [en] at h3 ⊢
            have hQ : ∀ M', EdX T n z t M M' (bR (isNR 0 47 (.inr t1)).1 (fun t2 => if dB (∃ y, y ∈ dY D s ∧ y.1 = t2.2.1) = true then .inl (3, tS t2) else (bR (aftR T n 11 0 1 (plcR T n (dC D) (dR D) (advR T n t2)).1).1 (fun t' => .inr (t', (D.1, (dSh D, (dYs D).set s (inY (dY D s) (t2.2.1, (plcR T n (dC D) (dR D) (advR T n t2)).2, (aftR T n 11 0 1 (plcR T n (dC D) (dR D) (advR T n t2)).1).2 == 1)), dBk D, dSg D), D.2.2)))))) → Q none M' := hQ
            rw [en] at hQ
            have hQ : ∀ M', EdX T n z t M M' (if dB (∃ y, y ∈ dY D s ∧ y.1 = t1.2.1) = true then .inl (3, tS t1) else (bR (aftR T n 11 0 1 (plcR T n (dC D) (dR D) (advR T n t1)).1).1 (fun t' => .inr (t', addY D s (inY (dY D s) (t1.2.1, (plcR T n (dC D) (dR D) (advR T n t1)).2, (aftR T n 11 0 1 (plcR T n (dC D) (dR D) (advR T n t1)).1).2 == 1)))))) → Q none M' := hQ
            have h3' : RdX M3 T n t1 := h3
            have h5 := h3'.2.2.2.2.2.2.2.1
            rw [if_neg (by omega)] at h5
            obtain ⟨sp, hsp⟩ : ∃ sp, (dSh D)[s]? = some sp := ⟨(dSh D)[s]'hsl, List.getElem?_eq_getElem hsl⟩
            have hSh := P3.2.1 s sp hsp
            have hr := lsh L3 hz (s := s) (by omega)
            have hg : isSh (z + 25 + 7 * s) := ⟨s, by omega, by omega⟩
            have hhs := fun Q => c_x_hasSaid (d + 4) (nI t1.2.1) M3 Q L3 (z + 25 + 7 * s) (dY D s).length hg hSh.2.1.1 hSh.2.1.2.1
            have hY := hasF_Y (v := t1.2.1) hSh.2.1 (by omega)
            simp +decide (disch := omega) only [qX2_readSaying_0, qX2_readSaying_1, lx L3, lz L3 hz, p3, h5, hr, (lw_ L3 hg).1, hhs, b01, ni_in_t, ni_tn, am_w1_i, am_w1_r, am_w1_x, am_w1_l, am_w1_w, va_rf_s, am_push_n, am_push_s, am_cs_0, am_cs_i, am_cs_l, am_cs_r, m_uI_K, m_uI_N, m_uI_R, m_uI_L, m_uI_I, m_uL_K, m_uL_N, m_uL_R, m_uL_I, m_uL_L, m_uR_K, m_uR_N, m_uR_I, m_uR_L, m_uR_R, true_and, and_true, true_implies, false_implies, not_true_eq_false, not_false_eq_true, if_true, if_false, false_and, and_false, true_or]
            by_cases cs : ∃ y, y ∈ dY D s ∧ y.1 = t1.2.1
            · rw [if_pos (dB_t.mpr cs)] at hQ
              rw [if_pos (hY.mpr cs), br_n (by decide), show (3 : Int32) = nI 3 from rfl]
              refine c_x_refuse (d + 3) n 3 T (.inr t1) M3 _ L3 (by omega) h3 (fun M4 g4 h4 => ?_)
              obtain ⟨P4, p4⟩ := PsX_p hz hD p3 P3 g4
              have h9 := hQ M4 ⟨sRd_S (gF_trans G3 g4), Fa_of p4 P4 h4⟩
              simp +decide only [qX2_readSaying_0, qX2_readSaying_1, am_w1_i, am_w1_r, am_w1_x, am_w1_l, am_w1_w, va_rf_s, am_push_n, am_push_s, am_cs_0, am_cs_i, am_cs_l, am_cs_r, m_uI_K, m_uI_N, m_uI_R, m_uI_L, m_uI_I, m_uL_K, m_uL_N, m_uL_R, m_uL_I, m_uL_L, m_uR_K, m_uR_N, m_uR_I, m_uR_L, m_uR_R, true_and, and_true, true_implies, false_implies, not_true_eq_false, not_false_eq_true, if_true, if_false, false_and, and_false]
              exact h9
            · rw [if_neg (fun q => cs (dB_t.mp q))] at hQ
              rw [if_neg (fun q => cs (hY.mp q)), br_p rfl]
              refine c_x_stepR (d + 3) n T (.inr t1) M3 _ L3 h3 (fun M4 g4 h4 => ?_)
              have L4 := gF_LayN g4 L3
              obtain ⟨P4, p4⟩ := PsX_p hz hD p3 P3 g4
              have h4' : StR M4 T n (advR T n t1) := h4
              simp +decide only [qX2_readSaying_0, qX2_readSaying_1, lx L4, am_w1_i, am_w1_r, am_w1_x, am_w1_l, am_w1_w, va_rf_s, am_push_n, am_push_s, am_cs_0, am_cs_i, am_cs_l, am_cs_r, m_uI_K, m_uI_N, m_uI_R, m_uI_L, m_uI_I, m_uL_K, m_uL_N, m_uL_R, m_uL_I, m_uL_L, m_uR_K, m_uR_N, m_uR_I, m_uR_L, m_uR_R, true_and, and_true, true_implies, false_implies, not_true_eq_false, not_false_eq_true, if_true, if_false, false_and, and_false]
              refine c_x_takePlace d c D _ M4 _ L4 hz p4 P4 hD hC hRr h4' (fun M5 g5 h5' => ?_)
              have L5 := gF_LayN g5 L4
              obtain ⟨P5, p5⟩ := PsX_p hz hD p4 P4 g5
              simp +decide only [qX2_readSaying_0, qX2_readSaying_1, lx L5, am_w1_i, am_w1_r, am_w1_x, am_w1_l, am_w1_w, va_rf_s, am_push_n, am_push_s, am_cs_0, am_cs_i, am_cs_l, am_cs_r, m_uI_K, m_uI_N, m_uI_R, m_uI_L, m_uI_I, m_uL_K, m_uL_N, m_uL_R, m_uL_I, m_uL_L, m_uR_K, m_uR_N, m_uR_I, m_uR_L, m_uR_R, true_and, and_true, true_implies, false_implies, not_true_eq_false, not_false_eq_true, if_true, if_false, false_and, and_false]
              rw [show (11 : Int32) = nI 11 from rfl, show (0 : Int32) = nI 0 from rfl, show (1 : Int32) = nI 1 from rfl]
              refine c_x_takeAfter d 11 0 1 _ M5 _ L5 (by omega) (by omega) (by omega) h5' (fun M6 g6 h6 => ?_)
              have L6 := gF_LayN g6 L5
              obtain ⟨P6, p6⟩ := PsX_p hz hD p5 P5 g6
              have G6 := gF_trans G3 (gF_trans g4 (gF_trans g5 g6))
              have hf := f_0 h6
              cases hr6 : (aftR T n 11 0 1 (plcR T n (dC D) (dR D) (advR T n t1)).1).1 with
              | inl e =>
                rw [hr6] at h6 hQ
                have h9 := hQ M6 ⟨sRd_S G6, Fa_of p6 P6 h6⟩
                simp +decide only [qX2_readSaying_0, qX2_readSaying_1, lx L6, am_w1_i, am_w1_r, am_w1_x, am_w1_l, am_w1_w, va_rf_s, am_push_n, am_push_s, am_cs_0, am_cs_i, am_cs_l, am_cs_r, m_uI_K, m_uI_N, m_uI_R, m_uI_L, m_uI_I, m_uL_K, m_uL_N, m_uL_R, m_uL_I, m_uL_L, m_uR_K, m_uR_N, m_uR_I, m_uR_L, m_uR_R, true_and, and_true, true_implies, false_implies, not_true_eq_false, not_false_eq_true, if_true, if_false, false_and, and_false]
                rw [br_p (hf.1 e hr6)]
                exact h9
              | inr t' =>
                have hv := numR_v hr6
                obtain ⟨t3, ht3⟩ := aft_i hr6
                have hpv := plR_v hD hC hRr ht3
                have haf : AfR T n t (.inr t') := by rw [← hr6]; exact AfR_f _ _ _ (AfR_p _ _ (AfR_a haf1))
                have hlt := AfR_lt (GdX_t hG) h0 haf
                have hSh6 := P6.2.1 s sp hsp
                have hr' := lsh L6 hz (s := s) (by omega)
                have hk16 : mK M6 (z + 25 + 7 * s) = 16 := (lw_ L6 hg).1
                obtain ⟨lv, hlv⟩ : ∃ lv, lv = (aftR T n 11 0 1 (plcR T n (dC D) (dR D) (advR T n t1)).1).2 := ⟨_, rfl⟩
                have hlv1 : lv ≤ 1 := by rw [hlv]; exact hv.2
                have hins : am_E am_P0 (d + 4) 66 [.ref (z + 25 + 7 * s), .int (nI t1.2.1), .int (nI (plcR T n (dC D) (dR D) (advR T n t1)).2), .int (b01 (lv == 1))] M6 (fun r M2 => am_P am_P0 (d + 5) (am_look tX2_readSaying) 139 [.ref 164, .int (nI s), .int (nI t1.2.1), .int (nI (plcR T n (dC D) (dR D) (advR T n t1)).2), .int (nI lv)] (am_push r []) M2 Q) := by
                  have hall := hD.2.2.2.1 s
                  have hno : ∀ y, y ∈ dY D s → ¬ y.1 = t1.2.1 := fun y hy q => cs ⟨y, hy, q⟩
                  have hsr := hD.2.2.2.2.1 s
                  have hin := inY_srt (y0 := (t1.2.1, (plcR T n (dC D) (dR D) (advR T n t1)).2, lv == 1)) hsr hno
                  have hin2 : ∀ y, y ∈ inY (dY D s) (t1.2.1, (plcR T n (dC D) (dR D) (advR T n t1)).2, lv == 1) → y.1 < 48 ∧ vld (dC D) (dR D) y.2.1 := fun y hy => by
                    rcases inY_mem.mp hy with rfl | q
                    · exact ⟨by show t1.2.1 < 48; omega, hpv.1⟩
                    · exact hall y q
                  have hl48 := len_48 hin (fun y hy => (hin2 y hy).1)
                  rw [inY_len] at hl48
                  refine c_x_insert (d + 4) (z + 25 + 7 * s) (dY D s) (t1.2.1, (plcR T n (dC D) (dR D) (advR T n t1)).2, lv == 1) M6 _ L6 hg hSh6.2.1 (by omega) (by show t1.2.1 < 48; omega) hpv.2 hsr hno (fun M7 g7 hS7 => ?_)
                  have hs8 : s < 8 := Nat.lt_of_lt_of_le hsl h8
                  have h7 := StR_g h6 g7 (fun a j q => sIn_R hz hs8 q) (fun q => q)
                  rw [hr6] at h7 hQ
                  have hyl : s < (dYs D).length := by have := hD.2.2.1.2.1; omega
                  have hYs := dY_set (D := D) (s := s) (Y := inY (dY D s) (t1.2.1, (plcR T n (dC D) (dR D) (advR T n t1)).2, lv == 1)) hyl
                  have hP7 : PsX M7 z (addY D s (inY (dY D s) (t1.2.1, (plcR T n (dC D) (dR D) (advR T n t1)).2, lv == 1))) c := by
                    have hSI : ∀ a j, sIn (z + 25 + 7 * s) a j → z + 25 + 7 * s ≤ a ∧ a ≤ z + 25 + 7 * s + 6 := fun a j q => by unfold sIn at q; omega
                    refine PsX_s hz P6 g7 (s := s) (by omega) hSI rfl rfl rfl rfl (fun s' hs' => ⟨by rw [hYs, if_neg hs'], rfl⟩) (fun sp' hsp' => ?_)
                    rw [hsp] at hsp'
                    cases hsp'
                    rw [hYs, if_pos rfl]
                    obtain ⟨⟨a1, a2, a3, a4, a5⟩, -, ⟨c1, c2, c3⟩⟩ := hSh6
                    have k : ∀ a j, ¬ sIn (z + 25 + 7 * s) a j → mI M7 a j = mI M6 a j := fun a j q => g7.1 a j q
                    refine ⟨⟨by rw [k _ _ (by unfold sIn; omega)]; exact a1, by rw [k _ _ (by unfold sIn; omega)]; exact a2, by rw [k _ _ (by unfold sIn; omega)]; exact a3, by rw [k _ _ (by unfold sIn; omega)]; exact a4, by rw [k _ _ (by unfold sIn; omega)]; exact a5⟩, hS7, ⟨by rw [k _ _ (by unfold sIn; omega)]; exact c1, c2, fun i f hf => ?_⟩⟩
                    obtain ⟨q1, q2, q3, q4⟩ := c3 i f hf
                    exact ⟨q1, by rw [k _ _ (by unfold sIn; omega)]; exact q2, by rw [k _ _ (by unfold sIn; omega)]; exact q3, by rw [k _ _ (by unfold sIn; omega)]; exact q4⟩
                  have htot : dTot (addY D s (inY (dY D s) (t1.2.1, (plcR T n (dC D) (dR D) (advR T n t1)).2, lv == 1))) ≤ 96 := by
                    have := sumF_one (f := fun i => (dY D i).length) (g := fun i => (dY (addY D s (inY (dY D s) (t1.2.1, (plcR T n (dC D) (dR D) (advR T n t1)).2, lv == 1))) i).length) (s := s) (by rw [hYs, if_pos rfl, inY_len]) (fun i hi => by rw [hYs, if_neg hi]) (dSh D).length
                    rw [if_pos hsl] at this
                    show sumF _ (dSh D).length ≤ 96
                    rw [this]
                    show dTot D + 1 ≤ 96
                    omega
                  rw [← hlv] at hQ
                  have h9 := hQ M7 ⟨gF_trans (sRd_S G6) (gF_up g7 (fun a j q => by unfold sIn at q; unfold sSea; omega) (fun _ _ q => q)), ⟨c, gF_LayN g7 L6, by rw [g7.2.2.1 _ _ (fun q => q)]; exact p6, h7, hP7, DOK_y hD hsl hin hin2 htot, by show c ≤ tS t'; omega⟩, hlt⟩
                  simp +decide only [qX2_readSaying_0, qX2_readSaying_1, am_w1_i, am_w1_r, am_w1_x, am_w1_l, am_w1_w, va_rf_s, am_push_n, am_push_s, am_cs_0, am_cs_i, am_cs_l, am_cs_r, m_uI_K, m_uI_N, m_uI_R, m_uI_L, m_uI_I, m_uL_K, m_uL_N, m_uL_R, m_uL_I, m_uL_L, m_uR_K, m_uR_N, m_uR_I, m_uR_L, m_uR_R, true_and, and_true, true_implies, false_implies, not_true_eq_false, not_false_eq_true, if_true, if_false, false_and, and_false]
                  exact h9
                rw [← hlv]
                simp +decide (disch := omega) only [qX2_readSaying_0, qX2_readSaying_1, lx L6, lz L6 hz, p6, hf.2 t' hr6, hr', hk16, ni_in_t, ni_tn, am_w1_i, am_w1_r, am_w1_x, am_w1_l, am_w1_w, va_rf_s, am_push_n, am_push_s, am_cs_0, am_cs_i, am_cs_l, am_cs_r, m_uI_K, m_uI_N, m_uI_R, m_uI_L, m_uI_I, m_uL_K, m_uL_N, m_uL_R, m_uL_I, m_uL_L, m_uR_K, m_uR_N, m_uR_I, m_uR_L, m_uR_R, true_and, and_true, true_implies, false_implies, not_true_eq_false, not_false_eq_true, if_true, if_false, false_and, and_false, true_or]
                by_cases cl : lv = 1
                · rw [cl] at hins ⊢
                  rw [br_r (show nI 1 = (1 : Int32) from rfl)]
                  simp +decide only [qX2_readSaying_0, qX2_readSaying_1, b01, am_w1_i, am_w1_r, am_w1_x, am_w1_l, am_w1_w, va_rf_s, am_push_n, am_push_s, am_cs_0, am_cs_i, am_cs_l, am_cs_r, m_uI_K, m_uI_N, m_uI_R, m_uI_L, m_uI_I, m_uL_K, m_uL_N, m_uL_R, m_uL_I, m_uL_L, m_uR_K, m_uR_N, m_uR_I, m_uR_L, m_uR_R, true_and, and_true, true_implies, false_implies, not_true_eq_false, not_false_eq_true, if_true, if_false, false_and, and_false] at hins ⊢
                  exact hins
                · have cl0 : lv = 0 := by omega
                  rw [cl0] at hins ⊢
                  rw [br_q (show ¬ nI 0 = (1 : Int32) by decide)]
                  simp +decide only [qX2_readSaying_0, qX2_readSaying_1, b01, am_w1_i, am_w1_r, am_w1_x, am_w1_l, am_w1_w, va_rf_s, am_push_n, am_push_s, am_cs_0, am_cs_i, am_cs_l, am_cs_r, m_uI_K, m_uI_N, m_uI_R, m_uI_L, m_uI_I, m_uL_K, m_uL_N, m_uL_R, m_uL_I, m_uL_L, m_uR_K, m_uR_N, m_uR_I, m_uR_L, m_uR_R, true_and, and_true, true_implies, false_implies, not_true_eq_false, not_false_eq_true, if_true, if_false, false_and, and_false] at hins ⊢
                  exact hins
          · have en2 : ∃ k, isNR 0 47 (.inr t1) = (.inl (k, tS t1), false) := by
              by_cases c2 : t1.1 = 2
              · exact ⟨4, by rw [en, if_neg (by omega), if_pos (by omega)]⟩
              · exact ⟨1, by rw [en, if_pos c2]⟩
            obtain ⟨k, hk⟩ := en2
            have hQ : ∀ M', EdX T n z t M M' (bR (isNR 0 47 (.inr t1)).1 (fun t2 => if dB (∃ y, y ∈ dY D s ∧ y.1 = t2.2.1) = true then .inl (3, tS t2) else (bR (aftR T n 11 0 1 (plcR T n (dC D) (dR D) (advR T n t2)).1).1 (fun t' => .inr (t', (D.1, (dSh D, (dYs D).set s (inY (dY D s) (t2.2.1, (plcR T n (dC D) (dR D) (advR T n t2)).2, (aftR T n 11 0 1 (plcR T n (dC D) (dR D) (advR T n t2)).1).2 == 1)), dBk D, dSg D), D.2.2)))))) → Q none M' := hQ
            rw [hk] at h3 hQ ⊢
            have h9 := hQ M3 ⟨sRd_S G3, Fa_of p3 P3 h3⟩
            simp +decide only [qX2_readSaying_0, qX2_readSaying_1, b01, am_w1_i, am_w1_r, am_w1_x, am_w1_l, am_w1_w, va_rf_s, am_push_n, am_push_s, am_cs_0, am_cs_i, am_cs_l, am_cs_r, m_uI_K, m_uI_N, m_uI_R, m_uI_L, m_uI_I, m_uL_K, m_uL_N, m_uL_R, m_uL_I, m_uL_L, m_uR_K, m_uR_N, m_uR_I, m_uR_L, m_uR_R, true_and, and_true, true_implies, false_implies, not_true_eq_false, not_false_eq_true, if_true, if_false, false_and, and_false]
            exact h9
  rw [eX2_readSaying]
  simp +decide only [qX2_readSaying_0, qX2_readSaying_1, lx hL, lz hL hz, hp, c_x_tot (d + 4) z c D M _ hL hz hP hD, hn96, am_w1_i, am_w1_r, am_w1_x, am_w1_l, am_w1_w, va_rf_s, am_push_n, am_push_s, am_cs_0, am_cs_i, am_cs_l, am_cs_r, m_uI_K, m_uI_N, m_uI_R, m_uI_L, m_uI_I, m_uL_K, m_uL_N, m_uL_R, m_uL_I, m_uL_L, m_uR_K, m_uR_N, m_uR_I, m_uR_L, m_uR_R, true_and, and_true, true_implies, false_implies, not_true_eq_false, not_false_eq_true, if_true, if_false, false_and, and_false]
  by_cases cf : 96 ≤ dTot D
  · rw [decide_eq_true cf] at main
    rw [br_n (by omega)]
    exact main
  · rw [decide_eq_false cf] at main
    rw [br_p (by omega)]
    exact main
end
end
section
/-! the class's parser: books, rules -/
def addB (D : Dat) (k : Bk) : Dat := (D.1, (dSh D, dYs D, dBk D ++ [k], dSg D), D.2.2)
theorem bkOf_app (L : List Bk) (k : Bk) (s : Nat) : bkOf (L ++ [k]) s = if s = k.1 then bkOf L s ++ [k.2] else bkOf L s := by
  unfold bkOf
  rw [List.filter_append, List.map_append]
  by_cases e : s = k.1
  · rw [if_pos e, List.filter_cons_of_pos (by simp [e])]; rfl
  · rw [if_neg e, List.filter_cons_of_neg (by simp; exact fun q => e q.symm)]
    show _ ++ [] = _
    rw [List.append_nil]
theorem DOK_b {D : Dat} {k : Bk} (hD : DOK D) (hl : (dBk D).length < 12) (h1 : k.1 < (dSh D).length) (h2 : vld (dC D) (dR D) k.2.1 ∧ k.2.2.1 ≤ k.2.2.2 ∧ k.2.2.2 < 48) : DOK (addB D k) := by
  obtain ⟨d1, d2, ⟨e1, e2, e3⟩, d4, d5, d6, ⟨⟨b1, b2⟩, b3⟩, d8⟩ := id hD
  refine ⟨d1, d2, ⟨e1, e2, e3⟩, d4, d5, d6, ⟨⟨?_, fun q hq => ?_⟩, fun q hq => ?_⟩, d8⟩
  · show (dBk D ++ [k]).length ≤ 12
    rw [List.length_append]; show (dBk D).length + 1 ≤ 12; omega
  · rcases List.mem_append.mp hq with w | w
    · exact b2 q w
    · rw [List.mem_singleton.mp w]; exact ⟨by omega, h2⟩
  · rcases List.mem_append.mp hq with w | w
    · exact b3 q w
    · rw [List.mem_singleton.mp w]; exact h1
section
variable {T : Nat → Nat} {n z : Nat}
theorem shp_i {D : Dat} {r : Rt} {t : Tok} (h : (shpR T n D r).1 = .inr t) : (shpR T n D r).2 < (dSh D).length := by
  unfold shpR at h ⊢
  cases hm : (nameR r).1 with
  | inl e => rw [hm] at h; cases h
  | inr t1 =>
    rw [hm] at h
    dsimp only at h ⊢
    cases hs : shF D t1.2.2.1 with
    | none => rw [hs] at h; cases h
    | some s =>
      dsimp only
      unfold shF at hs
      rw [List.findIdx?_eq_some_iff_getElem] at hs
      exact hs.1
theorem aftR_le {w lo hi : Nat} (hl : lo ≤ hi) (r : Rt) : (aftR T n w lo hi r).2 ≤ hi := by
  unfold aftR
  cases wordR T n w r with
  | inl e => exact hl
  | inr t0 =>
    have em : numR T n lo hi (.inr t0) = if ¬ t0.1 = 2 then (.inl (1, tS t0), lo) else if t0.2.1 < lo ∨ hi < t0.2.1 then (.inl (4, tS t0), lo) else (advR T n t0, t0.2.1) := rfl
    rw [em]
    split
    · exact hl
    · split
      · exact hl
      · show t0.2.1 ≤ hi; omega
theorem b_book (hz : z = 2 ∨ z = 83) (d c : Nat) (D : Dat) (t : Tok) (M : am_M) (Q : Option Value → am_M → Prop) (hG : GdX T n z M D c t) (hC : 1 ≤ dC D) (hRr : 1 ≤ dR D) (h0 : ¬ t.1 = 0) (hQ : ∀ M', EdX T n z t M M' (spBook T n D t) → Q none M') : am_E am_P0 (d + 5) 20 [.ref 164] M Q := by
  obtain ⟨hL, hp, hR, hP, hD, hc⟩ := id hG
  have hst : StR M T n (.inr t) := hR
  have hEn := (GdX_t hG).1
  have h12 := hD.2.2.2.2.2.2.1.1.1
  have h8 := hD.2.2.1.1
  have hn12 : nI (dBk D).length < 12 ↔ (dBk D).length < 12 := by rw [show (12 : Int32) = nI 12 from rfl, ni_lt (by omega) (by omega)]
  have main : am_E am_P0 (d + 4) 13 [.ref 164, .int (b01 (decide (12 ≤ (dBk D).length)))] M (fun r M2 => am_P am_P0 (d + 5) (am_look tX2_readBook) 21 [.ref 164, am_x, am_x, am_x, am_x] (am_push r []) M2 Q) := by
    refine c_x_oneMore (d + 2) _ t M _ hL hst (fun M1 g1 h1 => ?_)
    have L1 := gF_LayN g1 hL
    obtain ⟨P1, p1⟩ := PsX_p hz hD hp hP g1
    by_cases cf : 12 ≤ (dBk D).length
    · rw [if_pos (decide_eq_true cf)] at h1
      have h9 := hQ M1 (by unfold spBook; rw [if_pos cf]; exact ⟨sRd_S g1, Fa_of p1 P1 h1⟩)
      simp +decide only [qX2_readBook_0, qX2_readBook_1, decide_eq_true cf, b01, Bool.not_true, am_w1_i, am_w1_r, am_w1_x, am_w1_l, am_w1_w, va_rf_s, am_push_n, am_push_s, am_cs_0, am_cs_i, am_cs_l, am_cs_r, m_uI_K, m_uI_N, m_uI_R, m_uI_L, m_uI_I, m_uL_K, m_uL_N, m_uL_R, m_uL_I, m_uL_L, m_uR_K, m_uR_N, m_uR_I, m_uR_L, m_uR_R, true_and, and_true, true_implies, false_implies, not_true_eq_false, not_false_eq_true, if_true, if_false, false_and, and_false]
      exact h9
    · rw [if_neg (by rw [decide_eq_false cf]; decide)] at h1
      unfold spBook at hQ
      rw [if_neg cf] at hQ
      simp +decide only [qX2_readBook_0, qX2_readBook_1, lx L1, decide_eq_false cf, b01, Bool.not_false, am_w1_i, am_w1_r, am_w1_x, am_w1_l, am_w1_w, va_rf_s, am_push_n, am_push_s, am_cs_0, am_cs_i, am_cs_l, am_cs_r, m_uI_K, m_uI_N, m_uI_R, m_uI_L, m_uI_I, m_uL_K, m_uL_N, m_uL_R, m_uL_I, m_uL_L, m_uR_K, m_uR_N, m_uR_I, m_uR_L, m_uR_R, true_and, and_true, true_implies, false_implies, not_true_eq_false, not_false_eq_true, if_true, if_false, false_and, and_false]
      -- behind the ship
      have rest : ∀ (x : Int32) (M2 : am_M), gF sRd nT M M2 → StR M2 T n (shpR T n D (advR T n t)).1 → (∀ t', (shpR T n D (advR T n t)).1 = .inr t' → x = nI (shpR T n D (advR T n t)).2) → am_P am_P0 (d + 5) (am_look tX2_readBook) 29 [.ref 164, am_x, am_x, am_x, am_x] [.int x] M2 Q := by
        intro x M2 G2 h2 hx
        have L2 := gF_LayN G2 hL
        obtain ⟨P2, p2⟩ := PsX_p hz hD hp hP G2
        simp +decide only [qX2_readBook_0, qX2_readBook_1, lx L2, am_w1_i, am_w1_r, am_w1_x, am_w1_l, am_w1_w, va_rf_s, am_push_n, am_push_s, am_cs_0, am_cs_i, am_cs_l, am_cs_r, m_uI_K, m_uI_N, m_uI_R, m_uI_L, m_uI_I, m_uL_K, m_uL_N, m_uL_R, m_uL_I, m_uL_L, m_uR_K, m_uR_N, m_uR_I, m_uR_L, m_uR_R, true_and, and_true, true_implies, false_implies, not_true_eq_false, not_false_eq_true, if_true, if_false, false_and, and_false]
        refine c_x_takePlace d c D _ M2 _ L2 hz p2 P2 hD hC hRr h2 (fun M3 g3 h3 => ?_)
        have L3 := gF_LayN g3 L2
        obtain ⟨P3, p3⟩ := PsX_p hz hD p2 P2 g3
        simp +decide only [qX2_readBook_0, qX2_readBook_1, lx L3, am_w1_i, am_w1_r, am_w1_x, am_w1_l, am_w1_w, va_rf_s, am_push_n, am_push_s, am_cs_0, am_cs_i, am_cs_l, am_cs_r, m_uI_K, m_uI_N, m_uI_R, m_uI_L, m_uI_I, m_uL_K, m_uL_N, m_uL_R, m_uL_I, m_uL_L, m_uR_K, m_uR_N, m_uR_I, m_uR_L, m_uR_R, true_and, and_true, true_implies, false_implies, not_true_eq_false, not_false_eq_true, if_true, if_false, false_and, and_false]
        rw [show (13 : Int32) = nI 13 from rfl, show (0 : Int32) = nI 0 from rfl, show (47 : Int32) = nI 47 from rfl]
        refine c_x_takeAfter d 13 0 47 _ M3 _ L3 (by omega) (by omega) (by omega) h3 (fun M4 g4 h4 => ?_)
        have L4 := gF_LayN g4 L3
        obtain ⟨P4, p4⟩ := PsX_p hz hD p3 P3 g4
        have hfr := aftR_le (T := T) (n := n) (w := 13) (lo := 0) (hi := 47) (by omega) (plcR T n (dC D) (dR D) (shpR T n D (advR T n t)).1).1
        simp +decide only [qX2_readBook_0, qX2_readBook_1, lx L4, am_w1_i, am_w1_r, am_w1_x, am_w1_l, am_w1_w, va_rf_s, am_push_n, am_push_s, am_cs_0, am_cs_i, am_cs_l, am_cs_r, m_uI_K, m_uI_N, m_uI_R, m_uI_L, m_uI_I, m_uL_K, m_uL_N, m_uL_R, m_uL_I, m_uL_L, m_uR_K, m_uR_N, m_uR_I, m_uR_L, m_uR_R, true_and, and_true, true_implies, false_implies, not_true_eq_false, not_false_eq_true, if_true, if_false, false_and, and_false]
        rw [show (14 : Int32) = nI 14 from rfl, show (47 : Int32) = nI 47 from rfl]
        refine c_x_takeAfter d 14 _ 47 _ M4 _ L4 (by omega) (by omega) (by omega) h4 (fun M5 g5 h5 => ?_)
        have L5 := gF_LayN g5 L4
        obtain ⟨P5, p5⟩ := PsX_p hz hD p4 P4 g5
        have G5 := gF_trans G2 (gF_trans g3 (gF_trans g4 g5))
        have hf := f_0 h5
        cases hr : (aftR T n 14 (aftR T n 13 0 47 (plcR T n (dC D) (dR D) (shpR T n D (advR T n t)).1).1).2 47 (aftR T n 13 0 47 (plcR T n (dC D) (dR D) (shpR T n D (advR T n t)).1).1).1).1 with
        | inl e =>
          rw [hr] at h5 hQ
          have h9 := hQ M5 ⟨sRd_S G5, Fa_of p5 P5 h5⟩
          simp +decide only [qX2_readBook_0, qX2_readBook_1, lx L5, am_w1_i, am_w1_r, am_w1_x, am_w1_l, am_w1_w, va_rf_s, am_push_n, am_push_s, am_cs_0, am_cs_i, am_cs_l, am_cs_r, m_uI_K, m_uI_N, m_uI_R, m_uI_L, m_uI_I, m_uL_K, m_uL_N, m_uL_R, m_uL_I, m_uL_L, m_uR_K, m_uR_N, m_uR_I, m_uR_L, m_uR_R, true_and, and_true, true_implies, false_implies, not_true_eq_false, not_false_eq_true, if_true, if_false, false_and, and_false]
          rw [br_p (hf.1 e hr)]
          exact h9
        | inr t' =>
          have hv := numR_v hr
          obtain ⟨u2, hu2⟩ := aft_i hr
          have hv2 := numR_v hu2
          obtain ⟨u1, hu1⟩ := aft_i hu2
          have hpv := plR_v hD hC hRr hu1
          obtain ⟨u0, hu0⟩ := plR_i hu1
          have hsl := shp_i hu0
          have hx' := hx u0 hu0
          have haf : AfR T n t (.inr t') := by rw [← hr]; exact AfR_f _ _ _ (AfR_f _ _ _ (AfR_p _ _ (AfR_h D (AfR_1 hEn))))
          have hlt := AfR_lt (GdX_t hG) h0 haf
          obtain ⟨s, hse⟩ : ∃ s, s = (shpR T n D (advR T n t)).2 := ⟨_, rfl⟩
          obtain ⟨fr, hfre⟩ : ∃ fr, fr = (aftR T n 13 0 47 (plcR T n (dC D) (dR D) (shpR T n D (advR T n t)).1).1).2 := ⟨_, rfl⟩
          obtain ⟨to, htoe⟩ : ∃ to, to = (aftR T n 14 (aftR T n 13 0 47 (plcR T n (dC D) (dR D) (shpR T n D (advR T n t)).1).1).2 47 (aftR T n 13 0 47 (plcR T n (dC D) (dR D) (shpR T n D (advR T n t)).1).1).1).2 := ⟨_, rfl⟩
          obtain ⟨pl, hple⟩ : ∃ pl, pl = (plcR T n (dC D) (dR D) (shpR T n D (advR T n t)).1).2 := ⟨_, rfl⟩
          have hv' : fr ≤ to ∧ to ≤ 47 := by rw [hfre, htoe]; exact hv
          have hQ : ∀ M', EdX T n z t M M' (bR (.inr t') (fun t' => .inr (t', addB D (s, pl, fr, to)))) → Q none M' := by
            rw [hse, hfre, htoe, hple, ← hr]
            exact hQ
          rw [← hse] at hsl hx'
          rw [← hple] at hpv
          have hs8 : s < 8 := by omega
          obtain ⟨sp, hsp⟩ : ∃ sp, (dSh D)[s]? = some sp := ⟨(dSh D)[s]'hsl, List.getElem?_eq_getElem hsl⟩
          have hSh := P5.2.1 s sp hsp
          have hrr := lsh L5 hz (s := s) hs8
          have hg : isSh (z + 25 + 7 * s) := ⟨s, hs8, by omega⟩
          have hk16 : mK M5 (z + 25 + 7 * s) = 16 := (lw_ L5 hg).1
          have hs1 : ¬ nI s = -1 := nI_m1 (by omega)
          have hbl : (bkOf (dBk D) s).length ≤ (dBk D).length := by unfold bkOf; rw [List.length_map]; exact List.length_filter_le _ _
          rw [hr] at h5
          rw [hx', ← htoe, ← hfre, ← hple]
          simp +decide (disch := omega) only [qX2_readBook_0, qX2_readBook_1, lx L5, lz L5 hz, p5, hf.2 t' hr, hrr, hk16, ni_in_t, ni_tn, am_w1_i, am_w1_r, am_w1_x, am_w1_l, am_w1_w, va_rf_s, am_push_n, am_push_s, am_cs_0, am_cs_i, am_cs_l, am_cs_r, m_uI_K, m_uI_N, m_uI_R, m_uI_L, m_uI_I, m_uL_K, m_uL_N, m_uL_R, m_uL_I, m_uL_L, m_uR_K, m_uR_N, m_uR_I, m_uR_L, m_uR_R, true_and, and_true, true_implies, false_implies, not_true_eq_false, not_false_eq_true, if_true, if_false, false_and, and_false, true_or]
          rw [br_n hs1]
          refine c_x_enterBook (d + 4) (z + 25 + 7 * s) (bkOf (dBk D) s) (pl, fr, to) M5 _ L5 hg hSh.2.2 (by omega) ⟨hpv.2, hv'.1, by show to < 48; omega⟩ (fun M6 g6 hB6 => ?_)
          have h6 := StR_g h5 g6 (fun a j q => sEb_R hz hs8 q) (fun q => q)
          have hSI : ∀ a j, sEb (z + 25 + 7 * s) a j → z + 25 + 7 * s ≤ a ∧ a ≤ z + 25 + 7 * s + 6 := fun a j q => by unfold sEb at q; omega
          have hP6 : PsX M6 z (addB D (s, pl, fr, to)) c := by
            refine PsX_s hz P5 g6 (s := s) hs8 hSI rfl rfl rfl rfl (fun s' hs' => ⟨rfl, by show bkOf (dBk D ++ [_]) s' = _; rw [bkOf_app, if_neg hs']⟩) (fun sp' hsp' => ?_)
            rw [hsp] at hsp'
            cases hsp'
            show ShX M6 _ sp (dY D s) (bkOf (dBk D ++ [_]) s)
            rw [bkOf_app, if_pos rfl]
            obtain ⟨⟨a1, a2, a3, a4, a5⟩, ⟨c1, c2, c3⟩, -⟩ := hSh
            have k : ∀ a j, ¬ sEb (z + 25 + 7 * s) a j → mI M6 a j = mI M5 a j := fun a j q => g6.1 a j q
            refine ⟨⟨by rw [k _ _ (by unfold sEb; omega)]; exact a1, by rw [k _ _ (by unfold sEb; omega)]; exact a2, by rw [k _ _ (by unfold sEb; omega)]; exact a3, by rw [k _ _ (by unfold sEb; omega)]; exact a4, by rw [k _ _ (by unfold sEb; omega)]; exact a5⟩, ⟨by rw [k _ _ (by unfold sEb; omega)]; exact c1, c2, fun i f hf => ?_⟩, hB6⟩
            obtain ⟨q1, q2, q3, q4⟩ := c3 i f hf
            exact ⟨q1, by rw [k _ _ (by unfold sEb; omega)]; exact q2, by rw [k _ _ (by unfold sEb; omega)]; exact q3, by rw [k _ _ (by unfold sEb; omega)]; exact q4⟩
          have h9 := hQ M6 ⟨gF_trans (sRd_S G5) (gF_up g6 (fun a j q => by have := hSI a j q; unfold sSea; omega) (fun _ _ q => q)), ⟨c, gF_LayN g6 L5, by rw [g6.2.2.1 _ _ (fun q => q)]; exact p5, h6, hP6, DOK_b hD (by omega) hsl ⟨hpv.1, hv'.1, by show to < 48; omega⟩, by show c ≤ tS t'; omega⟩, hlt⟩
          simp +decide only [qX2_readBook_0, qX2_readBook_1, am_w1_i, am_w1_r, am_w1_x, am_w1_l, am_w1_w, va_rf_s, am_push_n, am_push_s, am_cs_0, am_cs_i, am_cs_l, am_cs_r, m_uI_K, m_uI_N, m_uI_R, m_uI_L, m_uI_I, m_uL_K, m_uL_N, m_uL_R, m_uL_I, m_uL_L, m_uR_K, m_uR_N, m_uR_I, m_uR_L, m_uR_R, true_and, and_true, true_implies, false_implies, not_true_eq_false, not_false_eq_true, if_true, if_false, false_and, and_false]
          exact h9
      refine c_x_takeShip (d + 1) c D _ M1 _ L1 hz p1 P1 hD h1 (fun M2 e g2 he h2 => ?_) (fun M2 s g2 hsl hse h2 => ?_)
      · have h9 := rest (-1) M2 (gF_trans g1 g2) (by rw [he]; exact h2) (fun t' ht' => by rw [he] at ht'; cases ht')
        simp +decide only [qX2_readBook_0, qX2_readBook_1, lx (gF_LayN g2 L1), am_w1_i, am_w1_r, am_w1_x, am_w1_l, am_w1_w, va_rf_s, am_push_n, am_push_s, am_cs_0, am_cs_i, am_cs_l, am_cs_r, m_uI_K, m_uI_N, m_uI_R, m_uI_L, m_uI_I, m_uL_K, m_uL_N, m_uL_R, m_uL_I, m_uL_L, m_uR_K, m_uR_N, m_uR_I, m_uR_L, m_uR_R, true_and, and_true, true_implies, false_implies, not_true_eq_false, not_false_eq_true, if_true, if_false, false_and, and_false] at h9 ⊢
        exact h9
      · have h9 := rest (nI s) M2 (gF_trans g1 g2) h2 (fun t' ht' => by rw [hse])
        simp +decide only [qX2_readBook_0, qX2_readBook_1, lx (gF_LayN g2 L1), am_w1_i, am_w1_r, am_w1_x, am_w1_l, am_w1_w, va_rf_s, am_push_n, am_push_s, am_cs_0, am_cs_i, am_cs_l, am_cs_r, m_uI_K, m_uI_N, m_uI_R, m_uI_L, m_uI_I, m_uL_K, m_uL_N, m_uL_R, m_uL_I, m_uL_L, m_uR_K, m_uR_N, m_uR_I, m_uR_L, m_uR_R, true_and, and_true, true_implies, false_implies, not_true_eq_false, not_false_eq_true, if_true, if_false, false_and, and_false] at h9 ⊢
        exact h9
  rw [eX2_readBook]
  simp +decide only [qX2_readBook_0, qX2_readBook_1, lx hL, lz hL hz, hp, c_x_countBooks (d + 4) z c D M _ hL hz hP hD, hn12, am_w1_i, am_w1_r, am_w1_x, am_w1_l, am_w1_w, va_rf_s, am_push_n, am_push_s, am_cs_0, am_cs_i, am_cs_l, am_cs_r, m_uI_K, m_uI_N, m_uI_R, m_uI_L, m_uI_I, m_uL_K, m_uL_N, m_uL_R, m_uL_I, m_uL_L, m_uR_K, m_uR_N, m_uR_I, m_uR_L, m_uR_R, true_and, and_true, true_implies, false_implies, not_true_eq_false, not_false_eq_true, if_true, if_false, false_and, and_false]
  by_cases cf : 12 ≤ (dBk D).length
  · rw [decide_eq_true cf] at main
    rw [br_n (by omega)]
    exact main
  · rw [decide_eq_false cf] at main
    rw [br_p (by omega)]
    exact main
end
end
section
/-! the class's parser: rules -/
def isRq (z q N : Nat) : Prop := (q = z + 9 ∧ N = 12) ∨ (q = z + 13 ∧ N = 12) ∨ (q = z + 17 ∧ N = 6)
section
variable {T : Nat → Nat} {n z : Nat}
theorem lq_ {M : am_M} {q N : Nat} (hL : Lay M) (hz : z = 2 ∨ z = 83) (hq : isRq z q N) : mK M q = 14 ∧ mK M (q + 1) = 0 ∧ mN M (q + 1) = N ∧ mK M (q + 2) = 0 ∧ mN M (q + 2) = N ∧ mK M (q + 3) = 0 ∧ mN M (q + 3) = N ∧ mR M q 1 = some (q + 1) ∧ mR M q 2 = some (q + 2) ∧ mR M q 3 = some (q + 3) := by
  rcases hq with ⟨rfl, rfl⟩ | ⟨rfl, rfl⟩ | ⟨rfl, rfl⟩ <;> simp only [lz hL hz, Nat.add_assoc, and_self]
theorem c_x_isFull (d q N len : Nat) (M : am_M) (Q : Option Value → am_M → Prop) (hL : Lay M) (hz : z = 2 ∨ z = 83) (hq : isRq z q N) (h0 : mI M q 0 = nI len) (hl : len ≤ 12) : am_E am_P0 d 47 [.ref q] M Q ↔ Q (some (.int (b01 (decide (N ≤ len))))) M := by
  have hN : N = 12 ∨ N = 6 := by unfold isRq at hq; omega
  have hlt : nI len < Int32.ofNat N ↔ len < N := ni_lt (by omega) (by omega)
  rw [eX4_isFull]
  simp +decide only [qX4_isFull, lq_ hL hz hq, h0, am_w1_i, am_w1_r, am_w1_x, am_w1_l, am_w1_w, va_rf_s, am_push_n, am_push_s, am_cs_0, am_cs_i, am_cs_l, am_cs_r, m_uI_K, m_uI_N, m_uI_R, m_uI_L, m_uI_I, m_uL_K, m_uL_N, m_uL_R, m_uL_I, m_uL_L, m_uR_K, m_uR_N, m_uR_I, m_uR_L, m_uR_R, true_and, and_true, true_implies, false_implies, not_true_eq_false, not_false_eq_true, if_true, if_false, false_and, and_false]
  by_cases c : N ≤ len
  · rw [br_n (fun w => by have := hlt.mp w; omega), decide_eq_true c]; exact Iff.rfl
  · rw [br_p (hlt.mpr (by omega)), decide_eq_false c]; exact Iff.rfl
theorem c_x_appendR (d q N len : Nat) (x1 x2 x3 : Int32) (M : am_M) (Q : Option Value → am_M → Prop) (hL : Lay M) (hz : z = 2 ∨ z = 83) (hq : isRq z q N) (h0 : mI M q 0 = nI len) (hl : len < N) : am_E am_P0 (d + 1) 48 [.ref q, .int x1, .int x2, .int x3] M Q ↔ Q none (uI (uI (uI (uI M (q + 1) len x1) (q + 2) len x2) (q + 3) len x3) q 0 (nI (len + 1))) := by
  have hN : N = 12 ∨ N = 6 := by unfold isRq at hq; omega
  have hf := fun Q => c_x_isFull (z := z) d q N len M Q hL hz hq h0 (by omega)
  rw [decide_eq_false (by omega)] at hf
  have n1 : ¬ (q = q + 1) := by omega
  have n2 : ¬ (q = q + 2) := by omega
  have n3 : ¬ (q = q + 3) := by omega
  rw [eX4_append]
  simp +decide (disch := omega) only [qX4_append, lq_ hL hz hq, h0, hf, n1, n2, n3, Nat.add_left_cancel_iff, b01, ni_in_t, ni_tn, ni_add1, am_w1_i, am_w1_r, am_w1_x, am_w1_l, am_w1_w, va_rf_s, am_push_n, am_push_s, am_cs_0, am_cs_i, am_cs_l, am_cs_r, m_uI_K, m_uI_N, m_uI_R, m_uI_L, m_uI_I, m_uL_K, m_uL_N, m_uL_R, m_uL_I, m_uL_L, m_uR_K, m_uR_N, m_uR_I, m_uR_L, m_uR_R, true_and, and_true, true_implies, false_implies, not_true_eq_false, not_false_eq_true, if_true, if_false, false_and, and_false]
/-- what a rule's reading leaves -/
def RuX (T : Nat → Nat) (n z q : Nat) (sm : Bool) (R : Rls) (c : Nat) (t : Tok) (M M' : am_M) : Sum (Nat × Nat) (Tok × Den × Den) → Prop
  | .inl e => gF (sSea z) nT M M' ∧ FaX M' z T n e
  | .inr p => gF (fun a j => sPz z c a j ∨ (q ≤ a ∧ a ≤ q + 3)) nT M M' ∧ tS t < tS p.1 ∧ (sm = true → bdS p.2.1) ∧ bdT p.2.2 ∧ ∃ c', Lay M' ∧ mR M' 164 1 = some z ∧ RdX M' T n p.1 ∧ FmX M' z c' ∧ c ≤ c' ∧ c' ≤ tS p.1 ∧ RlC M' z q sm (R ++ [(p.2.1, p.2.2)]) c'
theorem ps_some {g : Nat} (t : Tok) (hg : g ≤ 9) (hE : tE t ≤ n) (v : Den) : ∃ res, ps T n (fuelP n) g 0 t v = some res := by
  have h1 : tR n t ≤ n + 1 := by unfold tR; split <;> omega
  have h2 : gW g ≤ 6 := by unfold gW; split <;> (try split) <;> (try split) <;> (try split) <;> (try split) <;> omega
  obtain ⟨q, hq, -⟩ := ps_tot (T := T) (n := n) (fuelP n) g 0 t v hg hE (by unfold fuelP; omega)
  exact ⟨q, hq⟩
/-- a sum, then the rest of the rule -/
def ruK (T : Nat → Nat) (n : Nat) (t2 : Tok) (v : Den) : Sum (Nat × Nat) (Tok × Den × Den) := bR (wordR T n 18 (.inr t2)) (fun t3 => psX T n 5 t3 (fun t4 w => .inr (t4, v, w)))
theorem l_x_rule2 (hz : z = 2 ∨ z = 83) (hn : n ≤ 1800) (d q N c c1 : Nat) (sm : Bool) (R : Rls) (t t2 : Tok) (v : Den) (M M1 : am_M) (Q : Option Value → am_M → Prop) (hq : isRq z q N) (hR12 : R.length < N) (hL : Lay M1) (hp : mR M1 164 1 = some z) (hR : RdX M1 T n t2) (hF : FmX M1 z c1) (hcc : c ≤ c1) (hct : c1 ≤ tS t2) (htt : tS t < tS t2) (hrl : RlC M1 z q sm R c) (hg : gF (sPz z c) nT M M1) (hsum : sm = true → CdX M1 z c c1 [v] ∧ bdS v) (v4 : Value) (j4 : jk v4)
    (hQ : ∀ M', RuX T n z q sm R c t M M' (ruK T n t2 v) → Q none M') : am_P am_P0 (d + 120) (am_look tX2_readRule) 32 [.ref 164, .ref q, .int (b01 sm), .int (nI c), v4] [] M1 Q := by
  have hst : StR M1 T n (.inr t2) := hR
  have hcl := hF.2
  have hN : N = 12 ∨ N = 6 := by unfold isRq at hq; omega
  -- the end after a fault
  have bad : ∀ M' e x4, ruK T n t2 v = .inl e → gF (sSea z) nT M M' → FaX M' z T n e → am_P am_P0 (d + 120) (am_look tX2_readRule) 58 [.ref 164, .ref q, .int (b01 sm), .int (nI c), .int x4] [] M' Q := fun M' e x4 he g F => by
    have L' : Lay M' := gF_LayN (gF_trans (gF_refl (sSea z) nT M') (gF_refl _ _ _)) (by
      have h1 := gF_LayN (S := sSea z) (M := M) (M' := M') g
      obtain ⟨⟨k, a1, a2⟩, a3⟩ := hL
      exact ⟨⟨k, a1, by rw [g.2.2.2, ← hg.2.2.2]; exact a2⟩, fun q hq => by rw [g.2.2.1 _ _ (fun z => z), ← hg.2.2.1 _ _ (fun z => z)]; exact a3 q hq⟩)
    have h8 := FtX_8 F.1
    have h9 := hQ M' (by rw [he]; exact ⟨g, F⟩)
    simp +decide only [qX2_readRule_0, qX2_readRule_1, lx L', am_w1_i, am_w1_r, am_w1_x, am_w1_l, am_w1_w, va_rf_s, am_push_n, am_push_s, am_cs_0, am_cs_i, am_cs_l, am_cs_r, m_uI_K, m_uI_N, m_uI_R, m_uI_L, m_uI_I, m_uL_K, m_uL_N, m_uL_R, m_uL_I, m_uL_L, m_uR_K, m_uR_N, m_uR_I, m_uR_L, m_uR_R, true_and, and_true, true_implies, false_implies, not_true_eq_false, not_false_eq_true, if_true, if_false, false_and, and_false]
    rw [br_p h8]
    exact h9
  simp +decide only [qX2_readRule_0, qX2_readRule_1, lx hL, am_w1_i, am_w1_r, am_w1_x, am_w1_l, am_w1_w, va_rf_s, am_push_n, am_push_s, am_cs_0, am_cs_i, am_cs_l, am_cs_r, m_uI_K, m_uI_N, m_uI_R, m_uI_L, m_uI_I, m_uL_K, m_uL_N, m_uL_R, m_uL_I, m_uL_L, m_uR_K, m_uR_N, m_uR_I, m_uR_L, m_uR_R, true_and, and_true, true_implies, false_implies, not_true_eq_false, not_false_eq_true, if_true, if_false, false_and, and_false]
  rw [show (18 : Int32) = nI 18 from rfl]
  refine c_x_takeWord (d + 117) n 18 T (.inr t2) M1 _ hL (by omega) hst (fun M2 g2 h2 => ?_)
  have L2 := gF_LayN g2 hL
  have p2 : mR M2 164 1 = some z := by rw [g2.2.2.1 _ _ (fun q => q)]; exact hp
  have F2 : FmX M2 z c1 := FmX_g hF g2 (fun q => by unfold sRd at q; omega)
  have rl2 : RlC M2 z q sm R c := RlC_g hrl g2 (fun a j q1 q2 w => by unfold sRd at w; unfold isRq at hq; omega) (fun j hj w => by unfold sRd at w; omega)
  have G2 := gF_trans hg (sRd_P (z := z) (c := c) g2)
  simp +decide only [qX2_readRule_0, qX2_readRule_1, lx L2, lz L2 hz, p2, F2.1, jk_w j4, am_w1_i, am_w1_r, am_w1_x, am_w1_l, am_w1_w, va_rf_s, am_push_n, am_push_s, am_cs_0, am_cs_i, am_cs_l, am_cs_r, m_uI_K, m_uI_N, m_uI_R, m_uI_L, m_uI_I, m_uL_K, m_uL_N, m_uL_R, m_uL_I, m_uL_L, m_uR_K, m_uR_N, m_uR_I, m_uR_L, m_uR_R, true_and, and_true, true_implies, false_implies, not_true_eq_false, not_false_eq_true, if_true, if_false, false_and, and_false]
  rw [show (0 : Int32) = nI 0 from rfl]
  cases hw : wordR T n 18 (.inr t2) with
  | inl e =>
    rw [hw] at h2
    refine f_test (d + 112) (nI 0) e M2 _ L2 hz ⟨h2, p2, c1, F2⟩ (fun M3 g3 F3 => ?_)
    have h9 := bad M3 e (nI c1) (by unfold ruK; rw [hw]; rfl) (gF_trans (sPz_S G2) (sFz_S g3)) F3
    simp +decide only [qX2_readRule_0, qX2_readRule_1, lx (gF_LayN g3 L2), am_w1_i, am_w1_r, am_w1_x, am_w1_l, am_w1_w, va_rf_s, am_push_n, am_push_s, am_cs_0, am_cs_i, am_cs_l, am_cs_r, m_uI_K, m_uI_N, m_uI_R, m_uI_L, m_uI_I, m_uL_K, m_uL_N, m_uL_R, m_uL_I, m_uL_L, m_uR_K, m_uR_N, m_uR_I, m_uR_L, m_uR_R, true_and, and_true, true_implies, false_implies, not_true_eq_false, not_false_eq_true, if_true, if_false, false_and, and_false] at h9 ⊢
    exact h9
  | inr t3 =>
    rw [hw] at h2
    have h2' : RdX M2 T n t3 := h2
    have hG3 := h2'.2.2.2.2.2.2.2.2.1
    have ht3 : tS t2 < tS t3 := by
      have e : wordR T n 18 (.inr t2) = if isW t2 (ownW.getD 18 []) = true then advR T n t2 else .inl (1, tS t2) := rfl
      rw [e] at hw
      by_cases cw : isW t2 (ownW.getD 18 []) = true
      · rw [if_pos cw] at hw
        have ha : AfR T n t2 (.inr t3) := by rw [← hw]; exact AfR_1 hR.2.2.2.2.2.2.2.2.1.1
        exact AfR_lt hR.2.2.2.2.2.2.2.2.1 (by have := (isW_1 cw).1; omega) ha
      · rw [if_neg cw] at hw; cases hw
    have hGo : GoX T n z M2 c1 c1 [] t3 := ⟨L2, p2, h2', F2, ⟨Nat.le_refl _, fun j hj => absurd hj (by omega), by rw [Nat.sub_self]; rfl⟩, by omega⟩
    obtain ⟨res, hres⟩ := ps_some (T := T) (n := n) (g := 5) t3 (by omega) hG3.1 (fun _ => 0)
    refine (g_all hz hn (fuelP n)).2.1 (d + 119) 0 t3 (fun _ => 0) c1 c1 [] M2 _ res (by omega) (by omega) hGo (by show 0 ≤ _; omega) hres (fun M3 P3 => ?_)
    have eK : ruK T n t2 v = psX T n 5 t3 (fun t4 w => .inr (t4, v, w)) := by unfold ruK; rw [hw]; rfl
    unfold psX at eK
    rw [hres] at eK
    cases res with
    | inl e =>
      obtain ⟨g3, F3⟩ : gF (sFz z) nT M2 M3 ∧ FaX M3 z T n e := P3
      have h9 := bad M3 e (nI c1) eK (gF_trans (sPz_S G2) (sFz_S g3)) F3
      simp +decide only [qX2_readRule_0, qX2_readRule_1, lx (gF_LayN g3 L2), am_w1_i, am_w1_r, am_w1_x, am_w1_l, am_w1_w, va_rf_s, am_push_n, am_push_s, am_cs_0, am_cs_i, am_cs_l, am_cs_r, m_uI_K, m_uI_N, m_uI_R, m_uI_L, m_uI_I, m_uL_K, m_uL_N, m_uL_R, m_uL_I, m_uL_L, m_uR_K, m_uR_N, m_uR_I, m_uR_L, m_uR_R, true_and, and_true, true_implies, false_implies, not_true_eq_false, not_false_eq_true, if_true, if_false, false_and, and_false] at h9 ⊢
      exact h9
    | inr p =>
      obtain ⟨g3, c3, G3, hc3, hc3'⟩ : gF (sPz z c1) nT M2 M3 ∧ ∃ c', GoX T n z M3 c1 c' [p.2] p.1 ∧ c1 ≤ c' ∧ c' + tS t3 ≤ c1 + tS p.1 := P3
      obtain ⟨L3, p3, R3, F3, C3, hc3t⟩ := G3
      have hbt := ((ps_typ (T := T) (n := n) (fuelP n)).2.2.2.2.2.1 0 t3 (fun _ => 0) (tkG_OK hG3) p.1 p.2 hres).2
      have rl3 : RlC M3 z q sm R c := RlC_g rl2 g3 (fun a j q1 q2 w => by unfold sPz at w; unfold isRq at hq; omega) (fun j hj w => by unfold sPz at w; omega)
      have h8 := R3.2.2.1
      have hr4 : mR M3 164 0 = some 165 := by simp only [lx L3]
      have C1 : sm = true → CdX M3 z c c1 [v] ∧ bdS v := fun hs => ⟨CdX_g (CdX_g (hsum hs).1 g2 (fun j _ w => by unfold sRd at w; omega)) g3 (fun j hj w => by unfold sPz at w; omega), (hsum hs).2⟩
      simp +decide only [qX2_readRule_0, qX2_readRule_1, lx L3, lz L3 hz, lq_ L3 hz hq, p3, h8, F3.1, am_w1_i, am_w1_r, am_w1_x, am_w1_l, am_w1_w, va_rf_s, am_push_n, am_push_s, am_cs_0, am_cs_i, am_cs_l, am_cs_r, m_uI_K, m_uI_N, m_uI_R, m_uI_L, m_uI_I, m_uL_K, m_uL_N, m_uL_R, m_uL_I, m_uL_L, m_uR_K, m_uR_N, m_uR_I, m_uR_L, m_uR_R, true_and, and_true, true_implies, false_implies, not_true_eq_false, not_false_eq_true, if_true, if_false, false_and, and_false]
      rw [c_x_appendR (z := z) (d + 118) q N R.length _ _ _ M3 _ L3 hz hq rl3.1 hR12]
      simp +decide only [qX2_readRule_0, qX2_readRule_1, am_w1_i, am_w1_r, am_w1_x, am_w1_l, am_w1_w, va_rf_s, am_push_n, am_push_s, am_cs_0, am_cs_i, am_cs_l, am_cs_r, m_uI_K, m_uI_N, m_uI_R, m_uI_L, m_uI_I, m_uL_K, m_uL_N, m_uL_R, m_uL_I, m_uL_L, m_uR_K, m_uR_N, m_uR_I, m_uR_L, m_uR_R, true_and, and_true, true_implies, false_implies, not_true_eq_false, not_false_eq_true, if_true, if_false, false_and, and_false]
      have G4 : gF (fun a j => q ≤ a ∧ a ≤ q + 3) nT M3 (uI (uI (uI (uI M3 (q + 1) R.length (nI c)) (q + 2) R.length (nI c1)) (q + 3) R.length (nI c3)) q 0 (nI (R.length + 1))) := gF_trans (gF_i _ ⟨by omega, by omega⟩) (gF_trans (gF_i _ ⟨by omega, by omega⟩) (gF_trans (gF_i _ ⟨by omega, by omega⟩) (gF_i _ ⟨by omega, by omega⟩)))
      obtain ⟨M4, hM4⟩ : ∃ M4, M4 = uI (uI (uI (uI M3 (q + 1) R.length (nI c)) (q + 2) R.length (nI c1)) (q + 3) R.length (nI c3)) q 0 (nI (R.length + 1)) := ⟨_, rfl⟩
      have v0 : mI M4 q 0 = nI (R.length + 1) := by rw [hM4, m_uI_I, if_pos ⟨rfl, rfl⟩]
      have v1 : ∀ j, mI M4 (q + 1) j = if j = R.length then nI c else mI M3 (q + 1) j := fun j => by
        rw [hM4, m_uI_I, if_neg (by omega), m_uI_I, if_neg (by omega), m_uI_I, if_neg (by omega), m_uI_I]
        by_cases e : j = R.length
        · rw [if_pos ⟨rfl, e⟩, if_pos e]
        · rw [if_neg (fun w => e w.2), if_neg e]
      have v2 : ∀ j, mI M4 (q + 2) j = if j = R.length then nI c1 else mI M3 (q + 2) j := fun j => by
        rw [hM4, m_uI_I, if_neg (by omega), m_uI_I, if_neg (by omega), m_uI_I]
        by_cases e : j = R.length
        · rw [if_pos ⟨rfl, e⟩, if_pos e]
        · rw [if_neg (fun w => e w.2), m_uI_I, if_neg (by omega), if_neg e]
      have v3 : ∀ j, mI M4 (q + 3) j = if j = R.length then nI c3 else mI M3 (q + 3) j := fun j => by
        rw [hM4, m_uI_I, if_neg (by omega), m_uI_I]
        by_cases e : j = R.length
        · rw [if_pos ⟨rfl, e⟩, if_pos e]
        · rw [if_neg (fun w => e w.2), m_uI_I, if_neg (by omega), m_uI_I, if_neg (by omega), if_neg e]
      rw [← hM4] at G4 ⊢
      have L4 := gF_LayN G4 L3
      have hq7 : ¬ (q ≤ z + 7 ∧ z + 7 ≤ q + 3) := by unfold isRq at hq; omega
      have e7 : insX M4 z = insX M3 z := funext fun k => by unfold insX; rw [G4.1 _ _ hq7]
      refine hQ M4 ?_
      rw [eK]
      refine ⟨gF_trans (gF_up G2 (fun a j w => Or.inl w) (fun _ _ w => w)) (gF_trans (gF_up (sPz_le (c := c) g3 hcc) (fun a j w => Or.inl w) (fun _ _ w => w)) (gF_up G4 (fun a j w => Or.inr w) (fun _ _ w => w))), by show tS t < tS p.1; omega, fun hs => (C1 hs).2, hbt, c3, L4, by rw [G4.2.2.1 _ _ (fun w => w)]; exact p3, RdX_g R3 G4 (fun a j w w2 => by unfold isRq at hq; omega) (fun w => w), FmX_g F3 G4 (fun w => by unfold isRq at hq; omega), by omega, hc3t, ?_, fun k r hr => ?_⟩
      · rw [v0, List.length_append]; rfl
      · by_cases ek : k < R.length
        · rw [List.getElem?_append_left ek] at hr
          obtain ⟨s0, s1, s2, b1, b2, b3, b4, b5, b6, b7⟩ := rl3.2 k r hr
          rw [e7]
          exact ⟨s0, s1, s2, b1, b2, by omega, by rw [v1, if_neg (by omega)]; exact b4, by rw [v2, if_neg (by omega)]; exact b5, by rw [v3, if_neg (by omega)]; exact b6, b7⟩
        · rw [List.getElem?_append_right (by omega)] at hr
          have hl := (List.getElem?_eq_some_iff.mp hr).1
          have e2 : k = R.length := by
            simp only [List.length_cons, List.length_nil] at hl
            omega
          subst e2
          rw [Nat.sub_self] at hr
          cases hr
          rw [e7]
          exact ⟨c, c1, c3, hcc, by omega, Nat.le_refl _, by rw [v1, if_pos rfl], by rw [v2, if_pos rfl], by rw [v3, if_pos rfl], C3.2.1, C3.2.2, fun hs => ⟨(C1 hs).1.2.1, (C1 hs).1.2.2⟩⟩
/-- the whole rule -/
def spRl (T : Nat → Nat) (n : Nat) (sm full : Bool) (t : Tok) : Sum (Nat × Nat) (Tok × Den × Den) := if full = true then .inl (5, tS t) else bR (advR T n t) (fun t1 => if sm = true then psX T n 0 t1 (fun t2 v => ruK T n t2 v) else ruK T n t1 (fun _ => 0))
theorem b_rule (hz : z = 2 ∨ z = 83) (hn : n ≤ 1800) (d q N c : Nat) (sm : Bool) (R : Rls) (t : Tok) (M : am_M) (Q : Option Value → am_M → Prop) (hq : isRq z q N) (hL : Lay M) (hp : mR M 164 1 = some z) (hR : RdX M T n t) (hF : FmX M z c) (hct : c ≤ tS t) (hrl : RlC M z q sm R c) (hR12 : R.length ≤ N) (h0 : ¬ t.1 = 0)
    (hQ : ∀ M', RuX T n z q sm R c t M M' (spRl T n sm (decide (N ≤ R.length)) t) → Q none M') : am_E am_P0 (d + 120) 14 [.ref 164, .ref q, .int (b01 sm)] M Q := by
  have hst : StR M T n (.inr t) := hR
  have hG := hR.2.2.2.2.2.2.2.2.1
  have hN : N = 12 ∨ N = 6 := by unfold isRq at hq; omega
  have hif := fun Q => c_x_isFull (z := z) (d + 119) q N R.length M Q hL hz hq hrl.1 (by omega)
  rw [eX2_readRule]
  simp +decide only [qX2_readRule_0, qX2_readRule_1, lx hL, lq_ hL hz hq, hif, am_w1_i, am_w1_r, am_w1_x, am_w1_l, am_w1_w, va_rf_s, am_push_n, am_push_s, am_cs_0, am_cs_i, am_cs_l, am_cs_r, m_uI_K, m_uI_N, m_uI_R, m_uI_L, m_uI_I, m_uL_K, m_uL_N, m_uL_R, m_uL_I, m_uL_L, m_uR_K, m_uR_N, m_uR_I, m_uR_L, m_uR_R, true_and, and_true, true_implies, false_implies, not_true_eq_false, not_false_eq_true, if_true, if_false, false_and, and_false]
  refine c_x_oneMore (d + 117) _ t M _ hL hst (fun M1 g1 h1 => ?_)
  have L1 := gF_LayN g1 hL
  have p1 : mR M1 164 1 = some z := by rw [g1.2.2.1 _ _ (fun q => q)]; exact hp
  have F1 : FmX M1 z c := FmX_g hF g1 (fun q => by unfold sRd at q; omega)
  unfold spRl at hQ
  by_cases cf : N ≤ R.length
  · rw [if_pos (decide_eq_true cf)] at h1 hQ
    have h9 := hQ M1 ⟨sRd_S g1, h1, p1, c, F1⟩
    simp +decide only [qX2_readRule_0, qX2_readRule_1, decide_eq_true cf, Bool.not_true, b01, am_w1_i, am_w1_r, am_w1_x, am_w1_l, am_w1_w, va_rf_s, am_push_n, am_push_s, am_cs_0, am_cs_i, am_cs_l, am_cs_r, m_uI_K, m_uI_N, m_uI_R, m_uI_L, m_uI_I, m_uL_K, m_uL_N, m_uL_R, m_uL_I, m_uL_L, m_uR_K, m_uR_N, m_uR_I, m_uR_L, m_uR_R, true_and, and_true, true_implies, false_implies, not_true_eq_false, not_false_eq_true, if_true, if_false, false_and, and_false]
    exact h9
  · rw [if_neg (by rw [decide_eq_false cf]; decide)] at h1 hQ
    have rl1 : RlC M1 z q sm R c := RlC_g hrl g1 (fun a j q1 q2 w => by unfold sRd at w; unfold isRq at hq; omega) (fun j hj w => by unfold sRd at w; omega)
    simp +decide only [qX2_readRule_0, qX2_readRule_1, lx L1, lz L1 hz, p1, F1.1, decide_eq_false cf, Bool.not_false, b01, am_w1_i, am_w1_r, am_w1_x, am_w1_l, am_w1_w, va_rf_s, am_push_n, am_push_s, am_cs_0, am_cs_i, am_cs_l, am_cs_r, m_uI_K, m_uI_N, m_uI_R, m_uI_L, m_uI_I, m_uL_K, m_uL_N, m_uL_R, m_uL_I, m_uL_L, m_uR_K, m_uR_N, m_uR_I, m_uR_L, m_uR_R, true_and, and_true, true_implies, false_implies, not_true_eq_false, not_false_eq_true, if_true, if_false, false_and, and_false]
    -- after a fault ahead of 'when'
    have tail : ∀ M' e, (∀ M'', gF (sFz z) nT M' M'' → FaX M'' z T n e → Q none M'') → Lay M' → FaX M' z T n e → am_P am_P0 (d + 120) (am_look tX2_readRule) 32 [.ref 164, .ref q, .int (b01 sm), .int (nI c), am_x] [] M' Q := fun M' e hQ' L' F' => by
      simp +decide only [qX2_readRule_0, qX2_readRule_1, lx L', am_w1_i, am_w1_r, am_w1_x, am_w1_l, am_w1_w, va_rf_s, am_push_n, am_push_s, am_cs_0, am_cs_i, am_cs_l, am_cs_r, m_uI_K, m_uI_N, m_uI_R, m_uI_L, m_uI_I, m_uL_K, m_uL_N, m_uL_R, m_uL_I, m_uL_L, m_uR_K, m_uR_N, m_uR_I, m_uR_L, m_uR_R, true_and, and_true, true_implies, false_implies, not_true_eq_false, not_false_eq_true, if_true, if_false, false_and, and_false]
      rw [show (18 : Int32) = nI 18 from rfl]
      refine c_x_takeWord (d + 117) n 18 T (.inl e) M' _ L' (by omega) F'.1 (fun M2 g2 h2 => ?_)
      have L2 := gF_LayN g2 L'
      have F2 : FaX M2 z T n e := FaX_r F' hz h2 g2
      obtain ⟨c2, hc2⟩ := F2.2.2
      simp +decide only [qX2_readRule_0, qX2_readRule_1, lx L2, lz L2 hz, F2.2.1, hc2.1, am_w1_i, am_w1_r, am_w1_x, am_w1_l, am_w1_w, va_rf_s, am_push_n, am_push_s, am_cs_0, am_cs_i, am_cs_l, am_cs_r, m_uI_K, m_uI_N, m_uI_R, m_uI_L, m_uI_I, m_uL_K, m_uL_N, m_uL_R, m_uL_I, m_uL_L, m_uR_K, m_uR_N, m_uR_I, m_uR_L, m_uR_R, true_and, and_true, true_implies, false_implies, not_true_eq_false, not_false_eq_true, if_true, if_false, false_and, and_false]
      refine f_test (d + 112) 0 e M2 _ L2 hz F2 (fun M3 g3 F3 => ?_)
      have L3 := gF_LayN g3 L2
      have h8 := FtX_8 F3.1
      have h9 := hQ' M3 (gF_trans (sRd_F g2) g3) F3
      simp +decide only [qX2_readRule_0, qX2_readRule_1, lx L3, am_w1_i, am_w1_r, am_w1_x, am_w1_l, am_w1_w, va_rf_s, am_push_n, am_push_s, am_cs_0, am_cs_i, am_cs_l, am_cs_r, m_uI_K, m_uI_N, m_uI_R, m_uI_L, m_uI_I, m_uL_K, m_uL_N, m_uL_R, m_uL_I, m_uL_L, m_uR_K, m_uR_N, m_uR_I, m_uR_L, m_uR_R, true_and, and_true, true_implies, false_implies, not_true_eq_false, not_false_eq_true, if_true, if_false, false_and, and_false]
      rw [br_p h8]
      exact h9
    cases ha : advR T n t with
    | inl e =>
      rw [ha] at h1 hQ
      have F1' : FaX M1 z T n e := ⟨h1, p1, c, F1⟩
      cases sm with
      | true =>
        simp +decide only [qX2_readRule_0, qX2_readRule_1, lx L1, b01, am_w1_i, am_w1_r, am_w1_x, am_w1_l, am_w1_w, va_rf_s, am_push_n, am_push_s, am_cs_0, am_cs_i, am_cs_l, am_cs_r, m_uI_K, m_uI_N, m_uI_R, m_uI_L, m_uI_I, m_uL_K, m_uL_N, m_uL_R, m_uL_I, m_uL_L, m_uR_K, m_uR_N, m_uR_I, m_uR_L, m_uR_R, true_and, and_true, true_implies, false_implies, not_true_eq_false, not_false_eq_true, if_true, if_false, false_and, and_false]
        refine f_sum (d + 115) 0 e M1 _ L1 hz F1' (fun M2 g2 F2 => ?_)
        have h9 := tail M2 e (fun M'' g'' F'' => hQ M'' ⟨gF_trans (sRd_S g1) (sFz_S (gF_trans g2 g'')), F''⟩) (gF_LayN g2 L1) F2
        simp +decide only [qX2_readRule_0, qX2_readRule_1, lx (gF_LayN g2 L1), b01, am_w1_i, am_w1_r, am_w1_x, am_w1_l, am_w1_w, va_rf_s, am_push_n, am_push_s, am_cs_0, am_cs_i, am_cs_l, am_cs_r, m_uI_K, m_uI_N, m_uI_R, m_uI_L, m_uI_I, m_uL_K, m_uL_N, m_uL_R, m_uL_I, m_uL_L, m_uR_K, m_uR_N, m_uR_I, m_uR_L, m_uR_R, true_and, and_true, true_implies, false_implies, not_true_eq_false, not_false_eq_true, if_true, if_false, false_and, and_false] at h9 ⊢
        exact h9
      | false =>
        have h9 := tail M1 e (fun M'' g'' F'' => hQ M'' ⟨gF_trans (sRd_S g1) (sFz_S g''), F''⟩) L1 F1'
        simp +decide only [qX2_readRule_0, qX2_readRule_1, lx L1, b01, am_w1_i, am_w1_r, am_w1_x, am_w1_l, am_w1_w, va_rf_s, am_push_n, am_push_s, am_cs_0, am_cs_i, am_cs_l, am_cs_r, m_uI_K, m_uI_N, m_uI_R, m_uI_L, m_uI_I, m_uL_K, m_uL_N, m_uL_R, m_uL_I, m_uL_L, m_uR_K, m_uR_N, m_uR_I, m_uR_L, m_uR_R, true_and, and_true, true_implies, false_implies, not_true_eq_false, not_false_eq_true, if_true, if_false, false_and, and_false] at h9 ⊢
        exact h9
    | inr t1 =>
      rw [ha] at h1 hQ
      have h1' : RdX M1 T n t1 := h1
      have hG1 := h1'.2.2.2.2.2.2.2.2.1
      have htt : tS t < tS t1 := AfR_lt hG h0 (by rw [← ha]; exact AfR_1 hG.1)
      cases sm with
      | false =>
        have h9 := l_x_rule2 hz hn d q N c c false R t t1 (fun _ => 0) M M1 Q hq (by omega) L1 p1 h1' F1 (Nat.le_refl _) (by omega) htt rl1 (sRd_P g1) (fun q => by cases q) am_x (Or.inl rfl) hQ
        simp +decide only [qX2_readRule_0, qX2_readRule_1, lx L1, b01, am_w1_i, am_w1_r, am_w1_x, am_w1_l, am_w1_w, va_rf_s, am_push_n, am_push_s, am_cs_0, am_cs_i, am_cs_l, am_cs_r, m_uI_K, m_uI_N, m_uI_R, m_uI_L, m_uI_I, m_uL_K, m_uL_N, m_uL_R, m_uL_I, m_uL_L, m_uR_K, m_uR_N, m_uR_I, m_uR_L, m_uR_R, true_and, and_true, true_implies, false_implies, not_true_eq_false, not_false_eq_true, if_true, if_false, false_and, and_false] at h9 ⊢
        exact h9
      | true =>
        have hGo : GoX T n z M1 c c [] t1 := ⟨L1, p1, h1', F1, ⟨Nat.le_refl _, fun j hj => absurd hj (by omega), by rw [Nat.sub_self]; rfl⟩, by omega⟩
        obtain ⟨res, hres⟩ := ps_some (T := T) (n := n) (g := 0) t1 (by omega) hG1.1 (fun _ => 0)
        have hQ' : ∀ M', RuX T n z q true R c t M M' (psX T n 0 t1 (fun t2 v => ruK T n t2 v)) → Q none M' := hQ
        unfold psX at hQ'
        rw [hres] at hQ'
        simp +decide only [qX2_readRule_0, qX2_readRule_1, lx L1, b01, am_w1_i, am_w1_r, am_w1_x, am_w1_l, am_w1_w, va_rf_s, am_push_n, am_push_s, am_cs_0, am_cs_i, am_cs_l, am_cs_r, m_uI_K, m_uI_N, m_uI_R, m_uI_L, m_uI_I, m_uL_K, m_uL_N, m_uL_R, m_uL_I, m_uL_L, m_uR_K, m_uR_N, m_uR_I, m_uR_L, m_uR_R, true_and, and_true, true_implies, false_implies, not_true_eq_false, not_false_eq_true, if_true, if_false, false_and, and_false]
        rw [show (0 : Int32) = nI 0 from rfl]
        refine (g_all hz hn (fuelP n)).1.1 (d + 119) 0 t1 (fun _ => 0) c c [] M1 _ res (by omega) (by omega) hGo (by show 0 ≤ _; omega) hres (fun M2 P2 => ?_)
        cases res with
        | inl e =>
          obtain ⟨g2, F2⟩ : gF (sFz z) nT M1 M2 ∧ FaX M2 z T n e := P2
          have h9 := tail M2 e (fun M'' g'' F'' => hQ' M'' ⟨gF_trans (sRd_S g1) (sFz_S (gF_trans g2 g'')), F''⟩) (gF_LayN g2 L1) F2
          simp +decide only [qX2_readRule_0, qX2_readRule_1, lx (gF_LayN g2 L1), b01, am_w1_i, am_w1_r, am_w1_x, am_w1_l, am_w1_w, va_rf_s, am_push_n, am_push_s, am_cs_0, am_cs_i, am_cs_l, am_cs_r, m_uI_K, m_uI_N, m_uI_R, m_uI_L, m_uI_I, m_uL_K, m_uL_N, m_uL_R, m_uL_I, m_uL_L, m_uR_K, m_uR_N, m_uR_I, m_uR_L, m_uR_R, true_and, and_true, true_implies, false_implies, not_true_eq_false, not_false_eq_true, if_true, if_false, false_and, and_false] at h9 ⊢
          exact h9
        | inr p =>
          obtain ⟨g2, c2, G2, hc2, hc2'⟩ : gF (sPz z c) nT M1 M2 ∧ ∃ c', GoX T n z M2 c c' [p.2] p.1 ∧ c ≤ c' ∧ c' + tS t1 ≤ c + tS p.1 := P2
          obtain ⟨L2, p2, R2, F2, C2, hc2t⟩ := G2
          have hbs := ((ps_typ (T := T) (n := n) (fuelP n)).1 0 t1 (fun _ => 0) (tkG_OK hG1) p.1 p.2 hres).2
          have rl2 : RlC M2 z q true R c := RlC_g rl1 g2 (fun a j q1 q2 w => by unfold sPz at w; unfold isRq at hq; omega) (fun j hj w => by unfold sPz at w; omega)
          have h9 := l_x_rule2 hz hn d q N c c2 true R t p.1 p.2 M M2 Q hq (by omega) L2 p2 R2 F2 hc2 hc2t (by omega) rl2 (gF_trans (sRd_P g1) g2) (fun _ => ⟨C2, hbs⟩) am_x (Or.inl rfl) hQ'
          simp +decide only [qX2_readRule_0, qX2_readRule_1, lx L2, b01, am_w1_i, am_w1_r, am_w1_x, am_w1_l, am_w1_w, va_rf_s, am_push_n, am_push_s, am_cs_0, am_cs_i, am_cs_l, am_cs_r, m_uI_K, m_uI_N, m_uI_R, m_uI_L, m_uI_I, m_uL_K, m_uL_N, m_uL_R, m_uL_I, m_uL_L, m_uR_K, m_uR_N, m_uR_I, m_uR_L, m_uR_R, true_and, and_true, true_implies, false_implies, not_true_eq_false, not_false_eq_true, if_true, if_false, false_and, and_false] at h9 ⊢
          exact h9
end
end
section
/-! the class's parser: a statement -/
section
variable {T : Nat → Nat} {n z : Nat}
def rmap {α β : Type} (f : α → β) : Sum (Nat × Nat) α → Sum (Nat × Nat) β
  | .inl e => .inl e
  | .inr p => .inr (f p)
theorem rmap_b {α β : Type} (f : α → β) (r : Rt) (k : Tok → Sum (Nat × Nat) α) : rmap f (bR r k) = bR r (fun t => rmap f (k t)) := by cases r <;> rfl
theorem rmap_p {α β : Type} (f : α → β) (g : Nat) (t : Tok) (k : Tok → Den → Sum (Nat × Nat) α) : rmap f (psX T n g t k) = psX T n g t (fun t v => rmap f (k t v)) := by
  unfold psX
  cases ps T n (fuelP n) g 0 t (fun _ => 0) with
  | none => rfl
  | some q => cases q <;> rfl
theorem spSum_r {full : Bool} {t : Tok} {f : Den → Den → Dat} : spSum T n full t f = rmap (fun p => (p.1, f p.2.1 p.2.2)) (spRl T n true full t) := by
  unfold spSum spRl ruK
  cases full with
  | true => rfl
  | false =>
    rw [if_neg (by decide), if_neg (by decide), rmap_b]
    congr 1
    funext t1
    rw [if_pos rfl, rmap_p]
    congr 1
    funext t2 v
    rw [rmap_b]
    congr 1
    funext t3
    rw [rmap_p]
    rfl
theorem spTest_r {full : Bool} {t : Tok} {f : Den → Dat} : spTest T n full t f = rmap (fun p => (p.1, f p.2.2)) (spRl T n false full t) := by
  unfold spTest spRl ruK
  cases full with
  | true => rfl
  | false =>
    rw [if_neg (by decide), if_neg (by decide), rmap_b]
    have e : ∀ (r : Rt) (k : Tok → Sum (Nat × Nat) (Tok × Dat)), bR (wordR T n 18 r) k = bR r (fun t1 => bR (wordR T n 18 (.inr t1)) k) := fun r k => by cases r <;> rfl
    rw [e]
    congr 1
    funext t1
    rw [if_neg (by decide), rmap_b]
    congr 1
    funext t3
    rw [rmap_p]
    rfl
theorem rlOK_a {m : Nat} {R : Rls} {r : Den × Den} (h : rlOK m R) (hl : R.length < m) (h1 : bdS r.1) (h2 : bdT r.2) : rlOK m (R ++ [r]) := by
  refine ⟨by rw [List.length_append]; show R.length + 1 ≤ m; omega, fun q hq => ?_⟩
  rcases List.mem_append.mp hq with w | w
  · exact h.2 q w
  · rw [List.mem_singleton.mp w]; exact ⟨h1, h2⟩
/-- from a rule's end to the statement's -/
theorem ru_all (hz : z = 2 ∨ z = 83) {q N c : Nat} {sm : Bool} {R : Rls} {t : Tok} {M M' : am_M} {D : Dat} (hq : isRq z q N) (hD : DOK D) (hP : PsX M z D c) (g : gF (fun a j => sPz z c a j ∨ (q ≤ a ∧ a ≤ q + 3)) nT M M') {c' : Nat} (hF : FmX M' z c') (hc : c ≤ c') : (mI M' z 0 = nI (dC D) ∧ mI M' z 1 = nI (dR D) ∧ mI M' z 2 = nI (dLk D) ∧ mI M' z 3 = nI (dSh D).length) ∧ (∀ s sp, (dSh D)[s]? = some sp → ShX M' (z + 25 + 7 * s) sp (dY D s) (bkOf (dBk D) s)) ∧ SgX M' z (dSg D) ∧ (¬ q = z + 9 → RlC M' z (z + 9) true (dRd D) c') ∧ (¬ q = z + 13 → RlC M' z (z + 13) true (dRc D) c') ∧ (¬ q = z + 17 → RlC M' z (z + 17) false (dRq D) c') := by
  obtain ⟨⟨a1, a2, a3, a4⟩, b, s, ⟨r1, r2, r3⟩, f⟩ := hP
  have h8 := hD.2.2.1.1
  have k : ∀ a j, ¬ (sPz z c a j ∨ (q ≤ a ∧ a ≤ q + 3)) → mI M' a j = mI M a j := fun a j w => g.1 a j w
  unfold isRq at hq
  refine ⟨⟨by rw [k _ _ (by unfold sPz; omega)]; exact a1, by rw [k _ _ (by unfold sPz; omega)]; exact a2, by rw [k _ _ (by unfold sPz; omega)]; exact a3, by rw [k _ _ (by unfold sPz; omega)]; exact a4⟩, fun s' sp hs' => ?_, SgX_g s g (fun a j q1 q2 w => by unfold sPz at w; omega), fun hne => RlC_le (RlC_g r1 g (fun a j q1 q2 w => by unfold sPz at w; omega) (fun j hj w => by unfold sPz at w; omega)) hc, fun hne => RlC_le (RlC_g r2 g (fun a j q1 q2 w => by unfold sPz at w; omega) (fun j hj w => by unfold sPz at w; omega)) hc, fun hne => RlC_le (RlC_g r3 g (fun a j q1 q2 w => by unfold sPz at w; omega) (fun j hj w => by unfold sPz at w; omega)) hc⟩
  have hsl := (List.getElem?_eq_some_iff.mp hs').1
  exact ShX_g (b s' sp hs') g (fun a j q1 q2 w => by unfold sPz at w; omega)
theorem ru_S {q N c : Nat} {M M' : am_M} (hz : z = 2 ∨ z = 83) (hq : isRq z q N) (g : gF (fun a j => sPz z c a j ∨ (q ≤ a ∧ a ≤ q + 3)) nT M M') : gF (sSea z) nT M M' := gF_up g (fun a j w => by unfold sPz at w; unfold isRq at hq; unfold sSea; omega) (fun _ _ w => w)
theorem tabW : ∀ k, k < 27 → ¬ (k = 0 ∨ k = 1 ∨ k = 2 ∨ k = 3 ∨ k = 4 ∨ k = 9 ∨ k = 12 ∨ k = 15 ∨ k = 17) → am_tab (0) [120, 127, 142, 157, 172, 227, 227, 227, 227, 179, 227, 227, 186, 227, 227, 193, 227, 200] 227 (nI k) = 227 := by decide
theorem word_r {M : am_M} {t : Tok} (h : RdX M T n t) : mI M 165 6 = -1 ∨ ∃ k, k < 27 ∧ mI M 165 6 = nI k := by
  have h6 := h.2.2.2.2.2.2.1
  by_cases c : t.1 = 1
  · rw [if_pos c] at h6
    unfold owI at h6
    by_cases c2 : ownW.findIdx (fun w => w == t.2.2.1) < 27
    · rw [if_pos c2] at h6; exact Or.inr ⟨_, c2, h6⟩
    · rw [if_neg c2] at h6; exact Or.inl h6
  · rw [if_neg c] at h6; exact Or.inl h6
theorem isW_ne {t : Tok} {i j : Nat} (hi : i < 27) (hj : j < 27) (h : isW t (ownW.getD i []) = true) (hn : ¬ i = j) : ¬ isW t (ownW.getD j []) = true := fun q => hn (ownW_nd i hi j hj (isW_uniq h q))
theorem b_stmt (hz : z = 2 ∨ z = 83) (hn : n ≤ 1800) (d c : Nat) (D : Dat) (t : Tok) (M : am_M) (Q : Option Value → am_M → Prop) (hG : GdX T n z M D c t) (hC : 1 ≤ dC D) (hRr : 1 ≤ dR D) (h0 : ¬ t.1 = 0) (hQ : ∀ M', EdX T n z t M M' (spSt T n D t) → Q none M') : am_E am_P0 (d + 121) 11 [.ref 164, .int 0] M Q := by
  obtain ⟨hL, hp, hR, hP, hD, hc⟩ := id hG
  have hst : StR M T n (.inr t) := hR
  have hw := fun k (hk : k < 27) => wr_is hst hk
  have bad : spSt T n D t = .inl (1, tS t) → ∀ M1, gF sRd nT M M1 → StR M1 T n (refR 1 (.inr t)) → Q none M1 := fun he M1 g1 h1 => by
    obtain ⟨P1, p1⟩ := PsX_p hz hD hp hP g1
    exact hQ M1 (by rw [he]; exact ⟨sRd_S g1, Fa_of p1 P1 h1⟩)
  rw [eX2_readStatement]
  by_cases w0 : isW t (ownW.getD 0 []) = true
  · have h6 := (hw 0 (by omega)).mpr w0
    have hsp : spSt T n D t = .inl (1, tS t) := by
      unfold spSt
      rw [if_neg (isW_ne (i := 0) (by omega) (by omega) w0 (by omega)), if_neg (isW_ne (i := 0) (by omega) (by omega) w0 (by omega)), if_neg (isW_ne (i := 0) (by omega) (by omega) w0 (by omega)), if_neg (isW_ne (i := 0) (by omega) (by omega) w0 (by omega)), if_neg (isW_ne (i := 0) (by omega) (by omega) w0 (by omega)), if_neg (isW_ne (i := 0) (by omega) (by omega) w0 (by omega)), if_neg (isW_ne (i := 0) (by omega) (by omega) w0 (by omega)), if_neg (isW_ne (i := 0) (by omega) (by omega) w0 (by omega))]
    simp +decide only [qX2_readStatement_0, qX2_readStatement_1, lx hL, h6, show nI 0 = (0 : Int32) from rfl, am_w1_i, am_w1_r, am_w1_x, am_w1_l, am_w1_w, va_rf_s, am_push_n, am_push_s, am_cs_0, am_cs_i, am_cs_l, am_cs_r, m_uI_K, m_uI_N, m_uI_R, m_uI_L, m_uI_I, m_uL_K, m_uL_N, m_uL_R, m_uL_I, m_uL_L, m_uR_K, m_uR_N, m_uR_I, m_uR_L, m_uR_R, true_and, and_true, true_implies, false_implies, not_true_eq_false, not_false_eq_true, if_true, if_false, false_and, and_false]
    rw [show (1 : Int32) = nI 1 from rfl]
    refine c_x_refuse (d + 119) n 1 T (.inr t) M _ hL (by omega) hst (fun M1 g1 h1 => ?_)
    have h9 := bad hsp M1 g1 h1
    simp +decide only [qX2_readStatement_0, qX2_readStatement_1, am_w1_i, am_w1_r, am_w1_x, am_w1_l, am_w1_w, va_rf_s, am_push_n, am_push_s, am_cs_0, am_cs_i, am_cs_l, am_cs_r, m_uI_K, m_uI_N, m_uI_R, m_uI_L, m_uI_I, m_uL_K, m_uL_N, m_uL_R, m_uL_I, m_uL_L, m_uR_K, m_uR_N, m_uR_I, m_uR_L, m_uR_R, true_and, and_true, true_implies, false_implies, not_true_eq_false, not_false_eq_true, if_true, if_false, false_and, and_false]
    exact h9
  · have h60 : ¬ mI M 165 6 = 0 := fun q => w0 ((hw 0 (by omega)).mp q)
    simp +decide only [qX2_readStatement_0, qX2_readStatement_1, lx hL, am_w1_i, am_w1_r, am_w1_x, am_w1_l, am_w1_w, va_rf_s, am_push_n, am_push_s, am_cs_0, am_cs_i, am_cs_l, am_cs_r, m_uI_K, m_uI_N, m_uI_R, m_uI_L, m_uI_I, m_uL_K, m_uL_N, m_uL_R, m_uL_I, m_uL_L, m_uR_K, m_uR_N, m_uR_I, m_uR_L, m_uR_R, true_and, and_true, true_implies, false_implies, not_true_eq_false, not_false_eq_true, if_true, if_false, false_and, and_false]
    rw [br_p h60]
    by_cases w1 : isW t (ownW.getD 1 []) = true
    · have h6 := (hw 1 (by omega)).mpr w1
      have hsp : spSt T n D t = spDepth T n D t := by unfold spSt; rw [if_pos w1]
      rw [hsp] at hQ
      have et : am_tab (0) [120, 127, 142, 157, 172, 227, 227, 227, 227, 179, 227, 227, 186, 227, 227, 193, 227, 200] 227 (nI 1) = 127 := by decide
      rw [h6, et]
      simp +decide only [qX2_readStatement_0, qX2_readStatement_1, lx hL, lz hL hz, hp, am_w1_i, am_w1_r, am_w1_x, am_w1_l, am_w1_w, va_rf_s, am_push_n, am_push_s, am_cs_0, am_cs_i, am_cs_l, am_cs_r, m_uI_K, m_uI_N, m_uI_R, m_uI_L, m_uI_I, m_uL_K, m_uL_N, m_uL_R, m_uL_I, m_uL_L, m_uR_K, m_uR_N, m_uR_I, m_uR_L, m_uR_R, true_and, and_true, true_implies, false_implies, not_true_eq_false, not_false_eq_true, if_true, if_false, false_and, and_false]
      have hdr := hD.2.2.2.2.2.2.2.2.1
      have hrq : isRq z (z + 9) 12 := Or.inl ⟨rfl, rfl⟩
      refine b_rule hz hn d (z + 9) 12 c true (dRd D) t M _ hrq hL hp hR hP.2.2.2.2 hc hP.2.2.2.1.1 hdr.1 h0 (fun M1 R1 => ?_)
      simp +decide only [qX2_readStatement_0, qX2_readStatement_1, am_w1_i, am_w1_r, am_w1_x, am_w1_l, am_w1_w, va_rf_s, am_push_n, am_push_s, am_cs_0, am_cs_i, am_cs_l, am_cs_r, m_uI_K, m_uI_N, m_uI_R, m_uI_L, m_uI_I, m_uL_K, m_uL_N, m_uL_R, m_uL_I, m_uL_L, m_uR_K, m_uR_N, m_uR_I, m_uR_L, m_uR_R, true_and, and_true, true_implies, false_implies, not_true_eq_false, not_false_eq_true, if_true, if_false, false_and, and_false]
      refine hQ M1 ?_
      unfold spDepth
      rw [spSum_r]
      cases hr : spRl T n true (decide (12 ≤ (dRd D).length)) t with
      | inl e => rw [hr] at R1; exact R1
      | inr p =>
        rw [hr] at R1
        obtain ⟨g1, ht, hb1, hb2, c', L1, p1, rd1, F1, hcc, hct, hrl⟩ := R1
        obtain ⟨k1, k2, k3, k4, k5, k6⟩ := ru_all hz (sm := true) (R := dRd D) (t := t) hrq hD hP g1 F1 hcc
        have hl : (dRd D).length < 12 := by
          unfold spRl at hr
          by_cases cf : 12 ≤ (dRd D).length
          · rw [if_pos (decide_eq_true cf)] at hr; cases hr
          · omega
        refine ⟨ru_S hz hrq g1, ⟨c', L1, p1, rd1, ⟨k1, k2, k3, ⟨hrl, k5 (by omega), k6 (by omega)⟩, F1⟩, ?_, hct⟩, ht⟩
        obtain ⟨d1, d2, d3, d4, d5, d6, d7, d8, d9, d10⟩ := hD
        exact ⟨d1, d2, d3, d4, d5, d6, d7, d8, rlOK_a d9 hl (hb1 rfl) hb2, d10⟩
    · by_cases w2 : isW t (ownW.getD 2 []) = true
      · have h6 := (hw 2 (by omega)).mpr w2
        have hsp : spSt T n D t = spCost T n D t := by unfold spSt; rw [if_neg w1, if_pos w2]
        rw [hsp] at hQ
        have et : am_tab (0) [120, 127, 142, 157, 172, 227, 227, 227, 227, 179, 227, 227, 186, 227, 227, 193, 227, 200] 227 (nI 2) = 142 := by decide
        rw [h6, et]
        simp +decide only [qX2_readStatement_0, qX2_readStatement_1, lx hL, lz hL hz, hp, am_w1_i, am_w1_r, am_w1_x, am_w1_l, am_w1_w, va_rf_s, am_push_n, am_push_s, am_cs_0, am_cs_i, am_cs_l, am_cs_r, m_uI_K, m_uI_N, m_uI_R, m_uI_L, m_uI_I, m_uL_K, m_uL_N, m_uL_R, m_uL_I, m_uL_L, m_uR_K, m_uR_N, m_uR_I, m_uR_L, m_uR_R, true_and, and_true, true_implies, false_implies, not_true_eq_false, not_false_eq_true, if_true, if_false, false_and, and_false]
        have hdr := hD.2.2.2.2.2.2.2.2.2.1
        have hrq : isRq z (z + 13) 12 := Or.inr (Or.inl ⟨rfl, rfl⟩)
        refine b_rule hz hn d (z + 13) 12 c true (dRc D) t M _ hrq hL hp hR hP.2.2.2.2 hc hP.2.2.2.1.2.1 hdr.1 h0 (fun M1 R1 => ?_)
        simp +decide only [qX2_readStatement_0, qX2_readStatement_1, am_w1_i, am_w1_r, am_w1_x, am_w1_l, am_w1_w, va_rf_s, am_push_n, am_push_s, am_cs_0, am_cs_i, am_cs_l, am_cs_r, m_uI_K, m_uI_N, m_uI_R, m_uI_L, m_uI_I, m_uL_K, m_uL_N, m_uL_R, m_uL_I, m_uL_L, m_uR_K, m_uR_N, m_uR_I, m_uR_L, m_uR_R, true_and, and_true, true_implies, false_implies, not_true_eq_false, not_false_eq_true, if_true, if_false, false_and, and_false]
        refine hQ M1 ?_
        unfold spCost
        rw [spSum_r]
        cases hr : spRl T n true (decide (12 ≤ (dRc D).length)) t with
        | inl e => rw [hr] at R1; exact R1
        | inr p =>
          rw [hr] at R1
          obtain ⟨g1, ht, hb1, hb2, c', L1, p1, rd1, F1, hcc, hct, hrl⟩ := R1
          obtain ⟨k1, k2, k3, k4, k5, k6⟩ := ru_all hz (sm := true) (R := dRc D) (t := t) hrq hD hP g1 F1 hcc
          have hl : (dRc D).length < 12 := by
            unfold spRl at hr
            by_cases cf : 12 ≤ (dRc D).length
            · rw [if_pos (decide_eq_true cf)] at hr; cases hr
            · omega
          refine ⟨ru_S hz hrq g1, ⟨c', L1, p1, rd1, ⟨k1, k2, k3, ⟨k4 (by omega), hrl, k6 (by omega)⟩, F1⟩, ?_, hct⟩, ht⟩
          obtain ⟨d1, d2, d3, d4, d5, d6, d7, d8, d9, d10, d11⟩ := hD
          exact ⟨d1, d2, d3, d4, d5, d6, d7, d8, d9, rlOK_a d10 hl (hb1 rfl) hb2, d11⟩
      · by_cases w3 : isW t (ownW.getD 3 []) = true
        · have h6 := (hw 3 (by omega)).mpr w3
          have hsp : spSt T n D t = spQuiet T n D t := by unfold spSt; rw [if_neg w1, if_neg w2, if_pos w3]
          rw [hsp] at hQ
          have et : am_tab (0) [120, 127, 142, 157, 172, 227, 227, 227, 227, 179, 227, 227, 186, 227, 227, 193, 227, 200] 227 (nI 3) = 157 := by decide
          rw [h6, et]
          simp +decide only [qX2_readStatement_0, qX2_readStatement_1, lx hL, lz hL hz, hp, am_w1_i, am_w1_r, am_w1_x, am_w1_l, am_w1_w, va_rf_s, am_push_n, am_push_s, am_cs_0, am_cs_i, am_cs_l, am_cs_r, m_uI_K, m_uI_N, m_uI_R, m_uI_L, m_uI_I, m_uL_K, m_uL_N, m_uL_R, m_uL_I, m_uL_L, m_uR_K, m_uR_N, m_uR_I, m_uR_L, m_uR_R, true_and, and_true, true_implies, false_implies, not_true_eq_false, not_false_eq_true, if_true, if_false, false_and, and_false]
          have hdr := hD.2.2.2.2.2.2.2.2.2.2
          have hrq : isRq z (z + 17) 6 := Or.inr (Or.inr ⟨rfl, rfl⟩)
          refine b_rule hz hn d (z + 17) 6 c false (dRq D) t M _ hrq hL hp hR hP.2.2.2.2 hc hP.2.2.2.1.2.2 hdr.1 h0 (fun M1 R1 => ?_)
          simp +decide only [qX2_readStatement_0, qX2_readStatement_1, am_w1_i, am_w1_r, am_w1_x, am_w1_l, am_w1_w, va_rf_s, am_push_n, am_push_s, am_cs_0, am_cs_i, am_cs_l, am_cs_r, m_uI_K, m_uI_N, m_uI_R, m_uI_L, m_uI_I, m_uL_K, m_uL_N, m_uL_R, m_uL_I, m_uL_L, m_uR_K, m_uR_N, m_uR_I, m_uR_L, m_uR_R, true_and, and_true, true_implies, false_implies, not_true_eq_false, not_false_eq_true, if_true, if_false, false_and, and_false]
          refine hQ M1 ?_
          unfold spQuiet
          rw [spTest_r]
          cases hr : spRl T n false (decide (6 ≤ (dRq D).length)) t with
          | inl e => rw [hr] at R1; exact R1
          | inr p =>
            rw [hr] at R1
            obtain ⟨g1, ht, hb1, hb2, c', L1, p1, rd1, F1, hcc, hct, hrl⟩ := R1
            obtain ⟨k1, k2, k3, k4, k5, k6⟩ := ru_all hz (sm := false) (R := dRq D) (t := t) hrq hD hP g1 F1 hcc
            have hl : (dRq D).length < 6 := by
              unfold spRl at hr
              by_cases cf : 6 ≤ (dRq D).length
              · rw [if_pos (decide_eq_true cf)] at hr; cases hr
              · omega
            have hp0 : p.2.1 = fun _ => 0 := by
              unfold spRl at hr
              rw [if_neg (by rw [decide_eq_false (by omega)]; decide)] at hr
              cases ha : advR T n t with
              | inl e => rw [ha] at hr; cases hr
              | inr t1 =>
                rw [ha] at hr
                have hr' : ruK T n t1 (fun _ => 0) = .inr p := hr
                unfold ruK at hr'
                cases hw' : wordR T n 18 (.inr t1) with
                | inl e => rw [hw'] at hr'; cases hr'
                | inr t3 =>
                  rw [hw'] at hr'
                  have hr'' : psX T n 5 t3 (fun t4 w => (.inr (t4, (fun _ => 0), w) : Sum (Nat × Nat) (Tok × Den × Den))) = .inr p := hr'
                  unfold psX at hr''
                  cases hps : ps T n (fuelP n) 5 0 t3 (fun _ => 0) with
                  | none => rw [hps] at hr''; cases hr''
                  | some w =>
                    rw [hps] at hr''
                    cases w with
                    | inl e => cases hr''
                    | inr w => cases hr''; rfl
            rw [hp0] at hrl
            refine ⟨ru_S hz hrq g1, ⟨c', L1, p1, rd1, ⟨k1, k2, k3, ⟨k4 (by omega), k5 (by omega), hrl⟩, F1⟩, ?_, hct⟩, ht⟩
            obtain ⟨d1, d2, d3, d4, d5, d6, d7, d8, d9, d10, d11⟩ := hD
            exact ⟨d1, d2, d3, d4, d5, d6, d7, d8, d9, d10, rlOK_a d11 hl (fun e _ => ⟨by show (-1000000 : Int) ≤ 0; omega, by show (0 : Int) ≤ 1000000; omega⟩) hb2⟩
        · by_cases w4 : isW t (ownW.getD 4 []) = true
          · have h6 := (hw 4 (by omega)).mpr w4
            have hsp : spSt T n D t = spShip T n D t := by unfold spSt; rw [if_neg w1, if_neg w2, if_neg w3, if_pos w4]
            rw [hsp] at hQ
            have et : am_tab (0) [120, 127, 142, 157, 172, 227, 227, 227, 227, 179, 227, 227, 186, 227, 227, 193, 227, 200] 227 (nI 4) = 172 := by decide
            rw [h6, et]
            simp +decide only [qX2_readStatement_0, qX2_readStatement_1, lx hL, am_w1_i, am_w1_r, am_w1_x, am_w1_l, am_w1_w, va_rf_s, am_push_n, am_push_s, am_cs_0, am_cs_i, am_cs_l, am_cs_r, m_uI_K, m_uI_N, m_uI_R, m_uI_L, m_uI_I, m_uL_K, m_uL_N, m_uL_R, m_uL_I, m_uL_L, m_uR_K, m_uR_N, m_uR_I, m_uR_L, m_uR_R, true_and, and_true, true_implies, false_implies, not_true_eq_false, not_false_eq_true, if_true, if_false, false_and, and_false]
            refine b_ship hz (d + 115) c D t M _ hG h0 (fun M1 E1 => ?_)
            have h9 := hQ M1 E1
            simp +decide only [qX2_readStatement_0, qX2_readStatement_1, am_w1_i, am_w1_r, am_w1_x, am_w1_l, am_w1_w, va_rf_s, am_push_n, am_push_s, am_cs_0, am_cs_i, am_cs_l, am_cs_r, m_uI_K, m_uI_N, m_uI_R, m_uI_L, m_uI_I, m_uL_K, m_uL_N, m_uL_R, m_uL_I, m_uL_L, m_uR_K, m_uR_N, m_uR_I, m_uR_L, m_uR_R, true_and, and_true, true_implies, false_implies, not_true_eq_false, not_false_eq_true, if_true, if_false, false_and, and_false]
            exact h9
          · by_cases w9 : isW t (ownW.getD 9 []) = true
            · have h6 := (hw 9 (by omega)).mpr w9
              have hsp : spSt T n D t = spSay T n D t := by unfold spSt; rw [if_neg w1, if_neg w2, if_neg w3, if_neg w4, if_pos w9]
              rw [hsp] at hQ
              have et : am_tab (0) [120, 127, 142, 157, 172, 227, 227, 227, 227, 179, 227, 227, 186, 227, 227, 193, 227, 200] 227 (nI 9) = 179 := by decide
              rw [h6, et]
              simp +decide only [qX2_readStatement_0, qX2_readStatement_1, lx hL, am_w1_i, am_w1_r, am_w1_x, am_w1_l, am_w1_w, va_rf_s, am_push_n, am_push_s, am_cs_0, am_cs_i, am_cs_l, am_cs_r, m_uI_K, m_uI_N, m_uI_R, m_uI_L, m_uI_I, m_uL_K, m_uL_N, m_uL_R, m_uL_I, m_uL_L, m_uR_K, m_uR_N, m_uR_I, m_uR_L, m_uR_R, true_and, and_true, true_implies, false_implies, not_true_eq_false, not_false_eq_true, if_true, if_false, false_and, and_false]
              refine b_say hz (d + 115) c D t M _ hG hC hRr h0 (fun M1 E1 => ?_)
              have h9 := hQ M1 E1
              simp +decide only [qX2_readStatement_0, qX2_readStatement_1, am_w1_i, am_w1_r, am_w1_x, am_w1_l, am_w1_w, va_rf_s, am_push_n, am_push_s, am_cs_0, am_cs_i, am_cs_l, am_cs_r, m_uI_K, m_uI_N, m_uI_R, m_uI_L, m_uI_I, m_uL_K, m_uL_N, m_uL_R, m_uL_I, m_uL_L, m_uR_K, m_uR_N, m_uR_I, m_uR_L, m_uR_R, true_and, and_true, true_implies, false_implies, not_true_eq_false, not_false_eq_true, if_true, if_false, false_and, and_false]
              exact h9
            · by_cases w12 : isW t (ownW.getD 12 []) = true
              · have h6 := (hw 12 (by omega)).mpr w12
                have hsp : spSt T n D t = spBook T n D t := by unfold spSt; rw [if_neg w1, if_neg w2, if_neg w3, if_neg w4, if_neg w9, if_pos w12]
                rw [hsp] at hQ
                have et : am_tab (0) [120, 127, 142, 157, 172, 227, 227, 227, 227, 179, 227, 227, 186, 227, 227, 193, 227, 200] 227 (nI 12) = 186 := by decide
                rw [h6, et]
                simp +decide only [qX2_readStatement_0, qX2_readStatement_1, lx hL, am_w1_i, am_w1_r, am_w1_x, am_w1_l, am_w1_w, va_rf_s, am_push_n, am_push_s, am_cs_0, am_cs_i, am_cs_l, am_cs_r, m_uI_K, m_uI_N, m_uI_R, m_uI_L, m_uI_I, m_uL_K, m_uL_N, m_uL_R, m_uL_I, m_uL_L, m_uR_K, m_uR_N, m_uR_I, m_uR_L, m_uR_R, true_and, and_true, true_implies, false_implies, not_true_eq_false, not_false_eq_true, if_true, if_false, false_and, and_false]
                refine b_book hz (d + 115) c D t M _ hG hC hRr h0 (fun M1 E1 => ?_)
                have h9 := hQ M1 E1
                simp +decide only [qX2_readStatement_0, qX2_readStatement_1, am_w1_i, am_w1_r, am_w1_x, am_w1_l, am_w1_w, va_rf_s, am_push_n, am_push_s, am_cs_0, am_cs_i, am_cs_l, am_cs_r, m_uI_K, m_uI_N, m_uI_R, m_uI_L, m_uI_I, m_uL_K, m_uL_N, m_uL_R, m_uL_I, m_uL_L, m_uR_K, m_uR_N, m_uR_I, m_uR_L, m_uR_R, true_and, and_true, true_implies, false_implies, not_true_eq_false, not_false_eq_true, if_true, if_false, false_and, and_false]
                exact h9
              · by_cases w15 : isW t (ownW.getD 15 []) = true
                · have h6 := (hw 15 (by omega)).mpr w15
                  have hsp : spSt T n D t = spSeen T n D t := by unfold spSt; rw [if_neg w1, if_neg w2, if_neg w3, if_neg w4, if_neg w9, if_neg w12, if_pos w15]
                  rw [hsp] at hQ
                  have et : am_tab (0) [120, 127, 142, 157, 172, 227, 227, 227, 227, 179, 227, 227, 186, 227, 227, 193, 227, 200] 227 (nI 15) = 193 := by decide
                  rw [h6, et]
                  simp +decide only [qX2_readStatement_0, qX2_readStatement_1, lx hL, am_w1_i, am_w1_r, am_w1_x, am_w1_l, am_w1_w, va_rf_s, am_push_n, am_push_s, am_cs_0, am_cs_i, am_cs_l, am_cs_r, m_uI_K, m_uI_N, m_uI_R, m_uI_L, m_uI_I, m_uL_K, m_uL_N, m_uL_R, m_uL_I, m_uL_L, m_uR_K, m_uR_N, m_uR_I, m_uR_L, m_uR_R, true_and, and_true, true_implies, false_implies, not_true_eq_false, not_false_eq_true, if_true, if_false, false_and, and_false]
                  refine b_seen hz (d + 115) c D t M _ hG hC hRr h0 (fun M1 E1 => ?_)
                  have h9 := hQ M1 E1
                  simp +decide only [qX2_readStatement_0, qX2_readStatement_1, am_w1_i, am_w1_r, am_w1_x, am_w1_l, am_w1_w, va_rf_s, am_push_n, am_push_s, am_cs_0, am_cs_i, am_cs_l, am_cs_r, m_uI_K, m_uI_N, m_uI_R, m_uI_L, m_uI_I, m_uL_K, m_uL_N, m_uL_R, m_uL_I, m_uL_L, m_uR_K, m_uR_N, m_uR_I, m_uR_L, m_uR_R, true_and, and_true, true_implies, false_implies, not_true_eq_false, not_false_eq_true, if_true, if_false, false_and, and_false]
                  exact h9
                · by_cases w17 : isW t (ownW.getD 17 []) = true
                  · have h6 := (hw 17 (by omega)).mpr w17
                    have hsp : spSt T n D t = spLuck T n D t := by unfold spSt; rw [if_neg w1, if_neg w2, if_neg w3, if_neg w4, if_neg w9, if_neg w12, if_neg w15, if_pos w17]
                    rw [hsp] at hQ
                    have et : am_tab (0) [120, 127, 142, 157, 172, 227, 227, 227, 227, 179, 227, 227, 186, 227, 227, 193, 227, 200] 227 (nI 17) = 200 := by decide
                    have h9 := b_luck hz (d + 117) c D t M Q hG h0 hQ
                    rw [h6, et]
                    simp +decide only [qX2_readStatement_0, qX2_readStatement_1, lx hL, am_w1_i, am_w1_r, am_w1_x, am_w1_l, am_w1_w, va_rf_s, am_push_n, am_push_s, am_cs_0, am_cs_i, am_cs_l, am_cs_r, m_uI_K, m_uI_N, m_uI_R, m_uI_L, m_uI_I, m_uL_K, m_uL_N, m_uL_R, m_uL_I, m_uL_L, m_uR_K, m_uR_N, m_uR_I, m_uR_L, m_uR_R, true_and, and_true, true_implies, false_implies, not_true_eq_false, not_false_eq_true, if_true, if_false, false_and, and_false] at h9 ⊢
                    exact h9
                  · have hsp : spSt T n D t = .inl (1, tS t) := by unfold spSt; rw [if_neg w1, if_neg w2, if_neg w3, if_neg w4, if_neg w9, if_neg w12, if_neg w15, if_neg w17]
                    have et : am_tab (0) [120, 127, 142, 157, 172, 227, 227, 227, 227, 179, 227, 227, 186, 227, 227, 193, 227, 200] 227 (mI M 165 6) = 227 := by
                      rcases word_r hR with q | ⟨k, hk, q⟩
                      · rw [q]; decide
                      · rw [q]
                        refine tabW k hk (fun w => ?_)
                        have hk' := (hw k hk).mp q
                        rcases w with rfl | rfl | rfl | rfl | rfl | rfl | rfl | rfl | rfl
                        · exact w0 hk'
                        · exact w1 hk'
                        · exact w2 hk'
                        · exact w3 hk'
                        · exact w4 hk'
                        · exact w9 hk'
                        · exact w12 hk'
                        · exact w15 hk'
                        · exact w17 hk'
                    rw [et]
                    simp +decide only [qX2_readStatement_0, qX2_readStatement_1, lx hL, am_w1_i, am_w1_r, am_w1_x, am_w1_l, am_w1_w, va_rf_s, am_push_n, am_push_s, am_cs_0, am_cs_i, am_cs_l, am_cs_r, m_uI_K, m_uI_N, m_uI_R, m_uI_L, m_uI_I, m_uL_K, m_uL_N, m_uL_R, m_uL_I, m_uL_L, m_uR_K, m_uR_N, m_uR_I, m_uR_L, m_uR_R, true_and, and_true, true_implies, false_implies, not_true_eq_false, not_false_eq_true, if_true, if_false, false_and, and_false]
                    rw [show (1 : Int32) = nI 1 from rfl]
                    refine c_x_refuse (d + 119) n 1 T (.inr t) M _ hL (by omega) hst (fun M1 g1 h1 => ?_)
                    have h9 := bad hsp M1 g1 h1
                    simp +decide only [qX2_readStatement_0, qX2_readStatement_1, am_w1_i, am_w1_r, am_w1_x, am_w1_l, am_w1_w, va_rf_s, am_push_n, am_push_s, am_cs_0, am_cs_i, am_cs_l, am_cs_r, m_uI_K, m_uI_N, m_uI_R, m_uI_L, m_uI_I, m_uL_K, m_uL_N, m_uL_R, m_uL_I, m_uL_L, m_uR_K, m_uR_N, m_uR_I, m_uR_L, m_uR_R, true_and, and_true, true_implies, false_implies, not_true_eq_false, not_false_eq_true, if_true, if_false, false_and, and_false]
                    exact h9
end
end
section
/-! the class: a text is read -/
def tOp (a j : Nat) : Prop := (a = 164 ∧ j = 1) ∨ (a = 165 ∧ j = 1)
theorem tOp_free : ∀ q ∈ ly_F, ¬ tOp q.1 q.2.1 := fun q hq w => by
  have h := lyF_free q hq
  rcases w with w | w
  · exact h.2.1 w
  · exact h.2.2.1 w
def tR1 (a j : Nat) : Prop := a = 165 ∧ j = 1
theorem tR1_free : ∀ q ∈ ly_F, ¬ tR1 q.1 q.2.1 := fun q hq w => (lyF_free q hq).2.2.1 w
section
variable {T : Nat → Nat} {n z : Nat}
theorem c_x_sclear (d : Nat) (M : am_M) (Q : Option Value → am_M → Prop) (hL : Lay M) (hz : z = 2 ∨ z = 83) (hQ : ∀ M', gF (sSea z) nT M M' → PsX M' z dat0 0 → Q none M') : am_E am_P0 d 52 [.ref z] M Q := by
  rw [eX5_clear]
  simp +decide only [qX5_clear, lz hL hz, am_w1_i, am_w1_r, am_w1_x, am_w1_l, am_w1_w, va_rf_s, am_push_n, am_push_s, am_cs_0, am_cs_i, am_cs_l, am_cs_r, m_uI_K, m_uI_N, m_uI_R, m_uI_L, m_uI_I, m_uL_K, m_uL_N, m_uL_R, m_uL_I, m_uL_L, m_uR_K, m_uR_N, m_uR_I, m_uR_L, m_uR_R, true_and, and_true, true_implies, false_implies, not_true_eq_false, not_false_eq_true, if_true, if_false, false_and, and_false]
  refine hQ _ (gF_trans (gF_i _ (Or.inr ⟨by omega, by omega⟩)) (gF_trans (gF_i _ (Or.inr ⟨by omega, by omega⟩)) (gF_trans (gF_i _ (Or.inr ⟨by omega, by omega⟩)) (gF_trans (gF_i _ (Or.inr ⟨by omega, by omega⟩)) (gF_trans (gF_i _ (Or.inr ⟨by omega, by omega⟩)) (gF_trans (gF_i _ (Or.inr ⟨by omega, by omega⟩)) (gF_trans (gF_i _ (Or.inr ⟨by omega, by omega⟩)) (gF_trans (gF_i _ (Or.inr ⟨by omega, by omega⟩)) (gF_i _ (Or.inr ⟨by omega, by omega⟩)))))))))) ⟨⟨?_, ?_, ?_, ?_⟩, fun s sp hs => absurd hs (by show ¬ (none : Option Shp) = some sp; simp), ⟨?_, fun i g hi => absurd hi (by show ¬ (none : Option (Nat × Nat × Nat)) = some g; simp)⟩, ⟨⟨?_, fun k r hr => absurd hr (by show ¬ (none : Option (Den × Den)) = some r; simp)⟩, ⟨?_, fun k r hr => absurd hr (by show ¬ (none : Option (Den × Den)) = some r; simp)⟩, ⟨?_, fun k r hr => absurd hr (by show ¬ (none : Option (Den × Den)) = some r; simp)⟩⟩, ⟨?_, by omega⟩⟩
  · simp [m_uI_I]; rfl
  · simp [m_uI_I]; rfl
  · simp [m_uI_I]; rfl
  · simp [m_uI_I]; rfl
  · simp [m_uI_I]; rfl
  · simp [m_uI_I]; rfl
  · simp [m_uI_I]; rfl
  · simp [m_uI_I]; rfl
  · simp [m_uI_I]; rfl
def tk0 : Tok := (0, 0, [], 0, 0)
theorem c_x_ropen (d : Nat) (M : am_M) (Q : Option Value → am_M → Prop) (hL : Lay M) (hn : n ≤ 1800) (hT : ∀ j, j < 1800 → T j < 256 ∧ mI M 1 j = nI (T j)) (hO : OwX M) (hQ : ∀ M', gF sRd tR1 M M' → Lay M' → StR M' T n (advR T n tk0) → Q none M') : am_E am_P0 (d + 2) 34 [.ref 165, .ref 1, .int (nI n)] M Q := by
  have g1 : gF sRd tR1 M (uR M 165 1 (some 1)) := gF_r _ ⟨rfl, rfl⟩
  have L1 : Lay (uR M 165 1 (some 1)) := gF_Lay g1 hL tR1_free
  have hmi := fun M Q => c_minI (d + 1) (nI n) 1800 M Q
  have em : (if (1800 : Int32) < nI n then (1800 : Int32) else nI n) = nI n := by rw [if_neg]; rw [show (1800 : Int32) = nI 1800 from rfl, ni_lt (by omega) (by omega)]; omega
  have e18 : Int32.ofNat 1800 = (1800 : Int32) := rfl
  rw [eX3_open]
  simp +decide only [qX3_open, lx hL, e18, hmi, em, am_w1_i, am_w1_r, am_w1_x, am_w1_l, am_w1_w, va_rf_s, am_push_n, am_push_s, am_cs_0, am_cs_i, am_cs_l, am_cs_r, m_uI_K, m_uI_N, m_uI_R, m_uI_L, m_uI_I, m_uL_K, m_uL_N, m_uL_R, m_uL_I, m_uL_L, m_uR_K, m_uR_N, m_uR_I, m_uR_L, m_uR_R, true_and, and_true, true_implies, false_implies, not_true_eq_false, not_false_eq_true, if_true, if_false, false_and, and_false]
  obtain ⟨M2, hM2⟩ : ∃ M2, M2 = uI (uI (uI (uI (uI (uR M 165 1 (some 1)) 165 2 (nI n)) 165 3 0) 165 8 0) 165 9 (-1)) 165 4 0 := ⟨_, rfl⟩
  have g2 : gF sRd tR1 M M2 := by rw [hM2]; exact gF_trans g1 (gF_trans (gF_i _ rfl) (gF_trans (gF_i _ rfl) (gF_trans (gF_i _ rfl) (gF_trans (gF_i _ rfl) (gF_i _ rfl)))))
  have L2 : Lay M2 := by rw [hM2]; exact L1
  have hT2 : TpX M2 T n := ⟨by rw [hM2]; simp [m_uI_R, m_uR_R], by rw [hM2]; simp [m_uI_I], hn, fun j hj => ⟨(hT j hj).1, by rw [g2.1 _ _ (by unfold sRd; omega)]; exact (hT j hj).2⟩⟩
  have hO2 : OwX M2 := OwX_g hO g2 (fun j w => by unfold sRd at w; omega)
  have hG0 : tkG T n tk0 := ⟨Nat.zero_le _, Nat.le_refl _, by show 0 ≤ 3; omega, fun q => (by rcases q with q | q <;> cases q), fun _ => Or.inl rfl, fun q => (by cases q), fun q => (by cases q), fun q => (by cases q), fun q => absurd rfl q⟩
  rw [← hM2]
  refine c_x_stepW d n T tk0 M2 _ L2 hT2 hO2 (by rw [hM2]; simp [m_uI_I]) (by rw [hM2]; simp [m_uI_I]; rfl) (by rw [hM2]; simp [m_uI_I]; rfl) hG0 (by rw [hM2]; simp [m_uI_I]) (fun h4 M3 g3 f3 => ?_) (fun h4 M3 g3 f3 => ?_)
  · have h0 := hQ M3 (gF_trans g2 (gF_up g3 (fun _ _ q => q) (fun _ _ q => q.elim))) (gF_LayN g3 L2) (by unfold advR; rw [if_pos h4]; exact f3)
    simp +decide only [qX3_open, am_w1_i, am_w1_r, am_w1_x, am_w1_l, am_w1_w, va_rf_s, am_push_n, am_push_s, am_cs_0, am_cs_i, am_cs_l, am_cs_r, m_uI_K, m_uI_N, m_uI_R, m_uI_L, m_uI_I, m_uL_K, m_uL_N, m_uL_R, m_uL_I, m_uL_L, m_uR_K, m_uR_N, m_uR_I, m_uR_L, m_uR_R, true_and, and_true, true_implies, false_implies, not_true_eq_false, not_false_eq_true, if_true, if_false, false_and, and_false]
    exact h0
  · have h0 := hQ M3 (gF_trans g2 (gF_up g3 (fun _ _ q => q) (fun _ _ q => q.elim))) (gF_LayN g3 L2) (by unfold advR; rw [if_neg h4]; exact f3)
    simp +decide only [qX3_open, am_w1_i, am_w1_r, am_w1_x, am_w1_l, am_w1_w, va_rf_s, am_push_n, am_push_s, am_cs_0, am_cs_i, am_cs_l, am_cs_r, m_uI_K, m_uI_N, m_uI_R, m_uI_L, m_uI_I, m_uL_K, m_uL_N, m_uL_R, m_uL_I, m_uL_L, m_uR_K, m_uR_N, m_uR_I, m_uR_L, m_uR_R, true_and, and_true, true_implies, false_implies, not_true_eq_false, not_false_eq_true, if_true, if_false, false_and, and_false]
    exact h0
theorem c_x_popen (d : Nat) (M : am_M) (Q : Option Value → am_M → Prop) (hL : Lay M) (hz : z = 2 ∨ z = 83) (hn : n ≤ 1800) (hT : ∀ j, j < 1800 → T j < 256 ∧ mI M 1 j = nI (T j)) (hO : OwX M) (hQ : ∀ M', gF (sSea z) tOp M M' → Lay M' → mR M' 164 1 = some z → PsX M' z dat0 0 → StR M' T n (advR T n tk0) → Q none M') : am_E am_P0 (d + 3) 10 [.ref 164, .ref z, .ref 1, .int (nI n)] M Q := by
  have g1 : gF (sSea z) tOp M (uR M 164 1 (some z)) := gF_r _ (Or.inl ⟨rfl, rfl⟩)
  have L1 : Lay (uR M 164 1 (some z)) := gF_Lay g1 hL tOp_free
  have r1 : mR (uR M 164 1 (some z)) 164 1 = some z := by rw [m_uR_R, if_pos ⟨rfl, rfl⟩]
  rw [eX2_open]
  simp +decide only [qX2_open, lx hL, lz hL hz, am_w1_i, am_w1_r, am_w1_x, am_w1_l, am_w1_w, va_rf_s, am_push_n, am_push_s, am_cs_0, am_cs_i, am_cs_l, am_cs_r, m_uI_K, m_uI_N, m_uI_R, m_uI_L, m_uI_I, m_uL_K, m_uL_N, m_uL_R, m_uL_I, m_uL_L, m_uR_K, m_uR_N, m_uR_I, m_uR_L, m_uR_R, true_and, and_true, true_implies, false_implies, not_true_eq_false, not_false_eq_true, if_true, if_false, false_and, and_false]
  refine c_x_sclear (d + 2) _ _ L1 hz (fun M2 g2 P2 => ?_)
  have L2 := gF_LayN g2 L1
  have r2 : mR M2 164 1 = some z := by rw [g2.2.2.1 _ _ (fun q => q)]; exact r1
  have G2 : gF (sSea z) tOp M M2 := gF_trans g1 (gF_up g2 (fun _ _ q => q) (fun _ _ q => q.elim))
  simp +decide only [qX2_open, lx L2, am_w1_i, am_w1_r, am_w1_x, am_w1_l, am_w1_w, va_rf_s, am_push_n, am_push_s, am_cs_0, am_cs_i, am_cs_l, am_cs_r, m_uI_K, m_uI_N, m_uI_R, m_uI_L, m_uI_I, m_uL_K, m_uL_N, m_uL_R, m_uL_I, m_uL_L, m_uR_K, m_uR_N, m_uR_I, m_uR_L, m_uR_R, true_and, and_true, true_implies, false_implies, not_true_eq_false, not_false_eq_true, if_true, if_false, false_and, and_false]
  refine c_x_ropen d M2 _ L2 hn (fun j hj => ⟨(hT j hj).1, by rw [G2.1 _ _ (by unfold sSea; omega)]; exact (hT j hj).2⟩) (OwX_g hO G2 (fun j w => by unfold sSea at w; omega)) (fun M3 g3 L3 h3 => ?_)
  have hf : FmX M3 z 0 := ⟨by rw [g3.1 _ _ (by unfold sRd; omega)]; exact P2.2.2.2.2.1, by omega⟩
  have h0 := hQ M3 (gF_trans G2 (gF_up g3 (fun a j q => Or.inl q) (fun _ _ q => Or.inr q))) L3 (by rw [g3.2.2.1 _ _ (fun q => by unfold tR1 at q; omega)]; exact r2) (PsX_g P2 g3 (by decide) (fun a j q1 q2 _ _ _ _ w => by unfold sRd at w; omega) hf (Nat.le_refl _)) h3
  simp +decide only [qX2_open, am_w1_i, am_w1_r, am_w1_x, am_w1_l, am_w1_w, va_rf_s, am_push_n, am_push_s, am_cs_0, am_cs_i, am_cs_l, am_cs_r, m_uI_K, m_uI_N, m_uI_R, m_uI_L, m_uI_I, m_uL_K, m_uL_N, m_uL_R, m_uL_I, m_uL_L, m_uR_K, m_uR_N, m_uR_I, m_uR_L, m_uR_R, true_and, and_true, true_implies, false_implies, not_true_eq_false, not_false_eq_true, if_true, if_false, false_and, and_false]
  exact h0
end
end
section
/-! the class: all statements of a text -/
section
variable {T : Nat → Nat} {n z : Nat}
theorem bR_inr {β : Type} {r : Rt} {k : Tok → Sum (Nat × Nat) β} {q : β} (h : bR r k = .inr q) : ∃ t, r = .inr t ∧ k t = .inr q := by
  cases r with
  | inl e => cases h
  | inr t => exact ⟨t, rfl, h⟩
theorem spSt_C {D : Dat} {t : Tok} {q : Tok × Dat} (h : spSt T n D t = .inr q) : dC q.2 = dC D ∧ dR q.2 = dR D := by
  unfold spSt at h
  split at h
  · unfold spDepth at h
    rw [spSum_r] at h
    cases hr : spRl T n true (decide (12 ≤ (dRd D).length)) t with
    | inl e => rw [hr] at h; cases h
    | inr p => rw [hr] at h; cases h; exact ⟨rfl, rfl⟩
  · split at h
    · unfold spCost at h
      rw [spSum_r] at h
      cases hr : spRl T n true (decide (12 ≤ (dRc D).length)) t with
      | inl e => rw [hr] at h; cases h
      | inr p => rw [hr] at h; cases h; exact ⟨rfl, rfl⟩
    · split at h
      · unfold spQuiet at h
        rw [spTest_r] at h
        cases hr : spRl T n false (decide (6 ≤ (dRq D).length)) t with
        | inl e => rw [hr] at h; cases h
        | inr p => rw [hr] at h; cases h; exact ⟨rfl, rfl⟩
      · split at h
        · unfold spShip at h
          split at h
          · cases h
          · obtain ⟨t1, -, h1⟩ := bR_inr h
            split at h1
            · cases h1
            · obtain ⟨t2, -, h2⟩ := bR_inr h1
              cases h2; exact ⟨rfl, rfl⟩
        · split at h
          · unfold spSay at h
            split at h
            · cases h
            · obtain ⟨t1, -, h1⟩ := bR_inr h
              obtain ⟨t2, -, h2⟩ := bR_inr h1
              split at h2
              · cases h2
              · obtain ⟨t3, -, h3⟩ := bR_inr h2
                cases h3; exact ⟨rfl, rfl⟩
          · split at h
            · unfold spBook at h
              split at h
              · cases h
              · obtain ⟨t1, -, h1⟩ := bR_inr h
                cases h1; exact ⟨rfl, rfl⟩
            · split at h
              · unfold spSeen at h
                split at h
                · cases h
                · obtain ⟨t1, -, h1⟩ := bR_inr h
                  cases h1; exact ⟨rfl, rfl⟩
              · split at h
                · unfold spLuck at h
                  obtain ⟨t1, -, h1⟩ := bR_inr h
                  cases h1; exact ⟨rfl, rfl⟩
                · cases h
theorem sgn_lt {t t' : Tok} (hG : tkG T n t) (h : signR T n 59 (.inr t) = .inr t') : tS t < tS t' := by
  have e : signR T n 59 (.inr t) = if isS t 59 = true then advR T n t else .inl (1, tS t) := rfl
  rw [e] at h
  by_cases c : isS t 59 = true
  · rw [if_pos c] at h
    exact AfR_lt hG (by have := isS_1 c; omega) (by rw [← h]; exact AfR_1 hG.1)
  · rw [if_neg c] at h; cases h
theorem GdX_r {M M' : am_M} {D : Dat} {c : Nat} {t t' : Tok} (hz : z = 2 ∨ z = 83) (hG : GdX T n z M D c t) (hg : gF sRd nT M M') (hR : RdX M' T n t') (hc : c ≤ tS t') : GdX T n z M' D c t' := by
  obtain ⟨hL, hp, hR', hP, hD, hc'⟩ := hG
  obtain ⟨P1, p1⟩ := PsX_p hz hD hp hP hg
  exact ⟨gF_LayN hg hL, p1, hR, P1, hD, hc⟩
/-- the sign behind a statement -/
def sgT (T : Nat → Nat) (n : Nat) : Rq → Rq
  | .inl e => .inl e
  | .inr q => bR (signR T n 59 (.inr q.1)) (fun t' => .inr (t', q.2))
/-- behind a statement: its sign, and the end of the turn -/
theorem l_x_sea49 (hz : z = 2 ∨ z = 83) (hn : n ≤ 1800) (d k : Nat) (v2 v3 : Value) (t : Tok) (M M1 : am_M) (Q : Option Value → am_M → Prop) (res : Rq) (hE : EdX T n z t M M1 res) (hL1 : Lay M1) (hkt : k ≤ tS t)
    (hF : ∀ M' e x, sgT T n res = .inl e → gF (sSea z) nT M M' → Lay M' → FaX M' z T n e → am_P am_P0 (d + 122) (am_look tX10_sea) 72 [.ref 0, .int x, v2, v3] [] M' Q)
    (hN : ∀ M' D' c' t', sgT T n res = .inr (t', D') → gF (sSea z) nT M M' → GdX T n z M' D' c' t' → k + 1 ≤ tS t' → tS t < tS t' → am_P am_P0 (d + 122) (am_look tX10_sea) (if t'.1 = 0 then 72 else 21) [.ref 0, .int (nI (k + 1)), v2, v3] [] M' Q) : am_P am_P0 (d + 122) (am_look tX10_sea) 37 [.ref 0, .int (nI k), v2, v3] [] M1 Q := by
  have faultEnd : ∀ M' e, sgT T n res = .inl e → gF (sSea z) nT M M' → Lay M' → FaX M' z T n e → am_P am_P0 (d + 122) (am_look tX10_sea) 49 [.ref 0, .int (nI k), v2, v3] [] M' Q := fun M' e he g L' F' => by
    have h4 : mI M' 165 4 = 0 := F'.1.2.2.2.2.2.1
    have h0 := hF M' e (nI (k + 1)) he g L' F'
    simp +decide only [qX10_sea_0, qX10_sea_1, qX10_sea_2, lx L', h4, ni_add1, am_w1_i, am_w1_r, am_w1_x, am_w1_l, am_w1_w, va_rf_s, am_push_n, am_push_s, am_cs_0, am_cs_i, am_cs_l, am_cs_r, m_uI_K, m_uI_N, m_uI_R, m_uI_L, m_uI_I, m_uL_K, m_uL_N, m_uL_R, m_uL_I, m_uL_L, m_uR_K, m_uR_N, m_uR_I, m_uR_L, m_uR_R, true_and, and_true, true_implies, false_implies, not_true_eq_false, not_false_eq_true, if_true, if_false, false_and, and_false] at h0 ⊢
    exact h0
  simp +decide only [qX10_sea_0, qX10_sea_1, qX10_sea_2, lx hL1, am_w1_i, am_w1_r, am_w1_x, am_w1_l, am_w1_w, va_rf_s, am_push_n, am_push_s, am_cs_0, am_cs_i, am_cs_l, am_cs_r, m_uI_K, m_uI_N, m_uI_R, m_uI_L, m_uI_I, m_uL_K, m_uL_N, m_uL_R, m_uL_I, m_uL_L, m_uR_K, m_uR_N, m_uR_I, m_uR_L, m_uR_R, true_and, and_true, true_implies, false_implies, not_true_eq_false, not_false_eq_true, if_true, if_false, false_and, and_false]
  rw [show (59 : Int32) = nI 59 from rfl]
  cases res with
  | inl e =>
    obtain ⟨g1, F1⟩ : gF (sSea z) nT M M1 ∧ FaX M1 z T n e := hE
    refine f_sign (d + 119) 59 e M1 _ hL1 hz (by omega) F1 (fun M2 g2 F2 => ?_)
    have h0 := faultEnd M2 e rfl (gF_trans g1 (sFz_S g2)) (gF_LayN g2 hL1) F2
    simp +decide only [qX10_sea_0, qX10_sea_1, qX10_sea_2, lx (gF_LayN g2 hL1), ni_add1, am_w1_i, am_w1_r, am_w1_x, am_w1_l, am_w1_w, va_rf_s, am_push_n, am_push_s, am_cs_0, am_cs_i, am_cs_l, am_cs_r, m_uI_K, m_uI_N, m_uI_R, m_uI_L, m_uI_I, m_uL_K, m_uL_N, m_uL_R, m_uL_I, m_uL_L, m_uR_K, m_uR_N, m_uR_I, m_uR_L, m_uR_R, true_and, and_true, true_implies, false_implies, not_true_eq_false, not_false_eq_true, if_true, if_false, false_and, and_false] at h0 ⊢
    exact h0
  | inr q =>
    obtain ⟨g1, ⟨c1, G1⟩, ht1⟩ : gF (sSea z) nT M M1 ∧ (∃ c', GdX T n z M1 q.2 c' q.1) ∧ tS t < tS q.1 := hE
    refine c_x_takeSign (d + 119) n 59 T (.inr q.1) M1 _ hL1 (by omega) G1.2.2.1 (fun M2 g2 h2 => ?_)
    have L2 := gF_LayN g2 hL1
    cases hs : signR T n 59 (.inr q.1) with
    | inl e =>
      rw [hs] at h2
      have F2 : FaX M2 z T n e := ⟨h2, by rw [g2.2.2.1 _ _ (fun w => w)]; exact G1.2.1, c1, FmX_g G1.2.2.2.1.2.2.2.2 g2 (fun w => by unfold sRd at w; omega)⟩
      have h0 := faultEnd M2 e (by show bR (signR T n 59 (.inr q.1)) _ = _; rw [hs]; rfl) (gF_trans g1 (sRd_S g2)) L2 F2
      simp +decide only [qX10_sea_0, qX10_sea_1, qX10_sea_2, lx L2, ni_add1, am_w1_i, am_w1_r, am_w1_x, am_w1_l, am_w1_w, va_rf_s, am_push_n, am_push_s, am_cs_0, am_cs_i, am_cs_l, am_cs_r, m_uI_K, m_uI_N, m_uI_R, m_uI_L, m_uI_I, m_uL_K, m_uL_N, m_uL_R, m_uL_I, m_uL_L, m_uR_K, m_uR_N, m_uR_I, m_uR_L, m_uR_R, true_and, and_true, true_implies, false_implies, not_true_eq_false, not_false_eq_true, if_true, if_false, false_and, and_false] at h0 ⊢
      exact h0
    | inr t' =>
      rw [hs] at h2
      have hlt := sgn_lt (GdX_t G1) hs
      have h2' : RdX M2 T n t' := h2
      have hG2 : GdX T n z M2 q.2 c1 t' := GdX_r hz G1 g2 h2' (by have := G1.2.2.2.2.2; omega)
      have h0 := hN M2 q.2 c1 t' (by show bR (signR T n 59 (.inr q.1)) _ = _; rw [hs]; rfl) (gF_trans g1 (sRd_S g2)) hG2 (by omega) (by omega)
      have h4 := h2'.2.2.2.2.1
      have hGt := GdX_t hG2
      by_cases c0 : t'.1 = 0
      · rw [if_pos c0] at h0
        have e4 : nI t'.1 = 0 := by rw [c0]; rfl
        simp +decide only [qX10_sea_0, qX10_sea_1, qX10_sea_2, lx L2, h4, e4, ni_add1, am_w1_i, am_w1_r, am_w1_x, am_w1_l, am_w1_w, va_rf_s, am_push_n, am_push_s, am_cs_0, am_cs_i, am_cs_l, am_cs_r, m_uI_K, m_uI_N, m_uI_R, m_uI_L, m_uI_I, m_uL_K, m_uL_N, m_uL_R, m_uL_I, m_uL_L, m_uR_K, m_uR_N, m_uR_I, m_uR_L, m_uR_R, true_and, and_true, true_implies, false_implies, not_true_eq_false, not_false_eq_true, if_true, if_false, false_and, and_false] at h0 ⊢
        exact h0
      · rw [if_neg c0] at h0
        have n4 : ¬ nI t'.1 = 0 := fun w => c0 ((ni_eq (b := 0) (by have := hGt.2.2.1; omega) (by omega)).mp w)
        have hz0 := tkG_0 hGt c0
        have hlt8 : nI (k + 1) < 1800 := by rw [show (1800 : Int32) = nI 1800 from rfl, ni_lt (by omega) (by omega)]; omega
        simp +decide only [qX10_sea_0, qX10_sea_1, qX10_sea_2, lx L2, h4, ni_add1, am_w1_i, am_w1_r, am_w1_x, am_w1_l, am_w1_w, va_rf_s, am_push_n, am_push_s, am_cs_0, am_cs_i, am_cs_l, am_cs_r, m_uI_K, m_uI_N, m_uI_R, m_uI_L, m_uI_I, m_uL_K, m_uL_N, m_uL_R, m_uL_I, m_uL_L, m_uR_K, m_uR_N, m_uR_I, m_uR_L, m_uR_R, true_and, and_true, true_implies, false_implies, not_true_eq_false, not_false_eq_true, if_true, if_false, false_and, and_false]
        rw [br_n n4, br_p hlt8]
        exact h0
/-- the rest of a text -/
theorem l_x_seaL (hz : z = 2 ∨ z = 83) (hn : n ≤ 1800) (d : Nat) (v2 v3 : Value) (M0 : am_M) (Q : Option Value → am_M → Prop) :
    ∀ (f k : Nat) (D : Dat) (c : Nat) (t : Tok) (M : am_M), n + 1 ≤ f + tS t → 1 ≤ k → k ≤ tS t → ¬ t.1 = 0 → 1 ≤ dC D → 1 ≤ dR D → gF (sSea z) nT M0 M → GdX T n z M D c t →
    (∀ M' e x, spR T n f k D t = some (.inl e) → gF (sSea z) nT M0 M' → Lay M' → FaX M' z T n e → am_P am_P0 (d + 122) (am_look tX10_sea) 72 [.ref 0, .int x, v2, v3] [] M' Q) →
    (∀ M' k' D' c' t', spR T n f k D t = some (.inr (k', D')) → k' ≤ 1800 → 1 ≤ dC D' → 1 ≤ dR D' → gF (sSea z) nT M0 M' → GdX T n z M' D' c' t' → am_P am_P0 (d + 122) (am_look tX10_sea) 72 [.ref 0, .int (nI k'), v2, v3] [] M' Q) →
    am_P am_P0 (d + 122) (am_look tX10_sea) 21 [.ref 0, .int (nI k), v2, v3] [] M Q := by
  intro f
  induction f with
  | zero =>
    intro k D c t M hf hk hkt h0 hC hR hg hG hF hN
    have := GdX_t hG
    have h1 := this.1
    have h2 := this.2.1
    omega
  | succ f ih =>
    intro k D c t M hf hk hkt h0 hC hR hg hG hF hN
    have hL := hG.1
    have hz0 := tkG_0 (GdX_t hG) h0
    have es : spR T n (f + 1) k D t = match spS1 T n D t with
      | .inl e => some (.inl e)
      | .inr q => spR T n f (k + 1) q.2 q.1 := by
      show (if t.1 = 0 then _ else _) = _
      rw [if_neg h0]
      all_goals (cases spS1 T n D t <;> rfl)
    have hk0 : ¬ nI k = 0 := fun w => by rw [show (0 : Int32) = nI 0 from rfl, ni_eq (by omega) (by omega)] at w; omega
    rw [hX10_sea_21]
    simp +decide only [qX10_sea_0, qX10_sea_1, qX10_sea_2, lx hL, am_w1_i, am_w1_r, am_w1_x, am_w1_l, am_w1_w, va_rf_s, am_push_n, am_push_s, am_cs_0, am_cs_i, am_cs_l, am_cs_r, m_uI_K, m_uI_N, m_uI_R, m_uI_L, m_uI_I, m_uL_K, m_uL_N, m_uL_R, m_uL_I, m_uL_L, m_uR_K, m_uR_N, m_uR_I, m_uR_L, m_uR_R, true_and, and_true, true_implies, false_implies, not_true_eq_false, not_false_eq_true, if_true, if_false, false_and, and_false]
    rw [br_p hk0]
    refine b_stmt hz hn d c D t M _ hG hC hR h0 (fun M1 E1 => ?_)
    have L1 : Lay M1 := by
      cases hr : spSt T n D t with
      | inl e => rw [hr] at E1; exact gF_LayN E1.1 hL
      | inr q => rw [hr] at E1; exact gF_LayN E1.1 hL
    have es1 : spS1 T n D t = sgT T n (spSt T n D t) := by
      unfold spS1 sgT
      cases spSt T n D t <;> rfl
    have h9 := l_x_sea49 hz hn d k v2 v3 t M M1 Q (spSt T n D t) E1 L1 hkt (fun M' e x he g L' F' => hF M' e x (by rw [es, es1, he]) (gF_trans hg g) L' F') (fun M' D' c' t' he g G' hk' htt => ?_)
    · simp +decide only [qX10_sea_0, qX10_sea_1, qX10_sea_2, lx L1, am_w1_i, am_w1_r, am_w1_x, am_w1_l, am_w1_w, va_rf_s, am_push_n, am_push_s, am_cs_0, am_cs_i, am_cs_l, am_cs_r, m_uI_K, m_uI_N, m_uI_R, m_uI_L, m_uI_I, m_uL_K, m_uL_N, m_uL_R, m_uL_I, m_uL_L, m_uR_K, m_uR_N, m_uR_I, m_uR_L, m_uR_R, true_and, and_true, true_implies, false_implies, not_true_eq_false, not_false_eq_true, if_true, if_false, false_and, and_false] at h9 ⊢
      exact h9
    · have hCC : dC D' = dC D ∧ dR D' = dR D := by
        cases hr : spSt T n D t with
        | inl e => rw [hr] at he; cases he
        | inr q =>
          rw [hr] at he
          obtain ⟨t1, -, h2⟩ := bR_inr he
          cases h2
          exact spSt_C hr
      have hGt := GdX_t G'
      by_cases c0 : t'.1 = 0
      · rw [if_pos c0]
        have h1 := hGt.1
        have h2 := hGt.2.1
        refine hN M' (k + 1) D' c' t' ?_ (by omega) (by omega) (by omega) (gF_trans hg g) G'
        rw [es, es1, he]
        cases f with
        | zero => have := hGt.1; have := hGt.2.1; omega
        | succ f => show (if t'.1 = 0 then _ else _) = _; rw [if_pos c0]
      · rw [if_neg c0]
        have hz1 := tkG_0 hGt c0
        refine ih (k + 1) D' c' t' M' (by omega) (by omega) hk' c0 (by omega) (by omega) (gF_trans hg g) G' (fun M'' e x h1 g1 L1 F1 => hF M'' e x (by rw [es, es1, he]; exact h1) g1 L1 F1) (fun M'' k' D'' c'' t'' h1 hk1 h2 h3 g1 G1 => hN M'' k' D'' c'' t'' (by rw [es, es1, he]; exact h1) hk1 h2 h3 g1 G1)
end
end
section
/-! the class: sea() -/
def sSq (z a j : Nat) : Prop := sSea z a j ∨ (a = 0 ∧ (j = 1 ∨ j = 5 ∨ j = 6)) ∨ (a = 169 ∧ j = 1)
def sTk (a j : Nat) : Prop := ∃ s, s < 8 ∧ sTb s a j
def sSr (z a j : Nat) : Prop := sSq z a j ∨ (a = 0 ∧ j = 13) ∨ sTk a j
def tSr (a j : Nat) : Prop := tOp a j ∨ (a = 0 ∧ (j = 2 ∨ j = 3)) ∨ ∃ s, s < 8 ∧ tTb s a j
set_option maxRecDepth 100000 in
theorem ly_no23 : ∀ q ∈ ly_F, ¬ (q.1 = 0 ∧ (q.2.1 = 2 ∨ q.2.1 = 3)) := by decide +kernel
/-- a track that begins -/
def TkB (M : am_M) (z : Nat) (D : Dat) (s : Nat) (sp : Shp) : Prop := TrW M s sp.2.2.1 (fun p => p < 256 ∧ sp.2.2.2.1 ≤ dpF (dC D) (dR D) (dRd D) p) ∧ mR M (173 + 13 * s) 0 = some (z + 25 + 7 * s) ∧ mR M (173 + 13 * s) 1 = some z ∧ mI M (173 + 13 * s) 4 = 0 ∧ mI M (173 + 13 * s) 5 = 0 ∧ mI M (173 + 13 * s) 6 = 0
theorem TrW_gF {M M' : am_M} {s v : Nat} {wt : Nat → Prop} {S T' : Nat → Nat → Prop} (h : TrW M s v wt) (hI : RInv M) (hs : s < 8) (hg : gF S T' M M') (h1 : ∀ a j, a = 174 + 13 * s ∨ a = 175 + 13 * s ∨ a = 177 + 13 * s ∨ 336 ≤ a → ¬ S a j) (h2 : ∀ j, ¬ T' (176 + 13 * s) j) : TrW M' s v wt := by
  obtain ⟨a1, a2, a3, a4⟩ := h
  refine ⟨by rw [hg.1 _ _ (h1 _ _ (by omega))]; exact a1, a2, fun q => (inS_ext (fun i _ => hg.2.1 _ _ (h1 _ _ (by omega))) q).trans (a3 q), fun p hp => ?_⟩
  obtain ⟨k1, k2⟩ := a4 p hp
  refine ⟨by rw [hg.1 _ _ (h1 _ _ (by omega))]; exact k1, fun hk => ?_⟩
  rw [hg.1 _ _ (h1 _ _ (by omega))] at hk
  obtain ⟨r, q1, q2⟩ := k2 hk
  have hr := (hI.1 s p r hs hp q1).1
  exact ⟨r, by rw [hg.2.2.1 _ _ (h2 _)]; exact q1, fun i hi q => (inS_ext (fun j _ => hg.2.1 r _ (h1 _ _ (by omega))) q).trans (q2 i hi q)⟩
theorem tTb_176 {s s' a j : Nat} (hs : s < 8) (hs' : s' < 8) (h : tTb s a j) : ¬ a = 176 + 13 * s' := by unfold tTb at h; omega
theorem TkB_g {M M' : am_M} {z s' s : Nat} {D : Dat} {sp : Shp} (h : TkB M z D s' sp) (hI : RInv M) (hs : s < 8) (hs' : s' < 8) (hne : ¬ s' = s) (hg : gF (sTb s) (tTb s) M M') : TkB M' z D s' sp := by
  obtain ⟨a1, a2, a3, a4, a5, a6⟩ := h
  have k : ∀ j, mI M' (173 + 13 * s') j = mI M (173 + 13 * s') j := fun j => hg.1 _ _ (by unfold sTb sWb; omega)
  have kr : ∀ j, mR M' (173 + 13 * s') j = mR M (173 + 13 * s') j := fun j => hg.2.2.1 _ _ (by unfold tTb; omega)
  exact ⟨TrW_gF a1 hI hs' hg (fun a j q w => by unfold sTb sWb at w; omega) (fun j w => by unfold tTb at w; omega), by rw [kr]; exact a2, by rw [kr]; exact a3, by rw [k]; exact a4, by rw [k]; exact a5, by rw [k]; exact a6⟩
theorem PsX_t {M M' : am_M} {z c : Nat} {D : Dat} {S T' : Nat → Nat → Prop} (hz : z = 2 ∨ z = 83) (hP : PsX M z D c) (hD : DOK D) (hg : gF S T' M M') (h1 : ∀ a j, z ≤ a → a ≤ z + 80 → ¬ S a j ∨ (z + 21 ≤ a ∧ a ≤ z + 24) ∨ a = z + 8) : PsX M' z D c := by
  refine PsX_g hP hg hD.2.2.1.1 (fun a j q1 q2 q3 q4 q5 q6 => ?_) (FmX_g hP.2.2.2.2 hg ?_) (Nat.le_refl _)
  · rcases h1 a j q1 q2 with w | w | w
    · exact w
    · exact absurd w q5
    · exact absurd w q6
  · rcases h1 (z + 6) 1 (by omega) (by omega) with w | w | w
    · exact w
    · omega
    · omega
section
variable {T : Nat → Nat} {n z : Nat}
theorem l_x_begins (hz : z = 2 ∨ z = 83) (d c k : Nat) (D : Dat) (cst : Nat → Nat) (qut : Nat → Nat → Prop) (v2 : Value) (M0 : am_M) (Q : Option Value → am_M → Prop) (hD : DOK D) (hv2 : am_w1 v2 = v2)
    (hQ : ∀ M', gF sTk (fun a j => ∃ s, s < 8 ∧ tTb s a j) M0 M' → Lay M' → RInv M' → PsX M' z D c → SqX M' z (dpF (dC D) (dR D) (dRd D)) cst qut → (∀ s sp, (dSh D)[s]? = some sp → TkB M' z D s sp) → Q (some (.int (nI k))) (uI M' 0 13 0)) :
    ∀ (m s : Nat), s + m = (dSh D).length → ∀ (M : am_M), gF sTk (fun a j => ∃ s, s < 8 ∧ tTb s a j) M0 M → Lay M → RInv M → mR M 0 2 = some z → PsX M z D c → SqX M z (dpF (dC D) (dR D) (dRd D)) cst qut → (∀ s' sp, s' < s → (dSh D)[s']? = some sp → TkB M z D s' sp) → am_P am_P0 (d + 122) (am_look tX10_sea) 151 [.ref 0, .int (nI k), v2, .int (nI s)] [] M Q := by
  have h8 := hD.2.2.1.1
  intro m
  induction m with
  | zero =>
    intro s hs M hg hL hI hr hP hS hT
    have e : s = (dSh D).length := by omega
    subst e
    have hle : nI (dSh D).length ≤ nI (dSh D).length := (ni_le (by omega) (by omega)).mpr (Nat.le_refl _)
    have h0 := hQ M hg hL hI hP hS (fun s sp hsp => hT s sp (List.getElem?_eq_some_iff.mp hsp).1 hsp)
    rw [hX10_sea_151]
    simp +decide only [qX10_sea_0, qX10_sea_1, qX10_sea_2, lx hL, lz hL hz, hr, hP.1.2.2.2, am_w1_i, am_w1_r, am_w1_x, am_w1_l, am_w1_w, va_rf_s, am_push_n, am_push_s, am_cs_0, am_cs_i, am_cs_l, am_cs_r, m_uI_K, m_uI_N, m_uI_R, m_uI_L, m_uI_I, m_uL_K, m_uL_N, m_uL_R, m_uL_I, m_uL_L, m_uR_K, m_uR_N, m_uR_I, m_uR_L, m_uR_R, true_and, and_true, true_implies, false_implies, not_true_eq_false, not_false_eq_true, if_true, if_false, false_and, and_false]
    rw [br_p hle]
    exact h0
  | succ m ih =>
    intro s hs M hg hL hI hr hP hS hT
    have hs8 : s < 8 := by omega
    have hlt : ¬ nI (dSh D).length ≤ nI s := by rw [ni_le (by omega) (by omega)]; omega
    obtain ⟨sp, hsp⟩ : ∃ sp, (dSh D)[s]? = some sp := ⟨(dSh D)[s]'(by omega), List.getElem?_eq_getElem (by omega)⟩
    have hok := hD.2.2.1.2.2 sp (List.mem_of_getElem? hsp)
    have hSh := hP.2.1 s sp hsp
    have htr := ltr hL hs8
    have hrr := lsh hL hz hs8
    have hg7 : isSh (z + 25 + 7 * s) := ⟨s, hs8, by omega⟩
    have hkt : mK M (173 + 13 * s) = 18 := (lt_ hL (isTr_of hs8)).1
    rw [hX10_sea_151]
    simp +decide (disch := omega) only [qX10_sea_0, qX10_sea_1, qX10_sea_2, lx hL, lz hL hz, hr, hP.1.2.2.2, htr, hrr, hkt, ni_in_t, ni_tn, am_w1_i, am_w1_r, am_w1_x, am_w1_l, am_w1_w, va_rf_s, am_push_n, am_push_s, am_cs_0, am_cs_i, am_cs_l, am_cs_r, m_uI_K, m_uI_N, m_uI_R, m_uI_L, m_uI_I, m_uL_K, m_uL_N, m_uL_R, m_uL_I, m_uL_L, m_uR_K, m_uR_N, m_uR_I, m_uR_L, m_uR_R, true_and, and_true, true_implies, false_implies, not_true_eq_false, not_false_eq_true, if_true, if_false, false_and, and_false, true_or]
    rw [br_n hlt]
    refine c_x_Tbegin (d + 119) s (z + 25 + 7 * s) z sp.2.2.1 sp.2.2.2.1 (dpF (dC D) (dR D) (dRd D)) M _ hL hs8 hg7 hz hSh.1.2.2.1 hok.2.2.2.2.1 hok.2.2.2.2.2.1 hSh.1.2.2.2.1 hok.2.2.2.2.2.2.2.1 (fun p hp => hS.2.2.1 p hp) (fun M1 g1 L1 T1 r0 r1 f4 f5 f6 => ?_)
    have I1 : RInv M1 := gF_RInv g1 hI (fun a j s' hs' w => tTb_176 hs8 hs' w)
    have P1 : PsX M1 z D c := PsX_t hz hP hD g1 (fun a j q1 q2 => Or.inl (by unfold sTb sWb; omega))
    have S1 : SqX M1 z (dpF (dC D) (dR D) (dRd D)) cst qut := SqX_u hS (fun a j q1 q2 q3 => g1.1 _ _ (by unfold sTb sWb; omega)) (fun a j q => g1.2.1 _ _ (by unfold sTb sWb; omega))
    have h0 := ih (s + 1) (by omega) M1 (gF_trans hg (gF_up g1 (fun a j q => ⟨s, hs8, q⟩) (fun a j q => ⟨s, hs8, q⟩))) L1 I1 (by rw [g1.2.2.1 _ _ (by unfold tTb; omega)]; exact hr) P1 S1 (fun s' sp' hs' hsp' => by
      by_cases e : s' = s
      · subst e
        cases hsp.symm.trans hsp'
        exact ⟨T1, r0, r1, f4, f5, f6⟩
      · exact TkB_g (hT s' sp' (by omega) hsp') hI hs8 (by omega) e g1)
    simp +decide only [qX10_sea_0, qX10_sea_1, qX10_sea_2, hv2, ni_add1, am_w1_i, am_w1_r, am_w1_x, am_w1_l, am_w1_w, va_rf_s, am_push_n, am_push_s, am_cs_0, am_cs_i, am_cs_l, am_cs_r, m_uI_K, m_uI_N, m_uI_R, m_uI_L, m_uI_I, m_uL_K, m_uL_N, m_uL_R, m_uL_I, m_uL_L, m_uR_K, m_uR_N, m_uR_I, m_uR_L, m_uR_R, true_and, and_true, true_implies, false_implies, not_true_eq_false, not_false_eq_true, if_true, if_false, false_and, and_false]
    exact h0
theorem spSize_C {t : Tok} {q : Tok × Dat} (h : spSize T n dat0 t = .inr q) : 1 ≤ dC q.2 ∧ 1 ≤ dR q.2 := by
  unfold spSize at h
  obtain ⟨t1, h1, h2⟩ := bR_inr h
  have hv := numR_v h1
  obtain ⟨t0, ht0⟩ := numR_i h1
  have hv0 := numR_v ht0
  cases h2
  exact ⟨by show 1 ≤ (numR T n 2 16 (advR T n t)).2; omega, by show 1 ≤ (numR T n 2 16 (numR T n 2 16 (advR T n t)).1).2; omega⟩
/-- the first statement -/
noncomputable def spF (T : Nat → Nat) (n : Nat) : Rq := bR (advR T n tk0) (fun t => if isW t (ownW.getD 0 []) = true then sgT T n (spSize T n dat0 t) else .inl (1, tS t))
theorem spTx_F : spTx T n = match spF T n with
    | .inl e => some (.inl e)
    | .inr q => spR T n (n + 2) 1 q.2 q.1 := by
  unfold spTx spF
  rw [show ((0, 0, [], 0, 0) : Tok) = tk0 from rfl]
  cases advR T n tk0 with
  | inl e => rfl
  | inr t =>
    unfold bR
    dsimp only
    by_cases c : isW t (ownW.getD 0 []) = true
    · rw [if_pos c, if_pos c]
      unfold sgT
      cases spSize T n dat0 t with
      | inl e => rfl
      | inr q => cases signR T n 59 (.inr q.1) <;> rfl
    · rw [if_neg c, if_neg c]
theorem c_x_sea (hz : z = 2 ∨ z = 83) (hn : n ≤ 1800) (d z0 : Nat) (M : am_M) (Q : Option Value → am_M → Prop) (hL : Lay M) (hI : RInv M) (hz0 : z0 = 2 ∨ z0 = 83) (hr2 : mR M 0 2 = some z0) (hr3 : mR M 0 3 = some z) (h1 : mI M 0 1 = nI n) (hT : ∀ j, j < 1800 → T j < 256 ∧ mI M 1 j = nI (T j)) (hO : OwX M)
    (hF : ∀ M' e, spTx T n = some (.inl e) → gF (sSq z) tOp M M' → Lay M' → mI M' 0 1 = 0 → (1 ≤ e.1 ∧ e.1 ≤ 5) → mI M' 0 5 = nI e.1 → mI M' 169 1 = mI M 169 1 + 1 → Q (some (.int (-1))) M')
    (hN : ∀ M' k D c, spTx T n = some (.inr (k, D)) → k ≤ 1800 → DOK D → 1 ≤ dC D → 1 ≤ dR D → gF (sSr z) tSr M M' → Lay M' → RInv M' → mR M' 0 2 = some z → mR M' 0 3 = some z0 → PsX M' z D c → SqX M' z (dpF (dC D) (dR D) (dRd D)) (csF (dC D) (dR D) (dRd D) (dRc D)) (qtF (dC D) (dR D) (dRd D) (dRq D)) → (∀ s sp, (dSh D)[s]? = some sp → TkB M' z D s sp) → mI M' 0 1 = 0 → mI M' 0 5 = 0 → mI M' 0 6 = -1 → mI M' 0 13 = 0 → mI M' 169 1 = mI M 169 1 → Q (some (.int (nI k))) M') : am_E am_P0 (d + 122) 111 [.ref 0] M Q := by
  -- from the end of the reading
  have endF : ∀ M' e x v2 v3, spTx T n = some (.inl e) → gF (sSea z) tOp M M' → Lay M' → FaX M' z T n e → am_P am_P0 (d + 122) (am_look tX10_sea) 72 [.ref 0, .int x, v2, v3] [] M' Q := by
    intro M' e x v2 v3 hs g L' F'
    have h8 := F'.1.2.2.1
    obtain ⟨pl, h9⟩ : ∃ pl, mI M' 165 9 = pl := ⟨_, rfl⟩
    have hk := F'.1.2.2.2.1
    have hn8 : ¬ nI e.1 = 0 := fun w => by rw [show (0 : Int32) = nI 0 from rfl, ni_eq (by omega) (by omega)] at w; omega
    have hre : mI M' 169 1 = mI M 169 1 := g.1 _ _ (by unfold sSea; omega)
    obtain ⟨M2, hM2⟩ : ∃ M2, M2 = uI (uI (uI (uI M' 0 1 0) 0 5 (nI e.1)) 0 6 pl) 169 1 (mI M 169 1 + 1) := ⟨_, rfl⟩
    have g2 : gF (sSq z) tOp M' M2 := by rw [hM2]; exact gF_trans (gF_i _ (Or.inr (Or.inl ⟨rfl, by omega⟩))) (gF_trans (gF_i _ (Or.inr (Or.inl ⟨rfl, by omega⟩))) (gF_trans (gF_i _ (Or.inr (Or.inl ⟨rfl, by omega⟩))) (gF_i _ (Or.inr (Or.inr ⟨rfl, rfl⟩)))))
    have h0 := hF M2 e hs (gF_trans (gF_up g (fun a j q => Or.inl q) (fun _ _ q => q)) g2) (by rw [hM2]; exact L') (by rw [hM2]; simp [m_uI_I]) hk (by rw [hM2]; simp [m_uI_I]) (by rw [hM2]; simp [m_uI_I])
    have hin : (1 : Int32).toInt.toNat = 1 := rfl
    simp +decide (disch := omega) only [qX10_sea_0, qX10_sea_1, qX10_sea_2, lx L', h8, h9, hre, hin, am_w1_i, am_w1_r, am_w1_x, am_w1_l, am_w1_w, va_rf_s, am_push_n, am_push_s, am_cs_0, am_cs_i, am_cs_l, am_cs_r, m_uI_K, m_uI_N, m_uI_R, m_uI_L, m_uI_I, m_uL_K, m_uL_N, m_uL_R, m_uL_I, m_uL_L, m_uR_K, m_uR_N, m_uR_I, m_uR_L, m_uR_R, true_and, and_true, true_implies, false_implies, not_true_eq_false, not_false_eq_true, if_true, if_false, false_and, and_false]
    rw [br_n hn8, ← hM2]
    exact h0
  have endN : ∀ M' k D c t v2 v3, spTx T n = some (.inr (k, D)) → k ≤ 1800 → 1 ≤ dC D → 1 ≤ dR D → gF (sSea z) tOp M M' → GdX T n z M' D c t → jk v3 → am_P am_P0 (d + 122) (am_look tX10_sea) 72 [.ref 0, .int (nI k), v2, v3] [] M' Q := by
    intro M' k D c t v2 v3 hs hk hC hR g G' j3
    obtain ⟨L', hp, hRd, hP, hD, hc⟩ := G'
    have h8 := hRd.2.2.1
    have h9 := hRd.2.2.2.2.2.2.2.2.2
    have rr2 : mR M' 0 2 = some z0 := by rw [g.2.2.1 _ _ (by unfold tOp; omega)]; exact hr2
    have rr3 : mR M' 0 3 = some z := by rw [g.2.2.1 _ _ (by unfold tOp; omega)]; exact hr3
    have I' : RInv M' := gF_RInv g hI (fun a j s hs w => by unfold tOp at w; omega)
    have n1 : ¬ (0 = 165) := by omega
    obtain ⟨M2, hM2⟩ : ∃ M2, M2 = uR (uR (uI (uI (uI M' 0 1 0) 0 5 0) 0 6 (-1)) 0 2 (some z)) 0 3 (some z0) := ⟨_, rfl⟩
    have g2 : gF (fun a j => a = 0 ∧ (j = 1 ∨ j = 5 ∨ j = 6)) (fun a j => a = 0 ∧ (j = 2 ∨ j = 3)) M' M2 := by rw [hM2]; exact gF_trans (gF_i _ ⟨rfl, by omega⟩) (gF_trans (gF_i _ ⟨rfl, by omega⟩) (gF_trans (gF_i _ ⟨rfl, by omega⟩) (gF_trans (gF_r _ ⟨rfl, by omega⟩) (gF_r _ ⟨rfl, by omega⟩))))
    have L2 : Lay M2 := gF_Lay g2 L' ly_no23
    have s2 : mR M2 0 2 = some z := by rw [hM2]; simp [m_uR_R]
    have s3 : mR M2 0 3 = some z0 := by rw [hM2]; simp [m_uR_R]
    have I2 : RInv M2 := gF_RInv g2 I' (fun a j s hs w => by omega)
    have P2 : PsX M2 z D c := PsX_t hz hP hD g2 (fun a j q1 q2 => Or.inl (by omega))
    simp +decide (disch := omega) only [qX10_sea_0, qX10_sea_1, qX10_sea_2, lx L', h8, h9, rr2, rr3, lz L' hz, ← hM2, am_w1_i, am_w1_r, am_w1_x, am_w1_l, am_w1_w, va_rf_s, am_push_n, am_push_s, am_cs_0, am_cs_i, am_cs_l, am_cs_r, m_uI_K, m_uI_N, m_uI_R, m_uI_L, m_uI_I, m_uL_K, m_uL_N, m_uL_R, m_uL_I, m_uL_L, m_uR_K, m_uR_N, m_uR_I, m_uR_L, m_uR_R, true_and, and_true, true_implies, false_implies, not_true_eq_false, not_false_eq_true, if_true, if_false, false_and, and_false]
    simp +decide (disch := omega) only [qX10_sea_0, qX10_sea_1, qX10_sea_2, lx L2, s2, lz L2 hz, am_w1_i, am_w1_r, am_w1_x, am_w1_l, am_w1_w, va_rf_s, am_push_n, am_push_s, am_cs_0, am_cs_i, am_cs_l, am_cs_r, m_uI_K, m_uI_N, m_uI_R, m_uI_L, m_uI_I, m_uL_K, m_uL_N, m_uL_R, m_uL_I, m_uL_L, m_uR_K, m_uR_N, m_uR_I, m_uR_L, m_uR_R, true_and, and_true, true_implies, false_implies, not_true_eq_false, not_false_eq_true, if_true, if_false, false_and, and_false]
    have hcl := P2.2.2.2.2.2
    refine c_x_measure (d + 116) z (dC D) (dR D) (dRd D) (dRc D) (dRq D) M2 _ L2 hz P2.1.1 hD.1.1 P2.1.2.1 hD.1.2 (RlC_X P2.2.2.2.1.1 hcl hD.2.2.2.2.2.2.2.2.1 (by omega)) (RlC_X P2.2.2.2.1.2.1 hcl hD.2.2.2.2.2.2.2.2.2.1 (by omega)) (RlC_X P2.2.2.2.1.2.2 hcl hD.2.2.2.2.2.2.2.2.2.2 (by omega)) hD.2.2.2.2.2.2.2.2.2.2.1 (fun M3 g3 S3 => ?_)
    have L3 := gF_LayN g3 L2
    have I3 : RInv M3 := gF_RInv g3 I2 (fun a j s hs w => w.elim)
    have P3 : PsX M3 z D c := PsX_t hz P2 hD g3 (fun a j q1 q2 => by
      by_cases w : sMe z a j
      · unfold sMe at w; rcases w with w | w
        · exact Or.inr (Or.inr w)
        · exact Or.inr (Or.inl w)
      · exact Or.inl w)
    simp +decide only [qX10_sea_0, qX10_sea_1, qX10_sea_2, am_w1_i, am_w1_r, am_w1_x, am_w1_l, am_w1_w, va_rf_s, am_push_n, am_push_s, am_cs_0, am_cs_i, am_cs_l, am_cs_r, m_uI_K, m_uI_N, m_uI_R, m_uI_L, m_uI_I, m_uL_K, m_uL_N, m_uL_R, m_uL_I, m_uL_L, m_uR_K, m_uR_N, m_uR_I, m_uR_L, m_uR_R, true_and, and_true, true_implies, false_implies, not_true_eq_false, not_false_eq_true, if_true, if_false, false_and, and_false]
    rw [show (0 : Int32) = nI 0 from rfl]
    refine l_x_begins hz d c k D _ _ _ M3 Q hD rfl (fun M4 g4 L4 I4 P4 S4 T4 => ?_) (dSh D).length 0 (by omega) M3 (gF_refl _ _ _) L3 I3 (by rw [g3.2.2.1 _ _ (fun w => w)]; exact s2) P3 S3 (fun s' sp hs' => by omega)
    have g5 : gF (fun a j => a = 0 ∧ j = 13) nT M4 (uI M4 0 13 0) := gF_i _ ⟨rfl, rfl⟩
    have k4 : ∀ j, mI M4 0 j = mI M2 0 j := fun j => by
      rw [g4.1 _ _ (fun ⟨s, hs, w⟩ => by unfold sTb sWb at w; omega), g3.1 _ _ (by unfold sMe; omega)]
    have kr : ∀ j, mR M4 0 j = mR M2 0 j := fun j => by
      rw [g4.2.2.1 _ _ (fun ⟨s, hs, w⟩ => by unfold tTb at w; omega), g3.2.2.1 _ _ (fun w => w)]
    refine hN (uI M4 0 13 0) k D c hs hk hD hC hR ?_ L4 ?_ ?_ ?_ (PsX_t hz P4 hD g5 (fun a j q1 q2 => Or.inl (by omega))) (SqX_u S4 (fun a j q1 q2 q3 => g5.1 _ _ (by omega)) (fun a j q => g5.2.1 _ _ (by omega))) (fun s sp hsp => ?_) ?_ ?_ ?_ (by rw [m_uI_I, if_pos ⟨rfl, rfl⟩]) (by rw [m_uI_I, if_neg (by omega), g4.1 _ _ (fun ⟨s, hs, w⟩ => by unfold sTb sWb at w; omega), g3.1 _ _ (by unfold sMe; omega), g2.1 _ _ (by omega), g.1 _ _ (by unfold sSea; omega)])
    · refine gF_trans (gF_up g (fun a j q => Or.inl (Or.inl q)) (fun a j q => Or.inl q)) (gF_trans (gF_up g2 (fun a j q => Or.inl (Or.inr (Or.inl q))) (fun a j q => Or.inr (Or.inl q))) (gF_trans (gF_up g3 (fun a j q => Or.inl (Or.inl (by unfold sMe at q; unfold sSea; omega))) (fun a j q => q.elim)) (gF_trans (gF_up g4 (fun a j q => Or.inr (Or.inr q)) (fun a j q => Or.inr (Or.inr q))) (gF_up g5 (fun a j q => Or.inr (Or.inl q)) (fun a j q => q.elim)))))
    · exact gF_RInv g5 I4 (fun a j s hs w => w.elim)
    · show mR M4 0 2 = _; rw [kr]; exact s2
    · show mR M4 0 3 = _; rw [kr]; exact s3
    · have h8 := hD.2.2.1.1
      have hsl := (List.getElem?_eq_some_iff.mp hsp).1
      obtain ⟨a1, a2, a3, a4, a5, a6⟩ := T4 s sp hsp
      have k : ∀ j, mI (uI M4 0 13 0) (173 + 13 * s) j = mI M4 (173 + 13 * s) j := fun j => by rw [m_uI_I, if_neg (by omega)]
      exact ⟨TrW_gF a1 I4 (by omega) g5 (fun a j q w => by omega) (fun j w => w), a2, a3, by rw [k]; exact a4, by rw [k]; exact a5, by rw [k]; exact a6⟩
    · rw [m_uI_I, if_neg (by omega), k4, hM2]; simp [m_uI_I, m_uR_I]
    · rw [m_uI_I, if_neg (by omega), k4, hM2]; simp [m_uI_I, m_uR_I]
    · rw [m_uI_I, if_neg (by omega), k4, hM2]; simp [m_uI_I, m_uR_I]
  have hlz := lz hL hz
  rw [eX10_sea]
  simp +decide only [qX10_sea_0, qX10_sea_1, qX10_sea_2, lx hL, hlz, hr3, h1, am_w1_i, am_w1_r, am_w1_x, am_w1_l, am_w1_w, va_rf_s, am_push_n, am_push_s, am_cs_0, am_cs_i, am_cs_l, am_cs_r, m_uI_K, m_uI_N, m_uI_R, m_uI_L, m_uI_I, m_uL_K, m_uL_N, m_uL_R, m_uL_I, m_uL_L, m_uR_K, m_uR_N, m_uR_I, m_uR_L, m_uR_R, true_and, and_true, true_implies, false_implies, not_true_eq_false, not_false_eq_true, if_true, if_false, false_and, and_false]
  refine c_x_popen (d + 118) M _ hL hz hn hT hO (fun M1 g1 L1 p1 P1 h1' => ?_)
  simp +decide only [qX10_sea_0, qX10_sea_1, qX10_sea_2, am_w1_i, am_w1_r, am_w1_x, am_w1_l, am_w1_w, va_rf_s, am_push_n, am_push_s, am_cs_0, am_cs_i, am_cs_l, am_cs_r, m_uI_K, m_uI_N, m_uI_R, m_uI_L, m_uI_I, m_uL_K, m_uL_N, m_uL_R, m_uL_I, m_uL_L, m_uR_K, m_uR_N, m_uR_I, m_uR_L, m_uR_R, true_and, and_true, true_implies, false_implies, not_true_eq_false, not_false_eq_true, if_true, if_false, false_and, and_false]
  rw [hX10_sea_21]
  have D0 : DOK dat0 := ⟨⟨by decide, by decide⟩, by decide, ⟨by decide, rfl, fun s hs => absurd hs List.not_mem_nil⟩, fun s y hy => absurd hy List.not_mem_nil, fun s => List.Pairwise.nil, by decide, ⟨⟨by decide, fun k hk => absurd hk List.not_mem_nil⟩, fun k hk => absurd hk List.not_mem_nil⟩, ⟨by decide, fun g hg => absurd hg List.not_mem_nil⟩, ⟨by decide, fun r hr => absurd hr List.not_mem_nil⟩, ⟨by decide, fun r hr => absurd hr List.not_mem_nil⟩, ⟨by decide, fun r hr => absurd hr List.not_mem_nil⟩⟩
  simp +decide only [qX10_sea_0, qX10_sea_1, qX10_sea_2, lx L1, am_w1_i, am_w1_r, am_w1_x, am_w1_l, am_w1_w, va_rf_s, am_push_n, am_push_s, am_cs_0, am_cs_i, am_cs_l, am_cs_r, m_uI_K, m_uI_N, m_uI_R, m_uI_L, m_uI_I, m_uL_K, m_uL_N, m_uL_R, m_uL_I, m_uL_L, m_uR_K, m_uR_N, m_uR_I, m_uR_L, m_uR_R, true_and, and_true, true_implies, false_implies, not_true_eq_false, not_false_eq_true, if_true, if_false, false_and, and_false]
  have upF : ∀ {M' M'' : am_M}, gF (sSea z) tOp M M' → gF (sSea z) nT M' M'' → gF (sSea z) tOp M M'' := fun h h' => gF_trans h (gF_up h' (fun _ _ q => q) (fun _ _ q => q.elim))
  -- the first statement's end
  have first : ∀ (t : Tok) (M2 : am_M) (res : Rq), gF (sSea z) tOp M M1 → EdX T n z t M1 M2 res → Lay M2 → (∀ e, sgT T n res = .inl e → spF T n = .inl e) → (∀ q, sgT T n res = .inr q → spF T n = .inr q ∧ 1 ≤ dC q.2 ∧ 1 ≤ dR q.2) → am_P am_P0 (d + 122) (am_look tX10_sea) 37 [.ref 0, .int 0, am_x, am_x] [] M2 Q := by
    intro t M2 res gg E2 L2 hf hq
    have h9 := l_x_sea49 hz hn d 0 am_x am_x t M1 M2 Q res E2 L2 (Nat.zero_le _) (fun M' e x he g L' F' => endF M' e x _ _ (by rw [spTx_F, hf e he]) (upF gg g) L' F') (fun M' D' c' t' he g G' hk' htt => ?_)
    · exact h9
    · obtain ⟨hsp, hC, hR⟩ := hq _ he
      by_cases c0 : t'.1 = 0
      · rw [if_pos c0]
        refine endN M' 1 D' c' t' _ _ ?_ (by omega) hC hR (upF gg g) G' (Or.inl rfl)
        rw [spTx_F, hsp]
        show (if t'.1 = 0 then _ else _) = _
        rw [if_pos c0]
      · rw [if_neg c0]
        refine l_x_seaL hz hn d am_x am_x M1 Q (n + 2) 1 D' c' t' M' (by omega) (by omega) hk' c0 hC hR g G' (fun M'' e x h1 g1 L1 F1 => endF M'' e x _ _ (by rw [spTx_F, hsp]; exact h1) (upF gg g1) L1 F1) (fun M'' k' D'' c'' t'' h1 hk1 h2 h3 g1 G1 => endN M'' k' D'' c'' t'' _ _ (by rw [spTx_F, hsp]; exact h1) hk1 h2 h3 (upF gg g1) G1 (Or.inl rfl))
  cases ha : advR T n tk0 with
  | inl e =>
    rw [ha] at h1'
    have hF1 : FaX M1 z T n e := ⟨h1', p1, 0, P1.2.2.2.2⟩
    have h6 : mI M1 165 6 = -1 := hF1.1.2.2.2.2.2.2
    rw [eX2_readStatement]
    simp +decide only [qX2_readStatement_0, qX2_readStatement_1, lx L1, h6, am_w1_i, am_w1_r, am_w1_x, am_w1_l, am_w1_w, va_rf_s, am_push_n, am_push_s, am_cs_0, am_cs_i, am_cs_l, am_cs_r, m_uI_K, m_uI_N, m_uI_R, m_uI_L, m_uI_I, m_uL_K, m_uL_N, m_uL_R, m_uL_I, m_uL_L, m_uR_K, m_uR_N, m_uR_I, m_uR_L, m_uR_R, true_and, and_true, true_implies, false_implies, not_true_eq_false, not_false_eq_true, if_true, if_false, false_and, and_false]
    rw [show (1 : Int32) = nI 1 from rfl]
    refine c_x_refuse (d + 119) n 1 T (.inl e) M1 _ L1 (by omega) h1' (fun M2 g2 h2 => ?_)
    have h9 := first tk0 M2 (.inl e) g1 ⟨sRd_S g2, FaX_r hF1 hz h2 g2⟩ (gF_LayN g2 L1) (fun e' he' => by unfold spF; rw [ha]; cases he'; rfl) (fun q hq => by cases hq)
    simp +decide only [qX2_readStatement_0, qX2_readStatement_1, qX10_sea_0, qX10_sea_1, qX10_sea_2, lx (gF_LayN g2 L1), am_w1_i, am_w1_r, am_w1_x, am_w1_l, am_w1_w, va_rf_s, am_push_n, am_push_s, am_cs_0, am_cs_i, am_cs_l, am_cs_r, m_uI_K, m_uI_N, m_uI_R, m_uI_L, m_uI_I, m_uL_K, m_uL_N, m_uL_R, m_uL_I, m_uL_L, m_uR_K, m_uR_N, m_uR_I, m_uR_L, m_uR_R, true_and, and_true, true_implies, false_implies, not_true_eq_false, not_false_eq_true, if_true, if_false, false_and, and_false] at h9 ⊢
    exact h9
  | inr t =>
    rw [ha] at h1'
    have hG1 : GdX T n z M1 dat0 0 t := ⟨L1, p1, h1', P1, D0, Nat.zero_le _⟩
    have hst : StR M1 T n (.inr t) := h1'
    have hw0 := wr_is (k := 0) hst (by omega)
    by_cases w0 : isW t (ownW.getD 0 []) = true
    · have h6 := hw0.mpr w0
      have et : am_tab (0) [120, 127, 142, 157, 172, 227, 227, 227, 227, 179, 227, 227, 186, 227, 227, 193, 227, 200] 227 (nI 0) = 120 := by decide
      rw [eX2_readStatement]
      simp +decide only [qX2_readStatement_0, qX2_readStatement_1, lx L1, h6, show nI 0 = (0 : Int32) from rfl, show am_tab (0) [120, 127, 142, 157, 172, 227, 227, 227, 227, 179, 227, 227, 186, 227, 227, 193, 227, 200] 227 (0 : Int32) = 120 from et, am_w1_i, am_w1_r, am_w1_x, am_w1_l, am_w1_w, va_rf_s, am_push_n, am_push_s, am_cs_0, am_cs_i, am_cs_l, am_cs_r, m_uI_K, m_uI_N, m_uI_R, m_uI_L, m_uI_I, m_uL_K, m_uL_N, m_uL_R, m_uL_I, m_uL_L, m_uR_K, m_uR_N, m_uR_I, m_uR_L, m_uR_R, true_and, and_true, true_implies, false_implies, not_true_eq_false, not_false_eq_true, if_true, if_false, false_and, and_false]
      refine b_size hz (d + 116) 0 t M1 _ hG1 (by have := (isW_1 w0).1; omega) (fun M2 E2 => ?_)
      have L2 : Lay M2 := by
        cases hr : spSize T n dat0 t with
        | inl e => rw [hr] at E2; exact gF_LayN E2.1 L1
        | inr q => rw [hr] at E2; exact gF_LayN E2.1 L1
      have h9 := first t M2 (spSize T n dat0 t) g1 E2 L2 (fun e he => by unfold spF; rw [ha]; show (if _ then _ else _) = _; rw [if_pos w0]; exact he) (fun q hq => ⟨by unfold spF; rw [ha]; show (if _ then _ else _) = _; rw [if_pos w0]; exact hq, by
        cases hr : spSize T n dat0 t with
        | inl e => rw [hr] at hq; cases hq
        | inr q' =>
          rw [hr] at hq
          obtain ⟨t2, -, h2⟩ := bR_inr hq
          cases h2
          exact spSize_C (q := q') hr⟩)
      simp +decide only [qX2_readStatement_0, qX2_readStatement_1, qX10_sea_0, qX10_sea_1, qX10_sea_2, lx L2, am_w1_i, am_w1_r, am_w1_x, am_w1_l, am_w1_w, va_rf_s, am_push_n, am_push_s, am_cs_0, am_cs_i, am_cs_l, am_cs_r, m_uI_K, m_uI_N, m_uI_R, m_uI_L, m_uI_I, m_uL_K, m_uL_N, m_uL_R, m_uL_I, m_uL_L, m_uR_K, m_uR_N, m_uR_I, m_uR_L, m_uR_R, true_and, and_true, true_implies, false_implies, not_true_eq_false, not_false_eq_true, if_true, if_false, false_and, and_false] at h9 ⊢
      exact h9
    · have h60 : ¬ mI M1 165 6 = 0 := fun q => w0 (hw0.mp q)
      rw [eX2_readStatement]
      simp +decide only [qX2_readStatement_0, qX2_readStatement_1, lx L1, am_w1_i, am_w1_r, am_w1_x, am_w1_l, am_w1_w, va_rf_s, am_push_n, am_push_s, am_cs_0, am_cs_i, am_cs_l, am_cs_r, m_uI_K, m_uI_N, m_uI_R, m_uI_L, m_uI_I, m_uL_K, m_uL_N, m_uL_R, m_uL_I, m_uL_L, m_uR_K, m_uR_N, m_uR_I, m_uR_L, m_uR_R, true_and, and_true, true_implies, false_implies, not_true_eq_false, not_false_eq_true, if_true, if_false, false_and, and_false]
      rw [br_p h60, show (1 : Int32) = nI 1 from rfl]
      refine c_x_refuse (d + 119) n 1 T (.inr t) M1 _ L1 (by omega) hst (fun M2 g2 h2 => ?_)
      have F2 : FaX M2 z T n (1, tS t) := ⟨h2, by rw [g2.2.2.1 _ _ (fun w => w)]; exact p1, 0, FmX_g P1.2.2.2.2 g2 (fun w => by unfold sRd at w; omega)⟩
      have h9 := first t M2 (.inl (1, tS t)) g1 ⟨sRd_S g2, F2⟩ (gF_LayN g2 L1) (fun e he => by unfold spF; rw [ha]; show (if _ then _ else _) = _; rw [if_neg w0]; cases he; rfl) (fun q hq => by cases hq)
      simp +decide only [qX2_readStatement_0, qX2_readStatement_1, qX10_sea_0, qX10_sea_1, qX10_sea_2, lx (gF_LayN g2 L1), am_w1_i, am_w1_r, am_w1_x, am_w1_l, am_w1_w, va_rf_s, am_push_n, am_push_s, am_cs_0, am_cs_i, am_cs_l, am_cs_r, m_uI_K, m_uI_N, m_uI_R, m_uI_L, m_uI_I, m_uL_K, m_uL_N, m_uL_R, m_uL_I, m_uL_L, m_uR_K, m_uR_N, m_uR_I, m_uR_L, m_uR_R, true_and, and_true, true_implies, false_implies, not_true_eq_false, not_false_eq_true, if_true, if_false, false_and, and_false] at h9 ⊢
      exact h9
end
end
