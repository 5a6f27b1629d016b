/-! what holds between calls -/
def dSp (D : Dat) (s : Nat) : Shp := (dSh D).getD s ([], 0, 0, 0, 0)
def dV (D : Dat) (s : Nat) : Nat := (dSp D s).2.2.1
def dDr (D : Dat) (s : Nat) : Nat := (dSp D s).2.2.2.1
def dLd (D : Dat) (s : Nat) : Nat := (dSp D s).2.2.2.2
noncomputable def dDp (D : Dat) : Nat → Nat := dpF (dC D) (dR D) (dRd D)
noncomputable def dCs (D : Dat) : Nat → Nat := csF (dC D) (dR D) (dRd D) (dRc D)
def dQt (D : Dat) : Nat → Nat → Prop := qtF (dC D) (dR D) (dRd D) (dRq D)
def dWt (D : Dat) (s : Nat) : Nat → Prop := fun p => p < 256 ∧ dDr D s ≤ dDp D p
def dSn (D : Dat) (s : Nat) : Nat → Bool → Prop := sndP (dDp D) (dDr D s) (dLd D s)
def dBs (D : Dat) (s : Nat) : List Fct := bkOf (dBk D) s
abbrev dN (D : Dat) : Nat := (dSh D).length
theorem dSp_at {D : Dat} {s : Nat} (h : s < dN D) : (dSh D)[s]? = some (dSp D s) := by
  unfold dSp
  rw [List.getD_eq_getElem?_getD, List.getElem?_eq_getElem h]
  rfl
theorem dSp_ok {D : Dat} {s : Nat} (hD : DOK D) (h : s < dN D) : shOK (dSp D s) := hD.2.2.1.2.2 _ (List.mem_of_getElem? (dSp_at h))
/-- a size, or nothing told -/
def szOK (D : Dat) : Prop := (1 ≤ dC D ∧ 1 ≤ dR D) ∨ (dC D = 0 ∧ dR D = 0 ∧ dSh D = [] ∧ dSg D = [])
def dOK (D : Dat) : Prop := DOK D ∧ szOK D
theorem dOK_1 {D : Dat} {s : Nat} (h : dOK D) (hs : s < dN D) : 1 ≤ dC D ∧ 1 ≤ dR D := by
  rcases h.2 with q | q
  · exact q
  · unfold dN at hs; rw [q.2.2.1] at hs; exact absurd hs (Nat.not_lt_zero _)
theorem dN_8 {D : Dat} (h : dOK D) : dN D ≤ 8 := h.1.2.2.1.1
theorem dY_len {D : Dat} (h : dOK D) (s : Nat) : (dY D s).length ≤ 48 := by
  have h1 := h.1.2.2.2.2.1 s
  have h2 := h.1.2.2.2.1 s
  have := bef_len h1 48
  rw [bef_all (fun y hy => (h2 y hy).1)] at this
  exact this
theorem dDp_v {D : Dat} {p : Nat} (h : ¬ vld (dC D) (dR D) p) : dDp D p = 0 := by
  unfold dDp dpF
  rw [if_neg h]
theorem dWt_v {D : Dat} {s : Nat} (h : dOK D) (hs : s < dN D) (p : Nat) : dWt D s p ↔ vld (dC D) (dR D) p ∧ dDr D s ≤ dDp D p := by
  have h1 := (dSp_ok h.1 hs).2.2.2.2.2.2.1
  constructor
  · intro q
    refine ⟨?_, q.2⟩
    by_cases c : vld (dC D) (dR D) p
    · exact c
    · exfalso
      have := q.2
      rw [dDp_v c] at this
      have h1' : 1 ≤ dDr D s := h1
      omega
  · intro q
    exact ⟨(cel_lt h.1.1.1 h.1.1.2 q.1).2.2, q.2⟩
theorem dSn_w {D : Dat} {s : Nat} (h : dOK D) (s' : Nat) : ∀ y, y ∈ dY D s' → dSn D s y.2.1 y.2.2 → dWt D s y.2.1 := fun y hy q => by
  have h2 := h.1.2.2.2.1 s' y hy
  refine ⟨(cel_lt h.1.1.1 h.1.1.2 h2.2).2.2, ?_⟩
  have q' : dDr D s + (if y.2.2 = true then dLd D s else 0) ≤ dDp D y.2.1 := q
  omega
theorem dBs_len {D : Dat} (h : dOK D) (s : Nat) : (dBs D s).length ≤ 12 := Nat.le_trans (bkOf_len _ _) h.1.2.2.2.2.2.2.1.1.1
/-- bits of ships -/
noncomputable def btI (p : Nat → Prop) : Nat → Int32
  | 0 => 0
  | k + 1 => btI p k ||| @ite _ (p k) (Classical.propDecidable _) ((1 : Int32) <<< (nI k &&& 31)) 0
theorem btI_t {p : Nat → Prop} {k : Nat} (h : p k) : btI p (k + 1) = btI p k ||| ((1 : Int32) <<< (nI k &&& 31)) := by
  show btI p k ||| _ = _
  rw [if_pos h]
theorem or_z (x : Int32) : (x ||| 0) = x := by
  apply Int32.toBitVec_inj.mp
  simp
theorem btI_f {p : Nat → Prop} {k : Nat} (h : ¬ p k) : btI p (k + 1) = btI p k := by
  show btI p k ||| _ = _
  rw [if_neg h, or_z]
theorem btI_ext {p q : Nat → Prop} : ∀ n, (∀ k, k < n → (p k ↔ q k)) → btI p n = btI q n := by
  intro n
  induction n with
  | zero => intro _; rfl
  | succ n ih =>
    intro h
    have e := ih (fun k hk => h k (by omega))
    by_cases c : p n
    · rw [btI_t c, btI_t ((h n (by omega)).mp c), e]
    · rw [btI_f c, btI_f (fun w => c ((h n (by omega)).mpr w)), e]
/-- the ship o could have said what s says -/
def whP (D : Dat) (s o : Nat) : Prop := ¬ o = s ∧ 0 < (dY D s).length ∧ syS (dY D o) 0 (dSn D o) ∧ syS (dY D s) 0 (dSn D o) ∧ fitP (dWt D o) (dV D o) (dBs D o ++ syF (dY D o) 0 ++ syF (dY D s) 0)
noncomputable def whI (D : Dat) (s : Nat) : Int32 := btI (whP D s) (dN D)
/-- the kinds of tales of a ship -/
noncomputable def kdI (D : Dat) (s : Nat) : Int32 := okI (dWt D s) (dV D s) (dSn D s) (dBs D s) (dY D s) (dQt D) ||| (@ite _ (whI D s = 0) (Classical.propDecidable _) 0 4)
/-- where a ship may be -/
def dMy (D : Dat) (s h q : Nat) : Prop := mayY (dWt D s) (dV D s) (dSn D s) (dBs D s) (dY D s) q h
noncomputable def dMc (D : Dat) (s h : Nat) : Nat := cnt (fun p => dB (dMy D s h p)) 256
/-- ships that a look settles -/
noncomputable def stN (D : Dat) (h p : Nat) : Nat := cnt (fun s => dB (0 < (dY D s).length ∧ 2 ≤ dMc D s h ∧ dMy D s h p)) (dN D)
/-- the best look: more settled, or as many and cheaper, or first -/
def bst (D : Dat) (h p : Nat) : Prop := h < 48 ∧ p < 256 ∧ 0 < stN D h p ∧ (∀ h' p', h' < 48 → p' < 256 → stN D h' p' < stN D h p ∨ (stN D h' p' = stN D h p ∧ (dCs D p < dCs D p' ∨ (dCs D p = dCs D p' ∧ (h < h' ∨ (h = h' ∧ p ≤ p'))))))
def LkX (M : am_M) (D : Dat) : Prop := mI M 0 13 = 0 ∨ (mI M 0 13 = 1 ∧ ((mI M 0 16 = 0 ∧ ∀ h p, h < 48 → p < 256 → stN D h p = 0) ∨ ∃ h p, bst D h p ∧ mI M 0 14 = nI h ∧ mI M 0 15 = nI p ∧ mI M 0 16 = nI (stN D h p)))
/-- a track -/
def XTk (M : am_M) (z : Nat) (D : Dat) (s : Nat) : Prop :=
  TkX M s (z + 25 + 7 * s) z (dV D s) (dWt D s) (dDp D) (dDr D s) (dLd D s) (dBs D s) (dY D s) ∧ StX M s (dV D s) (dWt D s) (dSn D s) (dBs D s) (dY D s) ∧ CtX (dWt D s) (dV D s) (dSn D s) (dBs D s) (dY D s) (dQt D) M s ∧ (mI M (173 + 13 * s) 6 = 0 ∨ (mI M (173 + 13 * s) 6 = 1 ∧ mI M (173 + 13 * s) 7 = kdI D s))
/-- the class -/
def XR (M : am_M) (z : Nat) (D : Dat) : Prop :=
  (Lay M ∧ RInv M ∧ (z = 2 ∨ z = 83) ∧ mR M 0 2 = some z ∧ mR M 0 3 = some (85 - z) ∧ OwX M) ∧ (∃ c, PsX M z D c) ∧ SqX M z (dDp D) (dCs D) (dQt D) ∧ (∀ s, s < dN D → XTk M z D s) ∧ LkX M D
/-- the tape, refusals, faults, the image -/
def TpI (M : am_M) : Prop := ∃ (T : Nat → Nat) (n : Nat), n ≤ 1800 ∧ mI M 0 1 = nI n ∧ mI M 277 1 = nI n ∧ ∀ j, j < 1800 → T j < 256 ∧ mI M 1 j = nI (T j) ∧ mI M 278 j = nI (T j)
def RfI (M : am_M) : Prop := ∀ k, k < 5 → mI M 169 k = mI M 312 k
def FtI (M : am_M) : Prop := mI M 0 5 = mI M 277 10 ∧ True
def ImI (M : am_M) : Prop := ∃ n, n ≤ 507 ∧ mI M 0 10 = nI n ∧ mI M 277 82 = nI n ∧ ∀ j, j < n → mI M 170 j = mI M 335 j
def Inv (M : am_M) : Prop := ∃ (z b : Nat) (D : Dat), dOK D ∧ XR M z D ∧ MdM M b D ∧ TpI M ∧ RfI M ∧ FtI M ∧ ImI M
/-- what asking changes: in the class, in the model -/
def sXq (z a j : Nat) : Prop := (a = 0 ∧ 13 ≤ j ∧ j ≤ 16) ∨ a = 171 ∨ a = 172 ∨ (173 ≤ a ∧ a < 277) ∨ sMm z a j
def sMq (a j : Nat) : Prop := (a = 277 ∧ 59 ≤ j ∧ j ≤ 81) ∨ a = 313 ∨ a = 314 ∨ (317 ≤ a ∧ a ≤ 329)
def sMz (a j : Nat) : Prop := sMq a j ∨ (330 ≤ a ∧ a ≤ 334)
