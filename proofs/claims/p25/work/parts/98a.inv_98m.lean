/-! 98a.inv 98b.fr 98c.op 98d.has 98e.let 98f.gen 98g.say 98h.far 98i.reach 98j.who 98k.bar 98l.cls 98m.pair -/
section
/-! what holds between calls -/
def dSp (D : Dat) (s : Nat) : Shp := (dSh D).getD s ([], 0, 0, 0, 0)
def dV (D : Dat) (s : Nat) : Nat := (dSp D s).2.2.1
def dDr (D : Dat) (s : Nat) : Nat := (dSp D s).2.2.2.1
def dLd (D : Dat) (s : Nat) : Nat := (dSp D s).2.2.2.2
noncomputable def dDp (D : Dat) : Nat → Nat := dpF (dC D) (dR D) (dRd D)
noncomputable def dCs (D : Dat) : Nat → Nat := csF (dC D) (dR D) (dRd D) (dRc D)
def dQt (D : Dat) : Nat → Nat → Prop := qtF (dC D) (dR D) (dRd D) (dRq D)
def dWt (D : Dat) (s : Nat) : Nat → Prop := fun p => p < 256 ∧ dDr D s ≤ dDp D p
def dSn (D : Dat) (s : Nat) : Nat → Bool → Prop := sndP (dDp D) (dDr D s) (dLd D s)
def dBs (D : Dat) (s : Nat) : List Fct := bkOf (dBk D) s
abbrev dN (D : Dat) : Nat := (dSh D).length
theorem dSp_at {D : Dat} {s : Nat} (h : s < dN D) : (dSh D)[s]? = some (dSp D s) := by
  unfold dSp
  rw [List.getD_eq_getElem?_getD, List.getElem?_eq_getElem h]
  rfl
theorem dSp_ok {D : Dat} {s : Nat} (hD : DOK D) (h : s < dN D) : shOK (dSp D s) := hD.2.2.1.2.2 _ (List.mem_of_getElem? (dSp_at h))
/-- a size, or nothing told -/
def szOK (D : Dat) : Prop := (1 ≤ dC D ∧ 1 ≤ dR D) ∨ (dC D = 0 ∧ dR D = 0 ∧ dSh D = [] ∧ dSg D = [])
def dOK (D : Dat) : Prop := DOK D ∧ szOK D
theorem dOK_1 {D : Dat} {s : Nat} (h : dOK D) (hs : s < dN D) : 1 ≤ dC D ∧ 1 ≤ dR D := by
  rcases h.2 with q | q
  · exact q
  · unfold dN at hs; rw [q.2.2.1] at hs; exact absurd hs (Nat.not_lt_zero _)
theorem dN_8 {D : Dat} (h : dOK D) : dN D ≤ 8 := h.1.2.2.1.1
theorem dY_len {D : Dat} (h : dOK D) (s : Nat) : (dY D s).length ≤ 48 := by
  have h1 := h.1.2.2.2.2.1 s
  have h2 := h.1.2.2.2.1 s
  have := bef_len h1 48
  rw [bef_all (fun y hy => (h2 y hy).1)] at this
  exact this
theorem dDp_v {D : Dat} {p : Nat} (h : ¬ vld (dC D) (dR D) p) : dDp D p = 0 := by
  unfold dDp dpF
  rw [if_neg h]
theorem dWt_v {D : Dat} {s : Nat} (h : dOK D) (hs : s < dN D) (p : Nat) : dWt D s p ↔ vld (dC D) (dR D) p ∧ dDr D s ≤ dDp D p := by
  have h1 := (dSp_ok h.1 hs).2.2.2.2.2.2.1
  constructor
  · intro q
    refine ⟨?_, q.2⟩
    by_cases c : vld (dC D) (dR D) p
    · exact c
    · exfalso
      have := q.2
      rw [dDp_v c] at this
      have h1' : 1 ≤ dDr D s := h1
      omega
  · intro q
    exact ⟨(cel_lt h.1.1.1 h.1.1.2 q.1).2.2, q.2⟩
theorem dSn_w {D : Dat} {s : Nat} (h : dOK D) (s' : Nat) : ∀ y, y ∈ dY D s' → dSn D s y.2.1 y.2.2 → dWt D s y.2.1 := fun y hy q => by
  have h2 := h.1.2.2.2.1 s' y hy
  refine ⟨(cel_lt h.1.1.1 h.1.1.2 h2.2).2.2, ?_⟩
  have q' : dDr D s + (if y.2.2 = true then dLd D s else 0) ≤ dDp D y.2.1 := q
  omega
theorem dBs_len {D : Dat} (h : dOK D) (s : Nat) : (dBs D s).length ≤ 12 := Nat.le_trans (bkOf_len _ _) h.1.2.2.2.2.2.2.1.1.1
/-- bits of ships -/
noncomputable def btI (p : Nat → Prop) : Nat → Int32
  | 0 => 0
  | k + 1 => btI p k ||| @ite _ (p k) (Classical.propDecidable _) ((1 : Int32) <<< (nI k &&& 31)) 0
theorem btI_t {p : Nat → Prop} {k : Nat} (h : p k) : btI p (k + 1) = btI p k ||| ((1 : Int32) <<< (nI k &&& 31)) := by
  show btI p k ||| _ = _
  rw [if_pos h]
theorem or_z (x : Int32) : (x ||| 0) = x := by
  apply Int32.toBitVec_inj.mp
  simp
theorem btI_f {p : Nat → Prop} {k : Nat} (h : ¬ p k) : btI p (k + 1) = btI p k := by
  show btI p k ||| _ = _
  rw [if_neg h, or_z]
theorem btI_ext {p q : Nat → Prop} : ∀ n, (∀ k, k < n → (p k ↔ q k)) → btI p n = btI q n := by
  intro n
  induction n with
  | zero => intro _; rfl
  | succ n ih =>
    intro h
    have e := ih (fun k hk => h k (by omega))
    by_cases c : p n
    · rw [btI_t c, btI_t ((h n (by omega)).mp c), e]
    · rw [btI_f c, btI_f (fun w => c ((h n (by omega)).mpr w)), e]
/-- the ship o could have said what s says -/
def whP (D : Dat) (s o : Nat) : Prop := ¬ o = s ∧ 0 < (dY D s).length ∧ syS (dY D o) 0 (dSn D o) ∧ syS (dY D s) 0 (dSn D o) ∧ fitP (dWt D o) (dV D o) (dBs D o ++ syF (dY D o) 0 ++ syF (dY D s) 0)
noncomputable def whI (D : Dat) (s : Nat) : Int32 := btI (whP D s) (dN D)
/-- the kinds of tales of a ship -/
noncomputable def kdI (D : Dat) (s : Nat) : Int32 := okI (dWt D s) (dV D s) (dSn D s) (dBs D s) (dY D s) (dQt D) ||| (@ite _ (whI D s = 0) (Classical.propDecidable _) 0 4)
/-- where a ship may be -/
def dMy (D : Dat) (s h q : Nat) : Prop := mayY (dWt D s) (dV D s) (dSn D s) (dBs D s) (dY D s) q h
noncomputable def dMc (D : Dat) (s h : Nat) : Nat := cnt (fun p => dB (dMy D s h p)) 256
/-- ships that a look settles -/
noncomputable def stN (D : Dat) (h p : Nat) : Nat := cnt (fun s => dB (0 < (dY D s).length ∧ 2 ≤ dMc D s h ∧ dMy D s h p)) (dN D)
/-- the best look: more settled, or as many and cheaper, or first -/
def bst (D : Dat) (h p : Nat) : Prop := h < 48 ∧ p < 256 ∧ 0 < stN D h p ∧ (∀ h' p', h' < 48 → p' < 256 → stN D h' p' < stN D h p ∨ (stN D h' p' = stN D h p ∧ (dCs D p < dCs D p' ∨ (dCs D p = dCs D p' ∧ (h < h' ∨ (h = h' ∧ p ≤ p'))))))
def LkX (M : am_M) (D : Dat) : Prop := mI M 0 13 = 0 ∨ (mI M 0 13 = 1 ∧ ((mI M 0 16 = 0 ∧ ∀ h p, h < 48 → p < 256 → stN D h p = 0) ∨ ∃ h p, bst D h p ∧ mI M 0 14 = nI h ∧ mI M 0 15 = nI p ∧ mI M 0 16 = nI (stN D h p)))
/-- a track -/
def XTk (M : am_M) (z : Nat) (D : Dat) (s : Nat) : Prop :=
  TkX M s (z + 25 + 7 * s) z (dV D s) (dWt D s) (dDp D) (dDr D s) (dLd D s) (dBs D s) (dY D s) ∧ StX M s (dV D s) (dWt D s) (dSn D s) (dBs D s) (dY D s) ∧ CtX (dWt D s) (dV D s) (dSn D s) (dBs D s) (dY D s) (dQt D) M s ∧ (mI M (173 + 13 * s) 6 = 0 ∨ (mI M (173 + 13 * s) 6 = 1 ∧ mI M (173 + 13 * s) 7 = kdI D s))
/-- the class -/
def XR (M : am_M) (z : Nat) (D : Dat) : Prop :=
  (Lay M ∧ RInv M ∧ (z = 2 ∨ z = 83) ∧ mR M 0 2 = some z ∧ mR M 0 3 = some (85 - z) ∧ OwX M) ∧ (∃ c, PsX M z D c) ∧ SqX M z (dDp D) (dCs D) (dQt D) ∧ (∀ s, s < dN D → XTk M z D s) ∧ LkX M D
/-- the tape, refusals, faults, the image -/
def TpI (M : am_M) : Prop := ∃ (T : Nat → Nat) (n : Nat), n ≤ 1800 ∧ mI M 0 1 = nI n ∧ mI M 277 1 = nI n ∧ ∀ j, j < 1800 → T j < 256 ∧ mI M 1 j = nI (T j) ∧ mI M 278 j = nI (T j)
def RfI (M : am_M) : Prop := ∀ k, k < 5 → mI M 169 k = mI M 312 k
def FtI (M : am_M) : Prop := mI M 0 5 = mI M 277 10 ∧ True
def ImI (M : am_M) : Prop := ∃ n, n ≤ 507 ∧ mI M 0 10 = nI n ∧ mI M 277 82 = nI n ∧ ∀ j, j < n → mI M 170 j = mI M 335 j
def Inv (M : am_M) : Prop := ∃ (z b : Nat) (D : Dat), dOK D ∧ XR M z D ∧ MdM M b D ∧ TpI M ∧ RfI M ∧ FtI M ∧ ImI M
/-- what asking changes: in the class, in the model -/
def sXq (z a j : Nat) : Prop := (a = 0 ∧ 13 ≤ j ∧ j ≤ 16) ∨ a = 171 ∨ a = 172 ∨ (173 ≤ a ∧ a < 277) ∨ sMm z a j
def sMq (a j : Nat) : Prop := (a = 277 ∧ 59 ≤ j ∧ j ≤ 81) ∨ a = 313 ∨ a = 314 ∨ (317 ≤ a ∧ a ≤ 329)
def sMz (a j : Nat) : Prop := sMq a j ∨ (330 ≤ a ∧ a ≤ 334)
end
section
/-! what holds between calls: frames -/
def swp (M M' : am_M) : am_M := (M'.1, M'.2.1, M.2.2)
/-- cells that hold what is told, in the model -/
def tlM (a j : Nat) : Prop := (a = 277 ∧ j = 12) ∨ (279 ≤ a ∧ a ≤ 305) ∨ a = 315 ∨ a = 316
theorem MdM_g {M M' : am_M} {b : Nat} {D : Dat} {S T' : Nat → Nat → Prop} (h : MdM M b D) (hg : gF S T' M M') (hS : ∀ a j, tlM a j → ¬ S a j) : MdM M' b D := by
  obtain ⟨h1, h2, h3, h4, h5, h6, h7, ⟨r1, r2, r3⟩, h8⟩ := h
  have k : ∀ a j, tlM a j → mI M' a j = mI M a j := fun a j q => hg.1 a j (hS a j q)
  refine ⟨⟨by rw [k _ _ (by unfold tlM; omega)]; exact h1.1, h1.2⟩, ⟨by rw [k _ _ (by unfold tlM; omega)]; exact h2.1, by rw [k _ _ (by unfold tlM; omega)]; exact h2.2⟩, by rw [k _ _ (by unfold tlM; omega)]; exact h3, ShpM_g h4 hg (hS _ _ (by unfold tlM; omega)) (fun a j q1 q2 _ => hS _ _ (by unfold tlM; omega)), SysM_g h5 hg (hS _ _ (by unfold tlM; omega)) (fun a j q => hS _ _ (by unfold tlM; omega)), BkM_gF h6 hg (hS _ _ (by unfold tlM; omega)) (fun a j q1 q2 _ => hS _ _ (by unfold tlM; omega)), SgM_g h7 hg (hS _ _ (by unfold tlM; omega)) (fun a j q1 q2 _ => hS _ _ (by unfold tlM; omega)), ⟨RaM_g r1 hg (fun a j q => hS _ _ (by unfold tlM; omega)), RaM_g r2 hg (fun a j q => hS _ _ (by unfold tlM; omega)), RaM_g r3 hg (fun a j q => hS _ _ (by unfold tlM; omega))⟩, fun p hp => ⟨by rw [k _ _ (by unfold tlM; omega)]; exact (h8 p hp).1, by rw [k _ _ (by unfold tlM; omega)]; exact (h8 p hp).2⟩⟩
/-- the model's cells are as they were -/
def fX (M M' : am_M) : Prop := ∀ a j, 277 ≤ a → a < 336 → mI M' a j = mI M a j ∧ mL M' a j = mL M a j
theorem MdM_x {M M' : am_M} {b : Nat} {D : Dat} (h : MdM M b D) (hx : fX M M') : MdM M' b D := by
  have hg : gF (fun a _ => ¬ (277 ≤ a ∧ a < 336)) nT M (swp M M') := ⟨fun a j q => (hx a j (by omega) (by omega)).1, fun a j q => (hx a j (by omega) (by omega)).2, fun _ _ _ => rfl, rfl⟩
  have h2 : MdM (swp M M') b D := MdM_g h hg (fun a j q w => by unfold tlM at q; omega)
  exact h2
theorem fX_z {M M' : am_M} {S : Nat → Nat → Prop} (h : zF S M M') (hS : ∀ a j, S a j → a < 277) : fX M M' := fun a j h1 h2 => ⟨h.2.2.2.1 a j h2 (fun s' q w => by omega) (fun w => by have := hS _ _ w; omega), h.2.2.2.2.1 a j h2 (fun w => by have := hS _ _ w; omega)⟩
theorem isSh_z {z s : Nat} (hz : z = 2 ∨ z = 83) (hs : s < 8) : isSh (z + 25 + 7 * s) := ⟨s, hs, by omega⟩
theorem PsX_z {M M' : am_M} {z c : Nat} {D : Dat} {S : Nat → Nat → Prop} (hz : z = 2 ∨ z = 83) (hP : PsX M z D c) (hD : DOK D) (h : zF S M M') (hS : ∀ a j, z ≤ a → a ≤ z + 80 → S a j → (z + 21 ≤ a ∧ a ≤ z + 24) ∨ a = z + 8) : PsX M' z D c := by
  have hg : gF (fun a j => S a j ∨ 165 ≤ a) nT M (swp M M') := ⟨fun a j q => h.2.2.2.1 a j (by omega) (fun s' w1 w2 => by omega) (fun w => q (Or.inl w)), fun a j q => h.2.2.2.2.1 a j (by omega) (fun w => q (Or.inl w)), fun _ _ _ => rfl, rfl⟩
  have h2 : PsX (swp M M') z D c := PsX_t hz hP hD hg (fun a j q1 q2 => by
    by_cases c1 : S a j
    · exact Or.inr (hS a j q1 q2 c1)
    · exact Or.inl (fun w => by rcases w with w | w; exact c1 w; omega))
  exact h2
/-- what a track keeps of what is known -/
def sTc (s a j : Nat) : Prop := (a = 173 + 13 * s ∧ 4 ≤ j) ∨ (181 + 13 * s ≤ a ∧ a ≤ 183 + 13 * s)
theorem XTk_z {M M' : am_M} {z s : Nat} {D : Dat} {S : Nat → Nat → Prop} (hz : z = 2 ∨ z = 83) (hs : s < 8) (h : XTk M z D s) (hf : zF S M M') (h1 : ∀ a j, sTc s a j → ¬ S a j) (h2 : ∀ a j, (z + 25 ≤ a ∧ a ≤ z + 80) ∨ a = z + 21 → ¬ S a j) : XTk M' z D s := by
  obtain ⟨t1, t2, t3, t4⟩ := h
  have k : ∀ j, 4 ≤ j → mI M' (173 + 13 * s) j = mI M (173 + 13 * s) j := fun j hj => hf.2.2.2.1 _ _ (by omega) (fun s' q w => by omega) (h1 _ _ (Or.inl ⟨rfl, hj⟩))
  have kS : ∀ {v wt snd B Y}, SetX M s v wt snd B Y → SetX M' s v wt snd B Y := fun q => SetX_z hs q hf (fun a j w => h1 a j (by unfold sTc; omega))
  refine ⟨TkX_zz hs (isSh_z hz hs) hz t1 hf (fun a j w => h2 a j (by omega)), ?_, ?_, ?_⟩
  · rcases t2 with q | q
    · exact Or.inl (by rw [k 4 (by omega)]; exact q)
    · exact Or.inr ⟨by rw [k 4 (by omega)]; exact q.1, kS q.2⟩
  · rcases t3 with q | q
    · exact Or.inl (by rw [k 5 (by omega)]; exact q)
    · exact Or.inr ⟨by rw [k 5 (by omega)]; exact q.1, by rw [k 4 (by omega)]; exact q.2.1, kS q.2.2.1, by rw [k 13 (by omega)]; exact q.2.2.2.1, by rw [k 14 (by omega)]; exact q.2.2.2.2⟩
  · rcases t4 with q | q
    · exact Or.inl (by rw [k 6 (by omega)]; exact q)
    · exact Or.inr ⟨by rw [k 6 (by omega)]; exact q.1, by rw [k 7 (by omega)]; exact q.2⟩
/-- what is asked of one track -/
def sQ1 (s z a j : Nat) : Prop := (173 + 13 * s ≤ a ∧ a ≤ 185 + 13 * s) ∨ sMm z a j ∨ (a = 0 ∧ 13 ≤ j ∧ j ≤ 16) ∨ a = 171 ∨ a = 172
theorem XR_z {M M' : am_M} {z s0 : Nat} {D : Dat} {S : Nat → Nat → Prop} (hD : dOK D) (h : XR M z D) (hf : zF S M M') (hS : ∀ a j, S a j → sQ1 s0 z a j ∨ 277 ≤ a ∨ (a = 0 ∧ j < 13) ∨ a = 1 ∨ a = 169 ∨ a = 170) (hT : s0 < dN D → XTk M' z D s0) (hq : SqX M' z (dDp D) (dCs D) (dQt D)) (hl : LkX M' D) : XR M' z D := by
  obtain ⟨⟨hL, hI, hz, r2, r3, hO⟩, ⟨c, hP⟩, hS1, hTk, hLk⟩ := h
  have n8 := dN_8 hD
  refine ⟨⟨hf.1, hf.2.1, hz, ?_, ?_, ?_⟩, ⟨c, ?_⟩, hq, ?_, hl⟩
  · rw [hf.2.2.2.2.2.1 _ _ (by omega) (fun s' q w => by omega)]; exact r2
  · rw [hf.2.2.2.2.2.1 _ _ (by omega) (fun s' q w => by omega)]; exact r3
  · intro k hk
    rw [hf.2.2.2.1 _ _ (by omega) (fun s' q w => by omega) (fun w => by have := hS _ _ w; unfold sQ1 sMm at this; omega)]
    exact hO k hk
  · exact PsX_z hz hP hD.1 hf (fun a j q1 q2 w => by have := hS _ _ w; unfold sQ1 sMm at this; omega)
  · intro s hs
    by_cases e : s = s0
    · subst e; exact hT hs
    · exact XTk_z hz (by omega) (hTk s hs) hf (fun a j q w => by have := hS _ _ w; unfold sQ1 sMm at this; unfold sTc at q; omega) (fun a j q w => by have := hS _ _ w; unfold sQ1 sMm at this; omega)
theorem LkX_z {M M' : am_M} {D : Dat} {S : Nat → Nat → Prop} (h : LkX M D) (hf : zF S M M') (hS : ∀ j, 13 ≤ j → ¬ S 0 j) : LkX M' D := by
  have k : ∀ j, 13 ≤ j → mI M' 0 j = mI M 0 j := fun j hj => hf.2.2.2.1 _ _ (by omega) (fun s' q w => by omega) (hS j hj)
  unfold LkX
  rw [k 13 (by omega), k 14 (by omega), k 15 (by omega), k 16 (by omega)]
  exact h
theorem SqX_z {M M' : am_M} {z : Nat} {dep cst : Nat → Nat} {qut : Nat → Nat → Prop} {S : Nat → Nat → Prop} (hz : z = 2 ∨ z = 83) (h : SqX M z dep cst qut) (hf : zF S M M') (hS : ∀ a j, z ≤ a → a ≤ z + 24 → ¬ a = z + 8 → ¬ S a j) : SqX M' z dep cst qut :=
  SqX_u h (fun a j q1 q2 q3 => hf.2.2.2.1 _ _ (by omega) (fun s' q w => by omega) (hS _ _ (by omega) (by omega) (by omega))) (fun a j q => hf.2.2.2.2.1 _ _ (by omega) (hS _ _ (by omega) (by omega) (by omega)))
/-- nothing that is known is touched -/
theorem XR_k {M M' : am_M} {z s0 : Nat} {D : Dat} {S : Nat → Nat → Prop} (hD : dOK D) (hs : s0 < 8) (h : XR M z D) (hf : zF S M M') (hS : ∀ a j, S a j → (180 + 13 * s0 = a) ∨ a = 171 ∨ a = 172 ∨ a = 178 + 13 * s0 ∨ a = 184 + 13 * s0 ∨ a = 185 + 13 * s0) : XR M' z D := by
  have h0 := h
  obtain ⟨⟨hL, hI, hz, r2, r3, hO⟩, ⟨c, hP⟩, hS1, hTk, hLk⟩ := h0
  have n8 := dN_8 hD
  exact XR_z (s0 := s0) hD h hf (fun a j q => Or.inl (by have := hS _ _ q; unfold sQ1; omega)) (fun q => XTk_z hz (by omega) (hTk s0 q) hf (fun a j q w => by have := hS _ _ w; unfold sTc at q; omega) (fun a j q w => by have := hS _ _ w; omega)) (SqX_z hz hS1 hf (fun a j q1 q2 q3 w => by have := hS _ _ w; omega)) (LkX_z hLk hf (fun j hj w => by have := hS _ _ w; omega))
theorem XR_r {M M' : am_M} {z : Nat} {D : Dat} (hD : dOK D) (h : XR M z D) (hf : rgF M M') : XR M' z D := XR_k (s0 := 0) (S := fun _ _ => False) hD (by omega) h (zF_r hf) (fun a j q => q.elim)
theorem XR_x {M M' : am_M} {z s : Nat} {D : Dat} (hD : dOK D) (hs : s < 8) (h : XR M z D) (hf : xF s M M') : XR M' z D := XR_k (s0 := s) hD hs h (zF_x hf) (fun a j q => by have q' : a = 180 + 13 * s := q; omega)
/-- a track is settled -/
theorem XR_set {M M' : am_M} {z s : Nat} {D : Dat} (hD : dOK D) (hs : s < dN D) (h : XR M z D) (hf : zF (sSt s) M M') (h4 : mI M' (173 + 13 * s) 4 = 1) (hS : SetX M' s (dV D s) (dWt D s) (dSn D s) (dBs D s) (dY D s)) : XR M' z D := by
  have h0 := h
  obtain ⟨⟨hL, hI, hz, r2, r3, hO⟩, ⟨c, hP⟩, hS1, hTk, hLk⟩ := h0
  have n8 := dN_8 hD
  have k : ∀ j, 5 ≤ j → ¬ j = 8 → ¬ j = 11 → mI M' (173 + 13 * s) j = mI M (173 + 13 * s) j := fun j h1 h2 h3 => hf.2.2.2.1 _ _ (by omega) (fun s' q w => by omega) (fun w => by unfold sSt at w; omega)
  refine XR_z (s0 := s) hD h hf (fun a j q => Or.inl (by unfold sSt at q; unfold sQ1; omega)) (fun _ => ?_) (SqX_z hz hS1 hf (fun a j q1 q2 q3 w => by unfold sSt at w; omega)) (LkX_z hLk hf (fun j hj w => by unfold sSt at w; omega))
  obtain ⟨t1, t2, t3, t4⟩ := hTk s hs
  refine ⟨TkX_zz (by omega) (isSh_z hz (by omega)) hz t1 hf (fun a j w q => by unfold sSt at q; omega), Or.inr ⟨h4, hS⟩, ?_, ?_⟩
  · rcases t3 with q | q
    · exact Or.inl (by rw [k 5 (by omega) (by omega) (by omega)]; exact q)
    · exact Or.inr ⟨by rw [k 5 (by omega) (by omega) (by omega)]; exact q.1, h4, hS, by rw [k 13 (by omega) (by omega) (by omega)]; exact q.2.2.2.1, by rw [k 14 (by omega) (by omega) (by omega)]; exact q.2.2.2.2⟩
  · rcases t4 with q | q
    · exact Or.inl (by rw [k 6 (by omega) (by omega) (by omega)]; exact q)
    · exact Or.inr ⟨by rw [k 6 (by omega) (by omega) (by omega)]; exact q.1, by rw [k 7 (by omega) (by omega) (by omega)]; exact q.2⟩
/-- its gaps are counted -/
theorem XR_gap {M M' : am_M} {z s : Nat} {D : Dat} (hD : dOK D) (hs : s < dN D) (h : XR M z D) (hf : zF (sGp s z) M M') (hq : SqX M' z (dDp D) (dCs D) (dQt D)) (h5 : mI M' (173 + 13 * s) 5 = 1) (hG : GpX (dWt D s) (dV D s) (dSn D s) (dBs D s) (dY D s) (dQt D) M' s) : XR M' z D := by
  have h0 := h
  obtain ⟨⟨hL, hI, hz, r2, r3, hO⟩, ⟨c, hP⟩, hS1, hTk, hLk⟩ := h0
  have n8 := dN_8 hD
  have k : ∀ j, j = 6 ∨ j = 7 → mI M' (173 + 13 * s) j = mI M (173 + 13 * s) j := fun j h1 => hf.2.2.2.1 _ _ (by omega) (fun s' q w => by omega) (fun w => by unfold sGp sSt sMm at w; omega)
  refine XR_z (s0 := s) hD h hf (fun a j q => Or.inl (by unfold sGp sSt sMm at q; unfold sQ1 sMm; omega)) (fun _ => ?_) hq (LkX_z hLk hf (fun j hj w => by unfold sGp sSt sMm at w; omega))
  obtain ⟨t1, t2, t3, t4⟩ := hTk s hs
  refine ⟨TkX_zz (by omega) (isSh_z hz (by omega)) hz t1 hf (fun a j w q => sGp_g (isSh_z hz (by omega)) hz w q), Or.inr ⟨hG.1, hG.2.1⟩, Or.inr ⟨h5, hG⟩, ?_⟩
  rcases t4 with q | q
  · exact Or.inl (by rw [k 6 (by omega)]; exact q)
  · exact Or.inr ⟨by rw [k 6 (by omega)]; exact q.1, by rw [k 7 (by omega)]; exact q.2⟩
/-- the sea's memory of costs and quiet hours -/
theorem XR_mm {M M' : am_M} {z : Nat} {D : Dat} (hD : dOK D) (h : XR M z D) (hf : zF (sMm z) M M') (hq : SqX M' z (dDp D) (dCs D) (dQt D)) : XR M' z D := by
  have h0 := h
  obtain ⟨⟨hL, hI, hz, r2, r3, hO⟩, ⟨c, hP⟩, hS1, hTk, hLk⟩ := h0
  have n8 := dN_8 hD
  exact XR_z (s0 := 0) hD h hf (fun a j q => Or.inl (Or.inr (Or.inl q))) (fun q => XTk_z hz (by omega) (hTk 0 q) hf (fun a j q w => by unfold sMm at w; unfold sTc at q; omega) (fun a j q w => by unfold sMm at w; omega)) hq (LkX_z hLk hf (fun j hj w => by unfold sMm at w; omega))
theorem zq_up {M M' : am_M} {z s : Nat} {S : Nat → Nat → Prop} (hs : s < 8) (h : zF S M M') (hS : ∀ a j, S a j → sQ1 s z a j) : zF (sXq z) M M' := zF_up h (fun a j q => by have := hS _ _ q; unfold sQ1 sMm at this; unfold sXq sMm; omega)
/-- the model's helper: what is told of a ship -/
theorem mh {M : am_M} {b s : Nat} {D : Dat} (hD : dOK D) (hM : MdM M b D) (hs : s < dN D) : MB M b (dC D) (dR D) ∧ ShM M b (dC D) (dR D) s (dV D s) (dDp D) (dDr D s) (dLd D s) (dY D s) ∧ BkM M b (dC D) (dBk D) ∧ bkOK (dC D) (dR D) (dBk D) ∧ mW_ M b (dC D) (dR D) s = dWt D s := by
  obtain ⟨h1, h2, h3, h4, h5, h6, h7, hr, h8⟩ := hM
  have n8 := dN_8 hD
  have hC := dOK_1 hD hs
  obtain ⟨q0, q1, q2, q3, q4⟩ := h4.2 s _ (dSp_at hs)
  have hk := dSp_ok hD.1 hs
  have hDp : DpM M b (dC D) (dR D) s (dDp D) (dDr D s) (dLd D s) := ⟨q3, q4, hk.2.2.2.2.2.2.2.1, hk.2.2.2.2.2.2.2.2, fun p hp => ⟨dpF_le _ _ _ _, (h8 p hp).1⟩⟩
  refine ⟨⟨h1.1, h1.2, h2.1, h2.2, hC.1, hD.1.1.1, hC.2, hD.1.1.2⟩, ⟨q2, hk.2.2.2.2.1, hk.2.2.2.2.2.1, hDp, h5.2 s (by omega)⟩, h6, hD.1.2.2.2.2.2.2.1.1, ?_⟩
  funext p
  exact propext ((m_wat hDp p).trans (dWt_v hD hs p).symm)
theorem zF_g {S : Nat → Nat → Prop} {M M' : am_M} (hL : Lay M) (hI : RInv M) (h : gF S nT M M') (h1 : ∀ a j s', s' < 8 → S a j → ¬ a = 174 + 13 * s' ∧ ¬ a = 175 + 13 * s' ∧ ¬ a = 177 + 13 * s') (h2 : ∀ a j, S a j → a < 336) : zF S M M' := by
  refine ⟨gF_LayN h hL, gF_RInv h hI (fun a j s _ q => q.elim), by unfold mC; rw [h.2.2.2]; exact Nat.le_refl _, fun a j _ _ q => h.1 a j q, fun a j _ q => h.2.1 a j q, fun a j _ _ => h.2.2.1 a j (fun q => q), fun s' v wt hs' hT => TrW_gF hT hI hs' h (fun a j q w => ?_) (fun j q => q)⟩
  have := h1 a j s' hs' w
  have := h2 a j w
  omega
/-- the model works: the class stays -/
theorem XR_m {M M' : am_M} {z : Nat} {D : Dat} {S : Nat → Nat → Prop} (hD : dOK D) (h : XR M z D) (hg : gF S nT M M') (hS : ∀ a j, S a j → 277 ≤ a ∧ a < 336) : XR M' z D := by
  have h0 := h
  obtain ⟨⟨hL, hI, hz, r2, r3, hO⟩, ⟨c, hP⟩, hS1, hTk, hLk⟩ := h0
  have n8 := dN_8 hD
  have hf := zF_g hL hI hg (fun a j s' q w => by have := hS a j w; omega) (fun a j w => (hS a j w).2)
  exact XR_z (s0 := 0) hD h hf (fun a j q => Or.inr (Or.inl (hS a j q).1)) (fun q => XTk_z hz (by omega) (hTk 0 q) hf (fun a j q w => by have := hS a j w; unfold sTc at q; omega) (fun a j q w => by have := hS a j w; omega)) (SqX_z hz hS1 hf (fun a j q1 q2 q3 w => by have := hS a j w; omega)) (LkX_z hLk hf (fun j hj w => by have := hS 0 j w; omega))
/-- the tape, refusals, the image: nothing that XR speaks of -/
theorem XR_t {M M' : am_M} {z : Nat} {D : Dat} {S : Nat → Nat → Prop} (hD : dOK D) (h : XR M z D) (hg : gF S nT M M') (hS : ∀ a j, S a j → (a = 0 ∧ j < 13) ∨ a = 1 ∨ a = 169 ∨ a = 170) : XR M' z D := by
  have h0 := h
  obtain ⟨⟨hL, hI, hz, r2, r3, hO⟩, ⟨c, hP⟩, hS1, hTk, hLk⟩ := h0
  have n8 := dN_8 hD
  have hf := zF_g hL hI hg (fun a j s' q w => by have := hS a j w; omega) (fun a j w => by have := hS a j w; omega)
  exact XR_z (s0 := 0) hD h hf (fun a j q => Or.inr (Or.inr (hS a j q))) (fun q => XTk_z hz (by omega) (hTk 0 q) hf (fun a j q w => by have := hS a j w; unfold sTc at q; omega) (fun a j q w => by have := hS a j w; omega)) (SqX_z hz hS1 hf (fun a j q1 q2 q3 w => by have := hS a j w; omega)) (LkX_z hLk hf (fun j hj w => by have := hS 0 j w; omega))
end
section
/-! a call of the class and the same call of the model -/
def OpI (y ym : Nat) (as : List Value) (K : Value → Prop) : Prop := ∀ (M : am_M), Inv M → ∀ d, 200 ≤ d → am_E am_P0 d y (.ref 0 :: as) M (fun r M1 => ∃ v, r = some v ∧ K v ∧ Lay M1 ∧ am_E am_P0 d ym (.ref 277 :: as) M1 (fun r2 M2 => r2 = some v ∧ Inv M2))
def isI (v : Value) : Prop := ∃ x, v = .int x
def isJ (v : Value) : Prop := ∃ x, v = .long x
/-- asking: the class, the model -/
def XqO (y : Nat) (as : List Value) (ans : Dat → Value) : Prop := ∀ (d : Nat) (M : am_M) (z : Nat) (D : Dat) (Q : Option Value → am_M → Prop), dOK D → XR M z D → (∀ M', zF (sXq z) M M' → XR M' z D → Q (some (ans D)) M') → am_E am_P0 (d + 20) y (.ref 0 :: as) M Q
def MqO (y : Nat) (as : List Value) (ans : Dat → Value) : Prop := ∀ (d : Nat) (M : am_M) (b : Nat) (D : Dat) (Q : Option Value → am_M → Prop), dOK D → Lay M → MdM M b D → (∀ M', gF sMq nT M M' → Q (some (ans D)) M') → am_E am_P0 (d + 20) y (.ref 277 :: as) M Q
def MzO (y : Nat) (as : List Value) (ans : Dat → Value) : Prop := ∀ (d : Nat) (M : am_M) (b : Nat) (D : Dat) (Q : Option Value → am_M → Prop), dOK D → Lay M → MdM M b D → (∀ M', gF sMz nT M M' → Q (some (ans D)) M') → am_E am_P0 (d + 20) y (.ref 277 :: as) M Q
theorem op_z {y ym : Nat} {as : List Value} {ans : Dat → Value} {K : Value → Prop} (hK : ∀ D, K (ans D)) (hx : XqO y as ans) (hm : MzO ym as ans) : OpI y ym as K := by
  intro M ⟨z, b, D, hD, hX, hM, ⟨T, n, t1, t2, t3, t4⟩, hRf, hFt, ⟨k, k1, k2, k3, k4⟩⟩ d hd
  obtain ⟨e, rfl⟩ : ∃ e, d = e + 20 := ⟨d - 20, by omega⟩
  refine hx e M z D _ hD hX (fun M1 f1 X1 => ⟨_, rfl, hK D, X1.1.1, ?_⟩)
  have hz := hX.1.2.2.1
  have fx : fX M M1 := fX_z f1 (fun a j q => by unfold sXq sMm at q; omega)
  refine hm e M1 b D _ hD X1.1.1 (MdM_x hM fx) (fun M2 g2 => ⟨rfl, z, b, D, hD, XR_m hD X1 g2 (fun a j q => by unfold sMz sMq at q; omega), MdM_g (MdM_x hM fx) g2 (fun a j q w => by unfold tlM at q; unfold sMz sMq at w; omega), ?_⟩)
  have kx : ∀ a j, a < 336 → ¬ sXq z a j → ¬ sMz a j → mI M2 a j = mI M a j := fun a j h1 h2 h3 => by
    rw [g2.1 _ _ h3]
    refine f1.2.2.2.1 _ _ h1 (fun s' q w => ?_) h2
    exact h2 (by unfold sXq; omega)
  refine ⟨⟨T, n, t1, ?_, ?_, fun j hj => ⟨(t4 j hj).1, ?_, ?_⟩⟩, fun j hj => ?_, ⟨?_, ?_⟩, ⟨k, k1, ?_, ?_, fun j hj => ?_⟩⟩
  · rw [kx _ _ (by omega) (by unfold sXq sMm; omega) (by unfold sMz sMq; omega)]; exact t2
  · rw [kx _ _ (by omega) (by unfold sXq sMm; omega) (by unfold sMz sMq; omega)]; exact t3
  · rw [kx _ _ (by omega) (by unfold sXq sMm; omega) (by unfold sMz sMq; omega)]; exact (t4 j hj).2.1
  · rw [kx _ _ (by omega) (by unfold sXq sMm; omega) (by unfold sMz sMq; omega)]; exact (t4 j hj).2.2
  · rw [kx _ _ (by omega) (by unfold sXq sMm; omega) (by unfold sMz sMq; omega), kx _ _ (by omega) (by unfold sXq sMm; omega) (by unfold sMz sMq; omega)]; exact hRf j hj
  · rw [kx _ _ (by omega) (by unfold sXq sMm; omega) (by unfold sMz sMq; omega), kx _ _ (by omega) (by unfold sXq sMm; omega) (by unfold sMz sMq; omega)]; exact hFt.1
  · trivial
  · rw [kx _ _ (by omega) (by unfold sXq sMm; omega) (by unfold sMz sMq; omega)]; exact k2
  · rw [kx _ _ (by omega) (by unfold sXq sMm; omega) (by unfold sMz sMq; omega)]; exact k3
  · rw [kx _ _ (by omega) (by unfold sXq sMm; omega) (by unfold sMz sMq; omega), kx _ _ (by omega) (by unfold sXq sMm; omega) (by unfold sMz sMq; omega)]; exact k4 j hj
theorem op_q {y ym : Nat} {as : List Value} {ans : Dat → Value} {K : Value → Prop} (hK : ∀ D, K (ans D)) (hx : XqO y as ans) (hm : MqO ym as ans) : OpI y ym as K := op_z hK hx (fun d M b D Q hD hL h hQ => hm d M b D Q hD hL h (fun M' g' => hQ M' (gF_up g' (fun a j q => Or.inl q) (fun _ _ q => q))))
theorem XR_2 {M : am_M} {z : Nat} {D : Dat} (h : XR M z D) : zF (sXq z) M M := zF_refl h.1.1 h.1.2.1
/-- a ship's number, or not -/
theorem sh_of {x : Int32} {n : Nat} (hn : n ≤ 2147483647) (h : 0 ≤ x.toInt ∧ x.toInt < n) : ∃ s, s < n ∧ x = nI s ∧ x.toInt.toNat = s := ⟨x.toInt.toNat, by omega, i32_of (by omega) (by omega), rfl⟩
theorem x_n {M : am_M} {z : Nat} {D : Dat} (h : XR M z D) : mI M z 3 = nI (dN D) ∧ mI M z 0 = nI (dC D) ∧ mI M z 1 = nI (dR D) ∧ mI M z 2 = nI (dLk D) := by
  obtain ⟨-, ⟨c, hP⟩, -⟩ := h
  exact ⟨hP.1.2.2.2, hP.1.1, hP.1.2.1, hP.1.2.2.1⟩
theorem x_isShip {M : am_M} {z : Nat} {D : Dat} (hD : dOK D) (h : XR M z D) (d : Nat) (v : Int32) (Q : Option Value → am_M → Prop) : am_E am_P0 d 150 [.ref 0, .int v] M Q ↔ Q (some (.int (bI (0 ≤ v.toInt ∧ v.toInt < dN D)))) M := c_x_isShip d v M Q h.1.1 z (dN D) h.1.2.2.1 h.1.2.2.2.1 (x_n h).1 (dN_8 hD)
theorem m_isShip {M : am_M} {b : Nat} {D : Dat} (hD : dOK D) (hL : Lay M) (h : MdM M b D) (d : Nat) (v : Int32) (Q : Option Value → am_M → Prop) : am_E am_P0 (d + 1) 220 [.ref 277, .int v] M Q ↔ Q (some (.int (bI (0 ≤ v.toInt ∧ v.toInt < dN D)))) M := c_m_isShip d v M Q hL b (dN D) h.1.1 h.1.2 h.2.2.2.1.1 (dN_8 hD)
theorem m_isCell {M : am_M} {b : Nat} {D : Dat} (hD : dOK D) (hL : Lay M) (h : MdM M b D) (d : Nat) (v w : Int32) (Q : Option Value → am_M → Prop) : am_E am_P0 (d + 1) 217 [.ref 277, .int v, .int w] M Q ↔ Q (some (.int (bI ((0 ≤ v.toInt ∧ v.toInt < dC D) ∧ (0 ≤ w.toInt ∧ w.toInt < dR D))))) M := c_m_isCell d v w M Q hL b (dC D) (dR D) h.1.1 h.1.2 h.2.1.1 h.2.1.2 hD.1.1.1 hD.1.1.2
theorem x_placeAt {M : am_M} {z : Nat} {D : Dat} (hD : dOK D) (h : XR M z D) (d : Nat) (x y : Int32) (Q : Option Value → am_M → Prop) : am_E am_P0 d 56 [.ref z, .int x, .int y] M Q ↔ Q (some (.int (if (0 ≤ x.toInt ∧ x.toInt < dC D) ∧ (0 ≤ y.toInt ∧ y.toInt < dR D) then nI (16 * y.toInt.toNat + x.toInt.toNat) else -1))) M := c_x_placeAt d x y M Q h.1.1 z (dC D) (dR D) h.1.2.2.1 (x_n h).2.1 (x_n h).2.2.1 hD.1.1.1 hD.1.1.2
/-- a track is asked: it is settled first -/
theorem x_settled {M : am_M} {z s : Nat} {D : Dat} (hD : dOK D) (h : XR M z D) (d : Nat) (hs : s < dN D) (Q : Option Value → am_M → Prop) (hQ : ∀ M', zF (sXq z) M M' → XR M' z D → mI M' (173 + 13 * s) 4 = 1 → SetX M' s (dV D s) (dWt D s) (dSn D s) (dBs D s) (dY D s) → Q (some (.ref (173 + 13 * s))) M') : am_E am_P0 (d + 5) 154 [.ref 0, .int (nI s)] M Q := by
  obtain ⟨⟨hL, hI, hz, r2, r3, hO⟩, -, hS1, hTk, hLk⟩ := id h
  have n8 := dN_8 hD
  obtain ⟨t1, t2, t3, t4⟩ := hTk s hs
  have hst := isTr_of (show s < 8 by omega)
  rw [eX10_settled]
  simp +decide (disch := omega) only [qX10_settled, lx hL, lt_ hL hst, ltr hL (show s < 8 by omega), ni_in_t, ni_tn, am_w1_i, am_w1_r, am_w1_x, am_w1_l, am_w1_w, va_rf_s, am_push_n, am_push_s, am_cs_0, am_cs_i, am_cs_l, am_cs_r, m_uI_K, m_uI_N, m_uI_R, m_uI_L, m_uI_I, m_uL_K, m_uL_N, m_uL_R, m_uL_I, m_uL_L, m_uR_K, m_uR_N, m_uR_I, m_uR_L, m_uR_R, true_and, and_true, true_implies, false_implies, not_true_eq_false, not_false_eq_true, if_true, if_false, false_and, and_false]
  refine c_x_settle d s (z + 25 + 7 * s) z (dV D s) (dWt D s) (dDp D) (dDr D s) (dLd D s) (dBs D s) (dY D s) M _ hL hI (by omega) (isSh_z hz (by omega)) hz (hD.1.2.2.2.2.1 s) (dSn_w hD s) t1 t2 (fun M1 f1 h4 hS => ?_)
  have X1 := XR_set hD hs h f1 h4 hS
  have h0 := hQ M1 (zq_up (s := s) (by omega) f1 (fun a j q => by unfold sSt at q; unfold sQ1; omega)) X1 h4 hS
  simp +decide (disch := omega) only [qX10_settled, lx X1.1.1, ltr X1.1.1 (show s < 8 by omega), ni_in_t, ni_tn, am_w1_i, am_w1_r, am_w1_x, am_w1_l, am_w1_w, va_rf_s, am_push_n, am_push_s, am_cs_0, am_cs_i, am_cs_l, am_cs_r, m_uI_K, m_uI_N, m_uI_R, m_uI_L, m_uI_I, m_uL_K, m_uL_N, m_uL_R, m_uL_I, m_uL_L, m_uR_K, m_uR_N, m_uR_I, m_uR_L, m_uR_R, true_and, and_true, true_implies, false_implies, not_true_eq_false, not_false_eq_true, if_true, if_false, false_and, and_false]
  exact h0
end
section
/-! has -/
theorem x_ship {M : am_M} {z s : Nat} {D : Dat} (h : XR M z D) (hs : s < dN D) : ShX M (z + 25 + 7 * s) (dSp D s) (dY D s) (dBs D s) := by
  obtain ⟨-, ⟨c, hP⟩, -⟩ := h
  exact hP.2.1 s _ (dSp_at hs)
/-- how many sayings, by the model's row -/
theorem nSaid_Y {M : am_M} {b C R s : Nat} {Y : List Sy} (hY : SyM M b C R s Y) (hC : C ≤ 16) (hR : R ≤ 16) : ∀ t, t ≤ 48 → nSaid (mSaid M b s) t = (bef Y t).length := by
  intro t
  induction t with
  | zero => intro _; rw [bef_0]; rfl
  | succ t ih =>
    intro ht
    have e := ih (by omega)
    show nSaid (mSaid M b s) t + (if mI M 292 (384 * b + 48 * s + t) = -1 then 0 else 1) = _
    rcases hY.2.2 t (by omega) with ⟨y, y1, y2, y3, y4⟩ | ⟨y1, y2⟩
    · have hv := (hY.2.1 y y1).2
      have hne : ¬ mI M 292 (384 * b + 48 * s + t) = -1 := by rw [y3]; exact nI_m1 (by have := (cel_lt hC hR hv).2.1; omega)
      rw [if_neg hne, bef_t hY.1 y1 y2, List.length_append, e]
      rfl
    · rw [if_pos y2, bef_f y1, e]
      rfl
theorem nSaid_48 {M : am_M} {b C R s : Nat} {Y : List Sy} (hY : SyM M b C R s Y) (hC : C ≤ 16) (hR : R ≤ 16) : nSaid (mSaid M b s) 48 = Y.length := by
  rw [nSaid_Y hY hC hR 48 (by omega), bef_all (fun y hy => (hY.2.1 y hy).1)]
theorem m_sayN {M : am_M} {b s : Nat} {D : Dat} (hD : dOK D) (hL : Lay M) (h : MdM M b D) (hs : s < 8) (d : Nat) (Q : Option Value → am_M → Prop) : am_E am_P0 (d + 1) 228 [.ref 277, .int (nI s)] M Q ↔ Q (some (.int (nI (dY D s).length))) M := by
  rw [c_m_sayingsOf d s M Q hL b h.1.1 h.1.2 hs, nSaid_48 (h.2.2.2.2.1.2 s hs) hD.1.1.1 hD.1.1.2]
/-- ships that say something -/
def syN (D : Dat) : Nat → Nat := cnt (fun s => decide (0 < (dY D s).length))
theorem ni_pos {n : Nat} (h : n < 2147483648) : nI n ≤ 0 ↔ n = 0 := by
  rw [show (0 : Int32) = nI 0 from rfl, ni_le h (by omega)]; omega
theorem l_x_sayers (d z : Nat) (D : Dat) (M : am_M) (Q : Option Value → am_M → Prop) (hD : dOK D) (h : XR M z D) : ∀ (m k : Nat), k + m = dN D → (am_P am_P0 d (am_look tX5_countSayers) 4 [.ref z, .int (nI (syN D k)), .int (nI k)] [] M Q ↔ Q (some (.int (nI (syN D (dN D))))) M) := by
  have n8 := dN_8 hD
  have hn := (x_n h).1
  have hz := h.1.2.2.1
  have hL := h.1.1
  intro m
  induction m with
  | zero =>
    intro k hk
    have e : k = dN D := by omega
    have hle : nI (dN D) ≤ nI k := (ni_le (by omega) (by omega)).mpr (by omega)
    rw [hX5_countSayers_4]
    simp +decide only [qX5_countSayers, lz hL hz, hn, am_w1_i, am_w1_r, am_w1_x, am_w1_l, am_w1_w, va_rf_s, am_push_n, am_push_s, am_cs_0, am_cs_i, am_cs_l, am_cs_r, m_uI_K, m_uI_N, m_uI_R, m_uI_L, m_uI_I, m_uL_K, m_uL_N, m_uL_R, m_uL_I, m_uL_L, m_uR_K, m_uR_N, m_uR_I, m_uR_L, m_uR_R, true_and, and_true, true_implies, false_implies, not_true_eq_false, not_false_eq_true, if_true, if_false, false_and, and_false]
    rw [br_p hle, e]
  | succ m ih =>
    intro k hk
    have hlt : ¬ nI (dN D) ≤ nI k := by rw [ni_le (by omega) (by omega)]; omega
    have hr := lsh hL hz (s := k) (by omega)
    have hk16 : mK M (z + 25 + 7 * k) = 16 := (lw_ hL (isSh_z hz (by omega))).1
    have h5 := (x_ship h (s := k) (by omega)).2.1.1
    have h48 := dY_len hD k
    have h0 := ih (k + 1) (by omega)
    rw [hX5_countSayers_4]
    simp +decide (disch := omega) only [qX5_countSayers, lz hL hz, hn, hr, hk16, h5, ni_in_t, ni_tn, ni_add1, ni_add, am_w1_i, am_w1_r, am_w1_x, am_w1_l, am_w1_w, va_rf_s, am_push_n, am_push_s, am_cs_0, am_cs_i, am_cs_l, am_cs_r, m_uI_K, m_uI_N, m_uI_R, m_uI_L, m_uI_I, m_uL_K, m_uL_N, m_uL_R, m_uL_I, m_uL_L, m_uR_K, m_uR_N, m_uR_I, m_uR_L, m_uR_R, true_and, and_true, true_implies, false_implies, not_true_eq_false, not_false_eq_true, if_true, if_false, false_and, and_false, true_or]
    rw [br_n hlt, ni_pos (by omega)]
    by_cases c : (dY D k).length = 0
    · rw [br_p c]
      have e : syN D (k + 1) = syN D k := cnt_f (by simp [c])
      rw [e] at h0
      rw [show (0 : Int32) = nI 0 from rfl, ni_add, Nat.add_zero]
      exact h0
    · rw [br_n c]
      have e : syN D (k + 1) = syN D k + 1 := cnt_t (by simp; omega)
      rw [e] at h0
      exact h0
theorem x_sayers {M : am_M} {z : Nat} {D : Dat} (hD : dOK D) (h : XR M z D) (d : Nat) (Q : Option Value → am_M → Prop) : am_E am_P0 d 60 [.ref z] M Q ↔ Q (some (.int (nI (syN D (dN D))))) M := by
  have h0 := l_x_sayers d z D M Q hD h (dN D) 0 (by omega)
  rw [eX5_countSayers]
  simp +decide only [qX5_countSayers, am_w1_i, am_w1_r, am_w1_x, am_w1_l, am_w1_w, va_rf_s, am_push_n, am_push_s, am_cs_0, am_cs_i, am_cs_l, am_cs_r, m_uI_K, m_uI_N, m_uI_R, m_uI_L, m_uI_I, m_uL_K, m_uL_N, m_uL_R, m_uL_I, m_uL_L, m_uR_K, m_uR_N, m_uR_I, m_uR_L, m_uR_R, true_and, and_true, true_implies, false_implies, not_true_eq_false, not_false_eq_true, if_true, if_false, false_and, and_false]
  exact h0
theorem l_m_has (d b : Nat) (w : Int32) (D : Dat) (M : am_M) (Q : Option Value → am_M → Prop) (hD : dOK D) (hL : Lay M) (h : MdM M b D) : ∀ (m k : Nat), k + m = dN D → (am_P am_P0 (d + 2) (am_look tX11_has) 120 [.ref 277, .int w, .int (nI (syN D k)), .int (nI k)] [] M Q ↔ Q (some (.int (nI (syN D (dN D))))) M) := by
  have n8 := dN_8 hD
  have hb := h.1.1
  have hb2 := h.1.2
  have hn := h.2.2.2.1.1
  intro m
  induction m with
  | zero =>
    intro k hk
    have e : k = dN D := by omega
    have hle : nI (dN D) ≤ nI k := (ni_le (by omega) (by omega)).mpr (by omega)
    rw [hX11_has_120]
    simp +decide (disch := omega) only [qX11_has_0, qX11_has_1, lm hL, hb, hn, ni_in_t, ni_tn, am_w1_i, am_w1_r, am_w1_x, am_w1_l, am_w1_w, va_rf_s, am_push_n, am_push_s, am_cs_0, am_cs_i, am_cs_l, am_cs_r, m_uI_K, m_uI_N, m_uI_R, m_uI_L, m_uI_I, m_uL_K, m_uL_N, m_uL_R, m_uL_I, m_uL_L, m_uR_K, m_uR_N, m_uR_I, m_uR_L, m_uR_R, true_and, and_true, true_implies, false_implies, not_true_eq_false, not_false_eq_true, if_true, if_false, false_and, and_false]
    rw [br_p hle, e]
  | succ m ih =>
    intro k hk
    have hlt : ¬ nI (dN D) ≤ nI k := by rw [ni_le (by omega) (by omega)]; omega
    have hsay := fun Q => m_sayN hD hL h (s := k) (by omega) d Q
    have h48 := dY_len hD k
    have h0 := ih (k + 1) (by omega)
    rw [hX11_has_120]
    simp +decide (disch := omega) only [qX11_has_0, qX11_has_1, lm hL, hb, hn, hsay, ni_in_t, ni_tn, ni_add1, am_w1_i, am_w1_r, am_w1_x, am_w1_l, am_w1_w, va_rf_s, am_push_n, am_push_s, am_cs_0, am_cs_i, am_cs_l, am_cs_r, m_uI_K, m_uI_N, m_uI_R, m_uI_L, m_uI_I, m_uL_K, m_uL_N, m_uL_R, m_uL_I, m_uL_L, m_uR_K, m_uR_N, m_uR_I, m_uR_L, m_uR_R, true_and, and_true, true_implies, false_implies, not_true_eq_false, not_false_eq_true, if_true, if_false, false_and, and_false]
    rw [br_n hlt, ni_pos (by omega)]
    by_cases c : (dY D k).length = 0
    · rw [br_p c]
      have e : syN D (k + 1) = syN D k := cnt_f (by simp [c])
      rw [e] at h0
      rw [show (0 : Int32) = nI 0 from rfl, ni_add, Nat.add_zero]
      exact h0
    · rw [br_n c]
      have e : syN D (k + 1) = syN D k + 1 := cnt_t (by simp; omega)
      rw [e] at h0
      exact h0
def aHas (w : Int32) (D : Dat) : Value := .int (if w.toInt = 0 then nI (dC D) else if w.toInt = 1 then nI (dR D) else if w.toInt = 2 then nI (dN D) else if w.toInt = 3 then nI (dTot D) else if w.toInt = 4 then nI (dBk D).length else if w.toInt = 5 then nI (dSg D).length else if w.toInt = 6 then nI (dLk D) else if w.toInt = 7 then nI (syN D (dN D)) else -1)
/-- a small number, or not -/
theorem sw_of (w : Int32) (N : Nat) (hN : N < 2147483648) : (∃ k, k < N ∧ w = nI k ∧ w.toInt = k) ∨ (w.toInt < 0 ∨ (N : Int) ≤ w.toInt) := by
  by_cases h : 0 ≤ w.toInt ∧ w.toInt < N
  · exact Or.inl ⟨w.toInt.toNat, by omega, i32_of (by omega) (by omega), by omega⟩
  · exact Or.inr (by omega)
theorem x_has (w : Int32) : XqO 113 [.int w] (aHas w) := by
  intro d M z D Q hD h hQ
  have h0 := hQ M (XR_2 h) h
  have hz := h.1.2.2.1
  have hL := h.1.1
  have hr := h.1.2.2.2.1
  obtain ⟨n3, n0, n1, n2⟩ := x_n h
  obtain ⟨-, ⟨c, hP⟩, -⟩ := id h
  have e59 := fun Q => c_x_tot (d + 19) z c D M Q hL hz hP hD.1
  have e61 := fun Q => c_x_countBooks (d + 19) z c D M Q hL hz hP hD.1
  have e60 := fun Q => x_sayers hD h (d + 19) Q
  have g5 : mI M (z + 2) 0 = nI (dSg D).length := hP.2.2.1.1
  unfold aHas at h0
  rw [eX10_has]
  simp +decide only [qX10_has, am_w1_i, am_w1_r, am_w1_x, am_w1_l, am_w1_w, va_rf_s, am_push_n, am_push_s, am_cs_0, am_cs_i, am_cs_l, am_cs_r, m_uI_K, m_uI_N, m_uI_R, m_uI_L, m_uI_I, m_uL_K, m_uL_N, m_uL_R, m_uL_I, m_uL_L, m_uR_K, m_uR_N, m_uR_I, m_uR_L, m_uR_R, true_and, and_true, true_implies, false_implies, not_true_eq_false, not_false_eq_true, if_true, if_false, false_and, and_false]
  rcases sw_of w 8 (by omega) with ⟨k, k1, k2, k3⟩ | c1
  · rw [k3] at h0
    rw [k2]
    rcases (by omega : k = 0 ∨ k = 1 ∨ k = 2 ∨ k = 3 ∨ k = 4 ∨ k = 5 ∨ k = 6 ∨ k = 7) with e | e | e | e | e | e | e | e <;> subst e
    · rw [show am_tab 0 [48, 56, 64, 72, 80, 88, 99, 107] 115 (nI 0) = 48 from rfl]
      simp +decide only [qX10_has, lx hL, lz hL hz, hr, n0, if_true, if_false, am_w1_i, am_w1_r, am_w1_x, am_w1_l, am_w1_w, va_rf_s, am_push_n, am_push_s, am_cs_0, am_cs_i, am_cs_l, am_cs_r, m_uI_K, m_uI_N, m_uI_R, m_uI_L, m_uI_I, m_uL_K, m_uL_N, m_uL_R, m_uL_I, m_uL_L, m_uR_K, m_uR_N, m_uR_I, m_uR_L, m_uR_R, true_and, and_true, true_implies, false_implies, not_true_eq_false, not_false_eq_true, if_true, if_false, false_and, and_false] at h0 ⊢
      exact h0
    · rw [show am_tab 0 [48, 56, 64, 72, 80, 88, 99, 107] 115 (nI 1) = 56 from rfl]
      simp +decide only [qX10_has, lx hL, lz hL hz, hr, n1, if_true, if_false, am_w1_i, am_w1_r, am_w1_x, am_w1_l, am_w1_w, va_rf_s, am_push_n, am_push_s, am_cs_0, am_cs_i, am_cs_l, am_cs_r, m_uI_K, m_uI_N, m_uI_R, m_uI_L, m_uI_I, m_uL_K, m_uL_N, m_uL_R, m_uL_I, m_uL_L, m_uR_K, m_uR_N, m_uR_I, m_uR_L, m_uR_R, true_and, and_true, true_implies, false_implies, not_true_eq_false, not_false_eq_true, if_true, if_false, false_and, and_false] at h0 ⊢
      exact h0
    · rw [show am_tab 0 [48, 56, 64, 72, 80, 88, 99, 107] 115 (nI 2) = 64 from rfl]
      simp +decide only [qX10_has, lx hL, lz hL hz, hr, n3, if_true, if_false, am_w1_i, am_w1_r, am_w1_x, am_w1_l, am_w1_w, va_rf_s, am_push_n, am_push_s, am_cs_0, am_cs_i, am_cs_l, am_cs_r, m_uI_K, m_uI_N, m_uI_R, m_uI_L, m_uI_I, m_uL_K, m_uL_N, m_uL_R, m_uL_I, m_uL_L, m_uR_K, m_uR_N, m_uR_I, m_uR_L, m_uR_R, true_and, and_true, true_implies, false_implies, not_true_eq_false, not_false_eq_true, if_true, if_false, false_and, and_false] at h0 ⊢
      exact h0
    · rw [show am_tab 0 [48, 56, 64, 72, 80, 88, 99, 107] 115 (nI 3) = 72 from rfl]
      simp +decide only [qX10_has, lx hL, lz hL hz, hr, e59, if_true, if_false, am_w1_i, am_w1_r, am_w1_x, am_w1_l, am_w1_w, va_rf_s, am_push_n, am_push_s, am_cs_0, am_cs_i, am_cs_l, am_cs_r, m_uI_K, m_uI_N, m_uI_R, m_uI_L, m_uI_I, m_uL_K, m_uL_N, m_uL_R, m_uL_I, m_uL_L, m_uR_K, m_uR_N, m_uR_I, m_uR_L, m_uR_R, true_and, and_true, true_implies, false_implies, not_true_eq_false, not_false_eq_true, if_true, if_false, false_and, and_false] at h0 ⊢
      exact h0
    · rw [show am_tab 0 [48, 56, 64, 72, 80, 88, 99, 107] 115 (nI 4) = 80 from rfl]
      simp +decide only [qX10_has, lx hL, lz hL hz, hr, e61, if_true, if_false, am_w1_i, am_w1_r, am_w1_x, am_w1_l, am_w1_w, va_rf_s, am_push_n, am_push_s, am_cs_0, am_cs_i, am_cs_l, am_cs_r, m_uI_K, m_uI_N, m_uI_R, m_uI_L, m_uI_I, m_uL_K, m_uL_N, m_uL_R, m_uL_I, m_uL_L, m_uR_K, m_uR_N, m_uR_I, m_uR_L, m_uR_R, true_and, and_true, true_implies, false_implies, not_true_eq_false, not_false_eq_true, if_true, if_false, false_and, and_false] at h0 ⊢
      exact h0
    · rw [show am_tab 0 [48, 56, 64, 72, 80, 88, 99, 107] 115 (nI 5) = 88 from rfl]
      simp +decide only [qX10_has, lx hL, lz hL hz, hr, g5, if_true, if_false, am_w1_i, am_w1_r, am_w1_x, am_w1_l, am_w1_w, va_rf_s, am_push_n, am_push_s, am_cs_0, am_cs_i, am_cs_l, am_cs_r, m_uI_K, m_uI_N, m_uI_R, m_uI_L, m_uI_I, m_uL_K, m_uL_N, m_uL_R, m_uL_I, m_uL_L, m_uR_K, m_uR_N, m_uR_I, m_uR_L, m_uR_R, true_and, and_true, true_implies, false_implies, not_true_eq_false, not_false_eq_true, if_true, if_false, false_and, and_false] at h0 ⊢
      exact h0
    · rw [show am_tab 0 [48, 56, 64, 72, 80, 88, 99, 107] 115 (nI 6) = 99 from rfl]
      simp +decide only [qX10_has, lx hL, lz hL hz, hr, n2, if_true, if_false, am_w1_i, am_w1_r, am_w1_x, am_w1_l, am_w1_w, va_rf_s, am_push_n, am_push_s, am_cs_0, am_cs_i, am_cs_l, am_cs_r, m_uI_K, m_uI_N, m_uI_R, m_uI_L, m_uI_I, m_uL_K, m_uL_N, m_uL_R, m_uL_I, m_uL_L, m_uR_K, m_uR_N, m_uR_I, m_uR_L, m_uR_R, true_and, and_true, true_implies, false_implies, not_true_eq_false, not_false_eq_true, if_true, if_false, false_and, and_false] at h0 ⊢
      exact h0
    · rw [show am_tab 0 [48, 56, 64, 72, 80, 88, 99, 107] 115 (nI 7) = 107 from rfl]
      simp +decide only [qX10_has, lx hL, lz hL hz, hr, e60, if_true, if_false, am_w1_i, am_w1_r, am_w1_x, am_w1_l, am_w1_w, va_rf_s, am_push_n, am_push_s, am_cs_0, am_cs_i, am_cs_l, am_cs_r, m_uI_K, m_uI_N, m_uI_R, m_uI_L, m_uI_I, m_uL_K, m_uL_N, m_uL_R, m_uL_I, m_uL_L, m_uR_K, m_uR_N, m_uR_I, m_uR_L, m_uR_R, true_and, and_true, true_implies, false_implies, not_true_eq_false, not_false_eq_true, if_true, if_false, false_and, and_false] at h0 ⊢
      exact h0
  · rw [if_neg (by omega), if_neg (by omega), if_neg (by omega), if_neg (by omega), if_neg (by omega), if_neg (by omega), if_neg (by omega), if_neg (by omega)] at h0
    rw [am_tab_out (by simp; omega)]
    simp +decide only [qX10_has, am_w1_i, am_w1_r, am_w1_x, am_w1_l, am_w1_w, va_rf_s, am_push_n, am_push_s, am_cs_0, am_cs_i, am_cs_l, am_cs_r, m_uI_K, m_uI_N, m_uI_R, m_uI_L, m_uI_I, m_uL_K, m_uL_N, m_uL_R, m_uL_I, m_uL_L, m_uR_K, m_uR_N, m_uR_I, m_uR_L, m_uR_R, true_and, and_true, true_implies, false_implies, not_true_eq_false, not_false_eq_true, if_true, if_false, false_and, and_false]
    exact h0
theorem m_has (w : Int32) : MqO 232 [.int w] (aHas w) := by
  intro d M b D Q hD hL h hQ
  have h0 := hQ M (gF_refl _ _ _)
  obtain ⟨⟨hb, hb2⟩, ⟨n0, n1⟩, n6, hsh, hsy, hbk, hsg, -, -⟩ := id h
  have e7 := l_m_has (d + 18) b w D M Q hD hL h (dN D) 0 (by omega)
  unfold aHas at h0
  rw [eX11_has]
  simp +decide only [qX11_has_0, qX11_has_1, am_w1_i, am_w1_r, am_w1_x, am_w1_l, am_w1_w, va_rf_s, am_push_n, am_push_s, am_cs_0, am_cs_i, am_cs_l, am_cs_r, m_uI_K, m_uI_N, m_uI_R, m_uI_L, m_uI_I, m_uL_K, m_uL_N, m_uL_R, m_uL_I, m_uL_L, m_uR_K, m_uR_N, m_uR_I, m_uR_L, m_uR_R, true_and, and_true, true_implies, false_implies, not_true_eq_false, not_false_eq_true, if_true, if_false, false_and, and_false]
  rcases sw_of w 8 (by omega) with ⟨k, k1, k2, k3⟩ | c1
  · rw [k3] at h0
    rw [k2] at e7 ⊢
    rcases (by omega : k = 0 ∨ k = 1 ∨ k = 2 ∨ k = 3 ∨ k = 4 ∨ k = 5 ∨ k = 6 ∨ k = 7) with e | e | e | e | e | e | e | e <;> subst e
    · rw [show am_tab 0 [48, 58, 68, 78, 88, 98, 108, 118] 157 (nI 0) = 48 from rfl]
      simp +decide (disch := omega) only [qX11_has_0, qX11_has_1, lm hL, hb, n0, ni_in_t, ni_tn, if_true, if_false, am_w1_i, am_w1_r, am_w1_x, am_w1_l, am_w1_w, va_rf_s, am_push_n, am_push_s, am_cs_0, am_cs_i, am_cs_l, am_cs_r, m_uI_K, m_uI_N, m_uI_R, m_uI_L, m_uI_I, m_uL_K, m_uL_N, m_uL_R, m_uL_I, m_uL_L, m_uR_K, m_uR_N, m_uR_I, m_uR_L, m_uR_R, true_and, and_true, true_implies, false_implies, not_true_eq_false, not_false_eq_true, if_true, if_false, false_and, and_false] at h0 ⊢
      exact h0
    · rw [show am_tab 0 [48, 58, 68, 78, 88, 98, 108, 118] 157 (nI 1) = 58 from rfl]
      simp +decide (disch := omega) only [qX11_has_0, qX11_has_1, lm hL, hb, n1, ni_in_t, ni_tn, if_true, if_false, am_w1_i, am_w1_r, am_w1_x, am_w1_l, am_w1_w, va_rf_s, am_push_n, am_push_s, am_cs_0, am_cs_i, am_cs_l, am_cs_r, m_uI_K, m_uI_N, m_uI_R, m_uI_L, m_uI_I, m_uL_K, m_uL_N, m_uL_R, m_uL_I, m_uL_L, m_uR_K, m_uR_N, m_uR_I, m_uR_L, m_uR_R, true_and, and_true, true_implies, false_implies, not_true_eq_false, not_false_eq_true, if_true, if_false, false_and, and_false] at h0 ⊢
      exact h0
    · rw [show am_tab 0 [48, 58, 68, 78, 88, 98, 108, 118] 157 (nI 2) = 68 from rfl]
      simp +decide (disch := omega) only [qX11_has_0, qX11_has_1, lm hL, hb, hsh.1, ni_in_t, ni_tn, if_true, if_false, am_w1_i, am_w1_r, am_w1_x, am_w1_l, am_w1_w, va_rf_s, am_push_n, am_push_s, am_cs_0, am_cs_i, am_cs_l, am_cs_r, m_uI_K, m_uI_N, m_uI_R, m_uI_L, m_uI_I, m_uL_K, m_uL_N, m_uL_R, m_uL_I, m_uL_L, m_uR_K, m_uR_N, m_uR_I, m_uR_L, m_uR_R, true_and, and_true, true_implies, false_implies, not_true_eq_false, not_false_eq_true, if_true, if_false, false_and, and_false] at h0 ⊢
      exact h0
    · rw [show am_tab 0 [48, 58, 68, 78, 88, 98, 108, 118] 157 (nI 3) = 78 from rfl]
      simp +decide (disch := omega) only [qX11_has_0, qX11_has_1, lm hL, hb, hsy.1, ni_in_t, ni_tn, if_true, if_false, am_w1_i, am_w1_r, am_w1_x, am_w1_l, am_w1_w, va_rf_s, am_push_n, am_push_s, am_cs_0, am_cs_i, am_cs_l, am_cs_r, m_uI_K, m_uI_N, m_uI_R, m_uI_L, m_uI_I, m_uL_K, m_uL_N, m_uL_R, m_uL_I, m_uL_L, m_uR_K, m_uR_N, m_uR_I, m_uR_L, m_uR_R, true_and, and_true, true_implies, false_implies, not_true_eq_false, not_false_eq_true, if_true, if_false, false_and, and_false] at h0 ⊢
      exact h0
    · rw [show am_tab 0 [48, 58, 68, 78, 88, 98, 108, 118] 157 (nI 4) = 88 from rfl]
      simp +decide (disch := omega) only [qX11_has_0, qX11_has_1, lm hL, hb, hbk.1, ni_in_t, ni_tn, if_true, if_false, am_w1_i, am_w1_r, am_w1_x, am_w1_l, am_w1_w, va_rf_s, am_push_n, am_push_s, am_cs_0, am_cs_i, am_cs_l, am_cs_r, m_uI_K, m_uI_N, m_uI_R, m_uI_L, m_uI_I, m_uL_K, m_uL_N, m_uL_R, m_uL_I, m_uL_L, m_uR_K, m_uR_N, m_uR_I, m_uR_L, m_uR_R, true_and, and_true, true_implies, false_implies, not_true_eq_false, not_false_eq_true, if_true, if_false, false_and, and_false] at h0 ⊢
      exact h0
    · rw [show am_tab 0 [48, 58, 68, 78, 88, 98, 108, 118] 157 (nI 5) = 98 from rfl]
      simp +decide (disch := omega) only [qX11_has_0, qX11_has_1, lm hL, hb, hsg.1, ni_in_t, ni_tn, if_true, if_false, am_w1_i, am_w1_r, am_w1_x, am_w1_l, am_w1_w, va_rf_s, am_push_n, am_push_s, am_cs_0, am_cs_i, am_cs_l, am_cs_r, m_uI_K, m_uI_N, m_uI_R, m_uI_L, m_uI_I, m_uL_K, m_uL_N, m_uL_R, m_uL_I, m_uL_L, m_uR_K, m_uR_N, m_uR_I, m_uR_L, m_uR_R, true_and, and_true, true_implies, false_implies, not_true_eq_false, not_false_eq_true, if_true, if_false, false_and, and_false] at h0 ⊢
      exact h0
    · rw [show am_tab 0 [48, 58, 68, 78, 88, 98, 108, 118] 157 (nI 6) = 108 from rfl]
      simp +decide (disch := omega) only [qX11_has_0, qX11_has_1, lm hL, hb, n6, ni_in_t, ni_tn, if_true, if_false, am_w1_i, am_w1_r, am_w1_x, am_w1_l, am_w1_w, va_rf_s, am_push_n, am_push_s, am_cs_0, am_cs_i, am_cs_l, am_cs_r, m_uI_K, m_uI_N, m_uI_R, m_uI_L, m_uI_I, m_uL_K, m_uL_N, m_uL_R, m_uL_I, m_uL_L, m_uR_K, m_uR_N, m_uR_I, m_uR_L, m_uR_R, true_and, and_true, true_implies, false_implies, not_true_eq_false, not_false_eq_true, if_true, if_false, false_and, and_false] at h0 ⊢
      exact h0
    · rw [show am_tab 0 [48, 58, 68, 78, 88, 98, 108, 118] 157 (nI 7) = 118 from rfl]
      simp +decide only [qX11_has_0, qX11_has_1, if_true, if_false, am_w1_i, am_w1_r, am_w1_x, am_w1_l, am_w1_w, va_rf_s, am_push_n, am_push_s, am_cs_0, am_cs_i, am_cs_l, am_cs_r, m_uI_K, m_uI_N, m_uI_R, m_uI_L, m_uI_I, m_uL_K, m_uL_N, m_uL_R, m_uL_I, m_uL_L, m_uR_K, m_uR_N, m_uR_I, m_uR_L, m_uR_R, true_and, and_true, true_implies, false_implies, not_true_eq_false, not_false_eq_true, if_true, if_false, false_and, and_false] at h0 ⊢
      exact e7.mpr h0
  · rw [if_neg (by omega), if_neg (by omega), if_neg (by omega), if_neg (by omega), if_neg (by omega), if_neg (by omega), if_neg (by omega), if_neg (by omega)] at h0
    rw [am_tab_out (by simp; omega)]
    simp +decide only [qX11_has_0, qX11_has_1, am_w1_i, am_w1_r, am_w1_x, am_w1_l, am_w1_w, va_rf_s, am_push_n, am_push_s, am_cs_0, am_cs_i, am_cs_l, am_cs_r, m_uI_K, m_uI_N, m_uI_R, m_uI_L, m_uI_I, m_uL_K, m_uL_N, m_uL_R, m_uL_I, m_uL_L, m_uR_K, m_uR_N, m_uR_I, m_uR_L, m_uR_R, true_and, and_true, true_implies, false_implies, not_true_eq_false, not_false_eq_true, if_true, if_false, false_and, and_false]
    exact h0
theorem op_has (w : Int32) : OpI 113 232 [.int w] isI := op_q (fun D => ⟨_, rfl⟩) (x_has w) (m_has w)
end
section
/-! letter -/
theorem sra {x j : Nat} (hx : x < 2147483648) (hj : j < 32) : nI x >>> nI j = nI (x / 2 ^ j) := by
  apply Int32.toBitVec_inj.mp
  rw [Int32.toBitVec_shiftRight]
  have e1 : (nI j).toBitVec.smod 32 = BitVec.ofNat 32 j := by
    have : ∀ j, j < 32 → (nI j).toBitVec.smod 32 = BitVec.ofNat 32 j := by decide
    exact this j hj
  rw [e1]
  have e2 : (nI x).toBitVec = BitVec.ofNat 32 x := rfl
  have e3 : (nI (x / 2 ^ j)).toBitVec = BitVec.ofNat 32 (x / 2 ^ j) := rfl
  rw [e2, e3, BitVec.sshiftRight_eq', BitVec.sshiftRight_eq_of_msb_false]
  · apply BitVec.eq_of_toNat_eq
    rw [BitVec.toNat_ushiftRight, BitVec.toNat_ofNat, BitVec.toNat_ofNat, BitVec.toNat_ofNat, Nat.shiftRight_eq_div_pow, Nat.mod_eq_of_lt (a := x) (by omega), Nat.mod_eq_of_lt (a := j) (by omega)]
    have : x / 2 ^ j ≤ x := Nat.div_le_self _ _
    rw [Nat.mod_eq_of_lt (by omega)]
  · rw [BitVec.msb_eq_decide]
    simp
    omega
theorem an31 {x : Nat} (hx : x < 2147483648) : nI x &&& 31 = nI (x % 32) := by
  apply Int32.toBitVec_inj.mp
  apply BitVec.eq_of_toNat_eq
  show ((nI x).toBitVec &&& (31 : Int32).toBitVec).toNat = _
  have e2 : (nI x).toBitVec = BitVec.ofNat 32 x := rfl
  have e3 : (nI (x % 32)).toBitVec = BitVec.ofNat 32 (x % 32) := rfl
  rw [BitVec.toNat_and, e2, e3, BitVec.toNat_ofNat, BitVec.toNat_ofNat, Nat.mod_eq_of_lt (a := x) (by omega), Nat.mod_eq_of_lt (a := x % 32) (by omega)]
  exact Nat.and_two_pow_sub_one_eq_mod x 5
theorem i64_l2i {n : Nat} : (Int64.ofNat n).toInt32 = nI n := by
  simp [nI]
theorem jN_inj {x y : Int64} (h : jN x = jN y) : x = y := Int64.toBitVec_inj.mp (BitVec.eq_of_toNat_eq h)
theorem jN_of {n : Nat} (h : n < 2 ^ 64) : jN (Int64.ofNat n) = n := by
  show (BitVec.ofNat 64 n).toNat = n
  rw [BitVec.toNat_ofNat, Nat.mod_eq_of_lt h]
theorem pkL_dig : ∀ (l : List Nat), isWd l → ∀ k, pkL l / 32 ^ k % 32 = (match l[k]? with | some c => c - 96 | none => 0) := by
  intro l
  induction l with
  | nil => intro _ k; simp [pkL]
  | cons c r ih =>
    intro hl k
    have hc := hl c (List.mem_cons_self ..)
    cases k with
    | zero =>
      show ((c - 96) + 32 * pkL r) / 32 ^ 0 % 32 = c - 96
      rw [Nat.pow_zero, Nat.div_one]
      omega
    | succ k =>
      show ((c - 96) + 32 * pkL r) / 32 ^ (k + 1) % 32 = _
      rw [Nat.pow_succ, Nat.mul_comm (32 ^ k) 32, ← Nat.div_div_eq_div_mul, show ((c - 96) + 32 * pkL r) / 32 = pkL r by omega, ih (fun x hx => hl x (List.mem_cons_of_mem _ hx)) k]
      rfl
theorem wdN_dig : ∀ (l : List Nat), isWd l → ∀ a k c, l[k]? = some c → wdN l a / 256 ^ (l.length - 1 - k) % 256 = c := by
  intro l
  induction l with
  | nil => intro _ a k c h; cases h
  | cons x r ih =>
    intro hl a k c h
    have hx := hl x (List.mem_cons_self ..)
    have hr : isWd r := fun y hy => hl y (List.mem_cons_of_mem _ hy)
    cases k with
    | zero =>
      have e : x = c := Option.some.inj h
      subst e
      show wdN r (a * 256 + x) / 256 ^ (r.length + 1 - 1 - 0) % 256 = x
      obtain ⟨b1, b2⟩ := wdN_bd r hr (a * 256 + x)
      have e1 : wdN r (a * 256 + x) / 256 ^ (r.length + 1 - 1 - 0) = a * 256 + x := by
        rw [show r.length + 1 - 1 - 0 = r.length by omega]
        have hp : 0 < 256 ^ r.length := Nat.pow_pos (by omega)
        apply Nat.le_antisymm
        · exact Nat.le_of_lt_succ ((Nat.div_lt_iff_lt_mul hp).mpr b2)
        · exact (Nat.le_div_iff_mul_le hp).mpr b1
      rw [e1]
      omega
    | succ k =>
      have h' : r[k]? = some c := h
      have hk := (List.getElem?_eq_some_iff.mp h').1
      have := ih hr (a * 256 + x) k c h'
      show wdN r (a * 256 + x) / 256 ^ (r.length + 1 - 1 - (k + 1)) % 256 = c
      rw [show r.length + 1 - 1 - (k + 1) = r.length - 1 - k by omega]
      exact this
/-- the k-th letter of a name -/
def ltI (l : List Nat) (k : Int32) : Int32 := if 0 ≤ k.toInt then (match l[k.toInt.toNat]? with | some c => nI c | none => -1) else -1
def aLet (v k : Int32) (D : Dat) : Value := .int (if 0 ≤ v.toInt ∧ v.toInt < dN D then ltI (dSp D v.toInt.toNat).1 k else -1)
theorem x_letter (v k : Int32) : XqO 114 [.int v, .int k] (aLet v k) := by
  intro d M z D Q hD h hQ
  have h0 := hQ M (XR_2 h) h
  have hz := h.1.2.2.1
  have hL := h.1.1
  have hr := h.1.2.2.2.1
  have n8 := dN_8 hD
  have eS := fun v Q => x_isShip hD h (d + 19) v Q
  unfold aLet at h0
  rw [eX10_letter]
  simp +decide only [qX10_letter, lx hL, lz hL hz, hr, eS, bI_0, am_w1_i, am_w1_r, am_w1_x, am_w1_l, am_w1_w, va_rf_s, am_push_n, am_push_s, am_cs_0, am_cs_i, am_cs_l, am_cs_r, m_uI_K, m_uI_N, m_uI_R, m_uI_L, m_uI_I, m_uL_K, m_uL_N, m_uL_R, m_uL_I, m_uL_L, m_uR_K, m_uR_N, m_uR_I, m_uR_L, m_uR_R, true_and, and_true, true_implies, false_implies, not_true_eq_false, not_false_eq_true, if_true, if_false, false_and, and_false]
  by_cases hv : 0 ≤ v.toInt ∧ v.toInt < dN D
  · rw [if_pos hv] at h0
    rw [br_r hv]
    obtain ⟨s, s1, s2, s3⟩ := sh_of (by omega) hv
    rw [s3] at h0
    by_cases k0 : k < 0
    · rw [br_p k0]
      unfold ltI at h0
      rw [if_neg (by rw [lt32, z32] at k0; omega)] at h0
      exact h0
    · rw [br_n k0]
      have k0' : 0 ≤ k.toInt := by rw [lt32, z32] at k0; omega
      have c6 : (6 : Int32).toInt = 6 := rfl
      unfold ltI at h0
      rw [if_pos k0'] at h0
      have hok := dSp_ok hD.1 s1
      by_cases k6 : k < 6
      · have k6' : k.toInt < 6 := by rw [lt32, c6] at k6; exact k6
        rw [br_p k6, s2]
        obtain ⟨n, hn⟩ : ∃ n, k.toInt.toNat = n := ⟨_, rfl⟩
        have hn6 : n < 6 := by omega
        have ek : k = nI n := i32_of (by omega) (by omega)
        rw [hn] at h0
        rw [ek]
        have e5 : (5 : Int32) * nI n = nI (5 * n) := by rw [show (5 : Int32) = nI 5 from rfl, ni_mul]
        have e31 : nI (5 * n) &&& 31 = nI (5 * n) := by rw [an31 (by omega), Nat.mod_eq_of_lt (by omega)]
        have hpl := pkL_lt _ hok.1
        have h30 : pkL (dSp D s).1 < 2 ^ 30 := by
          refine Nat.lt_of_lt_of_le hpl ?_
          rw [show (2 : Nat) ^ 30 = 32 ^ 6 from by decide]
          exact Nat.pow_le_pow_right (by omega) hok.2.2.1
        have hsr : nI (pkL (dSp D s).1) >>> nI (5 * n) = nI (pkL (dSp D s).1 / 2 ^ (5 * n)) := sra (by omega) (by omega)
        have hdl : pkL (dSp D s).1 / 2 ^ (5 * n) ≤ pkL (dSp D s).1 := Nat.div_le_self _ _
        have h31 : nI (pkL (dSp D s).1 / 2 ^ (5 * n)) &&& 31 = nI (pkL (dSp D s).1 / 2 ^ (5 * n) % 32) := an31 (by omega)
        have hdg := pkL_dig _ hok.1 n
        rw [show (32 : Nat) ^ n = 2 ^ (5 * n) from by rw [Nat.pow_mul]] at hdg
        have hsh := lsh hL hz (s := s) (by omega)
        have hk16 : mK M (z + 25 + 7 * s) = 16 := (lw_ hL (isSh_z hz (by omega))).1
        have h00 := (x_ship h s1).1.1
        simp +decide (disch := omega) only [qX10_letter, lx hL, lz hL hz, hr, hsh, hk16, h00, ni_in_t, ni_tn, e5, e31, hsr, h31, hdg, am_w1_i, am_w1_r, am_w1_x, am_w1_l, am_w1_w, va_rf_s, am_push_n, am_push_s, am_cs_0, am_cs_i, am_cs_l, am_cs_r, m_uI_K, m_uI_N, m_uI_R, m_uI_L, m_uI_I, m_uL_K, m_uL_N, m_uL_R, m_uL_I, m_uL_L, m_uR_K, m_uR_N, m_uR_I, m_uR_L, m_uR_R, true_and, and_true, true_implies, false_implies, not_true_eq_false, not_false_eq_true, if_true, if_false, false_and, and_false]
        cases hc : (dSp D s).1[n]? with
        | none =>
          rw [hc] at h0
          simp +decide only [show nI 0 = (0 : Int32) from rfl, am_w1_i, am_w1_r, am_w1_x, am_w1_l, am_w1_w, va_rf_s, am_push_n, am_push_s, am_cs_0, am_cs_i, am_cs_l, am_cs_r, m_uI_K, m_uI_N, m_uI_R, m_uI_L, m_uI_I, m_uL_K, m_uL_N, m_uL_R, m_uL_I, m_uL_L, m_uR_K, m_uR_N, m_uR_I, m_uR_L, m_uR_R, true_and, and_true, true_implies, false_implies, not_true_eq_false, not_false_eq_true, if_true, if_false, false_and, and_false]
          exact h0
        | some c =>
          rw [hc] at h0
          have hcw := hok.1 c (List.mem_of_getElem? hc)
          have hne : ¬ nI (c - 96) = 0 := by rw [show (0 : Int32) = nI 0 from rfl, ni_eq (by omega) (by omega)]; omega
          have e96 : nI (c - 96) + 96 = nI c := by rw [show (96 : Int32) = nI 96 from rfl, ni_add]; congr 1; omega
          dsimp only
          rw [br_q hne, e96]
          exact h0
      · rw [br_n k6]
        have k6' : 6 ≤ k.toInt := by rw [lt32, c6] at k6; omega
        rw [List.getElem?_eq_none (by have := hok.2.2.1; omega)] at h0
        exact h0
  · rw [if_neg hv] at h0
    rw [br_q hv]
    exact h0
theorem l_m_letter (d : Nat) (v k : Int32) (l : List Nat) (hl : isWd l) (h1 : 1 ≤ l.length) (h6 : l.length ≤ 6) (M : am_M) (Q : Option Value → am_M → Prop) (h0 : Q (some (.int (ltI l k))) M) :
    ∀ (m i : Nat), i + m = l.length → am_P am_P0 d (am_look tX11_letter) 31 [.ref 277, .int v, .int k, .long (wdL l), am_x, .int (nI i), .long (Int64.ofNat (wdN l 0 / 256 ^ i)), am_x] [] M Q := by
  obtain ⟨b1, b2⟩ := wdN_bd l hl 0
  have hge := wdN_ge hl h1
  have hlt : wdN l 0 < 2 ^ 48 := by
    refine Nat.lt_of_lt_of_le b2 ?_
    rw [Nat.zero_add, Nat.one_mul, show (2 : Nat) ^ 48 = 256 ^ 6 from by decide]
    exact Nat.pow_le_pow_right (by omega) h6
  intro m
  induction m with
  | zero =>
    intro i hi
    have ei : i = l.length := by omega
    have e0 : wdN l 0 / 256 ^ i = 0 := by rw [ei]; exact Nat.div_eq_of_lt (by rw [Nat.zero_add, Nat.one_mul] at b2; exact b2)
    have c0 : lg_cmp (Int64.ofNat 0) 0 = 0 := by decide
    rw [hX11_letter_31, e0]
    simp +decide only [qX11_letter_0, qX11_letter_1, c0, am_w1_i, am_w1_r, am_w1_x, am_w1_l, am_w1_w, va_rf_s, am_push_n, am_push_s, am_cs_0, am_cs_i, am_cs_l, am_cs_r, m_uI_K, m_uI_N, m_uI_R, m_uI_L, m_uI_I, m_uL_K, m_uL_N, m_uL_R, m_uL_I, m_uL_L, m_uR_K, m_uR_N, m_uR_I, m_uR_L, m_uR_R, true_and, and_true, true_implies, false_implies, not_true_eq_false, not_false_eq_true, if_true, if_false, false_and, and_false]
    unfold ltI at h0
    by_cases k0 : k < 0
    · rw [br_p k0]
      rw [if_neg (by rw [lt32, z32] at k0; omega)] at h0
      exact h0
    · rw [br_n k0]
      have k0' : 0 ≤ k.toInt := by rw [lt32, z32] at k0; omega
      rw [if_pos k0'] at h0
      by_cases kl : k < nI i
      · rw [br_p kl]
        have kl' : k.toInt < i := by rw [lt32, ni_ti (by omega)] at kl; exact kl
        obtain ⟨n, hn⟩ : ∃ n, k.toInt.toNat = n := ⟨_, rfl⟩
        have ek : k = nI n := i32_of (by omega) (by omega)
        rw [hn] at h0
        have hnl : n < l.length := by omega
        rw [List.getElem?_eq_getElem hnl] at h0
        have hdg := wdN_dig l hl 0 n l[n] (List.getElem?_eq_getElem hnl)
        have e8 : (8 : Int32) * (nI i - 1 - nI n) = nI (8 * (l.length - 1 - n)) := by
          rw [show (1 : Int32) = nI 1 from rfl, ni_sub (by omega), ni_sub (by omega), show (8 : Int32) = nI 8 from rfl, ni_mul, ei]
        have hy : ((nI (8 * (l.length - 1 - n))).toInt64 &&& 63).toUInt64.toNat % 64 = 8 * (l.length - 1 - n) := sh_u _ (by omega)
        have hj := jN_shr (wdL l) ((nI (8 * (l.length - 1 - n))).toInt64 &&& 63).toUInt64 _ hy
        rw [show jN (wdL l) = wdN l 0 from jN_of (by omega), show (2 : Nat) ^ (8 * (l.length - 1 - n)) = 256 ^ (l.length - 1 - n) from by rw [Nat.pow_mul]] at hj
        have hlc := hl l[n] (List.getElem_mem hnl)
        have hf : ((wdL l).toUInt64 >>> ((nI (8 * (l.length - 1 - n))).toInt64 &&& 63).toUInt64).toInt64 &&& 255 = Int64.ofNat l[n] := by
          apply jN_inj
          rw [jN_and, hj, jN_of (by omega), show jN (255 : Int64) = 2 ^ 8 - 1 from rfl, Nat.and_two_pow_sub_one_eq_mod]
          exact hdg
        rw [ek]
        simp +decide only [qX11_letter_0, qX11_letter_1, e8, hf, i64_l2i, am_w1_i, am_w1_r, am_w1_x, am_w1_l, am_w1_w, va_rf_s, am_push_n, am_push_s, am_cs_0, am_cs_i, am_cs_l, am_cs_r, m_uI_K, m_uI_N, m_uI_R, m_uI_L, m_uI_I, m_uL_K, m_uL_N, m_uL_R, m_uL_I, m_uL_L, m_uR_K, m_uR_N, m_uR_I, m_uR_L, m_uR_R, true_and, and_true, true_implies, false_implies, not_true_eq_false, not_false_eq_true, if_true, if_false, false_and, and_false]
        exact h0
      · rw [br_n kl]
        have kl' : (i : Int) ≤ k.toInt := by rw [lt32, ni_ti (by omega)] at kl; omega
        rw [List.getElem?_eq_none (by omega)] at h0
        exact h0
  | succ m ih =>
    intro i hi
    have h9 := ih (i + 1) (by omega)
    have hp : 0 < 256 ^ i := Nat.pow_pos (by omega)
    have hne : 1 ≤ wdN l 0 / 256 ^ i := by
      rw [Nat.le_div_iff_mul_le hp, Nat.one_mul]
      exact Nat.le_trans (Nat.pow_le_pow_right (by omega) (by omega)) hge
    have hdl : wdN l 0 / 256 ^ i ≤ wdN l 0 := Nat.div_le_self _ _
    have c1 : ¬ lg_cmp (Int64.ofNat (wdN l 0 / 256 ^ i)) 0 = 0 := by
      rw [lgc_0]
      intro w
      have := congrArg jN w
      rw [jN_of (by omega), show jN (0 : Int64) = 0 from rfl] at this
      omega
    have hs : ((Int64.ofNat (wdN l 0 / 256 ^ i)).toUInt64 >>> ((8 : Int32).toInt64 &&& 63).toUInt64).toInt64 = Int64.ofNat (wdN l 0 / 256 ^ (i + 1)) := by
      apply jN_inj
      rw [jN_shr _ _ 8 (by decide), jN_of (by omega), jN_of (by have := Nat.div_le_self (wdN l 0) (256 ^ (i + 1)); omega), Nat.div_div_eq_div_mul, show (256 : Nat) ^ (i + 1) = 256 ^ i * 2 ^ 8 from by rw [Nat.pow_succ]]
    rw [hX11_letter_31]
    simp +decide only [qX11_letter_0, qX11_letter_1, hs, ni_add1, am_w1_i, am_w1_r, am_w1_x, am_w1_l, am_w1_w, va_rf_s, am_push_n, am_push_s, am_cs_0, am_cs_i, am_cs_l, am_cs_r, m_uI_K, m_uI_N, m_uI_R, m_uI_L, m_uI_I, m_uL_K, m_uL_N, m_uL_R, m_uL_I, m_uL_L, m_uR_K, m_uR_N, m_uR_I, m_uR_L, m_uR_R, true_and, and_true, true_implies, false_implies, not_true_eq_false, not_false_eq_true, if_true, if_false, false_and, and_false]
    rw [br_n c1]
    exact h9
theorem m_letter (v k : Int32) : MqO 233 [.int v, .int k] (aLet v k) := by
  intro d M b D Q hD hL h hQ
  have h0 := hQ M (gF_refl _ _ _)
  obtain ⟨⟨hb, hb2⟩, ⟨n0, n1⟩, n6, hsh, hsy, hbk, hsg, -, -⟩ := id h
  have n8 := dN_8 hD
  have eS := fun v Q => m_isShip hD hL h (d + 18) v Q
  unfold aLet at h0
  rw [eX11_letter]
  simp +decide only [qX11_letter_0, qX11_letter_1, lm hL, eS, bI_0, Classical.not_not, am_w1_i, am_w1_r, am_w1_x, am_w1_l, am_w1_w, va_rf_s, am_push_n, am_push_s, am_cs_0, am_cs_i, am_cs_l, am_cs_r, m_uI_K, m_uI_N, m_uI_R, m_uI_L, m_uI_I, m_uL_K, m_uL_N, m_uL_R, m_uL_I, m_uL_L, m_uR_K, m_uR_N, m_uR_I, m_uR_L, m_uR_R, true_and, and_true, true_implies, false_implies, not_true_eq_false, not_false_eq_true, if_true, if_false, false_and, and_false]
  by_cases hv : 0 ≤ v.toInt ∧ v.toInt < dN D
  · rw [if_pos hv] at h0
    rw [br_p hv]
    obtain ⟨s, s1, s2, s3⟩ := sh_of (by omega) hv
    rw [s3] at h0
    have hok := dSp_ok hD.1 s1
    have e8 : (8 : Int32) * nI b + nI s = nI (8 * b + s) := by rw [show (8 : Int32) = nI 8 from rfl, ni_mul, ni_add]
    have hnm := (hsh.2 s _ (dSp_at s1)).1
    have h9 := l_m_letter (d + 20) (nI s) k _ hok.1 hok.2.1 hok.2.2.1 M Q h0 (dSp D s).1.length 0 (by omega)
    rw [Nat.pow_zero, Nat.div_one, show Int64.ofNat (wdN (dSp D s).1 0) = wdL (dSp D s).1 from rfl] at h9
    rw [s2]
    simp +decide (disch := omega) only [qX11_letter_0, qX11_letter_1, lm hL, hb, e8, hnm, ni_in_t, ni_tn, am_w1_i, am_w1_r, am_w1_x, am_w1_l, am_w1_w, va_rf_s, am_push_n, am_push_s, am_cs_0, am_cs_i, am_cs_l, am_cs_r, m_uI_K, m_uI_N, m_uI_R, m_uI_L, m_uI_I, m_uL_K, m_uL_N, m_uL_R, m_uL_I, m_uL_L, m_uR_K, m_uR_N, m_uR_I, m_uR_L, m_uR_R, true_and, and_true, true_implies, false_implies, not_true_eq_false, not_false_eq_true, if_true, if_false, false_and, and_false]
    exact h9
  · rw [if_neg hv] at h0
    rw [br_n hv]
    exact h0
theorem op_letter (v k : Int32) : OpI 114 233 [.int v, .int k] isI := op_q (fun D => ⟨_, rfl⟩) (x_letter v k) (m_letter v k)
end
section
/-! the model's workers, as they are asked of what is told -/
theorem br_s {c A B : Prop} (h : c) : ((¬ c → A) ∧ (c → B)) ↔ B := ⟨fun q => q.2 h, fun b => ⟨fun n => absurd h n, fun _ => b⟩⟩
theorem br_u {c A B : Prop} (h : ¬ c) : ((¬ c → A) ∧ (c → B)) ↔ A := ⟨fun q => q.1 h, fun b => ⟨fun _ => b, fun n => absurd n h⟩⟩
theorem sMq_Y {a j : Nat} (h : sY a j) : sMq a j := by unfold sY sK sP sFG sF sG at h; unfold sMq; omega
theorem sMq_K {a j : Nat} (h : sK a j) : sMq a j := sMq_Y (Or.inl h)
theorem sMq_P {a j : Nat} (h : sP a j) : sMq a j := sMq_K (Or.inl h)
theorem sMq_FG {a j : Nat} (h : sFG a j) : sMq a j := sMq_P (Or.inl h)
theorem m_keeps {M : am_M} {b s : Nat} {D : Dat} (hD : dOK D) (hL : Lay M) (hM : MdM M b D) (hs : s < dN D) (d : Nat) (Q : Option Value → am_M → Prop) (hQ : ∀ M', gF sMq nT M M' → KpM (dWt D s) (dV D s) (dSn D s) (dBs D s) (dY D s) M' → Q none M') : am_E am_P0 (d + 6) 248 [.ref 277, .int (nI s)] M Q := by
  obtain ⟨h1, h2, h3, h4, h5⟩ := mh hD hM hs
  have n8 := dN_8 hD
  refine c_m_keeps d s b (dC D) (dR D) (dV D s) (dDp D) (dDr D s) (dLd D s) (dBk D) (dY D s) M Q hL h1 (by omega) h2 h3 h4 (dY_len hD s) (fun M1 g1 k1 => ?_)
  rw [h5] at k1
  exact hQ M1 (gF_up (gF_o g1) (fun a j q => sMq_K q) (fun _ _ q => q)) k1
theorem m_laysS {M : am_M} {b s : Nat} {D : Dat} (hD : dOK D) (hL : Lay M) (hM : MdM M b D) (hs : s < dN D) (d : Nat) (Q : Option Value → am_M → Prop) (hQ : ∀ M', gF sMq nT M M' → LyM M' (dC D) (dR D) (dWt D s) (dV D s) (dSn D s) (dBs D s) (dY D s) → Q none M') : am_E am_P0 (d + 7) 249 [.ref 277, .int (nI s)] M Q := by
  obtain ⟨h1, h2, h3, h4, h5⟩ := mh hD hM hs
  have n8 := dN_8 hD
  refine c_m_lays d s b (dC D) (dR D) (dV D s) (dDp D) (dDr D s) (dLd D s) (dBk D) (dY D s) M Q hL h1 (by omega) h2 h3 h4 (dY_len hD s) (fun M1 g1 k1 => ?_)
  rw [h5] at k1
  exact hQ M1 (gF_up (gF_o g1) (fun a j q => sMq_Y q) (fun _ _ q => q)) k1
theorem m_pairs {M : am_M} {b s : Nat} {D : Dat} (hD : dOK D) (hL : Lay M) (hM : MdM M b D) (hs : s < dN D) (d : Nat) (Q : Option Value → am_M → Prop) (hQ : ∀ M', gF sMq nT M M' → PrM (dWt D s) (dV D s) (dSn D s) (dBs D s) (dY D s) M' (dY D s).length → Q none M') : am_E am_P0 (d + 5) 247 [.ref 277, .int (nI s)] M Q := by
  obtain ⟨h1, h2, h3, h4, h5⟩ := mh hD hM hs
  have n8 := dN_8 hD
  refine c_m_pairs d s b (dC D) (dR D) (dV D s) (dDp D) (dDr D s) (dLd D s) (dBk D) (dY D s) M Q hL h1 (by omega) h2 h3 h4 (dY_len hD s) (fun M1 g1 k1 => ?_)
  rw [h5] at k1
  exact hQ M1 (gF_up (gF_o g1) (fun a j q => sMq_P q) (fun _ _ q => q)) k1
theorem m_booksFit {M : am_M} {b s : Nat} {D : Dat} (hD : dOK D) (hL : Lay M) (hM : MdM M b D) (hs : s < dN D) (d : Nat) (Q : Option Value → am_M → Prop) (hQ : ∀ M', gF sMq nT M M' → Q (some (.int (tI (fitP (dWt D s) (dV D s) (dBs D s))))) M') : am_E am_P0 (d + 5) 245 [.ref 277, .int (nI s)] M Q := by
  obtain ⟨h1, h2, h3, h4, h5⟩ := mh hD hM hs
  have n8 := dN_8 hD
  refine c_m_booksFit d s b (dC D) (dR D) (dV D s) (dBk D) M Q hL h1 (by omega) h2.1 h2.2.1 h2.2.2.1 h3 h4 (fun M1 g1 => ?_)
  rw [h5]
  exact hQ M1 (gF_up (gF_o g1) (fun a j q => sMq_FG q) (fun _ _ q => q))
theorem m_mayBe {M : am_M} {b s : Nat} {D : Dat} (hD : dOK D) (hL : Lay M) (hM : MdM M b D) (hs : s < dN D) (d : Nat) (Q : Option Value → am_M → Prop) (hY : LyM M (dC D) (dR D) (dWt D s) (dV D s) (dSn D s) (dBs D s) (dY D s)) {q t : Nat} (hq : vld (dC D) (dR D) q) (ht : t < 48) : am_E am_P0 (d + 1) 250 [.ref 277, .int (nI s), .int (nI (cel (dC D) q)), .int (nI t)] M Q ↔ Q (some (.int (tI (dMy D s t q)))) M := by
  obtain ⟨h1, h2, h3, h4, h5⟩ := mh hD hM hs
  have n8 := dN_8 hD
  exact c_m_mayBe d s b (dC D) (dR D) (dV D s) q t (dWt D s) (dSn D s) (dBs D s) (dY D s) M Q hL h1 (by omega) h5.symm hY (dBs_len hD s) (dY_len hD s) hq ht
theorem m_cellsOf {M : am_M} {b s : Nat} {D : Dat} (hD : dOK D) (hL : Lay M) (hM : MdM M b D) (hs : s < dN D) (d : Nat) (Q : Option Value → am_M → Prop) (hY : LyM M (dC D) (dR D) (dWt D s) (dV D s) (dSn D s) (dBs D s) (dY D s)) {t : Nat} (ht : t < 48) : am_E am_P0 (d + 2) 251 [.ref 277, .int (nI s), .int (nI t)] M Q ↔ Q (some (.int (nI (dMc D s t)))) M := by
  obtain ⟨h1, h2, h3, h4, h5⟩ := mh hD hM hs
  have n8 := dN_8 hD
  have e : cnt (fun c => dB (dMy D s t (plc (dC D) c))) (dC D * dR D) = dMc D s t := (cnt_places (P := fun p => dMy D s t p) hD.1.1.1 hD.1.1.2 (fun p q => ((dWt_v hD hs p).mp q.2.1).1)).symm
  rw [← e]
  exact c_m_cellsOf d s b (dC D) (dR D) (dV D s) t (dWt D s) (dSn D s) (dBs D s) (dY D s) M Q hL h1 (by omega) h5.symm hY (dBs_len hD s) (dY_len hD s) ht
theorem KpM_kc {w : Nat → Prop} {v : Nat} {snd : Nat → Bool → Prop} {B : List Fct} {Y : List Sy} {M : am_M} (h : KpM w v snd B Y M) : mI M 277 66 = nI (kcY w v snd B Y) ∧ mI M 277 65 = nI Y.length := by
  refine ⟨?_, h.1.1.1⟩
  by_cases c : fitP w v B
  · rw [kcY_t c]; exact h.2.2.1 c
  · rw [kcY_f c]; exact h.2.2.2.1 c
theorem l_m_booksOf (d b C s : Nat) (L : List Bk) (M : am_M) (Q : Option Value → am_M → Prop) (hL : Lay M) (hb : mI M 277 12 = nI b) (hb2 : b < 2) (hK : BkM M b C L) (h12 : L.length ≤ 12) (hk : ∀ k, k ∈ L → k.1 < 8) (hs : s < 8) : ∀ (m i : Nat), i + m = L.length → (am_P am_P0 d (am_look tX11_booksOf) 4 [.ref 277, .int (nI s), .int (nI (bkOf (L.take i) s).length), .int (nI i)] [] M Q ↔ Q (some (.int (nI (bkOf L s).length))) M) := by
  intro m
  induction m with
  | zero =>
    intro i hi
    have hle : nI L.length ≤ nI i := (ni_le (by omega) (by omega)).mpr (by omega)
    rw [hX11_booksOf_4]
    simp +decide (disch := omega) only [qX11_booksOf, lm hL, hb, hK.1, ni_in_t, ni_tn, am_w1_i, am_w1_r, am_w1_x, am_w1_l, am_w1_w, va_rf_s, am_push_n, am_push_s, am_cs_0, am_cs_i, am_cs_l, am_cs_r, m_uI_K, m_uI_N, m_uI_R, m_uI_L, m_uI_I, m_uL_K, m_uL_N, m_uL_R, m_uL_I, m_uL_L, m_uR_K, m_uR_N, m_uR_I, m_uR_L, m_uR_R, true_and, and_true, true_implies, false_implies, not_true_eq_false, not_false_eq_true, if_true, if_false, false_and, and_false]
    rw [br_p hle, List.take_of_length_le (by omega)]
  | succ m ih =>
    intro i hi
    have hlt : ¬ nI L.length ≤ nI i := by rw [ni_le (by omega) (by omega)]; omega
    have h0 := ih (i + 1) (by omega)
    obtain ⟨k, hk1⟩ : ∃ k, L[i]? = some k := ⟨L[i]'(by omega), List.getElem?_eq_getElem (by omega)⟩
    have hk8 := hk k (List.mem_of_getElem? hk1)
    have e12 : (12 : Int32) * nI b + nI i = nI (12 * b + i) := by rw [show (12 : Int32) = nI 12 from rfl, ni_mul, ni_add]
    have e1 := (hK.2 i k hk1).1
    rw [bkOf_take hk1] at h0
    rw [hX11_booksOf_4]
    simp +decide (disch := omega) only [qX11_booksOf, lm hL, hb, hK.1, e12, e1, ni_in_t, ni_tn, ni_add1, am_w1_i, am_w1_r, am_w1_x, am_w1_l, am_w1_w, va_rf_s, am_push_n, am_push_s, am_cs_0, am_cs_i, am_cs_l, am_cs_r, m_uI_K, m_uI_N, m_uI_R, m_uI_L, m_uI_I, m_uL_K, m_uL_N, m_uL_R, m_uL_I, m_uL_L, m_uR_K, m_uR_N, m_uR_I, m_uR_L, m_uR_R, true_and, and_true, true_implies, false_implies, not_true_eq_false, not_false_eq_true, if_true, if_false, false_and, and_false]
    rw [br_n hlt, ni_eq (by omega) (by omega)]
    by_cases c : k.1 = s
    · rw [if_pos c, List.length_append] at h0
      rw [br_r c]
      exact h0
    · rw [if_neg c] at h0
      rw [br_q c, show (0 : Int32) = nI 0 from rfl, ni_add]
      exact h0
theorem m_booksOf {M : am_M} {b s : Nat} {D : Dat} (hD : dOK D) (hL : Lay M) (hM : MdM M b D) (hs : s < 8) (d : Nat) (Q : Option Value → am_M → Prop) : am_E am_P0 d 231 [.ref 277, .int (nI s)] M Q ↔ Q (some (.int (nI (dBs D s).length))) M := by
  have hbk := hD.1.2.2.2.2.2.2.1.1
  have h0 := l_m_booksOf d b (dC D) s (dBk D) M Q hL hM.1.1 hM.1.2 hM.2.2.2.2.2.1 hbk.1 (fun k hk => (hbk.2 k hk).1) hs (dBk D).length 0 (by omega)
  rw [eX11_booksOf]
  simp +decide only [qX11_booksOf, am_w1_i, am_w1_r, am_w1_x, am_w1_l, am_w1_w, va_rf_s, am_push_n, am_push_s, am_cs_0, am_cs_i, am_cs_l, am_cs_r, m_uI_K, m_uI_N, m_uI_R, m_uI_L, m_uI_I, m_uL_K, m_uL_N, m_uL_R, m_uL_I, m_uL_L, m_uR_K, m_uR_N, m_uR_I, m_uR_L, m_uR_R, true_and, and_true, true_implies, false_implies, not_true_eq_false, not_false_eq_true, if_true, if_false, false_and, and_false]
  exact h0
/-! ship -/
noncomputable def shA (D : Dat) (s w : Nat) : Int32 := if w = 0 then nI (dSp D s).2.1 else if w = 1 then nI (dV D s) else if w = 2 then nI (dDr D s) else if w = 3 then nI (dLd D s) else if w = 4 then nI (dY D s).length else if w = 5 then nI (kcY (dWt D s) (dV D s) (dSn D s) (dBs D s) (dY D s)) else if w = 6 then nI ((dY D s).length - kcY (dWt D s) (dV D s) (dSn D s) (dBs D s) (dY D s)) else if w = 7 then nI (dBs D s).length else tI (fitP (dWt D s) (dV D s) (dBs D s))
noncomputable def aShp (v w : Int32) (D : Dat) : Value := .int (if (0 ≤ v.toInt ∧ v.toInt < dN D) ∧ 0 ≤ w.toInt ∧ w.toInt < 9 then shA D v.toInt.toNat w.toInt.toNat else -1)
theorem x_shipA (v w : Int32) : XqO 115 [.int v, .int w] (aShp v w) := by
  intro d M z D Q hD h hQ
  have hz := h.1.2.2.1
  have hL := h.1.1
  have hr := h.1.2.2.2.1
  have n8 := dN_8 hD
  have eS := fun v Q => x_isShip hD h (d + 19) v Q
  unfold aShp at hQ
  rw [eX10_ship]
  simp +decide only [qX10_ship_0, qX10_ship_1, lx hL, lz hL hz, hr, eS, bI_0, Classical.not_not, am_w1_i, am_w1_r, am_w1_x, am_w1_l, am_w1_w, va_rf_s, am_push_n, am_push_s, am_cs_0, am_cs_i, am_cs_l, am_cs_r, m_uI_K, m_uI_N, m_uI_R, m_uI_L, m_uI_I, m_uL_K, m_uL_N, m_uL_R, m_uL_I, m_uL_L, m_uR_K, m_uR_N, m_uR_I, m_uR_L, m_uR_R, true_and, and_true, true_implies, false_implies, not_true_eq_false, not_false_eq_true, if_true, if_false, false_and, and_false]
  by_cases hv : 0 ≤ v.toInt ∧ v.toInt < dN D
  · rw [br_p hv]
    obtain ⟨s, s1, s2, s3⟩ := sh_of (by omega) hv
    have hsh := lsh hL hz (s := s) (by omega)
    have hw_ := lw_ hL (isSh_z (z := z) (s := s) hz (by omega))
    obtain ⟨⟨f0, f1, f2, f3, f4⟩, f5, f9⟩ := x_ship h s1
    rw [s2]
    simp +decide (disch := omega) only [qX10_ship_0, qX10_ship_1, lx hL, lz hL hz, hr, hsh, ni_in_t, ni_tn, am_w1_i, am_w1_r, am_w1_x, am_w1_l, am_w1_w, va_rf_s, am_push_n, am_push_s, am_cs_0, am_cs_i, am_cs_l, am_cs_r, m_uI_K, m_uI_N, m_uI_R, m_uI_L, m_uI_I, m_uL_K, m_uL_N, m_uL_R, m_uL_I, m_uL_L, m_uR_K, m_uR_N, m_uR_I, m_uR_L, m_uR_R, true_and, and_true, true_implies, false_implies, not_true_eq_false, not_false_eq_true, if_true, if_false, false_and, and_false]
    rcases sw_of w 9 (by omega) with ⟨k, k1, k2, k3⟩ | c1
    · rw [if_pos ⟨hv, by omega, by omega⟩, s3, show w.toInt.toNat = k by omega] at hQ
      rw [k2]
      have kS : ∀ (Q' : Option Value → am_M → Prop), (∀ M', zF (sXq z) M M' → XR M' z D → SetX M' s (dV D s) (dWt D s) (dSn D s) (dBs D s) (dY D s) → Q' (some (.ref (173 + 13 * s))) M') → am_E am_P0 (d + 19) 154 [.ref 0, .int (nI s)] M Q' := fun Q' hq => x_settled hD h (d + 14) s1 Q' (fun M1 g1 X1 _ S1 => hq M1 g1 X1 S1)
      rcases (by omega : k = 0 ∨ k = 1 ∨ k = 2 ∨ k = 3 ∨ k = 4 ∨ k = 5 ∨ k = 6 ∨ k = 7 ∨ k = 8) with e | e | e | e | e | e | e | e | e <;> subst e
      · have h0 := hQ M (XR_2 h) h
        rw [show am_tab 0 [72, 77, 82, 87, 92, 97, 106, 120, 125] 137 (nI 0) = 72 from rfl]
        simp +decide only [qX10_ship_0, qX10_ship_1, hw_, f1, am_w1_i, am_w1_r, am_w1_x, am_w1_l, am_w1_w, va_rf_s, am_push_n, am_push_s, am_cs_0, am_cs_i, am_cs_l, am_cs_r, m_uI_K, m_uI_N, m_uI_R, m_uI_L, m_uI_I, m_uL_K, m_uL_N, m_uL_R, m_uL_I, m_uL_L, m_uR_K, m_uR_N, m_uR_I, m_uR_L, m_uR_R, true_and, and_true, true_implies, false_implies, not_true_eq_false, not_false_eq_true, if_true, if_false, false_and, and_false]
        exact h0
      · have h0 := hQ M (XR_2 h) h
        rw [show am_tab 0 [72, 77, 82, 87, 92, 97, 106, 120, 125] 137 (nI 1) = 77 from rfl]
        simp +decide only [qX10_ship_0, qX10_ship_1, hw_, f2, am_w1_i, am_w1_r, am_w1_x, am_w1_l, am_w1_w, va_rf_s, am_push_n, am_push_s, am_cs_0, am_cs_i, am_cs_l, am_cs_r, m_uI_K, m_uI_N, m_uI_R, m_uI_L, m_uI_I, m_uL_K, m_uL_N, m_uL_R, m_uL_I, m_uL_L, m_uR_K, m_uR_N, m_uR_I, m_uR_L, m_uR_R, true_and, and_true, true_implies, false_implies, not_true_eq_false, not_false_eq_true, if_true, if_false, false_and, and_false]
        exact h0
      · have h0 := hQ M (XR_2 h) h
        rw [show am_tab 0 [72, 77, 82, 87, 92, 97, 106, 120, 125] 137 (nI 2) = 82 from rfl]
        simp +decide only [qX10_ship_0, qX10_ship_1, hw_, f3, am_w1_i, am_w1_r, am_w1_x, am_w1_l, am_w1_w, va_rf_s, am_push_n, am_push_s, am_cs_0, am_cs_i, am_cs_l, am_cs_r, m_uI_K, m_uI_N, m_uI_R, m_uI_L, m_uI_I, m_uL_K, m_uL_N, m_uL_R, m_uL_I, m_uL_L, m_uR_K, m_uR_N, m_uR_I, m_uR_L, m_uR_R, true_and, and_true, true_implies, false_implies, not_true_eq_false, not_false_eq_true, if_true, if_false, false_and, and_false]
        exact h0
      · have h0 := hQ M (XR_2 h) h
        rw [show am_tab 0 [72, 77, 82, 87, 92, 97, 106, 120, 125] 137 (nI 3) = 87 from rfl]
        simp +decide only [qX10_ship_0, qX10_ship_1, hw_, f4, am_w1_i, am_w1_r, am_w1_x, am_w1_l, am_w1_w, va_rf_s, am_push_n, am_push_s, am_cs_0, am_cs_i, am_cs_l, am_cs_r, m_uI_K, m_uI_N, m_uI_R, m_uI_L, m_uI_I, m_uL_K, m_uL_N, m_uL_R, m_uL_I, m_uL_L, m_uR_K, m_uR_N, m_uR_I, m_uR_L, m_uR_R, true_and, and_true, true_implies, false_implies, not_true_eq_false, not_false_eq_true, if_true, if_false, false_and, and_false]
        exact h0
      · have h0 := hQ M (XR_2 h) h
        rw [show am_tab 0 [72, 77, 82, 87, 92, 97, 106, 120, 125] 137 (nI 4) = 92 from rfl]
        simp +decide only [qX10_ship_0, qX10_ship_1, hw_, f5.1, am_w1_i, am_w1_r, am_w1_x, am_w1_l, am_w1_w, va_rf_s, am_push_n, am_push_s, am_cs_0, am_cs_i, am_cs_l, am_cs_r, m_uI_K, m_uI_N, m_uI_R, m_uI_L, m_uI_I, m_uL_K, m_uL_N, m_uL_R, m_uL_I, m_uL_L, m_uR_K, m_uR_N, m_uR_I, m_uR_L, m_uR_R, true_and, and_true, true_implies, false_implies, not_true_eq_false, not_false_eq_true, if_true, if_false, false_and, and_false]
        exact h0
      · rw [show am_tab 0 [72, 77, 82, 87, 92, 97, 106, 120, 125] 137 (nI 5) = 97 from rfl]
        simp +decide only [qX10_ship_0, qX10_ship_1, lx hL, am_w1_i, am_w1_r, am_w1_x, am_w1_l, am_w1_w, va_rf_s, am_push_n, am_push_s, am_cs_0, am_cs_i, am_cs_l, am_cs_r, m_uI_K, m_uI_N, m_uI_R, m_uI_L, m_uI_I, m_uL_K, m_uL_N, m_uL_R, m_uL_I, m_uL_L, m_uR_K, m_uR_N, m_uR_I, m_uR_L, m_uR_R, true_and, and_true, true_implies, false_implies, not_true_eq_false, not_false_eq_true, if_true, if_false, false_and, and_false]
        refine kS _ (fun M1 g1 X1 S1 => ?_)
        have h0 := hQ M1 g1 X1
        have ht := lt_ X1.1.1 (isTr_of (show s < 8 by omega))
        simp +decide only [qX10_ship_0, qX10_ship_1, ht, S1.2.2.1, am_w1_i, am_w1_r, am_w1_x, am_w1_l, am_w1_w, va_rf_s, am_push_n, am_push_s, am_cs_0, am_cs_i, am_cs_l, am_cs_r, m_uI_K, m_uI_N, m_uI_R, m_uI_L, m_uI_I, m_uL_K, m_uL_N, m_uL_R, m_uL_I, m_uL_L, m_uR_K, m_uR_N, m_uR_I, m_uR_L, m_uR_R, true_and, and_true, true_implies, false_implies, not_true_eq_false, not_false_eq_true, if_true, if_false, false_and, and_false]
        exact h0
      · rw [show am_tab 0 [72, 77, 82, 87, 92, 97, 106, 120, 125] 137 (nI 6) = 106 from rfl]
        simp +decide only [qX10_ship_0, qX10_ship_1, lx hL, hw_, f5.1, am_w1_i, am_w1_r, am_w1_x, am_w1_l, am_w1_w, va_rf_s, am_push_n, am_push_s, am_cs_0, am_cs_i, am_cs_l, am_cs_r, m_uI_K, m_uI_N, m_uI_R, m_uI_L, m_uI_I, m_uL_K, m_uL_N, m_uL_R, m_uL_I, m_uL_L, m_uR_K, m_uR_N, m_uR_I, m_uR_L, m_uR_R, true_and, and_true, true_implies, false_implies, not_true_eq_false, not_false_eq_true, if_true, if_false, false_and, and_false]
        refine kS _ (fun M1 g1 X1 S1 => ?_)
        have h0 := hQ M1 g1 X1
        have ht := lt_ X1.1.1 (isTr_of (show s < 8 by omega))
        simp +decide only [qX10_ship_0, qX10_ship_1, ht, S1.2.2.1, ni_sub kc_le, am_w1_i, am_w1_r, am_w1_x, am_w1_l, am_w1_w, va_rf_s, am_push_n, am_push_s, am_cs_0, am_cs_i, am_cs_l, am_cs_r, m_uI_K, m_uI_N, m_uI_R, m_uI_L, m_uI_I, m_uL_K, m_uL_N, m_uL_R, m_uL_I, m_uL_L, m_uR_K, m_uR_N, m_uR_I, m_uR_L, m_uR_R, true_and, and_true, true_implies, false_implies, not_true_eq_false, not_false_eq_true, if_true, if_false, false_and, and_false]
        exact h0
      · have h0 := hQ M (XR_2 h) h
        rw [show am_tab 0 [72, 77, 82, 87, 92, 97, 106, 120, 125] 137 (nI 7) = 120 from rfl]
        simp +decide only [qX10_ship_0, qX10_ship_1, hw_, f9.1, am_w1_i, am_w1_r, am_w1_x, am_w1_l, am_w1_w, va_rf_s, am_push_n, am_push_s, am_cs_0, am_cs_i, am_cs_l, am_cs_r, m_uI_K, m_uI_N, m_uI_R, m_uI_L, m_uI_I, m_uL_K, m_uL_N, m_uL_R, m_uL_I, m_uL_L, m_uR_K, m_uR_N, m_uR_I, m_uR_L, m_uR_R, true_and, and_true, true_implies, false_implies, not_true_eq_false, not_false_eq_true, if_true, if_false, false_and, and_false]
        exact h0
      · rw [show am_tab 0 [72, 77, 82, 87, 92, 97, 106, 120, 125] 137 (nI 8) = 125 from rfl]
        simp +decide only [qX10_ship_0, qX10_ship_1, lx hL, am_w1_i, am_w1_r, am_w1_x, am_w1_l, am_w1_w, va_rf_s, am_push_n, am_push_s, am_cs_0, am_cs_i, am_cs_l, am_cs_r, m_uI_K, m_uI_N, m_uI_R, m_uI_L, m_uI_I, m_uL_K, m_uL_N, m_uL_R, m_uL_I, m_uL_L, m_uR_K, m_uR_N, m_uR_I, m_uR_L, m_uR_R, true_and, and_true, true_implies, false_implies, not_true_eq_false, not_false_eq_true, if_true, if_false, false_and, and_false]
        refine kS _ (fun M1 g1 X1 S1 => ?_)
        have h0 := hQ M1 g1 X1
        have ht := lt_ X1.1.1 (isTr_of (show s < 8 by omega))
        have eb := fun Q => c_x_bit (d + 19) (tI (fitP (dWt D s) (dV D s) (dBs D s))) M1 Q (tI_01 _)
        simp +decide only [qX10_ship_0, qX10_ship_1, ht, S1.1, eb, tI_01, am_w1_i, am_w1_r, am_w1_x, am_w1_l, am_w1_w, va_rf_s, am_push_n, am_push_s, am_cs_0, am_cs_i, am_cs_l, am_cs_r, m_uI_K, m_uI_N, m_uI_R, m_uI_L, m_uI_I, m_uL_K, m_uL_N, m_uL_R, m_uL_I, m_uL_L, m_uR_K, m_uR_N, m_uR_I, m_uR_L, m_uR_R, true_and, and_true, true_implies, false_implies, not_true_eq_false, not_false_eq_true, if_true, if_false, false_and, and_false]
        exact h0
    · have h0 := hQ M (XR_2 h) h
      rw [if_neg (by omega)] at h0
      rw [am_tab_out (by simp; omega)]
      simp +decide only [qX10_ship_0, qX10_ship_1, am_w1_i, am_w1_r, am_w1_x, am_w1_l, am_w1_w, va_rf_s, am_push_n, am_push_s, am_cs_0, am_cs_i, am_cs_l, am_cs_r, m_uI_K, m_uI_N, m_uI_R, m_uI_L, m_uI_I, m_uL_K, m_uL_N, m_uL_R, m_uL_I, m_uL_L, m_uR_K, m_uR_N, m_uR_I, m_uR_L, m_uR_R, true_and, and_true, true_implies, false_implies, not_true_eq_false, not_false_eq_true, if_true, if_false, false_and, and_false]
      exact h0
  · have h0 := hQ M (XR_2 h) h
    rw [if_neg (by omega)] at h0
    rw [br_n hv]
    exact h0
theorem m_shipA (v w : Int32) : MqO 253 [.int v, .int w] (aShp v w) := by
  intro d M b D Q hD hL h hQ
  obtain ⟨⟨hb, hb2⟩, ⟨n0, n1⟩, n6, hsh, hsy, hbk, hsg, -, -⟩ := id h
  have n8 := dN_8 hD
  have eS := fun v Q => m_isShip hD hL h (d + 18) v Q
  have e8i : (8 : Int32).toInt = 8 := rfl
  unfold aShp at hQ
  rw [eX11_ship_]
  simp +decide only [qX11_ship__0, qX11_ship__1, lm hL, eS, c_m_is, bI_0, Classical.not_not, am_w1_i, am_w1_r, am_w1_x, am_w1_l, am_w1_w, va_rf_s, am_push_n, am_push_s, am_cs_0, am_cs_i, am_cs_l, am_cs_r, m_uI_K, m_uI_N, m_uI_R, m_uI_L, m_uI_I, m_uL_K, m_uL_N, m_uL_R, m_uL_I, m_uL_L, m_uR_K, m_uR_N, m_uR_I, m_uR_L, m_uR_R, true_and, and_true, true_implies, false_implies, not_true_eq_false, not_false_eq_true, if_true, if_false, false_and, and_false]
  by_cases hv : 0 ≤ v.toInt ∧ v.toInt < dN D
  · first | rw [br_p (hv)] | rw [br_r (hv)] | rw [br_s (hv)]
    obtain ⟨s, s1, s2, s3⟩ := sh_of (by omega) hv
    obtain ⟨q0, q1, q2, q3, q4⟩ := hsh.2 s _ (dSp_at s1)
    have e8 : (8 : Int32) * nI b + nI s = nI (8 * b + s) := by rw [show (8 : Int32) = nI 8 from rfl, ni_mul, ni_add]
    rcases sw_of w 9 (by omega) with ⟨k, k1, k2, k3⟩ | c1
    · rw [if_pos ⟨hv, by omega, by omega⟩, s3, show w.toInt.toNat = k by omega] at hQ
      rw [br_p (by rw [le32, le32, z32, e8i]; omega), k2, s2]
      rcases (by omega : k = 0 ∨ k = 1 ∨ k = 2 ∨ k = 3 ∨ k = 4 ∨ k = 5 ∨ k = 6 ∨ k = 7 ∨ k = 8) with e | e | e | e | e | e | e | e | e <;> subst e
      · have h0 := hQ M (gF_refl _ _ _)
        rw [show am_tab 0 [80, 87, 94, 101, 108, 134, 134, 114, 120] 134 (nI 0) = 80 from rfl]
        simp +decide (disch := omega) only [qX11_ship__0, qX11_ship__1, lm hL, hb, e8, q1, ni_in_t, ni_tn, am_w1_i, am_w1_r, am_w1_x, am_w1_l, am_w1_w, va_rf_s, am_push_n, am_push_s, am_cs_0, am_cs_i, am_cs_l, am_cs_r, m_uI_K, m_uI_N, m_uI_R, m_uI_L, m_uI_I, m_uL_K, m_uL_N, m_uL_R, m_uL_I, m_uL_L, m_uR_K, m_uR_N, m_uR_I, m_uR_L, m_uR_R, true_and, and_true, true_implies, false_implies, not_true_eq_false, not_false_eq_true, if_true, if_false, false_and, and_false]
        exact h0
      · have h0 := hQ M (gF_refl _ _ _)
        rw [show am_tab 0 [80, 87, 94, 101, 108, 134, 134, 114, 120] 134 (nI 1) = 87 from rfl]
        simp +decide (disch := omega) only [qX11_ship__0, qX11_ship__1, lm hL, hb, e8, q2, ni_in_t, ni_tn, am_w1_i, am_w1_r, am_w1_x, am_w1_l, am_w1_w, va_rf_s, am_push_n, am_push_s, am_cs_0, am_cs_i, am_cs_l, am_cs_r, m_uI_K, m_uI_N, m_uI_R, m_uI_L, m_uI_I, m_uL_K, m_uL_N, m_uL_R, m_uL_I, m_uL_L, m_uR_K, m_uR_N, m_uR_I, m_uR_L, m_uR_R, true_and, and_true, true_implies, false_implies, not_true_eq_false, not_false_eq_true, if_true, if_false, false_and, and_false]
        exact h0
      · have h0 := hQ M (gF_refl _ _ _)
        rw [show am_tab 0 [80, 87, 94, 101, 108, 134, 134, 114, 120] 134 (nI 2) = 94 from rfl]
        simp +decide (disch := omega) only [qX11_ship__0, qX11_ship__1, lm hL, hb, e8, q3, ni_in_t, ni_tn, am_w1_i, am_w1_r, am_w1_x, am_w1_l, am_w1_w, va_rf_s, am_push_n, am_push_s, am_cs_0, am_cs_i, am_cs_l, am_cs_r, m_uI_K, m_uI_N, m_uI_R, m_uI_L, m_uI_I, m_uL_K, m_uL_N, m_uL_R, m_uL_I, m_uL_L, m_uR_K, m_uR_N, m_uR_I, m_uR_L, m_uR_R, true_and, and_true, true_implies, false_implies, not_true_eq_false, not_false_eq_true, if_true, if_false, false_and, and_false]
        exact h0
      · have h0 := hQ M (gF_refl _ _ _)
        rw [show am_tab 0 [80, 87, 94, 101, 108, 134, 134, 114, 120] 134 (nI 3) = 101 from rfl]
        simp +decide (disch := omega) only [qX11_ship__0, qX11_ship__1, lm hL, hb, e8, q4, ni_in_t, ni_tn, am_w1_i, am_w1_r, am_w1_x, am_w1_l, am_w1_w, va_rf_s, am_push_n, am_push_s, am_cs_0, am_cs_i, am_cs_l, am_cs_r, m_uI_K, m_uI_N, m_uI_R, m_uI_L, m_uI_I, m_uL_K, m_uL_N, m_uL_R, m_uL_I, m_uL_L, m_uR_K, m_uR_N, m_uR_I, m_uR_L, m_uR_R, true_and, and_true, true_implies, false_implies, not_true_eq_false, not_false_eq_true, if_true, if_false, false_and, and_false]
        exact h0
      · have h0 := hQ M (gF_refl _ _ _)
        have hsay := fun Q => m_sayN hD hL h (s := s) (by omega) (d + 18) Q
        rw [show am_tab 0 [80, 87, 94, 101, 108, 134, 134, 114, 120] 134 (nI 4) = 108 from rfl]
        simp +decide (disch := omega) only [qX11_ship__0, qX11_ship__1, lm hL, hsay, am_w1_i, am_w1_r, am_w1_x, am_w1_l, am_w1_w, va_rf_s, am_push_n, am_push_s, am_cs_0, am_cs_i, am_cs_l, am_cs_r, m_uI_K, m_uI_N, m_uI_R, m_uI_L, m_uI_I, m_uL_K, m_uL_N, m_uL_R, m_uL_I, m_uL_L, m_uR_K, m_uR_N, m_uR_I, m_uR_L, m_uR_R, true_and, and_true, true_implies, false_implies, not_true_eq_false, not_false_eq_true, if_true, if_false, false_and, and_false]
        exact h0
      · rw [show am_tab 0 [80, 87, 94, 101, 108, 134, 134, 114, 120] 134 (nI 5) = 134 from rfl]
        simp +decide (disch := omega) only [qX11_ship__0, qX11_ship__1, lm hL, am_w1_i, am_w1_r, am_w1_x, am_w1_l, am_w1_w, va_rf_s, am_push_n, am_push_s, am_cs_0, am_cs_i, am_cs_l, am_cs_r, m_uI_K, m_uI_N, m_uI_R, m_uI_L, m_uI_I, m_uL_K, m_uL_N, m_uL_R, m_uL_I, m_uL_L, m_uR_K, m_uR_N, m_uR_I, m_uR_L, m_uR_R, true_and, and_true, true_implies, false_implies, not_true_eq_false, not_false_eq_true, if_true, if_false, false_and, and_false]
        refine m_keeps hD hL h s1 (d + 13) _ (fun M1 g1 k1 => ?_)
        have h0 := hQ M1 g1
        have L1 := gF_LayN g1 hL
        simp +decide only [qX11_ship__0, qX11_ship__1, lm L1, (KpM_kc k1).1, show nI 5 = (5 : Int32) from rfl, am_w1_i, am_w1_r, am_w1_x, am_w1_l, am_w1_w, va_rf_s, am_push_n, am_push_s, am_cs_0, am_cs_i, am_cs_l, am_cs_r, m_uI_K, m_uI_N, m_uI_R, m_uI_L, m_uI_I, m_uL_K, m_uL_N, m_uL_R, m_uL_I, m_uL_L, m_uR_K, m_uR_N, m_uR_I, m_uR_L, m_uR_R, true_and, and_true, true_implies, false_implies, not_true_eq_false, not_false_eq_true, if_true, if_false, false_and, and_false]
        exact h0
      · rw [show am_tab 0 [80, 87, 94, 101, 108, 134, 134, 114, 120] 134 (nI 6) = 134 from rfl]
        simp +decide (disch := omega) only [qX11_ship__0, qX11_ship__1, lm hL, am_w1_i, am_w1_r, am_w1_x, am_w1_l, am_w1_w, va_rf_s, am_push_n, am_push_s, am_cs_0, am_cs_i, am_cs_l, am_cs_r, m_uI_K, m_uI_N, m_uI_R, m_uI_L, m_uI_I, m_uL_K, m_uL_N, m_uL_R, m_uL_I, m_uL_L, m_uR_K, m_uR_N, m_uR_I, m_uR_L, m_uR_R, true_and, and_true, true_implies, false_implies, not_true_eq_false, not_false_eq_true, if_true, if_false, false_and, and_false]
        refine m_keeps hD hL h s1 (d + 13) _ (fun M1 g1 k1 => ?_)
        have h0 := hQ M1 g1
        have L1 := gF_LayN g1 hL
        simp +decide only [qX11_ship__0, qX11_ship__1, lm L1, (KpM_kc k1).1, (KpM_kc k1).2, ni_sub kc_le, show nI 6 = (6 : Int32) from rfl, am_w1_i, am_w1_r, am_w1_x, am_w1_l, am_w1_w, va_rf_s, am_push_n, am_push_s, am_cs_0, am_cs_i, am_cs_l, am_cs_r, m_uI_K, m_uI_N, m_uI_R, m_uI_L, m_uI_I, m_uL_K, m_uL_N, m_uL_R, m_uL_I, m_uL_L, m_uR_K, m_uR_N, m_uR_I, m_uR_L, m_uR_R, true_and, and_true, true_implies, false_implies, not_true_eq_false, not_false_eq_true, if_true, if_false, false_and, and_false]
        exact h0
      · have h0 := hQ M (gF_refl _ _ _)
        have hbo := fun Q => m_booksOf hD hL h (s := s) (by omega) (d + 19) Q
        rw [show am_tab 0 [80, 87, 94, 101, 108, 134, 134, 114, 120] 134 (nI 7) = 114 from rfl]
        simp +decide (disch := omega) only [qX11_ship__0, qX11_ship__1, lm hL, hbo, am_w1_i, am_w1_r, am_w1_x, am_w1_l, am_w1_w, va_rf_s, am_push_n, am_push_s, am_cs_0, am_cs_i, am_cs_l, am_cs_r, m_uI_K, m_uI_N, m_uI_R, m_uI_L, m_uI_I, m_uL_K, m_uL_N, m_uL_R, m_uL_I, m_uL_L, m_uR_K, m_uR_N, m_uR_I, m_uR_L, m_uR_R, true_and, and_true, true_implies, false_implies, not_true_eq_false, not_false_eq_true, if_true, if_false, false_and, and_false]
        exact h0
      · rw [show am_tab 0 [80, 87, 94, 101, 108, 134, 134, 114, 120] 134 (nI 8) = 120 from rfl]
        simp +decide (disch := omega) only [qX11_ship__0, qX11_ship__1, lm hL, am_w1_i, am_w1_r, am_w1_x, am_w1_l, am_w1_w, va_rf_s, am_push_n, am_push_s, am_cs_0, am_cs_i, am_cs_l, am_cs_r, m_uI_K, m_uI_N, m_uI_R, m_uI_L, m_uI_I, m_uL_K, m_uL_N, m_uL_R, m_uL_I, m_uL_L, m_uR_K, m_uR_N, m_uR_I, m_uR_L, m_uR_R, true_and, and_true, true_implies, false_implies, not_true_eq_false, not_false_eq_true, if_true, if_false, false_and, and_false]
        refine m_booksFit hD hL h s1 (d + 14) _ (fun M1 g1 => ?_)
        have h0 : Q (some (.int (tI (fitP (dWt D s) (dV D s) (dBs D s))))) M1 := hQ M1 g1
        by_cases c : fitP (dWt D s) (dV D s) (dBs D s)
        · rw [tI_t c] at h0 ⊢
          simp +decide only [qX11_ship__0, qX11_ship__1, am_w1_i, am_w1_r, am_w1_x, am_w1_l, am_w1_w, va_rf_s, am_push_n, am_push_s, am_cs_0, am_cs_i, am_cs_l, am_cs_r, m_uI_K, m_uI_N, m_uI_R, m_uI_L, m_uI_I, m_uL_K, m_uL_N, m_uL_R, m_uL_I, m_uL_L, m_uR_K, m_uR_N, m_uR_I, m_uR_L, m_uR_R, true_and, and_true, true_implies, false_implies, not_true_eq_false, not_false_eq_true, if_true, if_false, false_and, and_false]
          exact h0
        · rw [tI_f c] at h0 ⊢
          simp +decide only [qX11_ship__0, qX11_ship__1, am_w1_i, am_w1_r, am_w1_x, am_w1_l, am_w1_w, va_rf_s, am_push_n, am_push_s, am_cs_0, am_cs_i, am_cs_l, am_cs_r, m_uI_K, m_uI_N, m_uI_R, m_uI_L, m_uI_I, m_uL_K, m_uL_N, m_uL_R, m_uL_I, m_uL_L, m_uR_K, m_uR_N, m_uR_I, m_uR_L, m_uR_R, true_and, and_true, true_implies, false_implies, not_true_eq_false, not_false_eq_true, if_true, if_false, false_and, and_false]
          exact h0
    · have h0 := hQ M (gF_refl _ _ _)
      rw [if_neg (by omega)] at h0
      rw [br_n (by rw [le32, le32, z32, e8i]; omega)]
      exact h0
  · have h0 := hQ M (gF_refl _ _ _)
    rw [if_neg (by omega)] at h0
    first | rw [br_n (hv)] | rw [br_q (hv)] | rw [br_u (hv)]
    exact h0
theorem op_ship (v w : Int32) : OpI 115 253 [.int v, .int w] isI := op_q (fun D => ⟨_, rfl⟩) (x_shipA v w) (m_shipA v w)
end
section
/-! saying, cell, far, can -/
abbrev isSy (D : Dat) (v i : Int32) : Prop := (0 ≤ v.toInt ∧ v.toInt < dN D) ∧ 0 ≤ i.toInt ∧ i.toInt < (dY D v.toInt.toNat).length
theorem x_isSaying {M : am_M} {z : Nat} {D : Dat} (hD : dOK D) (h : XR M z D) (d : Nat) (v i : Int32) (Q : Option Value → am_M → Prop) : am_E am_P0 (d + 1) 151 [.ref 0, .int v, .int i] M Q ↔ Q (some (.int (bI (isSy D v i)))) M := by
  have hz := h.1.2.2.1
  have hL := h.1.1
  have hr := h.1.2.2.2.1
  have n8 := dN_8 hD
  have eS := fun v Q => x_isShip hD h d v Q
  rw [eX10_isSaying]
  simp +decide only [qX10_isSaying, lx hL, lz hL hz, hr, eS, bI_0, am_w1_i, am_w1_r, am_w1_x, am_w1_l, am_w1_w, va_rf_s, am_push_n, am_push_s, am_cs_0, am_cs_i, am_cs_l, am_cs_r, m_uI_K, m_uI_N, m_uI_R, m_uI_L, m_uI_I, m_uL_K, m_uL_N, m_uL_R, m_uL_I, m_uL_L, m_uR_K, m_uR_N, m_uR_I, m_uR_L, m_uR_R, true_and, and_true, true_implies, false_implies, not_true_eq_false, not_false_eq_true, if_true, if_false, false_and, and_false]
  by_cases hv : 0 ≤ v.toInt ∧ v.toInt < dN D
  · first | rw [br_p (hv)] | rw [br_r (hv)] | rw [br_s (hv)]
    obtain ⟨s, s1, s2, s3⟩ := sh_of (by omega) hv
    have hsh := lsh hL hz (s := s) (by omega)
    have hw_ := lw_ hL (isSh_z (z := z) (s := s) hz (by omega))
    have h48 := dY_len hD s
    by_cases i0 : i < 0
    · first | rw [br_p (i0)] | rw [br_r (i0)] | rw [br_s (i0)]
      rw [bI_f (fun q => by rw [lt32, z32] at i0; have := q.2.1; omega)]
    · first | rw [br_n (i0)] | rw [br_q (i0)] | rw [br_u (i0)]
      rw [lt32, z32] at i0
      rw [s2]
      simp +decide (disch := omega) only [qX10_isSaying, lx hL, lz hL hz, hr, hsh, hw_, (x_ship h s1).2.1.1, ni_in_t, ni_tn, am_w1_i, am_w1_r, am_w1_x, am_w1_l, am_w1_w, va_rf_s, am_push_n, am_push_s, am_cs_0, am_cs_i, am_cs_l, am_cs_r, m_uI_K, m_uI_N, m_uI_R, m_uI_L, m_uI_I, m_uL_K, m_uL_N, m_uL_R, m_uL_I, m_uL_L, m_uR_K, m_uR_N, m_uR_I, m_uR_L, m_uR_R, true_and, and_true, true_implies, false_implies, not_true_eq_false, not_false_eq_true, if_true, if_false, false_and, and_false]
      by_cases i1 : nI (dY D s).length ≤ i
      · first | rw [br_p (i1)] | rw [br_r (i1)] | rw [br_s (i1)]
        rw [le32, ni_ti (by omega)] at i1
        rw [← s2, bI_f (fun q => by have := q.2.2; rw [s3] at this; omega)]
      · first | rw [br_n (i1)] | rw [br_q (i1)] | rw [br_u (i1)]
        rw [le32, ni_ti (by omega)] at i1
        rw [← s2, bI_t ⟨hv, by omega, by rw [s3]; omega⟩]
  · first | rw [br_n (hv)] | rw [br_q (hv)] | rw [br_u (hv)]
    rw [bI_f (fun q => hv q.1)]
theorem bef_at {Y : List Sy} (hs : srtY Y) {y : Sy} {t : Nat} (hy : y ∈ Y) (ht : y.1 = t) : Y[(bef Y t).length]? = some y := by
  obtain ⟨j, hj, e⟩ := List.mem_iff_getElem.mp hy
  have hj' : Y[j]? = some y := by rw [List.getElem?_eq_getElem hj, e]
  have h1 := bef_lt hs hj' (h := t)
  have h2 := bef_lt hs hj' (h := t + 1)
  have h3 : (bef Y (t + 1)).length = (bef Y t).length + 1 := by rw [bef_t hs hy ht, List.length_append]; rfl
  have : j = (bef Y t).length := by omega
  rw [← this]
  exact hj'
theorem hSaid_Y {M : am_M} {b C R s : Nat} {Y : List Sy} (hY : SyM M b C R s Y) (hC : C ≤ 16) (hR : R ≤ 16) : ∀ (m k : Nat), k + m = 48 → ∀ i : Int, hSaid (mSaid M b s) i m k = if i < 0 then -1 else (match Y[(bef Y k).length + i.toNat]? with | some y => nI y.1 | none => -1) := by
  intro m
  induction m with
  | zero =>
    intro k hk i
    have e : k = 48 := by omega
    subst e
    have e2 : bef Y 48 = Y := bef_all (fun y hy => (hY.2.1 y hy).1)
    show (-1 : Int32) = _
    rw [e2, List.getElem?_eq_none (by omega)]
    split <;> rfl
  | succ m ih =>
    intro k hk i
    show (if i < 0 then (-1 : Int32) else if mI M 292 (384 * b + 48 * s + k) = -1 then hSaid (mSaid M b s) i m (k + 1) else if i = 0 then nI k else hSaid (mSaid M b s) (i - 1) m (k + 1)) = _
    by_cases i0 : i < 0
    · rw [if_pos i0, if_pos i0]
    · rw [if_neg i0, if_neg i0]
      rcases hY.2.2 k (by omega) with ⟨y, y1, y2, y3, y4⟩ | ⟨y1, y2⟩
      · have hv := (hY.2.1 y y1).2
        have hne : ¬ mI M 292 (384 * b + 48 * s + k) = -1 := by rw [y3]; exact nI_m1 (by have := (cel_lt hC hR hv).2.1; omega)
        have hat := bef_at hY.1 y1 y2
        have h3 : (bef Y (k + 1)).length = (bef Y k).length + 1 := by rw [bef_t hY.1 y1 y2, List.length_append]; rfl
        rw [if_neg hne]
        by_cases i1 : i = 0
        · rw [if_pos i1, i1, show (bef Y k).length + (0 : Int).toNat = (bef Y k).length from rfl, hat]
          dsimp only
          rw [y2]
        · rw [if_neg i1, ih (k + 1) (by omega) (i - 1), if_neg (by omega), h3, show (bef Y k).length + 1 + (i - 1).toNat = (bef Y k).length + i.toNat by omega]
      · rw [if_pos y2, ih (k + 1) (by omega) i, if_neg i0, bef_f y1]
/-- the hour of a saying -/
def hrI (Y : List Sy) (i : Int32) : Int32 := if i.toInt < 0 then -1 else (match Y[i.toInt.toNat]? with | some y => nI y.1 | none => -1)
theorem m_hourOf {M : am_M} {b s : Nat} {D : Dat} (hD : dOK D) (hL : Lay M) (h : MdM M b D) (hs : s < 8) (d : Nat) (i : Int32) (Q : Option Value → am_M → Prop) : am_E am_P0 (d + 1) 229 [.ref 277, .int (nI s), .int i] M Q ↔ Q (some (.int (hrI (dY D s) i))) M := by
  rw [c_m_hourOf d s i M Q hL b h.1.1 h.1.2 hs, hSaid_Y (h.2.2.2.2.1.2 s hs) hD.1.1.1 hD.1.1.2 48 0 (by omega), bef_0]
  unfold hrI
  rw [show ([] : List Sy).length = 0 from rfl, Nat.zero_add]
theorem hrI_t {Y : List Sy} {i : Int32} {y : Sy} {k : Nat} (hk : i = nI k) (hb : k < 2147483648) (h : Y[k]? = some y) : hrI Y i = nI y.1 := by
  unfold hrI
  have e : i.toInt = k := by rw [hk, ni_ti hb]
  rw [if_neg (by omega), show i.toInt.toNat = k by omega, h]
theorem hrI_f {Y : List Sy} {i : Int32} (h : ¬ (0 ≤ i.toInt ∧ i.toInt < Y.length)) : hrI Y i = -1 := by
  unfold hrI
  by_cases c : i.toInt < 0
  · rw [if_pos c]
  · rw [if_neg c, List.getElem?_eq_none (by omega)]
/-- a saying of a ship, as it is told -/
theorem sy_of {D : Dat} {s : Nat} {i : Int32} (hD : dOK D) (h : 0 ≤ i.toInt ∧ i.toInt < (dY D s).length) : ∃ k y, k < 48 ∧ i = nI k ∧ i.toInt.toNat = k ∧ (dY D s)[k]? = some y ∧ y.1 < 48 ∧ vld (dC D) (dR D) y.2.1 ∧ y.2.1 < 256 ∧ y ∈ dY D s := by
  have h48 := dY_len hD s
  have hk : i.toInt.toNat < (dY D s).length := by omega
  have hm : (dY D s)[i.toInt.toNat] ∈ dY D s := List.getElem_mem hk
  have h2 := hD.1.2.2.2.1 s _ hm
  exact ⟨i.toInt.toNat, (dY D s)[i.toInt.toNat], by omega, i32_of (by omega) (by omega), rfl, List.getElem?_eq_getElem hk, h2.1, h2.2, (cel_lt hD.1.1.1 hD.1.1.2 h2.2).2.2, hm⟩
noncomputable def syA (D : Dat) (s k : Nat) (w : Int32) : Int32 := match (dY D s)[k]? with
  | none => -1
  | some y => if w.toInt = 0 then nI y.1 else if w.toInt = 1 then nI (cel (dC D) y.2.1) else if w.toInt = 2 then b01 y.2.2 else if w.toInt = 3 then tI (dSn D s y.2.1 y.2.2) else if w.toInt = 4 then tI (fitP (dWt D s) (dV D s) (dBs D s) ∧ keptY (dWt D s) (dV D s) (dSn D s) (dBs D s) (dY D s) k) else -1
noncomputable def aSay (v i w : Int32) (D : Dat) : Value := .int (if isSy D v i then syA D v.toInt.toNat i.toInt.toNat w else -1)
theorem cel_n (C p : Nat) : p / 16 * C + p % 16 = cel C p := by unfold cel; rw [Nat.mul_comm]
theorem x_numberOf {M : am_M} {z : Nat} {D : Dat} (h : XR M z D) (d p : Nat) (Q : Option Value → am_M → Prop) (hp : p < 256) : am_E am_P0 d 58 [.ref z, .int (nI p)] M Q ↔ Q (some (.int (nI (cel (dC D) p)))) M := by
  rw [c_x_numberOf d p M Q h.1.1 z (dC D) h.1.2.2.1 (x_n h).2.1 hp, cel_n]
theorem x_saying (v i w : Int32) : XqO 116 [.int v, .int i, .int w] (aSay v i w) := by
  intro d M z D Q hD h hQ
  have hz := h.1.2.2.1
  have hL := h.1.1
  have hr := h.1.2.2.2.1
  have n8 := dN_8 hD
  have eS := fun v i Q => x_isSaying hD h (d + 18) v i Q
  unfold aSay at hQ
  rw [eX10_saying]
  simp +decide only [qX10_saying_0, qX10_saying_1, lx hL, lz hL hz, hr, eS, bI_0, Classical.not_not, am_w1_i, am_w1_r, am_w1_x, am_w1_l, am_w1_w, va_rf_s, am_push_n, am_push_s, am_cs_0, am_cs_i, am_cs_l, am_cs_r, m_uI_K, m_uI_N, m_uI_R, m_uI_L, m_uI_I, m_uL_K, m_uL_N, m_uL_R, m_uL_I, m_uL_L, m_uR_K, m_uR_N, m_uR_I, m_uR_L, m_uR_R, true_and, and_true, true_implies, false_implies, not_true_eq_false, not_false_eq_true, if_true, if_false, false_and, and_false]
  by_cases hv : isSy D v i
  · first | rw [br_p (hv)] | rw [br_r (hv)] | rw [br_s (hv)]
    obtain ⟨s, s1, s2, s3⟩ := sh_of (by omega) hv.1
    have hi := hv.2
    rw [s3] at hi
    obtain ⟨k, y, k48, k1, k2, hy, y48, yv, y256, ym⟩ := sy_of hD hi
    rw [if_pos hv, s3, k2] at hQ
    unfold syA at hQ
    rw [hy] at hQ
    dsimp only at hQ
    have hsh := lsh hL hz (s := s) (by omega)
    have hst := lt_ hL (isTr_of (show s < 8 by omega))
    have htr := ltr hL (show s < 8 by omega)
    have hw_ := lw_ hL (isSh_z (z := z) (s := s) hz (by omega))
    obtain ⟨-, f5, f9⟩ := x_ship h s1
    obtain ⟨g0, g1, g2, g3⟩ := f5.2.2 k y hy
    have en := fun Q => x_numberOf h (d + 19) y.2.1 Q y256
    have hb0 : b01 y.2.2 = 0 ∨ b01 y.2.2 = 1 := by unfold b01; split <;> simp
    have eb := fun Q => c_x_bit (d + 19) (b01 y.2.2) M Q hb0
    rw [s2, k1]
    simp +decide (disch := omega) only [qX10_saying_0, qX10_saying_1, lx hL, lz hL hz, hr, hsh, ni_in_t, ni_tn, am_w1_i, am_w1_r, am_w1_x, am_w1_l, am_w1_w, va_rf_s, am_push_n, am_push_s, am_cs_0, am_cs_i, am_cs_l, am_cs_r, m_uI_K, m_uI_N, m_uI_R, m_uI_L, m_uI_I, m_uL_K, m_uL_N, m_uL_R, m_uL_I, m_uL_L, m_uR_K, m_uR_N, m_uR_I, m_uR_L, m_uR_R, true_and, and_true, true_implies, false_implies, not_true_eq_false, not_false_eq_true, if_true, if_false, false_and, and_false]
    rcases sw_of w 5 (by omega) with ⟨n, n1, n2, n3⟩ | c1
    · rw [n3] at hQ
      rw [n2]
      rcases (by omega : n = 0 ∨ n = 1 ∨ n = 2 ∨ n = 3 ∨ n = 4) with e | e | e | e | e <;> subst e
      · have h0 := hQ M (XR_2 h) h
        rw [show am_tab 0 [56, 64, 79, 90, 117] 131 (nI 0) = 56 from rfl]
        simp +decide (disch := omega) only [qX10_saying_0, qX10_saying_1, hw_, g1, ni_in_t, ni_tn, if_true, if_false, am_w1_i, am_w1_r, am_w1_x, am_w1_l, am_w1_w, va_rf_s, am_push_n, am_push_s, am_cs_0, am_cs_i, am_cs_l, am_cs_r, m_uI_K, m_uI_N, m_uI_R, m_uI_L, m_uI_I, m_uL_K, m_uL_N, m_uL_R, m_uL_I, m_uL_L, m_uR_K, m_uR_N, m_uR_I, m_uR_L, m_uR_R, true_and, and_true, true_implies, false_implies, not_true_eq_false, not_false_eq_true, if_true, if_false, false_and, and_false] at h0 ⊢
        exact h0
      · have h0 := hQ M (XR_2 h) h
        rw [show am_tab 0 [56, 64, 79, 90, 117] 131 (nI 1) = 64 from rfl]
        simp +decide (disch := omega) only [qX10_saying_0, qX10_saying_1, lx hL, lz hL hz, hr, hw_, g2, en, ni_in_t, ni_tn, if_true, if_false, am_w1_i, am_w1_r, am_w1_x, am_w1_l, am_w1_w, va_rf_s, am_push_n, am_push_s, am_cs_0, am_cs_i, am_cs_l, am_cs_r, m_uI_K, m_uI_N, m_uI_R, m_uI_L, m_uI_I, m_uL_K, m_uL_N, m_uL_R, m_uL_I, m_uL_L, m_uR_K, m_uR_N, m_uR_I, m_uR_L, m_uR_R, true_and, and_true, true_implies, false_implies, not_true_eq_false, not_false_eq_true, if_true, if_false, false_and, and_false] at h0 ⊢
        exact h0
      · have h0 := hQ M (XR_2 h) h
        rw [show am_tab 0 [56, 64, 79, 90, 117] 131 (nI 2) = 79 from rfl]
        simp +decide (disch := omega) only [qX10_saying_0, qX10_saying_1, hw_, g3, hb0, eb, ni_in_t, ni_tn, if_true, if_false, am_w1_i, am_w1_r, am_w1_x, am_w1_l, am_w1_w, va_rf_s, am_push_n, am_push_s, am_cs_0, am_cs_i, am_cs_l, am_cs_r, m_uI_K, m_uI_N, m_uI_R, m_uI_L, m_uI_I, m_uL_K, m_uL_N, m_uL_R, m_uL_I, m_uL_L, m_uR_K, m_uR_N, m_uR_I, m_uR_L, m_uR_R, true_and, and_true, true_implies, false_implies, not_true_eq_false, not_false_eq_true, if_true, if_false, false_and, and_false] at h0 ⊢
        exact h0
      · have h0 := hQ M (XR_2 h) h
        have eso := fun Q => c_x_isSound (d + 19) (173 + 13 * s) (z + 25 + 7 * s) z y.2.1 y.2.2 (dDp D) (dDr D s) (dLd D s) M Q hL (isTr_of (by omega)) (isSh_z hz (by omega)) hz (h.2.2.2.1 s s1).1.2.1 y256
        have eb2 := fun Q => c_x_bit (d + 19) (tI (sndP (dDp D) (dDr D s) (dLd D s) y.2.1 y.2.2)) M Q (tI_01 _)
        rw [show am_tab 0 [56, 64, 79, 90, 117] 131 (nI 3) = 90 from rfl]
        simp +decide (disch := omega) only [qX10_saying_0, qX10_saying_1, lx hL, htr, hst, hw_, g2, g3, hb0, eso, eb2, ni_in_t, ni_tn, if_true, if_false, am_w1_i, am_w1_r, am_w1_x, am_w1_l, am_w1_w, va_rf_s, am_push_n, am_push_s, am_cs_0, am_cs_i, am_cs_l, am_cs_r, m_uI_K, m_uI_N, m_uI_R, m_uI_L, m_uI_I, m_uL_K, m_uL_N, m_uL_R, m_uL_I, m_uL_L, m_uR_K, m_uR_N, m_uR_I, m_uR_L, m_uR_R, true_and, and_true, true_implies, false_implies, not_true_eq_false, not_false_eq_true, if_true, if_false, false_and, and_false] at h0 ⊢
        exact h0
      · rw [show am_tab 0 [56, 64, 79, 90, 117] 131 (nI 4) = 117 from rfl]
        simp +decide only [qX10_saying_0, qX10_saying_1, lx hL, am_w1_i, am_w1_r, am_w1_x, am_w1_l, am_w1_w, va_rf_s, am_push_n, am_push_s, am_cs_0, am_cs_i, am_cs_l, am_cs_r, m_uI_K, m_uI_N, m_uI_R, m_uI_L, m_uI_I, m_uL_K, m_uL_N, m_uL_R, m_uL_I, m_uL_L, m_uR_K, m_uR_N, m_uR_I, m_uR_L, m_uR_R, true_and, and_true, true_implies, false_implies, not_true_eq_false, not_false_eq_true, if_true, if_false, false_and, and_false]
        refine x_settled hD h (d + 14) s1 _ (fun M1 g1 X1 _ S1 => ?_)
        have h0 := hQ M1 g1 X1
        have ht := lt_ X1.1.1 (isTr_of (show s < 8 by omega))
        have hkl : k < (dY D s).length := (List.getElem?_eq_some_iff.mp hy).1
        have hk := S1.2.2.2.1 k hkl
        have h01 := tI_01 (fitP (dWt D s) (dV D s) (dBs D s) ∧ keptY (dWt D s) (dV D s) (dSn D s) (dBs D s) (dY D s) k)
        have eb2 := fun Q => c_x_bit (d + 19) (tI (fitP (dWt D s) (dV D s) (dBs D s) ∧ keptY (dWt D s) (dV D s) (dSn D s) (dBs D s) (dY D s) k)) M1 Q h01
        rw [show 182 + 13 * s = 173 + 13 * s + 9 by omega] at hk
        simp +decide (disch := omega) only [qX10_saying_0, qX10_saying_1, ht, hk, h01, eb2, ni_in_t, ni_tn, if_true, if_false, am_w1_i, am_w1_r, am_w1_x, am_w1_l, am_w1_w, va_rf_s, am_push_n, am_push_s, am_cs_0, am_cs_i, am_cs_l, am_cs_r, m_uI_K, m_uI_N, m_uI_R, m_uI_L, m_uI_I, m_uL_K, m_uL_N, m_uL_R, m_uL_I, m_uL_L, m_uR_K, m_uR_N, m_uR_I, m_uR_L, m_uR_R, true_and, and_true, true_implies, false_implies, not_true_eq_false, not_false_eq_true, if_true, if_false, false_and, and_false] at h0 ⊢
        exact h0
    · have h0 := hQ M (XR_2 h) h
      rw [if_neg (by omega), if_neg (by omega), if_neg (by omega), if_neg (by omega), if_neg (by omega)] at h0
      rw [am_tab_out (by simp; omega)]
      simp +decide only [qX10_saying_0, qX10_saying_1, am_w1_i, am_w1_r, am_w1_x, am_w1_l, am_w1_w, va_rf_s, am_push_n, am_push_s, am_cs_0, am_cs_i, am_cs_l, am_cs_r, m_uI_K, m_uI_N, m_uI_R, m_uI_L, m_uI_I, m_uL_K, m_uL_N, m_uL_R, m_uL_I, m_uL_L, m_uR_K, m_uR_N, m_uR_I, m_uR_L, m_uR_R, true_and, and_true, true_implies, false_implies, not_true_eq_false, not_false_eq_true, if_true, if_false, false_and, and_false]
      exact h0
  · have h0 := hQ M (XR_2 h) h
    rw [if_neg hv] at h0
    first | rw [br_n (hv)] | rw [br_q (hv)] | rw [br_u (hv)]
    exact h0
theorem m_said {M : am_M} {b s : Nat} {D : Dat} {y : Sy} (hL : Lay M) (h : MdM M b D) (hs : s < 8) (hy : y ∈ dY D s) (y48 : y.1 < 48) (d : Nat) (Q : Option Value → am_M → Prop) : (am_E am_P0 d 226 [.ref 277, .int (nI s), .int (nI y.1)] M Q ↔ Q (some (.int (nI (cel (dC D) y.2.1)))) M) ∧ (am_E am_P0 d 227 [.ref 277, .int (nI s), .int (nI y.1)] M Q ↔ Q (some (.int (b01 y.2.2))) M) := by
  obtain ⟨q1, q2, q3, q4⟩ := SyM_at (h.2.2.2.2.1.2 s hs) hy
  constructor
  · rw [c_m_said d s y.1 M Q hL b h.1.1 h.1.2 hs y48, q3]
  · rw [c_m_laden d s y.1 M Q hL b h.1.1 h.1.2 hs y48 (by rw [q4]; unfold b01; split <;> simp), q4]
theorem m_saying (v i w : Int32) : MqO 254 [.int v, .int i, .int w] (aSay v i w) := by
  intro d M b D Q hD hL h hQ
  obtain ⟨⟨hb, hb2⟩, ⟨n0, n1⟩, n6, hsh, hsy, hbk, hsg, -, -⟩ := id h
  have n8 := dN_8 hD
  have eS := fun v Q => m_isShip hD hL h (d + 18) v Q
  unfold aSay at hQ
  rw [eX11_saying]
  simp +decide only [qX11_saying_0, qX11_saying_1, lm hL, eS, bI_0, am_w1_i, am_w1_r, am_w1_x, am_w1_l, am_w1_w, va_rf_s, am_push_n, am_push_s, am_cs_0, am_cs_i, am_cs_l, am_cs_r, m_uI_K, m_uI_N, m_uI_R, m_uI_L, m_uI_I, m_uL_K, m_uL_N, m_uL_R, m_uL_I, m_uL_L, m_uR_K, m_uR_N, m_uR_I, m_uR_L, m_uR_R, true_and, and_true, true_implies, false_implies, not_true_eq_false, not_false_eq_true, if_true, if_false, false_and, and_false]
  by_cases hv : 0 ≤ v.toInt ∧ v.toInt < dN D
  · first | rw [br_p (hv)] | rw [br_r (hv)] | rw [br_s (hv)]
    obtain ⟨s, s1, s2, s3⟩ := sh_of (by omega) hv
    have eh := fun i Q => m_hourOf hD hL h (s := s) (by omega) (d + 18) i Q
    rw [s2]
    simp +decide only [qX11_saying_0, qX11_saying_1, lm hL, eh, am_w1_i, am_w1_r, am_w1_x, am_w1_l, am_w1_w, va_rf_s, am_push_n, am_push_s, am_cs_0, am_cs_i, am_cs_l, am_cs_r, m_uI_K, m_uI_N, m_uI_R, m_uI_L, m_uI_I, m_uL_K, m_uL_N, m_uL_R, m_uL_I, m_uL_L, m_uR_K, m_uR_N, m_uR_I, m_uR_L, m_uR_R, true_and, and_true, true_implies, false_implies, not_true_eq_false, not_false_eq_true, if_true, if_false, false_and, and_false]
    by_cases hi : 0 ≤ i.toInt ∧ i.toInt < (dY D s).length
    · obtain ⟨k, y, k48, k1, k2, hy, y48, yv, y256, ym⟩ := sy_of hD hi
      rw [if_pos ⟨hv, by rw [s3]; exact hi⟩, s3, k2] at hQ
      unfold syA at hQ
      rw [hy] at hQ
      dsimp only at hQ
      rw [hrI_t k1 (by omega) hy]
      have hne : ¬ nI y.1 = -1 := nI_m1 (by omega)
      first | rw [br_n (hne)] | rw [br_q (hne)] | rw [br_u (hne)]
      obtain ⟨m1, m2, m3, m4, m5⟩ := mh hD h s1
      have esd := fun Q => (m_said hL h (s := s) (by omega) ym y48 (d + 19) Q).1
      have eld := fun Q => (m_said hL h (s := s) (by omega) ym y48 (d + 19) Q).2
      have hc := (cel_lt hD.1.1.1 hD.1.1.2 yv).2.1
      rcases sw_of w 5 (by omega) with ⟨n, n1, n2, n3⟩ | c1
      · rw [n3] at hQ
        rw [n2]
        rcases (by omega : n = 0 ∨ n = 1 ∨ n = 2 ∨ n = 3 ∨ n = 4) with e | e | e | e | e <;> subst e
        · have h0 := hQ M (gF_refl _ _ _)
          rw [show am_tab 0 [64, 67, 75, 91, 119] 139 (nI 0) = 64 from rfl]
          simp +decide only [qX11_saying_0, qX11_saying_1, if_true, if_false, am_w1_i, am_w1_r, am_w1_x, am_w1_l, am_w1_w, va_rf_s, am_push_n, am_push_s, am_cs_0, am_cs_i, am_cs_l, am_cs_r, m_uI_K, m_uI_N, m_uI_R, m_uI_L, m_uI_I, m_uL_K, m_uL_N, m_uL_R, m_uL_I, m_uL_L, m_uR_K, m_uR_N, m_uR_I, m_uR_L, m_uR_R, true_and, and_true, true_implies, false_implies, not_true_eq_false, not_false_eq_true, if_true, if_false, false_and, and_false] at h0 ⊢
          exact h0
        · have h0 := hQ M (gF_refl _ _ _)
          rw [show am_tab 0 [64, 67, 75, 91, 119] 139 (nI 1) = 67 from rfl]
          simp +decide only [qX11_saying_0, qX11_saying_1, lm hL, esd, if_true, if_false, am_w1_i, am_w1_r, am_w1_x, am_w1_l, am_w1_w, va_rf_s, am_push_n, am_push_s, am_cs_0, am_cs_i, am_cs_l, am_cs_r, m_uI_K, m_uI_N, m_uI_R, m_uI_L, m_uI_I, m_uL_K, m_uL_N, m_uL_R, m_uL_I, m_uL_L, m_uR_K, m_uR_N, m_uR_I, m_uR_L, m_uR_R, true_and, and_true, true_implies, false_implies, not_true_eq_false, not_false_eq_true, if_true, if_false, false_and, and_false] at h0 ⊢
          exact h0
        · have h0 := hQ M (gF_refl _ _ _)
          rw [show am_tab 0 [64, 67, 75, 91, 119] 139 (nI 2) = 75 from rfl]
          simp +decide only [qX11_saying_0, qX11_saying_1, lm hL, eld, if_true, if_false, am_w1_i, am_w1_r, am_w1_x, am_w1_l, am_w1_w, va_rf_s, am_push_n, am_push_s, am_cs_0, am_cs_i, am_cs_l, am_cs_r, m_uI_K, m_uI_N, m_uI_R, m_uI_L, m_uI_I, m_uL_K, m_uL_N, m_uL_R, m_uL_I, m_uL_L, m_uR_K, m_uR_N, m_uR_I, m_uR_L, m_uR_R, true_and, and_true, true_implies, false_implies, not_true_eq_false, not_false_eq_true, if_true, if_false, false_and, and_false] at h0 ⊢
          cases hl : y.2.2 with
          | true => rw [hl] at h0; simp +decide only [show b01 true = (1 : Int32) from rfl, qX11_saying_0, qX11_saying_1, am_w1_i, am_w1_r, am_w1_x, am_w1_l, am_w1_w, va_rf_s, am_push_n, am_push_s, am_cs_0, am_cs_i, am_cs_l, am_cs_r, m_uI_K, m_uI_N, m_uI_R, m_uI_L, m_uI_I, m_uL_K, m_uL_N, m_uL_R, m_uL_I, m_uL_L, m_uR_K, m_uR_N, m_uR_I, m_uR_L, m_uR_R, true_and, and_true, true_implies, false_implies, not_true_eq_false, not_false_eq_true, if_true, if_false, false_and, and_false] at h0 ⊢; exact h0
          | false => rw [hl] at h0; simp +decide only [show b01 false = (0 : Int32) from rfl, qX11_saying_0, qX11_saying_1, am_w1_i, am_w1_r, am_w1_x, am_w1_l, am_w1_w, va_rf_s, am_push_n, am_push_s, am_cs_0, am_cs_i, am_cs_l, am_cs_r, m_uI_K, m_uI_N, m_uI_R, m_uI_L, m_uI_I, m_uL_K, m_uL_N, m_uL_R, m_uL_I, m_uL_L, m_uR_K, m_uR_N, m_uR_I, m_uR_L, m_uR_R, true_and, and_true, true_implies, false_implies, not_true_eq_false, not_false_eq_true, if_true, if_false, false_and, and_false] at h0 ⊢; exact h0
        · have h0 := hQ M (gF_refl _ _ _)
          have eso := fun Q => c_m_isSound (d + 19) s (cel (dC D) y.2.1) (b01 y.2.2) M Q hL b hb hb2 (by omega) hc
          rw [show am_tab 0 [64, 67, 75, 91, 119] 139 (nI 3) = 91 from rfl]
          simp +decide only [qX11_saying_0, qX11_saying_1, lm hL, esd, eld, eso, if_true, if_false, am_w1_i, am_w1_r, am_w1_x, am_w1_l, am_w1_w, va_rf_s, am_push_n, am_push_s, am_cs_0, am_cs_i, am_cs_l, am_cs_r, m_uI_K, m_uI_N, m_uI_R, m_uI_L, m_uI_I, m_uL_K, m_uL_N, m_uL_R, m_uL_I, m_uL_L, m_uR_K, m_uR_N, m_uR_I, m_uR_L, m_uR_R, true_and, and_true, true_implies, false_implies, not_true_eq_false, not_false_eq_true, if_true, if_false, false_and, and_false] at h0 ⊢
          rw [bI_tI (m_snd m2.2.2.2.1 yv y.2.2), show sndP (dDp D) (dDr D s) (dLd D s) y.2.1 y.2.2 = dSn D s y.2.1 y.2.2 from rfl]
          by_cases c : dSn D s y.2.1 y.2.2
          · rw [tI_t c] at h0 ⊢; simp +decide only [qX11_saying_0, qX11_saying_1, am_w1_i, am_w1_r, am_w1_x, am_w1_l, am_w1_w, va_rf_s, am_push_n, am_push_s, am_cs_0, am_cs_i, am_cs_l, am_cs_r, m_uI_K, m_uI_N, m_uI_R, m_uI_L, m_uI_I, m_uL_K, m_uL_N, m_uL_R, m_uL_I, m_uL_L, m_uR_K, m_uR_N, m_uR_I, m_uR_L, m_uR_R, true_and, and_true, true_implies, false_implies, not_true_eq_false, not_false_eq_true, if_true, if_false, false_and, and_false]; exact h0
          · rw [tI_f c] at h0 ⊢; simp +decide only [qX11_saying_0, qX11_saying_1, am_w1_i, am_w1_r, am_w1_x, am_w1_l, am_w1_w, va_rf_s, am_push_n, am_push_s, am_cs_0, am_cs_i, am_cs_l, am_cs_r, m_uI_K, m_uI_N, m_uI_R, m_uI_L, m_uI_I, m_uL_K, m_uL_N, m_uL_R, m_uL_I, m_uL_L, m_uR_K, m_uR_N, m_uR_I, m_uR_L, m_uR_R, true_and, and_true, true_implies, false_implies, not_true_eq_false, not_false_eq_true, if_true, if_false, false_and, and_false]; exact h0
        · rw [show am_tab 0 [64, 67, 75, 91, 119] 139 (nI 4) = 119 from rfl]
          simp +decide only [qX11_saying_0, qX11_saying_1, lm hL, am_w1_i, am_w1_r, am_w1_x, am_w1_l, am_w1_w, va_rf_s, am_push_n, am_push_s, am_cs_0, am_cs_i, am_cs_l, am_cs_r, m_uI_K, m_uI_N, m_uI_R, m_uI_L, m_uI_I, m_uL_K, m_uL_N, m_uL_R, m_uL_I, m_uL_L, m_uR_K, m_uR_N, m_uR_I, m_uR_L, m_uR_R, true_and, and_true, true_implies, false_implies, not_true_eq_false, not_false_eq_true, if_true, if_false, false_and, and_false]
          refine m_keeps hD hL h s1 (d + 13) _ (fun M1 g1 q1 => ?_)
          have h0 := hQ M1 g1
          have L1 := gF_LayN g1 hL
          have hkl : k < (dY D s).length := (List.getElem?_eq_some_iff.mp hy).1
          have hk := q1.2.2.2.2 k hkl
          rw [k1]
          simp +decide (disch := omega) only [qX11_saying_0, qX11_saying_1, lm L1, hk, tI_01, ni_in_t, ni_tn, if_true, if_false, am_w1_i, am_w1_r, am_w1_x, am_w1_l, am_w1_w, va_rf_s, am_push_n, am_push_s, am_cs_0, am_cs_i, am_cs_l, am_cs_r, m_uI_K, m_uI_N, m_uI_R, m_uI_L, m_uI_I, m_uL_K, m_uL_N, m_uL_R, m_uL_I, m_uL_L, m_uR_K, m_uR_N, m_uR_I, m_uR_L, m_uR_R, true_and, and_true, true_implies, false_implies, not_true_eq_false, not_false_eq_true, if_true, if_false, false_and, and_false] at h0 ⊢
          by_cases c : fitP (dWt D s) (dV D s) (dBs D s) ∧ keptY (dWt D s) (dV D s) (dSn D s) (dBs D s) (dY D s) k
          · rw [tI_t c] at h0 ⊢; simp +decide only [qX11_saying_0, qX11_saying_1, am_w1_i, am_w1_r, am_w1_x, am_w1_l, am_w1_w, va_rf_s, am_push_n, am_push_s, am_cs_0, am_cs_i, am_cs_l, am_cs_r, m_uI_K, m_uI_N, m_uI_R, m_uI_L, m_uI_I, m_uL_K, m_uL_N, m_uL_R, m_uL_I, m_uL_L, m_uR_K, m_uR_N, m_uR_I, m_uR_L, m_uR_R, true_and, and_true, true_implies, false_implies, not_true_eq_false, not_false_eq_true, if_true, if_false, false_and, and_false]; exact h0
          · rw [tI_f c] at h0 ⊢; simp +decide only [qX11_saying_0, qX11_saying_1, am_w1_i, am_w1_r, am_w1_x, am_w1_l, am_w1_w, va_rf_s, am_push_n, am_push_s, am_cs_0, am_cs_i, am_cs_l, am_cs_r, m_uI_K, m_uI_N, m_uI_R, m_uI_L, m_uI_I, m_uL_K, m_uL_N, m_uL_R, m_uL_I, m_uL_L, m_uR_K, m_uR_N, m_uR_I, m_uR_L, m_uR_R, true_and, and_true, true_implies, false_implies, not_true_eq_false, not_false_eq_true, if_true, if_false, false_and, and_false]; exact h0
      · have h0 := hQ M (gF_refl _ _ _)
        rw [if_neg (by omega), if_neg (by omega), if_neg (by omega), if_neg (by omega), if_neg (by omega)] at h0
        rw [am_tab_out (by simp; omega)]
        simp +decide only [qX11_saying_0, qX11_saying_1, am_w1_i, am_w1_r, am_w1_x, am_w1_l, am_w1_w, va_rf_s, am_push_n, am_push_s, am_cs_0, am_cs_i, am_cs_l, am_cs_r, m_uI_K, m_uI_N, m_uI_R, m_uI_L, m_uI_I, m_uL_K, m_uL_N, m_uL_R, m_uL_I, m_uL_L, m_uR_K, m_uR_N, m_uR_I, m_uR_L, m_uR_R, true_and, and_true, true_implies, false_implies, not_true_eq_false, not_false_eq_true, if_true, if_false, false_and, and_false]
        exact h0
    · have h0 := hQ M (gF_refl _ _ _)
      rw [if_neg (fun q => hi (by have := q.2; rw [s3] at this; exact this))] at h0
      rw [hrI_f hi]
      simp +decide only [qX11_saying_0, qX11_saying_1, am_w1_i, am_w1_r, am_w1_x, am_w1_l, am_w1_w, va_rf_s, am_push_n, am_push_s, am_cs_0, am_cs_i, am_cs_l, am_cs_r, m_uI_K, m_uI_N, m_uI_R, m_uI_L, m_uI_I, m_uL_K, m_uL_N, m_uL_R, m_uL_I, m_uL_L, m_uR_K, m_uR_N, m_uR_I, m_uR_L, m_uR_R, true_and, and_true, true_implies, false_implies, not_true_eq_false, not_false_eq_true, if_true, if_false, false_and, and_false]
      exact h0
  · have h0 := hQ M (gF_refl _ _ _)
    rw [if_neg (fun q => hv q.1)] at h0
    first | rw [br_n (hv)] | rw [br_q (hv)] | rw [br_u (hv)]
    exact h0
theorem op_saying (v i w : Int32) : OpI 116 254 [.int v, .int i, .int w] isI := op_q (fun D => ⟨_, rfl⟩) (x_saying v i w) (m_saying v i w)
end
section
/-! cell, far, can -/
abbrev isCl (D : Dat) (x y : Int32) : Prop := (0 ≤ x.toInt ∧ x.toInt < dC D) ∧ (0 ≤ y.toInt ∧ y.toInt < dR D)
abbrev isHr (h : Int32) : Prop := 0 ≤ h.toInt ∧ h.toInt < 48
def plI (x y : Int32) : Nat := 16 * y.toInt.toNat + x.toInt.toNat
theorem cl_of {D : Dat} {x y : Int32} (hD : dOK D) (h : isCl D x y) : vld (dC D) (dR D) (plI x y) ∧ plI x y < 256 ∧ cel (dC D) (plI x y) = dC D * y.toInt.toNat + x.toInt.toNat ∧ 1 ≤ dC D ∧ 1 ≤ dR D ∧ x = nI x.toInt.toNat ∧ y = nI y.toInt.toNat := by
  have hC := hD.1.1.1
  have hR := hD.1.1.2
  obtain ⟨⟨h1, h2⟩, h3, h4⟩ := h
  have e1 : plI x y % 16 = x.toInt.toNat := by unfold plI; omega
  have e2 : plI x y / 16 = y.toInt.toNat := by unfold plI; omega
  exact ⟨⟨by omega, by omega⟩, by unfold plI; omega, by unfold cel; rw [e1, e2], by omega, by omega, i32_of (by omega) (by omega), i32_of (by omega) (by omega)⟩
theorem x_place {M : am_M} {z : Nat} {D : Dat} (hD : dOK D) (h : XR M z D) (d : Nat) (x y : Int32) (Q : Option Value → am_M → Prop) : am_E am_P0 d 56 [.ref z, .int x, .int y] M Q ↔ Q (some (.int (if isCl D x y then nI (plI x y) else -1))) M := x_placeAt hD h d x y Q
theorem m_MB {M : am_M} {b : Nat} {D : Dat} (hD : dOK D) (h : MdM M b D) (hC : 1 ≤ dC D) (hR : 1 ≤ dR D) : MB M b (dC D) (dR D) := ⟨h.1.1, h.1.2, h.2.1.1, h.2.1.2, hC, hD.1.1.1, hR, hD.1.1.2⟩
theorem m_atI {M : am_M} {b : Nat} {D : Dat} {x y : Int32} (hD : dOK D) (hL : Lay M) (h : MdM M b D) (hc : isCl D x y) (d : Nat) (Q : Option Value → am_M → Prop) : am_E am_P0 d 218 [.ref 277, .int x, .int y] M Q ↔ Q (some (.int (nI (cel (dC D) (plI x y))))) M := by
  obtain ⟨c1, c2, c3, c4, c5, c6, c7⟩ := cl_of hD hc
  rw [c3]
  have := c_m_at d x.toInt.toNat y.toInt.toNat M Q hL b (dC D) h.1.1 h.1.2 h.2.1.1
  rw [← c6, ← c7] at this
  exact this
noncomputable def aCel (x y t w : Int32) (D : Dat) : Value := .int (if isCl D x y ∧ isHr t then (if w.toInt = 0 then nI (dDp D (plI x y)) else if w.toInt = 1 then nI (dCs D (plI x y)) else if w.toInt = 2 then tI (dQt D (plI x y) t.toInt.toNat) else -1) else -1)
theorem x_cell (x y t w : Int32) : XqO 117 [.int x, .int y, .int t, .int w] (aCel x y t w) := by
  intro d M z D Q hD h hQ
  have hz := h.1.2.2.1
  have hL := h.1.1
  have hI := h.1.2.1
  have hr := h.1.2.2.2.1
  have eP := fun x y Q => x_place hD h (d + 19) x y Q
  unfold aCel at hQ
  rw [eX10_cell]
  simp +decide only [qX10_cell, lx hL, lz hL hz, hr, eP, c_x_isHour, bI_0, Classical.not_not, am_w1_i, am_w1_r, am_w1_x, am_w1_l, am_w1_w, va_rf_s, am_push_n, am_push_s, am_cs_0, am_cs_i, am_cs_l, am_cs_r, m_uI_K, m_uI_N, m_uI_R, m_uI_L, m_uI_I, m_uL_K, m_uL_N, m_uL_R, m_uL_I, m_uL_L, m_uR_K, m_uR_N, m_uR_I, m_uR_L, m_uR_R, true_and, and_true, true_implies, false_implies, not_true_eq_false, not_false_eq_true, if_true, if_false, false_and, and_false]
  by_cases hc : isCl D x y
  · obtain ⟨c1, c2, c3, c4, c5, c6, c7⟩ := cl_of hD hc
    rw [if_pos hc]
    have hne : ¬ nI (plI x y) = -1 := nI_m1 (by omega)
    first | rw [br_n (hne)] | rw [br_q (hne)] | rw [br_u (hne)]
    by_cases ht : 0 ≤ t.toInt ∧ t.toInt < 48
    · first | rw [br_p (ht)] | rw [br_r (ht)] | rw [br_s (ht)]
      rw [if_pos ⟨hc, ht⟩] at hQ
      have et : t = nI t.toInt.toNat := i32_of (by omega) (by omega)
      rcases sw_of w 3 (by omega) with ⟨n, n1, n2, n3⟩ | w1
      · rw [n3] at hQ
        rw [n2]
        rcases (by omega : n = 0 ∨ n = 1 ∨ n = 2) with e | e | e <;> subst e
        · have h0 := hQ M (XR_2 h) h
          have hd := (h.2.2.1.2.2.1 (plI x y) c2).2
          rw [show am_tab 0 [56, 67, 77] 91 (nI 0) = 56 from rfl]
          simp +decide (disch := omega) only [qX10_cell, lx hL, lz hL hz, hr, hd, ni_in_t, ni_tn, if_true, if_false, am_w1_i, am_w1_r, am_w1_x, am_w1_l, am_w1_w, va_rf_s, am_push_n, am_push_s, am_cs_0, am_cs_i, am_cs_l, am_cs_r, m_uI_K, m_uI_N, m_uI_R, m_uI_L, m_uI_I, m_uL_K, m_uL_N, m_uL_R, m_uL_I, m_uL_L, m_uR_K, m_uR_N, m_uR_I, m_uR_L, m_uR_R, true_and, and_true, true_implies, false_implies, not_true_eq_false, not_false_eq_true, if_true, if_false, false_and, and_false] at h0 ⊢
          exact h0
        · rw [show am_tab 0 [56, 67, 77] 91 (nI 1) = 67 from rfl]
          simp +decide (disch := omega) only [qX10_cell, lx hL, lz hL hz, hr, am_w1_i, am_w1_r, am_w1_x, am_w1_l, am_w1_w, va_rf_s, am_push_n, am_push_s, am_cs_0, am_cs_i, am_cs_l, am_cs_r, m_uI_K, m_uI_N, m_uI_R, m_uI_L, m_uI_I, m_uL_K, m_uL_N, m_uL_R, m_uL_I, m_uL_L, m_uR_K, m_uR_N, m_uR_I, m_uR_L, m_uR_R, true_and, and_true, true_implies, false_implies, not_true_eq_false, not_false_eq_true, if_true, if_false, false_and, and_false]
          refine c_x_costAt (d + 14) z (plI x y) (dDp D) (dCs D) (dQt D) M _ hL hI hz c2 h.2.2.1 (fun M1 f1 s1 => ?_)
          have h0 := hQ M1 (zF_up f1 (fun a j q => Or.inr (Or.inr (Or.inr (Or.inr q))))) (XR_mm hD h f1 s1)
          simp +decide (disch := omega) only [qX10_cell, if_true, if_false, am_w1_i, am_w1_r, am_w1_x, am_w1_l, am_w1_w, va_rf_s, am_push_n, am_push_s, am_cs_0, am_cs_i, am_cs_l, am_cs_r, m_uI_K, m_uI_N, m_uI_R, m_uI_L, m_uI_I, m_uL_K, m_uL_N, m_uL_R, m_uL_I, m_uL_L, m_uR_K, m_uR_N, m_uR_I, m_uR_L, m_uR_R, true_and, and_true, true_implies, false_implies, not_true_eq_false, not_false_eq_true, if_true, if_false, false_and, and_false] at h0 ⊢
          exact h0
        · rw [show am_tab 0 [56, 67, 77] 91 (nI 2) = 77 from rfl, et]
          simp +decide (disch := omega) only [qX10_cell, lx hL, lz hL hz, hr, am_w1_i, am_w1_r, am_w1_x, am_w1_l, am_w1_w, va_rf_s, am_push_n, am_push_s, am_cs_0, am_cs_i, am_cs_l, am_cs_r, m_uI_K, m_uI_N, m_uI_R, m_uI_L, m_uI_I, m_uL_K, m_uL_N, m_uL_R, m_uL_I, m_uL_L, m_uR_K, m_uR_N, m_uR_I, m_uR_L, m_uR_R, true_and, and_true, true_implies, false_implies, not_true_eq_false, not_false_eq_true, if_true, if_false, false_and, and_false]
          refine c_x_isQuiet (d + 15) z (plI x y) t.toInt.toNat (dDp D) (dCs D) (dQt D) M _ hL hI hz c2 (by omega) h.2.2.1 (fun M1 f1 s1 => ?_)
          have h0 := hQ M1 (zF_up f1 (fun a j q => Or.inr (Or.inr (Or.inr (Or.inr q))))) (XR_mm hD h f1 s1)
          have eb2 := fun Q => c_x_bit (d + 19) (tI (dQt D (plI x y) t.toInt.toNat)) M1 Q (tI_01 _)
          simp +decide (disch := omega) only [qX10_cell, eb2, if_true, if_false, am_w1_i, am_w1_r, am_w1_x, am_w1_l, am_w1_w, va_rf_s, am_push_n, am_push_s, am_cs_0, am_cs_i, am_cs_l, am_cs_r, m_uI_K, m_uI_N, m_uI_R, m_uI_L, m_uI_I, m_uL_K, m_uL_N, m_uL_R, m_uL_I, m_uL_L, m_uR_K, m_uR_N, m_uR_I, m_uR_L, m_uR_R, true_and, and_true, true_implies, false_implies, not_true_eq_false, not_false_eq_true, if_true, if_false, false_and, and_false] at h0 ⊢
          exact h0
      · have h0 := hQ M (XR_2 h) h
        rw [if_neg (by omega), if_neg (by omega), if_neg (by omega)] at h0
        rw [am_tab_out (by simp; omega)]
        simp +decide only [qX10_cell, am_w1_i, am_w1_r, am_w1_x, am_w1_l, am_w1_w, va_rf_s, am_push_n, am_push_s, am_cs_0, am_cs_i, am_cs_l, am_cs_r, m_uI_K, m_uI_N, m_uI_R, m_uI_L, m_uI_I, m_uL_K, m_uL_N, m_uL_R, m_uL_I, m_uL_L, m_uR_K, m_uR_N, m_uR_I, m_uR_L, m_uR_R, true_and, and_true, true_implies, false_implies, not_true_eq_false, not_false_eq_true, if_true, if_false, false_and, and_false]
        exact h0
    · first | rw [br_n (ht)] | rw [br_q (ht)] | rw [br_u (ht)]
      have h0 := hQ M (XR_2 h) h
      rw [if_neg (fun q => ht q.2)] at h0
      exact h0
  · rw [if_neg hc]
    have h0 := hQ M (XR_2 h) h
    rw [if_neg (fun q => hc q.1)] at h0
    simp +decide only [am_w1_i, am_w1_r, am_w1_x, am_w1_l, am_w1_w, va_rf_s, am_push_n, am_push_s, am_cs_0, am_cs_i, am_cs_l, am_cs_r, m_uI_K, m_uI_N, m_uI_R, m_uI_L, m_uI_I, m_uL_K, m_uL_N, m_uL_R, m_uL_I, m_uL_L, m_uR_K, m_uR_N, m_uR_I, m_uR_L, m_uR_R, true_and, and_true, true_implies, false_implies, not_true_eq_false, not_false_eq_true, if_true, if_false, false_and, and_false]
    exact h0
theorem m_cell (x y t w : Int32) : MqO 225 [.int x, .int y, .int t, .int w] (aCel x y t w) := by
  intro d M b D Q hD hL h hQ
  have eC := fun x y Q => m_isCell hD hL h (d + 18) x y Q
  have eH := fun x Q => c_m_isHour (d + 18) x M Q
  unfold aCel at hQ
  rw [eX11_cell]
  simp +decide only [qX11_cell_0, qX11_cell_1, lm hL, eC, eH, bI_0, Classical.not_not, am_w1_i, am_w1_r, am_w1_x, am_w1_l, am_w1_w, va_rf_s, am_push_n, am_push_s, am_cs_0, am_cs_i, am_cs_l, am_cs_r, m_uI_K, m_uI_N, m_uI_R, m_uI_L, m_uI_I, m_uL_K, m_uL_N, m_uL_R, m_uL_I, m_uL_L, m_uR_K, m_uR_N, m_uR_I, m_uR_L, m_uR_R, true_and, and_true, true_implies, false_implies, not_true_eq_false, not_false_eq_true, if_true, if_false, false_and, and_false]
  by_cases hc : isCl D x y
  · obtain ⟨c1, c2, c3, c4, c5, c6, c7⟩ := cl_of hD hc
    have hc' := hc
    unfold isCl at hc'
    first | rw [br_p (hc')] | rw [br_r (hc')] | rw [br_s (hc')]
    by_cases ht : 0 ≤ t.toInt ∧ t.toInt < 48
    · first | rw [br_p (ht)] | rw [br_r (ht)] | rw [br_s (ht)]
      rw [if_pos ⟨hc, ht⟩] at hQ
      have et : t = nI t.toInt.toNat := i32_of (by omega) (by omega)
      have eA := fun Q => m_atI hD hL h hc (d + 19) Q
      have hcl := (cel_lt hD.1.1.1 hD.1.1.2 c1).2.1
      obtain ⟨v1, v2⟩ := h.2.2.2.2.2.2.2.2 (plI x y) c1
      simp +decide (disch := omega) only [qX11_cell_0, qX11_cell_1, lm hL, eA, v1, v2, ni_in_t, ni_tn, Classical.not_not, am_w1_i, am_w1_r, am_w1_x, am_w1_l, am_w1_w, va_rf_s, am_push_n, am_push_s, am_cs_0, am_cs_i, am_cs_l, am_cs_r, m_uI_K, m_uI_N, m_uI_R, m_uI_L, m_uI_I, m_uL_K, m_uL_N, m_uL_R, m_uL_I, m_uL_L, m_uR_K, m_uR_N, m_uR_I, m_uR_L, m_uR_R, true_and, and_true, true_implies, false_implies, not_true_eq_false, not_false_eq_true, if_true, if_false, false_and, and_false]
      by_cases w0 : w = 0
      · have h0 := hQ M (gF_refl _ _ _)
        rw [if_pos (by rw [w0]; rfl)] at h0
        first | rw [br_p (w0)] | rw [br_r (w0)] | rw [br_s (w0)]
        exact h0
      · first | rw [br_n (w0)] | rw [br_q (w0)] | rw [br_u (w0)]
        have w0' : ¬ w.toInt = 0 := fun q => w0 (Int32.toInt_inj.mp q)
        rw [if_neg w0'] at hQ
        by_cases w1 : w = 1
        · have h0 := hQ M (gF_refl _ _ _)
          rw [if_pos (by rw [w1]; rfl)] at h0
          first | rw [br_p (w1)] | rw [br_r (w1)] | rw [br_s (w1)]
          exact h0
        · first | rw [br_n (w1)] | rw [br_q (w1)] | rw [br_u (w1)]
          have w1' : ¬ w.toInt = 1 := fun q => w1 (Int32.toInt_inj.mp q)
          rw [if_neg w1'] at hQ
          by_cases w2 : w = 2
          · rw [if_pos (by rw [w2]; rfl)] at hQ
            first | rw [br_p (w2)] | rw [br_r (w2)] | rw [br_s (w2)]
            rw [et]
            refine m_isQuiet (d + 15) b (dC D) (dR D) (plI x y) t.toInt.toNat (dRd D) (dRc D) (dRq D) M _ hL (m_MB hD h c4 c5) h.2.2.2.2.2.2.2.2 h.2.2.2.2.2.2.2.1.2.2 c1 (by omega) (fun M1 g1 => ?_)
            have h0 := hQ M1 (gF_up g1 (fun a j q => by unfold sWk at q; unfold sMq; omega) (fun _ _ q => q))
            rw [show qtF (dC D) (dR D) (dRd D) (dRq D) (plI x y) t.toInt.toNat = dQt D (plI x y) t.toInt.toNat from rfl]
            by_cases c : dQt D (plI x y) t.toInt.toNat
            · rw [tI_t c] at h0 ⊢; simp +decide only [qX11_cell_0, qX11_cell_1, am_w1_i, am_w1_r, am_w1_x, am_w1_l, am_w1_w, va_rf_s, am_push_n, am_push_s, am_cs_0, am_cs_i, am_cs_l, am_cs_r, m_uI_K, m_uI_N, m_uI_R, m_uI_L, m_uI_I, m_uL_K, m_uL_N, m_uL_R, m_uL_I, m_uL_L, m_uR_K, m_uR_N, m_uR_I, m_uR_L, m_uR_R, true_and, and_true, true_implies, false_implies, not_true_eq_false, not_false_eq_true, if_true, if_false, false_and, and_false]; exact h0
            · rw [tI_f c] at h0 ⊢; simp +decide only [qX11_cell_0, qX11_cell_1, am_w1_i, am_w1_r, am_w1_x, am_w1_l, am_w1_w, va_rf_s, am_push_n, am_push_s, am_cs_0, am_cs_i, am_cs_l, am_cs_r, m_uI_K, m_uI_N, m_uI_R, m_uI_L, m_uI_I, m_uL_K, m_uL_N, m_uL_R, m_uL_I, m_uL_L, m_uR_K, m_uR_N, m_uR_I, m_uR_L, m_uR_R, true_and, and_true, true_implies, false_implies, not_true_eq_false, not_false_eq_true, if_true, if_false, false_and, and_false]; exact h0
          · have h0 := hQ M (gF_refl _ _ _)
            have w2' : ¬ w.toInt = 2 := fun q => w2 (Int32.toInt_inj.mp q)
            rw [if_neg w2'] at h0
            first | rw [br_n (w2)] | rw [br_q (w2)] | rw [br_u (w2)]
            exact h0
    · first | rw [br_n (ht)] | rw [br_q (ht)] | rw [br_u (ht)]
      have h0 := hQ M (gF_refl _ _ _)
      rw [if_neg (fun q => ht q.2)] at h0
      exact h0
  · have h0 := hQ M (gF_refl _ _ _)
    rw [if_neg (fun q => hc q.1)] at h0
    unfold isCl at hc
    first | rw [br_n (hc)] | rw [br_q (hc)] | rw [br_u (hc)]
    exact h0
theorem op_cell (x y t w : Int32) : OpI 117 225 [.int x, .int y, .int t, .int w] isI := op_q (fun D => ⟨_, rfl⟩) (x_cell x y t w) (m_cell x y t w)
/-! far -/
def farQ (wt : Nat → Prop) (v p q : Nat) (x : Int32) : Prop := (∃ k, k ≤ 256 ∧ dst wt p q k ∧ x = nI ((k + v - 1) / v)) ∨ ((∀ k, ¬ ball wt p k q) ∧ x = -1)
theorem farQ_1 {wt : Nat → Prop} {v p q : Nat} {x y : Int32} (h1 : farQ wt v p q x) (h2 : farQ wt v p q y) : x = y := by
  rcases h1 with ⟨k, -, hk, rfl⟩ | ⟨hk, rfl⟩
  · rcases h2 with ⟨j, -, hj, rfl⟩ | ⟨hj, rfl⟩
    · rw [dst_1 hk hj]
    · exact absurd hk.1 (hj k)
  · rcases h2 with ⟨j, -, hj, rfl⟩ | ⟨hj, rfl⟩
    · exact absurd hj.1 (hk j)
    · rfl
noncomputable def frI (wt : Nat → Prop) (v p q : Nat) : Int32 := @dite _ (∃ x, farQ wt v p q x) (Classical.propDecidable _) (fun h => Classical.choose h) (fun _ => 0)
theorem frI_e {wt : Nat → Prop} {v p q : Nat} {x : Int32} (h : farQ wt v p q x) : frI wt v p q = x := by
  unfold frI
  rw [dif_pos ⟨x, h⟩]
  exact farQ_1 (Classical.choose_spec (⟨x, h⟩ : ∃ x, farQ wt v p q x)) h
noncomputable def aFar (v x y x' y' : Int32) (D : Dat) : Value := .int (if (0 ≤ v.toInt ∧ v.toInt < dN D) ∧ isCl D x y ∧ isCl D x' y' then frI (dWt D v.toInt.toNat) (dV D v.toInt.toNat) (plI x y) (plI x' y') else -1)
theorem x_far (v x y x' y' : Int32) : XqO 118 [.int v, .int x, .int y, .int x', .int y'] (aFar v x y x' y') := by
  intro d M z D Q hD h hQ
  have hz := h.1.2.2.1
  have hL := h.1.1
  have hI := h.1.2.1
  have hr := h.1.2.2.2.1
  have n8 := dN_8 hD
  have eP := fun x y Q => x_place hD h (d + 19) x y Q
  have eS := fun v Q => x_isShip hD h (d + 19) v Q
  unfold aFar at hQ
  rw [eX10_far]
  simp +decide only [qX10_far, lx hL, lz hL hz, hr, eP, eS, bI_0, Classical.not_not, am_w1_i, am_w1_r, am_w1_x, am_w1_l, am_w1_w, va_rf_s, am_push_n, am_push_s, am_cs_0, am_cs_i, am_cs_l, am_cs_r, m_uI_K, m_uI_N, m_uI_R, m_uI_L, m_uI_I, m_uL_K, m_uL_N, m_uL_R, m_uL_I, m_uL_L, m_uR_K, m_uR_N, m_uR_I, m_uR_L, m_uR_R, true_and, and_true, true_implies, false_implies, not_true_eq_false, not_false_eq_true, if_true, if_false, false_and, and_false]
  by_cases hv : 0 ≤ v.toInt ∧ v.toInt < dN D
  · first | rw [br_p (hv)] | rw [br_r (hv)] | rw [br_s (hv)]
    by_cases hc : isCl D x y
    · obtain ⟨c1, c2, c3, c4, c5, c6, c7⟩ := cl_of hD hc
      rw [if_pos hc]
      have hne : ¬ nI (plI x y) = -1 := nI_m1 (by omega)
      first | rw [br_n (hne)] | rw [br_q (hne)] | rw [br_u (hne)]
      by_cases hc' : isCl D x' y'
      · obtain ⟨c1', c2', c3', c4', c5', c6', c7'⟩ := cl_of hD hc'
        rw [if_pos hc']
        have hne' : ¬ nI (plI x' y') = -1 := nI_m1 (by omega)
        first | rw [br_n (hne')] | rw [br_q (hne')] | rw [br_u (hne')]
        rw [if_pos ⟨hv, hc, hc'⟩] at hQ
        obtain ⟨s, s1, s2, s3⟩ := sh_of (by omega) hv
        rw [s3] at hQ
        have htr := ltr hL (show s < 8 by omega)
        have hst := lt_ hL (isTr_of (show s < 8 by omega))
        obtain ⟨hT, -⟩ := (h.2.2.2.1 s s1).1
        have hk := dSp_ok hD.1 s1
        rw [s2]
        have e174 : 173 + 13 * s + 1 = 174 + 13 * s := by omega
        simp +decide (disch := omega) only [qX10_far, lx hL, htr, hst, ni_in_t, ni_tn, am_w1_i, am_w1_r, am_w1_x, am_w1_l, am_w1_w, va_rf_s, am_push_n, am_push_s, am_cs_0, am_cs_i, am_cs_l, am_cs_r, m_uI_K, m_uI_N, m_uI_R, m_uI_L, m_uI_I, m_uL_K, m_uL_N, m_uL_R, m_uL_I, m_uL_L, m_uR_K, m_uR_N, m_uR_I, m_uR_L, m_uR_R, true_and, and_true, true_implies, false_implies, not_true_eq_false, not_false_eq_true, if_true, if_false, false_and, and_false]
        rw [e174]
        refine c_x_hoursBetween (d + 18) s (plI x y) (plI x' y') (dV D s) (dWt D s) _ M hL (by omega) c2 c2' hT.1 hk.2.2.2.2.1 hT.2.1 hT.2.2.1 (fun r M1 o1 f1 => ?_)
        have fz : zF (fun a _ => a = 178 + 13 * s) M M1 := zF_l hL hI o1 (by omega) (fun _ => rfl) (fun s' hs' => by omega)
        have hq : farQ (dWt D s) (dV D s) (plI x y) (plI x' y') r := by
          rcases f1 with ⟨k, k1, k2, k3⟩ | q
          · exact Or.inl ⟨k, by omega, k2, k3⟩
          · exact Or.inr q
        have h0 := hQ M1 (zq_up (s := s) (by omega) fz (fun a j q => by unfold sQ1; omega)) (XR_k (s0 := s) hD (by omega) h fz (fun a j q => by omega))
        rw [frI_e hq] at h0
        simp +decide only [qX10_far, am_w1_i, am_w1_r, am_w1_x, am_w1_l, am_w1_w, va_rf_s, am_push_n, am_push_s, am_cs_0, am_cs_i, am_cs_l, am_cs_r, m_uI_K, m_uI_N, m_uI_R, m_uI_L, m_uI_I, m_uL_K, m_uL_N, m_uL_R, m_uL_I, m_uL_L, m_uR_K, m_uR_N, m_uR_I, m_uR_L, m_uR_R, true_and, and_true, true_implies, false_implies, not_true_eq_false, not_false_eq_true, if_true, if_false, false_and, and_false]
        exact h0
      · have h0 := hQ M (XR_2 h) h
        rw [if_neg (fun q => hc' q.2.2)] at h0
        rw [if_neg hc']
        simp +decide only [am_w1_i, am_w1_r, am_w1_x, am_w1_l, am_w1_w, va_rf_s, am_push_n, am_push_s, am_cs_0, am_cs_i, am_cs_l, am_cs_r, m_uI_K, m_uI_N, m_uI_R, m_uI_L, m_uI_I, m_uL_K, m_uL_N, m_uL_R, m_uL_I, m_uL_L, m_uR_K, m_uR_N, m_uR_I, m_uR_L, m_uR_R, true_and, and_true, true_implies, false_implies, not_true_eq_false, not_false_eq_true, if_true, if_false, false_and, and_false]
        exact h0
    · have h0 := hQ M (XR_2 h) h
      rw [if_neg (fun q => hc q.2.1)] at h0
      rw [if_neg hc]
      simp +decide only [am_w1_i, am_w1_r, am_w1_x, am_w1_l, am_w1_w, va_rf_s, am_push_n, am_push_s, am_cs_0, am_cs_i, am_cs_l, am_cs_r, m_uI_K, m_uI_N, m_uI_R, m_uI_L, m_uI_I, m_uL_K, m_uL_N, m_uL_R, m_uL_I, m_uL_L, m_uR_K, m_uR_N, m_uR_I, m_uR_L, m_uR_R, true_and, and_true, true_implies, false_implies, not_true_eq_false, not_false_eq_true, if_true, if_false, false_and, and_false]
      exact h0
  · have h0 := hQ M (XR_2 h) h
    rw [if_neg (fun q => hv q.1)] at h0
    first | rw [br_n (hv)] | rw [br_q (hv)] | rw [br_u (hv)]
    exact h0
theorem m_far (v x y x' y' : Int32) : MqO 239 [.int v, .int x, .int y, .int x', .int y'] (aFar v x y x' y') := by
  intro d M b D Q hD hL h hQ
  have n8 := dN_8 hD
  have eC := fun x y Q => m_isCell hD hL h (d + 18) x y Q
  have eS := fun v Q => m_isShip hD hL h (d + 18) v Q
  unfold aFar at hQ
  rw [eX11_far]
  simp +decide only [qX11_far, lm hL, eC, eS, bI_0, Classical.not_not, am_w1_i, am_w1_r, am_w1_x, am_w1_l, am_w1_w, va_rf_s, am_push_n, am_push_s, am_cs_0, am_cs_i, am_cs_l, am_cs_r, m_uI_K, m_uI_N, m_uI_R, m_uI_L, m_uI_I, m_uL_K, m_uL_N, m_uL_R, m_uL_I, m_uL_L, m_uR_K, m_uR_N, m_uR_I, m_uR_L, m_uR_R, true_and, and_true, true_implies, false_implies, not_true_eq_false, not_false_eq_true, if_true, if_false, false_and, and_false]
  by_cases hv : 0 ≤ v.toInt ∧ v.toInt < dN D
  · first | rw [br_p (hv)] | rw [br_r (hv)] | rw [br_s (hv)]
    by_cases hc : isCl D x y
    · obtain ⟨c1, c2, c3, c4, c5, c6, c7⟩ := cl_of hD hc
      have hc0 := hc
      unfold isCl at hc0
      first | rw [br_p (hc0)] | rw [br_r (hc0)] | rw [br_s (hc0)]
      by_cases hc' : isCl D x' y'
      · obtain ⟨c1', c2', c3', c4', c5', c6', c7'⟩ := cl_of hD hc'
        have hc0' := hc'
        unfold isCl at hc0'
        first | rw [br_p (hc0')] | rw [br_r (hc0')] | rw [br_s (hc0')]
        rw [if_pos ⟨hv, hc, hc'⟩] at hQ
        obtain ⟨s, s1, s2, s3⟩ := sh_of (by omega) hv
        rw [s3] at hQ
        obtain ⟨m1, m2, m3, m4, m5⟩ := mh hD h s1
        have eA := fun Q => m_atI hD hL h hc (d + 19) Q
        rw [s2]
        simp +decide only [qX11_far, lm hL, eA, am_w1_i, am_w1_r, am_w1_x, am_w1_l, am_w1_w, va_rf_s, am_push_n, am_push_s, am_cs_0, am_cs_i, am_cs_l, am_cs_r, m_uI_K, m_uI_N, m_uI_R, m_uI_L, m_uI_I, m_uL_K, m_uL_N, m_uL_R, m_uL_I, m_uL_L, m_uR_K, m_uR_N, m_uR_I, m_uR_L, m_uR_R, true_and, and_true, true_implies, false_implies, not_true_eq_false, not_false_eq_true, if_true, if_false, false_and, and_false]
        refine c_m_goes (d + 16) s b (dC D) (dR D) (plI x y) M _ hL m1 (by omega) c1 (fun M1 o1 g1 => ?_)
        rw [m5] at g1
        have G1 : gF sMq nT M M1 := gF_up (gF_o (onlyG_S o1)) (fun a j q => by unfold sG at q; unfold sMq; omega) (fun _ _ q => q)
        have L1 := gF_LayN G1 hL
        have h1 := MdM_g h G1 (fun a j q w => by unfold tlM at q; unfold sMq at w; omega)
        have eA1 := fun Q => m_atI hD L1 h1 hc' (d + 19) Q
        have hk := dSp_ok hD.1 s1
        have hcl := (cel_lt hD.1.1.1 hD.1.1.2 c1').2.1
        have eT := fun Q => c_m_hoursTo (d + 19) s b (dV D s) (cel (dC D) (plI x' y')) M1 Q L1 h1.1.1 h1.1.2 (by omega) (mh hD h1 s1).2.1.1 hk.2.2.2.2.1 hk.2.2.2.2.2.1 hcl
        have h0 := hQ M1 G1
        simp +decide only [qX11_far, lm L1, eA1, eT, am_w1_i, am_w1_r, am_w1_x, am_w1_l, am_w1_w, va_rf_s, am_push_n, am_push_s, am_cs_0, am_cs_i, am_cs_l, am_cs_r, m_uI_K, m_uI_N, m_uI_R, m_uI_L, m_uI_I, m_uL_K, m_uL_N, m_uL_R, m_uL_I, m_uL_L, m_uR_K, m_uR_N, m_uR_I, m_uR_L, m_uR_R, true_and, and_true, true_implies, false_implies, not_true_eq_false, not_false_eq_true, if_true, if_false, false_and, and_false]
        have v1 : 1 ≤ dV D s := hk.2.2.2.2.1
        have v4 : dV D s ≤ 4 := hk.2.2.2.2.2.1
        rcases g1 (plI x' y') c1' with ⟨k, k1, k2, k3⟩ | ⟨k1, k2⟩
        · have e1 : hrT (mI M1 317 (cel (dC D) (plI x' y'))) (dV D s) = nI ((k + dV D s - 1) / dV D s) := by
            unfold hrT
            rw [k3, if_neg (nI_m1 (by omega)), ni_add, show (1 : Int32) = nI 1 from rfl, ni_sub (by omega), ni_div (by omega) (by omega)]
          have hdv : (k + dV D s - 1) / dV D s ≤ k + dV D s - 1 := Nat.div_le_self _ _
          have hne : ¬ nI ((k + dV D s - 1) / dV D s) = 1000 := by rw [show (1000 : Int32) = nI 1000 from rfl, ni_eq (by omega) (by omega)]; omega
          rw [frI_e (Or.inl ⟨k, k1, k2, rfl⟩)] at h0
          rw [e1]
          first | rw [br_n (hne)] | rw [br_q (hne)] | rw [br_u (hne)]
          exact h0
        · have e1 : hrT (mI M1 317 (cel (dC D) (plI x' y'))) (dV D s) = 1000 := by
            unfold hrT
            rw [k2, if_pos rfl]
          rw [frI_e (Or.inr ⟨k1, rfl⟩)] at h0
          rw [e1]
          simp +decide only [am_w1_i, am_w1_r, am_w1_x, am_w1_l, am_w1_w, va_rf_s, am_push_n, am_push_s, am_cs_0, am_cs_i, am_cs_l, am_cs_r, m_uI_K, m_uI_N, m_uI_R, m_uI_L, m_uI_I, m_uL_K, m_uL_N, m_uL_R, m_uL_I, m_uL_L, m_uR_K, m_uR_N, m_uR_I, m_uR_L, m_uR_R, true_and, and_true, true_implies, false_implies, not_true_eq_false, not_false_eq_true, if_true, if_false, false_and, and_false]
          exact h0
      · have h0 := hQ M (gF_refl _ _ _)
        rw [if_neg (fun q => hc' q.2.2)] at h0
        unfold isCl at hc'
        first | rw [br_n (hc')] | rw [br_q (hc')] | rw [br_u (hc')]
        exact h0
    · have h0 := hQ M (gF_refl _ _ _)
      rw [if_neg (fun q => hc q.2.1)] at h0
      unfold isCl at hc
      first | rw [br_n (hc)] | rw [br_q (hc)] | rw [br_u (hc)]
      exact h0
  · have h0 := hQ M (gF_refl _ _ _)
    rw [if_neg (fun q => hv q.1)] at h0
    first | rw [br_n (hv)] | rw [br_q (hv)] | rw [br_u (hv)]
    exact h0
theorem op_far (v x y x' y' : Int32) : OpI 118 239 [.int v, .int x, .int y, .int x', .int y'] isI := op_q (fun D => ⟨_, rfl⟩) (x_far v x y x' y') (m_far v x y x' y')
end
section
/-! can, reach, may -/
noncomputable def aCan (v i j : Int32) (D : Dat) : Value := .int (if ¬ i = j ∧ isSy D v i ∧ isSy D v j then tI (∃ y y', (dY D v.toInt.toNat)[i.toInt.toNat]? = some y ∧ (dY D v.toInt.toNat)[j.toInt.toNat]? = some y' ∧ gowY (dWt D v.toInt.toNat) (dV D v.toInt.toNat) y y') else -1)
theorem gow_ex {w : Nat → Prop} {v : Nat} {Y : List Sy} {i j : Nat} {y y' : Sy} (hy : Y[i]? = some y) (hy' : Y[j]? = some y') : (∃ z z', Y[i]? = some z ∧ Y[j]? = some z' ∧ gowY w v z z') ↔ gowY w v y y' := by
  constructor
  · rintro ⟨z, z', q1, q2, q3⟩
    rw [hy] at q1
    rw [hy'] at q2
    cases q1
    cases q2
    exact q3
  · intro q
    exact ⟨y, y', hy, hy', q⟩
theorem x_can (v i j : Int32) : XqO 119 [.int v, .int i, .int j] (aCan v i j) := by
  intro d M z D Q hD h hQ
  have hz := h.1.2.2.1
  have hL := h.1.1
  have hI := h.1.2.1
  have n8 := dN_8 hD
  have eS := fun v i Q => x_isSaying hD h (d + 18) v i Q
  unfold aCan at hQ
  rw [eX10_can]
  simp +decide only [qX10_can, lx hL, eS, bI_0, Classical.not_not, am_w1_i, am_w1_r, am_w1_x, am_w1_l, am_w1_w, va_rf_s, am_push_n, am_push_s, am_cs_0, am_cs_i, am_cs_l, am_cs_r, m_uI_K, m_uI_N, m_uI_R, m_uI_L, m_uI_I, m_uL_K, m_uL_N, m_uL_R, m_uL_I, m_uL_L, m_uR_K, m_uR_N, m_uR_I, m_uR_L, m_uR_R, true_and, and_true, true_implies, false_implies, not_true_eq_false, not_false_eq_true, if_true, if_false, false_and, and_false]
  by_cases e : i = j
  · have h0 := hQ M (XR_2 h) h
    rw [if_neg (fun q => q.1 e)] at h0
    first | rw [br_p (e)] | rw [br_r (e)] | rw [br_s (e)]
    exact h0
  · first | rw [br_n (e)] | rw [br_q (e)] | rw [br_u (e)]
    by_cases hi : isSy D v i
    · first | rw [br_p (hi)] | rw [br_r (hi)] | rw [br_s (hi)]
      by_cases hj : isSy D v j
      · first | rw [br_p (hj)] | rw [br_r (hj)] | rw [br_s (hj)]
        rw [if_pos ⟨e, hi, hj⟩] at hQ
        obtain ⟨s, s1, s2, s3⟩ := sh_of (by omega) hi.1
        have hi2 := hi.2
        have hj2 := hj.2
        rw [s3] at hi2 hj2 hQ
        obtain ⟨k, y, k48, k1, k2, hy, y48, yv, y256, ym⟩ := sy_of hD hi2
        obtain ⟨k', y', k48', k1', k2', hy', y48', yv', y256', ym'⟩ := sy_of hD hj2
        rw [k2, k2', tI_i (gow_ex hy hy')] at hQ
        have htr := ltr hL (show s < 8 by omega)
        have hst := lt_ hL (isTr_of (show s < 8 by omega))
        rw [s2, k1, k1']
        simp +decide (disch := omega) only [qX10_can, lx hL, htr, hst, ni_in_t, ni_tn, am_w1_i, am_w1_r, am_w1_x, am_w1_l, am_w1_w, va_rf_s, am_push_n, am_push_s, am_cs_0, am_cs_i, am_cs_l, am_cs_r, m_uI_K, m_uI_N, m_uI_R, m_uI_L, m_uI_I, m_uL_K, m_uL_N, m_uL_R, m_uL_I, m_uL_L, m_uR_K, m_uR_N, m_uR_I, m_uR_L, m_uR_R, true_and, and_true, true_implies, false_implies, not_true_eq_false, not_false_eq_true, if_true, if_false, false_and, and_false]
        refine c_x_goTogether (d + 16) s (z + 25 + 7 * s) z (dV D s) k k' (dWt D s) (dDp D) (dDr D s) (dLd D s) (dBs D s) (dY D s) y y' M _ hL hI (by omega) (isSh_z hz (by omega)) (h.2.2.2.1 s s1).1 hy hy' (fun M1 g1 => ?_)
        have h0 := hQ M1 (zF_r g1) (XR_r hD h g1)
        have eb := fun Q => c_x_bit (d + 19) (tI (gowY (dWt D s) (dV D s) y y')) M1 Q (tI_01 _)
        simp +decide only [qX10_can, eb, am_w1_i, am_w1_r, am_w1_x, am_w1_l, am_w1_w, va_rf_s, am_push_n, am_push_s, am_cs_0, am_cs_i, am_cs_l, am_cs_r, m_uI_K, m_uI_N, m_uI_R, m_uI_L, m_uI_I, m_uL_K, m_uL_N, m_uL_R, m_uL_I, m_uL_L, m_uR_K, m_uR_N, m_uR_I, m_uR_L, m_uR_R, true_and, and_true, true_implies, false_implies, not_true_eq_false, not_false_eq_true, if_true, if_false, false_and, and_false]
        exact h0
      · have h0 := hQ M (XR_2 h) h
        rw [if_neg (fun q => hj q.2.2)] at h0
        first | rw [br_n (hj)] | rw [br_q (hj)] | rw [br_u (hj)]
        exact h0
    · have h0 := hQ M (XR_2 h) h
      rw [if_neg (fun q => hi q.2.1)] at h0
      first | rw [br_n (hi)] | rw [br_q (hi)] | rw [br_u (hi)]
      exact h0
theorem m_can (v i j : Int32) : MqO 255 [.int v, .int i, .int j] (aCan v i j) := by
  intro d M b D Q hD hL h hQ
  have n8 := dN_8 hD
  have eS := fun v Q => m_isShip hD hL h (d + 18) v Q
  unfold aCan at hQ
  rw [eX11_can]
  simp +decide only [qX11_can, lm hL, eS, bI_0, Classical.not_not, am_w1_i, am_w1_r, am_w1_x, am_w1_l, am_w1_w, va_rf_s, am_push_n, am_push_s, am_cs_0, am_cs_i, am_cs_l, am_cs_r, m_uI_K, m_uI_N, m_uI_R, m_uI_L, m_uI_I, m_uL_K, m_uL_N, m_uL_R, m_uL_I, m_uL_L, m_uR_K, m_uR_N, m_uR_I, m_uR_L, m_uR_R, true_and, and_true, true_implies, false_implies, not_true_eq_false, not_false_eq_true, if_true, if_false, false_and, and_false]
  by_cases hv : 0 ≤ v.toInt ∧ v.toInt < dN D
  · first | rw [br_p (hv)] | rw [br_r (hv)] | rw [br_s (hv)]
    by_cases e : i = j
    · have h0 := hQ M (gF_refl _ _ _)
      rw [if_neg (fun q => q.1 e)] at h0
      first | rw [br_p (e)] | rw [br_r (e)] | rw [br_s (e)]
      exact h0
    · first | rw [br_n (e)] | rw [br_q (e)] | rw [br_u (e)]
      obtain ⟨s, s1, s2, s3⟩ := sh_of (by omega) hv
      have eh := fun i Q => m_hourOf hD hL h (s := s) (by omega) (d + 18) i Q
      rw [s2]
      simp +decide only [qX11_can, lm hL, eh, Classical.not_not, am_w1_i, am_w1_r, am_w1_x, am_w1_l, am_w1_w, va_rf_s, am_push_n, am_push_s, am_cs_0, am_cs_i, am_cs_l, am_cs_r, m_uI_K, m_uI_N, m_uI_R, m_uI_L, m_uI_I, m_uL_K, m_uL_N, m_uL_R, m_uL_I, m_uL_L, m_uR_K, m_uR_N, m_uR_I, m_uR_L, m_uR_R, true_and, and_true, true_implies, false_implies, not_true_eq_false, not_false_eq_true, if_true, if_false, false_and, and_false]
      by_cases hi : 0 ≤ i.toInt ∧ i.toInt < (dY D s).length
      · obtain ⟨k, y, k48, k1, k2, hy, y48, yv, y256, ym⟩ := sy_of hD hi
        have hne : ¬ hrI (dY D s) i = -1 := by rw [hrI_t k1 (by omega) hy]; exact nI_m1 (by omega)
        first | rw [br_n (hne)] | rw [br_q (hne)] | rw [br_u (hne)]
        by_cases hj : 0 ≤ j.toInt ∧ j.toInt < (dY D s).length
        · obtain ⟨k', y', k48', k1', k2', hy', y48', yv', y256', ym'⟩ := sy_of hD hj
          have hne' : ¬ hrI (dY D s) j = -1 := by rw [hrI_t k1' (by omega) hy']; exact nI_m1 (by omega)
          first | rw [br_n (hne')] | rw [br_q (hne')] | rw [br_u (hne')]
          rw [if_pos ⟨e, ⟨hv, by rw [s3]; exact hi⟩, ⟨hv, by rw [s3]; exact hj⟩⟩, s3, k2, k2', tI_i (gow_ex hy hy')] at hQ
          refine m_pairs hD hL h s1 (d + 14) _ (fun M1 g1 q1 => ?_)
          have h0 := hQ M1 g1
          have L1 := gF_LayN g1 hL
          have hkl : k < (dY D s).length := (List.getElem?_eq_some_iff.mp hy).1
          have hg := q1.2.2 k k' y y' hkl hy hy'
          have e48 : (48 : Int32) * nI k + nI k' = nI (48 * k + k') := by rw [show (48 : Int32) = nI 48 from rfl, ni_mul, ni_add]
          rw [k1, k1']
          simp +decide (disch := omega) only [qX11_can, lm L1, e48, hg, tI_01, ni_in_t, ni_tn, am_w1_i, am_w1_r, am_w1_x, am_w1_l, am_w1_w, va_rf_s, am_push_n, am_push_s, am_cs_0, am_cs_i, am_cs_l, am_cs_r, m_uI_K, m_uI_N, m_uI_R, m_uI_L, m_uI_I, m_uL_K, m_uL_N, m_uL_R, m_uL_I, m_uL_L, m_uR_K, m_uR_N, m_uR_I, m_uR_L, m_uR_R, true_and, and_true, true_implies, false_implies, not_true_eq_false, not_false_eq_true, if_true, if_false, false_and, and_false]
          by_cases c : gowY (dWt D s) (dV D s) y y'
          · rw [tI_t c] at h0 ⊢; simp +decide only [qX11_can, am_w1_i, am_w1_r, am_w1_x, am_w1_l, am_w1_w, va_rf_s, am_push_n, am_push_s, am_cs_0, am_cs_i, am_cs_l, am_cs_r, m_uI_K, m_uI_N, m_uI_R, m_uI_L, m_uI_I, m_uL_K, m_uL_N, m_uL_R, m_uL_I, m_uL_L, m_uR_K, m_uR_N, m_uR_I, m_uR_L, m_uR_R, true_and, and_true, true_implies, false_implies, not_true_eq_false, not_false_eq_true, if_true, if_false, false_and, and_false]; exact h0
          · rw [tI_f c] at h0 ⊢; simp +decide only [qX11_can, am_w1_i, am_w1_r, am_w1_x, am_w1_l, am_w1_w, va_rf_s, am_push_n, am_push_s, am_cs_0, am_cs_i, am_cs_l, am_cs_r, m_uI_K, m_uI_N, m_uI_R, m_uI_L, m_uI_I, m_uL_K, m_uL_N, m_uL_R, m_uL_I, m_uL_L, m_uR_K, m_uR_N, m_uR_I, m_uR_L, m_uR_R, true_and, and_true, true_implies, false_implies, not_true_eq_false, not_false_eq_true, if_true, if_false, false_and, and_false]; exact h0
        · have h0 := hQ M (gF_refl _ _ _)
          rw [if_neg (fun q => hj (by have := q.2.2.2; rw [s3] at this; exact this))] at h0
          have e1 := hrI_f hj
          first | rw [br_p (e1)] | rw [br_r (e1)] | rw [br_s (e1)]
          exact h0
      · have h0 := hQ M (gF_refl _ _ _)
        rw [if_neg (fun q => hi (by have := q.2.1.2; rw [s3] at this; exact this))] at h0
        have e1 := hrI_f hi
        first | rw [br_p (e1)] | rw [br_r (e1)] | rw [br_s (e1)]
        exact h0
  · have h0 := hQ M (gF_refl _ _ _)
    rw [if_neg (fun q => hv q.2.1.1)] at h0
    first | rw [br_n (hv)] | rw [br_q (hv)] | rw [br_u (hv)]
    exact h0
theorem op_can (v i j : Int32) : OpI 119 255 [.int v, .int i, .int j] isI := op_q (fun D => ⟨_, rfl⟩) (x_can v i j) (m_can v i j)
/-! may -/
noncomputable def aMay (v t x y : Int32) (D : Dat) : Value := .int (if (0 ≤ v.toInt ∧ v.toInt < dN D) ∧ isHr t ∧ isCl D x y then tI (dMy D v.toInt.toNat t.toInt.toNat (plI x y)) else -1)
theorem x_mayBe {M : am_M} {s t p : Nat} {D : Dat} (hL : Lay M) (hs : s < 8) (ht : t < 48) (hp : p < 256) (hS : SetX M s (dV D s) (dWt D s) (dSn D s) (dBs D s) (dY D s)) (d : Nat) (Q : Option Value → am_M → Prop) : am_E am_P0 d 88 [.ref (173 + 13 * s), .int (nI t), .int (nI p)] M Q ↔ Q (some (.int (tI (dMy D s t p)))) M := by
  rw [c_x_mayBe d s t p M Q hL hs ht hp, tI_i (hS.2.2.2.2 t ht p)]
  exact Iff.rfl
theorem x_may (v t x y : Int32) : XqO 121 [.int v, .int t, .int x, .int y] (aMay v t x y) := by
  intro d M z D Q hD h hQ
  have hz := h.1.2.2.1
  have hL := h.1.1
  have hr := h.1.2.2.2.1
  have n8 := dN_8 hD
  have eP := fun x y Q => x_place hD h (d + 19) x y Q
  have eS := fun v Q => x_isShip hD h (d + 19) v Q
  unfold aMay at hQ
  rw [eX10_may]
  simp +decide only [qX10_may, lx hL, lz hL hz, hr, eP, eS, c_x_isHour, bI_0, Classical.not_not, am_w1_i, am_w1_r, am_w1_x, am_w1_l, am_w1_w, va_rf_s, am_push_n, am_push_s, am_cs_0, am_cs_i, am_cs_l, am_cs_r, m_uI_K, m_uI_N, m_uI_R, m_uI_L, m_uI_I, m_uL_K, m_uL_N, m_uL_R, m_uL_I, m_uL_L, m_uR_K, m_uR_N, m_uR_I, m_uR_L, m_uR_R, true_and, and_true, true_implies, false_implies, not_true_eq_false, not_false_eq_true, if_true, if_false, false_and, and_false]
  by_cases hv : 0 ≤ v.toInt ∧ v.toInt < dN D
  · first | rw [br_p (hv)] | rw [br_r (hv)] | rw [br_s (hv)]
    by_cases ht : 0 ≤ t.toInt ∧ t.toInt < 48
    · first | rw [br_p (ht)] | rw [br_r (ht)] | rw [br_s (ht)]
      by_cases hc : isCl D x y
      · obtain ⟨c1, c2, c3, c4, c5, c6, c7⟩ := cl_of hD hc
        rw [if_pos hc]
        have hne : ¬ nI (plI x y) = -1 := nI_m1 (by omega)
        first | rw [br_n (hne)] | rw [br_q (hne)] | rw [br_u (hne)]
        rw [if_pos ⟨hv, ht, hc⟩] at hQ
        obtain ⟨s, s1, s2, s3⟩ := sh_of (by omega) hv
        rw [s3] at hQ
        have et : t = nI t.toInt.toNat := i32_of (by omega) (by omega)
        rw [s2, et]
        refine x_settled hD h (d + 14) s1 _ (fun M1 g1 X1 _ S1 => ?_)
        have h0 := hQ M1 g1 X1
        have ht1 := lt_ X1.1.1 (isTr_of (show s < 8 by omega))
        have em := fun Q => x_mayBe (t := t.toInt.toNat) (p := plI x y) X1.1.1 (by omega) (by omega) c2 S1 (d + 19) Q
        have eb := fun Q => c_x_bit (d + 19) (tI (dMy D s t.toInt.toNat (plI x y))) M1 Q (tI_01 _)
        simp +decide only [qX10_may, ht1, em, eb, am_w1_i, am_w1_r, am_w1_x, am_w1_l, am_w1_w, va_rf_s, am_push_n, am_push_s, am_cs_0, am_cs_i, am_cs_l, am_cs_r, m_uI_K, m_uI_N, m_uI_R, m_uI_L, m_uI_I, m_uL_K, m_uL_N, m_uL_R, m_uL_I, m_uL_L, m_uR_K, m_uR_N, m_uR_I, m_uR_L, m_uR_R, true_and, and_true, true_implies, false_implies, not_true_eq_false, not_false_eq_true, if_true, if_false, false_and, and_false]
        exact h0
      · have h0 := hQ M (XR_2 h) h
        rw [if_neg (fun q => hc q.2.2)] at h0
        rw [if_neg hc]
        simp +decide only [am_w1_i, am_w1_r, am_w1_x, am_w1_l, am_w1_w, va_rf_s, am_push_n, am_push_s, am_cs_0, am_cs_i, am_cs_l, am_cs_r, m_uI_K, m_uI_N, m_uI_R, m_uI_L, m_uI_I, m_uL_K, m_uL_N, m_uL_R, m_uL_I, m_uL_L, m_uR_K, m_uR_N, m_uR_I, m_uR_L, m_uR_R, true_and, and_true, true_implies, false_implies, not_true_eq_false, not_false_eq_true, if_true, if_false, false_and, and_false]
        exact h0
    · have h0 := hQ M (XR_2 h) h
      rw [if_neg (fun q => ht q.2.1)] at h0
      first | rw [br_n (ht)] | rw [br_q (ht)] | rw [br_u (ht)]
      exact h0
  · have h0 := hQ M (XR_2 h) h
    rw [if_neg (fun q => hv q.1)] at h0
    first | rw [br_n (hv)] | rw [br_q (hv)] | rw [br_u (hv)]
    exact h0
theorem LyM_g {M M' : am_M} {C R : Nat} {w : Nat → Prop} {v : Nat} {snd : Nat → Bool → Prop} {B : List Fct} {Y : List Sy} {S T' : Nat → Nat → Prop} (h : LyM M C R w v snd B Y) (hg : gF S T' M M') (hS : ∀ a j, sY a j → ¬ S a j) : LyM M' C R w v snd B Y := by
  have k : ∀ a j, sY a j → mI M' a j = mI M a j := fun a j q => hg.1 a j (hS a j q)
  refine ⟨KpM_S h.1 (fun a j q => k a j (by unfold sY sK sP sFG sF sG; omega)), ⟨?_, h.2.1.2.1, fun i f hf => ?_⟩, fun i f q hi hf hq t ht => ?_⟩
  · rw [k _ _ (by unfold sY sK sP sFG sF sG; omega)]; exact h.2.1.1
  · obtain ⟨f1, f2, f3, f4⟩ := h.2.1.2.2 i f hf
    exact ⟨f1, by rw [k _ _ (by unfold sY sK sP sFG sF sG; omega)]; exact f2, by rw [k _ _ (by unfold sY sK sP sFG sF sG; omega)]; exact f3, by rw [k _ _ (by unfold sY sK sP sFG sF sG; omega)]; exact f4⟩
  · rw [k _ _ (by unfold sY; omega)]; exact h.2.2 i f q hi hf hq t ht
theorem MdM_q {M M' : am_M} {b : Nat} {D : Dat} (h : MdM M b D) (hg : gF sMq nT M M') : MdM M' b D := MdM_g h hg (fun a j q w => by unfold tlM at q; unfold sMq at w; omega)
theorem m_may (v t x y : Int32) : MqO 257 [.int v, .int t, .int x, .int y] (aMay v t x y) := by
  intro d M b D Q hD hL h hQ
  have n8 := dN_8 hD
  have eC := fun x y Q => m_isCell hD hL h (d + 18) x y Q
  have eH := fun x Q => c_m_isHour (d + 18) x M Q
  have eS := fun v Q => m_isShip hD hL h (d + 18) v Q
  unfold aMay at hQ
  rw [eX11_may]
  simp +decide only [qX11_may, lm hL, eC, eH, eS, bI_0, Classical.not_not, am_w1_i, am_w1_r, am_w1_x, am_w1_l, am_w1_w, va_rf_s, am_push_n, am_push_s, am_cs_0, am_cs_i, am_cs_l, am_cs_r, m_uI_K, m_uI_N, m_uI_R, m_uI_L, m_uI_I, m_uL_K, m_uL_N, m_uL_R, m_uL_I, m_uL_L, m_uR_K, m_uR_N, m_uR_I, m_uR_L, m_uR_R, true_and, and_true, true_implies, false_implies, not_true_eq_false, not_false_eq_true, if_true, if_false, false_and, and_false]
  by_cases hv : 0 ≤ v.toInt ∧ v.toInt < dN D
  · first | rw [br_p (hv)] | rw [br_r (hv)] | rw [br_s (hv)]
    by_cases ht : 0 ≤ t.toInt ∧ t.toInt < 48
    · first | rw [br_p (ht)] | rw [br_r (ht)] | rw [br_s (ht)]
      by_cases hc : isCl D x y
      · obtain ⟨c1, c2, c3, c4, c5, c6, c7⟩ := cl_of hD hc
        have hc0 := hc
        unfold isCl at hc0
        first | rw [br_p (hc0)] | rw [br_r (hc0)] | rw [br_s (hc0)]
        rw [if_pos ⟨hv, ht, hc⟩] at hQ
        obtain ⟨s, s1, s2, s3⟩ := sh_of (by omega) hv
        rw [s3] at hQ
        have et : t = nI t.toInt.toNat := i32_of (by omega) (by omega)
        rw [s2, et]
        refine m_laysS hD hL h s1 (d + 12) _ (fun M1 g1 y1 => ?_)
        have h0 := hQ M1 g1
        have L1 := gF_LayN g1 hL
        have h1 := MdM_q h g1
        have eA := fun Q => m_atI hD L1 h1 hc (d + 19) Q
        have em := fun Q => m_mayBe hD L1 h1 s1 (d + 18) Q y1 c1 (t := t.toInt.toNat) (by omega)
        simp +decide only [qX11_may, lm L1, eA, em, am_w1_i, am_w1_r, am_w1_x, am_w1_l, am_w1_w, va_rf_s, am_push_n, am_push_s, am_cs_0, am_cs_i, am_cs_l, am_cs_r, m_uI_K, m_uI_N, m_uI_R, m_uI_L, m_uI_I, m_uL_K, m_uL_N, m_uL_R, m_uL_I, m_uL_L, m_uR_K, m_uR_N, m_uR_I, m_uR_L, m_uR_R, true_and, and_true, true_implies, false_implies, not_true_eq_false, not_false_eq_true, if_true, if_false, false_and, and_false]
        by_cases c : dMy D s t.toInt.toNat (plI x y)
        · rw [tI_t c] at h0 ⊢; simp +decide only [qX11_may, am_w1_i, am_w1_r, am_w1_x, am_w1_l, am_w1_w, va_rf_s, am_push_n, am_push_s, am_cs_0, am_cs_i, am_cs_l, am_cs_r, m_uI_K, m_uI_N, m_uI_R, m_uI_L, m_uI_I, m_uL_K, m_uL_N, m_uL_R, m_uL_I, m_uL_L, m_uR_K, m_uR_N, m_uR_I, m_uR_L, m_uR_R, true_and, and_true, true_implies, false_implies, not_true_eq_false, not_false_eq_true, if_true, if_false, false_and, and_false]; exact h0
        · rw [tI_f c] at h0 ⊢; simp +decide only [qX11_may, am_w1_i, am_w1_r, am_w1_x, am_w1_l, am_w1_w, va_rf_s, am_push_n, am_push_s, am_cs_0, am_cs_i, am_cs_l, am_cs_r, m_uI_K, m_uI_N, m_uI_R, m_uI_L, m_uI_I, m_uL_K, m_uL_N, m_uL_R, m_uL_I, m_uL_L, m_uR_K, m_uR_N, m_uR_I, m_uR_L, m_uR_R, true_and, and_true, true_implies, false_implies, not_true_eq_false, not_false_eq_true, if_true, if_false, false_and, and_false]; exact h0
      · have h0 := hQ M (gF_refl _ _ _)
        rw [if_neg (fun q => hc q.2.2)] at h0
        unfold isCl at hc
        first | rw [br_n (hc)] | rw [br_q (hc)] | rw [br_u (hc)]
        exact h0
    · have h0 := hQ M (gF_refl _ _ _)
      rw [if_neg (fun q => ht q.2.1)] at h0
      first | rw [br_n (ht)] | rw [br_q (ht)] | rw [br_u (ht)]
      exact h0
  · have h0 := hQ M (gF_refl _ _ _)
    rw [if_neg (fun q => hv q.1)] at h0
    first | rw [br_n (hv)] | rw [br_q (hv)] | rw [br_u (hv)]
    exact h0
theorem op_may (v t x y : Int32) : OpI 121 257 [.int v, .int t, .int x, .int y] isI := op_q (fun D => ⟨_, rfl⟩) (x_may v t x y) (m_may v t x y)
/-! reach -/
noncomputable def theI (R : Int32 → Prop) : Int32 := @dite _ (∃ x, R x) (Classical.propDecidable _) (fun h => Classical.choose h) (fun _ => 0)
theorem the_e {R : Int32 → Prop} {x : Int32} (hu : ∀ x y, R x → R y → x = y) (h : R x) : theI R = x := by
  unfold theI
  rw [dif_pos ⟨x, h⟩]
  exact hu _ _ (Classical.choose_spec (⟨x, h⟩ : ∃ x, R x)) h
def rcQ (D : Dat) (s t k : Nat) (x : Int32) : Prop := (∃ p, p < 256 ∧ dMy D s t p ∧ cnt (fun p => dB (dMy D s t p)) p = k ∧ x = nI (cel (dC D) p)) ∨ ((∀ p, p < 256 → dMy D s t p → ¬ cnt (fun p => dB (dMy D s t p)) p = k) ∧ x = -1)
theorem cnt_in {g : Nat → Bool} {a b : Nat} (h : a < b) (hg : g a = true) : cnt g a < cnt g b := by
  have h1 := cnt_mono g (show a + 1 ≤ b from h)
  rw [cnt_t hg] at h1
  omega
theorem rcQ_1 {D : Dat} {s t k : Nat} : ∀ x y, rcQ D s t k x → rcQ D s t k y → x = y := by
  rintro x y (⟨p, p1, p2, p3, rfl⟩ | ⟨h1, rfl⟩) (⟨q, q1, q2, q3, rfl⟩ | ⟨h2, rfl⟩)
  · have : p = q := by
      rcases Nat.lt_trichotomy p q with c | c | c
      · have := cnt_in (g := fun p => dB (dMy D s t p)) c (dB_t.mpr p2); omega
      · exact c
      · have := cnt_in (g := fun p => dB (dMy D s t p)) c (dB_t.mpr q2); omega
    rw [this]
  · exact absurd p3 (h2 p p1 p2)
  · exact absurd q3 (h1 q q1 q2)
  · rfl
noncomputable def aRch (v t k : Int32) (D : Dat) : Value := .int (if (0 ≤ v.toInt ∧ v.toInt < dN D) ∧ isHr t ∧ -1 ≤ k.toInt then (if k = -1 then nI (dMc D v.toInt.toNat t.toInt.toNat) else theI (rcQ D v.toInt.toNat t.toInt.toNat k.toInt.toNat)) else -1)
theorem l_x_reach (d z s t k : Nat) (D : Dat) (M : am_M) (Q : Option Value → am_M → Prop) (hD : dOK D) (h : XR M z D) (hs : s < dN D) (ht : t < 48) (hS : SetX M s (dV D s) (dWt D s) (dSn D s) (dBs D s) (dY D s)) (hk : k < 2147483648) (x1 x3 : Int32)
    (hQ : ∀ x, rcQ D s t k x → Q (some (.int x)) M) :
    ∀ (m p : Nat), p + m = 256 → ∀ l, cnt (fun p => dB (dMy D s t p)) p + l = k → am_P am_P0 (d + 1) (am_look tX10_reach) 47 [.ref 0, .int x1, .int (nI t), .int x3, .ref (173 + 13 * s), .int (nI l), .int (nI p)] [] M Q := by
  have hz := h.1.2.2.1
  have hL := h.1.1
  have hr := h.1.2.2.2.1
  have n8 := dN_8 hD
  have hst := lt_ hL (isTr_of (show s < 8 by omega))
  intro m
  induction m with
  | zero =>
    intro p hp l hl
    have ep : p = 256 := by omega
    subst ep
    have h0 := hQ (-1) (Or.inr ⟨fun p hp hm => by have := cnt_in (g := fun p => dB (dMy D s t p)) hp (dB_t.mpr hm); omega, rfl⟩)
    rw [hX10_reach_47]
    simp +decide only [qX10_reach_0, qX10_reach_1, show nI 256 = (256 : Int32) from rfl, am_w1_i, am_w1_r, am_w1_x, am_w1_l, am_w1_w, va_rf_s, am_push_n, am_push_s, am_cs_0, am_cs_i, am_cs_l, am_cs_r, m_uI_K, m_uI_N, m_uI_R, m_uI_L, m_uI_I, m_uL_K, m_uL_N, m_uL_R, m_uL_I, m_uL_L, m_uR_K, m_uR_N, m_uR_I, m_uR_L, m_uR_R, true_and, and_true, true_implies, false_implies, not_true_eq_false, not_false_eq_true, if_true, if_false, false_and, and_false]
    exact h0
  | succ m ih =>
    intro p hp l hl
    have hlt : ¬ (256 : Int32) ≤ nI p := by rw [show (256 : Int32) = nI 256 from rfl, ni_le (by omega) (by omega)]; omega
    have em := fun Q => x_mayBe (D := D) (t := t) (p := p) hL (show s < 8 by omega) ht (by omega) hS d Q
    have en := fun Q => x_numberOf h d p Q (by omega)
    rw [hX10_reach_47]
    simp +decide only [qX10_reach_0, qX10_reach_1, hst, em, tI_0, am_w1_i, am_w1_r, am_w1_x, am_w1_l, am_w1_w, va_rf_s, am_push_n, am_push_s, am_cs_0, am_cs_i, am_cs_l, am_cs_r, m_uI_K, m_uI_N, m_uI_R, m_uI_L, m_uI_I, m_uL_K, m_uL_N, m_uL_R, m_uL_I, m_uL_L, m_uR_K, m_uR_N, m_uR_I, m_uR_L, m_uR_R, true_and, and_true, true_implies, false_implies, not_true_eq_false, not_false_eq_true, if_true, if_false, false_and, and_false]
    first | rw [br_n (hlt)] | rw [br_q (hlt)] | rw [br_u (hlt)]
    by_cases c : dMy D s t p
    · first | rw [br_p (c)] | rw [br_r (c)] | rw [br_s (c)]
      by_cases l0 : l = 0
      · subst l0
        have h0 := hQ _ (Or.inl ⟨p, by omega, c, by omega, rfl⟩)
        simp +decide only [show nI 0 = (0 : Int32) from rfl, qX10_reach_0, qX10_reach_1, lx hL, lz hL hz, hr, en, am_w1_i, am_w1_r, am_w1_x, am_w1_l, am_w1_w, va_rf_s, am_push_n, am_push_s, am_cs_0, am_cs_i, am_cs_l, am_cs_r, m_uI_K, m_uI_N, m_uI_R, m_uI_L, m_uI_I, m_uL_K, m_uL_N, m_uL_R, m_uL_I, m_uL_L, m_uR_K, m_uR_N, m_uR_I, m_uR_L, m_uR_R, true_and, and_true, true_implies, false_implies, not_true_eq_false, not_false_eq_true, if_true, if_false, false_and, and_false]
        exact h0
      · obtain ⟨l', rfl⟩ : ∃ l', l = l' + 1 := ⟨l - 1, by omega⟩
        have hne : ¬ nI (l' + 1) = 0 := by rw [show (0 : Int32) = nI 0 from rfl, ni_eq (by omega) (by omega)]; omega
        have h0 := ih (p + 1) (by omega) l' (by rw [cnt_t (dB_t.mpr c)]; omega)
        first | rw [br_p (hne)] | rw [br_r (hne)] | rw [br_s (hne)]
        simp +decide only [qX10_reach_0, qX10_reach_1, ni_dec, ni_add1, am_w1_i, am_w1_r, am_w1_x, am_w1_l, am_w1_w, va_rf_s, am_push_n, am_push_s, am_cs_0, am_cs_i, am_cs_l, am_cs_r, m_uI_K, m_uI_N, m_uI_R, m_uI_L, m_uI_I, m_uL_K, m_uL_N, m_uL_R, m_uL_I, m_uL_L, m_uR_K, m_uR_N, m_uR_I, m_uR_L, m_uR_R, true_and, and_true, true_implies, false_implies, not_true_eq_false, not_false_eq_true, if_true, if_false, false_and, and_false]
        exact h0
    · have h0 := ih (p + 1) (by omega) l (by rw [cnt_f (fun w => c (dB_t.mp w))]; exact hl)
      first | rw [br_n (c)] | rw [br_q (c)] | rw [br_u (c)]
      simp +decide only [qX10_reach_0, qX10_reach_1, ni_add1, am_w1_i, am_w1_r, am_w1_x, am_w1_l, am_w1_w, va_rf_s, am_push_n, am_push_s, am_cs_0, am_cs_i, am_cs_l, am_cs_r, m_uI_K, m_uI_N, m_uI_R, m_uI_L, m_uI_I, m_uL_K, m_uL_N, m_uL_R, m_uL_I, m_uL_L, m_uR_K, m_uR_N, m_uR_I, m_uR_L, m_uR_R, true_and, and_true, true_implies, false_implies, not_true_eq_false, not_false_eq_true, if_true, if_false, false_and, and_false]
      exact h0
theorem x_reach (v t k : Int32) : XqO 120 [.int v, .int t, .int k] (aRch v t k) := by
  intro d M z D Q hD h hQ
  have hz := h.1.2.2.1
  have hL := h.1.1
  have hr := h.1.2.2.2.1
  have n8 := dN_8 hD
  have eS := fun v Q => x_isShip hD h (d + 19) v Q
  have em1 : (-1 : Int32).toInt = -1 := rfl
  unfold aRch at hQ
  rw [eX10_reach]
  simp +decide only [qX10_reach_0, qX10_reach_1, lx hL, eS, c_x_isHour, bI_0, Classical.not_not, am_w1_i, am_w1_r, am_w1_x, am_w1_l, am_w1_w, va_rf_s, am_push_n, am_push_s, am_cs_0, am_cs_i, am_cs_l, am_cs_r, m_uI_K, m_uI_N, m_uI_R, m_uI_L, m_uI_I, m_uL_K, m_uL_N, m_uL_R, m_uL_I, m_uL_L, m_uR_K, m_uR_N, m_uR_I, m_uR_L, m_uR_R, true_and, and_true, true_implies, false_implies, not_true_eq_false, not_false_eq_true, if_true, if_false, false_and, and_false]
  by_cases hv : 0 ≤ v.toInt ∧ v.toInt < dN D
  · first | rw [br_p (hv)] | rw [br_r (hv)] | rw [br_s (hv)]
    by_cases ht : 0 ≤ t.toInt ∧ t.toInt < 48
    · first | rw [br_p (ht)] | rw [br_r (ht)] | rw [br_s (ht)]
      by_cases hk : (-1 : Int32) ≤ k
      · first | rw [br_p (hk)] | rw [br_r (hk)] | rw [br_s (hk)]
        have hk' : -1 ≤ k.toInt := by rw [le32, em1] at hk; exact hk
        rw [if_pos ⟨hv, ht, hk'⟩] at hQ
        obtain ⟨s, s1, s2, s3⟩ := sh_of (by omega) hv
        rw [s3] at hQ
        have et : t = nI t.toInt.toNat := i32_of (by omega) (by omega)
        rw [s2, et]
        refine x_settled hD h (d + 14) s1 _ (fun M1 g1 X1 _ S1 => ?_)
        have h0 := hQ M1 g1 X1
        have ht1 := lt_ X1.1.1 (isTr_of (show s < 8 by omega))
        simp +decide only [qX10_reach_0, qX10_reach_1, Classical.not_not, am_w1_i, am_w1_r, am_w1_x, am_w1_l, am_w1_w, va_rf_s, am_push_n, am_push_s, am_cs_0, am_cs_i, am_cs_l, am_cs_r, m_uI_K, m_uI_N, m_uI_R, m_uI_L, m_uI_I, m_uL_K, m_uL_N, m_uL_R, m_uL_I, m_uL_L, m_uR_K, m_uR_N, m_uR_I, m_uR_L, m_uR_R, true_and, and_true, true_implies, false_implies, not_true_eq_false, not_false_eq_true, if_true, if_false, false_and, and_false]
        by_cases k0 : k = -1
        · rw [if_pos k0] at h0
          first | rw [br_p (k0)] | rw [br_r (k0)] | rw [br_s (k0)]
          have ec := fun Q => c_x_countMay (d + 17) s t.toInt.toNat M1 Q X1.1.1 (by omega) (by omega)
          have e1 : cnt (fun p => dB (inS (my4 M1 s t.toInt.toNat) p)) 256 = dMc D s t.toInt.toNat := by
            unfold dMc
            congr 1
            funext p
            exact congrArg dB (propext (S1.2.2.2.2 t.toInt.toNat (by omega) p))
          simp +decide only [qX10_reach_0, qX10_reach_1, ht1, ec, e1, am_w1_i, am_w1_r, am_w1_x, am_w1_l, am_w1_w, va_rf_s, am_push_n, am_push_s, am_cs_0, am_cs_i, am_cs_l, am_cs_r, m_uI_K, m_uI_N, m_uI_R, m_uI_L, m_uI_I, m_uL_K, m_uL_N, m_uL_R, m_uL_I, m_uL_L, m_uR_K, m_uR_N, m_uR_I, m_uR_L, m_uR_R, true_and, and_true, true_implies, false_implies, not_true_eq_false, not_false_eq_true, if_true, if_false, false_and, and_false]
          exact h0
        · rw [if_neg k0] at h0
          first | rw [br_n (k0)] | rw [br_q (k0)] | rw [br_u (k0)]
          have k1 : ¬ k.toInt = -1 := fun q => k0 (Int32.toInt_inj.mp q)
          have ek : k = nI k.toInt.toNat := i32_of (by omega) (by have := Int32.toInt_lt k; omega)
          have h9 := l_x_reach (d + 19) z s t.toInt.toNat k.toInt.toNat D M1 Q hD X1 s1 (by omega) S1 (by have := Int32.toInt_lt k; omega) (nI s) k (fun x hx => by rw [the_e rcQ_1 hx] at h0; exact h0) 256 0 (by omega) k.toInt.toNat (by simp [cnt])
          rw [← ek] at h9
          exact h9
      · first | rw [br_n (hk)] | rw [br_q (hk)] | rw [br_u (hk)]
        have h0 := hQ M (XR_2 h) h
        rw [if_neg (fun q => hk (by rw [le32, em1]; exact q.2.2))] at h0
        exact h0
    · have h0 := hQ M (XR_2 h) h
      rw [if_neg (fun q => ht q.2.1)] at h0
      first | rw [br_n (ht)] | rw [br_q (ht)] | rw [br_u (ht)]
      exact h0
  · have h0 := hQ M (XR_2 h) h
    rw [if_neg (fun q => hv q.1)] at h0
    first | rw [br_n (hv)] | rw [br_q (hv)] | rw [br_u (hv)]
    exact h0
theorem dMy_v {D : Dat} {s t p : Nat} (hD : dOK D) (hs : s < dN D) (h : dMy D s t p) : vld (dC D) (dR D) p := ((dWt_v hD hs p).mp h.2.1).1
theorem l_m_reach (d b s t k : Nat) (D : Dat) (M : am_M) (Q : Option Value → am_M → Prop) (hD : dOK D) (hL : Lay M) (h : MdM M b D) (hs : s < dN D) (ht : t < 48) (hY : LyM M (dC D) (dR D) (dWt D s) (dV D s) (dSn D s) (dBs D s) (dY D s)) (hk : k < 2147483648) (x3 : Int32)
    (hQ : ∀ x, rcQ D s t k x → Q (some (.int x)) M) :
    ∀ (m c : Nat), c + m = dC D * dR D → ∀ l, cnt (fun c => dB (dMy D s t (plc (dC D) c))) c + l = k → am_P am_P0 (d + 2) (am_look tX11_reach) 40 [.ref 277, .int (nI s), .int (nI t), .int x3, .int (nI l), .int (nI c)] [] M Q := by
  have n8 := dN_8 hD
  have hCR : dC D * dR D ≤ 16 * 16 := Nat.mul_le_mul hD.1.1.1 hD.1.1.2
  have ec := fun Q => c_m_cells (d + 1) M Q hL b (dC D) (dR D) h.1.1 h.1.2 h.2.1.1 h.2.1.2
  have kat : ∀ p, vld (dC D) (dR D) p → cnt (fun p => dB (dMy D s t p)) p = cnt (fun c => dB (dMy D s t (plc (dC D) c))) (cel (dC D) p) := fun p hp => cnt_at (P := fun p => dMy D s t p) hD.1.1.1 (fun p q => dMy_v hD hs q) hp
  intro m
  induction m with
  | zero =>
    intro c hc l hl
    have h0 := hQ (-1) (Or.inr ⟨fun p hp hm => by
      have hv := dMy_v hD hs hm
      have hcl := (cel_lt hD.1.1.1 hD.1.1.2 hv).1
      have e := plc_v hD.1.1.1 (dOK_1 hD hs).1 hcl
      have e2 : plc (dC D) (cel (dC D) p) = p := cel_inj e.1 hv e.2
      have := cnt_in (g := fun c => dB (dMy D s t (plc (dC D) c))) (a := cel (dC D) p) (b := c) (by omega) (by rw [e2]; exact dB_t.mpr hm)
      rw [kat p hv]
      omega, rfl⟩)
    have hle : nI (dC D * dR D) ≤ nI c := (ni_le (by omega) (by omega)).mpr (by omega)
    rw [hX11_reach_40]
    simp +decide only [qX11_reach_0, qX11_reach_1, lm hL, ec, am_w1_i, am_w1_r, am_w1_x, am_w1_l, am_w1_w, va_rf_s, am_push_n, am_push_s, am_cs_0, am_cs_i, am_cs_l, am_cs_r, m_uI_K, m_uI_N, m_uI_R, m_uI_L, m_uI_I, m_uL_K, m_uL_N, m_uL_R, m_uL_I, m_uL_L, m_uR_K, m_uR_N, m_uR_I, m_uR_L, m_uR_R, true_and, and_true, true_implies, false_implies, not_true_eq_false, not_false_eq_true, if_true, if_false, false_and, and_false]
    first | rw [br_p (hle)] | rw [br_r (hle)] | rw [br_s (hle)]
    exact h0
  | succ m ih =>
    intro c hc l hl
    have hlt : ¬ nI (dC D * dR D) ≤ nI c := by rw [ni_le (by omega) (by omega)]; omega
    have hcl : c < dC D * dR D := by omega
    have hp := plc_v hD.1.1.1 (dOK_1 hD hs).1 hcl
    have em := fun Q => m_mayBe hD hL h hs d Q hY hp.1 ht
    rw [hp.2] at em
    have hl0 : ¬ nI l < 0 := by rw [lt32, z32, ni_ti (by omega)]; omega
    rw [hX11_reach_40]
    simp +decide only [qX11_reach_0, qX11_reach_1, lm hL, ec, em, tI_0, Classical.not_not, am_w1_i, am_w1_r, am_w1_x, am_w1_l, am_w1_w, va_rf_s, am_push_n, am_push_s, am_cs_0, am_cs_i, am_cs_l, am_cs_r, m_uI_K, m_uI_N, m_uI_R, m_uI_L, m_uI_I, m_uL_K, m_uL_N, m_uL_R, m_uL_I, m_uL_L, m_uR_K, m_uR_N, m_uR_I, m_uR_L, m_uR_R, true_and, and_true, true_implies, false_implies, not_true_eq_false, not_false_eq_true, if_true, if_false, false_and, and_false]
    first | rw [br_n (hlt)] | rw [br_q (hlt)] | rw [br_u (hlt)]
    first | rw [br_n (hl0)] | rw [br_q (hl0)] | rw [br_u (hl0)]
    by_cases cm : dMy D s t (plc (dC D) c)
    · first | rw [br_p (cm)] | rw [br_r (cm)] | rw [br_s (cm)]
      by_cases l0 : l = 0
      · subst l0
        have h0 := hQ _ (Or.inl ⟨plc (dC D) c, (cel_lt hD.1.1.1 hD.1.1.2 hp.1).2.2, cm, by rw [kat _ hp.1, hp.2]; omega, rfl⟩)
        rw [hp.2] at h0
        simp +decide only [show nI 0 = (0 : Int32) from rfl, qX11_reach_0, qX11_reach_1, am_w1_i, am_w1_r, am_w1_x, am_w1_l, am_w1_w, va_rf_s, am_push_n, am_push_s, am_cs_0, am_cs_i, am_cs_l, am_cs_r, m_uI_K, m_uI_N, m_uI_R, m_uI_L, m_uI_I, m_uL_K, m_uL_N, m_uL_R, m_uL_I, m_uL_L, m_uR_K, m_uR_N, m_uR_I, m_uR_L, m_uR_R, true_and, and_true, true_implies, false_implies, not_true_eq_false, not_false_eq_true, if_true, if_false, false_and, and_false]
        exact h0
      · obtain ⟨l', rfl⟩ : ∃ l', l = l' + 1 := ⟨l - 1, by omega⟩
        have hne : ¬ nI (l' + 1) = 0 := by rw [show (0 : Int32) = nI 0 from rfl, ni_eq (by omega) (by omega)]; omega
        have h0 := ih (c + 1) (by omega) l' (by rw [cnt_t (dB_t.mpr cm)]; omega)
        first | rw [br_n (hne)] | rw [br_q (hne)] | rw [br_u (hne)]
        simp +decide only [qX11_reach_0, qX11_reach_1, ni_dec, ni_add1, am_w1_i, am_w1_r, am_w1_x, am_w1_l, am_w1_w, va_rf_s, am_push_n, am_push_s, am_cs_0, am_cs_i, am_cs_l, am_cs_r, m_uI_K, m_uI_N, m_uI_R, m_uI_L, m_uI_I, m_uL_K, m_uL_N, m_uL_R, m_uL_I, m_uL_L, m_uR_K, m_uR_N, m_uR_I, m_uR_L, m_uR_R, true_and, and_true, true_implies, false_implies, not_true_eq_false, not_false_eq_true, if_true, if_false, false_and, and_false]
        exact h0
    · have h0 := ih (c + 1) (by omega) l (by rw [cnt_f (fun w => cm (dB_t.mp w))]; exact hl)
      first | rw [br_n (cm)] | rw [br_q (cm)] | rw [br_u (cm)]
      simp +decide only [qX11_reach_0, qX11_reach_1, ni_add1, am_w1_i, am_w1_r, am_w1_x, am_w1_l, am_w1_w, va_rf_s, am_push_n, am_push_s, am_cs_0, am_cs_i, am_cs_l, am_cs_r, m_uI_K, m_uI_N, m_uI_R, m_uI_L, m_uI_I, m_uL_K, m_uL_N, m_uL_R, m_uL_I, m_uL_L, m_uR_K, m_uR_N, m_uR_I, m_uR_L, m_uR_R, true_and, and_true, true_implies, false_implies, not_true_eq_false, not_false_eq_true, if_true, if_false, false_and, and_false]
      exact h0
theorem m_reach (v t k : Int32) : MqO 256 [.int v, .int t, .int k] (aRch v t k) := by
  intro d M b D Q hD hL h hQ
  have n8 := dN_8 hD
  have hCR : dC D * dR D ≤ 16 * 16 := Nat.mul_le_mul hD.1.1.1 hD.1.1.2
  have eH := fun x Q => c_m_isHour (d + 18) x M Q
  have eS := fun v Q => m_isShip hD hL h (d + 18) v Q
  unfold aRch at hQ
  rw [eX11_reach]
  simp +decide only [qX11_reach_0, qX11_reach_1, lm hL, eH, eS, bI_0, Classical.not_not, am_w1_i, am_w1_r, am_w1_x, am_w1_l, am_w1_w, va_rf_s, am_push_n, am_push_s, am_cs_0, am_cs_i, am_cs_l, am_cs_r, m_uI_K, m_uI_N, m_uI_R, m_uI_L, m_uI_I, m_uL_K, m_uL_N, m_uL_R, m_uL_I, m_uL_L, m_uR_K, m_uR_N, m_uR_I, m_uR_L, m_uR_R, true_and, and_true, true_implies, false_implies, not_true_eq_false, not_false_eq_true, if_true, if_false, false_and, and_false]
  by_cases hv : 0 ≤ v.toInt ∧ v.toInt < dN D
  · first | rw [br_p (hv)] | rw [br_r (hv)] | rw [br_s (hv)]
    by_cases ht : 0 ≤ t.toInt ∧ t.toInt < 48
    · first | rw [br_p (ht)] | rw [br_r (ht)] | rw [br_s (ht)]
      obtain ⟨s, s1, s2, s3⟩ := sh_of (by omega) hv
      rw [s3] at hQ
      have et : t = nI t.toInt.toNat := i32_of (by omega) (by omega)
      rw [s2, et]
      refine m_laysS hD hL h s1 (d + 12) _ (fun M1 g1 y1 => ?_)
      have h0 := hQ M1 g1
      have L1 := gF_LayN g1 hL
      have h1 := MdM_q h g1
      simp +decide only [qX11_reach_0, qX11_reach_1, Classical.not_not, am_w1_i, am_w1_r, am_w1_x, am_w1_l, am_w1_w, va_rf_s, am_push_n, am_push_s, am_cs_0, am_cs_i, am_cs_l, am_cs_r, m_uI_K, m_uI_N, m_uI_R, m_uI_L, m_uI_I, m_uL_K, m_uL_N, m_uL_R, m_uL_I, m_uL_L, m_uR_K, m_uR_N, m_uR_I, m_uR_L, m_uR_R, true_and, and_true, true_implies, false_implies, not_true_eq_false, not_false_eq_true, if_true, if_false, false_and, and_false]
      by_cases k0 : k = -1
      · rw [if_pos ⟨hv, ht, by rw [k0]; decide⟩, if_pos k0] at h0
        first | rw [br_p (k0)] | rw [br_r (k0)] | rw [br_s (k0)]
        have ec := fun Q => m_cellsOf hD L1 h1 s1 (d + 17) Q y1 (t := t.toInt.toNat) (by omega)
        simp +decide only [qX11_reach_0, qX11_reach_1, lm L1, ec, am_w1_i, am_w1_r, am_w1_x, am_w1_l, am_w1_w, va_rf_s, am_push_n, am_push_s, am_cs_0, am_cs_i, am_cs_l, am_cs_r, m_uI_K, m_uI_N, m_uI_R, m_uI_L, m_uI_I, m_uL_K, m_uL_N, m_uL_R, m_uL_I, m_uL_L, m_uR_K, m_uR_N, m_uR_I, m_uR_L, m_uR_R, true_and, and_true, true_implies, false_implies, not_true_eq_false, not_false_eq_true, if_true, if_false, false_and, and_false]
        exact h0
      · first | rw [br_n (k0)] | rw [br_q (k0)] | rw [br_u (k0)]
        have k1 : ¬ k.toInt = -1 := fun q => k0 (Int32.toInt_inj.mp q)
        by_cases kn : -1 ≤ k.toInt
        · rw [if_pos ⟨hv, ht, kn⟩, if_neg k0] at h0
          have ek : k = nI k.toInt.toNat := i32_of (by omega) (by have := Int32.toInt_lt k; omega)
          have h9 := l_m_reach (d + 18) b s t.toInt.toNat k.toInt.toNat D M1 Q hD L1 h1 s1 (by omega) y1 (by have := Int32.toInt_lt k; omega) k (fun x hx => by rw [the_e rcQ_1 hx] at h0; exact h0) (dC D * dR D) 0 (by omega) k.toInt.toNat (by simp [cnt])
          rw [← ek] at h9
          exact h9
        · rw [if_neg (fun q => kn q.2.2)] at h0
          have ec := fun Q => c_m_cells (d + 19) M1 Q L1 b (dC D) (dR D) h1.1.1 h1.1.2 h1.2.1.1 h1.2.1.2
          have kl : k < 0 := by rw [lt32, z32]; omega
          rw [hX11_reach_40]
          simp +decide only [qX11_reach_0, qX11_reach_1, lm L1, ec, am_w1_i, am_w1_r, am_w1_x, am_w1_l, am_w1_w, va_rf_s, am_push_n, am_push_s, am_cs_0, am_cs_i, am_cs_l, am_cs_r, m_uI_K, m_uI_N, m_uI_R, m_uI_L, m_uI_I, m_uL_K, m_uL_N, m_uL_R, m_uL_I, m_uL_L, m_uR_K, m_uR_N, m_uR_I, m_uR_L, m_uR_R, true_and, and_true, true_implies, false_implies, not_true_eq_false, not_false_eq_true, if_true, if_false, false_and, and_false]
          by_cases c : nI (dC D * dR D) ≤ 0
          · first | rw [br_p (c)] | rw [br_r (c)] | rw [br_s (c)]
            exact h0
          · first | rw [br_n (c)] | rw [br_q (c)] | rw [br_u (c)]
            first | rw [br_p (kl)] | rw [br_r (kl)] | rw [br_s (kl)]
            exact h0
    · have h0 := hQ M (gF_refl _ _ _)
      rw [if_neg (fun q => ht q.2.1)] at h0
      first | rw [br_n (ht)] | rw [br_q (ht)] | rw [br_u (ht)]
      exact h0
  · have h0 := hQ M (gF_refl _ _ _)
    rw [if_neg (fun q => hv q.1)] at h0
    first | rw [br_n (hv)] | rw [br_q (hv)] | rw [br_u (hv)]
    exact h0
theorem op_reach (v t k : Int32) : OpI 120 256 [.int v, .int t, .int k] isI := op_q (fun D => ⟨_, rfl⟩) (x_reach v t k) (m_reach v t k)
end
section
/-! who, swap -/
def sLn (a _j : Nat) : Prop := ∃ o, o < 8 ∧ a = 180 + 13 * o
theorem sLn_q {z a j : Nat} (h : sLn a j) : sXq z a j := by
  obtain ⟨o, h1, h2⟩ := h
  unfold sXq
  omega
theorem own_t {Y0 : List Sy} {snd : Nat → Bool → Prop} : (ownS true Y0 snd ↔ syS Y0 0 snd) ∧ ownF true Y0 = syF Y0 0 := by
  unfold ownS ownF
  simp
theorem own_f {Y0 : List Sy} {snd : Nat → Bool → Prop} : ownS false Y0 snd ∧ ownF false Y0 = [] := by
  unfold ownS ownF
  simp
/-- a track is asked whether a ship's sayings fit -/
theorem x_fits {M : am_M} {z o s : Nat} {D : Dat} (hD : dOK D) (h : XR M z D) (ho : o < dN D) (hs : s < dN D) (d : Nat) (b : Bool) (Q : Option Value → am_M → Prop) (hQ : ∀ M', zF sLn M M' → XR M' z D → Q (some (.int (tI (ownS b (dY D o) (dSn D o) ∧ syS (dY D s) 0 (dSn D o) ∧ fitP (dWt D o) (dV D o) (dBs D o ++ ownF b (dY D o) ++ syF (dY D s) 0))))) M') : am_E am_P0 (d + 4) 79 [.ref (173 + 13 * o), .ref (z + 25 + 7 * s), .int 0, .int (b01 b)] M Q := by
  have hz := h.1.2.2.1
  have n8 := dN_8 hD
  obtain ⟨t1, t2, t3, t4⟩ := (h.2.2.2.1 o ho).1
  refine c_x_fits d o (z + 25 + 7 * o) z (z + 25 + 7 * s) (dV D o) (dWt D o) (dDp D) (dDr D o) (dLd D o) (dBs D o) (dY D o) (dY D s) 0 b M Q h.1.1 h.1.2.1 (by omega) (isSh_z hz (by omega)) (isSh_z hz (by omega)) hz (by decide) (by decide) t2 t3 t4 (x_ship h hs).2.1 t1 (fun M1 f1 => ?_)
  exact hQ M1 (zF_up (zF_x f1) (fun a j q => ⟨o, by omega, q⟩)) (XR_x hD (by omega) h f1)
theorem l_x_sayersOf (d z s : Nat) (D : Dat) (M0 : am_M) (Q : Option Value → am_M → Prop) (hD : dOK D) (hs : s < dN D) (hQ : ∀ M', zF sLn M0 M' → XR M' z D → Q (some (.int (whI D s))) M') :
    ∀ (m o : Nat), o + m = dN D → ∀ (M : am_M), zF sLn M0 M → XR M z D → am_P am_P0 (d + 5) (am_look tX10_sayersOf) 15 [.ref 0, .int (nI s), .ref (z + 25 + 7 * s), .int (btI (whP D s) o), .int (nI o)] [] M Q := by
  have n8 := dN_8 hD
  intro m
  induction m with
  | zero =>
    intro o ho M hM h
    have hz := h.1.2.2.1
    have hL := h.1.1
    have hr := h.1.2.2.2.1
    have eo : o = dN D := by omega
    have hle : nI (dN D) ≤ nI o := (ni_le (by omega) (by omega)).mpr (by omega)
    have h0 := hQ M hM h
    rw [hX10_sayersOf_15]
    simp +decide only [qX10_sayersOf, lx hL, lz hL hz, hr, (x_n h).1, am_w1_i, am_w1_r, am_w1_x, am_w1_l, am_w1_w, va_rf_s, am_push_n, am_push_s, am_cs_0, am_cs_i, am_cs_l, am_cs_r, m_uI_K, m_uI_N, m_uI_R, m_uI_L, m_uI_I, m_uL_K, m_uL_N, m_uL_R, m_uL_I, m_uL_L, m_uR_K, m_uR_N, m_uR_I, m_uR_L, m_uR_R, true_and, and_true, true_implies, false_implies, not_true_eq_false, not_false_eq_true, if_true, if_false, false_and, and_false]
    first | rw [br_p (hle)] | rw [br_r (hle)] | rw [br_s (hle)]
    rw [eo]
    exact h0
  | succ m ih =>
    intro o ho M hM h
    have hz := h.1.2.2.1
    have hL := h.1.1
    have hr := h.1.2.2.2.1
    have hlt : ¬ nI (dN D) ≤ nI o := by rw [ni_le (by omega) (by omega)]; omega
    have h48 := dY_len hD s
    have hw_ := lw_ hL (isSh_z (z := z) (s := s) hz (by omega))
    have htr := ltr hL (show o < 8 by omega)
    have hst := lt_ hL (isTr_of (show o < 8 by omega))
    have hc := (x_ship h hs).2.1.1
    rw [hX10_sayersOf_15]
    simp +decide (disch := omega) only [qX10_sayersOf, lx hL, lz hL hz, hr, (x_n h).1, hw_, hc, htr, hst, ni_in_t, ni_tn, ni_add1, am_w1_i, am_w1_r, am_w1_x, am_w1_l, am_w1_w, va_rf_s, am_push_n, am_push_s, am_cs_0, am_cs_i, am_cs_l, am_cs_r, m_uI_K, m_uI_N, m_uI_R, m_uI_L, m_uI_I, m_uL_K, m_uL_N, m_uL_R, m_uL_I, m_uL_L, m_uR_K, m_uR_N, m_uR_I, m_uR_L, m_uR_R, true_and, and_true, true_implies, false_implies, not_true_eq_false, not_false_eq_true, if_true, if_false, false_and, and_false]
    first | rw [br_n (hlt)] | rw [br_q (hlt)] | rw [br_u (hlt)]
    rw [ni_eq (by omega) (by omega), ni_pos (by omega)]
    by_cases e : o = s
    · have h0 := ih (o + 1) (by omega) M hM h
      rw [btI_f (fun q => q.1 e)] at h0
      first | rw [br_p (e)] | rw [br_r (e)] | rw [br_s (e)]
      exact h0
    · first | rw [br_n (e)] | rw [br_q (e)] | rw [br_u (e)]
      by_cases l0 : (dY D s).length = 0
      · have h0 := ih (o + 1) (by omega) M hM h
        rw [btI_f (fun q => by have := q.2.1; omega)] at h0
        first | rw [br_p (l0)] | rw [br_r (l0)] | rw [br_s (l0)]
        exact h0
      · first | rw [br_n (l0)] | rw [br_q (l0)] | rw [br_u (l0)]
        refine x_fits hD h (by omega) hs d true _ (fun M1 f1 X1 => ?_)
        rw [(own_t (Y0 := dY D o) (snd := dSn D o)).2, tI_i (and_congr_left' (own_t (Y0 := dY D o) (snd := dSn D o)).1)]
        have h0 := ih (o + 1) (by omega) M1 (zF_trans hM f1) X1
        by_cases c : syS (dY D o) 0 (dSn D o) ∧ syS (dY D s) 0 (dSn D o) ∧ fitP (dWt D o) (dV D o) (dBs D o ++ syF (dY D o) 0 ++ syF (dY D s) 0)
        · rw [btI_t ⟨e, by omega, c⟩] at h0
          rw [tI_t c]
          simp +decide only [qX10_sayersOf, ni_add1, am_w1_i, am_w1_r, am_w1_x, am_w1_l, am_w1_w, va_rf_s, am_push_n, am_push_s, am_cs_0, am_cs_i, am_cs_l, am_cs_r, m_uI_K, m_uI_N, m_uI_R, m_uI_L, m_uI_I, m_uL_K, m_uL_N, m_uL_R, m_uL_I, m_uL_L, m_uR_K, m_uR_N, m_uR_I, m_uR_L, m_uR_R, true_and, and_true, true_implies, false_implies, not_true_eq_false, not_false_eq_true, if_true, if_false, false_and, and_false]
          exact h0
        · rw [btI_f (fun q => c q.2.2)] at h0
          rw [tI_f c]
          simp +decide only [qX10_sayersOf, ni_add1, am_w1_i, am_w1_r, am_w1_x, am_w1_l, am_w1_w, va_rf_s, am_push_n, am_push_s, am_cs_0, am_cs_i, am_cs_l, am_cs_r, m_uI_K, m_uI_N, m_uI_R, m_uI_L, m_uI_I, m_uL_K, m_uL_N, m_uL_R, m_uL_I, m_uL_L, m_uR_K, m_uR_N, m_uR_I, m_uR_L, m_uR_R, true_and, and_true, true_implies, false_implies, not_true_eq_false, not_false_eq_true, if_true, if_false, false_and, and_false]
          exact h0
theorem x_sayersOf {M : am_M} {z s : Nat} {D : Dat} (hD : dOK D) (h : XR M z D) (hs : s < dN D) (d : Nat) (Q : Option Value → am_M → Prop) (hQ : ∀ M', zF sLn M M' → XR M' z D → Q (some (.int (whI D s))) M') : am_E am_P0 (d + 5) 155 [.ref 0, .int (nI s)] M Q := by
  have hz := h.1.2.2.1
  have hL := h.1.1
  have hr := h.1.2.2.2.1
  have n8 := dN_8 hD
  have hsh := lsh hL hz (s := s) (by omega)
  have h0 := l_x_sayersOf d z s D M Q hD hs hQ (dN D) 0 (by omega) M (zF_refl hL h.1.2.1) h
  rw [eX10_sayersOf]
  simp +decide (disch := omega) only [qX10_sayersOf, lx hL, lz hL hz, hr, hsh, ni_in_t, ni_tn, am_w1_i, am_w1_r, am_w1_x, am_w1_l, am_w1_w, va_rf_s, am_push_n, am_push_s, am_cs_0, am_cs_i, am_cs_l, am_cs_r, m_uI_K, m_uI_N, m_uI_R, m_uI_L, m_uI_I, m_uL_K, m_uL_N, m_uL_R, m_uL_I, m_uL_L, m_uR_K, m_uR_N, m_uR_I, m_uR_L, m_uR_R, true_and, and_true, true_implies, false_implies, not_true_eq_false, not_false_eq_true, if_true, if_false, false_and, and_false]
  exact h0
noncomputable def aWho (v : Int32) (D : Dat) : Value := .int (if 0 ≤ v.toInt ∧ v.toInt < dN D then whI D v.toInt.toNat else -1)
theorem x_who (v : Int32) : XqO 126 [.int v] (aWho v) := by
  intro d M z D Q hD h hQ
  have hL := h.1.1
  have n8 := dN_8 hD
  have eS := fun v Q => x_isShip hD h (d + 19) v Q
  unfold aWho at hQ
  rw [eX10_who]
  simp +decide only [qX10_who, lx hL, eS, bI_0, Classical.not_not, am_w1_i, am_w1_r, am_w1_x, am_w1_l, am_w1_w, va_rf_s, am_push_n, am_push_s, am_cs_0, am_cs_i, am_cs_l, am_cs_r, m_uI_K, m_uI_N, m_uI_R, m_uI_L, m_uI_I, m_uL_K, m_uL_N, m_uL_R, m_uL_I, m_uL_L, m_uR_K, m_uR_N, m_uR_I, m_uR_L, m_uR_R, true_and, and_true, true_implies, false_implies, not_true_eq_false, not_false_eq_true, if_true, if_false, false_and, and_false]
  by_cases hv : 0 ≤ v.toInt ∧ v.toInt < dN D
  · first | rw [br_p (hv)] | rw [br_r (hv)] | rw [br_s (hv)]
    rw [if_pos hv] at hQ
    obtain ⟨s, s1, s2, s3⟩ := sh_of (by omega) hv
    rw [s3] at hQ
    rw [s2]
    refine x_sayersOf hD h s1 (d + 14) _ (fun M1 f1 X1 => ?_)
    have h0 := hQ M1 (zF_up f1 (fun a j q => sLn_q q)) X1
    simp +decide only [qX10_who, am_w1_i, am_w1_r, am_w1_x, am_w1_l, am_w1_w, va_rf_s, am_push_n, am_push_s, am_cs_0, am_cs_i, am_cs_l, am_cs_r, m_uI_K, m_uI_N, m_uI_R, m_uI_L, m_uI_I, m_uL_K, m_uL_N, m_uL_R, m_uL_I, m_uL_L, m_uR_K, m_uR_N, m_uR_I, m_uR_L, m_uR_R, true_and, and_true, true_implies, false_implies, not_true_eq_false, not_false_eq_true, if_true, if_false, false_and, and_false]
    exact h0
  · have h0 := hQ M (XR_2 h) h
    rw [if_neg hv] at h0
    first | rw [br_n (hv)] | rw [br_q (hv)] | rw [br_u (hv)]
    exact h0
theorem m_saidBy {M : am_M} {b s o : Nat} {D : Dat} (hD : dOK D) (hL : Lay M) (h : MdM M b D) (hs : s < dN D) (ho : o < dN D) (d : Nat) (Q : Option Value → am_M → Prop) (hQ : ∀ M', gF sMq nT M M' → Q (some (.int (tI (syS (dY D o) 0 (dSn D o) ∧ syS (dY D s) 0 (dSn D o) ∧ fitP (dWt D o) (dV D o) (dBs D o ++ syF (dY D o) 0 ++ syF (dY D s) 0))))) M') : am_E am_P0 (d + 5) 259 [.ref 277, .int (nI s), .int (nI o)] M Q := by
  have n8 := dN_8 hD
  obtain ⟨m1, m2, m3, m4, m5⟩ := mh hD h ho
  obtain ⟨-, p2, -, -, -⟩ := mh hD h hs
  refine c_m_saidBy d o s b (dC D) (dR D) (dV D o) (dV D s) (dDp D) (dDr D o) (dLd D o) (dDr D s) (dLd D s) (dY D o) (dY D s) (dBk D) M Q hL m1 (by omega) (by omega) m2 p2 m3 m4 (fun M1 g1 => ?_)
  have h0 := hQ M1 (gF_up (gF_o g1) (fun a j q => sMq_FG q) (fun _ _ q => q))
  rw [m5, tI_i (q := syS (dY D o) 0 (dSn D o) ∧ syS (dY D s) 0 (dSn D o) ∧ fitP (dWt D o) (dV D o) (dBs D o ++ syF (dY D o) 0 ++ syF (dY D s) 0)) ?_]
  · exact h0
  · have e : fitP (dWt D o) (dV D o) (syF (dY D s) 0 ++ syF (dY D o) 0 ++ bkOf (dBk D) o) ↔ fitP (dWt D o) (dV D o) (dBs D o ++ syF (dY D o) 0 ++ syF (dY D s) 0) := fit_mem (fun a => by
      unfold dBs
      simp only [List.mem_append]
      constructor <;> (intro q; rcases q with (q | q) | q <;> simp [q]))
    rw [e]
    exact ⟨fun q => ⟨q.2.1, q.1, q.2.2⟩, fun q => ⟨q.2.1, q.1, q.2.2⟩⟩
theorem l_m_whoOf (d b s : Nat) (D : Dat) (M0 : am_M) (Q : Option Value → am_M → Prop) (hD : dOK D) (hL0 : Lay M0) (h0' : MdM M0 b D) (hs : s < dN D) (hQ : ∀ M', gF sMq nT M0 M' → Q (some (.int (whI D s))) M') :
    ∀ (m o : Nat), o + m = dN D → ∀ (M : am_M), gF sMq nT M0 M → am_P am_P0 (d + 6) (am_look tX11_whoOf) 4 [.ref 277, .int (nI s), .int (btI (whP D s) o), .int (nI o)] [] M Q := by
  have n8 := dN_8 hD
  intro m
  induction m with
  | zero =>
    intro o ho M hM
    have hL := gF_LayN hM hL0
    have h := MdM_q h0' hM
    have hb2 := h.1.2
    have hle : nI (dN D) ≤ nI o := (ni_le (by omega) (by omega)).mpr (by omega)
    have h0 := hQ M hM
    have eo : o = dN D := by omega
    rw [hX11_whoOf_4]
    simp +decide (disch := omega) only [qX11_whoOf, lm hL, h.1.1, h.2.2.2.1.1, ni_in_t, ni_tn, am_w1_i, am_w1_r, am_w1_x, am_w1_l, am_w1_w, va_rf_s, am_push_n, am_push_s, am_cs_0, am_cs_i, am_cs_l, am_cs_r, m_uI_K, m_uI_N, m_uI_R, m_uI_L, m_uI_I, m_uL_K, m_uL_N, m_uL_R, m_uL_I, m_uL_L, m_uR_K, m_uR_N, m_uR_I, m_uR_L, m_uR_R, true_and, and_true, true_implies, false_implies, not_true_eq_false, not_false_eq_true, if_true, if_false, false_and, and_false]
    first | rw [br_p (hle)] | rw [br_r (hle)] | rw [br_s (hle)]
    rw [eo]
    exact h0
  | succ m ih =>
    intro o ho M hM
    have hL := gF_LayN hM hL0
    have h := MdM_q h0' hM
    have hb2 := h.1.2
    have hlt : ¬ nI (dN D) ≤ nI o := by rw [ni_le (by omega) (by omega)]; omega
    have h48 := dY_len hD s
    have hsay := fun Q => m_sayN hD hL h (s := s) (by omega) (d + 4) Q
    rw [hX11_whoOf_4]
    simp +decide (disch := omega) only [qX11_whoOf, lm hL, h.1.1, h.2.2.2.1.1, hsay, ni_in_t, ni_tn, ni_add1, or_z, am_w1_i, am_w1_r, am_w1_x, am_w1_l, am_w1_w, va_rf_s, am_push_n, am_push_s, am_cs_0, am_cs_i, am_cs_l, am_cs_r, m_uI_K, m_uI_N, m_uI_R, m_uI_L, m_uI_I, m_uL_K, m_uL_N, m_uL_R, m_uL_I, m_uL_L, m_uR_K, m_uR_N, m_uR_I, m_uR_L, m_uR_R, true_and, and_true, true_implies, false_implies, not_true_eq_false, not_false_eq_true, if_true, if_false, false_and, and_false]
    first | rw [br_n (hlt)] | rw [br_q (hlt)] | rw [br_u (hlt)]
    rw [ni_eq (by omega) (by omega), ni_pos (by omega)]
    by_cases e : o = s
    · have h0 := ih (o + 1) (by omega) M hM
      rw [btI_f (fun q => q.1 e)] at h0
      first | rw [br_p (e)] | rw [br_r (e)] | rw [br_s (e)]
      exact h0
    · first | rw [br_n (e)] | rw [br_q (e)] | rw [br_u (e)]
      by_cases l0 : (dY D s).length = 0
      · have h0 := ih (o + 1) (by omega) M hM
        rw [btI_f (fun q => by have := q.2.1; omega)] at h0
        first | rw [br_p (l0)] | rw [br_r (l0)] | rw [br_s (l0)]
        exact h0
      · first | rw [br_n (l0)] | rw [br_q (l0)] | rw [br_u (l0)]
        refine m_saidBy hD hL h hs (by omega) d _ (fun M1 g1 => ?_)
        have h0 := ih (o + 1) (by omega) M1 (gF_trans hM g1)
        by_cases c : syS (dY D o) 0 (dSn D o) ∧ syS (dY D s) 0 (dSn D o) ∧ fitP (dWt D o) (dV D o) (dBs D o ++ syF (dY D o) 0 ++ syF (dY D s) 0)
        · rw [btI_t ⟨e, by omega, c⟩] at h0
          rw [tI_t c]
          simp +decide only [qX11_whoOf, ni_add1, am_w1_i, am_w1_r, am_w1_x, am_w1_l, am_w1_w, va_rf_s, am_push_n, am_push_s, am_cs_0, am_cs_i, am_cs_l, am_cs_r, m_uI_K, m_uI_N, m_uI_R, m_uI_L, m_uI_I, m_uL_K, m_uL_N, m_uL_R, m_uL_I, m_uL_L, m_uR_K, m_uR_N, m_uR_I, m_uR_L, m_uR_R, true_and, and_true, true_implies, false_implies, not_true_eq_false, not_false_eq_true, if_true, if_false, false_and, and_false]
          exact h0
        · rw [btI_f (fun q => c q.2.2)] at h0
          rw [tI_f c]
          simp +decide only [qX11_whoOf, ni_add1, or_z, am_w1_i, am_w1_r, am_w1_x, am_w1_l, am_w1_w, va_rf_s, am_push_n, am_push_s, am_cs_0, am_cs_i, am_cs_l, am_cs_r, m_uI_K, m_uI_N, m_uI_R, m_uI_L, m_uI_I, m_uL_K, m_uL_N, m_uL_R, m_uL_I, m_uL_L, m_uR_K, m_uR_N, m_uR_I, m_uR_L, m_uR_R, true_and, and_true, true_implies, false_implies, not_true_eq_false, not_false_eq_true, if_true, if_false, false_and, and_false]
          exact h0
theorem m_whoOf {M : am_M} {b s : Nat} {D : Dat} (hD : dOK D) (hL : Lay M) (h : MdM M b D) (hs : s < dN D) (d : Nat) (Q : Option Value → am_M → Prop) (hQ : ∀ M', gF sMq nT M M' → Q (some (.int (whI D s))) M') : am_E am_P0 (d + 6) 260 [.ref 277, .int (nI s)] M Q := by
  have h0 := l_m_whoOf d b s D M Q hD hL h hs hQ (dN D) 0 (by omega) M (gF_refl _ _ _)
  rw [eX11_whoOf]
  simp +decide only [qX11_whoOf, am_w1_i, am_w1_r, am_w1_x, am_w1_l, am_w1_w, va_rf_s, am_push_n, am_push_s, am_cs_0, am_cs_i, am_cs_l, am_cs_r, m_uI_K, m_uI_N, m_uI_R, m_uI_L, m_uI_I, m_uL_K, m_uL_N, m_uL_R, m_uL_I, m_uL_L, m_uR_K, m_uR_N, m_uR_I, m_uR_L, m_uR_R, true_and, and_true, true_implies, false_implies, not_true_eq_false, not_false_eq_true, if_true, if_false, false_and, and_false]
  exact h0
theorem m_who (v : Int32) : MqO 271 [.int v] (aWho v) := by
  intro d M b D Q hD hL h hQ
  have n8 := dN_8 hD
  have eS := fun v Q => m_isShip hD hL h (d + 18) v Q
  unfold aWho at hQ
  rw [eX11_who]
  simp +decide only [qX11_who, lm hL, eS, bI_0, Classical.not_not, am_w1_i, am_w1_r, am_w1_x, am_w1_l, am_w1_w, va_rf_s, am_push_n, am_push_s, am_cs_0, am_cs_i, am_cs_l, am_cs_r, m_uI_K, m_uI_N, m_uI_R, m_uI_L, m_uI_I, m_uL_K, m_uL_N, m_uL_R, m_uL_I, m_uL_L, m_uR_K, m_uR_N, m_uR_I, m_uR_L, m_uR_R, true_and, and_true, true_implies, false_implies, not_true_eq_false, not_false_eq_true, if_true, if_false, false_and, and_false]
  by_cases hv : 0 ≤ v.toInt ∧ v.toInt < dN D
  · first | rw [br_p (hv)] | rw [br_r (hv)] | rw [br_s (hv)]
    rw [if_pos hv] at hQ
    obtain ⟨s, s1, s2, s3⟩ := sh_of (by omega) hv
    rw [s3] at hQ
    rw [s2]
    refine m_whoOf hD hL h s1 (d + 13) _ (fun M1 g1 => ?_)
    have h0 := hQ M1 g1
    simp +decide only [qX11_who, am_w1_i, am_w1_r, am_w1_x, am_w1_l, am_w1_w, va_rf_s, am_push_n, am_push_s, am_cs_0, am_cs_i, am_cs_l, am_cs_r, m_uI_K, m_uI_N, m_uI_R, m_uI_L, m_uI_I, m_uL_K, m_uL_N, m_uL_R, m_uL_I, m_uL_L, m_uR_K, m_uR_N, m_uR_I, m_uR_L, m_uR_R, true_and, and_true, true_implies, false_implies, not_true_eq_false, not_false_eq_true, if_true, if_false, false_and, and_false]
    exact h0
  · have h0 := hQ M (gF_refl _ _ _)
    rw [if_neg hv] at h0
    first | rw [br_n (hv)] | rw [br_q (hv)] | rw [br_u (hv)]
    exact h0
theorem op_who (v : Int32) : OpI 126 271 [.int v] isI := op_q (fun D => ⟨_, rfl⟩) (x_who v) (m_who v)
/-- the ship o could have said, instead of its own, what s says -/
def swP (D : Dat) (s o : Nat) : Prop := syS (dY D s) 0 (dSn D o) ∧ fitP (dWt D o) (dV D o) (dBs D o ++ syF (dY D s) 0)
noncomputable def aSwp (v w : Int32) (D : Dat) : Value := .int (if ¬ v = w ∧ (0 ≤ v.toInt ∧ v.toInt < dN D) ∧ (0 ≤ w.toInt ∧ w.toInt < dN D) ∧ ¬ (dY D v.toInt.toNat).length = 0 ∧ ¬ (dY D w.toInt.toNat).length = 0 then tI (swP D w.toInt.toNat v.toInt.toNat ∧ swP D v.toInt.toNat w.toInt.toNat) else -1)
theorem x_fitsF {M : am_M} {z o s : Nat} {D : Dat} (hD : dOK D) (h : XR M z D) (ho : o < dN D) (hs : s < dN D) (d : Nat) (Q : Option Value → am_M → Prop) (hQ : ∀ M', zF sLn M M' → XR M' z D → Q (some (.int (tI (swP D s o)))) M') : am_E am_P0 (d + 4) 79 [.ref (173 + 13 * o), .ref (z + 25 + 7 * s), .int 0, .int 0] M Q := by
  refine x_fits hD h ho hs d false Q (fun M1 f1 X1 => ?_)
  have h0 := hQ M1 f1 X1
  rw [(own_f (Y0 := dY D o) (snd := dSn D o)).2, List.append_nil, tI_i (q := swP D s o) ⟨fun q => q.2, fun q => ⟨own_f.1, q⟩⟩]
  exact h0
theorem x_swap (v w : Int32) : XqO 127 [.int v, .int w] (aSwp v w) := by
  intro d M z D Q hD h hQ
  have hz := h.1.2.2.1
  have hL := h.1.1
  have hr := h.1.2.2.2.1
  have n8 := dN_8 hD
  have eS := fun v Q => x_isShip hD h (d + 19) v Q
  have eb := fun M Q => c_x_bit (d + 19) 0 M Q (Or.inl rfl)
  have eb1 := fun M Q => c_x_bit (d + 19) 1 M Q (Or.inr rfl)
  unfold aSwp at hQ
  rw [eX10_swap]
  simp +decide only [qX10_swap_0, qX10_swap_1, lx hL, lz hL hz, hr, eS, bI_0, Classical.not_not, am_w1_i, am_w1_r, am_w1_x, am_w1_l, am_w1_w, va_rf_s, am_push_n, am_push_s, am_cs_0, am_cs_i, am_cs_l, am_cs_r, m_uI_K, m_uI_N, m_uI_R, m_uI_L, m_uI_I, m_uL_K, m_uL_N, m_uL_R, m_uL_I, m_uL_L, m_uR_K, m_uR_N, m_uR_I, m_uR_L, m_uR_R, true_and, and_true, true_implies, false_implies, not_true_eq_false, not_false_eq_true, if_true, if_false, false_and, and_false]
  by_cases e : v = w
  · have h0 := hQ M (XR_2 h) h
    rw [if_neg (fun q => q.1 e)] at h0
    first | rw [br_p (e)] | rw [br_r (e)] | rw [br_s (e)]
    exact h0
  · first | rw [br_n (e)] | rw [br_q (e)] | rw [br_u (e)]
    by_cases hv : 0 ≤ v.toInt ∧ v.toInt < dN D
    · first | rw [br_p (hv)] | rw [br_r (hv)] | rw [br_s (hv)]
      by_cases hw : 0 ≤ w.toInt ∧ w.toInt < dN D
      · first | rw [br_p (hw)] | rw [br_r (hw)] | rw [br_s (hw)]
        obtain ⟨s, s1, s2, s3⟩ := sh_of (by omega) hv
        obtain ⟨o, o1, o2, o3⟩ := sh_of (by omega) hw
        have hsh := lsh hL hz (s := s) (by omega)
        have hsh' := lsh hL hz (s := o) (by omega)
        have hw_ := lw_ hL (isSh_z (z := z) (s := s) hz (by omega))
        have hw_' := lw_ hL (isSh_z (z := z) (s := o) hz (by omega))
        have h48 := dY_len hD s
        have h48' := dY_len hD o
        have q1 := (x_ship h s1).2.1.1
        have q1' := (x_ship h o1).2.1.1
        have htr := ltr hL (show s < 8 by omega)
        have hst := lt_ hL (isTr_of (show s < 8 by omega))
        have z1 : nI (dY D s).length = 0 ↔ (dY D s).length = 0 := by rw [show (0 : Int32) = nI 0 from rfl, ni_eq (by omega) (by omega)]
        have z1' : nI (dY D o).length = 0 ↔ (dY D o).length = 0 := by rw [show (0 : Int32) = nI 0 from rfl, ni_eq (by omega) (by omega)]
        rw [s3, o3] at hQ
        rw [s2, o2]
        simp +decide (disch := omega) only [qX10_swap_0, qX10_swap_1, lx hL, lz hL hz, hr, hsh, hsh', hw_, hw_', q1, q1', z1, z1', htr, hst, ni_in_t, ni_tn, Classical.not_not, am_w1_i, am_w1_r, am_w1_x, am_w1_l, am_w1_w, va_rf_s, am_push_n, am_push_s, am_cs_0, am_cs_i, am_cs_l, am_cs_r, m_uI_K, m_uI_N, m_uI_R, m_uI_L, m_uI_I, m_uL_K, m_uL_N, m_uL_R, m_uL_I, m_uL_L, m_uR_K, m_uR_N, m_uR_I, m_uR_L, m_uR_R, true_and, and_true, true_implies, false_implies, not_true_eq_false, not_false_eq_true, if_true, if_false, false_and, and_false]
        by_cases l0 : (dY D s).length = 0
        · have h0 := hQ M (XR_2 h) h
          rw [if_neg (fun q => q.2.2.2.1 l0)] at h0
          first | rw [br_p (l0)] | rw [br_r (l0)] | rw [br_s (l0)]
          exact h0
        · first | rw [br_n (l0)] | rw [br_q (l0)] | rw [br_u (l0)]
          by_cases l1 : (dY D o).length = 0
          · have h0 := hQ M (XR_2 h) h
            rw [if_neg (fun q => q.2.2.2.2 l1)] at h0
            first | rw [br_p (l1)] | rw [br_r (l1)] | rw [br_s (l1)]
            exact h0
          · first | rw [br_n (l1)] | rw [br_q (l1)] | rw [br_u (l1)]
            rw [if_pos ⟨e, hv, hw, l0, l1⟩] at hQ
            refine x_fitsF hD h s1 o1 (d + 15) _ (fun M1 f1 X1 => ?_)
            by_cases c : swP D o s
            · rw [tI_t c]
              have htr1 := ltr X1.1.1 (show o < 8 by omega)
              have hst1 := lt_ X1.1.1 (isTr_of (show o < 8 by omega))
              simp +decide (disch := omega) only [qX10_swap_0, qX10_swap_1, lx X1.1.1, htr1, hst1, ni_in_t, ni_tn, am_w1_i, am_w1_r, am_w1_x, am_w1_l, am_w1_w, va_rf_s, am_push_n, am_push_s, am_cs_0, am_cs_i, am_cs_l, am_cs_r, m_uI_K, m_uI_N, m_uI_R, m_uI_L, m_uI_I, m_uL_K, m_uL_N, m_uL_R, m_uL_I, m_uL_L, m_uR_K, m_uR_N, m_uR_I, m_uR_L, m_uR_R, true_and, and_true, true_implies, false_implies, not_true_eq_false, not_false_eq_true, if_true, if_false, false_and, and_false]
              refine x_fitsF hD X1 o1 s1 (d + 15) _ (fun M2 f2 X2 => ?_)
              have h0 := hQ M2 (zF_up (zF_trans f1 f2) (fun a j q => sLn_q q)) X2
              by_cases c2 : swP D s o
              · rw [tI_t ⟨c, c2⟩] at h0
                rw [tI_t c2]
                simp +decide only [qX10_swap_0, qX10_swap_1, eb1, am_w1_i, am_w1_r, am_w1_x, am_w1_l, am_w1_w, va_rf_s, am_push_n, am_push_s, am_cs_0, am_cs_i, am_cs_l, am_cs_r, m_uI_K, m_uI_N, m_uI_R, m_uI_L, m_uI_I, m_uL_K, m_uL_N, m_uL_R, m_uL_I, m_uL_L, m_uR_K, m_uR_N, m_uR_I, m_uR_L, m_uR_R, true_and, and_true, true_implies, false_implies, not_true_eq_false, not_false_eq_true, if_true, if_false, false_and, and_false]
                exact h0
              · rw [tI_f (fun q => c2 q.2)] at h0
                rw [tI_f c2]
                simp +decide only [qX10_swap_0, qX10_swap_1, eb, am_w1_i, am_w1_r, am_w1_x, am_w1_l, am_w1_w, va_rf_s, am_push_n, am_push_s, am_cs_0, am_cs_i, am_cs_l, am_cs_r, m_uI_K, m_uI_N, m_uI_R, m_uI_L, m_uI_I, m_uL_K, m_uL_N, m_uL_R, m_uL_I, m_uL_L, m_uR_K, m_uR_N, m_uR_I, m_uR_L, m_uR_R, true_and, and_true, true_implies, false_implies, not_true_eq_false, not_false_eq_true, if_true, if_false, false_and, and_false]
                exact h0
            · have h0 := hQ M1 (zF_up f1 (fun a j q => sLn_q q)) X1
              rw [tI_f (fun q => c q.1)] at h0
              rw [tI_f c]
              simp +decide only [qX10_swap_0, qX10_swap_1, eb, am_w1_i, am_w1_r, am_w1_x, am_w1_l, am_w1_w, va_rf_s, am_push_n, am_push_s, am_cs_0, am_cs_i, am_cs_l, am_cs_r, m_uI_K, m_uI_N, m_uI_R, m_uI_L, m_uI_I, m_uL_K, m_uL_N, m_uL_R, m_uL_I, m_uL_L, m_uR_K, m_uR_N, m_uR_I, m_uR_L, m_uR_R, true_and, and_true, true_implies, false_implies, not_true_eq_false, not_false_eq_true, if_true, if_false, false_and, and_false]
              exact h0
      · have h0 := hQ M (XR_2 h) h
        rw [if_neg (fun q => hw q.2.2.1)] at h0
        first | rw [br_n (hw)] | rw [br_q (hw)] | rw [br_u (hw)]
        exact h0
    · have h0 := hQ M (XR_2 h) h
      rw [if_neg (fun q => hv q.2.1)] at h0
      first | rw [br_n (hv)] | rw [br_q (hv)] | rw [br_u (hv)]
      exact h0
theorem m_isFor {M : am_M} {b s o : Nat} {D : Dat} (hD : dOK D) (hL : Lay M) (h : MdM M b D) (hs : s < dN D) (ho : o < dN D) (d : Nat) (Q : Option Value → am_M → Prop) (hQ : ∀ M', gF sMq nT M M' → Q (some (.int (tI (swP D s o)))) M') : am_E am_P0 (d + 5) 272 [.ref 277, .int (nI s), .int (nI o)] M Q := by
  have n8 := dN_8 hD
  obtain ⟨m1, m2, m3, m4, m5⟩ := mh hD h ho
  obtain ⟨-, p2, -, -, -⟩ := mh hD h hs
  refine c_m_isFor d o s b (dC D) (dR D) (dV D o) (dV D s) (dDp D) (dDr D o) (dLd D o) (dDr D s) (dLd D s) (dY D o) (dY D s) (dBk D) M Q hL m1 (by omega) (by omega) m2 p2 m3 m4 (fun M1 g1 => ?_)
  have h0 := hQ M1 (gF_up (gF_o g1) (fun a j q => sMq_FG q) (fun _ _ q => q))
  rw [m5, tI_i (q := swP D s o) ?_]
  · exact h0
  · have e : fitP (dWt D o) (dV D o) (syF (dY D s) 0 ++ bkOf (dBk D) o) ↔ fitP (dWt D o) (dV D o) (dBs D o ++ syF (dY D s) 0) := fit_mem (fun a => by
      unfold dBs
      simp only [List.mem_append]
      constructor <;> (intro q; rcases q with q | q <;> simp [q]))
    rw [e]
    exact Iff.rfl
theorem m_swap (v w : Int32) : MqO 273 [.int v, .int w] (aSwp v w) := by
  intro d M b D Q hD hL h hQ
  have n8 := dN_8 hD
  have eS := fun v Q => m_isShip hD hL h (d + 18) v Q
  unfold aSwp at hQ
  rw [eX11_swap]
  simp +decide only [qX11_swap, lm hL, eS, bI_0, Classical.not_not, am_w1_i, am_w1_r, am_w1_x, am_w1_l, am_w1_w, va_rf_s, am_push_n, am_push_s, am_cs_0, am_cs_i, am_cs_l, am_cs_r, m_uI_K, m_uI_N, m_uI_R, m_uI_L, m_uI_I, m_uL_K, m_uL_N, m_uL_R, m_uL_I, m_uL_L, m_uR_K, m_uR_N, m_uR_I, m_uR_L, m_uR_R, true_and, and_true, true_implies, false_implies, not_true_eq_false, not_false_eq_true, if_true, if_false, false_and, and_false]
  by_cases hv : 0 ≤ v.toInt ∧ v.toInt < dN D
  · first | rw [br_p (hv)] | rw [br_r (hv)] | rw [br_s (hv)]
    by_cases hw : 0 ≤ w.toInt ∧ w.toInt < dN D
    · first | rw [br_p (hw)] | rw [br_r (hw)] | rw [br_s (hw)]
      by_cases e : v = w
      · have h0 := hQ M (gF_refl _ _ _)
        rw [if_neg (fun q => q.1 e)] at h0
        first | rw [br_p (e)] | rw [br_r (e)] | rw [br_s (e)]
        exact h0
      · first | rw [br_n (e)] | rw [br_q (e)] | rw [br_u (e)]
        obtain ⟨s, s1, s2, s3⟩ := sh_of (by omega) hv
        obtain ⟨o, o1, o2, o3⟩ := sh_of (by omega) hw
        have h48 := dY_len hD s
        have h48' := dY_len hD o
        have hsay := fun Q => m_sayN hD hL h (s := s) (by omega) (d + 18) Q
        have hsay' := fun Q => m_sayN hD hL h (s := o) (by omega) (d + 18) Q
        have z1 : nI (dY D s).length = 0 ↔ (dY D s).length = 0 := by rw [show (0 : Int32) = nI 0 from rfl, ni_eq (by omega) (by omega)]
        have z1' : nI (dY D o).length = 0 ↔ (dY D o).length = 0 := by rw [show (0 : Int32) = nI 0 from rfl, ni_eq (by omega) (by omega)]
        rw [s3, o3] at hQ
        rw [s2, o2]
        simp +decide (disch := omega) only [qX11_swap, lm hL, hsay, hsay', z1, z1', Classical.not_not, am_w1_i, am_w1_r, am_w1_x, am_w1_l, am_w1_w, va_rf_s, am_push_n, am_push_s, am_cs_0, am_cs_i, am_cs_l, am_cs_r, m_uI_K, m_uI_N, m_uI_R, m_uI_L, m_uI_I, m_uL_K, m_uL_N, m_uL_R, m_uL_I, m_uL_L, m_uR_K, m_uR_N, m_uR_I, m_uR_L, m_uR_R, true_and, and_true, true_implies, false_implies, not_true_eq_false, not_false_eq_true, if_true, if_false, false_and, and_false]
        by_cases l0 : (dY D s).length = 0
        · have h0 := hQ M (gF_refl _ _ _)
          rw [if_neg (fun q => q.2.2.2.1 l0)] at h0
          first | rw [br_p (l0)] | rw [br_r (l0)] | rw [br_s (l0)]
          exact h0
        · first | rw [br_n (l0)] | rw [br_q (l0)] | rw [br_u (l0)]
          by_cases l1 : (dY D o).length = 0
          · have h0 := hQ M (gF_refl _ _ _)
            rw [if_neg (fun q => q.2.2.2.2 l1)] at h0
            first | rw [br_p (l1)] | rw [br_r (l1)] | rw [br_s (l1)]
            exact h0
          · first | rw [br_n (l1)] | rw [br_q (l1)] | rw [br_u (l1)]
            rw [if_pos ⟨e, hv, hw, l0, l1⟩] at hQ
            refine m_isFor hD hL h s1 o1 (d + 14) _ (fun M1 g1 => ?_)
            by_cases c : swP D s o
            · rw [tI_t c]
              have L1 := gF_LayN g1 hL
              have h1 := MdM_q h g1
              simp +decide (disch := omega) only [qX11_swap, lm L1, am_w1_i, am_w1_r, am_w1_x, am_w1_l, am_w1_w, va_rf_s, am_push_n, am_push_s, am_cs_0, am_cs_i, am_cs_l, am_cs_r, m_uI_K, m_uI_N, m_uI_R, m_uI_L, m_uI_I, m_uL_K, m_uL_N, m_uL_R, m_uL_I, m_uL_L, m_uR_K, m_uR_N, m_uR_I, m_uR_L, m_uR_R, true_and, and_true, true_implies, false_implies, not_true_eq_false, not_false_eq_true, if_true, if_false, false_and, and_false]
              refine m_isFor hD L1 h1 o1 s1 (d + 14) _ (fun M2 g2 => ?_)
              have h0 := hQ M2 (gF_trans g1 g2)
              by_cases c2 : swP D o s
              · rw [tI_t ⟨c2, c⟩] at h0
                rw [tI_t c2]
                simp +decide only [qX11_swap, am_w1_i, am_w1_r, am_w1_x, am_w1_l, am_w1_w, va_rf_s, am_push_n, am_push_s, am_cs_0, am_cs_i, am_cs_l, am_cs_r, m_uI_K, m_uI_N, m_uI_R, m_uI_L, m_uI_I, m_uL_K, m_uL_N, m_uL_R, m_uL_I, m_uL_L, m_uR_K, m_uR_N, m_uR_I, m_uR_L, m_uR_R, true_and, and_true, true_implies, false_implies, not_true_eq_false, not_false_eq_true, if_true, if_false, false_and, and_false]
                exact h0
              · rw [tI_f (fun q => c2 q.1)] at h0
                rw [tI_f c2]
                simp +decide only [qX11_swap, am_w1_i, am_w1_r, am_w1_x, am_w1_l, am_w1_w, va_rf_s, am_push_n, am_push_s, am_cs_0, am_cs_i, am_cs_l, am_cs_r, m_uI_K, m_uI_N, m_uI_R, m_uI_L, m_uI_I, m_uL_K, m_uL_N, m_uL_R, m_uL_I, m_uL_L, m_uR_K, m_uR_N, m_uR_I, m_uR_L, m_uR_R, true_and, and_true, true_implies, false_implies, not_true_eq_false, not_false_eq_true, if_true, if_false, false_and, and_false]
                exact h0
            · have h0 := hQ M1 g1
              rw [tI_f (fun q => c q.2)] at h0
              rw [tI_f c]
              simp +decide only [qX11_swap, am_w1_i, am_w1_r, am_w1_x, am_w1_l, am_w1_w, va_rf_s, am_push_n, am_push_s, am_cs_0, am_cs_i, am_cs_l, am_cs_r, m_uI_K, m_uI_N, m_uI_R, m_uI_L, m_uI_I, m_uL_K, m_uL_N, m_uL_R, m_uL_I, m_uL_L, m_uR_K, m_uR_N, m_uR_I, m_uR_L, m_uR_R, true_and, and_true, true_implies, false_implies, not_true_eq_false, not_false_eq_true, if_true, if_false, false_and, and_false]
              exact h0
    · have h0 := hQ M (gF_refl _ _ _)
      rw [if_neg (fun q => hw q.2.2.1)] at h0
      first | rw [br_n (hw)] | rw [br_q (hw)] | rw [br_u (hw)]
      exact h0
  · have h0 := hQ M (gF_refl _ _ _)
    rw [if_neg (fun q => hv q.2.1)] at h0
    first | rw [br_n (hv)] | rw [br_q (hv)] | rw [br_u (hv)]
    exact h0
theorem op_swap (v w : Int32) : OpI 127 273 [.int v, .int w] isI := op_q (fun D => ⟨_, rfl⟩) (x_swap v w) (m_swap v w)
end
section
/-! bars -/
theorem btw_hd (t t' : Nat) : btw t t t' t' = hd_ t t' := by
  unfold btw hd_
  split
  · rfl
  · split
    · rfl
    · omega
theorem fit_fY {w : Nat → Prop} {v : Nat} {Z : List Sy} : fitP w v (fY Z) ↔ ∀ y, y ∈ Z → ∀ y', y' ∈ Z → gowY w v y y' := by
  constructor
  · intro h y hy y' hy'
    have := h _ (fY_mem.mpr ⟨y, hy, rfl⟩) _ (fY_mem.mpr ⟨y', hy', rfl⟩)
    unfold gowY
    rw [← btw_hd]
    exact this
  · intro h a ha b hb
    obtain ⟨y, hy, rfl⟩ := fY_mem.mp ha
    obtain ⟨y', hy', rfl⟩ := fY_mem.mp hb
    have := h y hy y' hy'
    unfold gowY at this
    rw [← btw_hd] at this
    exact this
/-- all up to the i-th fit -/
def FbP (w : Nat → Prop) (v : Nat) (snd : Nat → Bool → Prop) (B : List Fct) (Y : List Sy) (i : Nat) : Prop := fitP w v B ∧ ∀ k, k < i → gdF w v snd B Y k = true ∧ ∀ j, j < k → goF w v Y k j = true
theorem fb_iff {w : Nat → Prop} {v : Nat} {snd : Nat → Bool → Prop} {B : List Fct} {Y : List Sy} {i : Nat} (hi : i < Y.length) (ho : ordF B) (hw : ∀ y, y ∈ Y → snd y.2.1 y.2.2 → w y.2.1) : fbP w v snd B Y i ↔ FbP w v snd B Y (i + 1) := by
  have hmem : ∀ y, y ∈ Y.take (i + 1) ↔ ∃ k, k < i + 1 ∧ Y[k]? = some y := by
    intro y
    rw [List.mem_iff_getElem?]
    constructor
    · rintro ⟨k, hk⟩
      rw [List.getElem?_take] at hk
      split at hk
      · exact ⟨k, by assumption, hk⟩
      · cases hk
    · rintro ⟨k, hk, hy⟩
      exact ⟨k, by rw [List.getElem?_take, if_pos hk]; exact hy⟩
  have hex : ∀ k, k < i + 1 → ∃ y, Y[k]? = some y := fun k hk => ⟨Y[k]'(by omega), List.getElem?_eq_getElem (by omega)⟩
  unfold fbP
  rw [fit_app (ordF_app ho (ordF_fY _)), fit_fY]
  constructor
  · rintro ⟨⟨h1, h2, h3⟩, h4⟩
    refine ⟨h1, fun k hk => ⟨?_, fun j hj => ?_⟩⟩
    · obtain ⟨y, hy⟩ := hex k hk
      have hm := (hmem y).mpr ⟨k, hk, hy⟩
      rw [gdF_y hy]
      refine ⟨h4 y hm, fun f hf => ?_⟩
      have := wit_symm (h3 f hf _ (fY_mem.mpr ⟨y, hm, rfl⟩))
      rw [btw_symm _ _ _ _ (Nat.le_refl _) (ho f hf)]
      exact this
    · obtain ⟨y, hy⟩ := hex k hk
      obtain ⟨y', hy'⟩ := hex j (by omega)
      rw [goF_y hy hy']
      exact h2 y ((hmem y).mpr ⟨k, hk, hy⟩) y' ((hmem y').mpr ⟨j, by omega, hy'⟩)
  · rintro ⟨h1, h2⟩
    have hs : ∀ y, y ∈ Y.take (i + 1) → goodY w v snd B y := fun y hm => by
      obtain ⟨k, hk, hy⟩ := (hmem y).mp hm
      exact (gdF_y hy).mp (h2 k hk).1
    refine ⟨⟨h1, fun y hm y' hm' => ?_, fun f hf b hb => ?_⟩, fun y hm => (hs y hm).1⟩
    · obtain ⟨k, hk, hy⟩ := (hmem y).mp hm
      obtain ⟨j, hj, hy'⟩ := (hmem y').mp hm'
      rcases Nat.lt_trichotomy k j with c | c | c
      · exact gow_symm ((goF_y hy' hy).mp ((h2 j hj).2 k c))
      · subst c
        rw [hy] at hy'
        cases hy'
        unfold gowY hd_
        rw [if_neg (by omega), Nat.sub_self]
        exact wit_0.mpr ⟨rfl, hw y (List.mem_of_getElem? hy) (hs y hm).1⟩
      · exact (goF_y hy hy').mp ((h2 k hk).2 j c)
    · obtain ⟨y, hm, rfl⟩ := fY_mem.mp hb
      have := wit_symm ((hs y hm).2 f hf)
      rw [btw_symm _ _ _ _ (Nat.le_refl _) (ho f hf)] at this
      exact this
noncomputable def aBar (v : Int32) (D : Dat) : Value := .int (if 0 ≤ v.toInt ∧ v.toInt < dN D then oI (brY (dWt D v.toInt.toNat) (dV D v.toInt.toNat) (dSn D v.toInt.toNat) (dBs D v.toInt.toNat) (dY D v.toInt.toNat)) (dY D v.toInt.toNat).length else -1)
theorem x_bars (v : Int32) : XqO 124 [.int v] (aBar v) := by
  intro d M z D Q hD h hQ
  have hz := h.1.2.2.1
  have hL := h.1.1
  have n8 := dN_8 hD
  have eS := fun v Q => x_isShip hD h (d + 19) v Q
  unfold aBar at hQ
  rw [eX10_bars]
  simp +decide only [qX10_bars, lx hL, eS, bI_0, Classical.not_not, am_w1_i, am_w1_r, am_w1_x, am_w1_l, am_w1_w, va_rf_s, am_push_n, am_push_s, am_cs_0, am_cs_i, am_cs_l, am_cs_r, m_uI_K, m_uI_N, m_uI_R, m_uI_L, m_uI_I, m_uL_K, m_uL_N, m_uL_R, m_uL_I, m_uL_L, m_uR_K, m_uR_N, m_uR_I, m_uR_L, m_uR_R, true_and, and_true, true_implies, false_implies, not_true_eq_false, not_false_eq_true, if_true, if_false, false_and, and_false]
  by_cases hv : 0 ≤ v.toInt ∧ v.toInt < dN D
  · first | rw [br_p (hv)] | rw [br_r (hv)] | rw [br_s (hv)]
    rw [if_pos hv] at hQ
    obtain ⟨s, s1, s2, s3⟩ := sh_of (by omega) hv
    rw [s3] at hQ
    have htr := ltr hL (show s < 8 by omega)
    have hst := lt_ hL (isTr_of (show s < 8 by omega))
    rw [s2]
    simp +decide (disch := omega) only [qX10_bars, lx hL, htr, hst, ni_in_t, ni_tn, am_w1_i, am_w1_r, am_w1_x, am_w1_l, am_w1_w, va_rf_s, am_push_n, am_push_s, am_cs_0, am_cs_i, am_cs_l, am_cs_r, m_uI_K, m_uI_N, m_uI_R, m_uI_L, m_uI_I, m_uL_K, m_uL_N, m_uL_R, m_uL_I, m_uL_L, m_uR_K, m_uR_N, m_uR_I, m_uR_L, m_uR_R, true_and, and_true, true_implies, false_implies, not_true_eq_false, not_false_eq_true, if_true, if_false, false_and, and_false]
    refine c_x_firstBar (d + 15) s (z + 25 + 7 * s) z (dV D s) (dWt D s) (dDp D) (dDr D s) (dLd D s) (dBs D s) (dY D s) M _ hL h.1.2.1 (by omega) (isSh_z hz (by omega)) hz (h.2.2.2.1 s s1).1 (fun M1 f1 => ?_)
    have h0 := hQ M1 (zF_up (zF_x f1) (fun a j q => sLn_q ⟨s, by omega, q⟩)) (XR_x hD (by omega) h f1)
    simp +decide only [qX10_bars, am_w1_i, am_w1_r, am_w1_x, am_w1_l, am_w1_w, va_rf_s, am_push_n, am_push_s, am_cs_0, am_cs_i, am_cs_l, am_cs_r, m_uI_K, m_uI_N, m_uI_R, m_uI_L, m_uI_I, m_uL_K, m_uL_N, m_uL_R, m_uL_I, m_uL_L, m_uR_K, m_uR_N, m_uR_I, m_uR_L, m_uR_R, true_and, and_true, true_implies, false_implies, not_true_eq_false, not_false_eq_true, if_true, if_false, false_and, and_false]
    exact h0
  · have h0 := hQ M (XR_2 h) h
    rw [if_neg hv] at h0
    first | rw [br_n (hv)] | rw [br_q (hv)] | rw [br_u (hv)]
    exact h0
section
variable (d : Nat) (w : Nat → Prop) (v : Nat) (snd : Nat → Bool → Prop) (B : List Fct) (Y : List Sy) (M : am_M) (Q : Option Value → am_M → Prop) (x1 : Int32)
theorem l_m_bar2 (hL : Lay M) (hP : PrM w v snd B Y M Y.length) (h48 : Y.length ≤ 48) (i : Nat) (hi : i < Y.length)
    (hN : ∀ p : Prop, (p ↔ FbP w v snd B Y (i + 1)) → am_P am_P0 d (am_look tX11_bars) 90 [.ref 277, .int x1, .int (tI p), .int (nI i), .int (nI i)] [] M Q) :
    ∀ (m j : Nat), j + m = i → ∀ p : Prop, (p ↔ (FbP w v snd B Y i ∧ gdF w v snd B Y i = true ∧ ∀ k, k < j → goF w v Y i k = true)) → am_P am_P0 d (am_look tX11_bars) 53 [.ref 277, .int x1, .int (tI p), .int (nI i), .int (nI j)] [] M Q := by
  intro m
  induction m with
  | zero =>
    intro j hj p hp
    have hle : nI i ≤ nI j := (ni_le (by omega) (by omega)).mpr (by omega)
    have ej : j = i := by omega
    subst ej
    have h0 := hN p (by
      rw [hp]
      constructor
      · rintro ⟨⟨a1, a2⟩, b1, b2⟩
        refine ⟨a1, fun k hk => ?_⟩
        by_cases c : k = j
        · subst c; exact ⟨b1, b2⟩
        · exact a2 k (by omega)
      · rintro ⟨a1, a2⟩
        exact ⟨⟨a1, fun k hk => a2 k (by omega)⟩, (a2 j (by omega)).1, (a2 j (by omega)).2⟩)
    rw [hX11_bars_53]
    simp +decide only [qX11_bars_0, qX11_bars_1, am_w1_i, am_w1_r, am_w1_x, am_w1_l, am_w1_w, va_rf_s, am_push_n, am_push_s, am_cs_0, am_cs_i, am_cs_l, am_cs_r, m_uI_K, m_uI_N, m_uI_R, m_uI_L, m_uI_I, m_uL_K, m_uL_N, m_uL_R, m_uL_I, m_uL_L, m_uR_K, m_uR_N, m_uR_I, m_uR_L, m_uR_R, true_and, and_true, true_implies, false_implies, not_true_eq_false, not_false_eq_true, if_true, if_false, false_and, and_false] at h0 ⊢
    first | rw [br_p (hle)] | rw [br_r (hle)] | rw [br_s (hle)]
    exact h0
  | succ m ih =>
    intro j hj p hp
    have hlt : ¬ nI i ≤ nI j := by rw [ni_le (by omega) (by omega)]; omega
    have e48 : (48 : Int32) * nI i + nI j = nI (48 * i + j) := by rw [show (48 : Int32) = nI 48 from rfl, ni_mul, ni_add]
    obtain ⟨y, hy⟩ : ∃ y, Y[i]? = some y := ⟨Y[i]'hi, List.getElem?_eq_getElem hi⟩
    obtain ⟨y', hy'⟩ : ∃ y, Y[j]? = some y := ⟨Y[j]'(by omega), List.getElem?_eq_getElem (by omega)⟩
    have hg := hP.2.2 i j y y' hi hy hy'
    rw [hX11_bars_53]
    simp +decide (disch := omega) only [qX11_bars_0, qX11_bars_1, lm hL, e48, hg, tI_01, tI_0, ni_in_t, ni_tn, ni_add1, am_w1_i, am_w1_r, am_w1_x, am_w1_l, am_w1_w, va_rf_s, am_push_n, am_push_s, am_cs_0, am_cs_i, am_cs_l, am_cs_r, m_uI_K, m_uI_N, m_uI_R, m_uI_L, m_uI_I, m_uL_K, m_uL_N, m_uL_R, m_uL_I, m_uL_L, m_uR_K, m_uR_N, m_uR_I, m_uR_L, m_uR_R, true_and, and_true, true_implies, false_implies, not_true_eq_false, not_false_eq_true, if_true, if_false, false_and, and_false]
    first | rw [br_n (hlt)] | rw [br_q (hlt)] | rw [br_u (hlt)]
    by_cases c : p
    · first | rw [br_p (c)] | rw [br_r (c)] | rw [br_s (c)]
      by_cases c2 : gowY w v y y'
      · first | rw [br_p (c2)] | rw [br_r (c2)] | rw [br_s (c2)]
        have h0 := ih (j + 1) (by omega) True (by
          rw [hp] at c
          refine ⟨fun _ => ⟨c.1, c.2.1, fun k hk => ?_⟩, fun _ => trivial⟩
          by_cases e : k = j
          · subst e; exact (goF_y hy hy').mpr c2
          · exact c.2.2 k (by omega))
        rw [tI_t trivial] at h0
        exact h0
      · first | rw [br_n (c2)] | rw [br_q (c2)] | rw [br_u (c2)]
        have h0 := ih (j + 1) (by omega) False ⟨fun q => q.elim, fun q => c2 ((goF_y hy hy').mp (q.2.2 j (by omega)))⟩
        rw [tI_f (fun q => q)] at h0
        exact h0
    · first | rw [br_n (c)] | rw [br_q (c)] | rw [br_u (c)]
      have h0 := ih (j + 1) (by omega) False ⟨fun q => q.elim, fun q => c (hp.mpr ⟨q.1, q.2.1, fun k hk => q.2.2 k (by omega)⟩)⟩
      rw [tI_f (fun q => q)] at h0
      exact h0
theorem l_m_bar1 (hL : Lay M) (hP : PrM w v snd B Y M Y.length) (h48 : Y.length ≤ 48) (ho : ordF B) (hw : ∀ y, y ∈ Y → snd y.2.1 y.2.2 → w y.2.1)
    (hQ : Q (some (.int (oI (brY w v snd B Y) Y.length))) M) :
    ∀ (m i : Nat), i + m = Y.length → ∀ (v4 : Value), jk v4 → (∀ k, k < i → (!dB (fbP w v snd B Y k)) = false) → am_P am_P0 d (am_look tX11_bars) 23 [.ref 277, .int x1, .int (tI (FbP w v snd B Y i)), .int (nI i), v4] [] M Q := by
  intro m
  induction m with
  | zero =>
    intro i hi v4 hv4 hb
    have hle : nI Y.length ≤ nI i := (ni_le (by omega) (by omega)).mpr (by omega)
    have ei : i = Y.length := by omega
    have h0 := hQ
    unfold oI brY at h0
    rw [fs_all (by rw [← ei]; exact hb), if_neg (by omega)] at h0
    rw [hX11_bars_23]
    simp +decide only [qX11_bars_0, qX11_bars_1, lm hL, hP.1.1, am_w1_i, am_w1_r, am_w1_x, am_w1_l, am_w1_w, va_rf_s, am_push_n, am_push_s, am_cs_0, am_cs_i, am_cs_l, am_cs_r, m_uI_K, m_uI_N, m_uI_R, m_uI_L, m_uI_I, m_uL_K, m_uL_N, m_uL_R, m_uL_I, m_uL_L, m_uR_K, m_uR_N, m_uR_I, m_uR_L, m_uR_R, true_and, and_true, true_implies, false_implies, not_true_eq_false, not_false_eq_true, if_true, if_false, false_and, and_false]
    first | rw [br_p (hle)] | rw [br_r (hle)] | rw [br_s (hle)]
    exact h0
  | succ m ih =>
    intro i hi v4 hv4 hb
    have hlt : ¬ nI Y.length ≤ nI i := by rw [ni_le (by omega) (by omega)]; omega
    obtain ⟨y, hy⟩ : ∃ y, Y[i]? = some y := ⟨Y[i]'(by omega), List.getElem?_eq_getElem (by omega)⟩
    have hg := hP.2.1 i y (by omega) hy
    have key : ∀ p : Prop, (p ↔ FbP w v snd B Y i ∧ gdF w v snd B Y i = true ∧ ∀ k, k < 0 → goF w v Y i k = true) → am_P am_P0 d (am_look tX11_bars) 53 [.ref 277, .int x1, .int (tI p), .int (nI i), .int (nI 0)] [] M Q := fun p hp => by
      refine l_m_bar2 d w v snd B Y M Q x1 hL hP h48 i (by omega) (fun p2 hp2 => ?_) i 0 (by omega) p hp
      rw [← fb_iff (by omega) ho hw] at hp2
      by_cases c : p2
      · have h0 := ih (i + 1) (by omega) (.int (nI i)) (Or.inr ⟨_, rfl⟩) (fun k hk => by
          by_cases e : k = i
          · subst e; rw [dB_t.mpr (hp2.mp c)]; rfl
          · exact hb k (by omega))
        rw [tI_t ((fb_iff (by omega) ho hw).mp (hp2.mp c))] at h0
        rw [tI_t c]
        simp +decide only [qX11_bars_0, qX11_bars_1, ni_add1, am_w1_i, am_w1_r, am_w1_x, am_w1_l, am_w1_w, va_rf_s, am_push_n, am_push_s, am_cs_0, am_cs_i, am_cs_l, am_cs_r, m_uI_K, m_uI_N, m_uI_R, m_uI_L, m_uI_I, m_uL_K, m_uL_N, m_uL_R, m_uL_I, m_uL_L, m_uR_K, m_uR_N, m_uR_I, m_uR_L, m_uR_R, true_and, and_true, true_implies, false_implies, not_true_eq_false, not_false_eq_true, if_true, if_false, false_and, and_false]
        exact h0
      · have h0 := hQ
        unfold oI brY at h0
        rw [fs_is (i := i) hb (by omega) (by rw [dB_f.mpr (fun q => c (hp2.mpr q))]; rfl), if_pos (by omega)] at h0
        rw [tI_f c]
        simp +decide only [qX11_bars_0, qX11_bars_1, am_w1_i, am_w1_r, am_w1_x, am_w1_l, am_w1_w, va_rf_s, am_push_n, am_push_s, am_cs_0, am_cs_i, am_cs_l, am_cs_r, m_uI_K, m_uI_N, m_uI_R, m_uI_L, m_uI_I, m_uL_K, m_uL_N, m_uL_R, m_uL_I, m_uL_L, m_uR_K, m_uR_N, m_uR_I, m_uR_L, m_uR_R, true_and, and_true, true_implies, false_implies, not_true_eq_false, not_false_eq_true, if_true, if_false, false_and, and_false]
        exact h0
    rw [hX11_bars_23]
    simp +decide (disch := omega) only [qX11_bars_0, qX11_bars_1, lm hL, hP.1.1, hg, tI_01, tI_0, ni_in_t, ni_tn, jk_w hv4, am_w1_i, am_w1_r, am_w1_x, am_w1_l, am_w1_w, va_rf_s, am_push_n, am_push_s, am_cs_0, am_cs_i, am_cs_l, am_cs_r, m_uI_K, m_uI_N, m_uI_R, m_uI_L, m_uI_I, m_uL_K, m_uL_N, m_uL_R, m_uL_I, m_uL_L, m_uR_K, m_uR_N, m_uR_I, m_uR_L, m_uR_R, true_and, and_true, true_implies, false_implies, not_true_eq_false, not_false_eq_true, if_true, if_false, false_and, and_false]
    first | rw [br_n (hlt)] | rw [br_q (hlt)] | rw [br_u (hlt)]
    by_cases c : FbP w v snd B Y i
    · first | rw [br_p (c)] | rw [br_r (c)] | rw [br_s (c)]
      by_cases c2 : goodY w v snd B y
      · first | rw [br_p (c2)] | rw [br_r (c2)] | rw [br_s (c2)]
        have h0 := key True ⟨fun _ => ⟨c, (gdF_y hy).mpr c2, fun k hk => by omega⟩, fun _ => trivial⟩
        rw [tI_t trivial] at h0
        exact h0
      · first | rw [br_n (c2)] | rw [br_q (c2)] | rw [br_u (c2)]
        have h0 := key False ⟨fun q => q.elim, fun q => c2 ((gdF_y hy).mp q.2.1)⟩
        rw [tI_f (fun q => q)] at h0
        exact h0
    · first | rw [br_n (c)] | rw [br_q (c)] | rw [br_u (c)]
      have h0 := key False ⟨fun q => q.elim, fun q => c q.1⟩
      rw [tI_f (fun q => q)] at h0
      exact h0
end
theorem dBs_ord {D : Dat} (h : dOK D) (s : Nat) : ordF (dBs D s) := fun a ha => by
  obtain ⟨k, k1, k2, rfl⟩ := bkOf_mem.mp ha
  exact (h.1.2.2.2.2.2.2.1.1.2 k k1).2.2.1
theorem m_bars (v : Int32) : MqO 269 [.int v] (aBar v) := by
  intro d M b D Q hD hL h hQ
  have n8 := dN_8 hD
  have eS := fun v Q => m_isShip hD hL h (d + 18) v Q
  unfold aBar at hQ
  rw [eX11_bars]
  simp +decide only [qX11_bars_0, qX11_bars_1, lm hL, eS, bI_0, Classical.not_not, am_w1_i, am_w1_r, am_w1_x, am_w1_l, am_w1_w, va_rf_s, am_push_n, am_push_s, am_cs_0, am_cs_i, am_cs_l, am_cs_r, m_uI_K, m_uI_N, m_uI_R, m_uI_L, m_uI_I, m_uL_K, m_uL_N, m_uL_R, m_uL_I, m_uL_L, m_uR_K, m_uR_N, m_uR_I, m_uR_L, m_uR_R, true_and, and_true, true_implies, false_implies, not_true_eq_false, not_false_eq_true, if_true, if_false, false_and, and_false]
  by_cases hv : 0 ≤ v.toInt ∧ v.toInt < dN D
  · first | rw [br_p (hv)] | rw [br_r (hv)] | rw [br_s (hv)]
    rw [if_pos hv] at hQ
    obtain ⟨s, s1, s2, s3⟩ := sh_of (by omega) hv
    rw [s3] at hQ
    rw [s2]
    refine m_booksFit hD hL h s1 (d + 14) _ (fun M1 g1 => ?_)
    have L1 := gF_LayN g1 hL
    have h1 := MdM_q h g1
    simp +decide only [qX11_bars_0, qX11_bars_1, lm L1, am_w1_i, am_w1_r, am_w1_x, am_w1_l, am_w1_w, va_rf_s, am_push_n, am_push_s, am_cs_0, am_cs_i, am_cs_l, am_cs_r, m_uI_K, m_uI_N, m_uI_R, m_uI_L, m_uI_I, m_uL_K, m_uL_N, m_uL_R, m_uL_I, m_uL_L, m_uR_K, m_uR_N, m_uR_I, m_uR_L, m_uR_R, true_and, and_true, true_implies, false_implies, not_true_eq_false, not_false_eq_true, if_true, if_false, false_and, and_false]
    refine m_pairs hD L1 h1 s1 (d + 14) _ (fun M2 g2 p2 => ?_)
    have h0 := hQ M2 (gF_trans g1 g2)
    have L2 := gF_LayN g2 L1
    have h9 := l_m_bar1 (d + 20) _ _ _ _ _ M2 Q (nI s) L2 p2 (dY_len hD s) (dBs_ord hD s) (dSn_w hD s) h0 (dY D s).length 0 (by omega) am_x (Or.inl rfl) (fun k hk => by omega)
    rw [tI_i (q := fitP (dWt D s) (dV D s) (dBs D s)) ⟨fun q => q.1, fun q => ⟨q, fun k hk => by omega⟩⟩] at h9
    simp +decide only [qX11_bars_0, qX11_bars_1, am_w1_i, am_w1_r, am_w1_x, am_w1_l, am_w1_w, va_rf_s, am_push_n, am_push_s, am_cs_0, am_cs_i, am_cs_l, am_cs_r, m_uI_K, m_uI_N, m_uI_R, m_uI_L, m_uI_I, m_uL_K, m_uL_N, m_uL_R, m_uL_I, m_uL_L, m_uR_K, m_uR_N, m_uR_I, m_uR_L, m_uR_R, true_and, and_true, true_implies, false_implies, not_true_eq_false, not_false_eq_true, if_true, if_false, false_and, and_false]
    exact h9
  · have h0 := hQ M (gF_refl _ _ _)
    rw [if_neg hv] at h0
    first | rw [br_n (hv)] | rw [br_q (hv)] | rw [br_u (hv)]
    exact h0
theorem op_bars (v : Int32) : OpI 124 269 [.int v] isI := op_q (fun D => ⟨_, rfl⟩) (x_bars v) (m_bars v)
end
section
/-! clash -/
def hrN (Y : List Sy) (i : Nat) : Int32 := nI (Y[i]?.getD (0, 0, false)).1
section
variable (w : Nat → Prop) (v : Nat) (snd : Nat → Bool → Prop) (B : List Fct) (Y : List Sy)
noncomputable def clA (k : Nat) : Int32 := if cl2 w v Y Y.length < Y.length ∧ cl2 w v Y Y.length < cl1 w v snd B Y then (if k = 0 then nI (cl3 w v Y (cl2 w v Y Y.length)) else if k = 1 then nI (cl2 w v Y Y.length) else hrN Y (cl3 w v Y (cl2 w v Y Y.length))) else if cl1 w v snd B Y < Y.length then (if k = 0 then -1 else if k = 1 then nI (cl1 w v snd B Y) else hrN Y (cl1 w v snd B Y)) else -1
end
noncomputable def aCls (v w : Int32) (D : Dat) : Value := .int (if (0 ≤ v.toInt ∧ v.toInt < dN D) ∧ 0 ≤ w.toInt ∧ w.toInt ≤ 2 then clA (dWt D v.toInt.toNat) (dV D v.toInt.toNat) (dSn D v.toInt.toNat) (dBs D v.toInt.toNat) (dY D v.toInt.toNat) w.toInt.toNat else -1)
theorem x_clash (v w : Int32) : XqO 125 [.int v, .int w] (aCls v w) := by
  intro d M z D Q hD h hQ
  have hz := h.1.2.2.1
  have hL := h.1.1
  have n8 := dN_8 hD
  have eS := fun v Q => x_isShip hD h (d + 19) v Q
  have e2 : (2 : Int32).toInt = 2 := rfl
  unfold aCls at hQ
  rw [eX10_clash]
  simp +decide only [qX10_clash_0, qX10_clash_1, lx hL, eS, bI_0, Classical.not_not, am_w1_i, am_w1_r, am_w1_x, am_w1_l, am_w1_w, va_rf_s, am_push_n, am_push_s, am_cs_0, am_cs_i, am_cs_l, am_cs_r, m_uI_K, m_uI_N, m_uI_R, m_uI_L, m_uI_I, m_uL_K, m_uL_N, m_uL_R, m_uL_I, m_uL_L, m_uR_K, m_uR_N, m_uR_I, m_uR_L, m_uR_R, true_and, and_true, true_implies, false_implies, not_true_eq_false, not_false_eq_true, if_true, if_false, false_and, and_false]
  by_cases hv : 0 ≤ v.toInt ∧ v.toInt < dN D
  · first | rw [br_p (hv)] | rw [br_r (hv)] | rw [br_s (hv)]
    by_cases w0 : w < 0
    · have h0 := hQ M (XR_2 h) h
      rw [if_neg (fun q => by rw [lt32, z32] at w0; omega)] at h0
      first | rw [br_p (w0)] | rw [br_r (w0)] | rw [br_s (w0)]
      exact h0
    · first | rw [br_n (w0)] | rw [br_q (w0)] | rw [br_u (w0)]
      rw [lt32, z32] at w0
      by_cases w2 : w ≤ 2
      · first | rw [br_p (w2)] | rw [br_r (w2)] | rw [br_s (w2)]
        rw [le32, e2] at w2
        rw [if_pos ⟨hv, by omega, by omega⟩] at hQ
        obtain ⟨s, s1, s2, s3⟩ := sh_of (by omega) hv
        rw [s3] at hQ
        obtain ⟨k, hk⟩ : ∃ k, w.toInt.toNat = k := ⟨_, rfl⟩
        have ek : w = nI k := i32_of (by omega) (by omega)
        rw [hk] at hQ
        rw [s2, ek]
        refine x_settled hD h (d + 14) s1 _ (fun M1 g1 X1 _ S1 => ?_)
        have L1 := X1.1.1
        have ht1 := lt_ L1 (isTr_of (show s < 8 by omega))
        have hT1 := (X1.2.2.2.1 s s1).1
        have ea := fun Q => c_x_clashAlone (d + 19) s (z + 25 + 7 * s) z (dV D s) (dWt D s) (dDp D) (dDr D s) (dLd D s) (dBs D s) (dY D s) M1 Q L1 (by omega) (isSh_z hz (by omega)) hT1 S1.2.1
        simp +decide only [qX10_clash_0, qX10_clash_1, ht1, ea, am_w1_i, am_w1_r, am_w1_x, am_w1_l, am_w1_w, va_rf_s, am_push_n, am_push_s, am_cs_0, am_cs_i, am_cs_l, am_cs_r, m_uI_K, m_uI_N, m_uI_R, m_uI_L, m_uI_I, m_uL_K, m_uL_N, m_uL_R, m_uL_I, m_uL_L, m_uR_K, m_uR_N, m_uR_I, m_uR_L, m_uR_R, true_and, and_true, true_implies, false_implies, not_true_eq_false, not_false_eq_true, if_true, if_false, false_and, and_false]
        refine c_x_clashOfTwo (d + 15) s (z + 25 + 7 * s) z (dV D s) (cl1 (dWt D s) (dV D s) (sndP (dDp D) (dDr D s) (dLd D s)) (dBs D s) (dY D s)) (dWt D s) (dDp D) (dDr D s) (dLd D s) (dBs D s) (dY D s) M1 _ L1 X1.1.2.1 (by omega) (isSh_z hz (by omega)) hz (fs_le _ _) hT1 (fun M2 g2 => ?_)
        have X2 := XR_r hD X1 g2
        have h0 := hQ M2 (zF_trans g1 (zF_r g2)) X2
        unfold clA at h0
        have L2 := X2.1.1
        have ht2 := lt_ L2 (isTr_of (show s < 8 by omega))
        have hw_ := lw_ L2 (isSh_z (z := z) (s := s) hz (by omega))
        have hg2 := (X2.2.2.2.1 s s1).1.2.1.1
        have h48 := dY_len hD s
        have hSy := (x_ship X2 s1).2.1
        have hk2 : k ≤ 2 := by omega
        rw [show dSn D s = sndP (dDp D) (dDr D s) (dLd D s) from rfl] at h0
        obtain ⟨a, ha⟩ : ∃ a, a = cl1 (dWt D s) (dV D s) (sndP (dDp D) (dDr D s) (dLd D s)) (dBs D s) (dY D s) := ⟨_, rfl⟩
        have hal : a ≤ (dY D s).length := by rw [ha]; exact fs_le _ _
        have hcut := fs_cut (c := fun i => decide (cl3 (dWt D s) (dV D s) (dY D s) i < i)) hal
        have hle2 : cl2 (dWt D s) (dV D s) (dY D s) (dY D s).length ≤ (dY D s).length := fs_le _ _
        rw [← ha] at h0 ⊢
        have hhr : ∀ i, i < (dY D s).length → mI M2 (z + 25 + 7 * s + 1) i = hrN (dY D s) i := fun i hi => by
          have e := List.getElem?_eq_getElem hi
          unfold hrN
          rw [e]
          exact (hSy.2.2 i _ e).2.1
        by_cases c : cl2 (dWt D s) (dV D s) (dY D s) a < a
        · have e1 : cl2 (dWt D s) (dV D s) (dY D s) (dY D s).length = cl2 (dWt D s) (dV D s) (dY D s) a := hcut.1 c
          rw [if_pos c]
          rw [e1, if_pos ⟨by omega, c⟩] at h0
          obtain ⟨l, hl⟩ : ∃ l, l = cl2 (dWt D s) (dV D s) (dY D s) a := ⟨_, rfl⟩
          rw [← hl] at h0 c ⊢
          have hl3 : cl3 (dWt D s) (dV D s) (dY D s) l < l := by
            have := fs_at (fun i => decide (cl3 (dWt D s) (dV D s) (dY D s) i < i)) a (by rw [show fs _ a = l from hl.symm]; exact c)
            rw [show fs _ a = l from hl.symm] at this
            exact of_decide_eq_true this
          obtain ⟨e, he⟩ : ∃ e, e = cl3 (dWt D s) (dV D s) (dY D s) l := ⟨_, rfl⟩
          rw [← he] at h0 hl3 ⊢
          have hne : ¬ nI (48 * l + e) = -1 := nI_m1 (by omega)
          have er : nI (48 * l + e) - nI l * 48 = nI e := by
            rw [show (48 : Int32) = nI 48 from rfl, ni_mul, ni_sub (by omega)]
            congr 1
            omega
          have ed : nI (48 * l + e) / 48 = nI l := by
            rw [show (48 : Int32) = nI 48 from rfl, ni_div (by omega) (by omega)]
            congr 1
            omega
          have he1 := hhr e (by omega)
          have d48 : ¬ (48 : Int32) = 0 := by decide
          simp +decide (disch := omega) only [qX10_clash_0, qX10_clash_1, er, ed, ht2, hg2, hw_, he1, ni_in_t, ni_tn, am_w1_i, am_w1_r, am_w1_x, am_w1_l, am_w1_w, va_rf_s, am_push_n, am_push_s, am_cs_0, am_cs_i, am_cs_l, am_cs_r, m_uI_K, m_uI_N, m_uI_R, m_uI_L, m_uI_I, m_uL_K, m_uL_N, m_uL_R, m_uL_I, m_uL_L, m_uR_K, m_uR_N, m_uR_I, m_uR_L, m_uR_R, true_and, and_true, true_implies, false_implies, not_true_eq_false, not_false_eq_true, if_true, if_false, false_and, and_false]
          first | rw [br_n (hne)] | rw [br_q (hne)] | rw [br_u (hne)]
          rcases (by omega : k = 0 ∨ k = 1 ∨ k = 2) with q | q | q <;> subst q
          · simp +decide only [show nI 0 = (0 : Int32) from rfl, if_true, am_w1_i, am_w1_r, am_w1_x, am_w1_l, am_w1_w, va_rf_s, am_push_n, am_push_s, am_cs_0, am_cs_i, am_cs_l, am_cs_r, m_uI_K, m_uI_N, m_uI_R, m_uI_L, m_uI_I, m_uL_K, m_uL_N, m_uL_R, m_uL_I, m_uL_L, m_uR_K, m_uR_N, m_uR_I, m_uR_L, m_uR_R, true_and, and_true, true_implies, false_implies, not_true_eq_false, not_false_eq_true, if_true, if_false, false_and, and_false] at h0 ⊢
            exact h0
          · simp +decide only [show nI 1 = (1 : Int32) from rfl, if_true, if_false, am_w1_i, am_w1_r, am_w1_x, am_w1_l, am_w1_w, va_rf_s, am_push_n, am_push_s, am_cs_0, am_cs_i, am_cs_l, am_cs_r, m_uI_K, m_uI_N, m_uI_R, m_uI_L, m_uI_I, m_uL_K, m_uL_N, m_uL_R, m_uL_I, m_uL_L, m_uR_K, m_uR_N, m_uR_I, m_uR_L, m_uR_R, true_and, and_true, true_implies, false_implies, not_true_eq_false, not_false_eq_true, if_true, if_false, false_and, and_false] at h0 ⊢
            exact h0
          · simp +decide only [show nI 2 = (2 : Int32) from rfl, if_true, if_false, am_w1_i, am_w1_r, am_w1_x, am_w1_l, am_w1_w, va_rf_s, am_push_n, am_push_s, am_cs_0, am_cs_i, am_cs_l, am_cs_r, m_uI_K, m_uI_N, m_uI_R, m_uI_L, m_uI_I, m_uL_K, m_uL_N, m_uL_R, m_uL_I, m_uL_L, m_uR_K, m_uR_N, m_uR_I, m_uR_L, m_uR_R, true_and, and_true, true_implies, false_implies, not_true_eq_false, not_false_eq_true, if_true, if_false, false_and, and_false] at h0 ⊢
            exact h0
        · have hge : a ≤ cl2 (dWt D s) (dV D s) (dY D s) (dY D s).length := by
            by_cases q : cl2 (dWt D s) (dV D s) (dY D s) a = a
            · exact hcut.2 q
            · have : cl2 (dWt D s) (dV D s) (dY D s) a ≤ a := fs_le _ _
              omega
          rw [if_neg c]
          rw [if_neg (by omega)] at h0
          unfold oI
          by_cases c2 : a < (dY D s).length
          · rw [if_pos c2] at h0 ⊢
            have hne : ¬ nI a = -1 := nI_m1 (by omega)
            have he1 := hhr a (by omega)
            simp +decide (disch := omega) only [qX10_clash_0, qX10_clash_1, ht2, hg2, hw_, he1, ni_in_t, ni_tn, am_w1_i, am_w1_r, am_w1_x, am_w1_l, am_w1_w, va_rf_s, am_push_n, am_push_s, am_cs_0, am_cs_i, am_cs_l, am_cs_r, m_uI_K, m_uI_N, m_uI_R, m_uI_L, m_uI_I, m_uL_K, m_uL_N, m_uL_R, m_uL_I, m_uL_L, m_uR_K, m_uR_N, m_uR_I, m_uR_L, m_uR_R, true_and, and_true, true_implies, false_implies, not_true_eq_false, not_false_eq_true, if_true, if_false, false_and, and_false]
            first | rw [br_n (hne)] | rw [br_q (hne)] | rw [br_u (hne)]
            rcases (by omega : k = 0 ∨ k = 1 ∨ k = 2) with q | q | q <;> subst q
            · simp +decide only [show nI 0 = (0 : Int32) from rfl, if_true, am_w1_i, am_w1_r, am_w1_x, am_w1_l, am_w1_w, va_rf_s, am_push_n, am_push_s, am_cs_0, am_cs_i, am_cs_l, am_cs_r, m_uI_K, m_uI_N, m_uI_R, m_uI_L, m_uI_I, m_uL_K, m_uL_N, m_uL_R, m_uL_I, m_uL_L, m_uR_K, m_uR_N, m_uR_I, m_uR_L, m_uR_R, true_and, and_true, true_implies, false_implies, not_true_eq_false, not_false_eq_true, if_true, if_false, false_and, and_false] at h0 ⊢
              exact h0
            · simp +decide only [show nI 1 = (1 : Int32) from rfl, if_true, if_false, am_w1_i, am_w1_r, am_w1_x, am_w1_l, am_w1_w, va_rf_s, am_push_n, am_push_s, am_cs_0, am_cs_i, am_cs_l, am_cs_r, m_uI_K, m_uI_N, m_uI_R, m_uI_L, m_uI_I, m_uL_K, m_uL_N, m_uL_R, m_uL_I, m_uL_L, m_uR_K, m_uR_N, m_uR_I, m_uR_L, m_uR_R, true_and, and_true, true_implies, false_implies, not_true_eq_false, not_false_eq_true, if_true, if_false, false_and, and_false] at h0 ⊢
              exact h0
            · simp +decide only [show nI 2 = (2 : Int32) from rfl, if_true, if_false, am_w1_i, am_w1_r, am_w1_x, am_w1_l, am_w1_w, va_rf_s, am_push_n, am_push_s, am_cs_0, am_cs_i, am_cs_l, am_cs_r, m_uI_K, m_uI_N, m_uI_R, m_uI_L, m_uI_I, m_uL_K, m_uL_N, m_uL_R, m_uL_I, m_uL_L, m_uR_K, m_uR_N, m_uR_I, m_uR_L, m_uR_R, true_and, and_true, true_implies, false_implies, not_true_eq_false, not_false_eq_true, if_true, if_false, false_and, and_false] at h0 ⊢
              exact h0
          · rw [if_neg c2] at h0 ⊢
            simp +decide only [qX10_clash_0, qX10_clash_1, am_w1_i, am_w1_r, am_w1_x, am_w1_l, am_w1_w, va_rf_s, am_push_n, am_push_s, am_cs_0, am_cs_i, am_cs_l, am_cs_r, m_uI_K, m_uI_N, m_uI_R, m_uI_L, m_uI_I, m_uL_K, m_uL_N, m_uL_R, m_uL_I, m_uL_L, m_uR_K, m_uR_N, m_uR_I, m_uR_L, m_uR_R, true_and, and_true, true_implies, false_implies, not_true_eq_false, not_false_eq_true, if_true, if_false, false_and, and_false]
            exact h0
      · have h0 := hQ M (XR_2 h) h
        rw [if_neg (fun q => w2 (by rw [le32, e2]; omega))] at h0
        first | rw [br_n (w2)] | rw [br_q (w2)] | rw [br_u (w2)]
        exact h0
  · have h0 := hQ M (XR_2 h) h
    rw [if_neg (fun q => hv q.1)] at h0
    first | rw [br_n (hv)] | rw [br_q (hv)] | rw [br_u (hv)]
    exact h0
theorem goF_symm {w : Nat → Prop} {v : Nat} {Y : List Sy} (i j : Nat) : goF w v Y i j = goF w v Y j i := by
  unfold goF
  congr 1
  apply propext
  constructor
  · rintro ⟨y, y', a, b, c⟩; exact ⟨y', y, b, a, gow_symm c⟩
  · rintro ⟨y, y', a, b, c⟩; exact ⟨y', y, b, a, gow_symm c⟩
section
variable (d : Nat) (w : Nat → Prop) (v : Nat) (snd : Nat → Bool → Prop) (B : List Fct) (Y : List Sy) (M : am_M) (Q : Option Value → am_M → Prop) (x1 x2 : Int32)
theorem l_m_cls2 (hL : Lay M) (hP : PrM w v snd B Y M Y.length) (h48 : Y.length ≤ 48) (i : Nat) (hi : i < Y.length) (x3 : Int32)
    (h1 : cl3 w v Y i = i → ∀ v7, jk v7 → am_P am_P0 d (am_look tX11_clash) 115 [.ref 277, .int x1, .int x2, .int x3, .int (-1), .int (-1), .int (nI i), v7] [] M Q)
    (h2 : cl3 w v Y i < i → ∀ v7, jk v7 → am_P am_P0 d (am_look tX11_clash) 115 [.ref 277, .int x1, .int x2, .int x3, .int (nI i), .int (nI (cl3 w v Y i)), .int (nI i), v7] [] M Q) :
    ∀ (m j : Nat), j + m = i → (∀ k, k < j → (!goF w v Y k i) = false) → am_P am_P0 d (am_look tX11_clash) 69 [.ref 277, .int x1, .int x2, .int x3, .int (-1), .int (-1), .int (nI i), .int (nI j)] [] M Q := by
  intro m
  induction m with
  | zero =>
    intro j hj hb
    have hle : nI i ≤ nI j := (ni_le (by omega) (by omega)).mpr (by omega)
    have h0 := h1 (fs_all (by rw [← (show j = i by omega)]; exact fun k hk => by rw [(show j = i by omega)]; exact hb k hk)) (.int (nI j)) (Or.inr ⟨_, rfl⟩)
    rw [hX11_clash_69]
    simp +decide only [qX11_clash_0, qX11_clash_1, qX11_clash_2, am_w1_i, am_w1_r, am_w1_x, am_w1_l, am_w1_w, va_rf_s, am_push_n, am_push_s, am_cs_0, am_cs_i, am_cs_l, am_cs_r, m_uI_K, m_uI_N, m_uI_R, m_uI_L, m_uI_I, m_uL_K, m_uL_N, m_uL_R, m_uL_I, m_uL_L, m_uR_K, m_uR_N, m_uR_I, m_uR_L, m_uR_R, true_and, and_true, true_implies, false_implies, not_true_eq_false, not_false_eq_true, if_true, if_false, false_and, and_false] at h0 ⊢
    first | rw [br_p (hle)] | rw [br_r (hle)] | rw [br_s (hle)]
    exact h0
  | succ m ih =>
    intro j hj hb
    have hlt : ¬ nI i ≤ nI j := by rw [ni_le (by omega) (by omega)]; omega
    have e48 : (48 : Int32) * nI i + nI j = nI (48 * i + j) := by rw [show (48 : Int32) = nI 48 from rfl, ni_mul, ni_add]
    obtain ⟨y, hy⟩ : ∃ y, Y[i]? = some y := ⟨Y[i]'hi, List.getElem?_eq_getElem hi⟩
    obtain ⟨y', hy'⟩ : ∃ y, Y[j]? = some y := ⟨Y[j]'(by omega), List.getElem?_eq_getElem (by omega)⟩
    have hg := hP.2.2 i j y y' hi hy hy'
    rw [hX11_clash_69]
    simp +decide (disch := omega) only [qX11_clash_0, qX11_clash_1, qX11_clash_2, lm hL, e48, hg, tI_01, tI_0, ni_in_t, ni_tn, ni_add1, am_w1_i, am_w1_r, am_w1_x, am_w1_l, am_w1_w, va_rf_s, am_push_n, am_push_s, am_cs_0, am_cs_i, am_cs_l, am_cs_r, m_uI_K, m_uI_N, m_uI_R, m_uI_L, m_uI_I, m_uL_K, m_uL_N, m_uL_R, m_uL_I, m_uL_L, m_uR_K, m_uR_N, m_uR_I, m_uR_L, m_uR_R, true_and, and_true, true_implies, false_implies, not_true_eq_false, not_false_eq_true, if_true, if_false, false_and, and_false]
    first | rw [br_n (hlt)] | rw [br_q (hlt)] | rw [br_u (hlt)]
    by_cases c : gowY w v y y'
    · first | rw [br_p (c)] | rw [br_r (c)] | rw [br_s (c)]
      exact ih (j + 1) (by omega) (fun k hk => by
        by_cases e : k = j
        · subst e; rw [goF_symm, (goF_y hy hy').mpr c]; rfl
        · exact hb k (by omega))
    · first | rw [br_n (c)] | rw [br_q (c)] | rw [br_u (c)]
      have e3 : cl3 w v Y i = j := fs_is hb (by omega) (by
        have : ¬ goF w v Y j i = true := fun q => c ((goF_y hy hy').mp (by rw [goF_symm]; exact q))
        simp [this])
      have h0 := h2 (by omega) (.int (nI (j + 1))) (Or.inr ⟨_, rfl⟩)
      rw [e3] at h0
      have hne : ¬ nI i = -1 := nI_m1 (by omega)
      rw [hX11_clash_69]
      simp +decide only [qX11_clash_0, qX11_clash_1, qX11_clash_2, am_w1_i, am_w1_r, am_w1_x, am_w1_l, am_w1_w, va_rf_s, am_push_n, am_push_s, am_cs_0, am_cs_i, am_cs_l, am_cs_r, m_uI_K, m_uI_N, m_uI_R, m_uI_L, m_uI_I, m_uL_K, m_uL_N, m_uL_R, m_uL_I, m_uL_L, m_uR_K, m_uR_N, m_uR_I, m_uR_L, m_uR_R, true_and, and_true, true_implies, false_implies, not_true_eq_false, not_false_eq_true, if_true, if_false, false_and, and_false] at h0 ⊢
      by_cases c3 : nI i ≤ nI (j + 1)
      · first | rw [br_p (c3)] | rw [br_r (c3)] | rw [br_s (c3)]
        exact h0
      · first | rw [br_n (c3)] | rw [br_q (c3)] | rw [br_u (c3)]
        first | rw [br_p (hne)] | rw [br_r (hne)] | rw [br_s (hne)]
        exact h0
/-- the first that clash, so far -/
theorem l_m_cls1 (hL : Lay M) (hP : PrM w v snd B Y M Y.length) (h48 : Y.length ≤ 48)
    (hN : ∀ v7, jk v7 → am_P am_P0 d (am_look tX11_clash) 121 [.ref 277, .int x1, .int x2, .int (oI (cl1 w v snd B Y) Y.length), .int (oI (cl2 w v Y Y.length) Y.length), .int (if cl2 w v Y Y.length < Y.length then nI (cl3 w v Y (cl2 w v Y Y.length)) else -1), .int (nI Y.length), v7] [] M Q) :
    ∀ (m i : Nat), i + m = Y.length → ∀ (v7 : Value), jk v7 → am_P am_P0 d (am_look tX11_clash) 35 [.ref 277, .int x1, .int x2, .int (oI (fs (fun i => !gdF w v snd B Y i) i) i), .int (oI (cl2 w v Y i) i), .int (if cl2 w v Y i < i then nI (cl3 w v Y (cl2 w v Y i)) else -1), .int (nI i), v7] [] M Q := by
  intro m
  induction m with
  | zero =>
    intro i hi v7 hv7
    have ei : i = Y.length := by omega
    subst ei
    have hle : nI Y.length ≤ nI Y.length := (ni_le (by omega) (by omega)).mpr (by omega)
    have h0 := hN v7 hv7
    rw [hX11_clash_35]
    simp +decide only [qX11_clash_0, qX11_clash_1, qX11_clash_2, lm hL, hP.1.1, jk_w hv7, am_w1_i, am_w1_r, am_w1_x, am_w1_l, am_w1_w, va_rf_s, am_push_n, am_push_s, am_cs_0, am_cs_i, am_cs_l, am_cs_r, m_uI_K, m_uI_N, m_uI_R, m_uI_L, m_uI_I, m_uL_K, m_uL_N, m_uL_R, m_uL_I, m_uL_L, m_uR_K, m_uR_N, m_uR_I, m_uR_L, m_uR_R, true_and, and_true, true_implies, false_implies, not_true_eq_false, not_false_eq_true, if_true, if_false, false_and, and_false] at h0 ⊢
    first | rw [br_p (hle)] | rw [br_r (hle)] | rw [br_s (hle)]
    exact h0
  | succ m ih =>
    intro i hi v7 hv7
    have hlt : ¬ nI Y.length ≤ nI i := by rw [ni_le (by omega) (by omega)]; omega
    obtain ⟨y, hy⟩ : ∃ y, Y[i]? = some y := ⟨Y[i]'(by omega), List.getElem?_eq_getElem (by omega)⟩
    have hg := hP.2.1 i y (by omega) hy
    have hi2 : i < Y.length := by omega
    -- behind the first choice
    have key : am_P am_P0 d (am_look tX11_clash) 69 [.ref 277, .int x1, .int x2, .int (oI (fs (fun i => !gdF w v snd B Y i) (i + 1)) (i + 1)), .int (oI (cl2 w v Y i) i), .int (if cl2 w v Y i < i then nI (cl3 w v Y (cl2 w v Y i)) else -1), .int (nI i), .int (nI 0)] [] M Q := by
      by_cases c : cl2 w v Y i < i
      · have e2 : cl2 w v Y (i + 1) = cl2 w v Y i := (fs_cut (c := fun i => decide (cl3 w v Y i < i)) (show i ≤ i + 1 by omega)).1 c
        have h0 := ih (i + 1) (by omega) (.int (nI 0)) (Or.inr ⟨_, rfl⟩)
        rw [e2, if_pos (by omega)] at h0
        unfold oI at h0 ⊢
        rw [if_pos (show cl2 w v Y i < i + 1 by omega)] at h0
        rw [if_pos c, if_pos c]
        have hne : ¬ nI (cl2 w v Y i) = -1 := nI_m1 (by omega)
        rw [hX11_clash_69]
        simp +decide only [qX11_clash_0, qX11_clash_1, qX11_clash_2, ni_add1, am_w1_i, am_w1_r, am_w1_x, am_w1_l, am_w1_w, va_rf_s, am_push_n, am_push_s, am_cs_0, am_cs_i, am_cs_l, am_cs_r, m_uI_K, m_uI_N, m_uI_R, m_uI_L, m_uI_I, m_uL_K, m_uL_N, m_uL_R, m_uL_I, m_uL_L, m_uR_K, m_uR_N, m_uR_I, m_uR_L, m_uR_R, true_and, and_true, true_implies, false_implies, not_true_eq_false, not_false_eq_true, if_true, if_false, false_and, and_false] at h0 ⊢
        by_cases c3 : nI i ≤ nI 0
        · first | rw [br_p (c3)] | rw [br_r (c3)] | rw [br_s (c3)]
          exact h0
        · first | rw [br_n (c3)] | rw [br_q (c3)] | rw [br_u (c3)]
          first | rw [br_p (hne)] | rw [br_r (hne)] | rw [br_s (hne)]
          exact h0
      · have e2 : cl2 w v Y i = i := by
          have : cl2 w v Y i ≤ i := fs_le _ _
          omega
        rw [show oI (cl2 w v Y i) i = -1 from by unfold oI; rw [if_neg c], if_neg c]
        refine l_m_cls2 d w v snd B Y M Q x1 x2 hL hP h48 i hi2 _ (fun e3 v7' hv7' => ?_) (fun e3 v7' hv7' => ?_) i 0 (by omega) (fun k hk => by omega)
        · have h0 := ih (i + 1) (by omega) v7' hv7'
          have e4 : cl2 w v Y (i + 1) = i + 1 := by
            show (if fs _ i < i then fs _ i else if decide (cl3 w v Y i < i) = true then i else i + 1) = i + 1
            rw [if_neg (show ¬ fs (fun i => decide (cl3 w v Y i < i)) i < i from c), if_neg (by simp; omega)]
          rw [e4, if_neg (by omega), show oI (i + 1) (i + 1) = -1 from by unfold oI; rw [if_neg (by omega)]] at h0
          simp +decide only [qX11_clash_0, qX11_clash_1, qX11_clash_2, ni_add1, jk_w hv7', am_w1_i, am_w1_r, am_w1_x, am_w1_l, am_w1_w, va_rf_s, am_push_n, am_push_s, am_cs_0, am_cs_i, am_cs_l, am_cs_r, m_uI_K, m_uI_N, m_uI_R, m_uI_L, m_uI_I, m_uL_K, m_uL_N, m_uL_R, m_uL_I, m_uL_L, m_uR_K, m_uR_N, m_uR_I, m_uR_L, m_uR_R, true_and, and_true, true_implies, false_implies, not_true_eq_false, not_false_eq_true, if_true, if_false, false_and, and_false] at h0 ⊢
          exact h0
        · have h0 := ih (i + 1) (by omega) v7' hv7'
          have e4 : cl2 w v Y (i + 1) = i := by
            show (if fs _ i < i then fs _ i else if decide (cl3 w v Y i < i) = true then i else i + 1) = i
            rw [if_neg (show ¬ fs (fun i => decide (cl3 w v Y i < i)) i < i from c), if_pos (by simp; omega)]
          rw [e4, if_pos (by omega), show oI i (i + 1) = nI i from by unfold oI; rw [if_pos (by omega)]] at h0
          simp +decide only [qX11_clash_0, qX11_clash_1, qX11_clash_2, ni_add1, jk_w hv7', am_w1_i, am_w1_r, am_w1_x, am_w1_l, am_w1_w, va_rf_s, am_push_n, am_push_s, am_cs_0, am_cs_i, am_cs_l, am_cs_r, m_uI_K, m_uI_N, m_uI_R, m_uI_L, m_uI_I, m_uL_K, m_uL_N, m_uL_R, m_uL_I, m_uL_L, m_uR_K, m_uR_N, m_uR_I, m_uR_L, m_uR_R, true_and, and_true, true_implies, false_implies, not_true_eq_false, not_false_eq_true, if_true, if_false, false_and, and_false] at h0 ⊢
          exact h0
    rw [hX11_clash_35]
    simp +decide (disch := omega) only [qX11_clash_0, qX11_clash_1, qX11_clash_2, lm hL, hP.1.1, hg, tI_01, tI_0, ni_in_t, ni_tn, jk_w hv7, Classical.not_not, am_w1_i, am_w1_r, am_w1_x, am_w1_l, am_w1_w, va_rf_s, am_push_n, am_push_s, am_cs_0, am_cs_i, am_cs_l, am_cs_r, m_uI_K, m_uI_N, m_uI_R, m_uI_L, m_uI_I, m_uL_K, m_uL_N, m_uL_R, m_uL_I, m_uL_L, m_uR_K, m_uR_N, m_uR_I, m_uR_L, m_uR_R, true_and, and_true, true_implies, false_implies, not_true_eq_false, not_false_eq_true, if_true, if_false, false_and, and_false]
    first | rw [br_n (hlt)] | rw [br_q (hlt)] | rw [br_u (hlt)]
    by_cases c : fs (fun i => !gdF w v snd B Y i) i < i
    · have e1 : fs (fun i => !gdF w v snd B Y i) (i + 1) = fs (fun i => !gdF w v snd B Y i) i := (fs_cut (c := fun i => !gdF w v snd B Y i) (show i ≤ i + 1 by omega)).1 c
      have e5 : oI (fs (fun i => !gdF w v snd B Y i) i) i = nI (fs (fun i => !gdF w v snd B Y i) i) := by unfold oI; rw [if_pos c]
      have hne : ¬ oI (fs (fun i => !gdF w v snd B Y i) i) i = -1 := by rw [e5]; exact nI_m1 (by omega)
      rw [e1, show oI (fs (fun i => !gdF w v snd B Y i) i) (i + 1) = oI (fs (fun i => !gdF w v snd B Y i) i) i from by rw [e5]; unfold oI; rw [if_pos (by omega)]] at key
      first | rw [br_n (hne)] | rw [br_q (hne)] | rw [br_u (hne)]
      exact key
    · have e5 : oI (fs (fun i => !gdF w v snd B Y i) i) i = -1 := by unfold oI; rw [if_neg c]
      have e1 : fs (fun i => !gdF w v snd B Y i) (i + 1) = if (!gdF w v snd B Y i) = true then i else i + 1 := by
        show (if fs _ i < i then fs _ i else if (!gdF w v snd B Y i) = true then i else i + 1) = _
        rw [if_neg c]
      first | rw [br_p (e5)] | rw [br_r (e5)] | rw [br_s (e5)]
      by_cases c2 : goodY w v snd B y
      · have e6 : (!gdF w v snd B Y i) = false := by rw [(gdF_y hy).mpr c2]; rfl
        rw [e6] at e1
        rw [e1, show (if false = true then i else i + 1) = i + 1 from rfl, show oI (i + 1) (i + 1) = -1 from by unfold oI; rw [if_neg (by omega)]] at key
        first | rw [br_p (c2)] | rw [br_r (c2)] | rw [br_s (c2)]
        rw [e5]
        exact key
      · have e6 : (!gdF w v snd B Y i) = true := by
          have : ¬ gdF w v snd B Y i = true := fun q => c2 ((gdF_y hy).mp q)
          simp [this]
        rw [e6] at e1
        rw [e1, show (if true = true then i else i + 1) = i from rfl, show oI i (i + 1) = nI i from by unfold oI; rw [if_pos (by omega)]] at key
        first | rw [br_n (c2)] | rw [br_q (c2)] | rw [br_u (c2)]
        exact key
end
theorem m_clash (v w : Int32) : MqO 270 [.int v, .int w] (aCls v w) := by
  intro d M b D Q hD hL h hQ
  have n8 := dN_8 hD
  have eS := fun v Q => m_isShip hD hL h (d + 18) v Q
  have e2 : (2 : Int32).toInt = 2 := rfl
  unfold aCls at hQ
  rw [eX11_clash]
  simp +decide only [qX11_clash_0, qX11_clash_1, qX11_clash_2, lm hL, eS, c_m_is, bI_0, Classical.not_not, am_w1_i, am_w1_r, am_w1_x, am_w1_l, am_w1_w, va_rf_s, am_push_n, am_push_s, am_cs_0, am_cs_i, am_cs_l, am_cs_r, m_uI_K, m_uI_N, m_uI_R, m_uI_L, m_uI_I, m_uL_K, m_uL_N, m_uL_R, m_uL_I, m_uL_L, m_uR_K, m_uR_N, m_uR_I, m_uR_L, m_uR_R, true_and, and_true, true_implies, false_implies, not_true_eq_false, not_false_eq_true, if_true, if_false, false_and, and_false]
  by_cases hv : 0 ≤ v.toInt ∧ v.toInt < dN D
  · first | rw [br_p (hv)] | rw [br_r (hv)] | rw [br_s (hv)]
    by_cases w2 : 0 ≤ w ∧ w ≤ 2
    · first | rw [br_p (w2)] | rw [br_r (w2)] | rw [br_s (w2)]
      rw [le32, le32, z32, e2] at w2
      rw [if_pos ⟨hv, w2⟩] at hQ
      obtain ⟨s, s1, s2, s3⟩ := sh_of (by omega) hv
      rw [s3] at hQ
      obtain ⟨k, hk⟩ : ∃ k, w.toInt.toNat = k := ⟨_, rfl⟩
      have ek : w = nI k := i32_of (by omega) (by omega)
      have hk2 : k ≤ 2 := by omega
      rw [hk] at hQ
      rw [s2, ek]
      refine m_pairs hD hL h s1 (d + 14) _ (fun M1 g1 p1 => ?_)
      have h0 := hQ M1 g1
      have L1 := gF_LayN g1 hL
      have h48 := dY_len hD s
      unfold clA at h0
      have h9 := l_m_cls1 (d + 20) (dWt D s) (dV D s) (dSn D s) (dBs D s) (dY D s) M1 Q (nI s) (nI k) L1 p1 h48 ?_ (dY D s).length 0 (by omega) am_x (Or.inl rfl)
      · simp +decide only [qX11_clash_0, qX11_clash_1, qX11_clash_2, am_w1_i, am_w1_r, am_w1_x, am_w1_l, am_w1_w, va_rf_s, am_push_n, am_push_s, am_cs_0, am_cs_i, am_cs_l, am_cs_r, m_uI_K, m_uI_N, m_uI_R, m_uI_L, m_uI_I, m_uL_K, m_uL_N, m_uL_R, m_uL_I, m_uL_L, m_uR_K, m_uR_N, m_uR_I, m_uR_L, m_uR_R, true_and, and_true, true_implies, false_implies, not_true_eq_false, not_false_eq_true, if_true, if_false, false_and, and_false]
        exact h9
      · intro v7 hv7
        have hhr : ∀ i, i < (dY D s).length → mI M1 322 i = hrN (dY D s) i := fun i hi => by
          have e := List.getElem?_eq_getElem hi
          unfold hrN
          rw [e]
          exact p1.1.2 i _ e
        obtain ⟨a, ha⟩ : ∃ a, a = cl1 (dWt D s) (dV D s) (dSn D s) (dBs D s) (dY D s) := ⟨_, rfl⟩
        have hal : a ≤ (dY D s).length := by rw [ha]; exact fs_le _ _
        obtain ⟨l, hl⟩ : ∃ l, l = cl2 (dWt D s) (dV D s) (dY D s) (dY D s).length := ⟨_, rfl⟩
        have hll : l ≤ (dY D s).length := by rw [hl]; exact fs_le _ _
        obtain ⟨e, he⟩ : ∃ e, e = cl3 (dWt D s) (dV D s) (dY D s) l := ⟨_, rfl⟩
        have hel : e ≤ l := by rw [he]; exact fs_le _ _
        have hel2 : l < (dY D s).length → e < l := fun q => by
          have := fs_at (fun i => decide (cl3 (dWt D s) (dV D s) (dY D s) i < i)) (dY D s).length (by rw [show fs _ (dY D s).length = l from hl.symm]; exact q)
          rw [show fs _ (dY D s).length = l from hl.symm] at this
          rw [he]
          exact of_decide_eq_true this
        rw [← ha, ← hl, ← he] at h0 ⊢
        unfold oI
        by_cases ca : a < (dY D s).length
        · have na : ¬ nI a = -1 := nI_m1 (by omega)
          rw [if_pos ca]
          by_cases cl : l < (dY D s).length
          · have nl : ¬ nI l = -1 := nI_m1 (by omega)
            have he' := hel2 cl
            rw [if_pos cl, if_pos cl]
            simp +decide (disch := omega) only [qX11_clash_0, qX11_clash_1, qX11_clash_2, lm L1, na, nl, hhr a ca, hhr e (by omega), ni_in_t, ni_tn, ni_lt, am_w1_i, am_w1_r, am_w1_x, am_w1_l, am_w1_w, va_rf_s, am_push_n, am_push_s, am_cs_0, am_cs_i, am_cs_l, am_cs_r, m_uI_K, m_uI_N, m_uI_R, m_uI_L, m_uI_I, m_uL_K, m_uL_N, m_uL_R, m_uL_I, m_uL_L, m_uR_K, m_uR_N, m_uR_I, m_uR_L, m_uR_R, true_and, and_true, true_implies, false_implies, not_true_eq_false, not_false_eq_true, if_true, if_false, false_and, and_false]
            by_cases c : l < a
            · rw [if_pos ⟨cl, c⟩] at h0
              first | rw [br_p (c)] | rw [br_r (c)] | rw [br_s (c)]
              rcases (by omega : k = 0 ∨ k = 1 ∨ k = 2) with q | q | q <;> subst q
              · simp +decide only [show nI 0 = (0 : Int32) from rfl, if_true, am_w1_i, am_w1_r, am_w1_x, am_w1_l, am_w1_w, va_rf_s, am_push_n, am_push_s, am_cs_0, am_cs_i, am_cs_l, am_cs_r, m_uI_K, m_uI_N, m_uI_R, m_uI_L, m_uI_I, m_uL_K, m_uL_N, m_uL_R, m_uL_I, m_uL_L, m_uR_K, m_uR_N, m_uR_I, m_uR_L, m_uR_R, true_and, and_true, true_implies, false_implies, not_true_eq_false, not_false_eq_true, if_true, if_false, false_and, and_false] at h0 ⊢
                exact h0
              · simp +decide only [show nI 1 = (1 : Int32) from rfl, if_true, if_false, am_w1_i, am_w1_r, am_w1_x, am_w1_l, am_w1_w, va_rf_s, am_push_n, am_push_s, am_cs_0, am_cs_i, am_cs_l, am_cs_r, m_uI_K, m_uI_N, m_uI_R, m_uI_L, m_uI_I, m_uL_K, m_uL_N, m_uL_R, m_uL_I, m_uL_L, m_uR_K, m_uR_N, m_uR_I, m_uR_L, m_uR_R, true_and, and_true, true_implies, false_implies, not_true_eq_false, not_false_eq_true, if_true, if_false, false_and, and_false] at h0 ⊢
                exact h0
              · simp +decide only [show nI 2 = (2 : Int32) from rfl, if_true, if_false, am_w1_i, am_w1_r, am_w1_x, am_w1_l, am_w1_w, va_rf_s, am_push_n, am_push_s, am_cs_0, am_cs_i, am_cs_l, am_cs_r, m_uI_K, m_uI_N, m_uI_R, m_uI_L, m_uI_I, m_uL_K, m_uL_N, m_uL_R, m_uL_I, m_uL_L, m_uR_K, m_uR_N, m_uR_I, m_uR_L, m_uR_R, true_and, and_true, true_implies, false_implies, not_true_eq_false, not_false_eq_true, if_true, if_false, false_and, and_false] at h0 ⊢
                exact h0
            · rw [if_neg (fun q => c q.2), if_pos ca] at h0
              first | rw [br_n (c)] | rw [br_q (c)] | rw [br_u (c)]
              rcases (by omega : k = 0 ∨ k = 1 ∨ k = 2) with q | q | q <;> subst q
              · simp +decide only [show nI 0 = (0 : Int32) from rfl, if_true, am_w1_i, am_w1_r, am_w1_x, am_w1_l, am_w1_w, va_rf_s, am_push_n, am_push_s, am_cs_0, am_cs_i, am_cs_l, am_cs_r, m_uI_K, m_uI_N, m_uI_R, m_uI_L, m_uI_I, m_uL_K, m_uL_N, m_uL_R, m_uL_I, m_uL_L, m_uR_K, m_uR_N, m_uR_I, m_uR_L, m_uR_R, true_and, and_true, true_implies, false_implies, not_true_eq_false, not_false_eq_true, if_true, if_false, false_and, and_false] at h0 ⊢
                exact h0
              · simp +decide only [show nI 1 = (1 : Int32) from rfl, if_true, if_false, am_w1_i, am_w1_r, am_w1_x, am_w1_l, am_w1_w, va_rf_s, am_push_n, am_push_s, am_cs_0, am_cs_i, am_cs_l, am_cs_r, m_uI_K, m_uI_N, m_uI_R, m_uI_L, m_uI_I, m_uL_K, m_uL_N, m_uL_R, m_uL_I, m_uL_L, m_uR_K, m_uR_N, m_uR_I, m_uR_L, m_uR_R, true_and, and_true, true_implies, false_implies, not_true_eq_false, not_false_eq_true, if_true, if_false, false_and, and_false] at h0 ⊢
                exact h0
              · simp +decide only [show nI 2 = (2 : Int32) from rfl, if_true, if_false, am_w1_i, am_w1_r, am_w1_x, am_w1_l, am_w1_w, va_rf_s, am_push_n, am_push_s, am_cs_0, am_cs_i, am_cs_l, am_cs_r, m_uI_K, m_uI_N, m_uI_R, m_uI_L, m_uI_I, m_uL_K, m_uL_N, m_uL_R, m_uL_I, m_uL_L, m_uR_K, m_uR_N, m_uR_I, m_uR_L, m_uR_R, true_and, and_true, true_implies, false_implies, not_true_eq_false, not_false_eq_true, if_true, if_false, false_and, and_false] at h0 ⊢
                exact h0
          · rw [if_neg cl, if_neg cl]
            rw [if_neg (fun q => cl q.1), if_pos ca] at h0
            simp +decide (disch := omega) only [qX11_clash_0, qX11_clash_1, qX11_clash_2, lm L1, na, hhr a ca, ni_in_t, ni_tn, am_w1_i, am_w1_r, am_w1_x, am_w1_l, am_w1_w, va_rf_s, am_push_n, am_push_s, am_cs_0, am_cs_i, am_cs_l, am_cs_r, m_uI_K, m_uI_N, m_uI_R, m_uI_L, m_uI_I, m_uL_K, m_uL_N, m_uL_R, m_uL_I, m_uL_L, m_uR_K, m_uR_N, m_uR_I, m_uR_L, m_uR_R, true_and, and_true, true_implies, false_implies, not_true_eq_false, not_false_eq_true, if_true, if_false, false_and, and_false]
            rcases (by omega : k = 0 ∨ k = 1 ∨ k = 2) with q | q | q <;> subst q
            · simp +decide only [show nI 0 = (0 : Int32) from rfl, if_true, am_w1_i, am_w1_r, am_w1_x, am_w1_l, am_w1_w, va_rf_s, am_push_n, am_push_s, am_cs_0, am_cs_i, am_cs_l, am_cs_r, m_uI_K, m_uI_N, m_uI_R, m_uI_L, m_uI_I, m_uL_K, m_uL_N, m_uL_R, m_uL_I, m_uL_L, m_uR_K, m_uR_N, m_uR_I, m_uR_L, m_uR_R, true_and, and_true, true_implies, false_implies, not_true_eq_false, not_false_eq_true, if_true, if_false, false_and, and_false] at h0 ⊢
              exact h0
            · simp +decide only [show nI 1 = (1 : Int32) from rfl, if_true, if_false, am_w1_i, am_w1_r, am_w1_x, am_w1_l, am_w1_w, va_rf_s, am_push_n, am_push_s, am_cs_0, am_cs_i, am_cs_l, am_cs_r, m_uI_K, m_uI_N, m_uI_R, m_uI_L, m_uI_I, m_uL_K, m_uL_N, m_uL_R, m_uL_I, m_uL_L, m_uR_K, m_uR_N, m_uR_I, m_uR_L, m_uR_R, true_and, and_true, true_implies, false_implies, not_true_eq_false, not_false_eq_true, if_true, if_false, false_and, and_false] at h0 ⊢
              exact h0
            · simp +decide only [show nI 2 = (2 : Int32) from rfl, if_true, if_false, am_w1_i, am_w1_r, am_w1_x, am_w1_l, am_w1_w, va_rf_s, am_push_n, am_push_s, am_cs_0, am_cs_i, am_cs_l, am_cs_r, m_uI_K, m_uI_N, m_uI_R, m_uI_L, m_uI_I, m_uL_K, m_uL_N, m_uL_R, m_uL_I, m_uL_L, m_uR_K, m_uR_N, m_uR_I, m_uR_L, m_uR_R, true_and, and_true, true_implies, false_implies, not_true_eq_false, not_false_eq_true, if_true, if_false, false_and, and_false] at h0 ⊢
              exact h0
        · rw [if_neg ca]
          by_cases cl : l < (dY D s).length
          · have nl : ¬ nI l = -1 := nI_m1 (by omega)
            have he' := hel2 cl
            rw [if_pos ⟨cl, by omega⟩] at h0
            rw [if_pos cl, if_pos cl]
            simp +decide (disch := omega) only [qX11_clash_0, qX11_clash_1, qX11_clash_2, lm L1, nl, hhr e (by omega), ni_in_t, ni_tn, am_w1_i, am_w1_r, am_w1_x, am_w1_l, am_w1_w, va_rf_s, am_push_n, am_push_s, am_cs_0, am_cs_i, am_cs_l, am_cs_r, m_uI_K, m_uI_N, m_uI_R, m_uI_L, m_uI_I, m_uL_K, m_uL_N, m_uL_R, m_uL_I, m_uL_L, m_uR_K, m_uR_N, m_uR_I, m_uR_L, m_uR_R, true_and, and_true, true_implies, false_implies, not_true_eq_false, not_false_eq_true, if_true, if_false, false_and, and_false]
            rcases (by omega : k = 0 ∨ k = 1 ∨ k = 2) with q | q | q <;> subst q
            · simp +decide only [show nI 0 = (0 : Int32) from rfl, if_true, am_w1_i, am_w1_r, am_w1_x, am_w1_l, am_w1_w, va_rf_s, am_push_n, am_push_s, am_cs_0, am_cs_i, am_cs_l, am_cs_r, m_uI_K, m_uI_N, m_uI_R, m_uI_L, m_uI_I, m_uL_K, m_uL_N, m_uL_R, m_uL_I, m_uL_L, m_uR_K, m_uR_N, m_uR_I, m_uR_L, m_uR_R, true_and, and_true, true_implies, false_implies, not_true_eq_false, not_false_eq_true, if_true, if_false, false_and, and_false] at h0 ⊢
              exact h0
            · simp +decide only [show nI 1 = (1 : Int32) from rfl, if_true, if_false, am_w1_i, am_w1_r, am_w1_x, am_w1_l, am_w1_w, va_rf_s, am_push_n, am_push_s, am_cs_0, am_cs_i, am_cs_l, am_cs_r, m_uI_K, m_uI_N, m_uI_R, m_uI_L, m_uI_I, m_uL_K, m_uL_N, m_uL_R, m_uL_I, m_uL_L, m_uR_K, m_uR_N, m_uR_I, m_uR_L, m_uR_R, true_and, and_true, true_implies, false_implies, not_true_eq_false, not_false_eq_true, if_true, if_false, false_and, and_false] at h0 ⊢
              exact h0
            · simp +decide only [show nI 2 = (2 : Int32) from rfl, if_true, if_false, am_w1_i, am_w1_r, am_w1_x, am_w1_l, am_w1_w, va_rf_s, am_push_n, am_push_s, am_cs_0, am_cs_i, am_cs_l, am_cs_r, m_uI_K, m_uI_N, m_uI_R, m_uI_L, m_uI_I, m_uL_K, m_uL_N, m_uL_R, m_uL_I, m_uL_L, m_uR_K, m_uR_N, m_uR_I, m_uR_L, m_uR_R, true_and, and_true, true_implies, false_implies, not_true_eq_false, not_false_eq_true, if_true, if_false, false_and, and_false] at h0 ⊢
              exact h0
          · rw [if_neg (fun q => cl q.1), if_neg ca] at h0
            rw [if_neg cl, if_neg cl]
            simp +decide only [qX11_clash_0, qX11_clash_1, qX11_clash_2, am_w1_i, am_w1_r, am_w1_x, am_w1_l, am_w1_w, va_rf_s, am_push_n, am_push_s, am_cs_0, am_cs_i, am_cs_l, am_cs_r, m_uI_K, m_uI_N, m_uI_R, m_uI_L, m_uI_I, m_uL_K, m_uL_N, m_uL_R, m_uL_I, m_uL_L, m_uR_K, m_uR_N, m_uR_I, m_uR_L, m_uR_R, true_and, and_true, true_implies, false_implies, not_true_eq_false, not_false_eq_true, if_true, if_false, false_and, and_false]
            exact h0
    · have h0 := hQ M (gF_refl _ _ _)
      rw [if_neg (fun q => w2 (by rw [le32, le32, z32, e2]; exact q.2))] at h0
      first | rw [br_n (w2)] | rw [br_q (w2)] | rw [br_u (w2)]
      exact h0
  · have h0 := hQ M (gF_refl _ _ _)
    rw [if_neg (fun q => hv q.1)] at h0
    first | rw [br_n (hv)] | rw [br_q (hv)] | rw [br_u (hv)]
    exact h0
theorem op_clash (v w : Int32) : OpI 125 270 [.int v, .int w] isI := op_q (fun D => ⟨_, rfl⟩) (x_clash v w) (m_clash v w)
end
section
/-! the model: two sets -/
def sI : Option Bool → Int32
  | none => -1
  | some true => 0
  | some false => 1
theorem sI_n {o : Option Bool} : sI o = -1 ↔ o = none := by
  rcases o with - | - | - <;> simp [sI] <;> decide
theorem sI_e {a b : Bool} : sI (some a) = sI (some b) ↔ a = b := by
  cases a <;> cases b <;> decide
theorem sI_1 (b : Bool) : 1 - sI (some b) = sI (some (!b)) := by
  cases b <;> decide
theorem sI_0 {o : Option Bool} : sI o = 0 ↔ o = some true := by
  rcases o with - | - | - <;> decide
def SeM (M : am_M) (n : Nat) (S : Nat → Option Bool) : Prop := ∀ i, i < n → mI M 328 i = sI (S i)
def s328 (a _j : Nat) : Prop := a = 328
theorem PrM_g {w : Nat → Prop} {v : Nat} {snd : Nat → Bool → Prop} {B : List Fct} {Y : List Sy} {M M' : am_M} {n : Nat} {S T' : Nat → Nat → Prop} (h : PrM w v snd B Y M n) (hg : gF S T' M M') (hS : ∀ a j, (a = 277 ∧ j = 65) ∨ a = 322 ∨ a = 323 ∨ a = 325 → ¬ S a j) : PrM w v snd B Y M' n := PrM_S h (hg.1 _ _ (hS _ _ (by omega))) (fun j => hg.1 _ _ (hS _ _ (by omega))) (fun j => hg.1 _ _ (hS _ _ (by omega))) (fun j => hg.1 _ _ (hS _ _ (by omega)))
section
variable (w : Nat → Prop) (v : Nat) (snd : Nat → Bool → Prop) (B : List Fct) (Y : List Sy) (S1 : Nat → Option Bool)
def PtI (M : am_M) (S : Nat → Option Bool) : Prop := SeM M Y.length S ∧ (∀ i b, S1 i = some b → S i = some b) ∧ (∀ c, colV Y.length (KY w v Y) (gY w v snd B Y) c → colX Y.length S1 c → colX Y.length S c) ∧ ((∀ i j, i < Y.length → j < Y.length → ¬ KY w v Y i j) → ∀ i, i < Y.length → S i = S1 i)
def PtX (Ss S : Nat → Option Bool) (x : Int32) (i j : Nat) : Prop := (x = 1 ∧ cnt (fun i => (Ss i).isSome) Y.length < cnt (fun i => (S i).isSome) Y.length) ∨ (x = 0 ∧ (∀ i, i < Y.length → S i = Ss i) ∧ ∀ i' j', i' < Y.length → j' < Y.length → (i' < i ∨ (i' = i ∧ j' < j)) → KY w v Y i' j' → ∀ b, S i' = some b → S j' = some (!b))
variable (d : Nat) (M0 : am_M) (Q : Option Value → am_M → Prop) (x1 x2 : Int32)
theorem l_m_pt3 (hL0 : Lay M0) (hP0 : PrM w v snd B Y M0 Y.length) (h48 : Y.length ≤ 48) (hself : ∀ y, y ∈ Y → gowY w v y y) (Ss : Nat → Option Bool) (i : Nat) (hi : i < Y.length)
    (hF : ∀ M', gF s328 nT M0 M' → (∀ c, colV Y.length (KY w v Y) (gY w v snd B Y) c → ¬ colX Y.length S1 c) → Q (some (.int 0)) M')
    (hN : ∀ M' S x v5, gF s328 nT M0 M' → PtI w v snd B Y S1 M' S → PtX w v Y Ss S x (i + 1) 0 → jk v5 → am_P am_P0 d (am_look tX11_parts) 18 [.ref 277, .int x1, .int x2, .int x, .int (nI (i + 1)), v5] [] M' Q) :
    ∀ (m j : Nat), j + m = Y.length → ∀ (M : am_M) (S : Nat → Option Bool) (x : Int32), gF s328 nT M0 M → PtI w v snd B Y S1 M S → PtX w v Y Ss S x i j → am_P am_P0 d (am_look tX11_parts) 30 [.ref 277, .int x1, .int x2, .int x, .int (nI i), .int (nI j)] [] M Q := by
  intro m
  induction m with
  | zero =>
    intro j hj M S x hM hI hX
    have hL := gF_LayN hM hL0
    have hP := PrM_g hP0 hM (fun a j q z => by have z' : a = 328 := z; omega)
    have hle : nI Y.length ≤ nI j := (ni_le (by omega) (by omega)).mpr (by omega)
    have h0 := hN M S x (.int (nI j)) hM hI (by
      rcases hX with q | ⟨q1, q2, q3⟩
      · exact Or.inl q
      · refine Or.inr ⟨q1, q2, fun i' j' a1 a2 a3 => q3 i' j' a1 a2 ?_⟩
        omega) (Or.inr ⟨_, rfl⟩)
    rw [hX11_parts_30]
    simp +decide only [qX11_parts_0, qX11_parts_1, qX11_parts_2, lm hL, hP.1.1, ni_add1, am_w1_i, am_w1_r, am_w1_x, am_w1_l, am_w1_w, va_rf_s, am_push_n, am_push_s, am_cs_0, am_cs_i, am_cs_l, am_cs_r, m_uI_K, m_uI_N, m_uI_R, m_uI_L, m_uI_I, m_uL_K, m_uL_N, m_uL_R, m_uL_I, m_uL_L, m_uR_K, m_uR_N, m_uR_I, m_uR_L, m_uR_R, true_and, and_true, true_implies, false_implies, not_true_eq_false, not_false_eq_true, if_true, if_false, false_and, and_false] at h0 ⊢
    first | rw [br_p (hle)] | rw [br_r (hle)] | rw [br_s (hle)]
    exact h0
  | succ m ih =>
    intro j hj M S x hM hI hX
    have hL := gF_LayN hM hL0
    have hP := PrM_g hP0 hM (fun a j q z => by have z' : a = 328 := z; omega)
    have hlt : ¬ nI Y.length ≤ nI j := by rw [ni_le (by omega) (by omega)]; omega
    have e48 : (48 : Int32) * nI i + nI j = nI (48 * i + j) := by rw [show (48 : Int32) = nI 48 from rfl, ni_mul, ni_add]
    obtain ⟨y, hy⟩ : ∃ y, Y[i]? = some y := ⟨Y[i]'hi, List.getElem?_eq_getElem hi⟩
    obtain ⟨y', hy'⟩ : ∃ y, Y[j]? = some y := ⟨Y[j]'(by omega), List.getElem?_eq_getElem (by omega)⟩
    have hg := hP.2.2 i j y y' hi hy hy'
    have hsi := hI.1 i hi
    have hsj := hI.1 j (by omega)
    rw [hX11_parts_30]
    simp +decide (disch := omega) only [qX11_parts_0, qX11_parts_1, qX11_parts_2, lm hL, hP.1.1, hsi, hsj, e48, hg, tI_01, tI_0, ni_in_t, ni_tn, ni_add1, Classical.not_not, am_w1_i, am_w1_r, am_w1_x, am_w1_l, am_w1_w, va_rf_s, am_push_n, am_push_s, am_cs_0, am_cs_i, am_cs_l, am_cs_r, m_uI_K, m_uI_N, m_uI_R, m_uI_L, m_uI_I, m_uL_K, m_uL_N, m_uL_R, m_uL_I, m_uL_L, m_uR_K, m_uR_N, m_uR_I, m_uR_L, m_uR_R, true_and, and_true, true_implies, false_implies, not_true_eq_false, not_false_eq_true, if_true, if_false, false_and, and_false]
    first | rw [br_n (hlt)] | rw [br_q (hlt)] | rw [br_u (hlt)]
    cases hSi : S i with
    | none =>
      have h0 := hN M S x (.int (nI j)) hM hI (by
        rcases hX with q | ⟨q1, q2, q3⟩
        · exact Or.inl q
        · refine Or.inr ⟨q1, q2, fun i' j' a1 a2 a3 a4 b hb => ?_⟩
          by_cases e : i' = i
          · subst e; rw [hSi] at hb; cases hb
          · exact q3 i' j' a1 a2 (by omega) a4 b hb) (Or.inr ⟨_, rfl⟩)
      simp +decide only [sI, qX11_parts_0, qX11_parts_1, qX11_parts_2, am_w1_i, am_w1_r, am_w1_x, am_w1_l, am_w1_w, va_rf_s, am_push_n, am_push_s, am_cs_0, am_cs_i, am_cs_l, am_cs_r, m_uI_K, m_uI_N, m_uI_R, m_uI_L, m_uI_I, m_uL_K, m_uL_N, m_uL_R, m_uL_I, m_uL_L, m_uR_K, m_uR_N, m_uR_I, m_uR_L, m_uR_R, true_and, and_true, true_implies, false_implies, not_true_eq_false, not_false_eq_true, if_true, if_false, false_and, and_false] at h0 ⊢
      exact h0
    | some b =>
      have hne : ¬ sI (some b) = -1 := fun q => by rw [sI_n] at q; cases q
      first | rw [br_n (hne)] | rw [br_q (hne)] | rw [br_u (hne)]
      by_cases c : gowY w v y y'
      · first | rw [br_p (c)] | rw [br_r (c)] | rw [br_s (c)]
        refine ih (j + 1) (by omega) M S x hM hI ?_
        rcases hX with q | ⟨q1, q2, q3⟩
        · exact Or.inl q
        · refine Or.inr ⟨q1, q2, fun i' j' a1 a2 a3 a4 b hb => ?_⟩
          by_cases e : i' = i ∧ j' = j
          · obtain ⟨rfl, rfl⟩ := e
            exact absurd c ((KY_y hy hy').mp a4).2
          · exact q3 i' j' a1 a2 (by omega) a4 b hb
      · first | rw [br_n (c)] | rw [br_q (c)] | rw [br_u (c)]
        have hij : ¬ i = j := fun q => by
          subst q
          rw [hy] at hy'
          cases hy'
          exact c (hself y (List.mem_of_getElem? hy))
        have hK : KY w v Y i j := (KY_y hy hy').mpr ⟨hij, c⟩
        cases hSj : S j with
        | none =>
          have hne2 : ¬ sI none = sI (some b) := fun q => hne q.symm
          have e1 := sI_1 b
          obtain ⟨S2, hS2⟩ : ∃ S2 : Nat → Option Bool, S2 = fun k => if k = j then some (!b) else S k := ⟨_, rfl⟩
          have w1 : gF s328 nT M (uI M 328 j (sI (some (!b)))) := gF_i _ rfl
          have hcl : cnt (fun i => (S i).isSome) Y.length < cnt (fun i => (S2 i).isSome) Y.length := cnt_sub_lt (i := j) (fun k hk q => by
            rw [hS2]
            (try dsimp only)
            by_cases e : k = j
            · rw [if_pos e]; rfl
            · rw [if_neg e]; exact q) (by omega) (by rw [hSj]; simp) (by rw [hS2]; simp)
          have h0 := ih (j + 1) (by omega) (uI M 328 j (sI (some (!b)))) S2 1 (gF_trans hM w1) ⟨fun k hk => by
              rw [m_uI_I, hS2]
              dsimp only
              by_cases e : k = j
              · rw [if_pos ⟨rfl, e⟩, if_pos e]
              · rw [if_neg (by omega), if_neg e]; exact hI.1 k hk, fun k b' hb' => by
              rw [hS2]
              dsimp only
              by_cases e : k = j
              · have := hI.2.1 k b' hb'; rw [e, hSj] at this; cases this
              · rw [if_neg e]; exact hI.2.1 k b' hb', fun c' hc' hx' k b' hk hb' => by
              have hX2 := hI.2.2.1 c' hc' hx'
              rw [hS2] at hb'
              dsimp only at hb'
              by_cases e : k = j
              · rw [if_pos e] at hb'
                cases hb'
                have e2 := hc'.1 i j hi (by omega) hK
                rw [hX2 i b hi hSi] at e2
                rw [e, e2]
                simp
              · rw [if_neg e] at hb'; exact hX2 k b' hk hb', fun hno => absurd hK (hno i j hi (by omega))⟩ (by
              refine Or.inl ⟨rfl, ?_⟩
              rcases hX with q | ⟨q1, q2, q3⟩
              · omega
              · have := cnt_sub (g := fun i => (Ss i).isSome) (g' := fun i => (S i).isSome) (n := Y.length) (fun k hk q => by rw [q2 k hk]; exact q)
                omega)
          first | rw [br_n (hne2)] | rw [br_q (hne2)] | rw [br_u (hne2)]
          rw [e1]
          simp +decide only [sI, am_w1_i, am_w1_r, am_w1_x, am_w1_l, am_w1_w, va_rf_s, am_push_n, am_push_s, am_cs_0, am_cs_i, am_cs_l, am_cs_r, m_uI_K, m_uI_N, m_uI_R, m_uI_L, m_uI_I, m_uL_K, m_uL_N, m_uL_R, m_uL_I, m_uL_L, m_uR_K, m_uR_N, m_uR_I, m_uR_L, m_uR_R, true_and, and_true, true_implies, false_implies, not_true_eq_false, not_false_eq_true, if_true, if_false, false_and, and_false] at h0 ⊢
          by_cases cx : x = 0
          · first | rw [br_p (cx)] | rw [br_r (cx)] | rw [br_s (cx)]
            exact h0
          · first | rw [br_n (cx)] | rw [br_q (cx)] | rw [br_u (cx)]
            exact h0
        | some b' =>
          by_cases ce : b' = b
          · subst ce
            have h0 := hF M hM (fun c' hc' hx' => by
              have hX2 := hI.2.2.1 c' hc' hx'
              have e2 := hc'.1 i j hi (by omega) hK
              rw [hX2 i b' hi hSi, hX2 j b' (by omega) hSj] at e2
              cases b' <;> cases e2)
            have ee : sI (some b') = sI (some b') := rfl
            first | rw [br_p (ee)] | rw [br_r (ee)] | rw [br_s (ee)]
            exact h0
          · have eb : b' = !b := by cases b <;> cases b' <;> simp_all
            have hne2 : ¬ sI (some b') = sI (some b) := fun q => ce (sI_e.mp q)
            have hne3 : ¬ sI (some b') = -1 := fun q => by rw [sI_n] at q; cases q
            have e1 := sI_1 b
            have w1 : gF s328 nT M (uI M 328 j (sI (some (!b)))) := gF_i _ rfl
            have h0 := ih (j + 1) (by omega) (uI M 328 j (sI (some (!b)))) S x (gF_trans hM w1) ⟨fun k hk => by
              rw [m_uI_I]
              by_cases e : k = j
              · rw [if_pos ⟨rfl, e⟩, e, hSj, eb]
              · rw [if_neg (by omega)]; exact hI.1 k hk, hI.2.1, hI.2.2.1, hI.2.2.2⟩ (by
              rcases hX with q | ⟨q1, q2, q3⟩
              · exact Or.inl q
              · refine Or.inr ⟨q1, q2, fun i' j' a1 a2 a3 a4 b2 hb2 => ?_⟩
                by_cases e : i' = i ∧ j' = j
                · obtain ⟨rfl, rfl⟩ := e
                  rw [hSi] at hb2
                  cases hb2
                  rw [hSj, eb]
                · exact q3 i' j' a1 a2 (by omega) a4 b2 hb2)
            first | rw [br_n (hne2)] | rw [br_q (hne2)] | rw [br_u (hne2)]
            rw [e1]
            rcases hX with q | ⟨q1, q2, q3⟩
            · rw [q.1] at h0 ⊢
              simp +decide only [am_w1_i, am_w1_r, am_w1_x, am_w1_l, am_w1_w, va_rf_s, am_push_n, am_push_s, am_cs_0, am_cs_i, am_cs_l, am_cs_r, m_uI_K, m_uI_N, m_uI_R, m_uI_L, m_uI_I, m_uL_K, m_uL_N, m_uL_R, m_uL_I, m_uL_L, m_uR_K, m_uR_N, m_uR_I, m_uR_L, m_uR_R, true_and, and_true, true_implies, false_implies, not_true_eq_false, not_false_eq_true, if_true, if_false, false_and, and_false]
              exact h0
            · rw [q1] at h0 ⊢
              simp +decide only [am_w1_i, am_w1_r, am_w1_x, am_w1_l, am_w1_w, va_rf_s, am_push_n, am_push_s, am_cs_0, am_cs_i, am_cs_l, am_cs_r, m_uI_K, m_uI_N, m_uI_R, m_uI_L, m_uI_I, m_uL_K, m_uL_N, m_uL_R, m_uL_I, m_uL_L, m_uR_K, m_uR_N, m_uR_I, m_uR_L, m_uR_R, true_and, and_true, true_implies, false_implies, not_true_eq_false, not_false_eq_true, if_true, if_false, false_and, and_false]
              first | rw [br_n (hne3)] | rw [br_q (hne3)] | rw [br_u (hne3)]
              exact h0
theorem l_m_pt2 (hL0 : Lay M0) (hP0 : PrM w v snd B Y M0 Y.length) (h48 : Y.length ≤ 48) (hself : ∀ y, y ∈ Y → gowY w v y y) (Ss : Nat → Option Bool)
    (hF : ∀ M', gF s328 nT M0 M' → (∀ c, colV Y.length (KY w v Y) (gY w v snd B Y) c → ¬ colX Y.length S1 c) → Q (some (.int 0)) M')
    (hN : ∀ M' S x v4 v5, gF s328 nT M0 M' → PtI w v snd B Y S1 M' S → PtX w v Y Ss S x Y.length 0 → jk v4 → jk v5 → am_P am_P0 d (am_look tX11_parts) 9 [.ref 277, .int x1, .int x2, .int x, v4, v5] [] M' Q) :
    ∀ (m i : Nat), i + m = Y.length → ∀ (M : am_M) (S : Nat → Option Bool) (x : Int32) (v5 : Value), jk v5 → gF s328 nT M0 M → PtI w v snd B Y S1 M S → PtX w v Y Ss S x i 0 → am_P am_P0 d (am_look tX11_parts) 18 [.ref 277, .int x1, .int x2, .int x, .int (nI i), v5] [] M Q := by
  intro m
  induction m with
  | zero =>
    intro i hi M S x v5 hv5 hM hI hX
    have hL := gF_LayN hM hL0
    have hP := PrM_g hP0 hM (fun a j q z => by have z' : a = 328 := z; omega)
    have ei : i = Y.length := by omega
    subst ei
    have hle : nI Y.length ≤ nI Y.length := (ni_le (by omega) (by omega)).mpr (by omega)
    have h0 := hN M S x (.int (nI Y.length)) v5 hM hI hX (Or.inr ⟨_, rfl⟩) hv5
    rw [hX11_parts_18]
    simp +decide only [qX11_parts_0, qX11_parts_1, qX11_parts_2, lm hL, hP.1.1, jk_w hv5, am_w1_i, am_w1_r, am_w1_x, am_w1_l, am_w1_w, va_rf_s, am_push_n, am_push_s, am_cs_0, am_cs_i, am_cs_l, am_cs_r, m_uI_K, m_uI_N, m_uI_R, m_uI_L, m_uI_I, m_uL_K, m_uL_N, m_uL_R, m_uL_I, m_uL_L, m_uR_K, m_uR_N, m_uR_I, m_uR_L, m_uR_R, true_and, and_true, true_implies, false_implies, not_true_eq_false, not_false_eq_true, if_true, if_false, false_and, and_false]
    first | rw [br_p (hle)] | rw [br_r (hle)] | rw [br_s (hle)]
    exact h0
  | succ m ih =>
    intro i hi M S x v5 hv5 hM hI hX
    have hL := gF_LayN hM hL0
    have hP := PrM_g hP0 hM (fun a j q z => by have z' : a = 328 := z; omega)
    have hlt : ¬ nI Y.length ≤ nI i := by rw [ni_le (by omega) (by omega)]; omega
    have h0 := l_m_pt3 w v snd B Y S1 d M0 Q x1 x2 hL0 hP0 h48 hself Ss i (by omega) hF (fun M' S' x' v5' a1 a2 a3 a4 => ih (i + 1) (by omega) M' S' x' v5' a4 a1 a2 a3) Y.length 0 (by omega) M S x hM hI hX
    rw [hX11_parts_18]
    simp +decide only [qX11_parts_0, qX11_parts_1, qX11_parts_2, lm hL, hP.1.1, jk_w hv5, am_w1_i, am_w1_r, am_w1_x, am_w1_l, am_w1_w, va_rf_s, am_push_n, am_push_s, am_cs_0, am_cs_i, am_cs_l, am_cs_r, m_uI_K, m_uI_N, m_uI_R, m_uI_L, m_uI_I, m_uL_K, m_uL_N, m_uL_R, m_uL_I, m_uL_L, m_uR_K, m_uR_N, m_uR_I, m_uR_L, m_uR_R, true_and, and_true, true_implies, false_implies, not_true_eq_false, not_false_eq_true, if_true, if_false, false_and, and_false]
    first | rw [br_n (hlt)] | rw [br_q (hlt)] | rw [br_u (hlt)]
    exact h0
theorem l_m_pt4 (hL0 : Lay M0) (hP0 : PrM w v snd B Y M0 Y.length) (h48 : Y.length ≤ 48) (S : Nat → Option Bool) (M : am_M) (hM : gF s328 nT M0 M) (hI : PtI w v snd B Y S1 M S) (x : Int32) (v5 : Value) (hv5 : jk v5)
    (hF : (∀ c, colV Y.length (KY w v Y) (gY w v snd B Y) c → ¬ colX Y.length S1 c) → Q (some (.int 0)) M)
    (hT : (∀ i, i < Y.length → S i = some true → gY w v snd B Y i) → Q (some (.int 1)) M) :
    ∀ (m i : Nat), i + m = Y.length → (∀ k, k < i → S k = some true → gY w v snd B Y k) → am_P am_P0 d (am_look tX11_parts) 143 [.ref 277, .int x1, .int x2, .int x, .int (nI i), v5] [] M Q := by
  have hL := gF_LayN hM hL0
  have hP := PrM_g hP0 hM (fun a j q z => by have z' : a = 328 := z; omega)
  intro m
  induction m with
  | zero =>
    intro i hi hb
    have hle : nI Y.length ≤ nI i := (ni_le (by omega) (by omega)).mpr (by omega)
    have h0 := hT (fun k hk => hb k (by omega))
    rw [hX11_parts_143]
    simp +decide only [qX11_parts_0, qX11_parts_1, qX11_parts_2, lm hL, hP.1.1, jk_w hv5, am_w1_i, am_w1_r, am_w1_x, am_w1_l, am_w1_w, va_rf_s, am_push_n, am_push_s, am_cs_0, am_cs_i, am_cs_l, am_cs_r, m_uI_K, m_uI_N, m_uI_R, m_uI_L, m_uI_I, m_uL_K, m_uL_N, m_uL_R, m_uL_I, m_uL_L, m_uR_K, m_uR_N, m_uR_I, m_uR_L, m_uR_R, true_and, and_true, true_implies, false_implies, not_true_eq_false, not_false_eq_true, if_true, if_false, false_and, and_false]
    first | rw [br_p (hle)] | rw [br_r (hle)] | rw [br_s (hle)]
    exact h0
  | succ m ih =>
    intro i hi hb
    have hlt : ¬ nI Y.length ≤ nI i := by rw [ni_le (by omega) (by omega)]; omega
    obtain ⟨y, hy⟩ : ∃ y, Y[i]? = some y := ⟨Y[i]'(by omega), List.getElem?_eq_getElem (by omega)⟩
    have hg := hP.2.1 i y (by omega) hy
    have hsi := hI.1 i (by omega)
    rw [hX11_parts_143]
    simp +decide (disch := omega) only [qX11_parts_0, qX11_parts_1, qX11_parts_2, lm hL, hP.1.1, hsi, hg, tI_01, tI_0, sI_0, jk_w hv5, ni_in_t, ni_tn, ni_add1, Classical.not_not, am_w1_i, am_w1_r, am_w1_x, am_w1_l, am_w1_w, va_rf_s, am_push_n, am_push_s, am_cs_0, am_cs_i, am_cs_l, am_cs_r, m_uI_K, m_uI_N, m_uI_R, m_uI_L, m_uI_I, m_uL_K, m_uL_N, m_uL_R, m_uL_I, m_uL_L, m_uR_K, m_uR_N, m_uR_I, m_uR_L, m_uR_R, true_and, and_true, true_implies, false_implies, not_true_eq_false, not_false_eq_true, if_true, if_false, false_and, and_false]
    first | rw [br_n (hlt)] | rw [br_q (hlt)] | rw [br_u (hlt)]
    by_cases c : S i = some true
    · first | rw [br_p (c)] | rw [br_r (c)] | rw [br_s (c)]
      by_cases c2 : goodY w v snd B y
      · first | rw [br_p (c2)] | rw [br_r (c2)] | rw [br_s (c2)]
        exact ih (i + 1) (by omega) (fun k hk q => by
          by_cases e : k = i
          · subst e; exact (gY_y hy).mpr c2
          · exact hb k (by omega) q)
      · first | rw [br_n (c2)] | rw [br_q (c2)] | rw [br_u (c2)]
        exact hF (fun c' hc' hx' => c2 ((gY_y hy).mp (hc'.2 i (by omega) (hI.2.2.1 c' hc' hx' i true (by omega) c))))
    · first | rw [br_n (c)] | rw [br_q (c)] | rw [br_u (c)]
      exact ih (i + 1) (by omega) (fun k hk q => by
        by_cases e : k = i
        · subst e; exact absurd q c
        · exact hb k (by omega) q)
theorem l_m_pt1 (hL0 : Lay M0) (hP0 : PrM w v snd B Y M0 Y.length) (h48 : Y.length ≤ 48) (hself : ∀ y, y ∈ Y → gowY w v y y)
    (hF : ∀ M', gF s328 nT M0 M' → (∀ c, colV Y.length (KY w v Y) (gY w v snd B Y) c → ¬ colX Y.length S1 c) → Q (some (.int 0)) M')
    (hT : ∀ M' S, gF s328 nT M0 M' → PtI w v snd B Y S1 M' S → colC Y.length (KY w v Y) (gY w v snd B Y) S → Q (some (.int 1)) M') :
    ∀ (m : Nat) (M : am_M) (S : Nat → Option Bool) (v4 v5 : Value), Y.length - cnt (fun i => (S i).isSome) Y.length < m → jk v4 → jk v5 → gF s328 nT M0 M → PtI w v snd B Y S1 M S → am_P am_P0 d (am_look tX11_parts) 9 [.ref 277, .int x1, .int x2, .int 1, v4, v5] [] M Q := by
  intro m
  induction m with
  | zero => intro M S v4 v5 h; omega
  | succ m ih =>
    intro M S v4 v5 hm hv4 hv5 hM hI
    have h0 := l_m_pt2 w v snd B Y S1 d M0 Q x1 x2 hL0 hP0 h48 hself S hF (fun M' S' x v4' v5' a1 a2 a3 a4 a5 => by
      rcases a3 with ⟨q1, q2⟩ | ⟨q1, q2, q3⟩
      · have := cnt_le (fun i => (S' i).isSome) Y.length
        rw [q1]
        exact ih M' S' v4' v5' (by omega) a4 a5 a1 a2
      · have h9 := l_m_pt4 w v snd B Y S1 d M0 Q x1 x2 hL0 hP0 h48 S' M' a1 a2 0 v5' a5 (hF M' a1) (fun hg => hT M' S' a1 a2 ⟨fun i j b a1 a2 a3 a4 => q3 i j a1 a2 (by omega) a3 b a4, hg⟩) Y.length 0 (by omega) (fun k hk => by omega)
        rw [q1, hX11_parts_9]
        simp +decide only [qX11_parts_0, qX11_parts_1, qX11_parts_2, jk_w a5, jk_w a4, am_w1_i, am_w1_r, am_w1_x, am_w1_l, am_w1_w, va_rf_s, am_push_n, am_push_s, am_cs_0, am_cs_i, am_cs_l, am_cs_r, m_uI_K, m_uI_N, m_uI_R, m_uI_L, m_uI_I, m_uL_K, m_uL_N, m_uL_R, m_uL_I, m_uL_L, m_uR_K, m_uR_N, m_uR_I, m_uR_L, m_uR_R, true_and, and_true, true_implies, false_implies, not_true_eq_false, not_false_eq_true, if_true, if_false, false_and, and_false] at h9 ⊢
        exact h9) Y.length 0 (by omega) M S 0 v5 hv5 hM hI (Or.inr ⟨rfl, fun i hi => rfl, fun i' j' b1 b2 b3 => by omega⟩)
    rw [hX11_parts_9]
    simp +decide only [qX11_parts_0, qX11_parts_1, qX11_parts_2, jk_w hv4, jk_w hv5, am_w1_i, am_w1_r, am_w1_x, am_w1_l, am_w1_w, va_rf_s, am_push_n, am_push_s, am_cs_0, am_cs_i, am_cs_l, am_cs_r, m_uI_K, m_uI_N, m_uI_R, m_uI_L, m_uI_I, m_uL_K, m_uL_N, m_uL_R, m_uL_I, m_uL_L, m_uR_K, m_uR_N, m_uR_I, m_uR_L, m_uR_R, true_and, and_true, true_implies, false_implies, not_true_eq_false, not_false_eq_true, if_true, if_false, false_and, and_false] at h0 ⊢
    exact h0
end
theorem m_parts (d : Nat) (w : Nat → Prop) (v : Nat) (snd : Nat → Bool → Prop) (B : List Fct) (Y : List Sy) (S0 : Nat → Option Bool) (f : Nat) (b : Bool) (M : am_M) (Q : Option Value → am_M → Prop) (hL : Lay M) (hP : PrM w v snd B Y M Y.length) (h48 : Y.length ≤ 48) (hself : ∀ y, y ∈ Y → gowY w v y y) (hf : f < Y.length) (hS : SeM M Y.length S0) (h0 : S0 f = none)
    (hF : ∀ M', gF s328 nT M M' → (∀ c, colV Y.length (KY w v Y) (gY w v snd B Y) c → colX Y.length S0 c → ¬ c f = b) → Q (some (.int 0)) M')
    (hT : ∀ M' S, gF s328 nT M M' → SeM M' Y.length S → colC Y.length (KY w v Y) (gY w v snd B Y) S → (∀ i b', S0 i = some b' → S i = some b') → S f = some b → ((∀ i j, i < Y.length → j < Y.length → ¬ KY w v Y i j) → ∀ i, i < Y.length → ¬ i = f → S i = S0 i) → Q (some (.int 1)) M') : am_E am_P0 d 261 [.ref 277, .int (nI f), .int (sI (some b))] M Q := by
  obtain ⟨S1, hS1⟩ : ∃ S1 : Nat → Option Bool, S1 = fun i => if i = f then some b else S0 i := ⟨_, rfl⟩
  have e1 : S1 f = some b := by rw [hS1]; exact if_pos rfl
  have e2 : ∀ i, ¬ i = f → S1 i = S0 i := fun i hi => by rw [hS1]; exact if_neg hi
  have w1 : gF s328 nT M (uI M 328 f (sI (some b))) := gF_i _ rfl
  have hx : ∀ c, colX Y.length S0 c → c f = b → colX Y.length S1 c := fun c hc hb i b' hi hb' => by
    by_cases e : i = f
    · rw [e, e1] at hb'; cases hb'; rw [e]; exact hb
    · rw [e2 i e] at hb'; exact hc i b' hi hb'
  have h9 := l_m_pt1 w v snd B Y S1 d M Q (nI f) (sI (some b)) hL hP h48 hself (fun M' g' q => hF M' g' (fun c hc hc2 hb => q c hc (hx c hc2 hb))) (fun M' S g' hI hC => hT M' S g' hI.1 hC (fun i b' hb' => hI.2.1 i b' (by
      by_cases e : i = f
      · rw [e, h0] at hb'; cases hb'
      · rw [e2 i e]; exact hb')) (hI.2.1 f b e1) (fun hno i hi hne => by rw [hI.2.2.2 hno i hi, e2 i hne])) (Y.length + 1) (uI M 328 f (sI (some b))) S1 am_x am_x (by omega) (Or.inl rfl) (Or.inl rfl) w1 ⟨fun k hk => by
      rw [m_uI_I]
      by_cases e : k = f
      · rw [if_pos ⟨rfl, e⟩, e, e1]
      · rw [if_neg (by omega), e2 k e]; exact hS k hk, fun i b' hb' => hb', fun c _ hc => hc, fun _ i _ => rfl⟩
  rw [eX11_parts]
  simp +decide (disch := omega) only [qX11_parts_0, qX11_parts_1, qX11_parts_2, lm hL, ni_in_t, ni_tn, am_w1_i, am_w1_r, am_w1_x, am_w1_l, am_w1_w, va_rf_s, am_push_n, am_push_s, am_cs_0, am_cs_i, am_cs_l, am_cs_r, m_uI_K, m_uI_N, m_uI_R, m_uI_L, m_uI_I, m_uL_K, m_uL_N, m_uL_R, m_uL_I, m_uL_L, m_uR_K, m_uR_N, m_uR_I, m_uR_L, m_uR_R, true_and, and_true, true_implies, false_implies, not_true_eq_false, not_false_eq_true, if_true, if_false, false_and, and_false]
  exact h9
end
