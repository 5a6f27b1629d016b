/-! what holds between calls: frames -/
def swp (M M' : am_M) : am_M := (M'.1, M'.2.1, M.2.2)
/-- cells that hold what is told, in the model -/
def tlM (a j : Nat) : Prop := (a = 277 ∧ j = 12) ∨ (279 ≤ a ∧ a ≤ 305) ∨ a = 315 ∨ a = 316
theorem MdM_g {M M' : am_M} {b : Nat} {D : Dat} {S T' : Nat → Nat → Prop} (h : MdM M b D) (hg : gF S T' M M') (hS : ∀ a j, tlM a j → ¬ S a j) : MdM M' b D := by
  obtain ⟨h1, h2, h3, h4, h5, h6, h7, ⟨r1, r2, r3⟩, h8⟩ := h
  have k : ∀ a j, tlM a j → mI M' a j = mI M a j := fun a j q => hg.1 a j (hS a j q)
  refine ⟨⟨by rw [k _ _ (by unfold tlM; omega)]; exact h1.1, h1.2⟩, ⟨by rw [k _ _ (by unfold tlM; omega)]; exact h2.1, by rw [k _ _ (by unfold tlM; omega)]; exact h2.2⟩, by rw [k _ _ (by unfold tlM; omega)]; exact h3, ShpM_g h4 hg (hS _ _ (by unfold tlM; omega)) (fun a j q1 q2 _ => hS _ _ (by unfold tlM; omega)), SysM_g h5 hg (hS _ _ (by unfold tlM; omega)) (fun a j q => hS _ _ (by unfold tlM; omega)), BkM_gF h6 hg (hS _ _ (by unfold tlM; omega)) (fun a j q1 q2 _ => hS _ _ (by unfold tlM; omega)), SgM_g h7 hg (hS _ _ (by unfold tlM; omega)) (fun a j q1 q2 _ => hS _ _ (by unfold tlM; omega)), ⟨RaM_g r1 hg (fun a j q => hS _ _ (by unfold tlM; omega)), RaM_g r2 hg (fun a j q => hS _ _ (by unfold tlM; omega)), RaM_g r3 hg (fun a j q => hS _ _ (by unfold tlM; omega))⟩, fun p hp => ⟨by rw [k _ _ (by unfold tlM; omega)]; exact (h8 p hp).1, by rw [k _ _ (by unfold tlM; omega)]; exact (h8 p hp).2⟩⟩
/-- the model's cells are as they were -/
def fX (M M' : am_M) : Prop := ∀ a j, 277 ≤ a → a < 336 → mI M' a j = mI M a j ∧ mL M' a j = mL M a j
theorem MdM_x {M M' : am_M} {b : Nat} {D : Dat} (h : MdM M b D) (hx : fX M M') : MdM M' b D := by
  have hg : gF (fun a _ => ¬ (277 ≤ a ∧ a < 336)) nT M (swp M M') := ⟨fun a j q => (hx a j (by omega) (by omega)).1, fun a j q => (hx a j (by omega) (by omega)).2, fun _ _ _ => rfl, rfl⟩
  have h2 : MdM (swp M M') b D := MdM_g h hg (fun a j q w => by unfold tlM at q; omega)
  exact h2
theorem fX_z {M M' : am_M} {S : Nat → Nat → Prop} (h : zF S M M') (hS : ∀ a j, S a j → a < 277) : fX M M' := fun a j h1 h2 => ⟨h.2.2.2.1 a j h2 (fun s' q w => by omega) (fun w => by have := hS _ _ w; omega), h.2.2.2.2.1 a j h2 (fun w => by have := hS _ _ w; omega)⟩
theorem isSh_z {z s : Nat} (hz : z = 2 ∨ z = 83) (hs : s < 8) : isSh (z + 25 + 7 * s) := ⟨s, hs, by omega⟩
theorem PsX_z {M M' : am_M} {z c : Nat} {D : Dat} {S : Nat → Nat → Prop} (hz : z = 2 ∨ z = 83) (hP : PsX M z D c) (hD : DOK D) (h : zF S M M') (hS : ∀ a j, z ≤ a → a ≤ z + 80 → S a j → (z + 21 ≤ a ∧ a ≤ z + 24) ∨ a = z + 8) : PsX M' z D c := by
  have hg : gF (fun a j => S a j ∨ 165 ≤ a) nT M (swp M M') := ⟨fun a j q => h.2.2.2.1 a j (by omega) (fun s' w1 w2 => by omega) (fun w => q (Or.inl w)), fun a j q => h.2.2.2.2.1 a j (by omega) (fun w => q (Or.inl w)), fun _ _ _ => rfl, rfl⟩
  have h2 : PsX (swp M M') z D c := PsX_t hz hP hD hg (fun a j q1 q2 => by
    by_cases c1 : S a j
    · exact Or.inr (hS a j q1 q2 c1)
    · exact Or.inl (fun w => by rcases w with w | w; exact c1 w; omega))
  exact h2
/-- what a track keeps of what is known -/
def sTc (s a j : Nat) : Prop := (a = 173 + 13 * s ∧ 4 ≤ j) ∨ (181 + 13 * s ≤ a ∧ a ≤ 183 + 13 * s)
theorem XTk_z {M M' : am_M} {z s : Nat} {D : Dat} {S : Nat → Nat → Prop} (hz : z = 2 ∨ z = 83) (hs : s < 8) (h : XTk M z D s) (hf : zF S M M') (h1 : ∀ a j, sTc s a j → ¬ S a j) (h2 : ∀ a j, (z + 25 ≤ a ∧ a ≤ z + 80) ∨ a = z + 21 → ¬ S a j) : XTk M' z D s := by
  obtain ⟨t1, t2, t3, t4⟩ := h
  have k : ∀ j, 4 ≤ j → mI M' (173 + 13 * s) j = mI M (173 + 13 * s) j := fun j hj => hf.2.2.2.1 _ _ (by omega) (fun s' q w => by omega) (h1 _ _ (Or.inl ⟨rfl, hj⟩))
  have kS : ∀ {v wt snd B Y}, SetX M s v wt snd B Y → SetX M' s v wt snd B Y := fun q => SetX_z hs q hf (fun a j w => h1 a j (by unfold sTc; omega))
  refine ⟨TkX_zz hs (isSh_z hz hs) hz t1 hf (fun a j w => h2 a j (by omega)), ?_, ?_, ?_⟩
  · rcases t2 with q | q
    · exact Or.inl (by rw [k 4 (by omega)]; exact q)
    · exact Or.inr ⟨by rw [k 4 (by omega)]; exact q.1, kS q.2⟩
  · rcases t3 with q | q
    · exact Or.inl (by rw [k 5 (by omega)]; exact q)
    · exact Or.inr ⟨by rw [k 5 (by omega)]; exact q.1, by rw [k 4 (by omega)]; exact q.2.1, kS q.2.2.1, by rw [k 13 (by omega)]; exact q.2.2.2.1, by rw [k 14 (by omega)]; exact q.2.2.2.2⟩
  · rcases t4 with q | q
    · exact Or.inl (by rw [k 6 (by omega)]; exact q)
    · exact Or.inr ⟨by rw [k 6 (by omega)]; exact q.1, by rw [k 7 (by omega)]; exact q.2⟩
/-- what is asked of one track -/
def sQ1 (s z a j : Nat) : Prop := (173 + 13 * s ≤ a ∧ a ≤ 185 + 13 * s) ∨ sMm z a j ∨ (a = 0 ∧ 13 ≤ j ∧ j ≤ 16) ∨ a = 171 ∨ a = 172
theorem XR_z {M M' : am_M} {z s0 : Nat} {D : Dat} {S : Nat → Nat → Prop} (hD : dOK D) (h : XR M z D) (hf : zF S M M') (hS : ∀ a j, S a j → sQ1 s0 z a j ∨ 277 ≤ a ∨ (a = 0 ∧ j < 13) ∨ a = 1 ∨ a = 169 ∨ a = 170) (hT : s0 < dN D → XTk M' z D s0) (hq : SqX M' z (dDp D) (dCs D) (dQt D)) (hl : LkX M' D) : XR M' z D := by
  obtain ⟨⟨hL, hI, hz, r2, r3, hO⟩, ⟨c, hP⟩, hS1, hTk, hLk⟩ := h
  have n8 := dN_8 hD
  refine ⟨⟨hf.1, hf.2.1, hz, ?_, ?_, ?_⟩, ⟨c, ?_⟩, hq, ?_, hl⟩
  · rw [hf.2.2.2.2.2.1 _ _ (by omega) (fun s' q w => by omega)]; exact r2
  · rw [hf.2.2.2.2.2.1 _ _ (by omega) (fun s' q w => by omega)]; exact r3
  · intro k hk
    rw [hf.2.2.2.1 _ _ (by omega) (fun s' q w => by omega) (fun w => by have := hS _ _ w; unfold sQ1 sMm at this; omega)]
    exact hO k hk
  · exact PsX_z hz hP hD.1 hf (fun a j q1 q2 w => by have := hS _ _ w; unfold sQ1 sMm at this; omega)
  · intro s hs
    by_cases e : s = s0
    · subst e; exact hT hs
    · exact XTk_z hz (by omega) (hTk s hs) hf (fun a j q w => by have := hS _ _ w; unfold sQ1 sMm at this; unfold sTc at q; omega) (fun a j q w => by have := hS _ _ w; unfold sQ1 sMm at this; omega)
theorem LkX_z {M M' : am_M} {D : Dat} {S : Nat → Nat → Prop} (h : LkX M D) (hf : zF S M M') (hS : ∀ j, 13 ≤ j → ¬ S 0 j) : LkX M' D := by
  have k : ∀ j, 13 ≤ j → mI M' 0 j = mI M 0 j := fun j hj => hf.2.2.2.1 _ _ (by omega) (fun s' q w => by omega) (hS j hj)
  unfold LkX
  rw [k 13 (by omega), k 14 (by omega), k 15 (by omega), k 16 (by omega)]
  exact h
theorem SqX_z {M M' : am_M} {z : Nat} {dep cst : Nat → Nat} {qut : Nat → Nat → Prop} {S : Nat → Nat → Prop} (hz : z = 2 ∨ z = 83) (h : SqX M z dep cst qut) (hf : zF S M M') (hS : ∀ a j, z ≤ a → a ≤ z + 24 → ¬ a = z + 8 → ¬ S a j) : SqX M' z dep cst qut :=
  SqX_u h (fun a j q1 q2 q3 => hf.2.2.2.1 _ _ (by omega) (fun s' q w => by omega) (hS _ _ (by omega) (by omega) (by omega))) (fun a j q => hf.2.2.2.2.1 _ _ (by omega) (hS _ _ (by omega) (by omega) (by omega)))
/-- nothing that is known is touched -/
theorem XR_k {M M' : am_M} {z s0 : Nat} {D : Dat} {S : Nat → Nat → Prop} (hD : dOK D) (hs : s0 < 8) (h : XR M z D) (hf : zF S M M') (hS : ∀ a j, S a j → (180 + 13 * s0 = a) ∨ a = 171 ∨ a = 172 ∨ a = 178 + 13 * s0 ∨ a = 184 + 13 * s0 ∨ a = 185 + 13 * s0) : XR M' z D := by
  have h0 := h
  obtain ⟨⟨hL, hI, hz, r2, r3, hO⟩, ⟨c, hP⟩, hS1, hTk, hLk⟩ := h0
  have n8 := dN_8 hD
  exact XR_z (s0 := s0) hD h hf (fun a j q => Or.inl (by have := hS _ _ q; unfold sQ1; omega)) (fun q => XTk_z hz (by omega) (hTk s0 q) hf (fun a j q w => by have := hS _ _ w; unfold sTc at q; omega) (fun a j q w => by have := hS _ _ w; omega)) (SqX_z hz hS1 hf (fun a j q1 q2 q3 w => by have := hS _ _ w; omega)) (LkX_z hLk hf (fun j hj w => by have := hS _ _ w; omega))
theorem XR_r {M M' : am_M} {z : Nat} {D : Dat} (hD : dOK D) (h : XR M z D) (hf : rgF M M') : XR M' z D := XR_k (s0 := 0) (S := fun _ _ => False) hD (by omega) h (zF_r hf) (fun a j q => q.elim)
theorem XR_x {M M' : am_M} {z s : Nat} {D : Dat} (hD : dOK D) (hs : s < 8) (h : XR M z D) (hf : xF s M M') : XR M' z D := XR_k (s0 := s) hD hs h (zF_x hf) (fun a j q => by have q' : a = 180 + 13 * s := q; omega)
/-- a track is settled -/
theorem XR_set {M M' : am_M} {z s : Nat} {D : Dat} (hD : dOK D) (hs : s < dN D) (h : XR M z D) (hf : zF (sSt s) M M') (h4 : mI M' (173 + 13 * s) 4 = 1) (hS : SetX M' s (dV D s) (dWt D s) (dSn D s) (dBs D s) (dY D s)) : XR M' z D := by
  have h0 := h
  obtain ⟨⟨hL, hI, hz, r2, r3, hO⟩, ⟨c, hP⟩, hS1, hTk, hLk⟩ := h0
  have n8 := dN_8 hD
  have k : ∀ j, 5 ≤ j → ¬ j = 8 → ¬ j = 11 → mI M' (173 + 13 * s) j = mI M (173 + 13 * s) j := fun j h1 h2 h3 => hf.2.2.2.1 _ _ (by omega) (fun s' q w => by omega) (fun w => by unfold sSt at w; omega)
  refine XR_z (s0 := s) hD h hf (fun a j q => Or.inl (by unfold sSt at q; unfold sQ1; omega)) (fun _ => ?_) (SqX_z hz hS1 hf (fun a j q1 q2 q3 w => by unfold sSt at w; omega)) (LkX_z hLk hf (fun j hj w => by unfold sSt at w; omega))
  obtain ⟨t1, t2, t3, t4⟩ := hTk s hs
  refine ⟨TkX_zz (by omega) (isSh_z hz (by omega)) hz t1 hf (fun a j w q => by unfold sSt at q; omega), Or.inr ⟨h4, hS⟩, ?_, ?_⟩
  · rcases t3 with q | q
    · exact Or.inl (by rw [k 5 (by omega) (by omega) (by omega)]; exact q)
    · exact Or.inr ⟨by rw [k 5 (by omega) (by omega) (by omega)]; exact q.1, h4, hS, by rw [k 13 (by omega) (by omega) (by omega)]; exact q.2.2.2.1, by rw [k 14 (by omega) (by omega) (by omega)]; exact q.2.2.2.2⟩
  · rcases t4 with q | q
    · exact Or.inl (by rw [k 6 (by omega) (by omega) (by omega)]; exact q)
    · exact Or.inr ⟨by rw [k 6 (by omega) (by omega) (by omega)]; exact q.1, by rw [k 7 (by omega) (by omega) (by omega)]; exact q.2⟩
/-- its gaps are counted -/
theorem XR_gap {M M' : am_M} {z s : Nat} {D : Dat} (hD : dOK D) (hs : s < dN D) (h : XR M z D) (hf : zF (sGp s z) M M') (hq : SqX M' z (dDp D) (dCs D) (dQt D)) (h5 : mI M' (173 + 13 * s) 5 = 1) (hG : GpX (dWt D s) (dV D s) (dSn D s) (dBs D s) (dY D s) (dQt D) M' s) : XR M' z D := by
  have h0 := h
  obtain ⟨⟨hL, hI, hz, r2, r3, hO⟩, ⟨c, hP⟩, hS1, hTk, hLk⟩ := h0
  have n8 := dN_8 hD
  have k : ∀ j, j = 6 ∨ j = 7 → mI M' (173 + 13 * s) j = mI M (173 + 13 * s) j := fun j h1 => hf.2.2.2.1 _ _ (by omega) (fun s' q w => by omega) (fun w => by unfold sGp sSt sMm at w; omega)
  refine XR_z (s0 := s) hD h hf (fun a j q => Or.inl (by unfold sGp sSt sMm at q; unfold sQ1 sMm; omega)) (fun _ => ?_) hq (LkX_z hLk hf (fun j hj w => by unfold sGp sSt sMm at w; omega))
  obtain ⟨t1, t2, t3, t4⟩ := hTk s hs
  refine ⟨TkX_zz (by omega) (isSh_z hz (by omega)) hz t1 hf (fun a j w q => sGp_g (isSh_z hz (by omega)) hz w q), Or.inr ⟨hG.1, hG.2.1⟩, Or.inr ⟨h5, hG⟩, ?_⟩
  rcases t4 with q | q
  · exact Or.inl (by rw [k 6 (by omega)]; exact q)
  · exact Or.inr ⟨by rw [k 6 (by omega)]; exact q.1, by rw [k 7 (by omega)]; exact q.2⟩
/-- the sea's memory of costs and quiet hours -/
theorem XR_mm {M M' : am_M} {z : Nat} {D : Dat} (hD : dOK D) (h : XR M z D) (hf : zF (sMm z) M M') (hq : SqX M' z (dDp D) (dCs D) (dQt D)) : XR M' z D := by
  have h0 := h
  obtain ⟨⟨hL, hI, hz, r2, r3, hO⟩, ⟨c, hP⟩, hS1, hTk, hLk⟩ := h0
  have n8 := dN_8 hD
  exact XR_z (s0 := 0) hD h hf (fun a j q => Or.inl (Or.inr (Or.inl q))) (fun q => XTk_z hz (by omega) (hTk 0 q) hf (fun a j q w => by unfold sMm at w; unfold sTc at q; omega) (fun a j q w => by unfold sMm at w; omega)) hq (LkX_z hLk hf (fun j hj w => by unfold sMm at w; omega))
theorem zq_up {M M' : am_M} {z s : Nat} {S : Nat → Nat → Prop} (hs : s < 8) (h : zF S M M') (hS : ∀ a j, S a j → sQ1 s z a j) : zF (sXq z) M M' := zF_up h (fun a j q => by have := hS _ _ q; unfold sQ1 sMm at this; unfold sXq sMm; omega)
/-- the model's helper: what is told of a ship -/
theorem mh {M : am_M} {b s : Nat} {D : Dat} (hD : dOK D) (hM : MdM M b D) (hs : s < dN D) : MB M b (dC D) (dR D) ∧ ShM M b (dC D) (dR D) s (dV D s) (dDp D) (dDr D s) (dLd D s) (dY D s) ∧ BkM M b (dC D) (dBk D) ∧ bkOK (dC D) (dR D) (dBk D) ∧ mW_ M b (dC D) (dR D) s = dWt D s := by
  obtain ⟨h1, h2, h3, h4, h5, h6, h7, hr, h8⟩ := hM
  have n8 := dN_8 hD
  have hC := dOK_1 hD hs
  obtain ⟨q0, q1, q2, q3, q4⟩ := h4.2 s _ (dSp_at hs)
  have hk := dSp_ok hD.1 hs
  have hDp : DpM M b (dC D) (dR D) s (dDp D) (dDr D s) (dLd D s) := ⟨q3, q4, hk.2.2.2.2.2.2.2.1, hk.2.2.2.2.2.2.2.2, fun p hp => ⟨dpF_le _ _ _ _, (h8 p hp).1⟩⟩
  refine ⟨⟨h1.1, h1.2, h2.1, h2.2, hC.1, hD.1.1.1, hC.2, hD.1.1.2⟩, ⟨q2, hk.2.2.2.2.1, hk.2.2.2.2.2.1, hDp, h5.2 s (by omega)⟩, h6, hD.1.2.2.2.2.2.2.1.1, ?_⟩
  funext p
  exact propext ((m_wat hDp p).trans (dWt_v hD hs p).symm)
theorem zF_g {S : Nat → Nat → Prop} {M M' : am_M} (hL : Lay M) (hI : RInv M) (h : gF S nT M M') (h1 : ∀ a j s', s' < 8 → S a j → ¬ a = 174 + 13 * s' ∧ ¬ a = 175 + 13 * s' ∧ ¬ a = 177 + 13 * s') (h2 : ∀ a j, S a j → a < 336) : zF S M M' := by
  refine ⟨gF_LayN h hL, gF_RInv h hI (fun a j s _ q => q.elim), by unfold mC; rw [h.2.2.2]; exact Nat.le_refl _, fun a j _ _ q => h.1 a j q, fun a j _ q => h.2.1 a j q, fun a j _ _ => h.2.2.1 a j (fun q => q), fun s' v wt hs' hT => TrW_gF hT hI hs' h (fun a j q w => ?_) (fun j q => q)⟩
  have := h1 a j s' hs' w
  have := h2 a j w
  omega
/-- the model works: the class stays -/
theorem XR_m {M M' : am_M} {z : Nat} {D : Dat} {S : Nat → Nat → Prop} (hD : dOK D) (h : XR M z D) (hg : gF S nT M M') (hS : ∀ a j, S a j → 277 ≤ a ∧ a < 336) : XR M' z D := by
  have h0 := h
  obtain ⟨⟨hL, hI, hz, r2, r3, hO⟩, ⟨c, hP⟩, hS1, hTk, hLk⟩ := h0
  have n8 := dN_8 hD
  have hf := zF_g hL hI hg (fun a j s' q w => by have := hS a j w; omega) (fun a j w => (hS a j w).2)
  exact XR_z (s0 := 0) hD h hf (fun a j q => Or.inr (Or.inl (hS a j q).1)) (fun q => XTk_z hz (by omega) (hTk 0 q) hf (fun a j q w => by have := hS a j w; unfold sTc at q; omega) (fun a j q w => by have := hS a j w; omega)) (SqX_z hz hS1 hf (fun a j q1 q2 q3 w => by have := hS a j w; omega)) (LkX_z hLk hf (fun j hj w => by have := hS 0 j w; omega))
/-- the tape, refusals, the image: nothing that XR speaks of -/
theorem XR_t {M M' : am_M} {z : Nat} {D : Dat} {S : Nat → Nat → Prop} (hD : dOK D) (h : XR M z D) (hg : gF S nT M M') (hS : ∀ a j, S a j → (a = 0 ∧ j < 13) ∨ a = 1 ∨ a = 169 ∨ a = 170) : XR M' z D := by
  have h0 := h
  obtain ⟨⟨hL, hI, hz, r2, r3, hO⟩, ⟨c, hP⟩, hS1, hTk, hLk⟩ := h0
  have n8 := dN_8 hD
  have hf := zF_g hL hI hg (fun a j s' q w => by have := hS a j w; omega) (fun a j w => by have := hS a j w; omega)
  exact XR_z (s0 := 0) hD h hf (fun a j q => Or.inr (Or.inr (hS a j q))) (fun q => XTk_z hz (by omega) (hTk 0 q) hf (fun a j q w => by have := hS a j w; unfold sTc at q; omega) (fun a j q w => by have := hS a j w; omega)) (SqX_z hz hS1 hf (fun a j q1 q2 q3 w => by have := hS a j w; omega)) (LkX_z hLk hf (fun j hj w => by have := hS 0 j w; omega))
