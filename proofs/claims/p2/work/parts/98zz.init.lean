/-! what is made holds what holds between calls -/
def fR (a j : Nat) : List Ev → Nat → Option Nat
  | [], _ => none
  | .inl _ :: r, n => if a = n - 1 then none else fR a j r (n - 1)
  | .inr (.inl q) :: r, n => if a = q.1 ∧ j = q.2.1 then some q.2.2 else fR a j r n
  | .inr (.inr _) :: r, n => fR a j r n
theorem fR_eq (a j : Nat) : ∀ (E : List Ev), rvR a j 0 none E = fR a j E (evC E) := by
  intro E
  induction E with
  | nil => rfl
  | cons e r ih =>
    match e with
    | .inl s =>
      show (if a = 0 + evC r then none else rvR a j 0 none r) = (if a = evC r + 1 - 1 then none else fR a j r (evC r + 1 - 1))
      rw [Nat.add_sub_cancel, Nat.zero_add, ih]
    | .inr (.inl q) =>
      show (if a = q.1 ∧ j = q.2.1 then some q.2.2 else rvR a j 0 none r) = (if a = q.1 ∧ j = q.2.1 then some q.2.2 else fR a j r (evC r))
      rw [ih]
    | .inr (.inr q) => exact ih
def fI (a j : Nat) : List Ev → Nat → Int32
  | [], _ => 0
  | .inl _ :: r, n => if a = n - 1 then 0 else fI a j r (n - 1)
  | .inr (.inl _) :: r, n => fI a j r n
  | .inr (.inr q) :: r, n => if a = q.1 ∧ j = q.2.1 then q.2.2 else fI a j r n
theorem fI_eq (a j : Nat) : ∀ (E : List Ev), rvI a j 0 0 E = fI a j E (evC E) := by
  intro E
  induction E with
  | nil => rfl
  | cons e r ih =>
    match e with
    | .inl s =>
      show (if a = 0 + evC r then 0 else rvI a j 0 0 r) = (if a = evC r + 1 - 1 then 0 else fI a j r (evC r + 1 - 1))
      rw [Nat.add_sub_cancel, Nat.zero_add, ih]
    | .inr (.inr q) =>
      show (if a = q.1 ∧ j = q.2.1 then q.2.2 else rvI a j 0 0 r) = (if a = q.1 ∧ j = q.2.1 then q.2.2 else fI a j r (evC r))
      rw [ih]
    | .inr (.inl q) => exact ih
theorem evC_y2 : evC y2 = 336 := evC_y1
theorem in_S : (evS y2).reverse = ly_S := by decide +kernel
theorem in_F : ∀ q ∈ ly_F, fR q.1 q.2.1 y2 336 = some q.2.2 := by decide +kernel
theorem in_2 : fR 0 2 y2 336 = some 2 ∧ fR 0 3 y2 336 = some 83 := by decide +kernel
theorem in_M : ∀ s, s < 8 → evM (176 + 13 * s) y2 = true := by decide +kernel
theorem in_N : ∀ a ∈ [1, 4, 11, 15, 19, 23, 24, 169, 278, 279, 280, 281, 285, 291, 294, 299, 312], evN a y2 = true := by decide +kernel
theorem in_O : ∀ k, k < 27 → fI 166 k y2 336 = owF k := by decide +kernel
theorem in_I : fI 0 1 y2 336 = 0 ∧ fI 0 5 y2 336 = 0 ∧ fI 0 6 y2 336 = -1 ∧ fI 0 10 y2 336 = 0 ∧ fI 0 13 y2 336 = 0 ∧ fI 2 0 y2 336 = 0 ∧ fI 2 1 y2 336 = 0 ∧ fI 2 2 y2 336 = 10 ∧ fI 2 3 y2 336 = 0 ∧ fI 8 1 y2 336 = 0 ∧ fI 277 1 y2 336 = 0 ∧ fI 277 10 y2 336 = 0 ∧ fI 277 11 y2 336 = -1 ∧ fI 277 12 y2 336 = 0 ∧ fI 277 82 y2 336 = 0 ∧ fI 303 0 y2 336 = 10 := by decide +kernel
theorem dOK_0 : dOK dat0 := by
  refine ⟨⟨⟨by show 0 ≤ 16; omega, by show 0 ≤ 16; omega⟩, by show 10 ≤ 100; omega, ⟨by show 0 ≤ 8; omega, rfl, fun s hs => by cases hs⟩, fun s y hy => ?_, fun s => ?_, by show 0 ≤ 96; omega, ⟨⟨by show 0 ≤ 12; omega, fun k hk => by cases hk⟩, fun k hk => by cases hk⟩, ⟨by show 0 ≤ 40; omega, fun g hg => by cases hg⟩, ⟨by show 0 ≤ 12; omega, fun r hr => by cases hr⟩, ⟨by show 0 ≤ 12; omega, fun r hr => by cases hr⟩, ⟨by show 0 ≤ 6; omega, fun r hr => by cases hr⟩⟩, Or.inr ⟨rfl, rfl, rfl, rfl⟩⟩
  · have e : dY dat0 s = [] := by unfold dY; rfl
    rw [e] at hy
    cases hy
  · have e : dY dat0 s = [] := by unfold dY; rfl
    rw [e]
    exact List.Pairwise.nil
/-- and of the places of faults -/
theorem inv0F : mI (pa x11 am_M0) 0 6 = mI (pa x11 am_M0) 277 11 := by
  obtain ⟨C, hC⟩ : ∃ C, C = pa y2 am_M0 := ⟨_, rfl⟩
  obtain ⟨F, hF⟩ : ∃ F, F = pa x11 am_M0 := ⟨_, rfl⟩
  have eF : F = pa (rowE 292 (fun _ => -1) 384) C := by rw [hF, hC]; exact pa_app _ _ _
  obtain ⟨w1, w2, w3, w4⟩ := pa_row 292 (fun _ => -1) C 384
  rw [← eF] at w1
  have iC : ∀ a j, mI C a j = fI a j y2 336 := fun a j => by rw [hC, pz_I, fI_eq, evC_y2]
  have iF : ∀ a j, ¬ a = 292 → mI F a j = fI a j y2 336 := fun a j h => by rw [w1, if_neg (fun q => h q.1), iC]
  obtain ⟨i1, i2, i3, i4, i5, i6, i7, i8, i9, i10, i11, i12, i13, i14, i15, i16⟩ := in_I
  rw [← hF, iF _ _ (by omega), iF _ _ (by omega), i3, i13]
theorem inv0 : Inv (pa x11 am_M0) := by
  obtain ⟨C, hC⟩ : ∃ C, C = pa y2 am_M0 := ⟨_, rfl⟩
  obtain ⟨F, hF⟩ : ∃ F, F = pa x11 am_M0 := ⟨_, rfl⟩
  have eF : F = pa (rowE 292 (fun _ => -1) 384) C := by rw [hF, hC]; exact pa_app _ _ _
  obtain ⟨w1, w2, w3, w4⟩ := pa_row 292 (fun _ => -1) C 384
  rw [← eF] at w1 w2 w3 w4
  have iC : ∀ a j, mI C a j = fI a j y2 336 := fun a j => by rw [hC, pz_I, fI_eq, evC_y2]
  have iF : ∀ a j, ¬ a = 292 → mI F a j = fI a j y2 336 := fun a j h => by rw [w1, if_neg (fun q => h q.1), iC]
  have rF : ∀ a j, mR F a j = fR a j y2 336 := fun a j => by rw [w3, hC, pz_R, fR_eq, evC_y2]
  have lF : ∀ a j, mL F a j = 0 := fun a j => by rw [w2, hC]; exact pa_L a j y2 am_M0 rfl
  have zF : ∀ a j, a ∈ [1, 4, 11, 15, 19, 23, 24, 169, 278, 279, 280, 281, 285, 291, 294, 299, 312] → mI F a j = nI 0 := fun a j h => by
    have hn : ¬ a = 292 := fun q => by rw [q] at h; revert h; decide
    rw [iF a j hn, ← evC_y2, ← fI_eq]
    exact rvI_0 a j 0 y2 (in_N a h)
  have sF : mS F = ly_S := by
    rw [w4, hC, pa_S, in_S]
    rfl
  have hL : Lay F := ⟨⟨0, by omega, by rw [sF]; show ly_S = ly_S ++ []; rw [List.append_nil]⟩, fun q hq => by rw [rF]; exact in_F q hq⟩
  have rg : ∀ s p, s < 8 → mR F (176 + 13 * s) p = none := fun s p hs => by
    rw [rF, ← evC_y2, ← fR_eq]
    exact rvR_0 _ _ _ _ (in_M s hs)
  have hI : RInv F := by
    refine ⟨fun s p r hs hp q => (by rw [rg s p hs] at q; cases q), fun s p s' p' r hs hp hs' hp' q => (by rw [rg s p hs] at q; cases q), ?_⟩
    have e : cnt (rgC F) 2048 = 0 := cnt_0 (fun t q => by
      unfold rgC at q
      rw [Bool.and_eq_true] at q
      have ht := of_decide_eq_true q.1
      rw [rg _ _ (by omega)] at q
      exact absurd q.2 (by decide)) 2048
    rw [e]
    unfold mC
    rw [sF]
    exact ly_len
  obtain ⟨i1, i2, i3, i4, i5, i6, i7, i8, i9, i10, i11, i12, i13, i14, i15, i16⟩ := in_I
  have v0 : ∀ p, dDp dat0 p = 0 := fun p => dDp_v (fun q => absurd q.1 (Nat.not_lt_zero _))
  have c0 : ∀ p, dCs dat0 p = 0 := fun p => rfl
  have hX : XR F 2 dat0 := by
    refine ⟨⟨hL, hI, Or.inl rfl, by rw [rF]; exact in_2.1, by rw [rF]; exact in_2.2, fun k hk => by rw [iF _ _ (by omega)]; exact in_O k hk⟩, ⟨0, ⟨⟨by rw [iF _ _ (by omega)]; exact i6, by rw [iF _ _ (by omega)]; exact i7, by rw [iF _ _ (by omega)]; exact i8, by rw [iF _ _ (by omega)]; exact i9⟩, fun s sp hs => (by cases hs), ⟨zF 4 0 (by decide), fun i g hi => by cases hi⟩, ⟨⟨zF 11 0 (by decide), fun k r hr => by cases hr⟩, ⟨zF 15 0 (by decide), fun k r hr => by cases hr⟩, ⟨zF 19 0 (by decide), fun k r hr => by cases hr⟩⟩, ⟨by rw [iF _ _ (by omega)]; exact i10, by omega⟩⟩⟩, ⟨⟨[], ⟨zF 15 0 (by decide), by show 0 ≤ 12; omega, fun k r hr => by cases hr⟩, fun p hp => rfl⟩, ⟨[], ⟨zF 19 0 (by decide), by show 0 ≤ 12; omega, fun k r hr => by cases hr⟩, by show 0 ≤ 6; omega, fun p h hp hh => Iff.rfl⟩, fun p hp => ⟨by rw [v0]; omega, by rw [v0]; exact zF 23 p (by decide)⟩, fun p hp => Or.inr (by rw [c0]; exact zF 24 p (by decide)), fun h p hh hp => ?_⟩, fun s hs => absurd hs (Nat.not_lt_zero _), Or.inl (by rw [iF _ _ (by omega)]; exact i5)⟩
    rw [lF, lF, sb_0]
    exact ⟨fun q => absurd q (by decide), fun q => absurd q (by decide)⟩
  have hM : MdM F 0 dat0 := by
    refine ⟨⟨by rw [iF _ _ (by omega)]; exact i14, by omega⟩, ⟨zF 279 0 (by decide), zF 280 0 (by decide)⟩, by rw [iF _ _ (by omega)]; exact i16, ⟨zF 285 0 (by decide), fun s sp hs => by cases hs⟩, ⟨zF 291 0 (by decide), fun s hs => ?_⟩, ⟨zF 294 0 (by decide), fun i k hi => by cases hi⟩, ⟨zF 299 0 (by decide), fun i g hi => by cases hi⟩, ⟨⟨⟨by show 0 ≤ 12; omega, by show 12 * 0 + 0 ≤ 30; omega⟩, zF 281 (3 * 0 + 0) (by decide), fun k r hr => by cases hr⟩, ⟨⟨by show 0 ≤ 12; omega, by show 12 * 1 + 0 ≤ 30; omega⟩, zF 281 (3 * 0 + 1) (by decide), fun k r hr => by cases hr⟩, ⟨⟨by show 0 ≤ 12; omega, by show 12 * 2 + 0 ≤ 30; omega⟩, zF 281 (3 * 0 + 2) (by decide), fun k r hr => by cases hr⟩⟩, fun p hp => absurd hp.1 (Nat.not_lt_zero _)⟩
    have e : dY dat0 s = [] := by unfold dY; rfl
    rw [e]
    exact ⟨List.Pairwise.nil, fun y hy => (by cases hy), fun t ht => Or.inr ⟨fun y hy => (by cases hy), by rw [w1, if_pos ⟨rfl, by omega⟩]⟩⟩
  rw [← hF]
  refine ⟨2, 0, dat0, dOK_0, hX, hM, ⟨fun _ => 0, 0, by omega, by rw [iF _ _ (by omega)]; exact i1, by rw [iF _ _ (by omega)]; exact i11, fun j hj => ⟨by show 0 < 256; omega, zF 1 j (by decide), zF 278 j (by decide)⟩⟩, fun j hj => by rw [zF 169 j (by decide), zF 312 j (by decide)], ⟨by rw [iF _ _ (by omega), iF _ _ (by omega), i2, i12], trivial⟩, ⟨0, by omega, by rw [iF _ _ (by omega)]; exact i4, by rw [iF _ _ (by omega)]; exact i15, fun j hj => by omega⟩⟩
