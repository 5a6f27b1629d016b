/-! spot, and what a refusal does -/
/-- cells of the tape, refusals, faults, the image -/
def tIm (a j : Nat) : Prop := (a = 0 ∧ (j = 1 ∨ j = 5 ∨ j = 6 ∨ j = 10)) ∨ a = 1 ∨ a = 169 ∨ a = 170 ∨ (a = 277 ∧ (j = 1 ∨ j = 10 ∨ j = 11 ∨ j = 82)) ∨ a = 278 ∨ a = 312 ∨ a = 335
def TI (M : am_M) : Prop := TpI M ∧ RfI M ∧ FtI M ∧ ImI M
theorem TI_k {M M' : am_M} (h : TI M) (k : ∀ a j, tIm a j → mI M' a j = mI M a j) : TI M' := by
  obtain ⟨⟨T, n, t1, t2, t3, t4⟩, hRf, hFt, ⟨m, k1, k2, k3, k4⟩⟩ := h
  refine ⟨⟨T, n, t1, ?_, ?_, fun j hj => ⟨(t4 j hj).1, ?_, ?_⟩⟩, fun j hj => ?_, ⟨?_, ?_⟩, ⟨m, k1, ?_, ?_, fun j hj => ?_⟩⟩
  · rw [k _ _ (by unfold tIm; omega)]; exact t2
  · rw [k _ _ (by unfold tIm; omega)]; exact t3
  · rw [k _ _ (by unfold tIm; omega)]; exact (t4 j hj).2.1
  · rw [k _ _ (by unfold tIm; omega)]; exact (t4 j hj).2.2
  · rw [k _ _ (by unfold tIm; omega), k _ _ (by unfold tIm; omega)]; exact hRf j hj
  · rw [k _ _ (by unfold tIm; omega), k _ _ (by unfold tIm; omega)]; exact hFt.1
  · rw [k _ _ (by unfold tIm; omega), k _ _ (by unfold tIm; omega)]; exact hFt.2
  · rw [k _ _ (by unfold tIm; omega)]; exact k2
  · rw [k _ _ (by unfold tIm; omega)]; exact k3
  · rw [k _ _ (by unfold tIm; omega), k _ _ (by unfold tIm; omega)]; exact k4 j hj
/-- one refusal more -/
abbrev rfX (M : am_M) (k : Nat) : am_M := uI M 169 k (mI M 169 k + 1)
abbrev rfM (M : am_M) (k : Nat) : am_M := uI M 312 k (mI M 312 k + 1)
theorem rfX_X {M : am_M} {z b : Nat} {D : Dat} (k : Nat) (hD : dOK D) (hX : XR M z D) (hM : MdM M b D) : XR (rfX M k) z D ∧ MdM (rfX M k) b D := by
  have g1 : gF sXt nT M (rfX M k) := gF_i _ (by unfold sXt; omega)
  exact ⟨XR_t hD hX g1 (fun a j q => q), MdM_g hM g1 (fun a j q w => by unfold tlM at q; unfold sXt at w; omega)⟩
theorem Inv_rf {M : am_M} {z b : Nat} {D : Dat} (k : Nat) (hD : dOK D) (hX : XR M z D) (hM : MdM M b D) (h : TI M) : Inv (rfM (rfX M k) k) := by
  have g1 : gF (fun a j => a = 169 ∧ j = k) nT M (rfX M k) := gF_i _ ⟨rfl, rfl⟩
  have g2 : gF (fun a j => a = 312 ∧ j = k) nT (rfX M k) (rfM (rfX M k) k) := gF_i _ ⟨rfl, rfl⟩
  have kp : ∀ a' j, ¬ (a' = 169 ∧ j = k) → ¬ (a' = 312 ∧ j = k) → mI (rfM (rfX M k) k) a' j = mI M a' j := fun a' j q1 q2 => by rw [g2.1 _ _ q2, g1.1 _ _ q1]
  obtain ⟨⟨T, n, t1, t2, t3, t4⟩, hRf, hFt, ⟨m, k1, k2, k3, k4⟩⟩ := h
  refine Inv_t hD hX hM (gF_up g1 (fun a' j q => by unfold sXt; omega) (fun _ _ q => q)) (gF_up g2 (fun a' j q => by unfold sMt; omega) (fun _ _ q => q)) ⟨T, n, t1, ?_, ?_, fun j hj => ⟨(t4 j hj).1, ?_, ?_⟩⟩ (fun j hj => ?_) ⟨?_, ?_⟩ ⟨m, k1, ?_, ?_, fun j hj => ?_⟩
  · rw [kp _ _ (by omega) (by omega)]; exact t2
  · rw [kp _ _ (by omega) (by omega)]; exact t3
  · rw [kp _ _ (by omega) (by omega)]; exact (t4 j hj).2.1
  · rw [kp _ _ (by omega) (by omega)]; exact (t4 j hj).2.2
  · by_cases e0 : j = k
    · rw [e0, g2.1 _ _ (by omega), m_uI_I, if_pos ⟨rfl, rfl⟩, m_uI_I, if_pos ⟨rfl, rfl⟩, m_uI_I, if_neg (by omega), hRf k (by omega)]
    · rw [kp _ _ (by omega) (by omega), kp _ _ (by omega) (by omega)]; exact hRf j hj
  · rw [kp _ _ (by omega) (by omega), kp _ _ (by omega) (by omega)]; exact hFt.1
  · rw [kp _ _ (by omega) (by omega), kp _ _ (by omega) (by omega)]; exact hFt.2
  · rw [kp _ _ (by omega) (by omega)]; exact k2
  · rw [kp _ _ (by omega) (by omega)]; exact k3
  · rw [kp _ _ (by omega) (by omega), kp _ _ (by omega) (by omega)]; exact k4 j hj
