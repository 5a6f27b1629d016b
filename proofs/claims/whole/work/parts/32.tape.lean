/-! the tape: the class's side -/
theorem sh_bit (v : Int32) (k : Nat) (hk : k ≤ 24) : ((v.toUInt32 >>> (Int32.ofNat k).toUInt32).toInt32 &&& 255) = (v >>> Int32.ofNat k &&& 255) := by
  apply Int32.toBitVec_inj.mp
  apply BitVec.eq_of_getLsbD_eq
  intro i hi
  simp
  trace_state
  sorry
