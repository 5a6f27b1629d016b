/-! feed, end, fault, octet, status -/
theorem an255 (x : Int32) : ∃ m, m < 256 ∧ x &&& 255 = nI m := by
  refine ⟨(x &&& 255).toBitVec.toNat, ?_, ?_⟩
  · have e : (x &&& 255).toBitVec.toNat = x.toBitVec.toNat &&& 255 := by
      show (x.toBitVec &&& (255 : Int32).toBitVec).toNat = _
      rw [BitVec.toNat_and]
      rfl
    rw [e, show (255 : Nat) = 2 ^ 8 - 1 from rfl, Nat.and_two_pow_sub_one_eq_mod]
    exact Nat.mod_lt _ (by decide)
  · apply Int32.toBitVec_inj.mp
    show _ = BitVec.ofNat 32 _
    rw [BitVec.ofNat_toNat]
    simp
theorem gF_put4 {S : Nat → Nat → Prop} (M : am_M) (t o f n : Nat) (v : Int32) (h1 : ∀ j, S t j) (h2 : S o f) : gF S nT M (put4 M t o f n v) := gF_trans (gF_trans (gF_trans (gF_trans (gF_i _ (h1 _)) (gF_i _ (h1 _))) (gF_i _ (h1 _))) (gF_i _ (h1 _))) (gF_i _ h2)
theorem gF_feed5 {S : Nat → Nat → Prop} (M : am_M) (t o f n : Nat) (a b c d e : Int32) (h1 : ∀ j, S t j) (h2 : S o f) : gF S nT M (feed5 M t o f n a b c d e) := gF_trans (gF_trans (gF_trans (gF_trans (gF_put4 M t o f n a h1 h2) (gF_put4 _ t o f _ b h1 h2)) (gF_put4 _ t o f _ c h1 h2)) (gF_put4 _ t o f _ d h1 h2)) (gF_put4 _ t o f _ e h1 h2)
/-- four bytes more on a row -/
def pt4 (f : Nat → Int32) (n : Nat) (v : Int32) (j : Nat) : Int32 := if j = n + 3 then v >>> 0 &&& 255 else if j = n + 2 then v >>> 8 &&& 255 else if j = n + 1 then v >>> 16 &&& 255 else if j = n then v >>> 24 &&& 255 else f j
theorem put4_t (M : am_M) (t o f n : Nat) (v : Int32) (hto : ¬ t = o) (j : Nat) : mI (put4 M t o f n v) t j = pt4 (fun j => mI M t j) n v j := by
  rw [put4_I, if_neg (by omega)]
  unfold pt4
  simp only [true_and]
theorem pt4_ext {f g : Nat → Int32} (h : ∀ j, j < 1800 → f j = g j) {n : Nat} {v : Int32} : ∀ j, j < 1800 → pt4 f n v j = pt4 g n v j := fun j hj => by
  unfold pt4
  rw [h j hj]
def byT (f : Nat → Int32) : Prop := ∀ j, j < 1800 → ∃ m, m < 256 ∧ f j = nI m
theorem pt4_by {f : Nat → Int32} (h : byT f) (n : Nat) (v : Int32) : byT (pt4 f n v) := fun j hj => by
  unfold pt4
  split
  · exact an255 _
  · split
    · exact an255 _
    · split
      · exact an255 _
      · split
        · exact an255 _
        · exact h j hj
def pt20 (f : Nat → Int32) (n : Nat) (a b c d e : Int32) : Nat → Int32 := pt4 (pt4 (pt4 (pt4 (pt4 f n a) (n + 4) b) (n + 8) c) (n + 12) d) (n + 16) e
theorem feed5_t (M : am_M) (t o f n : Nat) (a b c d e : Int32) (hto : ¬ t = o) (j : Nat) : mI (feed5 M t o f n a b c d e) t j = pt20 (fun j => mI M t j) n a b c d e j := by
  unfold feed5 pt20
  have e1 : (fun j => mI (put4 M t o f n a) t j) = pt4 (fun j => mI M t j) n a := funext fun j => put4_t _ _ _ _ _ _ hto j
  have e2 : (fun j => mI (put4 (put4 M t o f n a) t o f (n + 4) b) t j) = pt4 (pt4 (fun j => mI M t j) n a) (n + 4) b := by funext j; rw [put4_t _ _ _ _ _ _ hto, e1]
  have e3 : (fun j => mI (put4 (put4 (put4 M t o f n a) t o f (n + 4) b) t o f (n + 8) c) t j) = pt4 (pt4 (pt4 (fun j => mI M t j) n a) (n + 4) b) (n + 8) c := by funext j; rw [put4_t _ _ _ _ _ _ hto, e2]
  have e4 : (fun j => mI (put4 (put4 (put4 (put4 M t o f n a) t o f (n + 4) b) t o f (n + 8) c) t o f (n + 12) d) t j) = pt4 (pt4 (pt4 (pt4 (fun j => mI M t j) n a) (n + 4) b) (n + 8) c) (n + 12) d := by funext j; rw [put4_t _ _ _ _ _ _ hto, e3]
  rw [put4_t _ _ _ _ _ _ hto, e4]
theorem feed5_n (M : am_M) (t o f n : Nat) (a b c d e : Int32) : mI (feed5 M t o f n a b c d e) o f = nI (n + 20) := put4_n _ _ _ _ _ _
/-- the class's part and the model's part of what a call may change, D staying -/
def sXt (a j : Nat) : Prop := (a = 0 ∧ j < 13) ∨ a = 1 ∨ a = 169 ∨ a = 170
def sMt (a j : Nat) : Prop := (a = 277 ∧ (j = 1 ∨ j = 82)) ∨ a = 278 ∨ a = 312 ∨ a = 335
theorem Inv_t {M M1 M2 : am_M} {z b : Nat} {D : Dat} (hD : dOK D) (hX : XR M z D) (hM : MdM M b D) (g1 : gF sXt nT M M1) (g2 : gF sMt nT M1 M2) (h1 : TpI M2) (h2 : RfI M2) (h3 : FtI M2) (h4 : ImI M2) : Inv M2 := by
  have X1 := XR_t hD hX g1 (fun a j q => q)
  have m1 := MdM_g hM g1 (fun a j q w => by unfold tlM at q; unfold sXt at w; omega)
  exact ⟨z, b, D, hD, XR_m hD X1 g2 (fun a j q => by unfold sMt at q; omega), MdM_g m1 g2 (fun a j q w => by unfold tlM at q; unfold sMt at w; omega), h1, h2, h3, h4⟩
/-- the two calls both end; nothing is said of their answers but their kind -/
def OpU (y ym : Nat) (as : List Value) (K : Value → Prop) : Prop := ∀ (M : am_M), Inv M → ∀ d, 200 ≤ d → am_E am_P0 d y (.ref 0 :: as) M (fun r M1 => ∃ v, r = some v ∧ K v ∧ Lay M1 ∧ am_E am_P0 d ym (.ref 277 :: as) M1 (fun r2 M2 => ∃ v2, r2 = some v2 ∧ K v2 ∧ Inv M2))
theorem op_faultU (k : Int32) : OpU 112 207 [.int k] isI := by
  intro M hI d hd
  obtain ⟨z, b, D, hD, hX, hM, hT, hRf, hFt, hIm⟩ := id hI
  obtain ⟨e, rfl⟩ : ∃ e, d = e + 1 := ⟨d - 1, by omega⟩
  rw [c_x_fault _ _ _ _ hX.1.1]
  refine ⟨_, rfl, ⟨_, rfl⟩, hX.1.1, ?_⟩
  rw [c_m_fault _ _ _ _ hX.1.1]
  exact ⟨_, rfl, ⟨_, rfl⟩, hI⟩
/-- where the places are alike -/
theorem op_faultS (k : Int32) (M : am_M) (hI : Inv M) (h6 : mI M 0 6 = mI M 277 11) (d : Nat) (hd : 200 ≤ d) : am_E am_P0 d 112 (.ref 0 :: [.int k]) M (fun r M1 => ∃ v, r = some v ∧ isI v ∧ Lay M1 ∧ am_E am_P0 d 207 (.ref 277 :: [.int k]) M1 (fun r2 M2 => r2 = some v ∧ Inv M2)) := by
  obtain ⟨z, b, D, hD, hX, hM, hT, hRf, hFt, hIm⟩ := id hI
  obtain ⟨e, rfl⟩ : ∃ e, d = e + 1 := ⟨d - 1, by omega⟩
  rw [c_x_fault _ _ _ _ hX.1.1]
  refine ⟨_, rfl, ⟨_, rfl⟩, hX.1.1, ?_⟩
  rw [c_m_fault _ _ _ _ hX.1.1, hFt.1, h6]
  exact ⟨rfl, hI⟩
theorem op_status (k : Int32) : OpI 147 209 [.int k] isI := by
  intro M hI d hd
  obtain ⟨z, b, D, hD, hX, hM, hT, hRf, hFt, hIm⟩ := id hI
  obtain ⟨e, rfl⟩ : ∃ e, d = e + 1 := ⟨d - 1, by omega⟩
  rw [c_x_status _ _ _ _ hX.1.1]
  refine ⟨_, rfl, ⟨_, rfl⟩, hX.1.1, ?_⟩
  rw [c_m_status _ _ _ _ hX.1.1]
  refine ⟨?_, hI⟩
  by_cases c : 0 ≤ k ∧ k ≤ 4
  · have c4 : (4 : Int32).toInt = 4 := rfl
    have a1 := le32.mp c.1
    have a2 := le32.mp c.2
    rw [z32] at a1
    rw [c4] at a2
    rw [if_pos c, if_pos c, hRf _ (by omega)]
  · rw [if_neg c, if_neg c]
theorem op_octet (k : Int32) : OpI 145 300 [.int k] isI := by
  intro M hI d hd
  obtain ⟨z, b, D, hD, hX, hM, hT, hRf, hFt, ⟨n, n1, n2, n3, n4⟩⟩ := id hI
  rw [c_x_octet _ _ _ _ hX.1.1 n n2 n1]
  refine ⟨_, rfl, ⟨_, rfl⟩, hX.1.1, ?_⟩
  rw [c_m_octet _ _ _ _ hX.1.1 n n3 (by omega)]
  refine ⟨?_, hI⟩
  by_cases c : 0 ≤ k.toInt ∧ k.toInt < n
  · rw [if_pos c, if_pos c, n4 _ (by omega)]
  · rw [if_neg c, if_neg c]
theorem op_feed (a b c e f : Int32) : OpI 109 169 [.int a, .int b, .int c, .int e, .int f] isI := by
  intro M hI d hd
  obtain ⟨z, b', D, hD, hX, hM, ⟨T, n, t1, t2, t3, t4⟩, hRf, hFt, ⟨k, k1, k2, k3, k4⟩⟩ := id hI
  have hL := hX.1.1
  obtain ⟨d', rfl⟩ : ∃ d', d = d' + 1 := ⟨d - 1, by omega⟩
  rw [c_x_feed d' a b c e f M _ hL n t2 t1]
  by_cases cn : n + 20 ≤ 1800
  · rw [if_pos cn]
    refine ⟨_, rfl, ⟨_, rfl⟩, hX.1.1, ?_⟩
    have g1 : gF sXt nT M (feed5 M 1 0 1 n a b c e f) := gF_feed5 M 1 0 1 n a b c e f (fun j => by unfold sXt; omega) (by unfold sXt; omega)
    have g1' : gF (fun a j => a = 1 ∨ (a = 0 ∧ j = 1)) nT M (feed5 M 1 0 1 n a b c e f) := gF_feed5 M 1 0 1 n a b c e f (fun j => Or.inl rfl) (Or.inr ⟨rfl, rfl⟩)
    have L1 := gF_LayN g1 hL
    rw [c_m_feed d' a b c e f _ _ L1 n (by rw [g1'.1 _ _ (by omega)]; exact t3) t1, if_pos cn]
    obtain ⟨A, hA⟩ : ∃ A, A = feed5 M 1 0 1 n a b c e f := ⟨_, rfl⟩
    rw [← hA] at g1 g1' L1 ⊢
    have g2 : gF (fun a j => a = 278 ∨ (a = 277 ∧ j = 1)) nT A (feed5 A 278 277 1 n a b c e f) := gF_feed5 A 278 277 1 n a b c e f (fun j => Or.inl rfl) (Or.inr ⟨rfl, rfl⟩)
    have kp : ∀ a' j, ¬ (a' = 1 ∨ (a' = 0 ∧ j = 1)) → ¬ (a' = 278 ∨ (a' = 277 ∧ j = 1)) → mI (feed5 A 278 277 1 n a b c e f) a' j = mI M a' j := fun a' j q1 q2 => by rw [g2.1 _ _ q2, g1'.1 _ _ q1]
    refine ⟨rfl, Inv_t hD hX hM g1 (gF_up g2 (fun a' j q => by unfold sMt; omega) (fun _ _ q => q)) ?_ (fun j hj => ?_) ⟨?_, ?_⟩ ⟨k, k1, ?_, ?_, fun j hj => ?_⟩⟩
    · have hb : byT (pt20 (fun j => mI M 1 j) n a b c e f) := pt4_by (pt4_by (pt4_by (pt4_by (pt4_by (fun j hj => ⟨T j, (t4 j hj).1, (t4 j hj).2.1⟩) _ _) _ _) _ _) _ _) _ _
      have e1 : ∀ j, j < 1800 → mI (feed5 A 278 277 1 n a b c e f) 1 j = pt20 (fun j => mI M 1 j) n a b c e f j := fun j _ => by rw [g2.1 _ _ (by omega), hA, feed5_t _ _ _ _ _ _ _ _ _ _ (by omega)]
      have e2 : ∀ j, j < 1800 → mI (feed5 A 278 277 1 n a b c e f) 278 j = pt20 (fun j => mI M 1 j) n a b c e f j := fun j hj => by
        rw [feed5_t _ _ _ _ _ _ _ _ _ _ (by omega)]
        exact pt4_ext (pt4_ext (pt4_ext (pt4_ext (pt4_ext (fun j hj => by rw [g1'.1 _ _ (by omega), (t4 j hj).2.1, (t4 j hj).2.2]))))) j hj
      refine ⟨fun j => (pt20 (fun j => mI M 1 j) n a b c e f j).toInt.toNat, n + 20, cn, ?_, ?_, fun j hj => ?_⟩
      · rw [g2.1 _ _ (by omega), hA, feed5_n]
      · rw [feed5_n]
      · obtain ⟨m, m1, m2⟩ := hb j hj
        dsimp only
        rw [e1 j hj, e2 j hj, m2, ni_ti (by omega)]
        exact ⟨by omega, by congr 1, by congr 1⟩
    · rw [kp _ _ (by omega) (by omega), kp _ _ (by omega) (by omega)]; exact hRf j hj
    · rw [kp _ _ (by omega) (by omega), kp _ _ (by omega) (by omega)]; exact hFt.1
    · trivial
    · rw [kp _ _ (by omega) (by omega)]; exact k2
    · rw [kp _ _ (by omega) (by omega)]; exact k3
    · rw [kp _ _ (by omega) (by omega), kp _ _ (by omega) (by omega)]; exact k4 j hj
  · rw [if_neg cn]
    refine ⟨_, rfl, ⟨_, rfl⟩, hX.1.1, ?_⟩
    have g1 : gF (fun a j => a = 169 ∧ j = 0) nT M (uI M 169 0 (mI M 169 0 + 1)) := gF_i _ ⟨rfl, rfl⟩
    have L1 := gF_LayN g1 hL
    rw [c_m_feed d' a b c e f _ _ L1 n (by rw [g1.1 _ _ (by omega)]; exact t3) t1, if_neg cn]
    obtain ⟨A, hA⟩ : ∃ A, A = uI M 169 0 (mI M 169 0 + 1) := ⟨_, rfl⟩
    rw [← hA] at g1 L1 ⊢
    have g2 : gF (fun a j => a = 312 ∧ j = 0) nT A (uI A 312 0 (mI A 312 0 + 1)) := gF_i _ ⟨rfl, rfl⟩
    have kp : ∀ a' j, ¬ (a' = 169 ∧ j = 0) → ¬ (a' = 312 ∧ j = 0) → mI (uI A 312 0 (mI A 312 0 + 1)) a' j = mI M a' j := fun a' j q1 q2 => by rw [g2.1 _ _ q2, g1.1 _ _ q1]
    refine ⟨rfl, Inv_t hD hX hM (gF_up g1 (fun a' j q => by unfold sXt; omega) (fun _ _ q => q)) (gF_up g2 (fun a' j q => by unfold sMt; omega) (fun _ _ q => q)) ⟨T, n, t1, ?_, ?_, fun j hj => ⟨(t4 j hj).1, ?_, ?_⟩⟩ (fun j hj => ?_) ⟨?_, ?_⟩ ⟨k, k1, ?_, ?_, fun j hj => ?_⟩⟩
    · rw [kp _ _ (by omega) (by omega)]; exact t2
    · rw [kp _ _ (by omega) (by omega)]; exact t3
    · rw [kp _ _ (by omega) (by omega)]; exact (t4 j hj).2.1
    · rw [kp _ _ (by omega) (by omega)]; exact (t4 j hj).2.2
    · by_cases e0 : j = 0
      · rw [e0, g2.1 _ _ (by omega), m_uI_I, if_pos ⟨rfl, rfl⟩, hA, m_uI_I, if_pos ⟨rfl, rfl⟩, m_uI_I, if_neg (by omega), hRf 0 (by omega)]
      · rw [kp _ _ (by omega) (by omega), kp _ _ (by omega) (by omega)]; exact hRf j hj
    · rw [kp _ _ (by omega) (by omega), kp _ _ (by omega) (by omega)]; exact hFt.1
    · trivial
    · rw [kp _ _ (by omega) (by omega)]; exact k2
    · rw [kp _ _ (by omega) (by omega)]; exact k3
    · rw [kp _ _ (by omega) (by omega), kp _ _ (by omega) (by omega)]; exact k4 j hj
theorem op_end (x : Int32) : OpI 110 170 [.int x] isI := by
  intro M hI d hd
  obtain ⟨z, b', D, hD, hX, hM, ⟨T, n, t1, t2, t3, t4⟩, hRf, hFt, ⟨k, k1, k2, k3, k4⟩⟩ := id hI
  have hL := hX.1.1
  obtain ⟨d', rfl⟩ : ∃ d', d = d' + 1 := ⟨d - 1, by omega⟩
  rw [c_x_end _ x M _ hL n t2]
  by_cases cn : x < 0 ∨ nI n < x
  · rw [if_pos cn]
    refine ⟨_, rfl, ⟨_, rfl⟩, hX.1.1, ?_⟩
    have g1 : gF (fun a j => a = 169 ∧ j = 0) nT M (uI M 169 0 (mI M 169 0 + 1)) := gF_i _ ⟨rfl, rfl⟩
    have L1 := gF_LayN g1 hL
    rw [c_m_end d' x _ _ L1 n (by rw [g1.1 _ _ (by omega)]; exact t3), if_pos cn]
    obtain ⟨A, hA⟩ : ∃ A, A = uI M 169 0 (mI M 169 0 + 1) := ⟨_, rfl⟩
    rw [← hA] at g1 L1 ⊢
    have g2 : gF (fun a j => a = 312 ∧ j = 0) nT A (uI A 312 0 (mI A 312 0 + 1)) := gF_i _ ⟨rfl, rfl⟩
    have kp : ∀ a' j, ¬ (a' = 169 ∧ j = 0) → ¬ (a' = 312 ∧ j = 0) → mI (uI A 312 0 (mI A 312 0 + 1)) a' j = mI M a' j := fun a' j q1 q2 => by rw [g2.1 _ _ q2, g1.1 _ _ q1]
    refine ⟨rfl, Inv_t hD hX hM (gF_up g1 (fun a' j q => by unfold sXt; omega) (fun _ _ q => q)) (gF_up g2 (fun a' j q => by unfold sMt; omega) (fun _ _ q => q)) ⟨T, n, t1, ?_, ?_, fun j hj => ⟨(t4 j hj).1, ?_, ?_⟩⟩ (fun j hj => ?_) ⟨?_, ?_⟩ ⟨k, k1, ?_, ?_, fun j hj => ?_⟩⟩
    · rw [kp _ _ (by omega) (by omega)]; exact t2
    · rw [kp _ _ (by omega) (by omega)]; exact t3
    · rw [kp _ _ (by omega) (by omega)]; exact (t4 j hj).2.1
    · rw [kp _ _ (by omega) (by omega)]; exact (t4 j hj).2.2
    · by_cases e0 : j = 0
      · rw [e0, g2.1 _ _ (by omega), m_uI_I, if_pos ⟨rfl, rfl⟩, hA, m_uI_I, if_pos ⟨rfl, rfl⟩, m_uI_I, if_neg (by omega), hRf 0 (by omega)]
      · rw [kp _ _ (by omega) (by omega), kp _ _ (by omega) (by omega)]; exact hRf j hj
    · rw [kp _ _ (by omega) (by omega), kp _ _ (by omega) (by omega)]; exact hFt.1
    · trivial
    · rw [kp _ _ (by omega) (by omega)]; exact k2
    · rw [kp _ _ (by omega) (by omega)]; exact k3
    · rw [kp _ _ (by omega) (by omega), kp _ _ (by omega) (by omega)]; exact k4 j hj
  · rw [if_neg cn]
    refine ⟨_, rfl, ⟨_, rfl⟩, hX.1.1, ?_⟩
    have x0 : 0 ≤ x.toInt ∧ x.toInt ≤ n := by
      constructor
      · apply Classical.byContradiction
        intro q
        exact cn (Or.inl (by rw [lt32, z32]; omega))
      · apply Classical.byContradiction
        intro q
        exact cn (Or.inr (by rw [lt32, ni_ti (by omega)]; omega))
    have ex : x = nI x.toInt.toNat := i32_of (by omega) (by omega)
    have g1 : gF (fun a j => a = 0 ∧ j = 1) nT M (uI M 0 1 x) := gF_i _ ⟨rfl, rfl⟩
    have L1 := gF_LayN g1 hL
    rw [c_m_end d' x _ _ L1 n (by rw [g1.1 _ _ (by omega)]; exact t3), if_neg cn]
    obtain ⟨A, hA⟩ : ∃ A, A = uI M 0 1 x := ⟨_, rfl⟩
    rw [← hA] at g1 L1 ⊢
    have g2 : gF (fun a j => a = 277 ∧ j = 1) nT A (uI A 277 1 x) := gF_i _ ⟨rfl, rfl⟩
    have kp : ∀ a' j, ¬ (a' = 0 ∧ j = 1) → ¬ (a' = 277 ∧ j = 1) → mI (uI A 277 1 x) a' j = mI M a' j := fun a' j q1 q2 => by rw [g2.1 _ _ q2, g1.1 _ _ q1]
    refine ⟨rfl, Inv_t hD hX hM (gF_up g1 (fun a' j q => by unfold sXt; omega) (fun _ _ q => q)) (gF_up g2 (fun a' j q => by unfold sMt; omega) (fun _ _ q => q)) ⟨T, x.toInt.toNat, by omega, ?_, ?_, fun j hj => ⟨(t4 j hj).1, ?_, ?_⟩⟩ (fun j hj => ?_) ⟨?_, ?_⟩ ⟨k, k1, ?_, ?_, fun j hj => ?_⟩⟩
    · rw [g2.1 _ _ (by omega), hA, m_uI_I, if_pos ⟨rfl, rfl⟩]; exact ex
    · rw [m_uI_I, if_pos ⟨rfl, rfl⟩]; exact ex
    · rw [kp _ _ (by omega) (by omega)]; exact (t4 j hj).2.1
    · rw [kp _ _ (by omega) (by omega)]; exact (t4 j hj).2.2
    · rw [kp _ _ (by omega) (by omega), kp _ _ (by omega) (by omega)]; exact hRf j hj
    · rw [kp _ _ (by omega) (by omega), kp _ _ (by omega) (by omega)]; exact hFt.1
    · trivial
    · rw [kp _ _ (by omega) (by omega)]; exact k2
    · rw [kp _ _ (by omega) (by omega)]; exact k3
    · rw [kp _ _ (by omega) (by omega), kp _ _ (by omega) (by omega)]; exact k4 j hj
