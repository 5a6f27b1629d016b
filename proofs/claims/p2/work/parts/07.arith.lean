/-! arithmetic, stack, branches -/
section
variable {own : String} {cc : ByteArray} {nL : Nat} {ret : Option FieldType} {nm : String} {pc : Nat}
theorem s_iadd (hdg : decode cc pc = .ok (.iadd, 1)) : am_Snd1 own cc nL ret nm pc (a_bi (fun x y => x + y) (pc + 1)) := by
  refine am_s0 fun lv st M pc' lv' st' M' he => ?_
  unfold a_bi at he
  split at he <;> cases he
  exact ⟨rfl, rfl, fun G p l e R s m args below meth c H locs ls kc ks Q hC hL k => lv_iadd hC.1 hC.2.1 hdg k⟩
theorem s_isub (hdg : decode cc pc = .ok (.isub, 1)) : am_Snd1 own cc nL ret nm pc (a_bi (fun x y => x - y) (pc + 1)) := by
  refine am_s0 fun lv st M pc' lv' st' M' he => ?_
  unfold a_bi at he
  split at he <;> cases he
  exact ⟨rfl, rfl, fun G p l e R s m args below meth c H locs ls kc ks Q hC hL k => lv_isub hC.1 hC.2.1 hdg k⟩
theorem s_imul (hdg : decode cc pc = .ok (.imul, 1)) : am_Snd1 own cc nL ret nm pc (a_bi (fun x y => x * y) (pc + 1)) := by
  refine am_s0 fun lv st M pc' lv' st' M' he => ?_
  unfold a_bi at he
  split at he <;> cases he
  exact ⟨rfl, rfl, fun G p l e R s m args below meth c H locs ls kc ks Q hC hL k => lv_imul hC.1 hC.2.1 hdg k⟩
theorem s_iand (hdg : decode cc pc = .ok (.iand, 1)) : am_Snd1 own cc nL ret nm pc (a_bi (fun x y => x &&& y) (pc + 1)) := by
  refine am_s0 fun lv st M pc' lv' st' M' he => ?_
  unfold a_bi at he
  split at he <;> cases he
  exact ⟨rfl, rfl, fun G p l e R s m args below meth c H locs ls kc ks Q hC hL k => lv_iand hC.1 hC.2.1 hdg k⟩
theorem s_ior (hdg : decode cc pc = .ok (.ior, 1)) : am_Snd1 own cc nL ret nm pc (a_bi (fun x y => x ||| y) (pc + 1)) := by
  refine am_s0 fun lv st M pc' lv' st' M' he => ?_
  unfold a_bi at he
  split at he <;> cases he
  exact ⟨rfl, rfl, fun G p l e R s m args below meth c H locs ls kc ks Q hC hL k => lv_ior hC.1 hC.2.1 hdg k⟩
theorem s_ixor (hdg : decode cc pc = .ok (.ixor, 1)) : am_Snd1 own cc nL ret nm pc (a_bi (fun x y => x ^^^ y) (pc + 1)) := by
  refine am_s0 fun lv st M pc' lv' st' M' he => ?_
  unfold a_bi at he
  split at he <;> cases he
  exact ⟨rfl, rfl, fun G p l e R s m args below meth c H locs ls kc ks Q hC hL k => lv_ixor hC.1 hC.2.1 hdg k⟩
theorem s_ishl (hdg : decode cc pc = .ok (.ishl, 1)) : am_Snd1 own cc nL ret nm pc (a_bi (fun x y => x <<< (y &&& 31)) (pc + 1)) := by
  refine am_s0 fun lv st M pc' lv' st' M' he => ?_
  unfold a_bi at he
  split at he <;> cases he
  exact ⟨rfl, rfl, fun G p l e R s m args below meth c H locs ls kc ks Q hC hL k => lv_ishl hC.1 hC.2.1 hdg k⟩
theorem s_ishr (hdg : decode cc pc = .ok (.ishr, 1)) : am_Snd1 own cc nL ret nm pc (a_bi (fun x y => x >>> (y &&& 31)) (pc + 1)) := by
  refine am_s0 fun lv st M pc' lv' st' M' he => ?_
  unfold a_bi at he
  split at he <;> cases he
  exact ⟨rfl, rfl, fun G p l e R s m args below meth c H locs ls kc ks Q hC hL k => lv_ishr hC.1 hC.2.1 hdg k⟩
theorem s_ladd (hdg : decode cc pc = .ok (.ladd, 1)) : am_Snd1 own cc nL ret nm pc (a_bl (fun x y => x + y) (pc + 1)) := by
  refine am_s0 fun lv st M pc' lv' st' M' he => ?_
  unfold a_bl at he
  split at he <;> cases he
  exact ⟨rfl, rfl, fun G p l e R s m args below meth c H locs ls kc ks Q hC hL k => lv_ladd hC.1 hC.2.1 hdg k⟩
theorem s_lsub (hdg : decode cc pc = .ok (.lsub, 1)) : am_Snd1 own cc nL ret nm pc (a_bl (fun x y => x - y) (pc + 1)) := by
  refine am_s0 fun lv st M pc' lv' st' M' he => ?_
  unfold a_bl at he
  split at he <;> cases he
  exact ⟨rfl, rfl, fun G p l e R s m args below meth c H locs ls kc ks Q hC hL k => lv_lsub hC.1 hC.2.1 hdg k⟩
theorem s_lmul (hdg : decode cc pc = .ok (.lmul, 1)) : am_Snd1 own cc nL ret nm pc (a_bl (fun x y => x * y) (pc + 1)) := by
  refine am_s0 fun lv st M pc' lv' st' M' he => ?_
  unfold a_bl at he
  split at he <;> cases he
  exact ⟨rfl, rfl, fun G p l e R s m args below meth c H locs ls kc ks Q hC hL k => lv_lmul hC.1 hC.2.1 hdg k⟩
theorem s_land (hdg : decode cc pc = .ok (.land, 1)) : am_Snd1 own cc nL ret nm pc (a_bl (fun x y => x &&& y) (pc + 1)) := by
  refine am_s0 fun lv st M pc' lv' st' M' he => ?_
  unfold a_bl at he
  split at he <;> cases he
  exact ⟨rfl, rfl, fun G p l e R s m args below meth c H locs ls kc ks Q hC hL k => lv_land hC.1 hC.2.1 hdg k⟩
theorem s_lor (hdg : decode cc pc = .ok (.lor, 1)) : am_Snd1 own cc nL ret nm pc (a_bl (fun x y => x ||| y) (pc + 1)) := by
  refine am_s0 fun lv st M pc' lv' st' M' he => ?_
  unfold a_bl at he
  split at he <;> cases he
  exact ⟨rfl, rfl, fun G p l e R s m args below meth c H locs ls kc ks Q hC hL k => lv_lor hC.1 hC.2.1 hdg k⟩
theorem s_lxor (hdg : decode cc pc = .ok (.lxor, 1)) : am_Snd1 own cc nL ret nm pc (a_bl (fun x y => x ^^^ y) (pc + 1)) := by
  refine am_s0 fun lv st M pc' lv' st' M' he => ?_
  unfold a_bl at he
  split at he <;> cases he
  exact ⟨rfl, rfl, fun G p l e R s m args below meth c H locs ls kc ks Q hC hL k => lv_lxor hC.1 hC.2.1 hdg k⟩
theorem s_idiv (hdg : decode cc pc = .ok (.idiv, 1)) : am_Snd1 own cc nL ret nm pc (a_bd (fun x y => x / y) (pc + 1)) := by
  refine am_s0 fun lv st M pc' lv' st' M' he => ?_
  unfold a_bd at he
  split at he
  · split at he <;> cases he
    rename_i hne
    exact ⟨rfl, rfl, fun G p l e R s m args below meth c H locs ls kc ks Q hC hL k => lv_idiv hC.1 hC.2.1 hdg hne k⟩
  · cases he
theorem s_irem (hdg : decode cc pc = .ok (.irem, 1)) : am_Snd1 own cc nL ret nm pc (a_bd (fun x y => x - x / y * y) (pc + 1)) := by
  refine am_s0 fun lv st M pc' lv' st' M' he => ?_
  unfold a_bd at he
  split at he
  · split at he <;> cases he
    rename_i hne
    exact ⟨rfl, rfl, fun G p l e R s m args below meth c H locs ls kc ks Q hC hL k => lv_irem hC.1 hC.2.1 hdg hne k⟩
  · cases he
theorem s_ldiv (hdg : decode cc pc = .ok (.ldiv, 1)) : am_Snd1 own cc nL ret nm pc (a_bm (fun x y => x / y) (pc + 1)) := by
  refine am_s0 fun lv st M pc' lv' st' M' he => ?_
  unfold a_bm at he
  split at he
  · split at he <;> cases he
    rename_i hne
    exact ⟨rfl, rfl, fun G p l e R s m args below meth c H locs ls kc ks Q hC hL k => lv_ldiv hC.1 hC.2.1 hdg hne k⟩
  · cases he
theorem s_lrem (hdg : decode cc pc = .ok (.lrem, 1)) : am_Snd1 own cc nL ret nm pc (a_bm (fun x y => x - x / y * y) (pc + 1)) := by
  refine am_s0 fun lv st M pc' lv' st' M' he => ?_
  unfold a_bm at he
  split at he
  · split at he <;> cases he
    rename_i hne
    exact ⟨rfl, rfl, fun G p l e R s m args below meth c H locs ls kc ks Q hC hL k => lv_lrem hC.1 hC.2.1 hdg hne k⟩
  · cases he
theorem s_lshl (hdg : decode cc pc = .ok (.lshl, 1)) : am_Snd1 own cc nL ret nm pc (a_ls (fun x y => x <<< (y.toInt64 &&& 63)) (pc + 1)) := by
  refine am_s0 fun lv st M pc' lv' st' M' he => ?_
  unfold a_ls at he
  split at he <;> cases he
  exact ⟨rfl, rfl, fun G p l e R s m args below meth c H locs ls kc ks Q hC hL k => lv_lshl hC.1 hC.2.1 hdg rfl k⟩
theorem s_lushr (hdg : decode cc pc = .ok (.lushr, 1)) : am_Snd1 own cc nL ret nm pc (a_ls (fun x y => (x.toUInt64 >>> (y.toInt64 &&& 63).toUInt64).toInt64) (pc + 1)) := by
  refine am_s0 fun lv st M pc' lv' st' M' he => ?_
  unfold a_ls at he
  split at he <;> cases he
  exact ⟨rfl, rfl, fun G p l e R s m args below meth c H locs ls kc ks Q hC hL k => lv_lushr hC.1 hC.2.1 hdg rfl k⟩
theorem s_lshr (hdg : decode cc pc = .ok (.lshr, 1)) : am_Snd1 own cc nL ret nm pc (a_ls (fun x y => x >>> (y.toInt64 &&& 63)) (pc + 1)) := by
  refine am_s0 fun lv st M pc' lv' st' M' he => ?_
  unfold a_ls at he
  split at he <;> cases he
  exact ⟨rfl, rfl, fun G p l e R s m args below meth c H locs ls kc ks Q hC hL k => lv_lshr hC.1 hC.2.1 hdg rfl k⟩
theorem s_iushr (hdg : decode cc pc = .ok (.iushr, 1)) : am_Snd1 own cc nL ret nm pc (a_bi (fun x y => (x.toUInt32 >>> (y &&& 31).toUInt32).toInt32) (pc + 1)) := by
  refine am_s0 fun lv st M pc' lv' st' M' he => ?_
  unfold a_bi at he
  split at he <;> cases he
  exact ⟨rfl, rfl, fun G p l e R s m args below meth c H locs ls kc ks Q hC hL k => lv_iushr hC.1 hC.2.1 hdg rfl k⟩
theorem s_ineg (hdg : decode cc pc = .ok (.ineg, 1)) : am_Snd1 own cc nL ret nm pc (a_ui (fun x => -x) (pc + 1)) := by
  refine am_s0 fun lv st M pc' lv' st' M' he => ?_
  unfold a_ui at he
  split at he <;> cases he
  exact ⟨rfl, rfl, fun G p l e R s m args below meth c H locs ls kc ks Q hC hL k => lv_ineg hC.1 hC.2.1 hdg k⟩
theorem s_i2l (hdg : decode cc pc = .ok (.i2l, 1)) : am_Snd1 own cc nL ret nm pc (a_i2l (pc + 1)) := by
  refine am_s0 fun lv st M pc' lv' st' M' he => ?_
  unfold a_i2l at he
  split at he <;> cases he
  exact ⟨rfl, rfl, fun G p l e R s m args below meth c H locs ls kc ks Q hC hL k => lv_i2l hC.1 hC.2.1 hdg rfl k⟩
theorem s_l2i (hdg : decode cc pc = .ok (.l2i, 1)) : am_Snd1 own cc nL ret nm pc (a_l2i (pc + 1)) := by
  refine am_s0 fun lv st M pc' lv' st' M' he => ?_
  unfold a_l2i at he
  split at he <;> cases he
  exact ⟨rfl, rfl, fun G p l e R s m args below meth c H locs ls kc ks Q hC hL k => lv_l2i hC.1 hC.2.1 hdg rfl k⟩
theorem s_lcmp (hdg : decode cc pc = .ok (.lcmp, 1)) : am_Snd1 own cc nL ret nm pc (a_lcmp (pc + 1)) := by
  refine am_s0 fun lv st M pc' lv' st' M' he => ?_
  unfold a_lcmp at he
  split at he <;> cases he
  exact ⟨rfl, rfl, fun G p l e R s m args below meth c H locs ls kc ks Q hC hL k => W.lcmp hC.1 hC.2.1 hdg k⟩
theorem s_dup2l (hdg : decode cc pc = .ok (.dup2, 1)) : am_Snd1 own cc nL ret nm pc (a_dup2l (pc + 1)) := by
  refine am_s0 fun lv st M pc' lv' st' M' he => ?_
  unfold a_dup2l at he
  split at he <;> cases he
  exact ⟨rfl, rfl, fun G p l e R s m args below meth c H locs ls kc ks Q hC hL k => lv_dup2_2 hC.1 hC.2.1 hdg rfl k⟩
theorem s_dup (hdg : decode cc pc = .ok (.dup, 1)) : am_Snd1 own cc nL ret nm pc (a_dup (pc + 1)) := by
  refine am_s0 fun lv st M pc' lv' st' M' he => ?_
  unfold a_dup at he
  split at he
  · split at he <;> cases he
    rename_i hc
    exact ⟨rfl, rfl, fun G p l e R s m args below meth c H locs ls kc ks Q hC hL k => lv_dup hC.1 hC.2.1 hdg (by rw [am_v_cat]; exact hc) k⟩
  · cases he
theorem s_pop (hdg : decode cc pc = .ok (.pop, 1)) : am_Snd1 own cc nL ret nm pc (a_pop (pc + 1)) := by
  refine am_s0 fun lv st M pc' lv' st' M' he => ?_
  unfold a_pop at he
  split at he
  · split at he <;> cases he
    rename_i hc
    exact ⟨rfl, rfl, fun G p l e R s m args below meth c H locs ls kc ks Q hC hL k => lv_pop hC.1 hC.2.1 hdg (by rw [am_v_cat]; exact hc) k⟩
  · cases he
theorem s_dup2 (hdg : decode cc pc = .ok (.dup2, 1)) : am_Snd1 own cc nL ret nm pc (a_dup2 (pc + 1)) := by
  refine am_s0 fun lv st M pc' lv' st' M' he => ?_
  unfold a_dup2 at he
  split at he
  · split at he <;> cases he
    rename_i hc
    exact ⟨rfl, rfl, fun G p l e R s m args below meth c H locs ls kc ks Q hC hL k => lv_dup2_11 hC.1 hC.2.1 hdg (by rw [am_v_cat]; exact hc.1) (by rw [am_v_cat]; exact hc.2) k⟩
  · cases he
theorem s_if_eq {off : Int} {tg : Nat} (hdg : decode cc pc = .ok (.ifCond .eq off, 3)) (ht : (pc : Int) + off = (tg : Int)) : am_Snd1 own cc nL ret nm pc (a_if (fun x => decide (x = 0)) tg (pc + 3)) := by
  refine am_s0 fun lv st M pc' lv' st' M' he => ?_
  unfold a_if at he
  split at he <;> cases he
  refine ⟨rfl, rfl, fun G p l e R s m args below meth c H locs ls kc ks Q hC hL k => lv_if_eq hC.1 hC.2.1 hdg ht (fun q => ?_) (fun q => ?_)⟩
  · rw [if_pos (decide_eq_true q)] at k; exact k
  · rw [if_neg (by rw [decide_eq_true_eq]; exact q)] at k; exact k
theorem s_icmp_eq {off : Int} {tg : Nat} (hdg : decode cc pc = .ok (.if_icmp .eq off, 3)) (ht : (pc : Int) + off = (tg : Int)) : am_Snd1 own cc nL ret nm pc (a_icmp (fun x y => decide (x = y)) tg (pc + 3)) := by
  refine am_s0 fun lv st M pc' lv' st' M' he => ?_
  unfold a_icmp at he
  split at he <;> cases he
  refine ⟨rfl, rfl, fun G p l e R s m args below meth c H locs ls kc ks Q hC hL k => lv_icmp_eq hC.1 hC.2.1 hdg ht (fun q => ?_) (fun q => ?_)⟩
  · rw [if_pos (decide_eq_true q)] at k; exact k
  · rw [if_neg (by rw [decide_eq_true_eq]; exact q)] at k; exact k
theorem s_if_ne {off : Int} {tg : Nat} (hdg : decode cc pc = .ok (.ifCond .ne off, 3)) (ht : (pc : Int) + off = (tg : Int)) : am_Snd1 own cc nL ret nm pc (a_if (fun x => decide (¬ x = 0)) tg (pc + 3)) := by
  refine am_s0 fun lv st M pc' lv' st' M' he => ?_
  unfold a_if at he
  split at he <;> cases he
  refine ⟨rfl, rfl, fun G p l e R s m args below meth c H locs ls kc ks Q hC hL k => lv_if_ne hC.1 hC.2.1 hdg ht (fun q => ?_) (fun q => ?_)⟩
  · rw [if_pos (decide_eq_true q)] at k; exact k
  · rw [if_neg (by rw [decide_eq_true_eq]; exact fun h => h q)] at k; exact k
theorem s_icmp_ne {off : Int} {tg : Nat} (hdg : decode cc pc = .ok (.if_icmp .ne off, 3)) (ht : (pc : Int) + off = (tg : Int)) : am_Snd1 own cc nL ret nm pc (a_icmp (fun x y => decide (¬ x = y)) tg (pc + 3)) := by
  refine am_s0 fun lv st M pc' lv' st' M' he => ?_
  unfold a_icmp at he
  split at he <;> cases he
  refine ⟨rfl, rfl, fun G p l e R s m args below meth c H locs ls kc ks Q hC hL k => lv_icmp_ne hC.1 hC.2.1 hdg ht (fun q => ?_) (fun q => ?_)⟩
  · rw [if_pos (decide_eq_true q)] at k; exact k
  · rw [if_neg (by rw [decide_eq_true_eq]; exact fun h => h q)] at k; exact k
theorem s_if_lt {off : Int} {tg : Nat} (hdg : decode cc pc = .ok (.ifCond .lt off, 3)) (ht : (pc : Int) + off = (tg : Int)) : am_Snd1 own cc nL ret nm pc (a_if (fun x => decide (x < 0)) tg (pc + 3)) := by
  refine am_s0 fun lv st M pc' lv' st' M' he => ?_
  unfold a_if at he
  split at he <;> cases he
  refine ⟨rfl, rfl, fun G p l e R s m args below meth c H locs ls kc ks Q hC hL k => lv_if_lt hC.1 hC.2.1 hdg ht (fun q => ?_) (fun q => ?_)⟩
  · rw [if_pos (decide_eq_true q)] at k; exact k
  · rw [if_neg (by rw [decide_eq_true_eq]; exact q)] at k; exact k
theorem s_icmp_lt {off : Int} {tg : Nat} (hdg : decode cc pc = .ok (.if_icmp .lt off, 3)) (ht : (pc : Int) + off = (tg : Int)) : am_Snd1 own cc nL ret nm pc (a_icmp (fun x y => decide (x < y)) tg (pc + 3)) := by
  refine am_s0 fun lv st M pc' lv' st' M' he => ?_
  unfold a_icmp at he
  split at he <;> cases he
  refine ⟨rfl, rfl, fun G p l e R s m args below meth c H locs ls kc ks Q hC hL k => lv_icmp_lt hC.1 hC.2.1 hdg ht (fun q => ?_) (fun q => ?_)⟩
  · rw [if_pos (decide_eq_true q)] at k; exact k
  · rw [if_neg (by rw [decide_eq_true_eq]; exact q)] at k; exact k
theorem s_if_ge {off : Int} {tg : Nat} (hdg : decode cc pc = .ok (.ifCond .ge off, 3)) (ht : (pc : Int) + off = (tg : Int)) : am_Snd1 own cc nL ret nm pc (a_if (fun x => decide (0 ≤ x)) tg (pc + 3)) := by
  refine am_s0 fun lv st M pc' lv' st' M' he => ?_
  unfold a_if at he
  split at he <;> cases he
  refine ⟨rfl, rfl, fun G p l e R s m args below meth c H locs ls kc ks Q hC hL k => lv_if_ge hC.1 hC.2.1 hdg ht (fun q => ?_) (fun q => ?_)⟩
  · rw [if_pos (decide_eq_true q)] at k; exact k
  · rw [if_neg (by rw [decide_eq_true_eq]; exact q)] at k; exact k
theorem s_icmp_ge {off : Int} {tg : Nat} (hdg : decode cc pc = .ok (.if_icmp .ge off, 3)) (ht : (pc : Int) + off = (tg : Int)) : am_Snd1 own cc nL ret nm pc (a_icmp (fun x y => decide (y ≤ x)) tg (pc + 3)) := by
  refine am_s0 fun lv st M pc' lv' st' M' he => ?_
  unfold a_icmp at he
  split at he <;> cases he
  refine ⟨rfl, rfl, fun G p l e R s m args below meth c H locs ls kc ks Q hC hL k => lv_icmp_ge hC.1 hC.2.1 hdg ht (fun q => ?_) (fun q => ?_)⟩
  · rw [if_pos (decide_eq_true q)] at k; exact k
  · rw [if_neg (by rw [decide_eq_true_eq]; exact q)] at k; exact k
theorem s_if_gt {off : Int} {tg : Nat} (hdg : decode cc pc = .ok (.ifCond .gt off, 3)) (ht : (pc : Int) + off = (tg : Int)) : am_Snd1 own cc nL ret nm pc (a_if (fun x => decide (0 < x)) tg (pc + 3)) := by
  refine am_s0 fun lv st M pc' lv' st' M' he => ?_
  unfold a_if at he
  split at he <;> cases he
  refine ⟨rfl, rfl, fun G p l e R s m args below meth c H locs ls kc ks Q hC hL k => lv_if_gt hC.1 hC.2.1 hdg ht (fun q => ?_) (fun q => ?_)⟩
  · rw [if_pos (decide_eq_true q)] at k; exact k
  · rw [if_neg (by rw [decide_eq_true_eq]; exact q)] at k; exact k
theorem s_icmp_gt {off : Int} {tg : Nat} (hdg : decode cc pc = .ok (.if_icmp .gt off, 3)) (ht : (pc : Int) + off = (tg : Int)) : am_Snd1 own cc nL ret nm pc (a_icmp (fun x y => decide (y < x)) tg (pc + 3)) := by
  refine am_s0 fun lv st M pc' lv' st' M' he => ?_
  unfold a_icmp at he
  split at he <;> cases he
  refine ⟨rfl, rfl, fun G p l e R s m args below meth c H locs ls kc ks Q hC hL k => lv_icmp_gt hC.1 hC.2.1 hdg ht (fun q => ?_) (fun q => ?_)⟩
  · rw [if_pos (decide_eq_true q)] at k; exact k
  · rw [if_neg (by rw [decide_eq_true_eq]; exact q)] at k; exact k
theorem s_if_le {off : Int} {tg : Nat} (hdg : decode cc pc = .ok (.ifCond .le off, 3)) (ht : (pc : Int) + off = (tg : Int)) : am_Snd1 own cc nL ret nm pc (a_if (fun x => decide (x ≤ 0)) tg (pc + 3)) := by
  refine am_s0 fun lv st M pc' lv' st' M' he => ?_
  unfold a_if at he
  split at he <;> cases he
  refine ⟨rfl, rfl, fun G p l e R s m args below meth c H locs ls kc ks Q hC hL k => lv_if_le hC.1 hC.2.1 hdg ht (fun q => ?_) (fun q => ?_)⟩
  · rw [if_pos (decide_eq_true q)] at k; exact k
  · rw [if_neg (by rw [decide_eq_true_eq]; exact q)] at k; exact k
theorem s_icmp_le {off : Int} {tg : Nat} (hdg : decode cc pc = .ok (.if_icmp .le off, 3)) (ht : (pc : Int) + off = (tg : Int)) : am_Snd1 own cc nL ret nm pc (a_icmp (fun x y => decide (x ≤ y)) tg (pc + 3)) := by
  refine am_s0 fun lv st M pc' lv' st' M' he => ?_
  unfold a_icmp at he
  split at he <;> cases he
  refine ⟨rfl, rfl, fun G p l e R s m args below meth c H locs ls kc ks Q hC hL k => lv_icmp_le hC.1 hC.2.1 hdg ht (fun q => ?_) (fun q => ?_)⟩
  · rw [if_pos (decide_eq_true q)] at k; exact k
  · rw [if_neg (by rw [decide_eq_true_eq]; exact q)] at k; exact k
theorem s_goto {off : Int} {tg : Nat} (hdg : decode cc pc = .ok (.goto off, 3)) (ht : (pc : Int) + off = (tg : Int)) : am_Snd1 own cc nL ret nm pc (a_goto tg) := by
  refine am_s0 fun lv st M pc' lv' st' M' he => ?_
  cases he
  exact ⟨rfl, rfl, fun G p l e R s m args below meth c H locs ls kc ks Q hC hL k => lv_goto hC.1 hC.2.1 hdg ht k⟩
theorem s_ifnn {off : Int} {tg : Nat} (hdg : decode cc pc = .ok (.ifnonnull off, 3)) (ht : (pc : Int) + off = (tg : Int)) : am_Snd1 own cc nL ret nm pc (a_ifnn tg (pc + 3)) := by
  refine am_s0 fun lv st M pc' lv' st' M' he => ?_
  unfold a_ifnn at he
  split at he <;> cases he
  · exact ⟨rfl, rfl, fun G p l e R s m args below meth c H locs ls kc ks Q hC hL k => lv_ifnonnullN hC.1 hC.2.1 hdg k⟩
  · exact ⟨rfl, rfl, fun G p l e R s m args below meth c H locs ls kc ks Q hC hL k => lv_ifnonnull hC.1 hC.2.1 hdg ht k⟩
/-- a table: where it goes by its int -/
def am_tab (lo : Int) (tgs : List Nat) (df : Nat) (x : Int32) : Nat := if x.toInt < lo then df else (tgs[(x.toInt - lo).toNat]?).getD df
theorem s_table {dflt lo hi : Int} {offs : Array Int} {len : Nat} {tgs : List Nat} {df : Nat} (hdg : decode cc pc = .ok (.tableswitch dflt lo hi offs, len)) (hd : (pc : Int) + dflt = (df : Int)) (hn : (hi - lo + 1).toNat = tgs.length) (hlh : lo ≤ hi + 1) (ho : offs.toList.map (fun o => (pc : Int) + o) = tgs.map (fun t : Nat => (t : Int))) : am_Snd1 own cc nL ret nm pc (a_sw (am_tab lo tgs df)) := by
  refine am_s0 fun lv st M pc' lv' st' M' he => ?_
  unfold a_sw at he
  split at he <;> cases he
  rename_i st2 x
  refine ⟨rfl, rfl, fun G p l e R s m args below meth c H locs ls kc ks Q hC hL k => ?_⟩
  unfold am_tab at k
  by_cases h1 : x.toInt < lo
  · rw [if_pos h1] at k
    exact lv_tableOut hC.1 hC.2.1 hdg (Or.inl h1) hd k
  · rw [if_neg h1] at k
    by_cases h2 : hi < x.toInt
    · rw [List.getElem?_eq_none (by omega)] at k
      exact lv_tableOut hC.1 hC.2.1 hdg (Or.inr h2) hd k
    · have hlt : (x.toInt - lo).toNat < tgs.length := by omega
      rw [List.getElem?_eq_getElem hlt] at k
      have hlen : offs.toList.length = tgs.length := by
        have := congrArg List.length ho
        simpa using this
      have hlt2 : (x.toInt - lo).toNat < offs.toList.length := by omega
      have hg := congrArg (fun l : List Int => l[(x.toInt - lo).toNat]?) ho
      simp only [List.getElem?_map, List.getElem?_eq_getElem hlt, List.getElem?_eq_getElem hlt2, Option.map_some, Option.some.injEq] at hg
      refine lv_tableIn hC.1 hC.2.1 hdg h1 h2 (off := offs.toList[(x.toInt - lo).toNat]) ?_ hg k
      rw [← Array.getElem?_toList]
      exact List.getElem?_eq_getElem hlt2
theorem s_lookup {dflt : Int} {ps : Array (Int × Int)} {len : Nat} {t : Int32 → Nat} (hdg : decode cc pc = .ok (.lookupswitch dflt ps, len)) (hp : (ps.toList.zip (ps.toList.drop 1)).all (fun (a, next) => a.1 < next.1) = true) (ho : ∀ x : Int32, (pc : Int) + Op.lookupswitch.offset ps.toList dflt x.toInt = (t x : Int)) : am_Snd1 own cc nL ret nm pc (a_sw t) := by
  refine am_s0 fun lv st M pc' lv' st' M' he => ?_
  unfold a_sw at he
  split at he <;> cases he
  exact ⟨rfl, rfl, fun G p l e R s m args below meth c H locs ls kc ks Q hC hL k => lv_lookup hC.1 hC.2.1 hdg hp rfl (ho _) k⟩
end
