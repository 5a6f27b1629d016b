/-! 20.rules 20.srt -/
section
/-- a local beside one that is set: a long is gone -/
def am_w1 (v : Value) : Value := if am_long v = true then am_x else v
theorem am_w1_i (x : Int32) : am_w1 (.int x) = .int x := rfl
theorem am_w1_r (x : Nat) : am_w1 (.ref x) = .ref x := rfl
theorem am_w1_x : am_w1 am_x = am_x := rfl
theorem am_w1_l (x : Int64) : am_w1 (.long x) = am_x := rfl
theorem am_w1_w (v : Value) : am_w1 (am_w1 v) = am_w1 v := by cases v <;> rfl
theorem am_cs_0 : am_cs [] = 0 := rfl
theorem am_cs_i (x : Int32) (st : List Value) : am_cs (.int x :: st) = 1 + am_cs st := rfl
theorem am_cs_l (x : Int64) (st : List Value) : am_cs (.long x :: st) = 2 + am_cs st := rfl
theorem am_cs_r (x : Nat) (st : List Value) : am_cs (.ref x :: st) = 1 + am_cs st := rfl
theorem am_push_n (st : List Value) : am_push none st = st := rfl
theorem am_push_s (v : Value) (st : List Value) : am_push (some v) st = v :: st := rfl
theorem va_rf_s (a : Nat) : va_rf (some a) = .ref a := rfl
/-! rules for a walk in AM: one for each kind of step -/
section
variable {P : Nat → am_Y} {d : Nat} {c : am_Code} {pc nx tg : Nat} {lv st : List Value} {M : am_M} {Q : Option Value → am_M → Prop}
theorem r_nx {f : am_F} {pc' : Nat} {lv' st' : List Value} {M' : am_M} (h : c pc = k_nx f) (e : f lv st M = some (pc', lv', st', M')) : am_P P d c pc lv st M Q ↔ am_P P d c pc' lv' st' M' Q := by
  rw [am_P_step, h]
  unfold k_nx
  rw [e]
  rfl
theorem r_no {f : am_F} (h : c pc = k_nx f) (e : f lv st M = none) : am_P P d c pc lv st M Q ↔ False := by
  rw [am_P_step, h]
  unfold k_nx
  rw [e]
  rfl
theorem r_c {v : Value} (h : c pc = k_nx (a_c v nx)) : am_P P d c pc lv st M Q ↔ am_P P d c nx lv (v :: st) M Q := r_nx h rfl
theorem r_bi {f : Int32 → Int32 → Int32} {x y : Int32} (h : c pc = k_nx (a_bi f nx)) : am_P P d c pc lv (.int y :: .int x :: st) M Q ↔ am_P P d c nx lv (.int (f x y) :: st) M Q := r_nx h rfl
theorem r_ui {f : Int32 → Int32} {x : Int32} (h : c pc = k_nx (a_ui f nx)) : am_P P d c pc lv (.int x :: st) M Q ↔ am_P P d c nx lv (.int (f x) :: st) M Q := r_nx h rfl
theorem r_bl {f : Int64 → Int64 → Int64} {x y : Int64} (h : c pc = k_nx (a_bl f nx)) : am_P P d c pc lv (.long y :: .long x :: st) M Q ↔ am_P P d c nx lv (.long (f x y) :: st) M Q := r_nx h rfl
theorem r_ls {f : Int64 → Int32 → Int64} {x : Int64} {y : Int32} (h : c pc = k_nx (a_ls f nx)) : am_P P d c pc lv (.int y :: .long x :: st) M Q ↔ am_P P d c nx lv (.long (f x y) :: st) M Q := r_nx h rfl
theorem r_bd {f : Int32 → Int32 → Int32} {x y : Int32} (h : c pc = k_nx (a_bd f nx)) : am_P P d c pc lv (.int y :: .int x :: st) M Q ↔ ¬ y = 0 ∧ am_P P d c nx lv (.int (f x y) :: st) M Q := by
  by_cases e : y = 0
  · rw [r_no h (by simp [a_bd, e])]; simp [e]
  · rw [r_nx h (show a_bd f nx lv (.int y :: .int x :: st) M = some (nx, lv, .int (f x y) :: st, M) by simp [a_bd, e])]; simp [e]
theorem r_bm {f : Int64 → Int64 → Int64} {x y : Int64} (h : c pc = k_nx (a_bm f nx)) : am_P P d c pc lv (.long y :: .long x :: st) M Q ↔ ¬ y = 0 ∧ am_P P d c nx lv (.long (f x y) :: st) M Q := by
  by_cases e : y = 0
  · rw [r_no h (by simp [a_bm, e])]; simp [e]
  · rw [r_nx h (show a_bm f nx lv (.long y :: .long x :: st) M = some (nx, lv, .long (f x y) :: st, M) by simp [a_bm, e])]; simp [e]
theorem r_i2l {x : Int32} (h : c pc = k_nx (a_i2l nx)) : am_P P d c pc lv (.int x :: st) M Q ↔ am_P P d c nx lv (.long x.toInt64 :: st) M Q := r_nx h rfl
theorem r_l2i {x : Int64} (h : c pc = k_nx (a_l2i nx)) : am_P P d c pc lv (.long x :: st) M Q ↔ am_P P d c nx lv (.int x.toInt32 :: st) M Q := r_nx h rfl
theorem r_lcmp {x y : Int64} (h : c pc = k_nx (a_lcmp nx)) : am_P P d c pc lv (.long y :: .long x :: st) M Q ↔ am_P P d c nx lv (.int (lg_cmp x y) :: st) M Q := r_nx h rfl
theorem r_dupi {x : Int32} (h : c pc = k_nx (a_dup nx)) : am_P P d c pc lv (.int x :: st) M Q ↔ am_P P d c nx lv (.int x :: .int x :: st) M Q := r_nx h rfl
theorem r_dupr {x : Nat} (h : c pc = k_nx (a_dup nx)) : am_P P d c pc lv (.ref x :: st) M Q ↔ am_P P d c nx lv (.ref x :: .ref x :: st) M Q := r_nx h rfl
theorem r_dup2 {x : Int32} {a : Nat} (h : c pc = k_nx (a_dup2 nx)) : am_P P d c pc lv (.int x :: .ref a :: st) M Q ↔ am_P P d c nx lv (.int x :: .ref a :: .int x :: .ref a :: st) M Q := r_nx h rfl
theorem r_popi {x : Int32} (h : c pc = k_nx (a_pop nx)) : am_P P d c pc lv (.int x :: st) M Q ↔ am_P P d c nx lv st M Q := r_nx h rfl
theorem r_popr {x : Nat} (h : c pc = k_nx (a_pop nx)) : am_P P d c pc lv (.ref x :: st) M Q ↔ am_P P d c nx lv st M Q := r_nx h rfl
theorem r_goto (h : c pc = k_nx (a_goto tg)) : am_P P d c pc lv st M Q ↔ am_P P d c tg lv st M Q := r_nx h rfl
theorem r_if {p : Int32 → Prop} {inst : ∀ x, Decidable (p x)} {x : Int32} (h : c pc = k_nx (a_if (fun x => @decide (p x) (inst x)) tg nx)) : am_P P d c pc lv (.int x :: st) M Q ↔ (p x → am_P P d c tg lv st M Q) ∧ (¬ p x → am_P P d c nx lv st M Q) := by
  rw [r_nx h (show a_if (fun x => @decide (p x) (inst x)) tg nx lv (.int x :: st) M = some (if @decide (p x) (inst x) = true then tg else nx, lv, st, M) from rfl)]
  by_cases e : p x <;> simp [e]
theorem r_icmp {p : Int32 → Int32 → Prop} {inst : ∀ x y, Decidable (p x y)} {x y : Int32} (h : c pc = k_nx (a_icmp (fun x y => @decide (p x y) (inst x y)) tg nx)) : am_P P d c pc lv (.int y :: .int x :: st) M Q ↔ (p x y → am_P P d c tg lv st M Q) ∧ (¬ p x y → am_P P d c nx lv st M Q) := by
  rw [r_nx h (show a_icmp (fun x y => @decide (p x y) (inst x y)) tg nx lv (.int y :: .int x :: st) M = some (if @decide (p x y) (inst x y) = true then tg else nx, lv, st, M) from rfl)]
  by_cases e : p x y <;> simp [e]
theorem r_nnN (h : c pc = k_nx (a_ifnn tg nx)) : am_P P d c pc lv (.null :: st) M Q ↔ am_P P d c nx lv st M Q := r_nx h rfl
theorem r_nnR {x : Nat} (h : c pc = k_nx (a_ifnn tg nx)) : am_P P d c pc lv (.ref x :: st) M Q ↔ am_P P d c tg lv st M Q := r_nx h rfl
theorem r_sw {t : Int32 → Nat} {x : Int32} (h : c pc = k_nx (a_sw t)) : am_P P d c pc lv (.int x :: st) M Q ↔ am_P P d c (t x) lv st M Q := r_nx h rfl
theorem r_get {ci k a : Nat} {ty : FieldType} (h : c pc = k_nx (a_get ci k ty nx)) : am_P P d c pc lv (.ref a :: st) M Q ↔ mK M a = 10 + ci ∧ am_P P d c nx lv (am_fv ty M a k :: st) M Q := by
  by_cases e : mK M a = 10 + ci
  · rw [r_nx h (show a_get ci k ty nx lv (.ref a :: st) M = some (nx, lv, am_fv ty M a k :: st, M) by simp [a_get, e])]; simp [e]
  · rw [r_no h (by simp [a_get, e])]; simp [e]
theorem r_put {ci k a : Nat} {ty : FieldType} {v : Value} {M' : am_M} (hw : am_wr ty M a k v = some M') (h : c pc = k_nx (a_put ci k ty nx)) : am_P P d c pc lv (v :: .ref a :: st) M Q ↔ mK M a = 10 + ci ∧ am_P P d c nx lv st M' Q := by
  by_cases e : mK M a = 10 + ci
  · rw [r_nx h (show a_put ci k ty nx lv (v :: .ref a :: st) M = some (nx, lv, st, M') by simp [a_put, e, hw])]; simp [e]
  · rw [r_no h (by simp [a_put, e])]; simp [e]
theorem r_putZ {ci k a : Nat} {x : Int32} (h : c pc = k_nx (a_put ci k .boolean nx)) : am_P P d c pc lv (.int x :: .ref a :: st) M Q ↔ (x = 0 ∨ x = 1) ∧ mK M a = 10 + ci ∧ am_P P d c nx lv st (uI M a k x) Q := by
  by_cases hx : x = 0 ∨ x = 1
  · rw [r_put (show am_wr .boolean M a k (.int x) = some (uI M a k x) by simp [am_wr, hx]) h]; simp [hx]
  · rw [r_no h (by simp [a_put, am_wr, hx])]; simp [hx]
theorem r_arl {kd a : Nat} {ty : FieldType} {i : Int32} (h : c pc = k_nx (a_arl kd ty nx)) : am_P P d c pc lv (.int i :: .ref a :: st) M Q ↔ mK M a = kd ∧ am_in i (mN M a) ∧ am_P P d c nx lv (am_fv ty M a i.toInt.toNat :: st) M Q := by
  by_cases e : mK M a = kd ∧ am_in i (mN M a)
  · rw [r_nx h (show a_arl kd ty nx lv (.int i :: .ref a :: st) M = some (nx, lv, am_fv ty M a i.toInt.toNat :: st, M) by unfold a_arl; exact if_pos e)]
    exact ⟨fun h => ⟨e.1, e.2, h⟩, fun h => h.2.2⟩
  · rw [r_no h (by unfold a_arl; exact if_neg e)]
    exact ⟨fun h => h.elim, fun h => e ⟨h.1, h.2.1⟩⟩
theorem r_aal {a : Nat} {i : Int32} (h : c pc = k_nx (a_aal nx)) : am_P P d c pc lv (.int i :: .ref a :: st) M Q ↔ (mK M a = 3 ∨ mK M a = 4 ∨ mK M a = 5) ∧ am_in i (mN M a) ∧ am_P P d c nx lv (va_rf (mR M a i.toInt.toNat) :: st) M Q := by
  by_cases e : (mK M a = 3 ∨ mK M a = 4 ∨ mK M a = 5) ∧ am_in i (mN M a)
  · rw [r_nx h (show a_aal nx lv (.int i :: .ref a :: st) M = some (nx, lv, va_rf (mR M a i.toInt.toNat) :: st, M) by unfold a_aal; exact if_pos e)]
    exact ⟨fun h => ⟨e.1, e.2, h⟩, fun h => h.2.2⟩
  · rw [r_no h (by unfold a_aal; exact if_neg e)]
    exact ⟨fun h => h.elim, fun h => e ⟨h.1, h.2.1⟩⟩
theorem r_ars {kd a : Nat} {ty : FieldType} {i : Int32} {v : Value} {M' : am_M} (hw : am_wr ty M a i.toInt.toNat v = some M') (h : c pc = k_nx (a_ars kd ty nx)) : am_P P d c pc lv (v :: .int i :: .ref a :: st) M Q ↔ mK M a = kd ∧ am_in i (mN M a) ∧ am_P P d c nx lv st M' Q := by
  by_cases e : mK M a = kd ∧ am_in i (mN M a)
  · rw [r_nx h (show a_ars kd ty nx lv (v :: .int i :: .ref a :: st) M = some (nx, lv, st, M') by unfold a_ars; dsimp only; rw [if_pos e, hw]; rfl)]
    exact ⟨fun h => ⟨e.1, e.2, h⟩, fun h => h.2.2⟩
  · rw [r_no h (by unfold a_ars; exact if_neg e)]
    exact ⟨fun h => h.elim, fun h => e ⟨h.1, h.2.1⟩⟩
theorem r_zast {a : Nat} {i x : Int32} (h : c pc = k_nx (a_ars 2 .boolean nx)) : am_P P d c pc lv (.int x :: .int i :: .ref a :: st) M Q ↔ (x = 0 ∨ x = 1) ∧ mK M a = 2 ∧ am_in i (mN M a) ∧ am_P P d c nx lv st (uI M a i.toInt.toNat x) Q := by
  by_cases hx : x = 0 ∨ x = 1
  · rw [r_ars (show am_wr .boolean M a i.toInt.toNat (.int x) = some (uI M a i.toInt.toNat x) by simp [am_wr, hx]) h]; simp [hx]
  · rw [r_no h (by unfold a_ars; simp [am_wr, hx])]; simp [hx]
theorem r_aas {a b : Nat} {i : Int32} (h : c pc = k_nx (a_aas nx)) : am_P P d c pc lv (.ref b :: .int i :: .ref a :: st) M Q ↔ ((mK M a = 3 ∧ mK M b = 16) ∨ (mK M a = 4 ∧ mK M b = 18) ∨ (mK M a = 5 ∧ mK M b = 1)) ∧ am_in i (mN M a) ∧ am_P P d c nx lv st (uR M a i.toInt.toNat (some b)) Q := by
  by_cases e : ((mK M a = 3 ∧ mK M b = 16) ∨ (mK M a = 4 ∧ mK M b = 18) ∨ (mK M a = 5 ∧ mK M b = 1)) ∧ am_in i (mN M a)
  · rw [r_nx h (show a_aas nx lv (.ref b :: .int i :: .ref a :: st) M = some (nx, lv, st, uR M a i.toInt.toNat (some b)) by unfold a_aas; exact if_pos e)]
    exact ⟨fun h => ⟨e.1, e.2, h⟩, fun h => h.2.2⟩
  · rw [r_no h (by unfold a_aas; exact if_neg e)]
    exact ⟨fun h => h.elim, fun h => e ⟨h.1, h.2.1⟩⟩
theorem r_len {a : Nat} (h : c pc = k_nx (a_len nx)) : am_P P d c pc lv (.ref a :: st) M Q ↔ mK M a < 6 ∧ am_P P d c nx lv (.int (Int32.ofNat (mN M a)) :: st) M Q := by
  by_cases e : mK M a < 6
  · rw [r_nx h (show a_len nx lv (.ref a :: st) M = some (nx, lv, .int (Int32.ofNat (mN M a)) :: st, M) by unfold a_len; exact if_pos e)]; simp [e]
  · rw [r_no h (by unfold a_len; exact if_neg e)]; simp [e]
theorem r_newa {kd : Nat} {n : Int32} (h : c pc = k_nx (a_newa kd nx)) : am_P P d c pc lv (.int n :: st) M Q ↔ (0 ≤ n.toInt ∧ n.toInt ≤ 60000) ∧ am_P P d c nx lv (.ref (mC M) :: st) (uN M (kd, n.toInt.toNat)) Q := by
  by_cases e : 0 ≤ n.toInt ∧ n.toInt ≤ 60000
  · rw [r_nx h (show a_newa kd nx lv (.int n :: st) M = some (nx, lv, .ref (mC M) :: st, uN M (kd, n.toInt.toNat)) by unfold a_newa; exact if_pos e)]; simp [e]
  · rw [r_no h (by unfold a_newa; exact if_neg e)]; simp [e]
theorem r_new {ci N : Nat} (h : c pc = k_nx (a_new ci N nx)) : am_P P d c pc lv st M Q ↔ am_P P d c nx lv (.ref (mC M) :: st) (uN M (10 + ci, N)) Q := r_nx h rfl
theorem r_obj {a : Nat} (h : c pc = k_nx (a_obj nx)) : am_P P d c pc lv (.ref a :: st) M Q ↔ am_cs st ≤ 8 ∧ am_P P d c nx lv st M Q := by
  by_cases e : am_cs st ≤ 8
  · rw [r_nx h (show a_obj nx lv (.ref a :: st) M = some (nx, lv, st, M) by unfold a_obj; exact if_pos e)]; simp [e]
  · rw [r_no h (by unfold a_obj; exact if_neg e)]; simp [e]
theorem r_cpl {n dp sp : Int32} {a b : Nat} (h : c pc = k_nx (a_cpl nx)) : am_P P d c pc lv (.int n :: .int dp :: .ref b :: .int sp :: .ref a :: st) M Q ↔ ((mK M a = 1 ∧ mK M b = 1) ∧ (0 ≤ sp.toInt ∧ 0 ≤ dp.toInt ∧ 0 ≤ n.toInt) ∧ sp.toInt.toNat + n.toInt.toNat ≤ mN M a ∧ dp.toInt.toNat + n.toInt.toNat ≤ mN M b ∧ am_cs st ≤ 8) ∧ am_P P d c nx lv st (uCL M a sp.toInt.toNat b dp.toInt.toNat n.toInt.toNat) Q := by
  by_cases e : (mK M a = 1 ∧ mK M b = 1) ∧ (0 ≤ sp.toInt ∧ 0 ≤ dp.toInt ∧ 0 ≤ n.toInt) ∧ sp.toInt.toNat + n.toInt.toNat ≤ mN M a ∧ dp.toInt.toNat + n.toInt.toNat ≤ mN M b ∧ am_cs st ≤ 8
  · rw [r_nx h (show a_cpl nx lv (.int n :: .int dp :: .ref b :: .int sp :: .ref a :: st) M = some (nx, lv, st, uCL M a sp.toInt.toNat b dp.toInt.toNat n.toInt.toNat) by unfold a_cpl; exact if_pos e)]
    exact ⟨fun h => ⟨e, h⟩, fun h => h.2⟩
  · rw [r_no h (by unfold a_cpl; exact if_neg e)]
    exact ⟨fun h => h.elim, fun h => e h.1⟩
theorem r_vret (h : c pc = k_vret) : am_P P d c pc lv [] M Q ↔ Q none M := by rw [am_P_step, h]; rfl
theorem r_iret {x : Int32} (h : c pc = k_iret) : am_P P d c pc lv [.int x] M Q ↔ Q (some (.int x)) M := by rw [am_P_step, h]; rfl
theorem r_zret {x : Int32} (h : c pc = k_zret) : am_P P d c pc lv [.int x] M Q ↔ (x = 0 ∨ x = 1) ∧ Q (some (.int x)) M := by
  rw [am_P_step, h]
  unfold k_zret
  by_cases e : x = 0 ∨ x = 1
  · dsimp only; rw [if_pos e]; simp [am_W, e]
  · dsimp only; rw [if_neg e]; simp [am_W, e]
theorem r_lret {x : Int64} (h : c pc = k_lret) : am_P P d c pc lv [.long x] M Q ↔ Q (some (.long x)) M := by rw [am_P_step, h]; rfl
theorem r_aret {x : Nat} (h : c pc = k_aret) : am_P P d c pc lv [.ref x] M Q ↔ Q (some (.ref x)) M := by rw [am_P_step, h]; rfl
theorem r_cs {y n mx : Nat} {as stk : List Value} (h : c pc = k_cs y n mx nx) (hp : am_pop n stk [] = some (as, st)) (hl : (am_en as).length ≤ mx) : am_P P (d + 1) c pc lv stk M Q ↔ am_cs st ≤ 8 ∧ am_E P d y as M (fun r M2 => am_P P (d + 1) c nx lv (am_push r st) M2 Q) := by
  rw [am_P_step, h]
  unfold k_cs
  rw [hp]
  dsimp only
  by_cases e : am_cs st ≤ 8
  · rw [if_pos (by unfold am_okc; simp [e, hl])]
    constructor
    · rintro ⟨d', hd, h⟩; cases hd; exact ⟨e, h⟩
    · rintro ⟨-, h⟩; exact ⟨d, rfl, h⟩
  · rw [if_neg (by unfold am_okc; simp [e])]
    exact ⟨fun h => h.elim, fun h => e h.1⟩
theorem r_cv {y ci n mx b : Nat} {as stk : List Value} (h : c pc = k_cv y ci n mx nx) (hp : am_pop n stk [] = some (as, .ref b :: st)) (hl : (am_en (.ref b :: as)).length ≤ mx) : am_P P (d + 1) c pc lv stk M Q ↔ mK M b = 10 + ci ∧ am_cs st ≤ 8 ∧ am_E P d y (.ref b :: as) M (fun r M2 => am_P P (d + 1) c nx lv (am_push r st) M2 Q) := by
  rw [am_P_step, h]
  unfold k_cv
  rw [hp]
  dsimp only
  by_cases e : mK M b = 10 + ci ∧ am_cs st ≤ 8
  · rw [if_pos ⟨e.1, by unfold am_okc; simp [e.2, hl]⟩]
    constructor
    · rintro ⟨d', hd, h⟩; cases hd; exact ⟨e.1, e.2, h⟩
    · rintro ⟨-, -, h⟩; exact ⟨d, rfl, h⟩
  · rw [if_neg (by rintro ⟨q1, q2⟩; unfold am_okc at q2; rw [Bool.and_eq_true] at q2; exact e ⟨q1, of_decide_eq_true q2.2⟩)]
    exact ⟨fun h => h.elim, fun h => e ⟨h.1, h.2.1⟩⟩
theorem r_bS {i : Int32} (h : c pc = k_nx (a_bS nx)) : am_P P d c pc lv (.int i :: .retAddr 2 :: st) M Q ↔ am_in i 130 ∧ am_P P d c nx lv (.int (am_own.getD i.toInt.toNat 0) :: st) M Q := by
  by_cases e : am_in i 130
  · rw [r_nx h (show a_bS nx lv (.int i :: .retAddr 2 :: st) M = some (nx, lv, .int (am_own.getD i.toInt.toNat 0) :: st, M) by unfold a_bS; exact if_pos e)]
    exact ⟨fun h => ⟨e, h⟩, fun h => h.2⟩
  · rw [r_no h (by unfold a_bS; exact if_neg e)]
    exact ⟨fun h => h.elim, fun h => e h.1⟩
theorem r_cret {x : Int32} (h : c pc = k_cret) : am_P P d c pc lv [.int x] M Q ↔ x ∈ am_let ∧ Q (some (.int x)) M := by
  rw [am_P_step, h]
  unfold k_cret
  by_cases e : x ∈ am_let
  · dsimp only; rw [if_pos e]; simp [am_W, e]
  · dsimp only; rw [if_neg e]; simp [am_W, e]
theorem r_cvS {y n mx : Nat} {as stk : List Value} (h : c pc = k_cvS y n mx nx) (hp : am_pop n stk [] = some (as, .retAddr 1 :: st)) (hl : (am_en (.retAddr 1 :: as)).length ≤ mx) : am_P P (d + 1) c pc lv stk M Q ↔ am_cs st ≤ 8 ∧ am_E P d y (.retAddr 1 :: as) M (fun r M2 => am_P P (d + 1) c nx lv (am_push r st) M2 Q) := by
  have e0 : k_cvS y n mx nx lv stk M = if am_okc mx (.retAddr 1 :: as) st = true then some (.inr (.inr (y, .retAddr 1 :: as, nx, lv, st, M))) else none := by
    unfold k_cvS
    rw [hp]
    try rfl
  rw [am_P_step, h, e0]
  by_cases e : am_cs st ≤ 8
  · rw [if_pos (by unfold am_okc; simp [e, hl])]
    constructor
    · rintro ⟨d', hd, h⟩; cases hd; exact ⟨e, h⟩
    · rintro ⟨-, h⟩; exact ⟨d, rfl, h⟩
  · rw [if_neg (by unfold am_okc; simp [e])]
    exact ⟨fun h => h.elim, fun h => e h.1⟩
end
end
section
/-! a place in a table; a method at its entry -/
def am_srt : Nat → List (Nat × am_Act) → Bool
  | _, [] => true
  | n, (k, _) :: t => decide (n ≤ k) && am_srt (k + 1) t
theorem am_srt_le : ∀ (t : List (Nat × am_Act)) (n i pc : Nat) (a : am_Act), am_srt n t = true → t[i]? = some (pc, a) → n ≤ pc := by
  intro t
  induction t with
  | nil => intro n i pc a _ h; simp at h
  | cons q t ih =>
    intro n i pc a hs h
    obtain ⟨k, b⟩ := q
    simp only [am_srt, Bool.and_eq_true, decide_eq_true_eq] at hs
    cases i with
    | zero => simp at h; obtain ⟨rfl, rfl⟩ := h; exact hs.1
    | succ i =>
      simp only [List.getElem?_cons_succ] at h
      have := ih (k + 1) i pc a hs.2 h
      omega
theorem am_at_ {t : List (Nat × am_Act)} {n : Nat} (i : Nat) {pc : Nat} {a : am_Act} (hs : am_srt n t = true) (h : t[i]? = some (pc, a)) : am_look t pc = a := by
  induction t generalizing n i with
  | nil => simp at h
  | cons q t ih =>
    obtain ⟨k, b⟩ := q
    simp only [am_srt, Bool.and_eq_true, decide_eq_true_eq] at hs
    cases i with
    | zero => simp at h; obtain ⟨rfl, rfl⟩ := h; rw [am_look, if_pos rfl]
    | succ i =>
      simp only [List.getElem?_cons_succ] at h
      have h1 := am_srt_le t (k + 1) i pc a hs.2 h
      rw [am_look, if_neg (by omega)]
      exact ih i hs.2 h
theorem am_E_of {P : Nat → am_Y} {y d : Nat} {as lv : List Value} {M : am_M} {Q : Option Value → am_M → Prop} {ym : MethodName} {bc : ByteArray} {mx : Nat} {rt : Option FieldType} {cd : am_Code} (hy : P y = (ym, bc, mx, rt, cd)) (hl : am_pad mx (am_en as) = lv) : am_E P d y as M Q ↔ am_P P d cd 0 lv [] M Q := by
  unfold am_E
  rw [hy, hl]
end
