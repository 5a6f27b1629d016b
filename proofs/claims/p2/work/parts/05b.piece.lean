/-! instructions read in a piece of the code: a check over a short list of bytes stands for one over the whole code -/
section
variable {c w : ByteArray} {k : Nat} {α β : Type}
def am_Rl (c w : ByteArray) (k : Nat) (r : Decoder α) : Prop := ∀ (p : Nat) (a : α) (q : Nat), Reader.runAt r w p = .ok (a, q) → Reader.runAt r c (k + p) = .ok (a, k + q)
theorem rl_pure (x : α) : am_Rl c w k (pure x) := by
  intro p a q h
  have h : (Except.ok (x, p) : Except DecodeError (α × Nat)) = Except.ok (a, q) := h
  cases h
  rfl
theorem rl_throw (e : DecodeError) : am_Rl c w k (throw e : Decoder α) := by
  intro p a q h
  have h : (Except.error e : Except DecodeError (α × Nat)) = Except.ok (a, q) := h
  cases h
theorem rl_bind {r : Decoder α} {f : α → Decoder β} (h1 : am_Rl c w k r) (h2 : ∀ x, am_Rl c w k (f x)) : am_Rl c w k (r >>= f) := by
  intro p a q h
  have key : Except.bind (Reader.runAt r w p) (fun y => Reader.runAt (f y.1) w y.2) = Except.ok (a, q) := h
  show Except.bind (Reader.runAt r c (k + p)) (fun y => Reader.runAt (f y.1) c y.2) = Except.ok (a, k + q)
  cases e : Reader.runAt r w p with
  | error e' => rw [e] at key; cases key
  | ok y =>
    rw [e] at key
    have key : Reader.runAt (f y.1) w y.2 = Except.ok (a, q) := key
    rw [h1 p y.1 y.2 e]
    exact h2 y.1 y.2 a q key
theorem rl_map {r : Decoder α} {f : α → β} (h1 : am_Rl c w k r) : am_Rl c w k (f <$> r) := by
  intro p a q h
  have key : Except.bind (Reader.runAt r w p) (fun y => Except.ok (f y.1, y.2)) = Except.ok (a, q) := h
  show Except.bind (Reader.runAt r c (k + p)) (fun y => Except.ok (f y.1, y.2)) = Except.ok (a, k + q)
  cases e : Reader.runAt r w p with
  | error e' => rw [e] at key; cases key
  | ok y =>
    rw [e] at key
    have key : (Except.ok (f y.1, y.2) : Except DecodeError (β × Nat)) = Except.ok (a, q) := key
    rw [h1 p y.1 y.2 e]
    cases key
    rfl
theorem rl_ite {P : Prop} [Decidable P] {x y : Decoder α} (h1 : am_Rl c w k x) (h2 : am_Rl c w k y) : am_Rl c w k (if P then x else y) := by
  split
  · exact h1
  · exact h2
/-- w is the piece of c from k on -/
def am_Pw (c w : ByteArray) (k : Nat) : Prop := k % 4 = 0 ∧ k + w.size ≤ c.size ∧ ∀ i, (h : i < w.size) → (h' : k + i < c.size) → c[k + i] = w[i]
theorem rd_u1 (b : ByteArray) (s : Nat) : Reader.runAt (Reader.u1 : Decoder Nat) b s = if h : s < b.size then Except.ok (b[s].toNat, s + 1) else Except.error (DecodeError.truncated s) := by
  by_cases h : s < b.size
  · rw [dif_pos h]
    show (if h : s < b.size then (do set (s + 1); pure b[s].toNat : Decoder Nat) else throw (HasTruncated.truncated s)) b s = _
    rw [dif_pos h]
    rfl
  · rw [dif_neg h]
    show (if h : s < b.size then (do set (s + 1); pure b[s].toNat : Decoder Nat) else throw (HasTruncated.truncated s)) b s = _
    rw [dif_neg h]
    rfl
theorem rl_u1 (H : am_Pw c w k) : am_Rl c w k (Reader.u1 : Decoder Nat) := by
  intro p a q h
  rw [rd_u1] at h
  split at h
  · rename_i hp
    cases h
    have hc : k + p < c.size := Nat.lt_of_lt_of_le (Nat.add_lt_add_left hp k) H.2.1
    rw [rd_u1, dif_pos hc, H.2.2 p hp hc]
    rfl
  · cases h
theorem rl_u2 (H : am_Pw c w k) : am_Rl c w k (Reader.u2 : Decoder Nat) := rl_bind (rl_u1 H) fun _ => rl_bind (rl_u1 H) fun _ => rl_pure _
theorem rl_u4 (H : am_Pw c w k) : am_Rl c w k (Reader.u4 : Decoder Nat) := rl_bind (rl_u2 H) fun _ => rl_bind (rl_u2 H) fun _ => rl_pure _
theorem rl_s1 (H : am_Pw c w k) : am_Rl c w k (Reader.s1 : Decoder Int) := rl_map (rl_u1 H)
theorem rl_s2 (H : am_Pw c w k) : am_Rl c w k (Reader.s2 : Decoder Int) := rl_map (rl_u2 H)
theorem rl_s4 (H : am_Pw c w k) : am_Rl c w k (Reader.s4 : Decoder Int) := rl_map (rl_u4 H)
theorem rd_bytes (n : Nat) (b : ByteArray) (s : Nat) : Reader.runAt (Reader.bytes n : Decoder ByteArray) b s = if s + n ≤ b.size then Except.ok (b.extract s (s + n), s + n) else Except.error (DecodeError.truncated b.size) := by
  by_cases h : s + n ≤ b.size
  · rw [if_pos h]
    show (if s + n ≤ b.size then (do set (s + n); pure (b.extract s (s + n)) : Decoder ByteArray) else throw (HasTruncated.truncated b.size)) b s = _
    rw [if_pos h]
    rfl
  · rw [if_neg h]
    show (if s + n ≤ b.size then (do set (s + n); pure (b.extract s (s + n)) : Decoder ByteArray) else throw (HasTruncated.truncated b.size)) b s = _
    rw [if_neg h]
    rfl
theorem rl_padding (H : am_Pw c w k) : am_Rl c w k (Decoder.padding : Decoder Unit) := by
  have e : ∀ (b : ByteArray) (s : Nat), Reader.runAt (Decoder.padding : Decoder Unit) b s = Except.bind (Reader.runAt (Reader.bytes ((4 - s % 4) % 4) : Decoder ByteArray) b s) (fun y => Except.ok ((), y.2)) := fun b s => rfl
  intro p a q h
  rw [e, rd_bytes] at h
  split at h
  · rename_i hp
    have h : (Except.ok ((), p + (4 - p % 4) % 4) : Except DecodeError (Unit × Nat)) = Except.ok (a, q) := h
    cases h
    have h4 : (k + p) % 4 = p % 4 := by have := H.1; omega
    have h5 := H.2.1
    rw [e, h4, rd_bytes, if_pos (by omega)]
    show (Except.ok ((), k + p + (4 - p % 4) % 4) : Except DecodeError (Unit × Nat)) = _
    rw [Nat.add_assoc]
  · cases h
theorem rl_go {r : Decoder α} (h : am_Rl c w k r) : ∀ (n : Nat) (acc : Array α), am_Rl c w k (Reader.times.go r n acc) := by
  intro n
  induction n with
  | zero => intro acc; exact rl_pure acc
  | succ n ih => intro acc; exact rl_bind h fun x => ih (acc.push x)
theorem rl_times {r : Decoder α} (h : am_Rl c w k r) (n : Nat) : am_Rl c w k (Reader.times n r) := rl_go h n #[]
set_option maxHeartbeats 4000000 in
set_option maxRecDepth 100000 in
theorem rl_instr (H : am_Pw c w k) (pc : Nat) : am_Rl c w k (Decoder.instr pc) := by
  have h1 := rl_u1 H
  have h2 := rl_u2 H
  have h3 := rl_s1 H
  have h4 := rl_s2 H
  have h5 := rl_s4 H
  have h6 := rl_padding H
  have n1 : am_Rl c w k (Decoder.newarray pc) := by
    unfold Decoder.newarray
    refine rl_bind h1 (fun b => ?_)
    split <;> first | exact rl_pure _ | exact rl_throw _
  have n2 : am_Rl c w k (Decoder.wide pc) := by
    unfold Decoder.wide
    refine rl_bind h1 (fun b => ?_)
    split <;> first | exact rl_throw _ | exact rl_bind h2 (fun _ => rl_pure _) | exact rl_bind h2 (fun _ => rl_bind h4 (fun _ => rl_pure _))
  have n3 : am_Rl c w k (Decoder.multianewarray pc) := by
    unfold Decoder.multianewarray
    refine rl_bind h2 (fun _ => rl_bind h1 (fun _ => ?_))
    repeat' first | exact rl_pure _ | exact rl_throw _ | refine rl_bind ?_ (fun _ => ?_) | refine rl_ite ?_ ?_
  have n4 : am_Rl c w k (Decoder.invokeinterface pc) := by
    unfold Decoder.invokeinterface
    refine rl_bind h2 (fun _ => rl_bind h1 (fun _ => rl_bind h1 (fun _ => ?_)))
    repeat' first | exact rl_pure _ | exact rl_throw _ | refine rl_bind ?_ (fun _ => ?_) | refine rl_ite ?_ ?_
  have n5 : am_Rl c w k (Decoder.invokedynamic pc) := by
    unfold Decoder.invokedynamic
    refine rl_bind h2 (fun _ => rl_bind h2 (fun _ => ?_))
    repeat' first | exact rl_pure _ | exact rl_throw _ | refine rl_bind ?_ (fun _ => ?_) | refine rl_ite ?_ ?_
  have n6 : am_Rl c w k (Decoder.tableswitch pc) := by
    unfold Decoder.tableswitch
    refine rl_bind h6 (fun _ => rl_bind h5 (fun _ => rl_bind h5 (fun _ => rl_bind h5 (fun _ => ?_))))
    repeat' first | exact rl_pure _ | exact rl_throw _ | exact rl_times h5 _ | refine rl_ite ?_ ?_ | refine rl_bind ?_ (fun _ => ?_)
  have n7 : am_Rl c w k (Decoder.lookupswitch pc) := by
    unfold Decoder.lookupswitch
    refine rl_bind h6 (fun _ => rl_bind h5 (fun _ => rl_bind h5 (fun _ => ?_)))
    repeat' first | exact rl_pure _ | exact rl_throw _ | exact h5 | exact rl_times (rl_bind h5 (fun _ => rl_bind h5 (fun _ => rl_pure _))) _ | refine rl_ite ?_ ?_ | refine rl_bind ?_ (fun _ => ?_)
  unfold Decoder.instr
  refine rl_bind h1 (fun b => ?_)
  split <;> first | exact rl_pure _ | exact rl_bind h2 (fun _ => rl_pure _) | exact rl_bind h4 (fun _ => rl_pure _) | exact rl_bind h1 (fun _ => rl_pure _) | exact rl_bind h3 (fun _ => rl_pure _) | exact rl_bind h5 (fun _ => rl_pure _) | exact rl_bind h1 (fun _ => rl_bind h3 (fun _ => rl_pure _)) | exact rl_throw _ | exact n1 | exact n2 | exact n3 | exact n4 | exact n5 | exact n6 | exact n7
/-- what the piece w, which begins at k, says of pc -/
def am_dw (w : ByteArray) (k pc : Nat) : Except DecodeError (Instr × Nat) := if k ≤ pc then Except.bind (Reader.runAt (Decoder.instr pc) w (pc - k)) (fun y => Except.ok (y.1, k + y.2 - pc)) else Except.error (.truncated pc)
theorem am_dp (H : am_Pw c w k) {pc : Nat} {i : Instr} {n : Nat} (h : am_dw w k pc = .ok (i, n)) : decode c pc = .ok (i, n) := by
  unfold am_dw at h
  split at h
  · rename_i hk
    cases e : Reader.runAt (Decoder.instr pc) w (pc - k) with
    | error e' => rw [e] at h; cases h
    | ok y =>
      rw [e] at h
      have h : (Except.ok (y.1, k + y.2 - pc) : Except DecodeError (Instr × Nat)) = Except.ok (i, n) := h
      have g := rl_instr H pc (pc - k) y.1 y.2 e
      rw [Nat.add_sub_of_le hk] at g
      show Except.bind (Reader.runAt (Decoder.instr pc) c pc) (fun y => Except.ok (y.1, y.2 - pc)) = _
      rw [g]
      exact h
  · cases h
theorem am_pw {n : Nat} (l : List UInt8) (h4 : k % 4 = 0) (hp : 0 < n) (hn : l.length = n) (h : (c.data.toList.drop k).take n = l) : am_Pw c ⟨l.toArray⟩ k := by
  have hl : l.length ≤ c.data.toList.length - k := by
    rw [← h, List.length_take, List.length_drop]
    exact Nat.min_le_right _ _
  have hw : (ByteArray.mk l.toArray).size = l.length := rfl
  have hcs : c.size = c.data.toList.length := rfl
  refine ⟨h4, ?_, ?_⟩
  · rw [hw, hcs]
    omega
  · intro i hi hc
    have hi' : i < l.length := hi
    have hc' : k + i < c.data.toList.length := hc
    have e1 : l[i]? = c.data.toList[k + i]? := by
      have e2 : ((c.data.toList.drop k).take n)[i]? = (c.data.toList.drop k)[i]? := List.getElem?_take_of_lt (by omega)
      rw [← h, e2, List.getElem?_drop]
    rw [List.getElem?_eq_getElem hi', List.getElem?_eq_getElem hc'] at e1
    have e3 : l[i] = c.data.toList[k + i] := Option.some.inj e1
    exact e3.symm
end
