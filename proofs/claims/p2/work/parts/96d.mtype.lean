/-! the model's formulas: what lies on its heap -/
def hiO (o : Nat) : Prop := 10 ≤ o ∧ o ≤ 14
def loO (o : Nat) : Prop := o = 20 ∨ o = 21 ∨ o = 22
def cmO (o : Nat) : Prop := 17 ≤ o ∧ o ≤ 19
/-- 0: a sum's signs; 1: a test's before it compares; 2: behind that -/
def cH (m : Nat) : List Nat → Prop
  | [] => ¬ m = 2
  | o :: os => (hiO o ∧ cH m os) ∨ (m = 1 ∧ loO o ∧ ∀ x, x ∈ os → loO x) ∨ (m = 2 ∧ cmO o ∧ ∀ x, x ∈ os → loO x)
def tyO (o : Nat) (v : Den) : Prop := if o ≤ 19 then bdS v else bdT v
/-- what lies there for signs that wait -/
def tyW : List Nat → List Den → List Den → Prop
  | [], vs, r => vs = r
  | o :: os, vs, r => if o = 22 then tyW os vs r else ∃ v vs', vs = v :: vs' ∧ tyO o v ∧ tyW os vs' r
def jok (l : Nat) : List Nat → List Den → Prop
  | [], _ => True
  | o :: os, vs => l ≤ rnk o → opOK 1850 (o, 0) vs ∧ jok l os (appD o vs)
theorem rnk_hi {o : Nat} (h : hiO o) : 5 ≤ rnk o := by
  unfold hiO at h; unfold rnk; repeat' split
  all_goals omega
theorem rnk_cm {o : Nat} (h : cmO o) : rnk o = 4 := by
  unfold cmO at h; unfold rnk; repeat' split
  all_goals omega
theorem rnk_lo {o : Nat} (h : loO o) : 1 ≤ rnk o ∧ rnk o ≤ 3 := by
  rcases h with rfl | rfl | rfl <;> decide
theorem jns_c {l o : Nat} {os : List Nat} {vs : List Den} : jns l (o :: os) vs = if l ≤ rnk o then jns l os (appD o vs) else (o :: os, vs) := rfl
theorem jnD_T {o : Nat} {u v : Den} (h : o = 20 ∨ o = 21) (hu : bdT u) (hv : bdT v) : bdT (jnD o u v) := fun e => by
  rcases h with rfl | rfl
  · exact jn_20 (hu e) (hv e)
  · exact jn_21 _ _
theorem ntD_T {v : Den} (hv : bdT v) : bdT (ntD v) := fun e => by
  show 1 - v e = 0 ∨ 1 - v e = 1
  rcases hv e with q | q <;> rw [q] <;> omega
theorem j_lo {l : Nat} : ∀ (os : List Nat) (vs r : List Den) (v : Den), (∀ x, x ∈ os → loO x) → tyW os vs r → bdT v → jok l os (v :: vs) ∧ ∃ v' vs', (jns l os (v :: vs)).2 = v' :: vs' ∧ bdT v' ∧ tyW (jns l os (v :: vs)).1 vs' r ∧ (∀ x, x ∈ (jns l os (v :: vs)).1 → loO x) ∧ (l ≤ 1 → (jns l os (v :: vs)).1 = []) := by
  intro os
  induction os with
  | nil => intro vs r v h1 h2 h3; exact ⟨trivial, v, vs, rfl, h3, h2, h1, fun _ => rfl⟩
  | cons o os ih =>
    intro vs r v h1 h2 h3
    have ho := h1 o (List.mem_cons_self ..)
    have h1' : ∀ x, x ∈ os → loO x := fun x hx => h1 x (List.mem_cons_of_mem _ hx)
    have hr := rnk_lo ho
    by_cases c : l ≤ rnk o
    · rw [jns_c, if_pos c]
      by_cases c2 : o = 22
      · subst c2
        have h2' : tyW os vs r := by have := h2; unfold tyW at this; rw [if_pos rfl] at this; exact this
        have ea : appD 22 (v :: vs) = ntD v :: vs := rfl
        obtain ⟨a1, a2⟩ := ih vs r (ntD v) h1' h2' (ntD_T h3)
        refine ⟨fun _ => ⟨⟨fun q => absurd q (by decide), fun _ => ⟨v, vs, rfl, h3⟩, fun _ q => absurd q (by decide), fun q => absurd q (by decide), by decide⟩, ?_⟩, ?_⟩
        · rw [ea]; exact a1
        · rw [ea]; exact a2
      · have h2' := h2
        unfold tyW at h2'
        rw [if_neg c2] at h2'
        obtain ⟨u, vs', rfl, hu, hw⟩ := h2'
        have ho2 : o = 20 ∨ o = 21 := by rcases ho with q | q | q <;> omega
        have hu' : bdT u := by unfold tyO at hu; rw [if_neg (by omega)] at hu; exact hu
        have ea : appD o (v :: u :: vs') = jnD o u v :: vs' := app_2 c2 _ _ _
        obtain ⟨a1, a2⟩ := ih vs' r (jnD o u v) h1' hw (jnD_T ho2 hu' h3)
        refine ⟨fun _ => ⟨⟨fun q => ?_, fun q => absurd q c2, fun _ q => ?_, fun _ => ⟨v, u, vs', rfl, hu', h3⟩, ?_⟩, ?_⟩, ?_⟩
        · dsimp only at q; omega
        · dsimp only at q; omega
        · dsimp only; omega
        · rw [ea]; exact a1
        · rw [ea]; exact a2
    · rw [jns_c, if_neg c]
      exact ⟨fun q => absurd q c, v, vs, rfl, h3, h2, h1, fun q => by omega⟩
theorem op_hi {o : Nat} {w v : Den} {r : List Den} (h : 10 ≤ o ∧ o ≤ 19) (hv : bdS v) (hw : bdS w) : opOK 1850 (o, 0) (w :: v :: r) :=
  ⟨fun q => by dsimp only at q; omega, fun q => by dsimp only at q; omega, fun _ _ => ⟨w, v, r, rfl, hv, hw⟩, fun q => by dsimp only at q; omega, by dsimp only; omega⟩
theorem tyW_hi {o : Nat} {os : List Nat} {vs r : List Den} (h : 10 ≤ o ∧ o ≤ 19) (hw : tyW (o :: os) vs r) : ∃ u vs', vs = u :: vs' ∧ bdS u ∧ tyW os vs' r := by
  unfold tyW at hw
  rw [if_neg (by omega)] at hw
  obtain ⟨u, vs', e, hu, hw'⟩ := hw
  refine ⟨u, vs', e, ?_, hw'⟩
  unfold tyO at hu
  rw [if_pos (by omega)] at hu
  exact hu
/-- signs of sums alone are joined -/
theorem j_hi {l m : Nat} (hl : 5 ≤ l ∨ m = 0) : ∀ (os : List Nat) (vs r : List Den) (v : Den), cH m os → tyW os vs r → bdS v → jok l os (v :: vs) ∧ ∃ v' vs', (jns l os (v :: vs)).2 = v' :: vs' ∧ bdS v' ∧ tyW (jns l os (v :: vs)).1 vs' r ∧ cH m (jns l os (v :: vs)).1 ∧ (l ≤ 5 → m = 0 → (jns l os (v :: vs)).1 = []) ∧ (l ≤ 5 → m = 1 → ∀ x, x ∈ (jns l os (v :: vs)).1 → loO x) := by
  intro os
  induction os with
  | nil => intro vs r v h1 h2 h3; exact ⟨trivial, v, vs, rfl, h3, h2, h1, fun _ _ => rfl, fun _ _ x hx => by cases hx⟩
  | cons o os ih =>
    intro vs r v h1 h2 h3
    by_cases c : l ≤ rnk o
    · have hh : hiO o ∧ cH m os := by
        rcases h1 with q | ⟨q1, q2, q3⟩ | ⟨q1, q2, q3⟩
        · exact q
        · have := rnk_lo q2; omega
        · have := rnk_cm q2; omega
      have ho := hh.1
      unfold hiO at ho
      rw [jns_c, if_pos c]
      obtain ⟨u, vs', rfl, hu, hw⟩ := tyW_hi (by omega) h2
      have ea : appD o (v :: u :: vs') = jnD o u v :: vs' := app_2 (by omega) _ _ _
      obtain ⟨a1, a2⟩ := ih vs' r (jnD o u v) hh.2 hw (jnD_bd (by omega) hu h3)
      rw [ea]
      refine ⟨fun _ => ⟨op_hi (by omega) hu h3, ?_⟩, a2⟩
      rw [ea]; exact a1
    · rw [jns_c, if_neg c]
      refine ⟨fun q => absurd q c, v, vs, rfl, h3, h2, h1, fun q1 q2 => ?_, fun q1 q2 => ?_⟩
      · rcases h1 with q | ⟨q, -⟩ | ⟨q, -⟩
        · have := rnk_hi q.1; omega
        · omega
        · omega
      · rcases h1 with q | ⟨-, q3, q4⟩ | ⟨q, -⟩
        · have := rnk_hi q.1; omega
        · intro x hx
          rcases List.mem_cons.mp hx with rfl | hx
          · exact q3
          · exact q4 x hx
        · omega
/-- signs of sums, the comparing one, then others -/
theorem j_cm {l : Nat} (hl : l ≤ 4) : ∀ (os : List Nat) (vs r : List Den) (v : Den), cH 2 os → tyW os vs r → bdS v → jok l os (v :: vs) ∧ ∃ v' vs', (jns l os (v :: vs)).2 = v' :: vs' ∧ bdT v' ∧ tyW (jns l os (v :: vs)).1 vs' r ∧ (∀ x, x ∈ (jns l os (v :: vs)).1 → loO x) ∧ (l ≤ 1 → (jns l os (v :: vs)).1 = []) := by
  intro os
  induction os with
  | nil => intro vs r v h1 h2 h3; exact absurd rfl h1
  | cons o os ih =>
    intro vs r v h1 h2 h3
    rcases h1 with ⟨q1, q2⟩ | ⟨q, -⟩ | ⟨-, q2, q3⟩
    · have hr := rnk_hi q1
      have ho := q1
      unfold hiO at ho
      rw [jns_c, if_pos (by omega)]
      obtain ⟨u, vs', rfl, hu, hw⟩ := tyW_hi (by omega) h2
      have ea : appD o (v :: u :: vs') = jnD o u v :: vs' := app_2 (by omega) _ _ _
      obtain ⟨a1, a2⟩ := ih vs' r (jnD o u v) q2 hw (jnD_bd (by omega) hu h3)
      rw [ea]
      refine ⟨fun _ => ⟨op_hi (by omega) hu h3, ?_⟩, a2⟩
      rw [ea]; exact a1
    · omega
    · have hr := rnk_cm q2
      have ho := q2
      unfold cmO at ho
      rw [jns_c, if_pos (by omega)]
      obtain ⟨u, vs', rfl, hu, hw⟩ := tyW_hi (by omega) h2
      have ea : appD o (v :: u :: vs') = jnD o u v :: vs' := app_2 (by omega) _ _ _
      obtain ⟨a1, a2⟩ := j_lo (l := l) os vs' r (jnD o u v) q3 hw (fun e => jn_01 (by omega))
      rw [ea]
      refine ⟨fun _ => ⟨op_hi (by omega) hu h3, ?_⟩, a2⟩
      rw [ea]; exact a1
theorem cH_lo {os : List Nat} (h : ∀ x, x ∈ os → loO x) : cH 1 os := by
  cases os with
  | nil => show ¬ (1 : Nat) = 2; omega
  | cons o os => exact Or.inr (Or.inl ⟨rfl, h o (List.mem_cons_self ..), fun x hx => h x (List.mem_cons_of_mem _ hx)⟩)
def md (k ph : Nat) : Nat := if isTs k = false then 0 else if ph = 0 then 1 else 2
/-- the frame below one in brackets: a test that begins -/
def loT : List Frm → Prop
  | [] => False
  | f :: _ => isTs f.1 = true ∧ f.2.1 = 0 ∧ ∀ x, x ∈ f.2.2.2.2 → loO x
def tyR : List Frm → List Den → Prop
  | [], vs => vs = []
  | f :: F, vs => f.2.1 < 2 ∧ f.1 ≤ 5 ∧ cH (md f.1 f.2.1) f.2.2.2.2 ∧ (f.1 = 3 ∨ f.1 = 4 → f.2.2.2.1 = 15 ∨ f.2.2.2.1 = 16) ∧ (f.2.2.1 = true → f.2.1 = 0 ∧ ∀ x, x ∈ f.2.2.2.2 → loO x) ∧ (f.1 = 5 → loT F) ∧ (f.1 < 2 ↔ F = []) ∧ ∃ r, tyW f.2.2.2.2 vs r ∧ if f.1 = 4 then ∃ u r', r = u :: r' ∧ bdS u ∧ tyR F r' else tyR F r
/-- an operand is read, or not -/
def tyS (F : List Frm) (vs : List Den) : Bool → Prop
  | false => tyR F vs
  | true => match F with
    | [] => False
    | (k, ph, bg, pr, os) :: F' => bg = false ∧ ∃ v vs', vs = v :: vs' ∧ ((ph < 2 ∧ bdS v ∧ tyR ((k, ph, bg, pr, os) :: F') vs') ∨ (ph = 2 ∧ isTs k = true ∧ bdT v ∧ tyR ((k, 0, bg, pr, os) :: F') vs' ∧ ∀ x, x ∈ os → loO x))
theorem tyR_i {k ph : Nat} {bg : Bool} {pr : Nat} {os : List Nat} {F : List Frm} {vs : List Den} : tyR ((k, ph, bg, pr, os) :: F) vs ↔ ph < 2 ∧ k ≤ 5 ∧ cH (md k ph) os ∧ (k = 3 ∨ k = 4 → pr = 15 ∨ pr = 16) ∧ (bg = true → ph = 0 ∧ ∀ x, x ∈ os → loO x) ∧ (k = 5 → loT F) ∧ (k < 2 ↔ F = []) ∧ ∃ r, tyW os vs r ∧ if k = 4 then ∃ u r', r = u :: r' ∧ bdS u ∧ tyR F r' else tyR F r := Iff.rfl
