/-! the types are kept by every step -/
section
variable {T : Nat → Nat} {n : Nat}
theorem tyR_bg {k ph : Nat} {bg : Bool} {pr : Nat} {os : List Nat} {F : List Frm} {vs : List Den} (h : tyR ((k, ph, bg, pr, os) :: F) vs) : tyR ((k, ph, false, pr, os) :: F) vs := by
  rw [tyR_i] at h ⊢
  obtain ⟨a1, a2, a3, a4, a5, a6, a7⟩ := h
  exact ⟨a1, a2, a3, a4, (fun q => by cases q), a6, a7⟩
theorem md_1 {k : Nat} (h : isTs k = true) : md k 0 = 1 := by unfold md; rw [h]; rfl
theorem md_2 {k : Nat} (h : isTs k = true) : md k 1 = 2 := by unfold md; rw [h]; rfl
theorem md_0 {k ph : Nat} (h : isTs k = false) : md k ph = 0 := by unfold md; rw [h]; rfl
theorem tyR_new {k pr : Nat} {F : List Frm} {vs : List Den} (hk : k = 5 ∨ k = 2 ∨ k = 3) (hp : k = 3 → pr = 15 ∨ pr = 16) (h5 : k = 5 → loT F) (hF : ¬ F = []) (h : tyR F vs) : tyR ((k, 0, true, pr, []) :: F) vs := by
  rw [tyR_i]
  refine ⟨by omega, by omega, ?_, fun q => hp (by omega), fun _ => ⟨rfl, fun x hx => by cases hx⟩, h5, ⟨fun q => by omega, fun q => absurd q hF⟩, vs, rfl, ?_⟩
  · show ¬ md k 0 = 2
    unfold md
    split <;> decide
  · rw [if_neg (by omega)]; exact h
theorem tyS_opd {t : Tok} {k ph : Nat} {bg : Bool} {pr : Nat} {os : List Nat} {F : List Frm} {vs : List Den} {s' : Mst} {b : Bool} (ht : tkOK t) (h : tyR ((k, ph, bg, pr, os) :: F) vs) (hs : mOpd T n t k ph bg pr os F vs = .inr (s', b)) : tyS s'.2.1 s'.2.2.1 s'.2.2.2 := by
  have hf := tyR_bg h
  obtain ⟨a1, a2, a3, a4, a5, a6, a7, r, hw, hr⟩ := tyR_i.mp h
  unfold mOpd at hs
  by_cases c1 : (isTs k && bg && isW t wNot) = true
  · rw [if_pos c1] at hs
    obtain ⟨-, rfl⟩ := mAdv_r hs
    rw [Bool.and_eq_true, Bool.and_eq_true] at c1
    obtain ⟨p0, pl⟩ := a5 c1.1.2
    subst p0
    have hl : ∀ x, x ∈ 22 :: os → loO x := fun x hx => by
      rcases List.mem_cons.mp hx with rfl | hx
      · exact Or.inr (Or.inr rfl)
      · exact pl x hx
    show tyR ((k, 0, bg, pr, 22 :: os) :: F) vs
    rw [tyR_i]
    refine ⟨a1, a2, by rw [md_1 c1.1.1]; exact cH_lo hl, a4, fun _ => ⟨rfl, hl⟩, a6, a7, r, ?_, hr⟩
    show if (22 : Nat) = 22 then _ else _
    rw [if_pos rfl]; exact hw
  · rw [if_neg c1] at hs
    by_cases c2 : (isTs k && bg && isS t 91) = true
    · rw [if_pos c2] at hs
      rw [Bool.and_eq_true, Bool.and_eq_true] at c2
      obtain ⟨p0, pl⟩ := a5 c2.1.2
      by_cases c : F.length = 8
      · rw [if_pos c] at hs; cases hs
      · rw [if_neg c] at hs
        obtain ⟨-, rfl⟩ := mAdv_r hs
        exact tyR_new (Or.inl rfl) (fun q => by omega) (fun _ => ⟨c2.1.1, p0, pl⟩) (fun q => by cases q) hf
    · rw [if_neg c2] at hs
      by_cases c3 : (isTs k && bg && isW t wAll) = true
      · rw [if_pos c3] at hs
        obtain ⟨-, rfl⟩ := mAdv_r hs
        rw [Bool.and_eq_true, Bool.and_eq_true] at c3
        obtain ⟨p0, pl⟩ := a5 c3.1.2
        subst p0
        exact ⟨rfl, _, _, rfl, Or.inr ⟨rfl, c3.1.1, fun e => Or.inr rfl, hf, pl⟩⟩
      · rw [if_neg c3] at hs
        by_cases c4 : isS t 40 = true
        · rw [if_pos c4] at hs
          by_cases c : F.length = 8
          · rw [if_pos c] at hs; cases hs
          · rw [if_neg c] at hs
            obtain ⟨-, rfl⟩ := mAdv_r hs
            exact tyR_new (Or.inr (Or.inl rfl)) (fun q => by omega) (fun q => by omega) (fun q => by cases q) hf
        · rw [if_neg c4] at hs
          by_cases c5 : (isW t wMin || isW t wMax) = true
          · rw [if_pos c5] at hs
            by_cases d1 : (tk T n (tE t)).1 = 4
            · rw [if_pos d1] at hs; cases hs
            · rw [if_neg d1] at hs
              by_cases d2 : isS (tk T n (tE t)) 40 = true
              · rw [if_pos d2] at hs
                by_cases c : F.length = 8
                · rw [if_pos c] at hs; cases hs
                · rw [if_neg c] at hs
                  obtain ⟨-, rfl⟩ := mAdv_r hs
                  exact tyR_new (Or.inr (Or.inr rfl)) (fun q => by split; exact Or.inl rfl; exact Or.inr rfl) (fun q => by omega) (fun q => by cases q) hf
              · rw [if_neg d2] at hs; cases hs
          · rw [if_neg c5] at hs
            cases hl : leaf t with
            | none => rw [hl] at hs; cases hs
            | some u =>
              rw [hl] at hs
              obtain ⟨-, rfl⟩ := mAdv_r hs
              exact ⟨rfl, _, _, rfl, Or.inl ⟨a1, leaf_bd ht hl, hf⟩⟩
/-- the joinings that are done can be done -/
theorem ty_j5 {k ph : Nat} {bg : Bool} {pr : Nat} {os : List Nat} {F : List Frm} {vs : List Den} {l : Nat} (hl : 5 ≤ l) (hp : ph < 2) (h : tyS ((k, ph, bg, pr, os) :: F) vs true) : jok l os vs ∧ bg = false ∧ ∃ v' vs' r, (jns l os vs).2 = v' :: vs' ∧ bdS v' ∧ tyW (jns l os vs).1 vs' r ∧ cH (md k ph) (jns l os vs).1 ∧ (l ≤ 5 → md k ph = 0 → (jns l os vs).1 = []) ∧ (l ≤ 5 → md k ph = 1 → ∀ x, x ∈ (jns l os vs).1 → loO x) ∧ k ≤ 5 ∧ (k = 3 ∨ k = 4 → pr = 15 ∨ pr = 16) ∧ (k = 5 → loT F) ∧ (k < 2 ↔ F = []) ∧ if k = 4 then ∃ u r', r = u :: r' ∧ bdS u ∧ tyR F r' else tyR F r := by
  obtain ⟨hb, v, vs0, rfl, ⟨-, hv, hR⟩ | ⟨q, -⟩⟩ := h
  · obtain ⟨a1, a2, a3, a4, a5, a6, a7, r, hw, hr⟩ := tyR_i.mp hR
    obtain ⟨j1, v', vs', e1, e2, e3, e4, e5, e6⟩ := j_hi (Or.inl hl) os vs0 r v a3 hw hv
    exact ⟨j1, hb, v', vs', r, e1, e2, e3, e4, e5, e6, a2, a4, a6, a7, hr⟩
  · omega
theorem ty_j0 {k ph : Nat} {bg : Bool} {pr : Nat} {os : List Nat} {F : List Frm} {vs : List Den} (hk : isTs k = false) (h : tyS ((k, ph, bg, pr, os) :: F) vs true) : jok 1 os vs ∧ bg = false ∧ ph < 2 ∧ (jns 1 os vs).1 = [] ∧ ∃ v' r, (jns 1 os vs).2 = v' :: r ∧ bdS v' ∧ k ≤ 5 ∧ (k = 3 ∨ k = 4 → pr = 15 ∨ pr = 16) ∧ (k < 2 ↔ F = []) ∧ if k = 4 then ∃ u r', r = u :: r' ∧ bdS u ∧ tyR F r' else tyR F r := by
  obtain ⟨hb, v, vs0, rfl, ⟨hp, hv, hR⟩ | ⟨-, q, -⟩⟩ := h
  · obtain ⟨a1, a2, a3, a4, a5, a6, a7, r, hw, hr⟩ := tyR_i.mp hR
    rw [md_0 hk] at a3
    obtain ⟨j1, v', vs', e1, e2, e3, e4, e5, e6⟩ := j_hi (l := 1) (Or.inr rfl) os vs0 r v a3 hw hv
    have e7 := e5 (by omega) rfl
    rw [e7] at e3
    have e3' : vs' = r := e3
    subst e3'
    exact ⟨j1, hb, hp, e7, v', vs', e1, e2, a2, a4, a7, hr⟩
  · rw [hk] at q; cases q
theorem ty_jT {k ph : Nat} {bg : Bool} {pr : Nat} {os : List Nat} {F : List Frm} {vs : List Den} {l : Nat} (hl : l ≤ 4) (hk : isTs k = true) (hp : ¬ ph = 0) (h : tyS ((k, ph, bg, pr, os) :: F) vs true) : jok l os vs ∧ bg = false ∧ ∃ v' vs' r, (jns l os vs).2 = v' :: vs' ∧ bdT v' ∧ tyW (jns l os vs).1 vs' r ∧ (∀ x, x ∈ (jns l os vs).1 → loO x) ∧ (l ≤ 1 → (jns l os vs).1 = []) ∧ k ≤ 5 ∧ (k = 5 → loT F) ∧ (k < 2 ↔ F = []) ∧ tyR F r := by
  have hk4 : ¬ k = 4 := fun q => by subst q; cases hk
  obtain ⟨hb, v, vs0, rfl, ⟨q, hv, hR⟩ | ⟨q, -, hv, hR, hlo⟩⟩ := h
  · have e1 : ph = 1 := by omega
    subst e1
    obtain ⟨a1, a2, a3, a4, a5, a6, a7, r, hw, hr⟩ := tyR_i.mp hR
    rw [md_2 hk] at a3
    rw [if_neg hk4] at hr
    obtain ⟨j1, v', vs', e1, e2, e3, e4, e5⟩ := j_cm hl os vs0 r v a3 hw hv
    exact ⟨j1, hb, v', vs', r, e1, e2, e3, e4, e5, a2, a6, a7, hr⟩
  · obtain ⟨a1, a2, a3, a4, a5, a6, a7, r, hw, hr⟩ := tyR_i.mp hR
    rw [if_neg hk4] at hr
    obtain ⟨j1, v', vs', e1, e2, e3, e4, e5⟩ := j_lo (l := l) os vs0 r v hlo hw hv
    exact ⟨j1, hb, v', vs', r, e1, e2, e3, e4, e5, a2, a6, a7, hr⟩
theorem add_hi {t : Tok} (h : ¬ addOp t = 0) : hiO (addOp t) := by rcases add_2 h with q | q <;> rw [q] <;> constructor <;> decide
theorem mul_hi {t : Tok} (h : ¬ mulOp t = 0) : hiO (mulOp t) := by rcases mul_3 h with q | q | q <;> rw [q] <;> constructor <;> decide
theorem cmp_cm {t : Tok} (h : ¬ cmpOp t = 0) : cmO (cmpOp t) := by rcases cmp_3 h with q | q | q <;> rw [q] <;> constructor <;> decide
theorem tyW_push {o : Nat} {os : List Nat} {v : Den} {vs r : List Den} (h1 : ¬ o = 22) (h2 : tyO o v) (h : tyW os vs r) : tyW (o :: os) (v :: vs) r := by
  unfold tyW
  rw [if_neg h1]
  exact ⟨v, vs, rfl, h2, h⟩
theorem tyO_s {o : Nat} {v : Den} (h : o ≤ 19) (hv : bdS v) : tyO o v := by unfold tyO; rw [if_pos h]; exact hv
theorem tyO_t {o : Nat} {v : Den} (h : ¬ o ≤ 19) (hv : bdT v) : tyO o v := by unfold tyO; rw [if_neg h]; exact hv
theorem tyS_go {t : Tok} {k ph : Nat} {bg : Bool} {pr : Nat} {os : List Nat} {F : List Frm} {vs : List Den} {s' : Mst} (hF : ∀ f, f ∈ F → f.2.2.1 = false) (h : tyS ((k, ph, bg, pr, os) :: F) vs true) (hs : mGo T n t k ph bg pr os F vs = .inr (s', true)) : tyS s'.2.1 s'.2.2.1 s'.2.2.2 := by
  unfold mGo at hs
  have hi : ∀ (l a : Nat), 5 ≤ l → hiO a → ph < 2 → tyR ((k, ph, bg, pr, a :: (jns l os vs).1) :: F) (jns l os vs).2 := fun l a hl ha hp => by
    obtain ⟨j1, hb, v', vs', r, e1, e2, e3, e4, e5, e6, b1, b2, b3, b4, b5⟩ := ty_j5 hl hp h
    rw [tyR_i, e1]
    have ha' := ha
    unfold hiO at ha'
    exact ⟨hp, b1, Or.inl ⟨ha, e4⟩, b2, (fun q => by rw [hb] at q; cases q), b3, b4, r, tyW_push (by omega) (tyO_s (by omega) e2) e3, b5⟩
  by_cases c1 : ph < 2 ∧ ¬ addOp t = 0
  · rw [if_pos c1] at hs
    obtain ⟨-, rfl⟩ := mAdv_r hs
    exact hi 5 _ (by omega) (add_hi c1.2) c1.1
  · rw [if_neg c1] at hs
    by_cases c2 : ph < 2 ∧ ¬ mulOp t = 0
    · rw [if_pos c2] at hs
      obtain ⟨-, rfl⟩ := mAdv_r hs
      exact hi 6 _ (by omega) (mul_hi c2.2) c2.1
    · rw [if_neg c2] at hs
      by_cases c3 : isTs k = true ∧ ph = 0 ∧ ¬ cmpOp t = 0
      · rw [if_pos c3] at hs
        obtain ⟨-, rfl⟩ := mAdv_r hs
        obtain ⟨h1, rfl, h3⟩ := c3
        obtain ⟨j1, hb, v', vs', r, e1, e2, e3, e4, e5, e6, b1, b2, b3, b4, b5⟩ := ty_j5 (l := 5) (by omega) (by omega) h
        have hc := cmp_cm h3
        have hc' := hc
        unfold cmO at hc'
        show tyR ((k, 1, bg, pr, cmpOp t :: (jns 5 os vs).1) :: F) (jns 5 os vs).2
        rw [tyR_i, e1]
        exact ⟨by omega, b1, by rw [md_2 h1]; exact Or.inr (Or.inr ⟨rfl, hc, e6 (by omega) (md_1 h1)⟩), b2, (fun q => by rw [hb] at q; cases q), b3, b4, r, tyW_push (by omega) (tyO_s (by omega) e2) e3, b5⟩
      · rw [if_neg c3] at hs
        by_cases c4 : isTs k = true ∧ (isW t wAnd || isW t wOr) = true
        · rw [if_pos c4] at hs
          by_cases c5 : ph = 0
          · rw [if_pos c5] at hs; cases hs
          · rw [if_neg c5] at hs
            obtain ⟨-, rfl⟩ := mAdv_r hs
            have key : ∀ (l a : Nat), l ≤ 4 → a = 20 ∨ a = 21 → tyR ((k, 0, true, pr, a :: (jns l os vs).1) :: F) (jns l os vs).2 := fun l a hl ha => by
              obtain ⟨j1, hb, v', vs', r, e1, e2, e3, e4, e5, b1, b3, b4, b5⟩ := ty_jT hl c4.1 c5 h
              have hk4 : ¬ k = 3 ∧ ¬ k = 4 := ⟨fun q => by (rw [q] at c4; cases c4.1), fun q => by (rw [q] at c4; cases c4.1)⟩
              have hlo : ∀ x, x ∈ a :: (jns l os vs).1 → loO x := fun x hx => by
                rcases List.mem_cons.mp hx with rfl | hx
                · unfold loO; omega
                · exact e4 x hx
              rw [tyR_i, e1]
              exact ⟨by omega, b1, by rw [md_1 c4.1]; exact cH_lo hlo, fun q => by omega, fun q => ⟨rfl, hlo⟩, b3, b4, r, tyW_push (by omega) (tyO_t (by omega) e2) e3, by rw [if_neg hk4.2]; exact b5⟩
            by_cases c6 : isW t wAnd = true
            · rw [if_pos c6, if_pos c6]; exact key 2 20 (by omega) (Or.inl rfl)
            · rw [if_neg c6, if_neg c6]; exact key 1 21 (by omega) (Or.inr rfl)
        · rw [if_neg c4] at hs
          by_cases c5 : isTs k = true ∧ ph = 0
          · rw [if_pos c5] at hs; cases hs
          · rw [if_neg c5] at hs
            by_cases c6 : k < 2
            · rw [if_pos c6] at hs; cases hs
            · rw [if_neg c6] at hs
              by_cases c7 : k = 3
              · rw [if_pos c7] at hs
                subst c7
                by_cases c8 : isS t 44 = true
                · rw [if_pos c8] at hs
                  obtain ⟨-, rfl⟩ := mAdv_r hs
                  obtain ⟨j1, hb, hp, e7, v', r, e1, e2, b1, b2, b4, b5⟩ := ty_j0 rfl h
                  rw [if_neg (by omega)] at b5
                  show tyR ((4, ph, bg, pr, (jns 1 os vs).1) :: F) (jns 1 os vs).2
                  rw [tyR_i, e1, e7]
                  exact ⟨hp, by omega, by rw [md_0 rfl]; show ¬ (0 : Nat) = 2; omega, fun _ => b2 (Or.inl rfl), (fun q => by rw [hb] at q; cases q), fun q => by omega, ⟨fun q => by omega, fun q => by have := b4.mpr q; omega⟩, v' :: r, rfl, by rw [if_pos rfl]; exact ⟨v', r, rfl, e2, b5⟩⟩
                · rw [if_neg c8] at hs; cases hs
              · rw [if_neg c7] at hs
                by_cases c8 : isS t (if k = 5 then 93 else 41) = true
                · rw [if_pos c8] at hs
                  cases F with
                  | nil => cases hs
                  | cons f F' =>
                    obtain ⟨k', ph', bg', pr', os'⟩ := f
                    obtain ⟨-, rfl⟩ := mAdv_r hs
                    have hb' : bg' = false := hF _ (List.mem_cons_self ..)
                    subst hb'
                    by_cases c9 : k = 5
                    · subst c9
                      obtain ⟨j1, hb, v', vs', r, e1, e2, e3, e4, e5, b1, b3, b4, b5⟩ := ty_jT (l := 1) (by omega) rfl (fun q => c5 ⟨rfl, q⟩) h
                      rw [e5 (by omega)] at e3
                      have e3' : vs' = r := e3
                      subst e3'
                      obtain ⟨l1, l2, l3⟩ := b3 rfl
                      have l2' : ph' = 0 := l2
                      subst l2'
                      rw [if_pos rfl, if_neg (by omega), e1]
                      exact ⟨rfl, v', vs', rfl, Or.inr ⟨rfl, l1, e2, b5, l3⟩⟩
                    · have hts : isTs k = false := by
                        unfold isTs
                        simp
                        omega
                      obtain ⟨j1, hb, hp, e7, v', r, e1, e2, b1, b2, b4, b5⟩ := ty_j0 hts h
                      rw [if_neg c9, e1]
                      by_cases c10 : k = 4
                      · subst c10
                        rw [if_pos rfl] at b5 ⊢
                        obtain ⟨u, r', rfl, hu, hR⟩ := b5
                        have hpr := b2 (Or.inr rfl)
                        rw [app_2 (by omega)]
                        exact ⟨rfl, _, _, rfl, Or.inl ⟨(tyR_i.mp hR).1, jnD_bd (by omega) hu e2, hR⟩⟩
                      · rw [if_neg c10] at b5 ⊢
                        exact ⟨rfl, _, _, rfl, Or.inl ⟨(tyR_i.mp b5).1, e2, b5⟩⟩
                · rw [if_neg c8] at hs; cases hs
end
