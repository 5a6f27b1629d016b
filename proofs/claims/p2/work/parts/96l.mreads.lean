/-! the model's formulas: reads -/
section
variable {T : Nat → Nat} {n : Nat}
def EnM (T : Nat → Nat) (n : Nat) (M : am_M) (z a : Nat) : Sum (Nat × Nat) Mst → Prop
  | .inl e => FtM M T n e.1 e.2
  | .inr s => ∃ c, MsM T n M z a c s
theorem mRun_i {f : Nat} {s : Mst} : mRun T n (f + 1) s = (match mStep T n s with
    | .inl e => some (.inl e)
    | .inr q => if q.2 = true then mRun T n f q.1 else some (.inr q.1)) := rfl
theorem tok_a {t : Tok} {S : Tok → Mst} {s' : Mst} {b : Bool} (hv : tkV T n t) (hS : ∀ t1, (S t1).1 = t1) (h : mAdv T n t S = .inr (s', b)) : tS t ≤ tS s'.1 := by
  obtain ⟨-, rfl⟩ := mAdv_r h
  rw [hS]
  have := (tk_V T n (tE t) hv.2.2.2.1).2.1
  have := hv.2.2.2.2
  omega
theorem tok_opd {t : Tok} {k ph : Nat} {bg : Bool} {pr : Nat} {os : List Nat} {F : List Frm} {vs : List Den} {s' : Mst} {b : Bool} (hv : tkV T n t) (hs : mOpd T n t k ph bg pr os F vs = .inr (s', b)) : tS t ≤ tS s'.1 := by
  unfold mOpd at hs
  split at hs
  · exact tok_a hv (fun _ => rfl) hs
  split at hs
  · split at hs
    · cases hs
    · exact tok_a hv (fun _ => rfl) hs
  split at hs
  · exact tok_a hv (fun _ => rfl) hs
  split at hs
  · split at hs
    · cases hs
    · exact tok_a hv (fun _ => rfl) hs
  split at hs
  · split at hs
    · cases hs
    · split at hs
      · split at hs
        · cases hs
        · have h1 := tk_V T n (tE t) hv.2.2.2.1
          have h2 := tok_a h1.1 (fun _ => rfl) hs
          have := hv.2.2.2.2
          have := h1.2.1
          omega
      · cases hs
  · split at hs
    · exact tok_a hv (fun _ => rfl) hs
    · cases hs
theorem tok_go {t : Tok} {k ph : Nat} {bg : Bool} {pr : Nat} {os : List Nat} {F : List Frm} {vs : List Den} {s' : Mst} {b : Bool} (hv : tkV T n t) (hs : mGo T n t k ph bg pr os F vs = .inr (s', b)) : tS t ≤ tS s'.1 := by
  unfold mGo at hs
  split at hs
  · exact tok_a hv (fun _ => rfl) hs
  split at hs
  · exact tok_a hv (fun _ => rfl) hs
  split at hs
  · exact tok_a hv (fun _ => rfl) hs
  split at hs
  · split at hs
    · cases hs
    · exact tok_a hv (fun _ => rfl) hs
  split at hs
  · cases hs
  split at hs
  · cases hs; exact Nat.le_refl _
  split at hs
  · split at hs
    · exact tok_a hv (fun _ => rfl) hs
    · cases hs
  · by_cases c : isS t (if k = 5 then 93 else 41) = true
    · rw [if_pos c] at hs
      cases F with
      | nil => cases hs
      | cons f F' => exact tok_a hv (fun _ => rfl) hs
    · rw [if_neg c] at hs; cases hs
theorem tok_step {s s' : Mst} {b : Bool} (h : mI_ T n s) (hs : mStep T n s = .inr (s', b)) : tS s.1 ≤ tS s'.1 := by
  obtain ⟨t, k, ph, bg, pr, os, F, vs, o, rfl, hv, -⟩ := h
  cases o with
  | false => exact tok_opd hv hs
  | true => exact tok_go hv hs
/-- the last state's word lies behind -/
theorem tok_run : ∀ (f : Nat) (s s' : Mst), mI_ T n s → mRun T n f s = some (.inr s') → tS s.1 ≤ tS s'.1 := by
  intro f
  induction f with
  | zero => intro s s' _ h; cases h
  | succ f ih =>
    intro s s' hm h
    rw [mRun_i] at h
    cases hst : mStep T n s with
    | inl e => rw [hst] at h; cases h
    | inr q =>
      obtain ⟨s1, b⟩ := q
      rw [hst] at h
      have h1 := tok_step hm hst
      dsimp only at h
      cases b with
      | true =>
        rw [if_pos rfl] at h
        have := ih s1 s' (mI_step hm hst) h
        omega
      | false =>
        rw [if_neg (by decide)] at h
        cases h
        exact h1
theorem l_m_reads (d z a : Nat) (x1 : Int32) (M0 : am_M) (Q : Option Value → am_M → Prop) (hL0 : Lay M0) : ∀ (f : Nat) (s : Mst) (r : Sum (Nat × Nat) Mst), mRun T n f s = some r → ∀ (M : am_M) (c : Nat), gF (sFm z a) nT M0 M → MsM T n M z a c s → mI M 277 51 = b01 s.2.2.2 → mI_ T n s → tyS s.2.1 s.2.2.1 s.2.2.2 →
    (∀ M', gF (sFm z a) nT M0 M' → EnM T n M' z a r → Q none M') → am_P am_P0 (d + 4) (am_look tX11_reads) 43 [.ref 277, .int x1, .int 1] [] M Q := by
  intro f
  induction f with
  | zero => intro s r h; cases h
  | succ f ih =>
    intro s r hr M c hM hs hfl hmi hty hQ
    have hLM := gF_LayN hM hL0
    obtain ⟨e1, e2⟩ := mI_ops hmi hs.1.1.2.1
    obtain ⟨t, k, ph, bg, pr, os, F, vs, o, rfl, hv, hso, hFb, hl, hb, hc4⟩ := hmi
    have hmi : mI_ T n (t, (k, ph, bg, pr, os) :: F, vs, o) := ⟨t, k, ph, bg, pr, os, F, vs, o, rfl, hv, hso, hFb, hl, hb, hc4⟩
    obtain ⟨hR, hP, hc⟩ := hs
    dsimp only at hR hP hc hfl hty e1 e2
    have hO : sumO F + os.length ≤ 495 := e1
    -- how one step ends
    have done : ∀ (e : Nat × Nat) (M' : am_M) (x : Int32), gF (sFm z a) nT M M' → FtM M' T n e.1 e.2 → r = .inl e → (x = 0 ∨ ¬ x = 0) → am_P am_P0 (d + 4) (am_look tX11_reads) 70 [.ref 277, .int x1, .int x] [] M' Q := by
      intro e M' x g hf er hx
      subst er
      have h0 := hQ M' (gF_trans hM g) hf
      have L' := gF_LayN g hLM
      have hp := (FtM_pos hf).2.1
      have hz : am_P am_P0 (d + 4) (am_look tX11_reads) 43 [.ref 277, .int x1, .int 0] [] M' Q := by
        rw [hX11_reads_43]
        simp +decide only [qX11_reads_0, qX11_reads_1, am_w1_i, am_w1_r, am_w1_x, am_w1_l, am_w1_w, va_rf_s, am_push_n, am_push_s, am_cs_0, am_cs_i, am_cs_l, am_cs_r, m_uI_K, m_uI_N, m_uI_R, m_uI_L, m_uI_I, m_uL_K, m_uL_N, m_uL_R, m_uL_I, m_uL_L, m_uR_K, m_uR_N, m_uR_I, m_uR_L, m_uR_R, true_and, and_true, true_implies, false_implies, not_true_eq_false, not_false_eq_true, if_true, if_false, false_and, and_false]
        exact h0
      simp +decide only [qX11_reads_0, qX11_reads_1, lm L', am_w1_i, am_w1_r, am_w1_x, am_w1_l, am_w1_w, va_rf_s, am_push_n, am_push_s, am_cs_0, am_cs_i, am_cs_l, am_cs_r, m_uI_K, m_uI_N, m_uI_R, m_uI_L, m_uI_I, m_uL_K, m_uL_N, m_uL_R, m_uL_I, m_uL_L, m_uR_K, m_uR_N, m_uR_I, m_uR_L, m_uR_R, true_and, and_true, true_implies, false_implies, not_true_eq_false, not_false_eq_true, if_true, if_false, false_and, and_false] at hz ⊢
      rcases hx with hx | hx
      · rw [br_p hx]; exact hz
      · rw [br_n hx, br_p hp]; exact hz
    have more : ∀ (s' : Mst) (b : Bool) (M' : am_M), gF (sFm z a) nT M M' → (∃ c', MsM T n M' z a c' s') → mStep T n (t, (k, ph, bg, pr, os) :: F, vs, o) = .inr (s', b) → (b = true → mI M' 277 51 = b01 s'.2.2.2 ∧ tyS s'.2.1 s'.2.2.1 s'.2.2.2) → am_P am_P0 (d + 4) (am_look tX11_reads) 70 [.ref 277, .int x1, .int (b01 b)] [] M' Q := by
      intro s' b M' g hf hstep hbt
      obtain ⟨c', hs'⟩ := hf
      rw [mRun_i, hstep] at hr
      have L' := gF_LayN g hLM
      have h8 := hs'.1.2.1
      cases b with
      | false =>
        dsimp only at hr
        rw [if_neg (by decide)] at hr
        cases hr
        have h0 := hQ M' (gF_trans hM g) ⟨c', hs'⟩
        have hz : am_P am_P0 (d + 4) (am_look tX11_reads) 43 [.ref 277, .int x1, .int 0] [] M' Q := by
          rw [hX11_reads_43]
          simp +decide only [qX11_reads_0, qX11_reads_1, am_w1_i, am_w1_r, am_w1_x, am_w1_l, am_w1_w, va_rf_s, am_push_n, am_push_s, am_cs_0, am_cs_i, am_cs_l, am_cs_r, m_uI_K, m_uI_N, m_uI_R, m_uI_L, m_uI_I, m_uL_K, m_uL_N, m_uL_R, m_uL_I, m_uL_L, m_uR_K, m_uR_N, m_uR_I, m_uR_L, m_uR_R, true_and, and_true, true_implies, false_implies, not_true_eq_false, not_false_eq_true, if_true, if_false, false_and, and_false]
          exact h0
        simp +decide only [qX11_reads_0, qX11_reads_1, b01, am_w1_i, am_w1_r, am_w1_x, am_w1_l, am_w1_w, va_rf_s, am_push_n, am_push_s, am_cs_0, am_cs_i, am_cs_l, am_cs_r, m_uI_K, m_uI_N, m_uI_R, m_uI_L, m_uI_I, m_uL_K, m_uL_N, m_uL_R, m_uL_I, m_uL_L, m_uR_K, m_uR_N, m_uR_I, m_uR_L, m_uR_R, true_and, and_true, true_implies, false_implies, not_true_eq_false, not_false_eq_true, if_true, if_false, false_and, and_false] at hz ⊢
        exact hz
      | true =>
        dsimp only at hr
        rw [if_pos rfl] at hr
        have h0 := ih s' r hr M' c' (gF_trans hM g) hs' (hbt rfl).1 (mI_step hmi hstep) (hbt rfl).2 hQ
        simp +decide only [qX11_reads_0, qX11_reads_1, lm L', h8, b01, am_w1_i, am_w1_r, am_w1_x, am_w1_l, am_w1_w, va_rf_s, am_push_n, am_push_s, am_cs_0, am_cs_i, am_cs_l, am_cs_r, m_uI_K, m_uI_N, m_uI_R, m_uI_L, m_uI_I, m_uL_K, m_uL_N, m_uL_R, m_uL_I, m_uL_L, m_uR_K, m_uR_N, m_uR_I, m_uR_L, m_uR_R, true_and, and_true, true_implies, false_implies, not_true_eq_false, not_false_eq_true, if_true, if_false, false_and, and_false] at h0 ⊢
        exact h0
    rw [hX11_reads_43]
    cases o with
    | false =>
      simp +decide only [qX11_reads_0, qX11_reads_1, lm hLM, hfl, b01, am_w1_i, am_w1_r, am_w1_x, am_w1_l, am_w1_w, va_rf_s, am_push_n, am_push_s, am_cs_0, am_cs_i, am_cs_l, am_cs_r, m_uI_K, m_uI_N, m_uI_R, m_uI_L, m_uI_I, m_uL_K, m_uL_N, m_uL_R, m_uL_I, m_uL_L, m_uR_K, m_uR_N, m_uR_I, m_uR_L, m_uR_R, true_and, and_true, true_implies, false_implies, not_true_eq_false, not_false_eq_true, if_true, if_false, false_and, and_false]
      refine m_operand d z a c t k ph bg pr os F vs M _ hLM hR hP (tyR_i.mp hty).2.1 hl hO hc (fun M1 x g1 r1 x1h => ?_)
      have L1 := gF_LayN g1 hLM
      have gx : gF (sFm z a) nT M1 (uI M1 277 51 x) := gF_i _ (Or.inl ⟨rfl, by omega⟩)
      have L2 : Lay (uI M1 277 51 x) := L1
      have r2 := RsM_51 x r1
      have hx01 : (x = 0 ∨ x = 1) = True := eq_true x1h.1
      have hst : mStep T n (t, (k, ph, bg, pr, os) :: F, vs, false) = mOpd T n t k ph bg pr os F vs := rfl
      suffices key : am_P am_P0 (d + 4) (am_look tX11_reads) 70 [.ref 277, .int x1, .int 1] [] (uI M1 277 51 x) Q by
        simp +decide only [qX11_reads_0, qX11_reads_1, lm L1, hx01, am_w1_i, am_w1_r, am_w1_x, am_w1_l, am_w1_w, va_rf_s, am_push_n, am_push_s, am_cs_0, am_cs_i, am_cs_l, am_cs_r, m_uI_K, m_uI_N, m_uI_R, m_uI_L, m_uI_I, m_uL_K, m_uL_N, m_uL_R, m_uL_I, m_uL_L, m_uR_K, m_uR_N, m_uR_I, m_uR_L, m_uR_R, true_and, and_true, true_implies, false_implies, not_true_eq_false, not_false_eq_true, if_true, if_false, false_and, and_false] at key ⊢
        exact key
      cases hm : mOpd T n t k ph bg pr os F vs with
      | inl e =>
        rw [hm] at r2 hst
        have hr' := hr
        rw [mRun_i, hst] at hr'
        cases hr'
        exact done e _ 1 (gF_trans g1 gx) r2 rfl (Or.inr (by decide))
      | inr q =>
        obtain ⟨s', b⟩ := q
        rw [hm] at r2 hst
        have hb1 : b = true := by
          unfold mOpd at hm
          revert hm
          unfold mAdv
          intro hm
          repeat' split at hm
          all_goals first
            | (cases hm; done)
            | (cases hm; rfl)
        subst hb1
        exact more s' true _ (gF_trans g1 gx) r2 hst (fun _ => ⟨by rw [m_uI_I, if_pos ⟨rfl, rfl⟩]; exact x1h.2 s' true hm, tyS_opd (tkG_OK hR.2.2.2.2.2.2.2.2) hty hm⟩)
    | true =>
      simp +decide only [qX11_reads_0, qX11_reads_1, lm hLM, hfl, b01, am_w1_i, am_w1_r, am_w1_x, am_w1_l, am_w1_w, va_rf_s, am_push_n, am_push_s, am_cs_0, am_cs_i, am_cs_l, am_cs_r, m_uI_K, m_uI_N, m_uI_R, m_uI_L, m_uI_I, m_uL_K, m_uL_N, m_uL_R, m_uL_I, m_uL_L, m_uR_K, m_uR_N, m_uR_I, m_uR_L, m_uR_R, true_and, and_true, true_implies, false_implies, not_true_eq_false, not_false_eq_true, if_true, if_false, false_and, and_false]
      refine m_goesOn d z a c t k ph bg pr os F vs M _ hLM hR hP hty hl hO hc (by rw [hfl]; rfl) (fun M1 x g1 r1 x1h => ?_)
      have hst : mStep T n (t, (k, ph, bg, pr, os) :: F, vs, true) = mGo T n t k ph bg pr os F vs := rfl
      suffices key : am_P am_P0 (d + 4) (am_look tX11_reads) 70 [.ref 277, .int x1, .int x] [] M1 Q by
        simp +decide only [qX11_reads_0, qX11_reads_1, am_w1_i, am_w1_r, am_w1_x, am_w1_l, am_w1_w, va_rf_s, am_push_n, am_push_s, am_cs_0, am_cs_i, am_cs_l, am_cs_r, m_uI_K, m_uI_N, m_uI_R, m_uI_L, m_uI_I, m_uL_K, m_uL_N, m_uL_R, m_uL_I, m_uL_L, m_uR_K, m_uR_N, m_uR_I, m_uR_L, m_uR_R, true_and, and_true, true_implies, false_implies, not_true_eq_false, not_false_eq_true, if_true, if_false, false_and, and_false] at key ⊢
        exact key
      cases hm : mGo T n t k ph bg pr os F vs with
      | inl e =>
        rw [hm] at r1 hst
        have hr' := hr
        rw [mRun_i, hst] at hr'
        cases hr'
        exact done e _ x g1 r1 rfl (Decidable.em _)
      | inr q =>
        obtain ⟨s', b⟩ := q
        rw [hm] at r1 hst
        obtain ⟨x1a, x1b⟩ := x1h s' b hm
        rw [x1a]
        exact more s' b M1 g1 r1 hst (fun hb => ⟨x1b, by subst hb; exact tyS_go (fun f hf => (hFb f hf).2) hty hm⟩)
/-- as the grammar says -/
def EnP (T : Nat → Nat) (n : Nat) (t : Tok) (M : am_M) (z a : Nat) : Sum (Nat × Nat) (Tok × Den) → Prop
  | .inl e => FtM M T n e.1 e.2
  | .inr q => RdM M T n q.1 ∧ (∃ c, FmM M z c ∧ CdM M z a c [q.2] ∧ c ≤ tS q.1) ∧ tS t ≤ tS q.1
theorem m_reads (d z a : Nat) (b : Bool) (t : Tok) (res : Sum (Nat × Nat) (Tok × Den)) (M : am_M) (Q : Option Value → am_M → Prop) (hL : Lay M) (hR : RdM M T n t) (hV : tkV T n t) (hF : FmM M z a) (ha : a ≤ tS t) (hres : ps T n (fuelP n) (if b = true then 5 else 0) 0 t (fun _ => 0) = some res)
    (hQ : ∀ M', gF (sFm z a) nT M M' → EnP T n t M' z a res → Q none M') : am_E am_P0 (d + 4) 192 [.ref 277, .int (b01 b)] M Q := by
  obtain ⟨kk, hkk⟩ : ∃ kk : Nat, kk = (if b = true then 1 else 0) := ⟨_, rfl⟩
  have hk2 : kk < 2 := by rw [hkk]; split <;> omega
  -- how the run ends
  have run : ∃ f r, mRun T n f (t, [(kk, 0, true, 0, [])], [], false) = some r ∧ (∀ e, res = .inl e → r = .inl e) ∧ (∀ t' v, res = .inr (t', v) → ∃ s', r = .inr s' ∧ s'.1 = t' ∧ s'.2.2.1 = [v]) := by
    have fin : ∀ (t' : Tok) (v : Den) (ph : Nat) (os' : List Nat) (vs' : List Den), mStep T n (t', [(kk, ph, false, 0, os')], vs', true) = .inr ((t', [(kk, ph, false, 0, (jns 1 os' vs').1)], (jns 1 os' vs').2, true), false) → (jns 1 os' vs').2 = [v] → Go T n (t, [(kk, 0, true, 0, [])], [], false) (t', [(kk, ph, false, 0, os')], vs', true) → res = .inr (t', v) → ∃ f r, mRun T n f (t, [(kk, 0, true, 0, [])], [], false) = some r ∧ (∀ e, res = .inl e → r = .inl e) ∧ (∀ t' v, res = .inr (t', v) → ∃ s', r = .inr s' ∧ s'.1 = t' ∧ s'.2.2.1 = [v]) := by
      intro t' v ph os' vs' hs hv hg he
      obtain ⟨m, hm⟩ := hg
      refine ⟨1 + m, .inr (t', [(kk, ph, false, 0, (jns 1 os' vs').1)], (jns 1 os' vs').2, true), ?_, fun e q => ?_, fun t2 v2 q => ?_⟩
      · rw [hm, mRun_i, hs]; rfl
      · rw [he] at q; cases q
      · rw [he] at q; cases q; exact ⟨_, rfl, rfl, hv⟩
    have flt : ∀ e, Ff T n (t, [(kk, 0, true, 0, [])], [], false) e → res = .inl e → ∃ f r, mRun T n f (t, [(kk, 0, true, 0, [])], [], false) = some r ∧ (∀ e, res = .inl e → r = .inl e) ∧ (∀ t' v, res = .inr (t', v) → ∃ s', r = .inr s' ∧ s'.1 = t' ∧ s'.2.2.1 = [v]) := by
      intro e hf he
      obtain ⟨m, hm⟩ := hf
      exact ⟨0 + m, .inl e, hm 0, fun e' q => by rw [he] at q; cases q; rfl, fun t2 v2 q => by rw [he] at q; cases q⟩
    cases b with
    | false =>
      rw [if_neg (by decide)] at hkk hres
      subst hkk
      have ho := (sim_all (T := T) (n := n) (fuelP n)).1 0 t (fun _ => 0) 0 0 true 0 [] [] [] rfl (by omega) (by omega) (hdR_nil 5) (nf_k rfl)
      rw [hres] at ho
      cases res with
      | inl e => exact flt e ho rfl
      | inr q =>
        obtain ⟨s', hg, os', vs', rfl, hj, hm, ha'⟩ := ho
        have h1 : jns 1 os' vs' = ([], [q.2]) := by rw [jns_then (by omega) hj]; rfl
        refine fin q.1 q.2 0 os' vs' ?_ (by rw [h1]) hg rfl
        show mGo T n q.1 0 0 false 0 os' [] vs' = _
        unfold mGo
        rw [if_neg (fun w => w.2 ha'), if_neg (fun w => w.2 hm), if_neg (fun w => by cases w.1), if_neg (fun w => by cases w.1), if_neg (fun w => by cases w.1), if_pos (by omega)]
    | true =>
      rw [if_pos rfl] at hkk hres
      subst hkk
      have ho := (sim_all (T := T) (n := n) (fuelP n)).2.2.2.2.2.1 0 t (fun _ => 0) 1 0 [] [] rfl (by omega) rfl
      rw [hres] at ho
      cases res with
      | inl e => exact flt e ho rfl
      | inr q =>
        obtain ⟨s', hg, ph, os', vs', rfl, hj, hpe, hA, hO⟩ := ho
        refine fin q.1 q.2 ph os' vs' ?_ (by rw [hj]) hg rfl
        show mGo T n q.1 1 ph false 0 os' [] vs' = _
        have hp0 : ¬ ph = 0 := by rcases hpe with q | q <;> omega
        unfold mGo
        rw [if_neg (fun w => by rcases hpe with q | q; omega; exact w.2 q.2.1), if_neg (fun w => by rcases hpe with q | q; omega; exact w.2 q.2.2), if_neg (fun w => hp0 w.2.1), if_neg (fun w => by have := w.2; rw [hA, hO] at this; cases this), if_neg (fun w => hp0 w.2), if_pos (by omega)]
  obtain ⟨f, r, hrun, hrl, hrr⟩ := run
  have hmi0 : mI_ T n (t, [(kk, 0, true, 0, [])], [], false) := ⟨t, kk, 0, true, 0, [], [], [], false, rfl, hV, ⟨trivial, fun _ o ho => by cases ho⟩, (fun f hf => by cases hf), by decide, fun _ => ⟨rfl, fun a r h => by cases h⟩, by show 4 * 0 ≤ _; omega⟩
  have hfin : ∀ M', gF (sFm z a) nT M M' → EnM T n M' z a r → Q none M' := fun M' g hE => by
    refine hQ M' g ?_
    cases res with
    | inl e => rw [hrl e rfl] at hE; exact hE
    | inr q =>
      obtain ⟨s', rfl, h1, h2⟩ := hrr q.1 q.2 rfl
      obtain ⟨c, m1, m2, m3⟩ := hE
      rw [h1] at m1 m3
      refine ⟨m1, ⟨c, m2.1, ?_, by omega⟩, ?_⟩
      · have := m2.2.1
        rw [h2] at this
        exact this
      · have := tok_run f _ _ hmi0 hrun
        rw [h1] at this
        exact this
  -- the start
  obtain ⟨Ms, hMs⟩ : ∃ Ms, Ms = uI (uI (uI (uI M 277 47 0) 277 48 0) 277 50 0) 277 51 0 := ⟨_, rfl⟩
  have gs : gF (fun b j => b = 277 ∧ (j = 47 ∨ j = 48 ∨ j = 50 ∨ j = 51)) nT M Ms := by
    rw [hMs]
    exact gF_trans (gF_i _ ⟨rfl, by omega⟩) (gF_trans (gF_i _ ⟨rfl, by omega⟩) (gF_trans (gF_i _ ⟨rfl, by omega⟩) (gF_i _ ⟨rfl, by omega⟩)))
  have Ls := gF_LayN gs hL
  have h47 : mI Ms 277 47 = nI 0 := by rw [hMs]; simp [m_uI_I]; rfl
  have h48 : mI Ms 277 48 = nI ([] : List Frm).length := by rw [hMs]; simp [m_uI_I]; rfl
  have h50 : mI Ms 277 50 = nI (sumO []) := by rw [hMs]; simp [m_uI_I]; rfl
  have h51 : mI Ms 277 51 = 0 := by rw [hMs]; simp [m_uI_I]
  have Fs : FmM Ms z a := FmM_g hF gs (fun j q w => by omega)
  have Cs : CdM Ms z a a [] := ⟨Nat.le_refl _, fun j hj => by omega, by rw [Nat.sub_self]; rfl⟩
  have N1 := NwM_ps (k := kk) (F := []) Fs Cs trivial h48 h50
  have P1 := NwM_P N1 (by omega) 0
  have hps := fun Q => m_pushes (d + 3) 0 kk Ms Q Ls h47 (by omega)
  rw [h50] at hps
  have gp : gF (fun b j => (306 ≤ b ∧ b ≤ 310 ∧ j = 0) ∨ (b = 277 ∧ j = 47)) nT Ms (psM Ms 0 kk (nI (sumO []))) := gF_psM
  have Gp : gF (sFm z a) nT M (psM Ms 0 kk (nI (sumO []))) := gF_trans (gF_up gs (fun b j q => by unfold sFm; omega) (fun _ _ q => q)) (gF_up gp (fun b j q => by unfold sFm; omega) (fun _ _ q => q))
  have Rp : RdM (psM Ms 0 kk (nI (sumO []))) T n t := RdM_g (RdM_g hR gs (fun b j q w => by omega)) gp (fun b j q w => by omega)
  have hloop := l_m_reads (T := T) (n := n) d z a (b01 b) M Q hL f (t, [(kk, 0, true, 0, [])], [], false) r hrun _ a Gp ⟨Rp, P1, by
      show a + sumO [(kk, 0, true, 0, [])] + nPr [(kk, 0, true, 0, [])] ≤ tS t
      have e2 : nPr [(kk, 0, true, 0, [])] = 0 := by show 0 + (if kk = 3 ∨ kk = 4 then 1 else 0) = 0; rw [if_neg (by omega)]
      have e1 : sumO [(kk, 0, true, 0, [])] = 0 := rfl
      rw [e1, e2]; omega⟩ (by
      show mI (psM Ms 0 kk (nI (sumO []))) 277 51 = 0
      rw [gp.1 _ _ (by omega)]; exact h51) ⟨t, kk, 0, true, 0, [], [], [], false, rfl, hV, ⟨trivial, fun _ o ho => by cases ho⟩, (fun f hf => by cases hf), by decide, fun _ => ⟨rfl, fun a r h => by cases h⟩, by show 4 * 0 ≤ _; omega⟩ (by
      show tyR [(kk, 0, true, 0, [])] []
      rw [tyR_i]
      refine ⟨by omega, by omega, ?_, fun q => by omega, fun _ => ⟨rfl, fun x hx => by cases hx⟩, fun q => by omega, ⟨fun _ => rfl, fun _ => hk2⟩, [], rfl, ?_⟩
      · show ¬ md kk 0 = 2
        unfold md
        split <;> decide
      · rw [if_neg (by omega)]; rfl) hfin
  rw [eX11_reads]
  have L2 := gF_LayN gp Ls
  cases b with
  | false =>
    rw [if_neg (by decide)] at hkk
    subst hkk
    rw [show nI 0 = (0 : Int32) from rfl] at hps
    simp +decide only [qX11_reads_0, qX11_reads_1, lm hL, hR.2.1, ← hMs, lm Ls, hps, b01, am_w1_i, am_w1_r, am_w1_x, am_w1_l, am_w1_w, va_rf_s, am_push_n, am_push_s, am_cs_0, am_cs_i, am_cs_l, am_cs_r, m_uI_K, m_uI_N, m_uI_R, m_uI_L, m_uI_I, m_uL_K, m_uL_N, m_uL_R, m_uL_I, m_uL_L, m_uR_K, m_uR_N, m_uR_I, m_uR_L, m_uR_R, true_and, and_true, true_implies, false_implies, not_true_eq_false, not_false_eq_true, if_true, if_false, false_and, and_false] at hloop ⊢
    exact hloop
  | true =>
    rw [if_pos rfl] at hkk
    subst hkk
    rw [show nI 1 = (1 : Int32) from rfl] at hps
    simp +decide only [qX11_reads_0, qX11_reads_1, lm hL, hR.2.1, ← hMs, lm Ls, hps, b01, am_w1_i, am_w1_r, am_w1_x, am_w1_l, am_w1_w, va_rf_s, am_push_n, am_push_s, am_cs_0, am_cs_i, am_cs_l, am_cs_r, m_uI_K, m_uI_N, m_uI_R, m_uI_L, m_uI_I, m_uL_K, m_uL_N, m_uL_R, m_uL_I, m_uL_L, m_uR_K, m_uR_N, m_uR_I, m_uR_L, m_uR_R, true_and, and_true, true_implies, false_implies, not_true_eq_false, not_false_eq_true, if_true, if_false, false_and, and_false] at hloop ⊢
    exact hloop
theorem m_readsF (d : Nat) (x : Int32) (e : Nat × Nat) (M : am_M) (Q : Option Value → am_M → Prop) (hL : Lay M) (hR : FtM M T n e.1 e.2) : am_E am_P0 d 192 [.ref 277, .int x] M Q ↔ Q none M := by
  rw [eX11_reads]
  simp +decide only [qX11_reads_0, qX11_reads_1, lm hL, am_w1_i, am_w1_r, am_w1_x, am_w1_l, am_w1_w, va_rf_s, am_push_n, am_push_s, am_cs_0, am_cs_i, am_cs_l, am_cs_r, m_uI_K, m_uI_N, m_uI_R, m_uI_L, m_uI_I, m_uL_K, m_uL_N, m_uL_R, m_uL_I, m_uL_L, m_uR_K, m_uR_N, m_uR_I, m_uR_L, m_uR_R, true_and, and_true, true_implies, false_implies, not_true_eq_false, not_false_eq_true, if_true, if_false, false_and, and_false]
  rw [br_n (FtM_pos hR).2.2]
end
