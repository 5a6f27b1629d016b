/-! a static method of a nest mate -/
section
variable {P : Nat → am_Y} {own : String} {cc : ByteArray} {nL : Nat} {ret : Option FieldType} {nm : String} {pc : Nat}
theorem z_csn {y i n : Nat} {C host : String} (hdg : decode cc pc = .ok (.invokestatic i, 3)) (hv : am_mv P y C n true) (hl : Cond.methodLinkNest own i (P y).1 host ∈ am_nw) : am_Snd P own cc nL ret nm pc (k_cs y n (P y).2.2.1 (pc + 3)) := by
  obtain ⟨hmx, hst, -, hini, hcode, hnm, hdesc⟩ := hv
  have hst : Cond.static (P y).1 ∈ am_ws := hst
  intro lv st M
  refine ⟨fun pc' lv' st' M' he => ?_, fun v M' he => ?_, fun y' as pc' lv' st' M' he => ?_⟩
  · unfold k_cs at he
    split at he
    · split at he <;> cases he
    · cases he
  · unfold k_cs at he
    split at he
    · split at he <;> cases he
    · cases he
  · unfold k_cs at he
    split at he
    · rename_i as2 st2 hpop
      split at he
      · rename_i hok
        cases he
        obtain ⟨lst, q1, q2, q3, q4⟩ := am_pop_s _ _ _ _ _ hpop
        rw [List.append_nil] at q3
        have hlen : (am_en as).length ≤ (P y).2.2.1 := by unfold am_okc at hok; simp at hok; exact hok.1
        refine ⟨rfl, ⟨hlen, fun v hv => q4 v (by rw [q3] at hv; exact List.mem_reverse.mp hv)⟩, ?_⟩
        intro G p l e R s m args below meth c c0 w0 d r M2 Q hC hM h1 h2 h3 h4 h5 h6 hV H locs ls kc ks hR hS hL hkc hks
        have hcs : am_cs st' ≤ 8 := by unfold am_okc at hok; simp at hok; exact hok.2
        have hB : va_CN R s args own i (P y).1 host (P y).2.1 (P y).2.2.1 (P y).2.2.2.1 (.code (P y).1 (P y).2.1 (P y).2.2.1 (P y).2.2.2.1 :: am_ws) (am_rm d (mC M2 - mC M) (mW M2 - mW M)) (mC M2 - mC M) (mW M2 - mW M) n := by
          refine ⟨⟨rfl, rfl, h5, ?_, am_ws_good hC.2.2.2.2.1 hcode, List.mem_cons_self⟩, hC.2.2.2.2.1 _ hcode, hC.2.2.2.2.1 _ hini, hnm, fun sig h => ?_, va_Nw.use rfl (hC.2.2.2.2.2.2.2.2.1.2.1 _ hl)⟩
          · show 8 + ((P y).2.2.1 + 11) + 64 * (d + 1) ≤ R.locals
            omega
          · rw [h] at hdesc
            exact (Option.some.inj hdesc).symm
        have hrun := va_runSN (p := p) (e := e) (below := below) (meth := meth) (H := H) (locs := locs) (cells := kc) (slots := ks) (As := as.map (am_v G)) (rest := st'.map (am_v G)) (g := F0 m pc ls (st.map (am_v G))) (n := n) ⟨hC.1, hC.2.1, hC.2.2.1, hC.2.2.2.1, hC.2.2.2.2.1⟩ hM ⟨hB, hC.2.2.2.2.1 _ hst, trivial⟩ ⟨am_blind G as M, fun U hU hW => ⟨rfl, by rw [hU]; exact hR, hC.2.2.2.2.2.2.2.2.1.warm hW⟩⟩ rfl (by rw [List.length_map, q3, List.length_reverse]; exact q2) hL.2.1 (by show st.map (am_v G) = _; rw [q1, q3, List.map_append, List.map_reverse, List.reverse_reverse]) (by rw [am_cs_eq]; show 2 * 0 + _ ≤ _; omega) hdg ⟨by omega, by omega⟩
        exact am_back hrun hS hL hkc hks h1 h2 hV
      · cases he
    · cases he
end
