/-! 25.det 30.lay 30.num 31.mleaf 31.mleaf2 32.tape -/
section
/-! AM is a function: what it answers once it always answers; reading after writing -/
section
variable {P : Nat → am_Y} {d : Nat} {c : am_Code} {pc : Nat} {lv st : List Value} {M : am_M} {Q : Option Value → am_M → Prop}
theorem am_run_fn {n n2 d2 : Nat} {x y : Option Value × am_M} (h1 : am_run P n d c pc lv st M = some x) (h2 : am_run P n2 d2 c pc lv st M = some y) : x = y := by
  have g1 := am_run_more n d n2 d2 c pc lv st M x h1
  have g2 := am_run_more n2 d2 n d c pc lv st M y h2
  rw [Nat.add_comm n2 n, Nat.add_comm d2 d] at g2
  exact Option.some.inj (g1.symm.trans g2)
/-- an answer and a memory, and nothing else -/
theorem am_det {r : Option Value} {M2 : am_M} (h : am_P P d c pc lv st M (fun r' M' => r' = r ∧ M' = M2)) : am_P P d c pc lv st M Q ↔ Q r M2 := by
  obtain ⟨n, r', M', h1, rfl, rfl⟩ := h
  constructor
  · rintro ⟨n2, r2, M3, h2, hq⟩
    cases am_run_fn h1 h2
    exact hq
  · intro hq
    exact ⟨n, r', M', h1, hq⟩
/-- more depth does not hurt -/
theorem am_E_deep {d2 y : Nat} {as : List Value} (h : am_E P d y as M Q) (hd : d ≤ d2) : am_E P d2 y as M Q := am_P_deep h hd
theorem am_Edet {y : Nat} {as : List Value} {r : Option Value} {M2 : am_M} (h : am_E P d y as M (fun r' M' => r' = r ∧ M' = M2)) (d2 : Nat) (hd : d ≤ d2) : am_E P d2 y as M Q ↔ Q r M2 := am_det (am_P_deep h hd)
end
section
variable (M : am_M) (a j b k : Nat)
theorem m_uI_K (v : Int32) : mK (uI M a j v) b = mK M b := rfl
theorem m_uI_N (v : Int32) : mN (uI M a j v) b = mN M b := rfl
theorem m_uI_R (v : Int32) : mR (uI M a j v) b k = mR M b k := rfl
theorem m_uI_L (v : Int32) : mL (uI M a j v) b k = mL M b k := rfl
theorem m_uI_I (v : Int32) : mI (uI M a j v) b k = if b = a ∧ k = j then v else mI M b k := rfl
theorem m_uL_K (v : Int64) : mK (uL M a j v) b = mK M b := rfl
theorem m_uL_N (v : Int64) : mN (uL M a j v) b = mN M b := rfl
theorem m_uL_R (v : Int64) : mR (uL M a j v) b k = mR M b k := rfl
theorem m_uL_I (v : Int64) : mI (uL M a j v) b k = mI M b k := rfl
theorem m_uL_L (v : Int64) : mL (uL M a j v) b k = if b = a ∧ k = j then v else mL M b k := rfl
theorem m_uR_K (v : Option Nat) : mK (uR M a j v) b = mK M b := rfl
theorem m_uR_N (v : Option Nat) : mN (uR M a j v) b = mN M b := rfl
theorem m_uR_I (v : Option Nat) : mI (uR M a j v) b k = mI M b k := rfl
theorem m_uR_L (v : Option Nat) : mL (uR M a j v) b k = mL M b k := rfl
theorem m_uR_R (v : Option Nat) : mR (uR M a j v) b k = if b = a ∧ k = j then v else mR M b k := rfl
end
/-- a truth as an int -/
def bI (p : Prop) [Decidable p] : Int32 := if p then 1 else 0
theorem bI_t {p : Prop} [Decidable p] (h : p) : bI p = 1 := if_pos h
theorem bI_f {p : Prop} [Decidable p] (h : ¬ p) : bI p = 0 := if_neg h
theorem bI_01 {p : Prop} [Decidable p] : bI p = 0 ∨ bI p = 1 := by unfold bI; split <;> simp
theorem bI_0 {p : Prop} [Decidable p] : bI p = 0 ↔ ¬ p := by unfold bI; split <;> simp [*]
theorem bI_1 {p : Prop} [Decidable p] : bI p = 1 ↔ p := by unfold bI; split <;> simp [*]
end
section
/-! the layout: which cell is what (by program: wip/whole/tools/gen_lay.py) -/
def ly_S0 : List am_S := [(20, 17), (0, 1800), (15, 14), (3, 8), (17, 4), (0, 40), (0, 40), (0, 40), (10, 3), (0, 1800), (0, 64), (14, 4), (0, 12), (0, 12), (0, 12), (14, 4), (0, 12), (0, 12), (0, 12), (14, 4), (0, 6), (0, 6), (0, 6), (0, 256), (0, 256), (1, 192), (1, 192), (16, 13), (0, 48), (0, 48), (2, 48), (0, 12), (0, 12), (0, 12), (16, 13), (0, 48), (0, 48), (2, 48), (0, 12), (0, 12), (0, 12), (16, 13), (0, 48), (0, 48), (2, 48), (0, 12), (0, 12), (0, 12)]
def ly_S1 : List am_S := [(16, 13), (0, 48), (0, 48), (2, 48), (0, 12), (0, 12), (0, 12), (16, 13), (0, 48), (0, 48), (2, 48), (0, 12), (0, 12), (0, 12), (16, 13), (0, 48), (0, 48), (2, 48), (0, 12), (0, 12), (0, 12), (16, 13), (0, 48), (0, 48), (2, 48), (0, 12), (0, 12), (0, 12), (16, 13), (0, 48), (0, 48), (2, 48), (0, 12), (0, 12), (0, 12), (15, 14), (3, 8), (17, 4), (0, 40), (0, 40), (0, 40), (10, 3), (0, 1800), (0, 64), (14, 4), (0, 12), (0, 12), (0, 12)]
def ly_S2 : List am_S := [(14, 4), (0, 12), (0, 12), (0, 12), (14, 4), (0, 6), (0, 6), (0, 6), (0, 256), (0, 256), (1, 192), (1, 192), (16, 13), (0, 48), (0, 48), (2, 48), (0, 12), (0, 12), (0, 12), (16, 13), (0, 48), (0, 48), (2, 48), (0, 12), (0, 12), (0, 12), (16, 13), (0, 48), (0, 48), (2, 48), (0, 12), (0, 12), (0, 12), (16, 13), (0, 48), (0, 48), (2, 48), (0, 12), (0, 12), (0, 12), (16, 13), (0, 48), (0, 48), (2, 48), (0, 12), (0, 12), (0, 12), (16, 13)]
def ly_S3 : List am_S := [(0, 48), (0, 48), (2, 48), (0, 12), (0, 12), (0, 12), (16, 13), (0, 48), (0, 48), (2, 48), (0, 12), (0, 12), (0, 12), (16, 13), (0, 48), (0, 48), (2, 48), (0, 12), (0, 12), (0, 12), (12, 2), (13, 10), (0, 27), (0, 0), (4, 8), (0, 5), (0, 507), (1, 48), (1, 36), (18, 17), (19, 5), (1, 4), (5, 256), (2, 256), (1, 4), (11, 1), (0, 48), (2, 48), (2, 48), (1, 192), (0, 48), (0, 48), (18, 17), (19, 5), (1, 4), (5, 256), (2, 256), (1, 4)]
def ly_S4 : List am_S := [(11, 1), (0, 48), (2, 48), (2, 48), (1, 192), (0, 48), (0, 48), (18, 17), (19, 5), (1, 4), (5, 256), (2, 256), (1, 4), (11, 1), (0, 48), (2, 48), (2, 48), (1, 192), (0, 48), (0, 48), (18, 17), (19, 5), (1, 4), (5, 256), (2, 256), (1, 4), (11, 1), (0, 48), (2, 48), (2, 48), (1, 192), (0, 48), (0, 48), (18, 17), (19, 5), (1, 4), (5, 256), (2, 256), (1, 4), (11, 1), (0, 48), (2, 48), (2, 48), (1, 192), (0, 48), (0, 48), (18, 17), (19, 5)]
def ly_S5 : List am_S := [(1, 4), (5, 256), (2, 256), (1, 4), (11, 1), (0, 48), (2, 48), (2, 48), (1, 192), (0, 48), (0, 48), (18, 17), (19, 5), (1, 4), (5, 256), (2, 256), (1, 4), (11, 1), (0, 48), (2, 48), (2, 48), (1, 192), (0, 48), (0, 48), (18, 17), (19, 5), (1, 4), (5, 256), (2, 256), (1, 4), (11, 1), (0, 48), (2, 48), (2, 48), (1, 192), (0, 48), (0, 48), (21, 83), (0, 1800), (0, 2), (0, 2), (0, 6), (0, 60), (0, 60), (0, 60), (0, 2), (1, 16), (0, 16)]
def ly_S6 : List am_S := [(0, 16), (0, 16), (0, 16), (0, 2), (0, 768), (2, 768), (0, 2), (0, 24), (0, 24), (0, 24), (0, 24), (0, 2), (0, 80), (0, 80), (0, 80), (0, 2), (0, 3600), (0, 3600), (0, 20), (0, 20), (2, 20), (0, 20), (0, 20), (0, 500), (0, 5), (1, 1850), (0, 10), (0, 256), (0, 256), (0, 256), (0, 256), (0, 120), (0, 120), (0, 120), (0, 48), (2, 48), (2, 48), (2, 2304), (0, 48), (0, 15360), (0, 48), (0, 48), (2, 12288), (2, 48), (0, 40), (1, 50), (0, 12288), (0, 520)]
def ly_S : List am_S := ly_S0 ++ (ly_S1 ++ (ly_S2 ++ (ly_S3 ++ (ly_S4 ++ (ly_S5 ++ (ly_S6))))))
def ly_F : List (Nat × Nat × Nat) := [(0, 0, 1), (0, 4, 164), (0, 7, 168), (0, 8, 169), (0, 9, 170), (0, 11, 171), (0, 12, 172), (2, 4, 3), (2, 5, 4), (2, 6, 8), (2, 7, 11), (2, 8, 15), (2, 9, 19), (2, 10, 23), (2, 11, 24), (2, 12, 25), (2, 13, 26), (3, 0, 27), (3, 1, 34), (3, 2, 41), (3, 3, 48), (3, 4, 55), (3, 5, 62), (3, 6, 69), (3, 7, 76), (4, 1, 5), (4, 2, 6), (4, 3, 7), (8, 0, 9), (8, 2, 10), (11, 1, 12), (11, 2, 13), (11, 3, 14), (15, 1, 16), (15, 2, 17), (15, 3, 18), (19, 1, 20), (19, 2, 21), (19, 3, 22), (27, 6, 28), (27, 7, 29), (27, 8, 30), (27, 10, 31), (27, 11, 32), (27, 12, 33), (34, 6, 35), (34, 7, 36), (34, 8, 37), (34, 10, 38), (34, 11, 39), (34, 12, 40), (41, 6, 42), (41, 7, 43), (41, 8, 44), (41, 10, 45), (41, 11, 46), (41, 12, 47), (48, 6, 49), (48, 7, 50), (48, 8, 51), (48, 10, 52), (48, 11, 53), (48, 12, 54), (55, 6, 56), (55, 7, 57), (55, 8, 58), (55, 10, 59), (55, 11, 60), (55, 12, 61), (62, 6, 63), (62, 7, 64), (62, 8, 65), (62, 10, 66), (62, 11, 67), (62, 12, 68), (69, 6, 70), (69, 7, 71), (69, 8, 72), (69, 10, 73), (69, 11, 74), (69, 12, 75), (76, 6, 77), (76, 7, 78), (76, 8, 79), (76, 10, 80), (76, 11, 81), (76, 12, 82), (83, 4, 84), (83, 5, 85), (83, 6, 89), (83, 7, 92), (83, 8, 96), (83, 9, 100), (83, 10, 104), (83, 11, 105), (83, 12, 106), (83, 13, 107), (84, 0, 108), (84, 1, 115), (84, 2, 122), (84, 3, 129), (84, 4, 136), (84, 5, 143), (84, 6, 150), (84, 7, 157), (85, 1, 86), (85, 2, 87), (85, 3, 88), (89, 0, 90), (89, 2, 91), (92, 1, 93), (92, 2, 94), (92, 3, 95), (96, 1, 97), (96, 2, 98), (96, 3, 99), (100, 1, 101), (100, 2, 102), (100, 3, 103), (108, 6, 109), (108, 7, 110), (108, 8, 111), (108, 10, 112), (108, 11, 113), (108, 12, 114), (115, 6, 116), (115, 7, 117), (115, 8, 118), (115, 10, 119), (115, 11, 120), (115, 12, 121), (122, 6, 123), (122, 7, 124), (122, 8, 125), (122, 10, 126), (122, 11, 127), (122, 12, 128), (129, 6, 130), (129, 7, 131), (129, 8, 132), (129, 10, 133), (129, 11, 134), (129, 12, 135), (136, 6, 137), (136, 7, 138), (136, 8, 139), (136, 10, 140), (136, 11, 141), (136, 12, 142), (143, 6, 144), (143, 7, 145), (143, 8, 146), (143, 10, 147), (143, 11, 148), (143, 12, 149), (150, 6, 151), (150, 7, 152), (150, 8, 153), (150, 10, 154), (150, 11, 155), (150, 12, 156), (157, 6, 158), (157, 7, 159), (157, 8, 160), (157, 10, 161), (157, 11, 162), (157, 12, 163), (164, 0, 165), (165, 0, 166), (168, 0, 173), (168, 1, 186), (168, 2, 199), (168, 3, 212), (168, 4, 225), (168, 5, 238), (168, 6, 251), (168, 7, 264), (173, 2, 174), (173, 3, 179), (173, 9, 181), (173, 10, 182), (173, 12, 183), (173, 15, 184), (173, 16, 185), (174, 0, 175), (174, 2, 176), (174, 3, 177), (174, 4, 178), (179, 0, 180), (186, 2, 187), (186, 3, 192), (186, 9, 194), (186, 10, 195), (186, 12, 196), (186, 15, 197), (186, 16, 198), (187, 0, 188), (187, 2, 189), (187, 3, 190), (187, 4, 191), (192, 0, 193), (199, 2, 200), (199, 3, 205), (199, 9, 207), (199, 10, 208), (199, 12, 209), (199, 15, 210), (199, 16, 211), (200, 0, 201), (200, 2, 202), (200, 3, 203), (200, 4, 204), (205, 0, 206), (212, 2, 213), (212, 3, 218), (212, 9, 220), (212, 10, 221), (212, 12, 222), (212, 15, 223), (212, 16, 224), (213, 0, 214), (213, 2, 215), (213, 3, 216), (213, 4, 217), (218, 0, 219), (225, 2, 226), (225, 3, 231), (225, 9, 233), (225, 10, 234), (225, 12, 235), (225, 15, 236), (225, 16, 237), (226, 0, 227), (226, 2, 228), (226, 3, 229), (226, 4, 230), (231, 0, 232), (238, 2, 239), (238, 3, 244), (238, 9, 246), (238, 10, 247), (238, 12, 248), (238, 15, 249), (238, 16, 250), (239, 0, 240), (239, 2, 241), (239, 3, 242), (239, 4, 243), (244, 0, 245), (251, 2, 252), (251, 3, 257), (251, 9, 259), (251, 10, 260), (251, 12, 261), (251, 15, 262), (251, 16, 263), (252, 0, 253), (252, 2, 254), (252, 3, 255), (252, 4, 256), (257, 0, 258), (264, 2, 265), (264, 3, 270), (264, 9, 272), (264, 10, 273), (264, 12, 274), (264, 15, 275), (264, 16, 276), (265, 0, 266), (265, 2, 267), (265, 3, 268), (265, 4, 269), (270, 0, 271), (277, 0, 278), (277, 13, 279), (277, 14, 280), (277, 15, 281), (277, 16, 282), (277, 17, 283), (277, 18, 284), (277, 19, 285), (277, 20, 286), (277, 21, 287), (277, 22, 288), (277, 23, 289), (277, 24, 290), (277, 25, 291), (277, 26, 292), (277, 27, 293), (277, 28, 294), (277, 29, 295), (277, 30, 296), (277, 31, 297), (277, 32, 298), (277, 33, 299), (277, 34, 300), (277, 35, 301), (277, 36, 302), (277, 37, 303), (277, 38, 304), (277, 39, 305), (277, 42, 306), (277, 43, 307), (277, 44, 308), (277, 45, 309), (277, 46, 310), (277, 49, 311), (277, 52, 312), (277, 53, 313), (277, 54, 314), (277, 55, 315), (277, 56, 316), (277, 57, 317), (277, 58, 318), (277, 61, 319), (277, 62, 320), (277, 63, 321), (277, 67, 322), (277, 68, 323), (277, 69, 324), (277, 70, 325), (277, 71, 326), (277, 72, 327), (277, 74, 328), (277, 75, 329), (277, 76, 330), (277, 77, 331), (277, 78, 332), (277, 79, 333), (277, 80, 334), (277, 81, 335)]
def Lay (M : am_M) : Prop := (∃ n, n ≤ 2048 ∧ mS M = ly_S ++ List.replicate n (1, 192)) ∧ ∀ q ∈ ly_F, mR M q.1 q.2.1 = some q.2.2
theorem ly_sh {M : am_M} (h : Lay M) (a : Nat) {k n : Nat} (e : ly_S[a]? = some (k, n)) : mK M a = k ∧ mN M a = n := by
  obtain ⟨⟨z, -, hz⟩, -⟩ := h
  have hl : a < ly_S.length := (List.getElem?_eq_some_iff.mp e).1
  have e2 : (mS M)[a]? = some (k, n) := by rw [hz, List.getElem?_append_left hl]; exact e
  unfold mK mN
  rw [List.getD_eq_getElem?_getD, e2]
  exact ⟨rfl, rfl⟩
theorem ly_rf {M : am_M} (h : Lay M) (i : Nat) {a j r : Nat} (e : ly_F[i]? = some (a, j, r)) : mR M a j = some r := h.2 (a, j, r) (List.mem_of_getElem? e)
theorem Lay_uI (M : am_M) (a j : Nat) (v : Int32) : Lay (uI M a j v) = Lay M := rfl
theorem Lay_uL (M : am_M) (a j : Nat) (v : Int64) : Lay (uL M a j v) = Lay M := rfl
theorem Lay_uR {M : am_M} {a j : Nat} {v : Option Nat} (h : Lay M) (hf : ∀ q ∈ ly_F, ¬ (q.1 = a ∧ q.2.1 = j)) : Lay (uR M a j v) := by
  refine ⟨h.1, fun q hq => ?_⟩
  have := hf q hq
  show (if q.1 = a ∧ q.2.1 = j then v else mR M q.1 q.2.1) = _
  rw [if_neg this]
  exact h.2 q hq
set_option maxRecDepth 100000 in
theorem lm {M : am_M} (h : Lay M) : mK M 277 = 21 ∧ mK M 278 = 0 ∧ mN M 278 = 1800 ∧ mK M 279 = 0 ∧ mN M 279 = 2 ∧ mK M 280 = 0 ∧ mN M 280 = 2 ∧ mK M 281 = 0 ∧ mN M 281 = 6 ∧ mK M 282 = 0 ∧ mN M 282 = 60 ∧ mK M 283 = 0 ∧ mN M 283 = 60 ∧ mK M 284 = 0 ∧ mN M 284 = 60 ∧ mK M 285 = 0 ∧ mN M 285 = 2 ∧ mK M 286 = 1 ∧ mN M 286 = 16 ∧ mK M 287 = 0 ∧ mN M 287 = 16 ∧ mK M 288 = 0 ∧ mN M 288 = 16 ∧ mK M 289 = 0 ∧ mN M 289 = 16 ∧ mK M 290 = 0 ∧ mN M 290 = 16 ∧ mK M 291 = 0 ∧ mN M 291 = 2 ∧ mK M 292 = 0 ∧ mN M 292 = 768 ∧ mK M 293 = 2 ∧ mN M 293 = 768 ∧ mK M 294 = 0 ∧ mN M 294 = 2 ∧ mK M 295 = 0 ∧ mN M 295 = 24 ∧ mK M 296 = 0 ∧ mN M 296 = 24 ∧ mK M 297 = 0 ∧ mN M 297 = 24 ∧ mK M 298 = 0 ∧ mN M 298 = 24 ∧ mK M 299 = 0 ∧ mN M 299 = 2 ∧ mK M 300 = 0 ∧ mN M 300 = 80 ∧ mK M 301 = 0 ∧ mN M 301 = 80 ∧ mK M 302 = 0 ∧ mN M 302 = 80 ∧ mK M 303 = 0 ∧ mN M 303 = 2 ∧ mK M 304 = 0 ∧ mN M 304 = 3600 ∧ mK M 305 = 0 ∧ mN M 305 = 3600 ∧ mK M 306 = 0 ∧ mN M 306 = 20 ∧ mK M 307 = 0 ∧ mN M 307 = 20 ∧ mK M 308 = 2 ∧ mN M 308 = 20 ∧ mK M 309 = 0 ∧ mN M 309 = 20 ∧ mK M 310 = 0 ∧ mN M 310 = 20 ∧ mK M 311 = 0 ∧ mN M 311 = 500 ∧ mK M 312 = 0 ∧ mN M 312 = 5 ∧ mK M 313 = 1 ∧ mN M 313 = 1850 ∧ mK M 314 = 0 ∧ mN M 314 = 10 ∧ mK M 315 = 0 ∧ mN M 315 = 256 ∧ mK M 316 = 0 ∧ mN M 316 = 256 ∧ mK M 317 = 0 ∧ mN M 317 = 256 ∧ mK M 318 = 0 ∧ mN M 318 = 256 ∧ mK M 319 = 0 ∧ mN M 319 = 120 ∧ mK M 320 = 0 ∧ mN M 320 = 120 ∧ mK M 321 = 0 ∧ mN M 321 = 120 ∧ mK M 322 = 0 ∧ mN M 322 = 48 ∧ mK M 323 = 2 ∧ mN M 323 = 48 ∧ mK M 324 = 2 ∧ mN M 324 = 48 ∧ mK M 325 = 2 ∧ mN M 325 = 2304 ∧ mK M 326 = 0 ∧ mN M 326 = 48 ∧ mK M 327 = 0 ∧ mN M 327 = 15360 ∧ mK M 328 = 0 ∧ mN M 328 = 48 ∧ mK M 329 = 0 ∧ mN M 329 = 48 ∧ mK M 330 = 2 ∧ mN M 330 = 12288 ∧ mK M 331 = 2 ∧ mN M 331 = 48 ∧ mK M 332 = 0 ∧ mN M 332 = 40 ∧ mK M 333 = 1 ∧ mN M 333 = 50 ∧ mK M 334 = 0 ∧ mN M 334 = 12288 ∧ mK M 335 = 0 ∧ mN M 335 = 520 ∧ mR M 277 0 = some 278 ∧ mR M 277 13 = some 279 ∧ mR M 277 14 = some 280 ∧ mR M 277 15 = some 281 ∧ mR M 277 16 = some 282 ∧ mR M 277 17 = some 283 ∧ mR M 277 18 = some 284 ∧ mR M 277 19 = some 285 ∧ mR M 277 20 = some 286 ∧ mR M 277 21 = some 287 ∧ mR M 277 22 = some 288 ∧ mR M 277 23 = some 289 ∧ mR M 277 24 = some 290 ∧ mR M 277 25 = some 291 ∧ mR M 277 26 = some 292 ∧ mR M 277 27 = some 293 ∧ mR M 277 28 = some 294 ∧ mR M 277 29 = some 295 ∧ mR M 277 30 = some 296 ∧ mR M 277 31 = some 297 ∧ mR M 277 32 = some 298 ∧ mR M 277 33 = some 299 ∧ mR M 277 34 = some 300 ∧ mR M 277 35 = some 301 ∧ mR M 277 36 = some 302 ∧ mR M 277 37 = some 303 ∧ mR M 277 38 = some 304 ∧ mR M 277 39 = some 305 ∧ mR M 277 42 = some 306 ∧ mR M 277 43 = some 307 ∧ mR M 277 44 = some 308 ∧ mR M 277 45 = some 309 ∧ mR M 277 46 = some 310 ∧ mR M 277 49 = some 311 ∧ mR M 277 52 = some 312 ∧ mR M 277 53 = some 313 ∧ mR M 277 54 = some 314 ∧ mR M 277 55 = some 315 ∧ mR M 277 56 = some 316 ∧ mR M 277 57 = some 317 ∧ mR M 277 58 = some 318 ∧ mR M 277 61 = some 319 ∧ mR M 277 62 = some 320 ∧ mR M 277 63 = some 321 ∧ mR M 277 67 = some 322 ∧ mR M 277 68 = some 323 ∧ mR M 277 69 = some 324 ∧ mR M 277 70 = some 325 ∧ mR M 277 71 = some 326 ∧ mR M 277 72 = some 327 ∧ mR M 277 74 = some 328 ∧ mR M 277 75 = some 329 ∧ mR M 277 76 = some 330 ∧ mR M 277 77 = some 331 ∧ mR M 277 78 = some 332 ∧ mR M 277 79 = some 333 ∧ mR M 277 80 = some 334 ∧ mR M 277 81 = some 335 := ⟨(ly_sh h 277 rfl).1, (ly_sh h 278 rfl).1, (ly_sh h 278 rfl).2, (ly_sh h 279 rfl).1, (ly_sh h 279 rfl).2, (ly_sh h 280 rfl).1, (ly_sh h 280 rfl).2, (ly_sh h 281 rfl).1, (ly_sh h 281 rfl).2, (ly_sh h 282 rfl).1, (ly_sh h 282 rfl).2, (ly_sh h 283 rfl).1, (ly_sh h 283 rfl).2, (ly_sh h 284 rfl).1, (ly_sh h 284 rfl).2, (ly_sh h 285 rfl).1, (ly_sh h 285 rfl).2, (ly_sh h 286 rfl).1, (ly_sh h 286 rfl).2, (ly_sh h 287 rfl).1, (ly_sh h 287 rfl).2, (ly_sh h 288 rfl).1, (ly_sh h 288 rfl).2, (ly_sh h 289 rfl).1, (ly_sh h 289 rfl).2, (ly_sh h 290 rfl).1, (ly_sh h 290 rfl).2, (ly_sh h 291 rfl).1, (ly_sh h 291 rfl).2, (ly_sh h 292 rfl).1, (ly_sh h 292 rfl).2, (ly_sh h 293 rfl).1, (ly_sh h 293 rfl).2, (ly_sh h 294 rfl).1, (ly_sh h 294 rfl).2, (ly_sh h 295 rfl).1, (ly_sh h 295 rfl).2, (ly_sh h 296 rfl).1, (ly_sh h 296 rfl).2, (ly_sh h 297 rfl).1, (ly_sh h 297 rfl).2, (ly_sh h 298 rfl).1, (ly_sh h 298 rfl).2, (ly_sh h 299 rfl).1, (ly_sh h 299 rfl).2, (ly_sh h 300 rfl).1, (ly_sh h 300 rfl).2, (ly_sh h 301 rfl).1, (ly_sh h 301 rfl).2, (ly_sh h 302 rfl).1, (ly_sh h 302 rfl).2, (ly_sh h 303 rfl).1, (ly_sh h 303 rfl).2, (ly_sh h 304 rfl).1, (ly_sh h 304 rfl).2, (ly_sh h 305 rfl).1, (ly_sh h 305 rfl).2, (ly_sh h 306 rfl).1, (ly_sh h 306 rfl).2, (ly_sh h 307 rfl).1, (ly_sh h 307 rfl).2, (ly_sh h 308 rfl).1, (ly_sh h 308 rfl).2, (ly_sh h 309 rfl).1, (ly_sh h 309 rfl).2, (ly_sh h 310 rfl).1, (ly_sh h 310 rfl).2, (ly_sh h 311 rfl).1, (ly_sh h 311 rfl).2, (ly_sh h 312 rfl).1, (ly_sh h 312 rfl).2, (ly_sh h 313 rfl).1, (ly_sh h 313 rfl).2, (ly_sh h 314 rfl).1, (ly_sh h 314 rfl).2, (ly_sh h 315 rfl).1, (ly_sh h 315 rfl).2, (ly_sh h 316 rfl).1, (ly_sh h 316 rfl).2, (ly_sh h 317 rfl).1, (ly_sh h 317 rfl).2, (ly_sh h 318 rfl).1, (ly_sh h 318 rfl).2, (ly_sh h 319 rfl).1, (ly_sh h 319 rfl).2, (ly_sh h 320 rfl).1, (ly_sh h 320 rfl).2, (ly_sh h 321 rfl).1, (ly_sh h 321 rfl).2, (ly_sh h 322 rfl).1, (ly_sh h 322 rfl).2, (ly_sh h 323 rfl).1, (ly_sh h 323 rfl).2, (ly_sh h 324 rfl).1, (ly_sh h 324 rfl).2, (ly_sh h 325 rfl).1, (ly_sh h 325 rfl).2, (ly_sh h 326 rfl).1, (ly_sh h 326 rfl).2, (ly_sh h 327 rfl).1, (ly_sh h 327 rfl).2, (ly_sh h 328 rfl).1, (ly_sh h 328 rfl).2, (ly_sh h 329 rfl).1, (ly_sh h 329 rfl).2, (ly_sh h 330 rfl).1, (ly_sh h 330 rfl).2, (ly_sh h 331 rfl).1, (ly_sh h 331 rfl).2, (ly_sh h 332 rfl).1, (ly_sh h 332 rfl).2, (ly_sh h 333 rfl).1, (ly_sh h 333 rfl).2, (ly_sh h 334 rfl).1, (ly_sh h 334 rfl).2, (ly_sh h 335 rfl).1, (ly_sh h 335 rfl).2, ly_rf h 273 rfl, ly_rf h 274 rfl, ly_rf h 275 rfl, ly_rf h 276 rfl, ly_rf h 277 rfl, ly_rf h 278 rfl, ly_rf h 279 rfl, ly_rf h 280 rfl, ly_rf h 281 rfl, ly_rf h 282 rfl, ly_rf h 283 rfl, ly_rf h 284 rfl, ly_rf h 285 rfl, ly_rf h 286 rfl, ly_rf h 287 rfl, ly_rf h 288 rfl, ly_rf h 289 rfl, ly_rf h 290 rfl, ly_rf h 291 rfl, ly_rf h 292 rfl, ly_rf h 293 rfl, ly_rf h 294 rfl, ly_rf h 295 rfl, ly_rf h 296 rfl, ly_rf h 297 rfl, ly_rf h 298 rfl, ly_rf h 299 rfl, ly_rf h 300 rfl, ly_rf h 301 rfl, ly_rf h 302 rfl, ly_rf h 303 rfl, ly_rf h 304 rfl, ly_rf h 305 rfl, ly_rf h 306 rfl, ly_rf h 307 rfl, ly_rf h 308 rfl, ly_rf h 309 rfl, ly_rf h 310 rfl, ly_rf h 311 rfl, ly_rf h 312 rfl, ly_rf h 313 rfl, ly_rf h 314 rfl, ly_rf h 315 rfl, ly_rf h 316 rfl, ly_rf h 317 rfl, ly_rf h 318 rfl, ly_rf h 319 rfl, ly_rf h 320 rfl, ly_rf h 321 rfl, ly_rf h 322 rfl, ly_rf h 323 rfl, ly_rf h 324 rfl, ly_rf h 325 rfl, ly_rf h 326 rfl, ly_rf h 327 rfl, ly_rf h 328 rfl, ly_rf h 329 rfl, ly_rf h 330 rfl⟩
set_option maxRecDepth 100000 in
theorem lx {M : am_M} (h : Lay M) : mK M 0 = 20 ∧ mK M 1 = 0 ∧ mN M 1 = 1800 ∧ mK M 164 = 12 ∧ mK M 165 = 13 ∧ mK M 166 = 0 ∧ mN M 166 = 27 ∧ mK M 167 = 0 ∧ mN M 167 = 0 ∧ mK M 168 = 4 ∧ mN M 168 = 8 ∧ mK M 169 = 0 ∧ mN M 169 = 5 ∧ mK M 170 = 0 ∧ mN M 170 = 507 ∧ mK M 171 = 1 ∧ mN M 171 = 48 ∧ mK M 172 = 1 ∧ mN M 172 = 36 ∧ mR M 0 0 = some 1 ∧ mR M 0 4 = some 164 ∧ mR M 0 7 = some 168 ∧ mR M 0 8 = some 169 ∧ mR M 0 9 = some 170 ∧ mR M 0 11 = some 171 ∧ mR M 0 12 = some 172 ∧ mR M 164 0 = some 165 ∧ mR M 165 0 = some 166 := ⟨(ly_sh h 0 rfl).1, (ly_sh h 1 rfl).1, (ly_sh h 1 rfl).2, (ly_sh h 164 rfl).1, (ly_sh h 165 rfl).1, (ly_sh h 166 rfl).1, (ly_sh h 166 rfl).2, (ly_sh h 167 rfl).1, (ly_sh h 167 rfl).2, (ly_sh h 168 rfl).1, (ly_sh h 168 rfl).2, (ly_sh h 169 rfl).1, (ly_sh h 169 rfl).2, (ly_sh h 170 rfl).1, (ly_sh h 170 rfl).2, (ly_sh h 171 rfl).1, (ly_sh h 171 rfl).2, (ly_sh h 172 rfl).1, (ly_sh h 172 rfl).2, ly_rf h 0 rfl, ly_rf h 1 rfl, ly_rf h 2 rfl, ly_rf h 3 rfl, ly_rf h 4 rfl, ly_rf h 5 rfl, ly_rf h 6 rfl, ly_rf h 167 rfl, ly_rf h 168 rfl⟩
set_option maxRecDepth 100000 in
theorem lz {M : am_M} {z : Nat} (h : Lay M) (hz : z = 2 ∨ z = 83) : mK M z = 15 ∧ mK M (z + 1) = 3 ∧ mN M (z + 1) = 8 ∧ mK M (z + 2) = 17 ∧ mK M (z + 3) = 0 ∧ mN M (z + 3) = 40 ∧ mK M (z + 4) = 0 ∧ mN M (z + 4) = 40 ∧ mK M (z + 5) = 0 ∧ mN M (z + 5) = 40 ∧ mK M (z + 6) = 10 ∧ mK M (z + 7) = 0 ∧ mN M (z + 7) = 1800 ∧ mK M (z + 8) = 0 ∧ mN M (z + 8) = 64 ∧ mK M (z + 9) = 14 ∧ mK M (z + 10) = 0 ∧ mN M (z + 10) = 12 ∧ mK M (z + 11) = 0 ∧ mN M (z + 11) = 12 ∧ mK M (z + 12) = 0 ∧ mN M (z + 12) = 12 ∧ mK M (z + 13) = 14 ∧ mK M (z + 14) = 0 ∧ mN M (z + 14) = 12 ∧ mK M (z + 15) = 0 ∧ mN M (z + 15) = 12 ∧ mK M (z + 16) = 0 ∧ mN M (z + 16) = 12 ∧ mK M (z + 17) = 14 ∧ mK M (z + 18) = 0 ∧ mN M (z + 18) = 6 ∧ mK M (z + 19) = 0 ∧ mN M (z + 19) = 6 ∧ mK M (z + 20) = 0 ∧ mN M (z + 20) = 6 ∧ mK M (z + 21) = 0 ∧ mN M (z + 21) = 256 ∧ mK M (z + 22) = 0 ∧ mN M (z + 22) = 256 ∧ mK M (z + 23) = 1 ∧ mN M (z + 23) = 192 ∧ mK M (z + 24) = 1 ∧ mN M (z + 24) = 192 ∧ mR M z 4 = some (z + 1) ∧ mR M z 5 = some (z + 2) ∧ mR M z 6 = some (z + 6) ∧ mR M z 7 = some (z + 9) ∧ mR M z 8 = some (z + 13) ∧ mR M z 9 = some (z + 17) ∧ mR M z 10 = some (z + 21) ∧ mR M z 11 = some (z + 22) ∧ mR M z 12 = some (z + 23) ∧ mR M z 13 = some (z + 24) ∧ mR M (z + 2) 1 = some (z + 3) ∧ mR M (z + 2) 2 = some (z + 4) ∧ mR M (z + 2) 3 = some (z + 5) ∧ mR M (z + 6) 0 = some (z + 7) ∧ mR M (z + 6) 2 = some (z + 8) ∧ mR M (z + 9) 1 = some (z + 10) ∧ mR M (z + 9) 2 = some (z + 11) ∧ mR M (z + 9) 3 = some (z + 12) ∧ mR M (z + 13) 1 = some (z + 14) ∧ mR M (z + 13) 2 = some (z + 15) ∧ mR M (z + 13) 3 = some (z + 16) ∧ mR M (z + 17) 1 = some (z + 18) ∧ mR M (z + 17) 2 = some (z + 19) ∧ mR M (z + 17) 3 = some (z + 20) := by
  rcases hz with rfl | rfl
  · exact ⟨(ly_sh h 2 rfl).1, (ly_sh h 3 rfl).1, (ly_sh h 3 rfl).2, (ly_sh h 4 rfl).1, (ly_sh h 5 rfl).1, (ly_sh h 5 rfl).2, (ly_sh h 6 rfl).1, (ly_sh h 6 rfl).2, (ly_sh h 7 rfl).1, (ly_sh h 7 rfl).2, (ly_sh h 8 rfl).1, (ly_sh h 9 rfl).1, (ly_sh h 9 rfl).2, (ly_sh h 10 rfl).1, (ly_sh h 10 rfl).2, (ly_sh h 11 rfl).1, (ly_sh h 12 rfl).1, (ly_sh h 12 rfl).2, (ly_sh h 13 rfl).1, (ly_sh h 13 rfl).2, (ly_sh h 14 rfl).1, (ly_sh h 14 rfl).2, (ly_sh h 15 rfl).1, (ly_sh h 16 rfl).1, (ly_sh h 16 rfl).2, (ly_sh h 17 rfl).1, (ly_sh h 17 rfl).2, (ly_sh h 18 rfl).1, (ly_sh h 18 rfl).2, (ly_sh h 19 rfl).1, (ly_sh h 20 rfl).1, (ly_sh h 20 rfl).2, (ly_sh h 21 rfl).1, (ly_sh h 21 rfl).2, (ly_sh h 22 rfl).1, (ly_sh h 22 rfl).2, (ly_sh h 23 rfl).1, (ly_sh h 23 rfl).2, (ly_sh h 24 rfl).1, (ly_sh h 24 rfl).2, (ly_sh h 25 rfl).1, (ly_sh h 25 rfl).2, (ly_sh h 26 rfl).1, (ly_sh h 26 rfl).2, ly_rf h 7 rfl, ly_rf h 8 rfl, ly_rf h 9 rfl, ly_rf h 10 rfl, ly_rf h 11 rfl, ly_rf h 12 rfl, ly_rf h 13 rfl, ly_rf h 14 rfl, ly_rf h 15 rfl, ly_rf h 16 rfl, ly_rf h 25 rfl, ly_rf h 26 rfl, ly_rf h 27 rfl, ly_rf h 28 rfl, ly_rf h 29 rfl, ly_rf h 30 rfl, ly_rf h 31 rfl, ly_rf h 32 rfl, ly_rf h 33 rfl, ly_rf h 34 rfl, ly_rf h 35 rfl, ly_rf h 36 rfl, ly_rf h 37 rfl, ly_rf h 38 rfl⟩
  · exact ⟨(ly_sh h 83 rfl).1, (ly_sh h 84 rfl).1, (ly_sh h 84 rfl).2, (ly_sh h 85 rfl).1, (ly_sh h 86 rfl).1, (ly_sh h 86 rfl).2, (ly_sh h 87 rfl).1, (ly_sh h 87 rfl).2, (ly_sh h 88 rfl).1, (ly_sh h 88 rfl).2, (ly_sh h 89 rfl).1, (ly_sh h 90 rfl).1, (ly_sh h 90 rfl).2, (ly_sh h 91 rfl).1, (ly_sh h 91 rfl).2, (ly_sh h 92 rfl).1, (ly_sh h 93 rfl).1, (ly_sh h 93 rfl).2, (ly_sh h 94 rfl).1, (ly_sh h 94 rfl).2, (ly_sh h 95 rfl).1, (ly_sh h 95 rfl).2, (ly_sh h 96 rfl).1, (ly_sh h 97 rfl).1, (ly_sh h 97 rfl).2, (ly_sh h 98 rfl).1, (ly_sh h 98 rfl).2, (ly_sh h 99 rfl).1, (ly_sh h 99 rfl).2, (ly_sh h 100 rfl).1, (ly_sh h 101 rfl).1, (ly_sh h 101 rfl).2, (ly_sh h 102 rfl).1, (ly_sh h 102 rfl).2, (ly_sh h 103 rfl).1, (ly_sh h 103 rfl).2, (ly_sh h 104 rfl).1, (ly_sh h 104 rfl).2, (ly_sh h 105 rfl).1, (ly_sh h 105 rfl).2, (ly_sh h 106 rfl).1, (ly_sh h 106 rfl).2, (ly_sh h 107 rfl).1, (ly_sh h 107 rfl).2, ly_rf h 87 rfl, ly_rf h 88 rfl, ly_rf h 89 rfl, ly_rf h 90 rfl, ly_rf h 91 rfl, ly_rf h 92 rfl, ly_rf h 93 rfl, ly_rf h 94 rfl, ly_rf h 95 rfl, ly_rf h 96 rfl, ly_rf h 105 rfl, ly_rf h 106 rfl, ly_rf h 107 rfl, ly_rf h 108 rfl, ly_rf h 109 rfl, ly_rf h 110 rfl, ly_rf h 111 rfl, ly_rf h 112 rfl, ly_rf h 113 rfl, ly_rf h 114 rfl, ly_rf h 115 rfl, ly_rf h 116 rfl, ly_rf h 117 rfl, ly_rf h 118 rfl⟩
def isSh (w : Nat) : Prop := ∃ s, s < 8 ∧ (w = 27 + 7 * s ∨ w = 108 + 7 * s)
set_option maxRecDepth 100000 in
theorem lw_ {M : am_M} {w : Nat} (h : Lay M) (hw : isSh w) : mK M w = 16 ∧ mK M (w + 1) = 0 ∧ mN M (w + 1) = 48 ∧ mK M (w + 2) = 0 ∧ mN M (w + 2) = 48 ∧ mK M (w + 3) = 2 ∧ mN M (w + 3) = 48 ∧ mK M (w + 4) = 0 ∧ mN M (w + 4) = 12 ∧ mK M (w + 5) = 0 ∧ mN M (w + 5) = 12 ∧ mK M (w + 6) = 0 ∧ mN M (w + 6) = 12 ∧ mR M w 6 = some (w + 1) ∧ mR M w 7 = some (w + 2) ∧ mR M w 8 = some (w + 3) ∧ mR M w 10 = some (w + 4) ∧ mR M w 11 = some (w + 5) ∧ mR M w 12 = some (w + 6) := by
  obtain ⟨s, hs, hw⟩ := hw
  match s, hs with
  | 0, _ => exact hw.elim (fun e => by subst e; exact ⟨(ly_sh h 27 rfl).1, (ly_sh h 28 rfl).1, (ly_sh h 28 rfl).2, (ly_sh h 29 rfl).1, (ly_sh h 29 rfl).2, (ly_sh h 30 rfl).1, (ly_sh h 30 rfl).2, (ly_sh h 31 rfl).1, (ly_sh h 31 rfl).2, (ly_sh h 32 rfl).1, (ly_sh h 32 rfl).2, (ly_sh h 33 rfl).1, (ly_sh h 33 rfl).2, ly_rf h 39 rfl, ly_rf h 40 rfl, ly_rf h 41 rfl, ly_rf h 42 rfl, ly_rf h 43 rfl, ly_rf h 44 rfl⟩) (fun e => by subst e; exact ⟨(ly_sh h 108 rfl).1, (ly_sh h 109 rfl).1, (ly_sh h 109 rfl).2, (ly_sh h 110 rfl).1, (ly_sh h 110 rfl).2, (ly_sh h 111 rfl).1, (ly_sh h 111 rfl).2, (ly_sh h 112 rfl).1, (ly_sh h 112 rfl).2, (ly_sh h 113 rfl).1, (ly_sh h 113 rfl).2, (ly_sh h 114 rfl).1, (ly_sh h 114 rfl).2, ly_rf h 119 rfl, ly_rf h 120 rfl, ly_rf h 121 rfl, ly_rf h 122 rfl, ly_rf h 123 rfl, ly_rf h 124 rfl⟩)
  | 1, _ => exact hw.elim (fun e => by subst e; exact ⟨(ly_sh h 34 rfl).1, (ly_sh h 35 rfl).1, (ly_sh h 35 rfl).2, (ly_sh h 36 rfl).1, (ly_sh h 36 rfl).2, (ly_sh h 37 rfl).1, (ly_sh h 37 rfl).2, (ly_sh h 38 rfl).1, (ly_sh h 38 rfl).2, (ly_sh h 39 rfl).1, (ly_sh h 39 rfl).2, (ly_sh h 40 rfl).1, (ly_sh h 40 rfl).2, ly_rf h 45 rfl, ly_rf h 46 rfl, ly_rf h 47 rfl, ly_rf h 48 rfl, ly_rf h 49 rfl, ly_rf h 50 rfl⟩) (fun e => by subst e; exact ⟨(ly_sh h 115 rfl).1, (ly_sh h 116 rfl).1, (ly_sh h 116 rfl).2, (ly_sh h 117 rfl).1, (ly_sh h 117 rfl).2, (ly_sh h 118 rfl).1, (ly_sh h 118 rfl).2, (ly_sh h 119 rfl).1, (ly_sh h 119 rfl).2, (ly_sh h 120 rfl).1, (ly_sh h 120 rfl).2, (ly_sh h 121 rfl).1, (ly_sh h 121 rfl).2, ly_rf h 125 rfl, ly_rf h 126 rfl, ly_rf h 127 rfl, ly_rf h 128 rfl, ly_rf h 129 rfl, ly_rf h 130 rfl⟩)
  | 2, _ => exact hw.elim (fun e => by subst e; exact ⟨(ly_sh h 41 rfl).1, (ly_sh h 42 rfl).1, (ly_sh h 42 rfl).2, (ly_sh h 43 rfl).1, (ly_sh h 43 rfl).2, (ly_sh h 44 rfl).1, (ly_sh h 44 rfl).2, (ly_sh h 45 rfl).1, (ly_sh h 45 rfl).2, (ly_sh h 46 rfl).1, (ly_sh h 46 rfl).2, (ly_sh h 47 rfl).1, (ly_sh h 47 rfl).2, ly_rf h 51 rfl, ly_rf h 52 rfl, ly_rf h 53 rfl, ly_rf h 54 rfl, ly_rf h 55 rfl, ly_rf h 56 rfl⟩) (fun e => by subst e; exact ⟨(ly_sh h 122 rfl).1, (ly_sh h 123 rfl).1, (ly_sh h 123 rfl).2, (ly_sh h 124 rfl).1, (ly_sh h 124 rfl).2, (ly_sh h 125 rfl).1, (ly_sh h 125 rfl).2, (ly_sh h 126 rfl).1, (ly_sh h 126 rfl).2, (ly_sh h 127 rfl).1, (ly_sh h 127 rfl).2, (ly_sh h 128 rfl).1, (ly_sh h 128 rfl).2, ly_rf h 131 rfl, ly_rf h 132 rfl, ly_rf h 133 rfl, ly_rf h 134 rfl, ly_rf h 135 rfl, ly_rf h 136 rfl⟩)
  | 3, _ => exact hw.elim (fun e => by subst e; exact ⟨(ly_sh h 48 rfl).1, (ly_sh h 49 rfl).1, (ly_sh h 49 rfl).2, (ly_sh h 50 rfl).1, (ly_sh h 50 rfl).2, (ly_sh h 51 rfl).1, (ly_sh h 51 rfl).2, (ly_sh h 52 rfl).1, (ly_sh h 52 rfl).2, (ly_sh h 53 rfl).1, (ly_sh h 53 rfl).2, (ly_sh h 54 rfl).1, (ly_sh h 54 rfl).2, ly_rf h 57 rfl, ly_rf h 58 rfl, ly_rf h 59 rfl, ly_rf h 60 rfl, ly_rf h 61 rfl, ly_rf h 62 rfl⟩) (fun e => by subst e; exact ⟨(ly_sh h 129 rfl).1, (ly_sh h 130 rfl).1, (ly_sh h 130 rfl).2, (ly_sh h 131 rfl).1, (ly_sh h 131 rfl).2, (ly_sh h 132 rfl).1, (ly_sh h 132 rfl).2, (ly_sh h 133 rfl).1, (ly_sh h 133 rfl).2, (ly_sh h 134 rfl).1, (ly_sh h 134 rfl).2, (ly_sh h 135 rfl).1, (ly_sh h 135 rfl).2, ly_rf h 137 rfl, ly_rf h 138 rfl, ly_rf h 139 rfl, ly_rf h 140 rfl, ly_rf h 141 rfl, ly_rf h 142 rfl⟩)
  | 4, _ => exact hw.elim (fun e => by subst e; exact ⟨(ly_sh h 55 rfl).1, (ly_sh h 56 rfl).1, (ly_sh h 56 rfl).2, (ly_sh h 57 rfl).1, (ly_sh h 57 rfl).2, (ly_sh h 58 rfl).1, (ly_sh h 58 rfl).2, (ly_sh h 59 rfl).1, (ly_sh h 59 rfl).2, (ly_sh h 60 rfl).1, (ly_sh h 60 rfl).2, (ly_sh h 61 rfl).1, (ly_sh h 61 rfl).2, ly_rf h 63 rfl, ly_rf h 64 rfl, ly_rf h 65 rfl, ly_rf h 66 rfl, ly_rf h 67 rfl, ly_rf h 68 rfl⟩) (fun e => by subst e; exact ⟨(ly_sh h 136 rfl).1, (ly_sh h 137 rfl).1, (ly_sh h 137 rfl).2, (ly_sh h 138 rfl).1, (ly_sh h 138 rfl).2, (ly_sh h 139 rfl).1, (ly_sh h 139 rfl).2, (ly_sh h 140 rfl).1, (ly_sh h 140 rfl).2, (ly_sh h 141 rfl).1, (ly_sh h 141 rfl).2, (ly_sh h 142 rfl).1, (ly_sh h 142 rfl).2, ly_rf h 143 rfl, ly_rf h 144 rfl, ly_rf h 145 rfl, ly_rf h 146 rfl, ly_rf h 147 rfl, ly_rf h 148 rfl⟩)
  | 5, _ => exact hw.elim (fun e => by subst e; exact ⟨(ly_sh h 62 rfl).1, (ly_sh h 63 rfl).1, (ly_sh h 63 rfl).2, (ly_sh h 64 rfl).1, (ly_sh h 64 rfl).2, (ly_sh h 65 rfl).1, (ly_sh h 65 rfl).2, (ly_sh h 66 rfl).1, (ly_sh h 66 rfl).2, (ly_sh h 67 rfl).1, (ly_sh h 67 rfl).2, (ly_sh h 68 rfl).1, (ly_sh h 68 rfl).2, ly_rf h 69 rfl, ly_rf h 70 rfl, ly_rf h 71 rfl, ly_rf h 72 rfl, ly_rf h 73 rfl, ly_rf h 74 rfl⟩) (fun e => by subst e; exact ⟨(ly_sh h 143 rfl).1, (ly_sh h 144 rfl).1, (ly_sh h 144 rfl).2, (ly_sh h 145 rfl).1, (ly_sh h 145 rfl).2, (ly_sh h 146 rfl).1, (ly_sh h 146 rfl).2, (ly_sh h 147 rfl).1, (ly_sh h 147 rfl).2, (ly_sh h 148 rfl).1, (ly_sh h 148 rfl).2, (ly_sh h 149 rfl).1, (ly_sh h 149 rfl).2, ly_rf h 149 rfl, ly_rf h 150 rfl, ly_rf h 151 rfl, ly_rf h 152 rfl, ly_rf h 153 rfl, ly_rf h 154 rfl⟩)
  | 6, _ => exact hw.elim (fun e => by subst e; exact ⟨(ly_sh h 69 rfl).1, (ly_sh h 70 rfl).1, (ly_sh h 70 rfl).2, (ly_sh h 71 rfl).1, (ly_sh h 71 rfl).2, (ly_sh h 72 rfl).1, (ly_sh h 72 rfl).2, (ly_sh h 73 rfl).1, (ly_sh h 73 rfl).2, (ly_sh h 74 rfl).1, (ly_sh h 74 rfl).2, (ly_sh h 75 rfl).1, (ly_sh h 75 rfl).2, ly_rf h 75 rfl, ly_rf h 76 rfl, ly_rf h 77 rfl, ly_rf h 78 rfl, ly_rf h 79 rfl, ly_rf h 80 rfl⟩) (fun e => by subst e; exact ⟨(ly_sh h 150 rfl).1, (ly_sh h 151 rfl).1, (ly_sh h 151 rfl).2, (ly_sh h 152 rfl).1, (ly_sh h 152 rfl).2, (ly_sh h 153 rfl).1, (ly_sh h 153 rfl).2, (ly_sh h 154 rfl).1, (ly_sh h 154 rfl).2, (ly_sh h 155 rfl).1, (ly_sh h 155 rfl).2, (ly_sh h 156 rfl).1, (ly_sh h 156 rfl).2, ly_rf h 155 rfl, ly_rf h 156 rfl, ly_rf h 157 rfl, ly_rf h 158 rfl, ly_rf h 159 rfl, ly_rf h 160 rfl⟩)
  | 7, _ => exact hw.elim (fun e => by subst e; exact ⟨(ly_sh h 76 rfl).1, (ly_sh h 77 rfl).1, (ly_sh h 77 rfl).2, (ly_sh h 78 rfl).1, (ly_sh h 78 rfl).2, (ly_sh h 79 rfl).1, (ly_sh h 79 rfl).2, (ly_sh h 80 rfl).1, (ly_sh h 80 rfl).2, (ly_sh h 81 rfl).1, (ly_sh h 81 rfl).2, (ly_sh h 82 rfl).1, (ly_sh h 82 rfl).2, ly_rf h 81 rfl, ly_rf h 82 rfl, ly_rf h 83 rfl, ly_rf h 84 rfl, ly_rf h 85 rfl, ly_rf h 86 rfl⟩) (fun e => by subst e; exact ⟨(ly_sh h 157 rfl).1, (ly_sh h 158 rfl).1, (ly_sh h 158 rfl).2, (ly_sh h 159 rfl).1, (ly_sh h 159 rfl).2, (ly_sh h 160 rfl).1, (ly_sh h 160 rfl).2, (ly_sh h 161 rfl).1, (ly_sh h 161 rfl).2, (ly_sh h 162 rfl).1, (ly_sh h 162 rfl).2, (ly_sh h 163 rfl).1, (ly_sh h 163 rfl).2, ly_rf h 161 rfl, ly_rf h 162 rfl, ly_rf h 163 rfl, ly_rf h 164 rfl, ly_rf h 165 rfl, ly_rf h 166 rfl⟩)
def isTr (w : Nat) : Prop := ∃ s, s < 8 ∧ w = 173 + 13 * s
set_option maxRecDepth 100000 in
theorem lt_ {M : am_M} {w : Nat} (h : Lay M) (hw : isTr w) : mK M w = 18 ∧ mK M (w + 1) = 19 ∧ mK M (w + 2) = 1 ∧ mN M (w + 2) = 4 ∧ mK M (w + 3) = 5 ∧ mN M (w + 3) = 256 ∧ mK M (w + 4) = 2 ∧ mN M (w + 4) = 256 ∧ mK M (w + 5) = 1 ∧ mN M (w + 5) = 4 ∧ mK M (w + 6) = 11 ∧ mK M (w + 7) = 0 ∧ mN M (w + 7) = 48 ∧ mK M (w + 8) = 2 ∧ mN M (w + 8) = 48 ∧ mK M (w + 9) = 2 ∧ mN M (w + 9) = 48 ∧ mK M (w + 10) = 1 ∧ mN M (w + 10) = 192 ∧ mK M (w + 11) = 0 ∧ mN M (w + 11) = 48 ∧ mK M (w + 12) = 0 ∧ mN M (w + 12) = 48 ∧ mR M w 2 = some (w + 1) ∧ mR M w 3 = some (w + 6) ∧ mR M w 9 = some (w + 8) ∧ mR M w 10 = some (w + 9) ∧ mR M w 12 = some (w + 10) ∧ mR M w 15 = some (w + 11) ∧ mR M w 16 = some (w + 12) ∧ mR M (w + 1) 0 = some (w + 2) ∧ mR M (w + 1) 2 = some (w + 3) ∧ mR M (w + 1) 3 = some (w + 4) ∧ mR M (w + 1) 4 = some (w + 5) ∧ mR M (w + 6) 0 = some (w + 7) := by
  obtain ⟨s, hs, hw⟩ := hw
  match s, hs with
  | 0, _ => subst hw; exact ⟨(ly_sh h 173 rfl).1, (ly_sh h 174 rfl).1, (ly_sh h 175 rfl).1, (ly_sh h 175 rfl).2, (ly_sh h 176 rfl).1, (ly_sh h 176 rfl).2, (ly_sh h 177 rfl).1, (ly_sh h 177 rfl).2, (ly_sh h 178 rfl).1, (ly_sh h 178 rfl).2, (ly_sh h 179 rfl).1, (ly_sh h 180 rfl).1, (ly_sh h 180 rfl).2, (ly_sh h 181 rfl).1, (ly_sh h 181 rfl).2, (ly_sh h 182 rfl).1, (ly_sh h 182 rfl).2, (ly_sh h 183 rfl).1, (ly_sh h 183 rfl).2, (ly_sh h 184 rfl).1, (ly_sh h 184 rfl).2, (ly_sh h 185 rfl).1, (ly_sh h 185 rfl).2, ly_rf h 177 rfl, ly_rf h 178 rfl, ly_rf h 179 rfl, ly_rf h 180 rfl, ly_rf h 181 rfl, ly_rf h 182 rfl, ly_rf h 183 rfl, ly_rf h 184 rfl, ly_rf h 185 rfl, ly_rf h 186 rfl, ly_rf h 187 rfl, ly_rf h 188 rfl⟩
  | 1, _ => subst hw; exact ⟨(ly_sh h 186 rfl).1, (ly_sh h 187 rfl).1, (ly_sh h 188 rfl).1, (ly_sh h 188 rfl).2, (ly_sh h 189 rfl).1, (ly_sh h 189 rfl).2, (ly_sh h 190 rfl).1, (ly_sh h 190 rfl).2, (ly_sh h 191 rfl).1, (ly_sh h 191 rfl).2, (ly_sh h 192 rfl).1, (ly_sh h 193 rfl).1, (ly_sh h 193 rfl).2, (ly_sh h 194 rfl).1, (ly_sh h 194 rfl).2, (ly_sh h 195 rfl).1, (ly_sh h 195 rfl).2, (ly_sh h 196 rfl).1, (ly_sh h 196 rfl).2, (ly_sh h 197 rfl).1, (ly_sh h 197 rfl).2, (ly_sh h 198 rfl).1, (ly_sh h 198 rfl).2, ly_rf h 189 rfl, ly_rf h 190 rfl, ly_rf h 191 rfl, ly_rf h 192 rfl, ly_rf h 193 rfl, ly_rf h 194 rfl, ly_rf h 195 rfl, ly_rf h 196 rfl, ly_rf h 197 rfl, ly_rf h 198 rfl, ly_rf h 199 rfl, ly_rf h 200 rfl⟩
  | 2, _ => subst hw; exact ⟨(ly_sh h 199 rfl).1, (ly_sh h 200 rfl).1, (ly_sh h 201 rfl).1, (ly_sh h 201 rfl).2, (ly_sh h 202 rfl).1, (ly_sh h 202 rfl).2, (ly_sh h 203 rfl).1, (ly_sh h 203 rfl).2, (ly_sh h 204 rfl).1, (ly_sh h 204 rfl).2, (ly_sh h 205 rfl).1, (ly_sh h 206 rfl).1, (ly_sh h 206 rfl).2, (ly_sh h 207 rfl).1, (ly_sh h 207 rfl).2, (ly_sh h 208 rfl).1, (ly_sh h 208 rfl).2, (ly_sh h 209 rfl).1, (ly_sh h 209 rfl).2, (ly_sh h 210 rfl).1, (ly_sh h 210 rfl).2, (ly_sh h 211 rfl).1, (ly_sh h 211 rfl).2, ly_rf h 201 rfl, ly_rf h 202 rfl, ly_rf h 203 rfl, ly_rf h 204 rfl, ly_rf h 205 rfl, ly_rf h 206 rfl, ly_rf h 207 rfl, ly_rf h 208 rfl, ly_rf h 209 rfl, ly_rf h 210 rfl, ly_rf h 211 rfl, ly_rf h 212 rfl⟩
  | 3, _ => subst hw; exact ⟨(ly_sh h 212 rfl).1, (ly_sh h 213 rfl).1, (ly_sh h 214 rfl).1, (ly_sh h 214 rfl).2, (ly_sh h 215 rfl).1, (ly_sh h 215 rfl).2, (ly_sh h 216 rfl).1, (ly_sh h 216 rfl).2, (ly_sh h 217 rfl).1, (ly_sh h 217 rfl).2, (ly_sh h 218 rfl).1, (ly_sh h 219 rfl).1, (ly_sh h 219 rfl).2, (ly_sh h 220 rfl).1, (ly_sh h 220 rfl).2, (ly_sh h 221 rfl).1, (ly_sh h 221 rfl).2, (ly_sh h 222 rfl).1, (ly_sh h 222 rfl).2, (ly_sh h 223 rfl).1, (ly_sh h 223 rfl).2, (ly_sh h 224 rfl).1, (ly_sh h 224 rfl).2, ly_rf h 213 rfl, ly_rf h 214 rfl, ly_rf h 215 rfl, ly_rf h 216 rfl, ly_rf h 217 rfl, ly_rf h 218 rfl, ly_rf h 219 rfl, ly_rf h 220 rfl, ly_rf h 221 rfl, ly_rf h 222 rfl, ly_rf h 223 rfl, ly_rf h 224 rfl⟩
  | 4, _ => subst hw; exact ⟨(ly_sh h 225 rfl).1, (ly_sh h 226 rfl).1, (ly_sh h 227 rfl).1, (ly_sh h 227 rfl).2, (ly_sh h 228 rfl).1, (ly_sh h 228 rfl).2, (ly_sh h 229 rfl).1, (ly_sh h 229 rfl).2, (ly_sh h 230 rfl).1, (ly_sh h 230 rfl).2, (ly_sh h 231 rfl).1, (ly_sh h 232 rfl).1, (ly_sh h 232 rfl).2, (ly_sh h 233 rfl).1, (ly_sh h 233 rfl).2, (ly_sh h 234 rfl).1, (ly_sh h 234 rfl).2, (ly_sh h 235 rfl).1, (ly_sh h 235 rfl).2, (ly_sh h 236 rfl).1, (ly_sh h 236 rfl).2, (ly_sh h 237 rfl).1, (ly_sh h 237 rfl).2, ly_rf h 225 rfl, ly_rf h 226 rfl, ly_rf h 227 rfl, ly_rf h 228 rfl, ly_rf h 229 rfl, ly_rf h 230 rfl, ly_rf h 231 rfl, ly_rf h 232 rfl, ly_rf h 233 rfl, ly_rf h 234 rfl, ly_rf h 235 rfl, ly_rf h 236 rfl⟩
  | 5, _ => subst hw; exact ⟨(ly_sh h 238 rfl).1, (ly_sh h 239 rfl).1, (ly_sh h 240 rfl).1, (ly_sh h 240 rfl).2, (ly_sh h 241 rfl).1, (ly_sh h 241 rfl).2, (ly_sh h 242 rfl).1, (ly_sh h 242 rfl).2, (ly_sh h 243 rfl).1, (ly_sh h 243 rfl).2, (ly_sh h 244 rfl).1, (ly_sh h 245 rfl).1, (ly_sh h 245 rfl).2, (ly_sh h 246 rfl).1, (ly_sh h 246 rfl).2, (ly_sh h 247 rfl).1, (ly_sh h 247 rfl).2, (ly_sh h 248 rfl).1, (ly_sh h 248 rfl).2, (ly_sh h 249 rfl).1, (ly_sh h 249 rfl).2, (ly_sh h 250 rfl).1, (ly_sh h 250 rfl).2, ly_rf h 237 rfl, ly_rf h 238 rfl, ly_rf h 239 rfl, ly_rf h 240 rfl, ly_rf h 241 rfl, ly_rf h 242 rfl, ly_rf h 243 rfl, ly_rf h 244 rfl, ly_rf h 245 rfl, ly_rf h 246 rfl, ly_rf h 247 rfl, ly_rf h 248 rfl⟩
  | 6, _ => subst hw; exact ⟨(ly_sh h 251 rfl).1, (ly_sh h 252 rfl).1, (ly_sh h 253 rfl).1, (ly_sh h 253 rfl).2, (ly_sh h 254 rfl).1, (ly_sh h 254 rfl).2, (ly_sh h 255 rfl).1, (ly_sh h 255 rfl).2, (ly_sh h 256 rfl).1, (ly_sh h 256 rfl).2, (ly_sh h 257 rfl).1, (ly_sh h 258 rfl).1, (ly_sh h 258 rfl).2, (ly_sh h 259 rfl).1, (ly_sh h 259 rfl).2, (ly_sh h 260 rfl).1, (ly_sh h 260 rfl).2, (ly_sh h 261 rfl).1, (ly_sh h 261 rfl).2, (ly_sh h 262 rfl).1, (ly_sh h 262 rfl).2, (ly_sh h 263 rfl).1, (ly_sh h 263 rfl).2, ly_rf h 249 rfl, ly_rf h 250 rfl, ly_rf h 251 rfl, ly_rf h 252 rfl, ly_rf h 253 rfl, ly_rf h 254 rfl, ly_rf h 255 rfl, ly_rf h 256 rfl, ly_rf h 257 rfl, ly_rf h 258 rfl, ly_rf h 259 rfl, ly_rf h 260 rfl⟩
  | 7, _ => subst hw; exact ⟨(ly_sh h 264 rfl).1, (ly_sh h 265 rfl).1, (ly_sh h 266 rfl).1, (ly_sh h 266 rfl).2, (ly_sh h 267 rfl).1, (ly_sh h 267 rfl).2, (ly_sh h 268 rfl).1, (ly_sh h 268 rfl).2, (ly_sh h 269 rfl).1, (ly_sh h 269 rfl).2, (ly_sh h 270 rfl).1, (ly_sh h 271 rfl).1, (ly_sh h 271 rfl).2, (ly_sh h 272 rfl).1, (ly_sh h 272 rfl).2, (ly_sh h 273 rfl).1, (ly_sh h 273 rfl).2, (ly_sh h 274 rfl).1, (ly_sh h 274 rfl).2, (ly_sh h 275 rfl).1, (ly_sh h 275 rfl).2, (ly_sh h 276 rfl).1, (ly_sh h 276 rfl).2, ly_rf h 261 rfl, ly_rf h 262 rfl, ly_rf h 263 rfl, ly_rf h 264 rfl, ly_rf h 265 rfl, ly_rf h 266 rfl, ly_rf h 267 rfl, ly_rf h 268 rfl, ly_rf h 269 rfl, ly_rf h 270 rfl, ly_rf h 271 rfl, ly_rf h 272 rfl⟩
theorem lsh {M : am_M} {z s : Nat} (h : Lay M) (hz : z = 2 ∨ z = 83) (hs : s < 8) : mR M (z + 1) s = some (z + 25 + 7 * s) := by
  match s, hs with
  | 0, _ => exact hz.elim (fun e => by subst e; exact ly_rf h 17 rfl) (fun e => by subst e; exact ly_rf h 97 rfl)
  | 1, _ => exact hz.elim (fun e => by subst e; exact ly_rf h 18 rfl) (fun e => by subst e; exact ly_rf h 98 rfl)
  | 2, _ => exact hz.elim (fun e => by subst e; exact ly_rf h 19 rfl) (fun e => by subst e; exact ly_rf h 99 rfl)
  | 3, _ => exact hz.elim (fun e => by subst e; exact ly_rf h 20 rfl) (fun e => by subst e; exact ly_rf h 100 rfl)
  | 4, _ => exact hz.elim (fun e => by subst e; exact ly_rf h 21 rfl) (fun e => by subst e; exact ly_rf h 101 rfl)
  | 5, _ => exact hz.elim (fun e => by subst e; exact ly_rf h 22 rfl) (fun e => by subst e; exact ly_rf h 102 rfl)
  | 6, _ => exact hz.elim (fun e => by subst e; exact ly_rf h 23 rfl) (fun e => by subst e; exact ly_rf h 103 rfl)
  | 7, _ => exact hz.elim (fun e => by subst e; exact ly_rf h 24 rfl) (fun e => by subst e; exact ly_rf h 104 rfl)
theorem ltr {M : am_M} {s : Nat} (h : Lay M) (hs : s < 8) : mR M 168 s = some (173 + 13 * s) := by
  match s, hs with
  | 0, _ => exact ly_rf h 169 rfl
  | 1, _ => exact ly_rf h 170 rfl
  | 2, _ => exact ly_rf h 171 rfl
  | 3, _ => exact ly_rf h 172 rfl
  | 4, _ => exact ly_rf h 173 rfl
  | 5, _ => exact ly_rf h 174 rfl
  | 6, _ => exact ly_rf h 175 rfl
  | 7, _ => exact ly_rf h 176 rfl
end
section
/-! numbers: Int32 as small naturals; memories that agree -/
theorem ni_ti {n : Nat} (h : n < 2147483648) : (nI n).toInt = (n : Int) := by
  unfold nI
  rw [Int32.toInt_ofNat']
  have e : (Int32.size : Nat) = 4294967296 := rfl
  rw [e]
  simp only [Int.bmod]
  omega
theorem ni_tn {n : Nat} (h : n < 2147483648) : (nI n).toInt.toNat = n := by rw [ni_ti h]; omega
theorem ni_add (a b : Nat) : nI a + nI b = nI (a + b) := by unfold nI; rw [Int32.ofNat_add]
theorem ni_mul (a b : Nat) : nI a * nI b = nI (a * b) := by unfold nI; rw [Int32.ofNat_mul]
theorem ni_sub {a b : Nat} (h : b ≤ a) : nI a - nI b = nI (a - b) := by
  have e : nI a = nI (a - b) + nI b := by rw [ni_add]; congr 1; omega
  rw [e, Int32.add_sub_cancel]
theorem ni_lt {a b : Nat} (ha : a < 2147483648) (hb : b < 2147483648) : nI a < nI b ↔ a < b := by
  rw [Int32.lt_iff_toInt_lt, ni_ti ha, ni_ti hb]; omega
theorem ni_le {a b : Nat} (ha : a < 2147483648) (hb : b < 2147483648) : nI a ≤ nI b ↔ a ≤ b := by
  rw [Int32.le_iff_toInt_le, ni_ti ha, ni_ti hb]; omega
theorem ni_eq {a b : Nat} (ha : a < 2147483648) (hb : b < 2147483648) : nI a = nI b ↔ a = b := by
  rw [← Int32.toInt_inj, ni_ti ha, ni_ti hb]; omega
theorem ni_in {n N : Nat} (h : n < 2147483648) : am_in (nI n) N ↔ n < N := by
  show (0 ≤ (nI n).toInt ∧ (nI n).toInt < (N : Int)) ↔ _
  rw [ni_ti h]; omega
theorem am_in_of {i : Int32} {N n : Nat} (e : i = nI n) (h : n < N) (hN : N ≤ 2147483648) : am_in i N := by rw [e, ni_in (by omega)]; exact h
theorem am_ext {M M' : am_M} (h1 : ∀ a j, mI M a j = mI M' a j) (h2 : ∀ a j, mL M a j = mL M' a j) (h3 : ∀ a j, mR M a j = mR M' a j) (h4 : mS M = mS M') : M = M' := by
  obtain ⟨f, g, r, s⟩ := M
  obtain ⟨f', g', r', s'⟩ := M'
  have e1 : f = f' := funext fun a => funext fun j => h1 a j
  have e2 : g = g' := funext fun a => funext fun j => h2 a j
  have e3 : r = r' := funext fun a => funext fun j => h3 a j
  have e4 : s = s' := h4
  rw [e1, e2, e3, e4]
/-- four bytes of v into the cell t from n on; the field f of the cell o counts them -/
def put4 (M : am_M) (t o f n : Nat) (v : Int32) : am_M := uI (uI (uI (uI (uI M t n (v >>> 24 &&& 255)) t (n + 1) (v >>> 16 &&& 255)) t (n + 2) (v >>> 8 &&& 255)) t (n + 3) (v >>> 0 &&& 255)) o f (nI (n + 4))
theorem ni_in_t {n N : Nat} (h : n < 2147483648) (h2 : n < N) : am_in (nI n) N = True := eq_true ((ni_in h).mpr h2)
theorem ni_add1 (n : Nat) : nI n + 1 = nI (n + 1) := ni_add n 1
theorem ni_lt_t {a b : Nat} (ha : a < 2147483648) (hb : b < 2147483648) (h : a < b) : (nI a < nI b) = True := eq_true ((ni_lt ha hb).mpr h)
theorem ni_lt_f {a b : Nat} (ha : a < 2147483648) (hb : b < 2147483648) (h : b ≤ a) : (nI a < nI b) = False := eq_false (fun q => by rw [ni_lt ha hb] at q; omega)
theorem ni_le_t {a b : Nat} (ha : a < 2147483648) (hb : b < 2147483648) (h : a ≤ b) : (nI a ≤ nI b) = True := eq_true ((ni_le ha hb).mpr h)
theorem ni_le_f {a b : Nat} (ha : a < 2147483648) (hb : b < 2147483648) (h : b < a) : (nI a ≤ nI b) = False := eq_false (fun q => by rw [ni_le ha hb] at q; omega)
/-- a number written out -/
theorem ni_0 : (0 : Int32) = nI 0 := rfl
theorem ni_1 : (1 : Int32) = nI 1 := rfl
theorem put4_I (M : am_M) (t o f n : Nat) (v : Int32) (a j : Nat) : mI (put4 M t o f n v) a j = if a = o ∧ j = f then nI (n + 4) else if a = t ∧ j = n + 3 then v >>> 0 &&& 255 else if a = t ∧ j = n + 2 then v >>> 8 &&& 255 else if a = t ∧ j = n + 1 then v >>> 16 &&& 255 else if a = t ∧ j = n then v >>> 24 &&& 255 else mI M a j := rfl
theorem br_p {c A B : Prop} (h : c) : ((c → A) ∧ (¬ c → B)) ↔ A := ⟨fun q => q.1 h, fun a => ⟨fun _ => a, fun n => absurd h n⟩⟩
theorem br_n {c A B : Prop} (h : ¬ c) : ((c → A) ∧ (¬ c → B)) ↔ B := ⟨fun q => q.2 h, fun b => ⟨fun n => absurd n h, fun _ => b⟩⟩
theorem br_q {c A B : Prop} (h : ¬ c) : ((¬ c → A) ∧ (¬ ¬ c → B)) ↔ A := ⟨fun q => q.1 h, fun b => ⟨fun _ => b, fun n => absurd h n⟩⟩
theorem br_r {c A B : Prop} (h : c) : ((¬ c → A) ∧ (¬ ¬ c → B)) ↔ B := ⟨fun q => q.2 (fun n => n h), fun b => ⟨fun n => absurd h n, fun _ => b⟩⟩
theorem z32 : (0 : Int32).toInt = 0 := rfl
theorem lt32 {a b : Int32} : a < b ↔ a.toInt < b.toInt := Int32.lt_iff_toInt_lt
theorem le32 {a b : Int32} : a ≤ b ↔ a.toInt ≤ b.toInt := Int32.le_iff_toInt_le
end
section
/-! the model's small methods -/
theorem c_m_put (d : Nat) (v : Int32) (M : am_M) (Q : Option Value → am_M → Prop) (h : Lay M) (n : Nat) (hn : mI M 277 1 = nI n) (hb : n + 4 ≤ 1800) : am_E am_P0 d 168 [.ref 277, .int v] M Q ↔ Q none (put4 M 278 277 1 n v) := by
  rw [eX11_put]
  simp only [qX11_put, am_w1_i, am_w1_r, am_w1_x, am_w1_l, am_w1_w, va_rf_s, am_push_n, am_push_s, am_cs_0, am_cs_i, am_cs_l, am_cs_r, m_uI_K, m_uI_N, m_uI_R, m_uI_L, m_uI_I, m_uL_K, m_uL_N, m_uL_R, m_uL_I, m_uL_L, m_uR_K, m_uR_N, m_uR_I, m_uR_L, m_uR_R, true_and, and_true]
  rw [hX11_put_3]
  simp +decide (disch := omega) only [qX11_put, lm h, hn, ni_in_t, ni_tn, ni_add1, am_w1_i, am_w1_r, am_w1_x, am_w1_l, am_w1_w, va_rf_s, am_push_n, am_push_s, am_cs_0, am_cs_i, am_cs_l, am_cs_r, m_uI_K, m_uI_N, m_uI_R, m_uI_L, m_uI_I, m_uL_K, m_uL_N, m_uL_R, m_uL_I, m_uL_L, m_uR_K, m_uR_N, m_uR_I, m_uR_L, m_uR_R, true_and, and_true, false_and, if_false, if_true, false_implies, true_implies, not_true_eq_false, not_false_eq_true]
  rw [hX11_put_3]
  simp +decide (disch := omega) only [qX11_put, lm h, hn, ni_in_t, ni_tn, ni_add1, am_w1_i, am_w1_r, am_w1_x, am_w1_l, am_w1_w, va_rf_s, am_push_n, am_push_s, am_cs_0, am_cs_i, am_cs_l, am_cs_r, m_uI_K, m_uI_N, m_uI_R, m_uI_L, m_uI_I, m_uL_K, m_uL_N, m_uL_R, m_uL_I, m_uL_L, m_uR_K, m_uR_N, m_uR_I, m_uR_L, m_uR_R, true_and, and_true, false_and, if_false, if_true, false_implies, true_implies, not_true_eq_false, not_false_eq_true]
  rw [hX11_put_3]
  simp +decide (disch := omega) only [qX11_put, lm h, hn, ni_in_t, ni_tn, ni_add1, am_w1_i, am_w1_r, am_w1_x, am_w1_l, am_w1_w, va_rf_s, am_push_n, am_push_s, am_cs_0, am_cs_i, am_cs_l, am_cs_r, m_uI_K, m_uI_N, m_uI_R, m_uI_L, m_uI_I, m_uL_K, m_uL_N, m_uL_R, m_uL_I, m_uL_L, m_uR_K, m_uR_N, m_uR_I, m_uR_L, m_uR_R, true_and, and_true, false_and, if_false, if_true, false_implies, true_implies, not_true_eq_false, not_false_eq_true]
  rw [hX11_put_3]
  simp +decide (disch := omega) only [qX11_put, lm h, hn, ni_in_t, ni_tn, ni_add1, am_w1_i, am_w1_r, am_w1_x, am_w1_l, am_w1_w, va_rf_s, am_push_n, am_push_s, am_cs_0, am_cs_i, am_cs_l, am_cs_r, m_uI_K, m_uI_N, m_uI_R, m_uI_L, m_uI_I, m_uL_K, m_uL_N, m_uL_R, m_uL_I, m_uL_L, m_uR_K, m_uR_N, m_uR_I, m_uR_L, m_uR_R, true_and, and_true, false_and, if_false, if_true, false_implies, true_implies, not_true_eq_false, not_false_eq_true]
  rw [hX11_put_3]
  simp +decide (disch := omega) only [qX11_put, lm h, hn, ni_in_t, ni_tn, ni_add1, am_w1_i, am_w1_r, am_w1_x, am_w1_l, am_w1_w, va_rf_s, am_push_n, am_push_s, am_cs_0, am_cs_i, am_cs_l, am_cs_r, m_uI_K, m_uI_N, m_uI_R, m_uI_L, m_uI_I, m_uL_K, m_uL_N, m_uL_R, m_uL_I, m_uL_L, m_uR_K, m_uR_N, m_uR_I, m_uR_L, m_uR_R, true_and, and_true, false_and, if_false, if_true, false_implies, true_implies, not_true_eq_false, not_false_eq_true]
  have e : ∀ M' : am_M, M' = put4 M 278 277 1 n v → (Q none M' ↔ Q none (put4 M 278 277 1 n v)) := fun M' e => by rw [e]
  apply e
  refine am_ext (fun a j => ?_) (fun a j => rfl) (fun a j => rfl) rfl
  simp only [put4_I, m_uI_I]
  have k0 : (24 : Int32) &&& 31 = 24 := by decide
  have k1 : (24 : Int32) + -8 &&& 31 = 16 := by decide
  have k2 : (24 : Int32) + -8 + -8 &&& 31 = 8 := by decide
  have k3 : (24 : Int32) + -8 + -8 + -8 &&& 31 = 0 := by decide
  simp only [k0, k1, k2, k3]
  by_cases h1 : a = 277 ∧ j = 1
  · simp [h1]
  · simp [h1]
end
section
theorem c_m_is (d : Nat) (v lo hi : Int32) (M : am_M) (Q : Option Value → am_M → Prop) : am_E am_P0 d 167 [.int v, .int lo, .int hi] M Q ↔ Q (some (.int (bI (lo ≤ v ∧ v ≤ hi)))) M := by
  rw [eX11_is]
  simp only [qX11_is, am_w1_i, am_w1_r, am_w1_x, am_w1_l, am_w1_w, va_rf_s, am_push_n, am_push_s, am_cs_0, am_cs_i, am_cs_l, am_cs_r, m_uI_K, m_uI_N, m_uI_R, m_uI_L, m_uI_I, m_uL_K, m_uL_N, m_uL_R, m_uL_I, m_uL_L, m_uR_K, m_uR_N, m_uR_I, m_uR_L, m_uR_R, true_and, and_true]
  by_cases h1 : v < lo
  · have h2 : ¬ (lo ≤ v ∧ v ≤ hi) := fun q => absurd q.1 (Int32.not_le.mpr h1)
    simp [h1, bI_f h2]
  · by_cases h3 : hi < v
    · have h2 : ¬ (lo ≤ v ∧ v ≤ hi) := fun q => absurd q.2 (Int32.not_le.mpr h3)
      simp [h1, h3, bI_f h2]
    · have h2 : lo ≤ v ∧ v ≤ hi := ⟨Int32.not_lt.mp h1, Int32.not_lt.mp h3⟩
      simp [h1, h3, bI_t h2]
theorem c_m_refuses (d : Nat) (k : Nat) (hk : k < 5) (M : am_M) (Q : Option Value → am_M → Prop) (h : Lay M) : am_E am_P0 d 208 [.ref 277, .int (nI k)] M Q ↔ Q (some (.int (-1))) (uI M 312 k (mI M 312 k + 1)) := by
  rw [eX11_refuses]
  simp (disch := omega) only [qX11_refuses, lm h, ni_in_t, ni_tn, am_w1_i, am_w1_r, am_w1_x, am_w1_l, am_w1_w, va_rf_s, am_push_n, am_push_s, am_cs_0, am_cs_i, am_cs_l, am_cs_r, m_uI_K, m_uI_N, m_uI_R, m_uI_L, m_uI_I, m_uL_K, m_uL_N, m_uL_R, m_uL_I, m_uL_L, m_uR_K, m_uR_N, m_uR_I, m_uR_L, m_uR_R, true_and, and_true]
theorem c_m_status (d : Nat) (k : Int32) (M : am_M) (Q : Option Value → am_M → Prop) (h : Lay M) : am_E am_P0 (d + 1) 209 [.ref 277, .int k] M Q ↔ Q (some (.int (if 0 ≤ k ∧ k ≤ 4 then mI M 312 k.toInt.toNat else -1))) M := by
  rw [eX11_status]
  simp +decide only [qX11_status, c_m_is, lm h, am_w1_i, am_w1_r, am_w1_x, am_w1_l, am_w1_w, va_rf_s, am_push_n, am_push_s, am_cs_0, am_cs_i, am_cs_l, am_cs_r, m_uI_K, m_uI_N, m_uI_R, m_uI_L, m_uI_I, m_uL_K, m_uL_N, m_uL_R, m_uL_I, m_uL_L, m_uR_K, m_uR_N, m_uR_I, m_uR_L, m_uR_R, true_and, and_true, bI_0]
  by_cases hk : 0 ≤ k ∧ k ≤ 4
  · have h1 : am_in k 5 := by
      have a1 := Int32.le_iff_toInt_le.mp hk.1
      have a2 := Int32.le_iff_toInt_le.mp hk.2
      simp at a1 a2
      exact ⟨a1, by show k.toInt < 5; have : (4 : Int32).toInt = 4 := rfl
                    omega⟩
    simp only [hk, if_true, eq_true h1, true_and, not_true_eq_false, false_implies, true_implies, not_false_eq_true, and_true]
  · simp only [hk, if_false, not_false_eq_true, true_implies, not_true_eq_false, false_implies, true_and, and_true]
theorem c_m_fault (d : Nat) (k : Int32) (M : am_M) (Q : Option Value → am_M → Prop) (h : Lay M) : am_E am_P0 (d + 1) 207 [.ref 277, .int k] M Q ↔ Q (some (.int (if k = 0 then mI M 277 10 else if k = 1 then mI M 277 11 else -1))) M := by
  rw [eX11_fault]
  simp +decide only [qX11_fault, lm h, am_w1_i, am_w1_r, am_w1_x, am_w1_l, am_w1_w, va_rf_s, am_push_n, am_push_s, am_cs_0, am_cs_i, am_cs_l, am_cs_r, m_uI_K, m_uI_N, m_uI_R, m_uI_L, m_uI_I, m_uL_K, m_uL_N, m_uL_R, m_uL_I, m_uL_L, m_uR_K, m_uR_N, m_uR_I, m_uR_L, m_uR_R, true_and, and_true]
  by_cases h0 : k = 0
  · simp [h0]
  · by_cases h1 : k = 1
    · simp [h1]
    · simp [h0, h1]
theorem c_m_octet (d : Nat) (k : Int32) (M : am_M) (Q : Option Value → am_M → Prop) (h : Lay M) (n : Nat) (hn : mI M 277 82 = nI n) (hb : n ≤ 520) : am_E am_P0 d 300 [.ref 277, .int k] M Q ↔ Q (some (.int (if 0 ≤ k.toInt ∧ k.toInt < n then mI M 335 k.toInt.toNat else -1))) M := by
  rw [eX11_octet]
  simp +decide only [qX11_octet, lm h, hn, am_w1_i, am_w1_r, am_w1_x, am_w1_l, am_w1_w, va_rf_s, am_push_n, am_push_s, am_cs_0, am_cs_i, am_cs_l, am_cs_r, m_uI_K, m_uI_N, m_uI_R, m_uI_L, m_uI_I, m_uL_K, m_uL_N, m_uL_R, m_uL_I, m_uL_L, m_uR_K, m_uR_N, m_uR_I, m_uR_L, m_uR_R, true_and, and_true]
  rw [Int32.lt_iff_toInt_lt, Int32.le_iff_toInt_le, ni_ti (by omega)]
  have z : (0 : Int32).toInt = 0 := rfl
  rw [z]
  by_cases h0 : k.toInt < 0
  · have : ¬ (0 ≤ k.toInt ∧ k.toInt < n) := by omega
    simp [h0, this]
  · by_cases h1 : (n : Int) ≤ k.toInt
    · have : ¬ (0 ≤ k.toInt ∧ k.toInt < n) := by omega
      simp [h0, h1, this]
    · have h2 : 0 ≤ k.toInt ∧ k.toInt < n := by omega
      have h3 : am_in k 520 := ⟨h2.1, by show k.toInt < 520; omega⟩
      rw [br_n h0, br_n h1, if_pos h2]
      simp only [eq_true h3, true_and]
theorem c_m_end (d : Nat) (k : Int32) (M : am_M) (Q : Option Value → am_M → Prop) (h : Lay M) (n : Nat) (hn : mI M 277 1 = nI n) : am_E am_P0 (d + 1) 170 [.ref 277, .int k] M Q ↔ if k < 0 ∨ nI n < k then Q (some (.int 0)) (uI M 312 0 (mI M 312 0 + 1)) else Q (some (.int 1)) (uI M 277 1 k) := by
  rw [eX11_end]
  have hr := fun Q => c_m_refuses d 0 (by omega) M Q h
  rw [← ni_0] at hr
  simp +decide (disch := omega) only [qX11_end, lm h, hn, hr, am_w1_i, am_w1_r, am_w1_x, am_w1_l, am_w1_w, va_rf_s, am_push_n, am_push_s, am_cs_0, am_cs_i, am_cs_l, am_cs_r, m_uI_K, m_uI_N, m_uI_R, m_uI_L, m_uI_I, m_uL_K, m_uL_N, m_uL_R, m_uL_I, m_uL_L, m_uR_K, m_uR_N, m_uR_I, m_uR_L, m_uR_R, true_and, and_true]
  by_cases h0 : k < 0
  · rw [br_p h0, if_pos (Or.inl h0)]
    simp +decide only [true_implies, false_implies, and_true, true_and]
  · by_cases h1 : nI n < k
    · rw [br_n h0, if_pos (Or.inr h1)]
      have h2 : ¬ k ≤ nI n := Int32.not_le.mpr h1
      rw [br_n h2]
      simp +decide only [true_implies, false_implies, and_true, true_and]
    · have h2 : k ≤ nI n := Int32.not_lt.mp h1
      rw [br_n h0, br_p h2, if_neg (by rintro (q | q); exact h0 q; exact h1 q)]
/-- five times four bytes -/
def feed5 (M : am_M) (t o f n : Nat) (a b c d e : Int32) : am_M := put4 (put4 (put4 (put4 (put4 M t o f n a) t o f (n + 4) b) t o f (n + 8) c) t o f (n + 12) d) t o f (n + 16) e
theorem put4_L (M : am_M) (t o f n : Nat) (v : Int32) : Lay (put4 M t o f n v) = Lay M := rfl
theorem put4_n (M : am_M) (t o f n : Nat) (v : Int32) : mI (put4 M t o f n v) o f = nI (n + 4) := by rw [put4_I, if_pos ⟨rfl, rfl⟩]
theorem c_m_feed (d : Nat) (a b c e f : Int32) (M : am_M) (Q : Option Value → am_M → Prop) (h : Lay M) (n : Nat) (hn : mI M 277 1 = nI n) (hb : n ≤ 1800) : am_E am_P0 (d + 1) 169 [.ref 277, .int a, .int b, .int c, .int e, .int f] M Q ↔ if n + 20 ≤ 1800 then Q (some (.int (nI (n + 20)))) (feed5 M 278 277 1 n a b c e f) else Q (some (.int (-1))) (uI M 312 0 (mI M 312 0 + 1)) := by
  rw [eX11_feed]
  have hr := fun Q => c_m_refuses d 0 (by omega) M Q h
  rw [← ni_0] at hr
  have e20 : nI n + 20 = nI (n + 20) := ni_add n 20
  have ek : (1800 : Int32) = nI 1800 := rfl
  simp +decide only [qX11_feed, lm h, hn, hr, e20, am_w1_i, am_w1_r, am_w1_x, am_w1_l, am_w1_w, va_rf_s, am_push_n, am_push_s, am_cs_0, am_cs_i, am_cs_l, am_cs_r, m_uI_K, m_uI_N, m_uI_R, m_uI_L, m_uI_I, m_uL_K, m_uL_N, m_uL_R, m_uL_I, m_uL_L, m_uR_K, m_uR_N, m_uR_I, m_uR_L, m_uR_R, true_and, and_true]
  rw [ek]
  by_cases h1 : n + 20 ≤ 1800
  · have h2 : nI (n + 20) ≤ nI 1800 := (ni_le (by omega) (by omega)).mpr h1
    rw [br_p h2, if_pos h1]
    have L1 : Lay (put4 M 278 277 1 n a) := h
    have L2 : Lay (put4 (put4 M 278 277 1 n a) 278 277 1 (n + 4) b) := h
    have L3 : Lay (put4 (put4 (put4 M 278 277 1 n a) 278 277 1 (n + 4) b) 278 277 1 (n + 8) c) := h
    have L4 : Lay (put4 (put4 (put4 (put4 M 278 277 1 n a) 278 277 1 (n + 4) b) 278 277 1 (n + 8) c) 278 277 1 (n + 12) e) := h
    have L5 : Lay (put4 (put4 (put4 (put4 (put4 M 278 277 1 n a) 278 277 1 (n + 4) b) 278 277 1 (n + 8) c) 278 277 1 (n + 12) e) 278 277 1 (n + 16) f) := h
    rw [c_m_put d a M _ h n hn (by omega)]
    simp +decide only [lm L1, am_w1_i, am_w1_r, am_w1_x, am_w1_l, am_w1_w, va_rf_s, am_push_n, am_push_s, am_cs_0, am_cs_i, am_cs_l, am_cs_r, m_uI_K, m_uI_N, m_uI_R, m_uI_L, m_uI_I, m_uL_K, m_uL_N, m_uL_R, m_uL_I, m_uL_L, m_uR_K, m_uR_N, m_uR_I, m_uR_L, m_uR_R, true_and, and_true]
    rw [c_m_put d b _ _ L1 (n + 4) (put4_n _ _ _ _ _ _) (by omega)]
    simp +decide only [lm L2, am_w1_i, am_w1_r, am_w1_x, am_w1_l, am_w1_w, va_rf_s, am_push_n, am_push_s, am_cs_0, am_cs_i, am_cs_l, am_cs_r, m_uI_K, m_uI_N, m_uI_R, m_uI_L, m_uI_I, m_uL_K, m_uL_N, m_uL_R, m_uL_I, m_uL_L, m_uR_K, m_uR_N, m_uR_I, m_uR_L, m_uR_R, true_and, and_true]
    rw [c_m_put d c _ _ L2 (n + 8) (put4_n _ _ _ _ _ _) (by omega)]
    simp +decide only [lm L3, am_w1_i, am_w1_r, am_w1_x, am_w1_l, am_w1_w, va_rf_s, am_push_n, am_push_s, am_cs_0, am_cs_i, am_cs_l, am_cs_r, m_uI_K, m_uI_N, m_uI_R, m_uI_L, m_uI_I, m_uL_K, m_uL_N, m_uL_R, m_uL_I, m_uL_L, m_uR_K, m_uR_N, m_uR_I, m_uR_L, m_uR_R, true_and, and_true]
    rw [c_m_put d e _ _ L3 (n + 12) (put4_n _ _ _ _ _ _) (by omega)]
    simp +decide only [lm L4, am_w1_i, am_w1_r, am_w1_x, am_w1_l, am_w1_w, va_rf_s, am_push_n, am_push_s, am_cs_0, am_cs_i, am_cs_l, am_cs_r, m_uI_K, m_uI_N, m_uI_R, m_uI_L, m_uI_I, m_uL_K, m_uL_N, m_uL_R, m_uL_I, m_uL_L, m_uR_K, m_uR_N, m_uR_I, m_uR_L, m_uR_R, true_and, and_true]
    rw [c_m_put d f _ _ L4 (n + 16) (put4_n _ _ _ _ _ _) (by omega)]
    simp +decide only [qX11_feed, lm L5, am_w1_i, am_w1_r, am_w1_x, am_w1_l, am_w1_w, va_rf_s, am_push_n, am_push_s, am_cs_0, am_cs_i, am_cs_l, am_cs_r, m_uI_K, m_uI_N, m_uI_R, m_uI_L, m_uI_I, m_uL_K, m_uL_N, m_uL_R, m_uL_I, m_uL_L, m_uR_K, m_uR_N, m_uR_I, m_uR_L, m_uR_R, true_and, and_true]
    rw [show mI (put4 (put4 (put4 (put4 (put4 M 278 277 1 n a) 278 277 1 (n + 4) b) 278 277 1 (n + 8) c) 278 277 1 (n + 12) e) 278 277 1 (n + 16) f) 277 1 = nI (n + 20) from put4_n _ _ _ _ _ _]
    rfl
  · have h2 : ¬ nI (n + 20) ≤ nI 1800 := fun q => h1 ((ni_le (by omega) (by omega)).mp q)
    rw [br_n h2, if_neg h1]
end
section
/-! the tape: the class's side -/
theorem b255 {i : Nat} (hi : i < 32) : (255#32).getLsbD i = decide (i < 8) := by
  show (BitVec.ofNat 32 (2 ^ 8 - 1)).getLsbD i = _
  rw [BitVec.getLsbD_ofNat, Nat.testBit_two_pow_sub_one]
  simp [hi]
theorem sh_bit (v : Int32) (k : Nat) (hk : k = 24 ∨ k = 16 ∨ k = 8 ∨ k = 0) : ((v.toUInt32 >>> (Int32.ofNat k).toUInt32).toInt32 &&& 255) = (v >>> Int32.ofNat k &&& 255) := by
  apply Int32.toBitVec_inj.mp
  apply BitVec.eq_of_getLsbD_eq
  intro i hi
  have hs : ((BitVec.ofNat 32 k).smod 32#32).toNat = k := by rcases hk with rfl | rfl | rfl | rfl <;> decide
  have hk2 : k ≤ 24 := by omega
  simp
  rw [hs, b255 hi, BitVec.getLsbD_sshiftRight]
  by_cases h8 : i < 8
  · have h1 : k % 32 = k := by omega
    have h2 : k + i < 32 := by omega
    simp [h8, h1, h2, hi]
  · simp [h8]
theorem c_x_put (d : Nat) (v : Int32) (M : am_M) (Q : Option Value → am_M → Prop) (h : Lay M) (n : Nat) (hn : mI M 0 1 = nI n) (hb : n + 4 ≤ 1800) : am_E am_P0 d 152 [.ref 0, .int v] M Q ↔ Q none (put4 M 1 0 1 n v) := by
  rw [eX10_putFour]
  simp only [qX10_putFour, am_w1_i, am_w1_r, am_w1_x, am_w1_l, am_w1_w, va_rf_s, am_push_n, am_push_s, am_cs_0, am_cs_i, am_cs_l, am_cs_r, m_uI_K, m_uI_N, m_uI_R, m_uI_L, m_uI_I, m_uL_K, m_uL_N, m_uL_R, m_uL_I, m_uL_L, m_uR_K, m_uR_N, m_uR_I, m_uR_L, m_uR_R, true_and, and_true]
  rw [hX10_putFour_3]
  simp +decide (disch := omega) only [qX10_putFour, lx h, hn, ni_in_t, ni_tn, ni_add1, am_w1_i, am_w1_r, am_w1_x, am_w1_l, am_w1_w, va_rf_s, am_push_n, am_push_s, am_cs_0, am_cs_i, am_cs_l, am_cs_r, m_uI_K, m_uI_N, m_uI_R, m_uI_L, m_uI_I, m_uL_K, m_uL_N, m_uL_R, m_uL_I, m_uL_L, m_uR_K, m_uR_N, m_uR_I, m_uR_L, m_uR_R, true_and, and_true, false_and, if_false, if_true, false_implies, true_implies, not_true_eq_false, not_false_eq_true]
  rw [hX10_putFour_3]
  simp +decide (disch := omega) only [qX10_putFour, lx h, hn, ni_in_t, ni_tn, ni_add1, am_w1_i, am_w1_r, am_w1_x, am_w1_l, am_w1_w, va_rf_s, am_push_n, am_push_s, am_cs_0, am_cs_i, am_cs_l, am_cs_r, m_uI_K, m_uI_N, m_uI_R, m_uI_L, m_uI_I, m_uL_K, m_uL_N, m_uL_R, m_uL_I, m_uL_L, m_uR_K, m_uR_N, m_uR_I, m_uR_L, m_uR_R, true_and, and_true, false_and, if_false, if_true, false_implies, true_implies, not_true_eq_false, not_false_eq_true]
  rw [hX10_putFour_3]
  simp +decide (disch := omega) only [qX10_putFour, lx h, hn, ni_in_t, ni_tn, ni_add1, am_w1_i, am_w1_r, am_w1_x, am_w1_l, am_w1_w, va_rf_s, am_push_n, am_push_s, am_cs_0, am_cs_i, am_cs_l, am_cs_r, m_uI_K, m_uI_N, m_uI_R, m_uI_L, m_uI_I, m_uL_K, m_uL_N, m_uL_R, m_uL_I, m_uL_L, m_uR_K, m_uR_N, m_uR_I, m_uR_L, m_uR_R, true_and, and_true, false_and, if_false, if_true, false_implies, true_implies, not_true_eq_false, not_false_eq_true]
  rw [hX10_putFour_3]
  simp +decide (disch := omega) only [qX10_putFour, lx h, hn, ni_in_t, ni_tn, ni_add1, am_w1_i, am_w1_r, am_w1_x, am_w1_l, am_w1_w, va_rf_s, am_push_n, am_push_s, am_cs_0, am_cs_i, am_cs_l, am_cs_r, m_uI_K, m_uI_N, m_uI_R, m_uI_L, m_uI_I, m_uL_K, m_uL_N, m_uL_R, m_uL_I, m_uL_L, m_uR_K, m_uR_N, m_uR_I, m_uR_L, m_uR_R, true_and, and_true, false_and, if_false, if_true, false_implies, true_implies, not_true_eq_false, not_false_eq_true]
  rw [hX10_putFour_3]
  simp +decide (disch := omega) only [qX10_putFour, lx h, hn, ni_in_t, ni_tn, ni_add1, am_w1_i, am_w1_r, am_w1_x, am_w1_l, am_w1_w, va_rf_s, am_push_n, am_push_s, am_cs_0, am_cs_i, am_cs_l, am_cs_r, m_uI_K, m_uI_N, m_uI_R, m_uI_L, m_uI_I, m_uL_K, m_uL_N, m_uL_R, m_uL_I, m_uL_L, m_uR_K, m_uR_N, m_uR_I, m_uR_L, m_uR_R, true_and, and_true, false_and, if_false, if_true, false_implies, true_implies, not_true_eq_false, not_false_eq_true]
  have e : ∀ M' : am_M, M' = put4 M 1 0 1 n v → (Q none M' ↔ Q none (put4 M 1 0 1 n v)) := fun M' e => by rw [e]
  apply e
  refine am_ext (fun a j => ?_) (fun a j => rfl) (fun a j => rfl) rfl
  simp only [put4_I, m_uI_I]
  have k0 : (24 : Int32) &&& 31 = Int32.ofNat 24 := by decide
  have k1 : (24 : Int32) + -8 &&& 31 = Int32.ofNat 16 := by decide
  have k2 : (24 : Int32) + -8 + -8 &&& 31 = Int32.ofNat 8 := by decide
  have k3 : (24 : Int32) + -8 + -8 + -8 &&& 31 = Int32.ofNat 0 := by decide
  simp only [k0, k1, k2, k3]
  rw [sh_bit v 24 (by simp), sh_bit v 16 (by simp), sh_bit v 8 (by simp), sh_bit v 0 (by simp)]
  by_cases h1 : a = 0 ∧ j = 1
  · simp [h1]
  · simp [h1]
theorem c_x_feed (d : Nat) (a b c e f : Int32) (M : am_M) (Q : Option Value → am_M → Prop) (h : Lay M) (n : Nat) (hn : mI M 0 1 = nI n) (hb : n ≤ 1800) : am_E am_P0 (d + 1) 109 [.ref 0, .int a, .int b, .int c, .int e, .int f] M Q ↔ if n + 20 ≤ 1800 then Q (some (.int (nI (n + 20)))) (feed5 M 1 0 1 n a b c e f) else Q (some (.int (-1))) (uI M 169 0 (mI M 169 0 + 1)) := by
  rw [eX10_feed]
  have e20 : nI n + 20 = nI (n + 20) := ni_add n 20
  have ek : (1800 : Int32) = nI 1800 := rfl
  have i5 : am_in 0 5 = True := eq_true (by decide)
  have t5 : (Int32.toInt 0).toNat = 0 := rfl
  simp +decide only [qX10_feed, lx h, hn, e20, i5, t5, am_w1_i, am_w1_r, am_w1_x, am_w1_l, am_w1_w, va_rf_s, am_push_n, am_push_s, am_cs_0, am_cs_i, am_cs_l, am_cs_r, m_uI_K, m_uI_N, m_uI_R, m_uI_L, m_uI_I, m_uL_K, m_uL_N, m_uL_R, m_uL_I, m_uL_L, m_uR_K, m_uR_N, m_uR_I, m_uR_L, m_uR_R, true_and, and_true]
  rw [ek]
  by_cases h1 : n + 20 ≤ 1800
  · have h2 : nI (n + 20) ≤ nI 1800 := (ni_le (by omega) (by omega)).mpr h1
    rw [br_p h2, if_pos h1]
    have L1 : Lay (put4 M 1 0 1 n a) := h
    have L2 : Lay (put4 (put4 M 1 0 1 n a) 1 0 1 (n + 4) b) := h
    have L3 : Lay (put4 (put4 (put4 M 1 0 1 n a) 1 0 1 (n + 4) b) 1 0 1 (n + 8) c) := h
    have L4 : Lay (put4 (put4 (put4 (put4 M 1 0 1 n a) 1 0 1 (n + 4) b) 1 0 1 (n + 8) c) 1 0 1 (n + 12) e) := h
    have L5 : Lay (put4 (put4 (put4 (put4 (put4 M 1 0 1 n a) 1 0 1 (n + 4) b) 1 0 1 (n + 8) c) 1 0 1 (n + 12) e) 1 0 1 (n + 16) f) := h
    rw [c_x_put d a M _ h n hn (by omega)]
    simp +decide only [lx L1, am_w1_i, am_w1_r, am_w1_x, am_w1_l, am_w1_w, va_rf_s, am_push_n, am_push_s, am_cs_0, am_cs_i, am_cs_l, am_cs_r, m_uI_K, m_uI_N, m_uI_R, m_uI_L, m_uI_I, m_uL_K, m_uL_N, m_uL_R, m_uL_I, m_uL_L, m_uR_K, m_uR_N, m_uR_I, m_uR_L, m_uR_R, true_and, and_true]
    rw [c_x_put d b _ _ L1 (n + 4) (put4_n _ _ _ _ _ _) (by omega)]
    simp +decide only [lx L2, am_w1_i, am_w1_r, am_w1_x, am_w1_l, am_w1_w, va_rf_s, am_push_n, am_push_s, am_cs_0, am_cs_i, am_cs_l, am_cs_r, m_uI_K, m_uI_N, m_uI_R, m_uI_L, m_uI_I, m_uL_K, m_uL_N, m_uL_R, m_uL_I, m_uL_L, m_uR_K, m_uR_N, m_uR_I, m_uR_L, m_uR_R, true_and, and_true]
    rw [c_x_put d c _ _ L2 (n + 8) (put4_n _ _ _ _ _ _) (by omega)]
    simp +decide only [lx L3, am_w1_i, am_w1_r, am_w1_x, am_w1_l, am_w1_w, va_rf_s, am_push_n, am_push_s, am_cs_0, am_cs_i, am_cs_l, am_cs_r, m_uI_K, m_uI_N, m_uI_R, m_uI_L, m_uI_I, m_uL_K, m_uL_N, m_uL_R, m_uL_I, m_uL_L, m_uR_K, m_uR_N, m_uR_I, m_uR_L, m_uR_R, true_and, and_true]
    rw [c_x_put d e _ _ L3 (n + 12) (put4_n _ _ _ _ _ _) (by omega)]
    simp +decide only [lx L4, am_w1_i, am_w1_r, am_w1_x, am_w1_l, am_w1_w, va_rf_s, am_push_n, am_push_s, am_cs_0, am_cs_i, am_cs_l, am_cs_r, m_uI_K, m_uI_N, m_uI_R, m_uI_L, m_uI_I, m_uL_K, m_uL_N, m_uL_R, m_uL_I, m_uL_L, m_uR_K, m_uR_N, m_uR_I, m_uR_L, m_uR_R, true_and, and_true]
    rw [c_x_put d f _ _ L4 (n + 16) (put4_n _ _ _ _ _ _) (by omega)]
    simp +decide only [qX10_feed, lx L5, am_w1_i, am_w1_r, am_w1_x, am_w1_l, am_w1_w, va_rf_s, am_push_n, am_push_s, am_cs_0, am_cs_i, am_cs_l, am_cs_r, m_uI_K, m_uI_N, m_uI_R, m_uI_L, m_uI_I, m_uL_K, m_uL_N, m_uL_R, m_uL_I, m_uL_L, m_uR_K, m_uR_N, m_uR_I, m_uR_L, m_uR_R, true_and, and_true]
    rw [show mI (put4 (put4 (put4 (put4 (put4 M 1 0 1 n a) 1 0 1 (n + 4) b) 1 0 1 (n + 8) c) 1 0 1 (n + 12) e) 1 0 1 (n + 16) f) 0 1 = nI (n + 20) from put4_n _ _ _ _ _ _]
    rfl
  · have h2 : ¬ nI (n + 20) ≤ nI 1800 := fun q => h1 ((ni_le (by omega) (by omega)).mp q)
    rw [br_n h2, if_neg h1]
theorem c_x_end (d : Nat) (k : Int32) (M : am_M) (Q : Option Value → am_M → Prop) (h : Lay M) (n : Nat) (hn : mI M 0 1 = nI n) : am_E am_P0 d 110 [.ref 0, .int k] M Q ↔ if k < 0 ∨ nI n < k then Q (some (.int 0)) (uI M 169 0 (mI M 169 0 + 1)) else Q (some (.int 1)) (uI M 0 1 k) := by
  rw [eX10_end]
  have i5 : am_in 0 5 = True := eq_true (by decide)
  have t5 : (Int32.toInt 0).toNat = 0 := rfl
  simp +decide only [qX10_end, lx h, hn, i5, t5, am_w1_i, am_w1_r, am_w1_x, am_w1_l, am_w1_w, va_rf_s, am_push_n, am_push_s, am_cs_0, am_cs_i, am_cs_l, am_cs_r, m_uI_K, m_uI_N, m_uI_R, m_uI_L, m_uI_I, m_uL_K, m_uL_N, m_uL_R, m_uL_I, m_uL_L, m_uR_K, m_uR_N, m_uR_I, m_uR_L, m_uR_R, true_and, and_true]
  by_cases h0 : k < 0
  · rw [br_p h0, if_pos (Or.inl h0)]
  · by_cases h1 : nI n < k
    · have h2 : ¬ k ≤ nI n := Int32.not_le.mpr h1
      rw [br_n h0, br_n h2, if_pos (Or.inr h1)]
    · have h2 : k ≤ nI n := Int32.not_lt.mp h1
      rw [br_n h0, br_p h2, if_neg (by rintro (q | q); exact h0 q; exact h1 q)]
theorem c_x_octet (d : Nat) (k : Int32) (M : am_M) (Q : Option Value → am_M → Prop) (h : Lay M) (n : Nat) (hn : mI M 0 10 = nI n) (hb : n ≤ 507) : am_E am_P0 d 145 [.ref 0, .int k] M Q ↔ Q (some (.int (if 0 ≤ k.toInt ∧ k.toInt < n then mI M 170 k.toInt.toNat else -1))) M := by
  rw [eX10_octet]
  simp +decide only [qX10_octet, lx h, hn, am_w1_i, am_w1_r, am_w1_x, am_w1_l, am_w1_w, va_rf_s, am_push_n, am_push_s, am_cs_0, am_cs_i, am_cs_l, am_cs_r, m_uI_K, m_uI_N, m_uI_R, m_uI_L, m_uI_I, m_uL_K, m_uL_N, m_uL_R, m_uL_I, m_uL_L, m_uR_K, m_uR_N, m_uR_I, m_uR_L, m_uR_R, true_and, and_true]
  rw [lt32, lt32, ni_ti (by omega), z32]
  by_cases h0 : k.toInt < 0
  · have : ¬ (0 ≤ k.toInt ∧ k.toInt < n) := by omega
    rw [br_p h0, if_neg this]
  · by_cases h1 : k.toInt < (n : Int)
    · have h2 : 0 ≤ k.toInt ∧ k.toInt < n := by omega
      have h3 : am_in k 507 := ⟨h2.1, by show k.toInt < 507; omega⟩
      rw [br_n h0, br_p h1, if_pos h2]
      simp only [eq_true h3, true_and]
    · have : ¬ (0 ≤ k.toInt ∧ k.toInt < n) := by omega
      rw [br_n h0, br_n h1, if_neg this]
theorem am_tab_out {lo : Int} {tgs : List Nat} {df : Nat} {x : Int32} (h : x.toInt < lo ∨ lo + tgs.length ≤ x.toInt) : am_tab lo tgs df x = df := by
  unfold am_tab
  by_cases h1 : x.toInt < lo
  · rw [if_pos h1]
  · rw [if_neg h1, List.getElem?_eq_none (by omega)]
    rfl
theorem i32_of {x : Int32} {n : Nat} (h : x.toInt = n) (hn : n < 2147483648) : x = nI n := by rw [← Int32.toInt_inj, ni_ti hn]; exact h
theorem am_lk_out {ps : List (Int × Nat)} {df : Nat} {x : Int32} (h : ∀ q ∈ ps, q.1 ≠ x.toInt) : am_lk ps df x = df := by
  unfold am_lk
  rw [List.find?_eq_none.mpr (fun q hq => by simpa using h q hq)]
  rfl
theorem c_x_fault (d : Nat) (k : Int32) (M : am_M) (Q : Option Value → am_M → Prop) (h : Lay M) : am_E am_P0 d 112 [.ref 0, .int k] M Q ↔ Q (some (.int (if k = 0 then mI M 0 5 else if k = 1 then mI M 0 6 else -1))) M := by
  rw [eX10_fault]
  simp only [qX10_fault, lx h, am_w1_i, am_w1_r, am_w1_x, am_w1_l, am_w1_w, va_rf_s, am_push_n, am_push_s, am_cs_0, am_cs_i, am_cs_l, am_cs_r, m_uI_K, m_uI_N, m_uI_R, m_uI_L, m_uI_I, m_uL_K, m_uL_N, m_uL_R, m_uL_I, m_uL_L, m_uR_K, m_uR_N, m_uR_I, m_uR_L, m_uR_R, true_and, and_true]
  by_cases h0 : k = 0
  · subst h0
    rw [if_pos rfl, show am_lk [(0, 28), (1, 33)] 38 0 = 28 from by decide]
    simp only [qX10_fault, lx h, am_w1_i, am_w1_r, am_w1_x, am_w1_l, am_w1_w, va_rf_s, am_push_n, am_push_s, am_cs_0, am_cs_i, am_cs_l, am_cs_r, m_uI_K, m_uI_N, m_uI_R, m_uI_L, m_uI_I, m_uL_K, m_uL_N, m_uL_R, m_uL_I, m_uL_L, m_uR_K, m_uR_N, m_uR_I, m_uR_L, m_uR_R, true_and, and_true]
  · by_cases h1 : k = 1
    · subst h1
      rw [if_neg h0, if_pos rfl, show am_lk [(0, 28), (1, 33)] 38 1 = 33 from by decide]
      simp only [qX10_fault, lx h, am_w1_i, am_w1_r, am_w1_x, am_w1_l, am_w1_w, va_rf_s, am_push_n, am_push_s, am_cs_0, am_cs_i, am_cs_l, am_cs_r, m_uI_K, m_uI_N, m_uI_R, m_uI_L, m_uI_I, m_uL_K, m_uL_N, m_uL_R, m_uL_I, m_uL_L, m_uR_K, m_uR_N, m_uR_I, m_uR_L, m_uR_R, true_and, and_true]
    · have n0 : ¬ (0 : Int) = k.toInt := fun q => h0 (Int32.toInt_inj.mp q.symm)
      have n1 : ¬ (1 : Int) = k.toInt := fun q => h1 (Int32.toInt_inj.mp q.symm)
      rw [if_neg h0, if_neg h1, am_lk_out (by simp [n0, n1])]
      simp only [qX10_fault, lx h, am_w1_i, am_w1_r, am_w1_x, am_w1_l, am_w1_w, va_rf_s, am_push_n, am_push_s, am_cs_0, am_cs_i, am_cs_l, am_cs_r, m_uI_K, m_uI_N, m_uI_R, m_uI_L, m_uI_I, m_uL_K, m_uL_N, m_uL_R, m_uL_I, m_uL_L, m_uR_K, m_uR_N, m_uR_I, m_uR_L, m_uR_R, true_and, and_true]
theorem c_x_status (d : Nat) (k : Int32) (M : am_M) (Q : Option Value → am_M → Prop) (h : Lay M) : am_E am_P0 d 147 [.ref 0, .int k] M Q ↔ Q (some (.int (if 0 ≤ k ∧ k ≤ 4 then mI M 169 k.toInt.toNat else -1))) M := by
  rw [eX10_status]
  have e5 : Int32.ofNat 5 = 5 := rfl
  have c4 : (4 : Int32).toInt = 4 := rfl
  have c5 : (5 : Int32).toInt = 5 := rfl
  have z := z32
  simp +decide only [qX10_status, lx h, e5, am_w1_i, am_w1_r, am_w1_x, am_w1_l, am_w1_w, va_rf_s, am_push_n, am_push_s, am_cs_0, am_cs_i, am_cs_l, am_cs_r, m_uI_K, m_uI_N, m_uI_R, m_uI_L, m_uI_I, m_uL_K, m_uL_N, m_uL_R, m_uL_I, m_uL_L, m_uR_K, m_uR_N, m_uR_I, m_uR_L, m_uR_R, true_and, and_true]
  by_cases h0 : k < 0
  · rw [br_p h0, if_neg (fun q => absurd q.1 (Int32.not_le.mpr h0))]
  · by_cases h1 : k < 5
    · have g0 := le32.mp (Int32.not_lt.mp h0)
      have g1 := lt32.mp h1
      rw [z] at g0
      rw [c5] at g1
      have h3 : am_in k 5 := ⟨g0, g1⟩
      rw [br_n h0, br_p h1, if_pos ⟨Int32.not_lt.mp h0, le32.mpr (by rw [c4]; omega)⟩]
      simp only [eq_true h3, true_and]
    · rw [br_n h0, br_n h1, if_neg (fun q => h1 (lt32.mpr (by have := le32.mp q.2; rw [c4] at this; rw [c5]; omega)))]
end
