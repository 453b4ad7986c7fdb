/-! where the cells lie, by program (wip/whole/gen/blk.py) -/
def an_ptl_0 : List (Nat × Nat × Nat) := [(1, 0, 2), (1, 1, 4), (1, 2, 8), (1, 3, 18), (1, 4, 28), (1, 5, 36), (1, 6, 38), (1, 7, 50), (2, 0, 3), (4, 0, 2), (4, 1, 5), (4, 2, 7), (5, 0, 6), (8, 0, 9), (8, 1, 10), (8, 4, 11), (8, 5, 12), (8, 6, 13), (8, 7, 14), (8, 9, 15), (8, 10, 16), (8, 11, 17), (18, 0, 19), (18, 1, 20), (18, 4, 21), (18, 5, 22), (18, 6, 23), (18, 7, 24), (18, 9, 25), (18, 10, 26), (18, 11, 27), (28, 0, 29), (28, 2, 30), (28, 3, 31), (28, 7, 32), (28, 8, 33), (28, 9, 34), (28, 10, 35), (36, 0, 8), (36, 1, 28), (36, 2, 37), (38, 0, 8), (38, 1, 18), (38, 3, 45), (38, 4, 46), (38, 5, 47), (38, 6, 48), (38, 7, 49), (39, 0, 40), (39, 1, 41), (39, 2, 42), (39, 3, 43), (39, 4, 44), (59, 0, 60), (59, 1, 61), (59, 2, 62), (59, 3, 63), (59, 4, 64), (65, 0, 66), (65, 1, 67), (65, 2, 68), (65, 3, 69), (65, 4, 70), (71, 0, 72), (71, 1, 73), (71, 2, 74), (71, 3, 75), (71, 4, 76), (77, 0, 78), (77, 1, 79), (77, 2, 80), (77, 3, 81), (77, 4, 82), (83, 0, 84), (83, 1, 85), (83, 2, 86), (83, 3, 87), (83, 4, 88), (89, 0, 90), (89, 1, 91)]
def an_ptl_1 : List (Nat × Nat × Nat) := [(89, 2, 92), (89, 3, 93), (89, 4, 94), (95, 0, 96), (95, 1, 97), (95, 2, 98), (95, 3, 99), (95, 4, 100), (101, 0, 102), (101, 1, 103), (101, 2, 104), (101, 3, 105), (101, 4, 106), (107, 0, 108), (107, 1, 109), (107, 2, 110), (107, 3, 111), (107, 4, 112), (113, 0, 114), (113, 1, 115), (113, 2, 116), (113, 3, 117), (113, 4, 118), (119, 0, 120), (119, 1, 121), (119, 2, 122), (119, 3, 123), (119, 4, 124), (125, 0, 126), (125, 1, 127), (125, 2, 128), (125, 3, 129), (125, 4, 130), (131, 0, 132), (131, 1, 133), (131, 2, 134), (131, 3, 135), (131, 4, 136), (137, 0, 138), (137, 1, 139), (137, 2, 140), (137, 3, 141), (137, 4, 142), (143, 0, 144), (143, 1, 145), (143, 2, 146), (143, 3, 147), (143, 4, 148), (149, 0, 150), (149, 1, 151), (149, 2, 152), (149, 3, 153), (149, 4, 154), (160, 0, 161), (160, 1, 162), (160, 2, 163), (160, 3, 164), (160, 4, 165), (166, 0, 167), (166, 1, 168), (166, 2, 169), (166, 3, 170), (166, 4, 171), (172, 0, 173), (172, 1, 174), (172, 2, 175), (172, 3, 176), (172, 4, 177), (178, 0, 179), (178, 1, 180), (178, 2, 181), (178, 3, 182), (178, 4, 183), (184, 0, 185), (184, 1, 186), (184, 2, 187), (184, 3, 188), (184, 4, 189), (190, 0, 191), (190, 1, 192)]
def an_ptl_2 : List (Nat × Nat × Nat) := [(190, 2, 193), (190, 3, 194), (190, 4, 195), (196, 0, 197), (196, 1, 198), (196, 2, 199), (196, 3, 200), (196, 4, 201), (202, 0, 203), (202, 1, 204), (202, 2, 205), (202, 3, 206), (202, 4, 207), (208, 0, 209), (208, 1, 210), (208, 2, 211), (208, 3, 212), (208, 4, 213), (214, 0, 215), (214, 1, 216), (214, 2, 217), (214, 3, 218), (214, 4, 219), (220, 0, 221), (220, 1, 222), (220, 2, 223), (220, 3, 224), (220, 4, 225), (226, 0, 227), (226, 1, 228), (226, 2, 229), (226, 3, 230), (226, 4, 231), (232, 0, 233), (232, 1, 234), (232, 2, 235), (232, 3, 236), (232, 4, 237), (238, 0, 239), (238, 1, 240), (238, 2, 241), (238, 3, 242), (238, 4, 243), (244, 0, 245), (244, 1, 246), (244, 2, 247), (244, 3, 248), (244, 4, 249), (250, 0, 251), (250, 1, 252), (250, 2, 253), (250, 3, 254), (250, 4, 255), (256, 0, 257), (256, 1, 258), (256, 2, 259), (256, 3, 260), (256, 4, 261), (50, 0, 51), (50, 2, 52), (50, 4, 53), (54, 0, 55), (54, 1, 56), (54, 2, 57), (54, 3, 58), (155, 0, 156), (155, 1, 157), (155, 2, 158), (155, 3, 159), (262, 0, 263), (262, 18, 264), (262, 19, 265), (262, 20, 266), (262, 21, 267), (262, 22, 268), (262, 23, 269), (262, 24, 270), (262, 25, 271), (262, 26, 272), (262, 27, 273)]
def an_ptl_3 : List (Nat × Nat × Nat) := [(262, 28, 274), (262, 29, 275), (262, 30, 276), (262, 31, 277), (262, 32, 278), (262, 36, 279), (262, 37, 280), (262, 38, 281), (262, 39, 282), (262, 40, 283), (262, 41, 284), (262, 42, 285), (262, 43, 286), (262, 48, 287), (262, 49, 288), (262, 50, 289), (262, 51, 290), (262, 52, 291), (262, 53, 292), (262, 54, 293), (262, 55, 294), (262, 58, 295), (262, 63, 298), (262, 64, 299), (262, 65, 300), (262, 66, 301), (262, 68, 302), (262, 69, 303), (262, 70, 304), (262, 71, 305), (262, 72, 306), (262, 73, 307), (262, 75, 308), (262, 76, 309), (262, 77, 310), (262, 78, 311), (262, 79, 312), (262, 80, 313), (262, 81, 314), (262, 82, 315), (262, 83, 316), (262, 84, 317), (262, 85, 318), (262, 88, 319), (262, 89, 320), (262, 92, 321), (262, 103, 322), (262, 104, 323), (262, 105, 324), (262, 106, 325), (262, 107, 326), (262, 108, 327), (262, 109, 328), (262, 110, 329), (262, 111, 330), (262, 112, 331), (262, 113, 332), (262, 114, 333), (262, 115, 334), (262, 116, 335), (262, 117, 336), (262, 118, 337), (262, 119, 338), (262, 123, 339), (262, 126, 340), (262, 127, 341), (262, 128, 342), (262, 131, 343), (262, 132, 344), (262, 133, 345), (262, 134, 346), (262, 135, 347), (262, 137, 348), (262, 138, 349), (58, 0, 59), (58, 1, 65), (58, 2, 71), (58, 3, 77), (58, 4, 83), (58, 5, 89)]
def an_ptl_4 : List (Nat × Nat × Nat) := [(58, 6, 95), (58, 7, 101), (58, 8, 107), (58, 9, 113), (58, 10, 119), (58, 11, 125), (58, 12, 131), (58, 13, 137), (58, 14, 143), (58, 15, 149), (159, 0, 160), (159, 1, 166), (159, 2, 172), (159, 3, 178), (159, 4, 184), (159, 5, 190), (159, 6, 196), (159, 7, 202), (159, 8, 208), (159, 9, 214), (159, 10, 220), (159, 11, 226), (159, 12, 232), (159, 13, 238), (159, 14, 244), (159, 15, 250)]
def an_ptl : List (Nat × Nat × Nat) := an_ptl_0 ++ an_ptl_1 ++ an_ptl_2 ++ an_ptl_3 ++ an_ptl_4
def an_pt (o k : Nat) : Option Nat := (an_ptl.find? fun t => t.1 == o && t.2.1 == k).map fun t => t.2.2
/-- the references that nobody changes -/
def PP (P : Mp) : Prop := ∀ o k q, an_pt o k = some q → P o k = some q
theorem an_kd_lt {o : Nat} {k : am_K} (h : am_kd an_K o = some k) : o < 350 := by
  obtain ⟨i, rfl, hi⟩ := am_kd_of h
  have h1 := (List.getElem?_eq_some_iff.mp hi).1
  have h2 : an_K.length = 349 := by decide +kernel
  omega
theorem ko_1 : am_kd an_K 1 = some (.inl 0) := by decide +kernel
theorem po_1_0 {P : Mp} (hp : PP P) : P 1 0 = some 2 := hp _ _ _ (by decide +kernel)
theorem po_1_1 {P : Mp} (hp : PP P) : P 1 1 = some 4 := hp _ _ _ (by decide +kernel)
theorem po_1_2 {P : Mp} (hp : PP P) : P 1 2 = some 8 := hp _ _ _ (by decide +kernel)
theorem po_1_3 {P : Mp} (hp : PP P) : P 1 3 = some 18 := hp _ _ _ (by decide +kernel)
theorem po_1_4 {P : Mp} (hp : PP P) : P 1 4 = some 28 := hp _ _ _ (by decide +kernel)
theorem po_1_5 {P : Mp} (hp : PP P) : P 1 5 = some 36 := hp _ _ _ (by decide +kernel)
theorem po_1_6 {P : Mp} (hp : PP P) : P 1 6 = some 38 := hp _ _ _ (by decide +kernel)
theorem po_1_7 {P : Mp} (hp : PP P) : P 1 7 = some 50 := hp _ _ _ (by decide +kernel)
theorem ko_2 : am_kd an_K 2 = some (.inl 1) := by decide +kernel
theorem po_2_0 {P : Mp} (hp : PP P) : P 2 0 = some 3 := hp _ _ _ (by decide +kernel)
theorem ka_3 : am_kd an_K 3 = some (.inr (0, 1600)) := by decide +kernel
theorem ko_4 : am_kd an_K 4 = some (.inl 2) := by decide +kernel
theorem po_4_0 {P : Mp} (hp : PP P) : P 4 0 = some 2 := hp _ _ _ (by decide +kernel)
theorem po_4_1 {P : Mp} (hp : PP P) : P 4 1 = some 5 := hp _ _ _ (by decide +kernel)
theorem po_4_2 {P : Mp} (hp : PP P) : P 4 2 = some 7 := hp _ _ _ (by decide +kernel)
theorem ka_7 : am_kd an_K 7 = some (.inr (0, 40)) := by decide +kernel
theorem ko_5 : am_kd an_K 5 = some (.inl 3) := by decide +kernel
theorem po_5_0 {P : Mp} (hp : PP P) : P 5 0 = some 6 := hp _ _ _ (by decide +kernel)
theorem ka_6 : am_kd an_K 6 = some (.inr (2, 1600)) := by decide +kernel
theorem pc_4_0_a : ((List.range 350).all fun o => (if am_kd an_K o = some (.inl 4) then decide (an_pt o 0 = some (o + 1) ∧ am_kd an_K (o + 1) = some (.inr (0, 880))) else true)) = true := by decide +kernel
theorem pc_4_0_b {o : Nat} (ho : am_kd an_K o = some (.inl 4)) : an_pt o 0 = some (o + 1) ∧ am_kd an_K (o + 1) = some (.inr (0, 880)) := by
  have h : (if am_kd an_K o = some (.inl 4) then decide (an_pt o 0 = some (o + 1) ∧ am_kd an_K (o + 1) = some (.inr (0, 880))) else true) = true := List.all_eq_true.mp pc_4_0_a o (List.mem_range.mpr (an_kd_lt ho))
  rw [if_pos ho] at h
  exact of_decide_eq_true h
theorem pc_4_0 {P : Mp} {o : Nat} (hp : PP P) (ho : am_kd an_K o = some (.inl 4)) : P o 0 = some (o + 1) := hp _ _ _ (pc_4_0_b ho).1
theorem kc_4_0 {o : Nat} (ho : am_kd an_K o = some (.inl 4)) : am_kd an_K (o + 1) = some (.inr (0, 880)) := (pc_4_0_b ho).2
theorem pc_4_1_a : ((List.range 350).all fun o => (if am_kd an_K o = some (.inl 4) then decide (an_pt o 1 = some (o + 2) ∧ am_kd an_K (o + 2) = some (.inr (0, 880))) else true)) = true := by decide +kernel
theorem pc_4_1_b {o : Nat} (ho : am_kd an_K o = some (.inl 4)) : an_pt o 1 = some (o + 2) ∧ am_kd an_K (o + 2) = some (.inr (0, 880)) := by
  have h : (if am_kd an_K o = some (.inl 4) then decide (an_pt o 1 = some (o + 2) ∧ am_kd an_K (o + 2) = some (.inr (0, 880))) else true) = true := List.all_eq_true.mp pc_4_1_a o (List.mem_range.mpr (an_kd_lt ho))
  rw [if_pos ho] at h
  exact of_decide_eq_true h
theorem pc_4_1 {P : Mp} {o : Nat} (hp : PP P) (ho : am_kd an_K o = some (.inl 4)) : P o 1 = some (o + 2) := hp _ _ _ (pc_4_1_b ho).1
theorem kc_4_1 {o : Nat} (ho : am_kd an_K o = some (.inl 4)) : am_kd an_K (o + 2) = some (.inr (0, 880)) := (pc_4_1_b ho).2
theorem pc_4_4_a : ((List.range 350).all fun o => (if am_kd an_K o = some (.inl 4) then decide (an_pt o 4 = some (o + 3) ∧ am_kd an_K (o + 3) = some (.inr (0, 1688))) else true)) = true := by decide +kernel
theorem pc_4_4_b {o : Nat} (ho : am_kd an_K o = some (.inl 4)) : an_pt o 4 = some (o + 3) ∧ am_kd an_K (o + 3) = some (.inr (0, 1688)) := by
  have h : (if am_kd an_K o = some (.inl 4) then decide (an_pt o 4 = some (o + 3) ∧ am_kd an_K (o + 3) = some (.inr (0, 1688))) else true) = true := List.all_eq_true.mp pc_4_4_a o (List.mem_range.mpr (an_kd_lt ho))
  rw [if_pos ho] at h
  exact of_decide_eq_true h
theorem pc_4_4 {P : Mp} {o : Nat} (hp : PP P) (ho : am_kd an_K o = some (.inl 4)) : P o 4 = some (o + 3) := hp _ _ _ (pc_4_4_b ho).1
theorem kc_4_4 {o : Nat} (ho : am_kd an_K o = some (.inl 4)) : am_kd an_K (o + 3) = some (.inr (0, 1688)) := (pc_4_4_b ho).2
theorem pc_4_5_a : ((List.range 350).all fun o => (if am_kd an_K o = some (.inl 4) then decide (an_pt o 5 = some (o + 4) ∧ am_kd an_K (o + 4) = some (.inr (0, 1688))) else true)) = true := by decide +kernel
theorem pc_4_5_b {o : Nat} (ho : am_kd an_K o = some (.inl 4)) : an_pt o 5 = some (o + 4) ∧ am_kd an_K (o + 4) = some (.inr (0, 1688)) := by
  have h : (if am_kd an_K o = some (.inl 4) then decide (an_pt o 5 = some (o + 4) ∧ am_kd an_K (o + 4) = some (.inr (0, 1688))) else true) = true := List.all_eq_true.mp pc_4_5_a o (List.mem_range.mpr (an_kd_lt ho))
  rw [if_pos ho] at h
  exact of_decide_eq_true h
theorem pc_4_5 {P : Mp} {o : Nat} (hp : PP P) (ho : am_kd an_K o = some (.inl 4)) : P o 5 = some (o + 4) := hp _ _ _ (pc_4_5_b ho).1
theorem kc_4_5 {o : Nat} (ho : am_kd an_K o = some (.inl 4)) : am_kd an_K (o + 4) = some (.inr (0, 1688)) := (pc_4_5_b ho).2
theorem pc_4_6_a : ((List.range 350).all fun o => (if am_kd an_K o = some (.inl 4) then decide (an_pt o 6 = some (o + 5) ∧ am_kd an_K (o + 5) = some (.inr (0, 1688))) else true)) = true := by decide +kernel
theorem pc_4_6_b {o : Nat} (ho : am_kd an_K o = some (.inl 4)) : an_pt o 6 = some (o + 5) ∧ am_kd an_K (o + 5) = some (.inr (0, 1688)) := by
  have h : (if am_kd an_K o = some (.inl 4) then decide (an_pt o 6 = some (o + 5) ∧ am_kd an_K (o + 5) = some (.inr (0, 1688))) else true) = true := List.all_eq_true.mp pc_4_6_a o (List.mem_range.mpr (an_kd_lt ho))
  rw [if_pos ho] at h
  exact of_decide_eq_true h
theorem pc_4_6 {P : Mp} {o : Nat} (hp : PP P) (ho : am_kd an_K o = some (.inl 4)) : P o 6 = some (o + 5) := hp _ _ _ (pc_4_6_b ho).1
theorem kc_4_6 {o : Nat} (ho : am_kd an_K o = some (.inl 4)) : am_kd an_K (o + 5) = some (.inr (0, 1688)) := (pc_4_6_b ho).2
theorem pc_4_7_a : ((List.range 350).all fun o => (if am_kd an_K o = some (.inl 4) then decide (an_pt o 7 = some (o + 6) ∧ am_kd an_K (o + 6) = some (.inr (0, 1688))) else true)) = true := by decide +kernel
theorem pc_4_7_b {o : Nat} (ho : am_kd an_K o = some (.inl 4)) : an_pt o 7 = some (o + 6) ∧ am_kd an_K (o + 6) = some (.inr (0, 1688)) := by
  have h : (if am_kd an_K o = some (.inl 4) then decide (an_pt o 7 = some (o + 6) ∧ am_kd an_K (o + 6) = some (.inr (0, 1688))) else true) = true := List.all_eq_true.mp pc_4_7_a o (List.mem_range.mpr (an_kd_lt ho))
  rw [if_pos ho] at h
  exact of_decide_eq_true h
theorem pc_4_7 {P : Mp} {o : Nat} (hp : PP P) (ho : am_kd an_K o = some (.inl 4)) : P o 7 = some (o + 6) := hp _ _ _ (pc_4_7_b ho).1
theorem kc_4_7 {o : Nat} (ho : am_kd an_K o = some (.inl 4)) : am_kd an_K (o + 6) = some (.inr (0, 1688)) := (pc_4_7_b ho).2
theorem pc_4_9_a : ((List.range 350).all fun o => (if am_kd an_K o = some (.inl 4) then decide (an_pt o 9 = some (o + 7) ∧ am_kd an_K (o + 7) = some (.inr (0, 2048))) else true)) = true := by decide +kernel
theorem pc_4_9_b {o : Nat} (ho : am_kd an_K o = some (.inl 4)) : an_pt o 9 = some (o + 7) ∧ am_kd an_K (o + 7) = some (.inr (0, 2048)) := by
  have h : (if am_kd an_K o = some (.inl 4) then decide (an_pt o 9 = some (o + 7) ∧ am_kd an_K (o + 7) = some (.inr (0, 2048))) else true) = true := List.all_eq_true.mp pc_4_9_a o (List.mem_range.mpr (an_kd_lt ho))
  rw [if_pos ho] at h
  exact of_decide_eq_true h
theorem pc_4_9 {P : Mp} {o : Nat} (hp : PP P) (ho : am_kd an_K o = some (.inl 4)) : P o 9 = some (o + 7) := hp _ _ _ (pc_4_9_b ho).1
theorem kc_4_9 {o : Nat} (ho : am_kd an_K o = some (.inl 4)) : am_kd an_K (o + 7) = some (.inr (0, 2048)) := (pc_4_9_b ho).2
theorem pc_4_10_a : ((List.range 350).all fun o => (if am_kd an_K o = some (.inl 4) then decide (an_pt o 10 = some (o + 8) ∧ am_kd an_K (o + 8) = some (.inr (0, 800))) else true)) = true := by decide +kernel
theorem pc_4_10_b {o : Nat} (ho : am_kd an_K o = some (.inl 4)) : an_pt o 10 = some (o + 8) ∧ am_kd an_K (o + 8) = some (.inr (0, 800)) := by
  have h : (if am_kd an_K o = some (.inl 4) then decide (an_pt o 10 = some (o + 8) ∧ am_kd an_K (o + 8) = some (.inr (0, 800))) else true) = true := List.all_eq_true.mp pc_4_10_a o (List.mem_range.mpr (an_kd_lt ho))
  rw [if_pos ho] at h
  exact of_decide_eq_true h
theorem pc_4_10 {P : Mp} {o : Nat} (hp : PP P) (ho : am_kd an_K o = some (.inl 4)) : P o 10 = some (o + 8) := hp _ _ _ (pc_4_10_b ho).1
theorem kc_4_10 {o : Nat} (ho : am_kd an_K o = some (.inl 4)) : am_kd an_K (o + 8) = some (.inr (0, 800)) := (pc_4_10_b ho).2
theorem pc_4_11_a : ((List.range 350).all fun o => (if am_kd an_K o = some (.inl 4) then decide (an_pt o 11 = some (o + 9) ∧ am_kd an_K (o + 9) = some (.inr (0, 808))) else true)) = true := by decide +kernel
theorem pc_4_11_b {o : Nat} (ho : am_kd an_K o = some (.inl 4)) : an_pt o 11 = some (o + 9) ∧ am_kd an_K (o + 9) = some (.inr (0, 808)) := by
  have h : (if am_kd an_K o = some (.inl 4) then decide (an_pt o 11 = some (o + 9) ∧ am_kd an_K (o + 9) = some (.inr (0, 808))) else true) = true := List.all_eq_true.mp pc_4_11_a o (List.mem_range.mpr (an_kd_lt ho))
  rw [if_pos ho] at h
  exact of_decide_eq_true h
theorem pc_4_11 {P : Mp} {o : Nat} (hp : PP P) (ho : am_kd an_K o = some (.inl 4)) : P o 11 = some (o + 9) := hp _ _ _ (pc_4_11_b ho).1
theorem kc_4_11 {o : Nat} (ho : am_kd an_K o = some (.inl 4)) : am_kd an_K (o + 9) = some (.inr (0, 808)) := (pc_4_11_b ho).2
theorem ko_28 : am_kd an_K 28 = some (.inl 5) := by decide +kernel
theorem po_28_0 {P : Mp} (hp : PP P) : P 28 0 = some 29 := hp _ _ _ (by decide +kernel)
theorem ka_29 : am_kd an_K 29 = some (.inr (0, 200)) := by decide +kernel
theorem po_28_2 {P : Mp} (hp : PP P) : P 28 2 = some 30 := hp _ _ _ (by decide +kernel)
theorem ka_30 : am_kd an_K 30 = some (.inr (0, 200)) := by decide +kernel
theorem po_28_3 {P : Mp} (hp : PP P) : P 28 3 = some 31 := hp _ _ _ (by decide +kernel)
theorem ka_31 : am_kd an_K 31 = some (.inr (0, 200)) := by decide +kernel
theorem po_28_7 {P : Mp} (hp : PP P) : P 28 7 = some 32 := hp _ _ _ (by decide +kernel)
theorem ka_32 : am_kd an_K 32 = some (.inr (0, 200)) := by decide +kernel
theorem po_28_8 {P : Mp} (hp : PP P) : P 28 8 = some 33 := hp _ _ _ (by decide +kernel)
theorem ka_33 : am_kd an_K 33 = some (.inr (0, 8)) := by decide +kernel
theorem po_28_9 {P : Mp} (hp : PP P) : P 28 9 = some 34 := hp _ _ _ (by decide +kernel)
theorem ka_34 : am_kd an_K 34 = some (.inr (0, 200)) := by decide +kernel
theorem po_28_10 {P : Mp} (hp : PP P) : P 28 10 = some 35 := hp _ _ _ (by decide +kernel)
theorem ka_35 : am_kd an_K 35 = some (.inr (0, 200)) := by decide +kernel
theorem ko_36 : am_kd an_K 36 = some (.inl 6) := by decide +kernel
theorem po_36_0 {P : Mp} (hp : PP P) : P 36 0 = some 8 := hp _ _ _ (by decide +kernel)
theorem po_36_1 {P : Mp} (hp : PP P) : P 36 1 = some 28 := hp _ _ _ (by decide +kernel)
theorem po_36_2 {P : Mp} (hp : PP P) : P 36 2 = some 37 := hp _ _ _ (by decide +kernel)
theorem ka_37 : am_kd an_K 37 = some (.inr (0, 800)) := by decide +kernel
theorem ko_38 : am_kd an_K 38 = some (.inl 7) := by decide +kernel
theorem po_38_0 {P : Mp} (hp : PP P) : P 38 0 = some 8 := hp _ _ _ (by decide +kernel)
theorem po_38_1 {P : Mp} (hp : PP P) : P 38 1 = some 18 := hp _ _ _ (by decide +kernel)
theorem po_38_3 {P : Mp} (hp : PP P) : P 38 3 = some 45 := hp _ _ _ (by decide +kernel)
theorem ka_45 : am_kd an_K 45 = some (.inr (0, 30000)) := by decide +kernel
theorem po_38_4 {P : Mp} (hp : PP P) : P 38 4 = some 46 := hp _ _ _ (by decide +kernel)
theorem ka_46 : am_kd an_K 46 = some (.inr (0, 9000)) := by decide +kernel
theorem po_38_5 {P : Mp} (hp : PP P) : P 38 5 = some 47 := hp _ _ _ (by decide +kernel)
theorem ka_47 : am_kd an_K 47 = some (.inr (0, 300)) := by decide +kernel
theorem po_38_6 {P : Mp} (hp : PP P) : P 38 6 = some 48 := hp _ _ _ (by decide +kernel)
theorem ka_48 : am_kd an_K 48 = some (.inr (0, 300)) := by decide +kernel
theorem po_38_7 {P : Mp} (hp : PP P) : P 38 7 = some 49 := hp _ _ _ (by decide +kernel)
theorem ka_49 : am_kd an_K 49 = some (.inr (0, 800)) := by decide +kernel
theorem pc_8_0_a : ((List.range 350).all fun o => (if am_kd an_K o = some (.inl 8) then decide (an_pt o 0 = some (o + 1) ∧ am_kd an_K (o + 1) = some (.inr (0, 80))) else true)) = true := by decide +kernel
theorem pc_8_0_b {o : Nat} (ho : am_kd an_K o = some (.inl 8)) : an_pt o 0 = some (o + 1) ∧ am_kd an_K (o + 1) = some (.inr (0, 80)) := by
  have h : (if am_kd an_K o = some (.inl 8) then decide (an_pt o 0 = some (o + 1) ∧ am_kd an_K (o + 1) = some (.inr (0, 80))) else true) = true := List.all_eq_true.mp pc_8_0_a o (List.mem_range.mpr (an_kd_lt ho))
  rw [if_pos ho] at h
  exact of_decide_eq_true h
theorem pc_8_0 {P : Mp} {o : Nat} (hp : PP P) (ho : am_kd an_K o = some (.inl 8)) : P o 0 = some (o + 1) := hp _ _ _ (pc_8_0_b ho).1
theorem kc_8_0 {o : Nat} (ho : am_kd an_K o = some (.inl 8)) : am_kd an_K (o + 1) = some (.inr (0, 80)) := (pc_8_0_b ho).2
theorem pc_8_1_a : ((List.range 350).all fun o => (if am_kd an_K o = some (.inl 8) then decide (an_pt o 1 = some (o + 2) ∧ am_kd an_K (o + 2) = some (.inr (0, 80))) else true)) = true := by decide +kernel
theorem pc_8_1_b {o : Nat} (ho : am_kd an_K o = some (.inl 8)) : an_pt o 1 = some (o + 2) ∧ am_kd an_K (o + 2) = some (.inr (0, 80)) := by
  have h : (if am_kd an_K o = some (.inl 8) then decide (an_pt o 1 = some (o + 2) ∧ am_kd an_K (o + 2) = some (.inr (0, 80))) else true) = true := List.all_eq_true.mp pc_8_1_a o (List.mem_range.mpr (an_kd_lt ho))
  rw [if_pos ho] at h
  exact of_decide_eq_true h
theorem pc_8_1 {P : Mp} {o : Nat} (hp : PP P) (ho : am_kd an_K o = some (.inl 8)) : P o 1 = some (o + 2) := hp _ _ _ (pc_8_1_b ho).1
theorem kc_8_1 {o : Nat} (ho : am_kd an_K o = some (.inl 8)) : am_kd an_K (o + 2) = some (.inr (0, 80)) := (pc_8_1_b ho).2
theorem pc_8_2_a : ((List.range 350).all fun o => (if am_kd an_K o = some (.inl 8) then decide (an_pt o 2 = some (o + 3) ∧ am_kd an_K (o + 3) = some (.inr (0, 80))) else true)) = true := by decide +kernel
theorem pc_8_2_b {o : Nat} (ho : am_kd an_K o = some (.inl 8)) : an_pt o 2 = some (o + 3) ∧ am_kd an_K (o + 3) = some (.inr (0, 80)) := by
  have h : (if am_kd an_K o = some (.inl 8) then decide (an_pt o 2 = some (o + 3) ∧ am_kd an_K (o + 3) = some (.inr (0, 80))) else true) = true := List.all_eq_true.mp pc_8_2_a o (List.mem_range.mpr (an_kd_lt ho))
  rw [if_pos ho] at h
  exact of_decide_eq_true h
theorem pc_8_2 {P : Mp} {o : Nat} (hp : PP P) (ho : am_kd an_K o = some (.inl 8)) : P o 2 = some (o + 3) := hp _ _ _ (pc_8_2_b ho).1
theorem kc_8_2 {o : Nat} (ho : am_kd an_K o = some (.inl 8)) : am_kd an_K (o + 3) = some (.inr (0, 80)) := (pc_8_2_b ho).2
theorem pc_8_3_a : ((List.range 350).all fun o => (if am_kd an_K o = some (.inl 8) then decide (an_pt o 3 = some (o + 4) ∧ am_kd an_K (o + 4) = some (.inr (0, 80))) else true)) = true := by decide +kernel
theorem pc_8_3_b {o : Nat} (ho : am_kd an_K o = some (.inl 8)) : an_pt o 3 = some (o + 4) ∧ am_kd an_K (o + 4) = some (.inr (0, 80)) := by
  have h : (if am_kd an_K o = some (.inl 8) then decide (an_pt o 3 = some (o + 4) ∧ am_kd an_K (o + 4) = some (.inr (0, 80))) else true) = true := List.all_eq_true.mp pc_8_3_a o (List.mem_range.mpr (an_kd_lt ho))
  rw [if_pos ho] at h
  exact of_decide_eq_true h
theorem pc_8_3 {P : Mp} {o : Nat} (hp : PP P) (ho : am_kd an_K o = some (.inl 8)) : P o 3 = some (o + 4) := hp _ _ _ (pc_8_3_b ho).1
theorem kc_8_3 {o : Nat} (ho : am_kd an_K o = some (.inl 8)) : am_kd an_K (o + 4) = some (.inr (0, 80)) := (pc_8_3_b ho).2
theorem pc_8_4_a : ((List.range 350).all fun o => (if am_kd an_K o = some (.inl 8) then decide (an_pt o 4 = some (o + 5) ∧ am_kd an_K (o + 5) = some (.inr (3, 8))) else true)) = true := by decide +kernel
theorem pc_8_4_b {o : Nat} (ho : am_kd an_K o = some (.inl 8)) : an_pt o 4 = some (o + 5) ∧ am_kd an_K (o + 5) = some (.inr (3, 8)) := by
  have h : (if am_kd an_K o = some (.inl 8) then decide (an_pt o 4 = some (o + 5) ∧ am_kd an_K (o + 5) = some (.inr (3, 8))) else true) = true := List.all_eq_true.mp pc_8_4_a o (List.mem_range.mpr (an_kd_lt ho))
  rw [if_pos ho] at h
  exact of_decide_eq_true h
theorem pc_8_4 {P : Mp} {o : Nat} (hp : PP P) (ho : am_kd an_K o = some (.inl 8)) : P o 4 = some (o + 5) := hp _ _ _ (pc_8_4_b ho).1
theorem kc_8_4 {o : Nat} (ho : am_kd an_K o = some (.inl 8)) : am_kd an_K (o + 5) = some (.inr (3, 8)) := (pc_8_4_b ho).2
theorem ko_50 : am_kd an_K 50 = some (.inl 9) := by decide +kernel
theorem po_50_0 {P : Mp} (hp : PP P) : P 50 0 = some 51 := hp _ _ _ (by decide +kernel)
theorem ka_51 : am_kd an_K 51 = some (.inr (0, 1000)) := by decide +kernel
theorem po_50_2 {P : Mp} (hp : PP P) : P 50 2 = some 52 := hp _ _ _ (by decide +kernel)
theorem ka_52 : am_kd an_K 52 = some (.inr (3, 808)) := by decide +kernel
theorem po_50_4 {P : Mp} (hp : PP P) : P 50 4 = some 53 := hp _ _ _ (by decide +kernel)
theorem ka_53 : am_kd an_K 53 = some (.inr (0, 200)) := by decide +kernel
theorem pc_10_0_a : ((List.range 350).all fun o => (if am_kd an_K o = some (.inl 10) then decide (an_pt o 0 = some (o + 1) ∧ am_kd an_K (o + 1) = some (.inr (3, 16))) else true)) = true := by decide +kernel
theorem pc_10_0_b {o : Nat} (ho : am_kd an_K o = some (.inl 10)) : an_pt o 0 = some (o + 1) ∧ am_kd an_K (o + 1) = some (.inr (3, 16)) := by
  have h : (if am_kd an_K o = some (.inl 10) then decide (an_pt o 0 = some (o + 1) ∧ am_kd an_K (o + 1) = some (.inr (3, 16))) else true) = true := List.all_eq_true.mp pc_10_0_a o (List.mem_range.mpr (an_kd_lt ho))
  rw [if_pos ho] at h
  exact of_decide_eq_true h
theorem pc_10_0 {P : Mp} {o : Nat} (hp : PP P) (ho : am_kd an_K o = some (.inl 10)) : P o 0 = some (o + 1) := hp _ _ _ (pc_10_0_b ho).1
theorem kc_10_0 {o : Nat} (ho : am_kd an_K o = some (.inl 10)) : am_kd an_K (o + 1) = some (.inr (3, 16)) := (pc_10_0_b ho).2
theorem pc_10_1_a : ((List.range 350).all fun o => (if am_kd an_K o = some (.inl 10) then decide (an_pt o 1 = some (o + 2) ∧ am_kd an_K (o + 2) = some (.inr (0, 16))) else true)) = true := by decide +kernel
theorem pc_10_1_b {o : Nat} (ho : am_kd an_K o = some (.inl 10)) : an_pt o 1 = some (o + 2) ∧ am_kd an_K (o + 2) = some (.inr (0, 16)) := by
  have h : (if am_kd an_K o = some (.inl 10) then decide (an_pt o 1 = some (o + 2) ∧ am_kd an_K (o + 2) = some (.inr (0, 16))) else true) = true := List.all_eq_true.mp pc_10_1_a o (List.mem_range.mpr (an_kd_lt ho))
  rw [if_pos ho] at h
  exact of_decide_eq_true h
theorem pc_10_1 {P : Mp} {o : Nat} (hp : PP P) (ho : am_kd an_K o = some (.inl 10)) : P o 1 = some (o + 2) := hp _ _ _ (pc_10_1_b ho).1
theorem kc_10_1 {o : Nat} (ho : am_kd an_K o = some (.inl 10)) : am_kd an_K (o + 2) = some (.inr (0, 16)) := (pc_10_1_b ho).2
theorem pc_10_2_a : ((List.range 350).all fun o => (if am_kd an_K o = some (.inl 10) then decide (an_pt o 2 = some (o + 3) ∧ am_kd an_K (o + 3) = some (.inr (0, 16))) else true)) = true := by decide +kernel
theorem pc_10_2_b {o : Nat} (ho : am_kd an_K o = some (.inl 10)) : an_pt o 2 = some (o + 3) ∧ am_kd an_K (o + 3) = some (.inr (0, 16)) := by
  have h : (if am_kd an_K o = some (.inl 10) then decide (an_pt o 2 = some (o + 3) ∧ am_kd an_K (o + 3) = some (.inr (0, 16))) else true) = true := List.all_eq_true.mp pc_10_2_a o (List.mem_range.mpr (an_kd_lt ho))
  rw [if_pos ho] at h
  exact of_decide_eq_true h
theorem pc_10_2 {P : Mp} {o : Nat} (hp : PP P) (ho : am_kd an_K o = some (.inl 10)) : P o 2 = some (o + 3) := hp _ _ _ (pc_10_2_b ho).1
theorem kc_10_2 {o : Nat} (ho : am_kd an_K o = some (.inl 10)) : am_kd an_K (o + 3) = some (.inr (0, 16)) := (pc_10_2_b ho).2
theorem pc_10_3_a : ((List.range 350).all fun o => (if am_kd an_K o = some (.inl 10) then decide (an_pt o 3 = some (o + 4) ∧ am_kd an_K (o + 4) = some (.inr (4, 16))) else true)) = true := by decide +kernel
theorem pc_10_3_b {o : Nat} (ho : am_kd an_K o = some (.inl 10)) : an_pt o 3 = some (o + 4) ∧ am_kd an_K (o + 4) = some (.inr (4, 16)) := by
  have h : (if am_kd an_K o = some (.inl 10) then decide (an_pt o 3 = some (o + 4) ∧ am_kd an_K (o + 4) = some (.inr (4, 16))) else true) = true := List.all_eq_true.mp pc_10_3_a o (List.mem_range.mpr (an_kd_lt ho))
  rw [if_pos ho] at h
  exact of_decide_eq_true h
theorem pc_10_3 {P : Mp} {o : Nat} (hp : PP P) (ho : am_kd an_K o = some (.inl 10)) : P o 3 = some (o + 4) := hp _ _ _ (pc_10_3_b ho).1
theorem kc_10_3 {o : Nat} (ho : am_kd an_K o = some (.inl 10)) : am_kd an_K (o + 4) = some (.inr (4, 16)) := (pc_10_3_b ho).2
theorem ko_262 : am_kd an_K 262 = some (.inl 11) := by decide +kernel
theorem po_262_0 {P : Mp} (hp : PP P) : P 262 0 = some 263 := hp _ _ _ (by decide +kernel)
theorem ka_263 : am_kd an_K 263 = some (.inr (1, 1600)) := by decide +kernel
theorem po_262_18 {P : Mp} (hp : PP P) : P 262 18 = some 264 := hp _ _ _ (by decide +kernel)
theorem ka_264 : am_kd an_K 264 = some (.inr (3, 16)) := by decide +kernel
theorem po_262_19 {P : Mp} (hp : PP P) : P 262 19 = some 265 := hp _ _ _ (by decide +kernel)
theorem ka_265 : am_kd an_K 265 = some (.inr (3, 2000)) := by decide +kernel
theorem po_262_20 {P : Mp} (hp : PP P) : P 262 20 = some 266 := hp _ _ _ (by decide +kernel)
theorem ka_266 : am_kd an_K 266 = some (.inr (3, 8)) := by decide +kernel
theorem po_262_21 {P : Mp} (hp : PP P) : P 262 21 = some 267 := hp _ _ _ (by decide +kernel)
theorem ka_267 : am_kd an_K 267 = some (.inr (0, 16)) := by decide +kernel
theorem po_262_22 {P : Mp} (hp : PP P) : P 262 22 = some 268 := hp _ _ _ (by decide +kernel)
theorem ka_268 : am_kd an_K 268 = some (.inr (0, 16)) := by decide +kernel
theorem po_262_23 {P : Mp} (hp : PP P) : P 262 23 = some 269 := hp _ _ _ (by decide +kernel)
theorem ka_269 : am_kd an_K 269 = some (.inr (0, 2000)) := by decide +kernel
theorem po_262_24 {P : Mp} (hp : PP P) : P 262 24 = some 270 := hp _ _ _ (by decide +kernel)
theorem ka_270 : am_kd an_K 270 = some (.inr (0, 2000)) := by decide +kernel
theorem po_262_25 {P : Mp} (hp : PP P) : P 262 25 = some 271 := hp _ _ _ (by decide +kernel)
theorem ka_271 : am_kd an_K 271 = some (.inr (0, 2000)) := by decide +kernel
theorem po_262_26 {P : Mp} (hp : PP P) : P 262 26 = some 272 := hp _ _ _ (by decide +kernel)
theorem ka_272 : am_kd an_K 272 = some (.inr (0, 16)) := by decide +kernel
theorem po_262_27 {P : Mp} (hp : PP P) : P 262 27 = some 273 := hp _ _ _ (by decide +kernel)
theorem ka_273 : am_kd an_K 273 = some (.inr (0, 16)) := by decide +kernel
theorem po_262_28 {P : Mp} (hp : PP P) : P 262 28 = some 274 := hp _ _ _ (by decide +kernel)
theorem ka_274 : am_kd an_K 274 = some (.inr (0, 16)) := by decide +kernel
theorem po_262_29 {P : Mp} (hp : PP P) : P 262 29 = some 275 := hp _ _ _ (by decide +kernel)
theorem ka_275 : am_kd an_K 275 = some (.inr (0, 16)) := by decide +kernel
theorem po_262_30 {P : Mp} (hp : PP P) : P 262 30 = some 276 := hp _ _ _ (by decide +kernel)
theorem ka_276 : am_kd an_K 276 = some (.inr (0, 16)) := by decide +kernel
theorem po_262_31 {P : Mp} (hp : PP P) : P 262 31 = some 277 := hp _ _ _ (by decide +kernel)
theorem ka_277 : am_kd an_K 277 = some (.inr (3, 128)) := by decide +kernel
theorem po_262_32 {P : Mp} (hp : PP P) : P 262 32 = some 278 := hp _ _ _ (by decide +kernel)
theorem ka_278 : am_kd an_K 278 = some (.inr (0, 48)) := by decide +kernel
theorem po_262_36 {P : Mp} (hp : PP P) : P 262 36 = some 279 := hp _ _ _ (by decide +kernel)
theorem ka_279 : am_kd an_K 279 = some (.inr (3, 16)) := by decide +kernel
theorem po_262_37 {P : Mp} (hp : PP P) : P 262 37 = some 280 := hp _ _ _ (by decide +kernel)
theorem ka_280 : am_kd an_K 280 = some (.inr (0, 16)) := by decide +kernel
theorem po_262_38 {P : Mp} (hp : PP P) : P 262 38 = some 281 := hp _ _ _ (by decide +kernel)
theorem ka_281 : am_kd an_K 281 = some (.inr (0, 640)) := by decide +kernel
theorem po_262_39 {P : Mp} (hp : PP P) : P 262 39 = some 282 := hp _ _ _ (by decide +kernel)
theorem ka_282 : am_kd an_K 282 = some (.inr (0, 640)) := by decide +kernel
theorem po_262_40 {P : Mp} (hp : PP P) : P 262 40 = some 283 := hp _ _ _ (by decide +kernel)
theorem ka_283 : am_kd an_K 283 = some (.inr (0, 16)) := by decide +kernel
theorem po_262_41 {P : Mp} (hp : PP P) : P 262 41 = some 284 := hp _ _ _ (by decide +kernel)
theorem ka_284 : am_kd an_K 284 = some (.inr (0, 16)) := by decide +kernel
theorem po_262_42 {P : Mp} (hp : PP P) : P 262 42 = some 285 := hp _ _ _ (by decide +kernel)
theorem ka_285 : am_kd an_K 285 = some (.inr (0, 16)) := by decide +kernel
theorem po_262_43 {P : Mp} (hp : PP P) : P 262 43 = some 286 := hp _ _ _ (by decide +kernel)
theorem ka_286 : am_kd an_K 286 = some (.inr (3, 128)) := by decide +kernel
theorem po_262_48 {P : Mp} (hp : PP P) : P 262 48 = some 287 := hp _ _ _ (by decide +kernel)
theorem ka_287 : am_kd an_K 287 = some (.inr (0, 200)) := by decide +kernel
theorem po_262_49 {P : Mp} (hp : PP P) : P 262 49 = some 288 := hp _ _ _ (by decide +kernel)
theorem ka_288 : am_kd an_K 288 = some (.inr (0, 200)) := by decide +kernel
theorem po_262_50 {P : Mp} (hp : PP P) : P 262 50 = some 289 := hp _ _ _ (by decide +kernel)
theorem ka_289 : am_kd an_K 289 = some (.inr (0, 200)) := by decide +kernel
theorem po_262_51 {P : Mp} (hp : PP P) : P 262 51 = some 290 := hp _ _ _ (by decide +kernel)
theorem ka_290 : am_kd an_K 290 = some (.inr (0, 200)) := by decide +kernel
theorem po_262_52 {P : Mp} (hp : PP P) : P 262 52 = some 291 := hp _ _ _ (by decide +kernel)
theorem ka_291 : am_kd an_K 291 = some (.inr (0, 40)) := by decide +kernel
theorem po_262_53 {P : Mp} (hp : PP P) : P 262 53 = some 292 := hp _ _ _ (by decide +kernel)
theorem ka_292 : am_kd an_K 292 = some (.inr (0, 40)) := by decide +kernel
theorem po_262_54 {P : Mp} (hp : PP P) : P 262 54 = some 293 := hp _ _ _ (by decide +kernel)
theorem ka_293 : am_kd an_K 293 = some (.inr (0, 40)) := by decide +kernel
theorem po_262_55 {P : Mp} (hp : PP P) : P 262 55 = some 294 := hp _ _ _ (by decide +kernel)
theorem ka_294 : am_kd an_K 294 = some (.inr (0, 40)) := by decide +kernel
theorem po_262_58 {P : Mp} (hp : PP P) : P 262 58 = some 295 := hp _ _ _ (by decide +kernel)
theorem ka_295 : am_kd an_K 295 = some (.inr (2, 1600)) := by decide +kernel
theorem ka_296 : am_kd an_K 296 = some (.inr (0, 201)) := by decide +kernel
theorem ka_297 : am_kd an_K 297 = some (.inr (0, 201)) := by decide +kernel
theorem po_262_63 {P : Mp} (hp : PP P) : P 262 63 = some 298 := hp _ _ _ (by decide +kernel)
theorem ka_298 : am_kd an_K 298 = some (.inr (0, 201)) := by decide +kernel
theorem po_262_64 {P : Mp} (hp : PP P) : P 262 64 = some 299 := hp _ _ _ (by decide +kernel)
theorem ka_299 : am_kd an_K 299 = some (.inr (0, 201)) := by decide +kernel
theorem po_262_65 {P : Mp} (hp : PP P) : P 262 65 = some 300 := hp _ _ _ (by decide +kernel)
theorem ka_300 : am_kd an_K 300 = some (.inr (0, 8)) := by decide +kernel
theorem po_262_66 {P : Mp} (hp : PP P) : P 262 66 = some 301 := hp _ _ _ (by decide +kernel)
theorem ka_301 : am_kd an_K 301 = some (.inr (0, 8)) := by decide +kernel
theorem po_262_68 {P : Mp} (hp : PP P) : P 262 68 = some 302 := hp _ _ _ (by decide +kernel)
theorem ka_302 : am_kd an_K 302 = some (.inr (0, 2000)) := by decide +kernel
theorem po_262_69 {P : Mp} (hp : PP P) : P 262 69 = some 303 := hp _ _ _ (by decide +kernel)
theorem ka_303 : am_kd an_K 303 = some (.inr (0, 2000)) := by decide +kernel
theorem po_262_70 {P : Mp} (hp : PP P) : P 262 70 = some 304 := hp _ _ _ (by decide +kernel)
theorem ka_304 : am_kd an_K 304 = some (.inr (0, 2000)) := by decide +kernel
theorem po_262_71 {P : Mp} (hp : PP P) : P 262 71 = some 305 := hp _ _ _ (by decide +kernel)
theorem ka_305 : am_kd an_K 305 = some (.inr (0, 2000)) := by decide +kernel
theorem po_262_72 {P : Mp} (hp : PP P) : P 262 72 = some 306 := hp _ _ _ (by decide +kernel)
theorem ka_306 : am_kd an_K 306 = some (.inr (0, 2000)) := by decide +kernel
theorem po_262_73 {P : Mp} (hp : PP P) : P 262 73 = some 307 := hp _ _ _ (by decide +kernel)
theorem ka_307 : am_kd an_K 307 = some (.inr (0, 8000)) := by decide +kernel
theorem po_262_75 {P : Mp} (hp : PP P) : P 262 75 = some 308 := hp _ _ _ (by decide +kernel)
theorem ka_308 : am_kd an_K 308 = some (.inr (0, 800)) := by decide +kernel
theorem po_262_76 {P : Mp} (hp : PP P) : P 262 76 = some 309 := hp _ _ _ (by decide +kernel)
theorem ka_309 : am_kd an_K 309 = some (.inr (0, 8)) := by decide +kernel
theorem po_262_77 {P : Mp} (hp : PP P) : P 262 77 = some 310 := hp _ _ _ (by decide +kernel)
theorem ka_310 : am_kd an_K 310 = some (.inr (0, 201)) := by decide +kernel
theorem po_262_78 {P : Mp} (hp : PP P) : P 262 78 = some 311 := hp _ _ _ (by decide +kernel)
theorem ka_311 : am_kd an_K 311 = some (.inr (0, 201)) := by decide +kernel
theorem po_262_79 {P : Mp} (hp : PP P) : P 262 79 = some 312 := hp _ _ _ (by decide +kernel)
theorem ka_312 : am_kd an_K 312 = some (.inr (0, 201)) := by decide +kernel
theorem po_262_80 {P : Mp} (hp : PP P) : P 262 80 = some 313 := hp _ _ _ (by decide +kernel)
theorem ka_313 : am_kd an_K 313 = some (.inr (0, 8000)) := by decide +kernel
theorem po_262_81 {P : Mp} (hp : PP P) : P 262 81 = some 314 := hp _ _ _ (by decide +kernel)
theorem ka_314 : am_kd an_K 314 = some (.inr (0, 8000)) := by decide +kernel
theorem po_262_82 {P : Mp} (hp : PP P) : P 262 82 = some 315 := hp _ _ _ (by decide +kernel)
theorem ka_315 : am_kd an_K 315 = some (.inr (0, 2000)) := by decide +kernel
theorem po_262_83 {P : Mp} (hp : PP P) : P 262 83 = some 316 := hp _ _ _ (by decide +kernel)
theorem ka_316 : am_kd an_K 316 = some (.inr (0, 2000)) := by decide +kernel
theorem po_262_84 {P : Mp} (hp : PP P) : P 262 84 = some 317 := hp _ _ _ (by decide +kernel)
theorem ka_317 : am_kd an_K 317 = some (.inr (0, 2000)) := by decide +kernel
theorem po_262_85 {P : Mp} (hp : PP P) : P 262 85 = some 318 := hp _ _ _ (by decide +kernel)
theorem ka_318 : am_kd an_K 318 = some (.inr (0, 2000)) := by decide +kernel
theorem po_262_88 {P : Mp} (hp : PP P) : P 262 88 = some 319 := hp _ _ _ (by decide +kernel)
theorem ka_319 : am_kd an_K 319 = some (.inr (0, 200)) := by decide +kernel
theorem po_262_89 {P : Mp} (hp : PP P) : P 262 89 = some 320 := hp _ _ _ (by decide +kernel)
theorem ka_320 : am_kd an_K 320 = some (.inr (0, 200)) := by decide +kernel
theorem po_262_92 {P : Mp} (hp : PP P) : P 262 92 = some 321 := hp _ _ _ (by decide +kernel)
theorem ka_321 : am_kd an_K 321 = some (.inr (0, 201)) := by decide +kernel
theorem po_262_103 {P : Mp} (hp : PP P) : P 262 103 = some 322 := hp _ _ _ (by decide +kernel)
theorem ka_322 : am_kd an_K 322 = some (.inr (3, 6)) := by decide +kernel
theorem po_262_104 {P : Mp} (hp : PP P) : P 262 104 = some 323 := hp _ _ _ (by decide +kernel)
theorem ka_323 : am_kd an_K 323 = some (.inr (0, 40000)) := by decide +kernel
theorem po_262_105 {P : Mp} (hp : PP P) : P 262 105 = some 324 := hp _ _ _ (by decide +kernel)
theorem ka_324 : am_kd an_K 324 = some (.inr (0, 1000)) := by decide +kernel
theorem po_262_106 {P : Mp} (hp : PP P) : P 262 106 = some 325 := hp _ _ _ (by decide +kernel)
theorem ka_325 : am_kd an_K 325 = some (.inr (0, 1000)) := by decide +kernel
theorem po_262_107 {P : Mp} (hp : PP P) : P 262 107 = some 326 := hp _ _ _ (by decide +kernel)
theorem ka_326 : am_kd an_K 326 = some (.inr (0, 1000)) := by decide +kernel
theorem po_262_108 {P : Mp} (hp : PP P) : P 262 108 = some 327 := hp _ _ _ (by decide +kernel)
theorem ka_327 : am_kd an_K 327 = some (.inr (0, 1000)) := by decide +kernel
theorem po_262_109 {P : Mp} (hp : PP P) : P 262 109 = some 328 := hp _ _ _ (by decide +kernel)
theorem ka_328 : am_kd an_K 328 = some (.inr (0, 1000)) := by decide +kernel
theorem po_262_110 {P : Mp} (hp : PP P) : P 262 110 = some 329 := hp _ _ _ (by decide +kernel)
theorem ka_329 : am_kd an_K 329 = some (.inr (0, 1000)) := by decide +kernel
theorem po_262_111 {P : Mp} (hp : PP P) : P 262 111 = some 330 := hp _ _ _ (by decide +kernel)
theorem ka_330 : am_kd an_K 330 = some (.inr (0, 1000)) := by decide +kernel
theorem po_262_112 {P : Mp} (hp : PP P) : P 262 112 = some 331 := hp _ _ _ (by decide +kernel)
theorem ka_331 : am_kd an_K 331 = some (.inr (0, 1000)) := by decide +kernel
theorem po_262_113 {P : Mp} (hp : PP P) : P 262 113 = some 332 := hp _ _ _ (by decide +kernel)
theorem ka_332 : am_kd an_K 332 = some (.inr (0, 1000)) := by decide +kernel
theorem po_262_114 {P : Mp} (hp : PP P) : P 262 114 = some 333 := hp _ _ _ (by decide +kernel)
theorem ka_333 : am_kd an_K 333 = some (.inr (0, 6000)) := by decide +kernel
theorem po_262_115 {P : Mp} (hp : PP P) : P 262 115 = some 334 := hp _ _ _ (by decide +kernel)
theorem ka_334 : am_kd an_K 334 = some (.inr (0, 300)) := by decide +kernel
theorem po_262_116 {P : Mp} (hp : PP P) : P 262 116 = some 335 := hp _ _ _ (by decide +kernel)
theorem ka_335 : am_kd an_K 335 = some (.inr (0, 300)) := by decide +kernel
theorem po_262_117 {P : Mp} (hp : PP P) : P 262 117 = some 336 := hp _ _ _ (by decide +kernel)
theorem ka_336 : am_kd an_K 336 = some (.inr (0, 1800)) := by decide +kernel
theorem po_262_118 {P : Mp} (hp : PP P) : P 262 118 = some 337 := hp _ _ _ (by decide +kernel)
theorem ka_337 : am_kd an_K 337 = some (.inr (0, 800)) := by decide +kernel
theorem po_262_119 {P : Mp} (hp : PP P) : P 262 119 = some 338 := hp _ _ _ (by decide +kernel)
theorem ka_338 : am_kd an_K 338 = some (.inr (0, 6)) := by decide +kernel
theorem po_262_123 {P : Mp} (hp : PP P) : P 262 123 = some 339 := hp _ _ _ (by decide +kernel)
theorem ka_339 : am_kd an_K 339 = some (.inr (0, 6)) := by decide +kernel
theorem po_262_126 {P : Mp} (hp : PP P) : P 262 126 = some 340 := hp _ _ _ (by decide +kernel)
theorem ka_340 : am_kd an_K 340 = some (.inr (0, 200)) := by decide +kernel
theorem po_262_127 {P : Mp} (hp : PP P) : P 262 127 = some 341 := hp _ _ _ (by decide +kernel)
theorem ka_341 : am_kd an_K 341 = some (.inr (0, 40)) := by decide +kernel
theorem po_262_128 {P : Mp} (hp : PP P) : P 262 128 = some 342 := hp _ _ _ (by decide +kernel)
theorem ka_342 : am_kd an_K 342 = some (.inr (0, 40)) := by decide +kernel
theorem po_262_131 {P : Mp} (hp : PP P) : P 262 131 = some 343 := hp _ _ _ (by decide +kernel)
theorem ka_343 : am_kd an_K 343 = some (.inr (0, 200)) := by decide +kernel
theorem po_262_132 {P : Mp} (hp : PP P) : P 262 132 = some 344 := hp _ _ _ (by decide +kernel)
theorem ka_344 : am_kd an_K 344 = some (.inr (0, 200)) := by decide +kernel
theorem po_262_133 {P : Mp} (hp : PP P) : P 262 133 = some 345 := hp _ _ _ (by decide +kernel)
theorem ka_345 : am_kd an_K 345 = some (.inr (0, 800)) := by decide +kernel
theorem po_262_134 {P : Mp} (hp : PP P) : P 262 134 = some 346 := hp _ _ _ (by decide +kernel)
theorem ka_346 : am_kd an_K 346 = some (.inr (0, 800)) := by decide +kernel
theorem po_262_135 {P : Mp} (hp : PP P) : P 262 135 = some 347 := hp _ _ _ (by decide +kernel)
theorem ka_347 : am_kd an_K 347 = some (.inr (1, 1000)) := by decide +kernel
theorem po_262_137 {P : Mp} (hp : PP P) : P 262 137 = some 348 := hp _ _ _ (by decide +kernel)
theorem ka_348 : am_kd an_K 348 = some (.inr (3, 800)) := by decide +kernel
theorem po_262_138 {P : Mp} (hp : PP P) : P 262 138 = some 349 := hp _ _ _ (by decide +kernel)
theorem ka_349 : am_kd an_K 349 = some (.inr (0, 800)) := by decide +kernel
theorem pr_a : ((List.range 350).all fun o => (if am_kd an_K o = some (.inl 10) then ((List.range 16).all fun x => decide (an_pt (o + 4) x = some (o + 5 + 6 * x) ∧ am_kd an_K (o + 5 + 6 * x) = some (.inl 8))) else true)) = true := by decide +kernel
theorem pr_b {o x : Nat} (ho : am_kd an_K o = some (.inl 10)) (hx : x < 16) : an_pt (o + 4) x = some (o + 5 + 6 * x) ∧ am_kd an_K (o + 5 + 6 * x) = some (.inl 8) := by
  have h : (if am_kd an_K o = some (.inl 10) then ((List.range 16).all fun x => decide (an_pt (o + 4) x = some (o + 5 + 6 * x) ∧ am_kd an_K (o + 5 + 6 * x) = some (.inl 8))) else true) = true := List.all_eq_true.mp pr_a o (List.mem_range.mpr (an_kd_lt ho))
  rw [if_pos ho] at h
  exact of_decide_eq_true (List.all_eq_true.mp h x (List.mem_range.mpr hx))
theorem pr {P : Mp} {o : Nat} {x : Int} (hp : PP P) (ho : am_kd an_K o = some (.inl 10)) (hx : 0 ≤ x ∧ x < 16) : P (o + 4) x.toNat = some (o + 5 + 6 * x.toNat) := hp _ _ _ (pr_b ho (by omega)).1
theorem kr {o : Nat} {x : Int} (ho : am_kd an_K o = some (.inl 10)) (hx : 0 ≤ x ∧ x < 16) : am_kd an_K (o + 5 + 6 * x.toNat) = some (.inl 8) := (pr_b ho (by omega)).2
theorem am_ca_v {idx r1 r3 a : Nat} {ps t : List Value} (hr : ps.length = r3) (hk : am_kd an_K a = some (.inl r1)) : am_ca (.invokevirtual idx) r1 r3 (ps ++ .ref a :: t) an_K = some (.ref a :: ps.reverse, t) := by
  subst hr
  simp [am_ca, am_a1, hk]
theorem am_ca_s {idx r1 r3 : Nat} {ps t : List Value} (hr : ps.length = r3) : am_ca (.invokestatic idx) r1 r3 (ps ++ t) an_K = some (ps.reverse, t) := by
  subst hr
  simp [am_ca]
