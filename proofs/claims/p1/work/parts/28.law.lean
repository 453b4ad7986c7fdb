set_option maxRecDepth 20000 in
set_option maxHeartbeats 4000000 in
theorem b_Law_law_18 (n0 : Nat) (xs : Nat → Int32) (hL : n0 ≤ 100000) {d : Nat} (x3 : Int)  (m : Mi) (J : Mj) (P : Mp) (hp : PP P) (post : Int → Mi → Mj → Mp → Prop)
    (hw : Zr (x3) ∧ Zr (((n0 : Int)) - 6) ∧ ((((((n0 : Int)) - 6) < x3) → post 1 m J P) ∧ (¬ ((((n0 : Int)) - 6) < x3) → ((0 : Int) ≤ x3 ∧ (x3 : Int) < n0) ∧ Zr (zand ((xs x3.toNat).toInt) 15) ∧ (((zand ((xs x3.toNat).toInt) 15 = 0) → ((0 : Int) ≤ (x3 + 1) ∧ ((x3 + 1) : Int) < n0) ∧ ((0 : Int) ≤ (x3 + 2) ∧ ((x3 + 2) : Int) < n0) ∧ ((0 : Int) ≤ (x3 + 3) ∧ ((x3 + 3) : Int) < n0) ∧ ((0 : Int) ≤ (x3 + 4) ∧ ((x3 + 4) : Int) < n0) ∧ ((0 : Int) ≤ (x3 + 5) ∧ ((x3 + 5) : Int) < n0) ∧ Ci (some (n0, xs)) (d + 8) 12 [.ref 1, .int (iz ((xs (x3 + 1).toNat).toInt)), .int (iz ((xs (x3 + 2).toNat).toInt)), .int (iz ((xs (x3 + 3).toNat).toInt)), .int (iz ((xs (x3 + 4).toNat).toInt)), .int (iz ((xs (x3 + 5).toNat).toInt))] m J P (fun z13 m10 J11 P12 => PP P12 ∧ ((0 : Int) ≤ (x3 + 1) ∧ ((x3 + 1) : Int) < n0) ∧ ((0 : Int) ≤ (x3 + 2) ∧ ((x3 + 2) : Int) < n0) ∧ ((0 : Int) ≤ (x3 + 3) ∧ ((x3 + 3) : Int) < n0) ∧ ((0 : Int) ≤ (x3 + 4) ∧ ((x3 + 4) : Int) < n0) ∧ ((0 : Int) ≤ (x3 + 5) ∧ ((x3 + 5) : Int) < n0) ∧ Ci (some (n0, xs)) (d + 8) 134 [.ref 262, .int (iz ((xs (x3 + 1).toNat).toInt)), .int (iz ((xs (x3 + 2).toNat).toInt)), .int (iz ((xs (x3 + 3).toNat).toInt)), .int (iz ((xs (x3 + 4).toNat).toInt)), .int (iz ((xs (x3 + 5).toNat).toInt))] m10 J11 P12 (fun z23 m20 J21 P22 => PP P22 ∧ Zr (z13) ∧ Zr (z23) ∧ (((z13 = z23) → Rn (some (n0, xs)) (d + 9) 0 569 [some (.ref 0), some (.ref 1), some (.ref 262), some (.int (iz x3))] [] (SS m20 J21 P22) (QI post)) ∧ (¬ (z13 = z23) → post 0 m20 J21 P22))))) ∧ ((zand ((xs x3.toNat).toInt) 15 = 1) → ((0 : Int) ≤ (x3 + 1) ∧ ((x3 + 1) : Int) < n0) ∧ Ci (some (n0, xs)) (d + 8) 14 [.ref 1, .int (iz ((xs (x3 + 1).toNat).toInt))] m J P (fun z31 m28 J29 P30 => PP P30 ∧ ((0 : Int) ≤ (x3 + 1) ∧ ((x3 + 1) : Int) < n0) ∧ Ci (some (n0, xs)) (d + 8) 136 [.ref 262, .int (iz ((xs (x3 + 1).toNat).toInt))] m28 J29 P30 (fun z37 m34 J35 P36 => PP P36 ∧ Zr (z31) ∧ Zr (z37) ∧ (((z31 = z37) → Rn (some (n0, xs)) (d + 9) 0 569 [some (.ref 0), some (.ref 1), some (.ref 262), some (.int (iz x3))] [] (SS m34 J35 P36) (QI post)) ∧ (¬ (z31 = z37) → post 0 m34 J35 P36))))) ∧ ((zand ((xs x3.toNat).toInt) 15 = 2) → ((0 : Int) ≤ (x3 + 1) ∧ ((x3 + 1) : Int) < n0) ∧ Ci (some (n0, xs)) (d + 8) 73 [.ref 1, .int (iz ((xs (x3 + 1).toNat).toInt))] m J P (fun z45 m42 J43 P44 => PP P44 ∧ ((0 : Int) ≤ (x3 + 1) ∧ ((x3 + 1) : Int) < n0) ∧ Ci (some (n0, xs)) (d + 8) 181 [.ref 262, .int (iz ((xs (x3 + 1).toNat).toInt))] m42 J43 P44 (fun z51 m48 J49 P50 => PP P50 ∧ Zr (z45) ∧ Zr (z51) ∧ (((z45 = z51) → Rn (some (n0, xs)) (d + 9) 0 569 [some (.ref 0), some (.ref 1), some (.ref 262), some (.int (iz x3))] [] (SS m48 J49 P50) (QI post)) ∧ (¬ (z45 = z51) → post 0 m48 J49 P50))))) ∧ ((zand ((xs x3.toNat).toInt) 15 = 3) → ((0 : Int) ≤ (x3 + 1) ∧ ((x3 + 1) : Int) < n0) ∧ Ci (some (n0, xs)) (d + 8) 74 [.ref 1, .int (iz ((xs (x3 + 1).toNat).toInt))] m J P (fun z59 m56 J57 P58 => PP P58 ∧ ((0 : Int) ≤ (x3 + 1) ∧ ((x3 + 1) : Int) < n0) ∧ Ci (some (n0, xs)) (d + 8) 182 [.ref 262, .int (iz ((xs (x3 + 1).toNat).toInt))] m56 J57 P58 (fun z65 m62 J63 P64 => PP P64 ∧ Zr (z59) ∧ Zr (z65) ∧ (((z59 = z65) → Rn (some (n0, xs)) (d + 9) 0 569 [some (.ref 0), some (.ref 1), some (.ref 262), some (.int (iz x3))] [] (SS m62 J63 P64) (QI post)) ∧ (¬ (z59 = z65) → post 0 m62 J63 P64))))) ∧ ((zand ((xs x3.toNat).toInt) 15 = 4) → ((0 : Int) ≤ (x3 + 1) ∧ ((x3 + 1) : Int) < n0) ∧ ((0 : Int) ≤ (x3 + 2) ∧ ((x3 + 2) : Int) < n0) ∧ Ci (some (n0, xs)) (d + 8) 76 [.ref 1, .int (iz ((xs (x3 + 1).toNat).toInt)), .int (iz ((xs (x3 + 2).toNat).toInt))] m J P (fun z74 m71 J72 P73 => PP P73 ∧ ((0 : Int) ≤ (x3 + 1) ∧ ((x3 + 1) : Int) < n0) ∧ ((0 : Int) ≤ (x3 + 2) ∧ ((x3 + 2) : Int) < n0) ∧ Ci (some (n0, xs)) (d + 8) 183 [.ref 262, .int (iz ((xs (x3 + 1).toNat).toInt)), .int (iz ((xs (x3 + 2).toNat).toInt))] m71 J72 P73 (fun z81 m78 J79 P80 => PP P80 ∧ Zr (z74) ∧ Zr (z81) ∧ (((z74 = z81) → Rn (some (n0, xs)) (d + 9) 0 569 [some (.ref 0), some (.ref 1), some (.ref 262), some (.int (iz x3))] [] (SS m78 J79 P80) (QI post)) ∧ (¬ (z74 = z81) → post 0 m78 J79 P80))))) ∧ ((zand ((xs x3.toNat).toInt) 15 = 5) → ((0 : Int) ≤ (x3 + 1) ∧ ((x3 + 1) : Int) < n0) ∧ Ci (some (n0, xs)) (d + 8) 79 [.ref 1, .int (iz ((xs (x3 + 1).toNat).toInt))] m J P (fun z89 m86 J87 P88 => PP P88 ∧ ((0 : Int) ≤ (x3 + 1) ∧ ((x3 + 1) : Int) < n0) ∧ Ci (some (n0, xs)) (d + 8) 184 [.ref 262, .int (iz ((xs (x3 + 1).toNat).toInt))] m86 J87 P88 (fun z95 m92 J93 P94 => PP P94 ∧ Zr (z89) ∧ Zr (z95) ∧ (((z89 = z95) → Rn (some (n0, xs)) (d + 9) 0 569 [some (.ref 0), some (.ref 1), some (.ref 262), some (.int (iz x3))] [] (SS m92 J93 P94) (QI post)) ∧ (¬ (z89 = z95) → post 0 m92 J93 P94))))) ∧ ((zand ((xs x3.toNat).toInt) 15 = 6) → ((0 : Int) ≤ (x3 + 1) ∧ ((x3 + 1) : Int) < n0) ∧ Ci (some (n0, xs)) (d + 8) 90 [.ref 1, .int (iz ((xs (x3 + 1).toNat).toInt))] m J P (fun z103 m100 J101 P102 => PP P102 ∧ ((0 : Int) ≤ (x3 + 1) ∧ ((x3 + 1) : Int) < n0) ∧ Ci (some (n0, xs)) (d + 8) 194 [.ref 262, .int (iz ((xs (x3 + 1).toNat).toInt))] m100 J101 P102 (fun z109 m106 J107 P108 => PP P108 ∧ Zr (z103) ∧ Zr (z109) ∧ (((z103 = z109) → Rn (some (n0, xs)) (d + 9) 0 569 [some (.ref 0), some (.ref 1), some (.ref 262), some (.int (iz x3))] [] (SS m106 J107 P108) (QI post)) ∧ (¬ (z103 = z109) → post 0 m106 J107 P108))))) ∧ ((zand ((xs x3.toNat).toInt) 15 = 7) → ((0 : Int) ≤ (x3 + 1) ∧ ((x3 + 1) : Int) < n0) ∧ ((0 : Int) ≤ (x3 + 2) ∧ ((x3 + 2) : Int) < n0) ∧ Zr ((xs (x3 + 2).toNat).toInt) ∧ (((((xs (x3 + 2).toNat).toInt) = 0) → Ci (some (n0, xs)) (d + 8) 97 [.ref 1, .int (iz ((xs (x3 + 1).toNat).toInt)), .int (iz 0)] m J P (fun z119 m116 J117 P118 => PP P118 ∧ ((0 : Int) ≤ (x3 + 1) ∧ ((x3 + 1) : Int) < n0) ∧ ((0 : Int) ≤ (x3 + 2) ∧ ((x3 + 2) : Int) < n0) ∧ Zr ((xs (x3 + 2).toNat).toInt) ∧ (((((xs (x3 + 2).toNat).toInt) = 0) → Ci (some (n0, xs)) (d + 8) 198 [.ref 262, .int (iz ((xs (x3 + 1).toNat).toInt)), .int (iz 0)] m116 J117 P118 (fun z127 m124 J125 P126 => PP P126 ∧ Zr (z119) ∧ Zr (z127) ∧ (((z119 = z127) → Rn (some (n0, xs)) (d + 9) 0 569 [some (.ref 0), some (.ref 1), some (.ref 262), some (.int (iz x3))] [] (SS m124 J125 P126) (QI post)) ∧ (¬ (z119 = z127) → post 0 m124 J125 P126)))) ∧ (¬ (((xs (x3 + 2).toNat).toInt) = 0) → Ci (some (n0, xs)) (d + 8) 198 [.ref 262, .int (iz ((xs (x3 + 1).toNat).toInt)), .int (iz 1)] m116 J117 P118 (fun z134 m131 J132 P133 => PP P133 ∧ Zr (z119) ∧ Zr (z134) ∧ (((z119 = z134) → Rn (some (n0, xs)) (d + 9) 0 569 [some (.ref 0), some (.ref 1), some (.ref 262), some (.int (iz x3))] [] (SS m131 J132 P133) (QI post)) ∧ (¬ (z119 = z134) → post 0 m131 J132 P133))))))) ∧ (¬ (((xs (x3 + 2).toNat).toInt) = 0) → Ci (some (n0, xs)) (d + 8) 97 [.ref 1, .int (iz ((xs (x3 + 1).toNat).toInt)), .int (iz 1)] m J P (fun z141 m138 J139 P140 => PP P140 ∧ ((0 : Int) ≤ (x3 + 1) ∧ ((x3 + 1) : Int) < n0) ∧ ((0 : Int) ≤ (x3 + 2) ∧ ((x3 + 2) : Int) < n0) ∧ Zr ((xs (x3 + 2).toNat).toInt) ∧ (((((xs (x3 + 2).toNat).toInt) = 0) → Ci (some (n0, xs)) (d + 8) 198 [.ref 262, .int (iz ((xs (x3 + 1).toNat).toInt)), .int (iz 0)] m138 J139 P140 (fun z149 m146 J147 P148 => PP P148 ∧ Zr (z141) ∧ Zr (z149) ∧ (((z141 = z149) → Rn (some (n0, xs)) (d + 9) 0 569 [some (.ref 0), some (.ref 1), some (.ref 262), some (.int (iz x3))] [] (SS m146 J147 P148) (QI post)) ∧ (¬ (z141 = z149) → post 0 m146 J147 P148)))) ∧ (¬ (((xs (x3 + 2).toNat).toInt) = 0) → Ci (some (n0, xs)) (d + 8) 198 [.ref 262, .int (iz ((xs (x3 + 1).toNat).toInt)), .int (iz 1)] m138 J139 P140 (fun z156 m153 J154 P155 => PP P155 ∧ Zr (z141) ∧ Zr (z156) ∧ (((z141 = z156) → Rn (some (n0, xs)) (d + 9) 0 569 [some (.ref 0), some (.ref 1), some (.ref 262), some (.int (iz x3))] [] (SS m153 J154 P155) (QI post)) ∧ (¬ (z141 = z156) → post 0 m153 J154 P155))))))))) ∧ ((zand ((xs x3.toNat).toInt) 15 = 8) → ((0 : Int) ≤ (x3 + 1) ∧ ((x3 + 1) : Int) < n0) ∧ Ci (some (n0, xs)) (d + 8) 105 [.ref 1, .int (iz ((xs (x3 + 1).toNat).toInt))] m J P (fun z164 m161 J162 P163 => PP P163 ∧ ((0 : Int) ≤ (x3 + 1) ∧ ((x3 + 1) : Int) < n0) ∧ Ci (some (n0, xs)) (d + 8) 203 [.ref 262, .int (iz ((xs (x3 + 1).toNat).toInt))] m161 J162 P163 (fun z170 m167 J168 P169 => PP P169 ∧ Zr (z164) ∧ Zr (z170) ∧ (((z164 = z170) → Rn (some (n0, xs)) (d + 9) 0 569 [some (.ref 0), some (.ref 1), some (.ref 262), some (.int (iz x3))] [] (SS m167 J168 P169) (QI post)) ∧ (¬ (z164 = z170) → post 0 m167 J168 P169))))) ∧ ((zand ((xs x3.toNat).toInt) 15 = 9) → ((0 : Int) ≤ (x3 + 1) ∧ ((x3 + 1) : Int) < n0) ∧ Ci (some (n0, xs)) (d + 8) 110 [.ref 1, .int (iz ((xs (x3 + 1).toNat).toInt))] m J P (fun z178 m175 J176 P177 => PP P177 ∧ ((0 : Int) ≤ (x3 + 1) ∧ ((x3 + 1) : Int) < n0) ∧ Ci (some (n0, xs)) (d + 8) 206 [.ref 262, .int (iz ((xs (x3 + 1).toNat).toInt))] m175 J176 P177 (fun z184 m181 J182 P183 => PP P183 ∧ Zr (z178) ∧ Zr (z184) ∧ (((z178 = z184) → Rn (some (n0, xs)) (d + 9) 0 569 [some (.ref 0), some (.ref 1), some (.ref 262), some (.int (iz x3))] [] (SS m181 J182 P183) (QI post)) ∧ (¬ (z178 = z184) → post 0 m181 J182 P183))))) ∧ ((zand ((xs x3.toNat).toInt) 15 = 10) → ((0 : Int) ≤ (x3 + 1) ∧ ((x3 + 1) : Int) < n0) ∧ ((0 : Int) ≤ (x3 + 2) ∧ ((x3 + 2) : Int) < n0) ∧ Ci (some (n0, xs)) (d + 8) 112 [.ref 1, .int (iz ((xs (x3 + 1).toNat).toInt)), .int (iz ((xs (x3 + 2).toNat).toInt))] m J P (fun z193 m190 J191 P192 => PP P192 ∧ ((0 : Int) ≤ (x3 + 1) ∧ ((x3 + 1) : Int) < n0) ∧ ((0 : Int) ≤ (x3 + 2) ∧ ((x3 + 2) : Int) < n0) ∧ Ci (some (n0, xs)) (d + 8) 207 [.ref 262, .int (iz ((xs (x3 + 1).toNat).toInt)), .int (iz ((xs (x3 + 2).toNat).toInt))] m190 J191 P192 (fun z200 m197 J198 P199 => PP P199 ∧ Zr (z193) ∧ Zr (z200) ∧ (((z193 = z200) → Rn (some (n0, xs)) (d + 9) 0 569 [some (.ref 0), some (.ref 1), some (.ref 262), some (.int (iz x3))] [] (SS m197 J198 P199) (QI post)) ∧ (¬ (z193 = z200) → post 0 m197 J198 P199))))) ∧ ((zand ((xs x3.toNat).toInt) 15 = 11) → ((0 : Int) ≤ (x3 + 1) ∧ ((x3 + 1) : Int) < n0) ∧ ((0 : Int) ≤ (x3 + 2) ∧ ((x3 + 2) : Int) < n0) ∧ Ci (some (n0, xs)) (d + 8) 118 [.ref 1, .int (iz ((xs (x3 + 1).toNat).toInt)), .int (iz ((xs (x3 + 2).toNat).toInt))] m J P (fun z209 m206 J207 P208 => PP P208 ∧ ((0 : Int) ≤ (x3 + 1) ∧ ((x3 + 1) : Int) < n0) ∧ ((0 : Int) ≤ (x3 + 2) ∧ ((x3 + 2) : Int) < n0) ∧ Ci (some (n0, xs)) (d + 8) 209 [.ref 262, .int (iz ((xs (x3 + 1).toNat).toInt)), .int (iz ((xs (x3 + 2).toNat).toInt))] m206 J207 P208 (fun z216 m213 J214 P215 => PP P215 ∧ Zr (z209) ∧ Zr (z216) ∧ (((z209 = z216) → Rn (some (n0, xs)) (d + 9) 0 569 [some (.ref 0), some (.ref 1), some (.ref 262), some (.int (iz x3))] [] (SS m213 J214 P215) (QI post)) ∧ (¬ (z209 = z216) → post 0 m213 J214 P215))))) ∧ ((zand ((xs x3.toNat).toInt) 15 = 12) → ((0 : Int) ≤ (x3 + 1) ∧ ((x3 + 1) : Int) < n0) ∧ ((0 : Int) ≤ (x3 + 2) ∧ ((x3 + 2) : Int) < n0) ∧ Ci (some (n0, xs)) (d + 8) 122 [.ref 1, .int (iz ((xs (x3 + 1).toNat).toInt)), .int (iz ((xs (x3 + 2).toNat).toInt))] m J P (fun z225 m222 J223 P224 => PP P224 ∧ ((0 : Int) ≤ (x3 + 1) ∧ ((x3 + 1) : Int) < n0) ∧ ((0 : Int) ≤ (x3 + 2) ∧ ((x3 + 2) : Int) < n0) ∧ Ci (some (n0, xs)) (d + 8) 213 [.ref 262, .int (iz ((xs (x3 + 1).toNat).toInt)), .int (iz ((xs (x3 + 2).toNat).toInt))] m222 J223 P224 (fun z232 m229 J230 P231 => PP P231 ∧ Zr (z225) ∧ Zr (z232) ∧ (((z225 = z232) → Rn (some (n0, xs)) (d + 9) 0 569 [some (.ref 0), some (.ref 1), some (.ref 262), some (.int (iz x3))] [] (SS m229 J230 P231) (QI post)) ∧ (¬ (z225 = z232) → post 0 m229 J230 P231))))) ∧ ((zand ((xs x3.toNat).toInt) 15 = 13) → ((0 : Int) ≤ (x3 + 1) ∧ ((x3 + 1) : Int) < n0) ∧ ((0 : Int) ≤ (x3 + 2) ∧ ((x3 + 2) : Int) < n0) ∧ Ci (some (n0, xs)) (d + 8) 125 [.ref 1, .int (iz ((xs (x3 + 1).toNat).toInt)), .int (iz ((xs (x3 + 2).toNat).toInt))] m J P (fun z241 m238 J239 P240 => PP P240 ∧ ((0 : Int) ≤ (x3 + 1) ∧ ((x3 + 1) : Int) < n0) ∧ ((0 : Int) ≤ (x3 + 2) ∧ ((x3 + 2) : Int) < n0) ∧ Ci (some (n0, xs)) (d + 8) 215 [.ref 262, .int (iz ((xs (x3 + 1).toNat).toInt)), .int (iz ((xs (x3 + 2).toNat).toInt))] m238 J239 P240 (fun z248 m245 J246 P247 => PP P247 ∧ Zr (z241) ∧ Zr (z248) ∧ (((z241 = z248) → Rn (some (n0, xs)) (d + 9) 0 569 [some (.ref 0), some (.ref 1), some (.ref 262), some (.int (iz x3))] [] (SS m245 J246 P247) (QI post)) ∧ (¬ (z241 = z248) → post 0 m245 J246 P247))))) ∧ ((zand ((xs x3.toNat).toInt) 15 = 14) → ((0 : Int) ≤ (x3 + 1) ∧ ((x3 + 1) : Int) < n0) ∧ Ci (some (n0, xs)) (d + 8) 131 [.ref 1, .int (iz ((xs (x3 + 1).toNat).toInt))] m J P (fun z256 m253 J254 P255 => PP P255 ∧ ((0 : Int) ≤ (x3 + 1) ∧ ((x3 + 1) : Int) < n0) ∧ Ci (some (n0, xs)) (d + 8) 216 [.ref 262, .int (iz ((xs (x3 + 1).toNat).toInt))] m253 J254 P255 (fun z262 m259 J260 P261 => PP P261 ∧ Zr (z256) ∧ Zr (z262) ∧ (((z256 = z262) → Rn (some (n0, xs)) (d + 9) 0 569 [some (.ref 0), some (.ref 1), some (.ref 262), some (.int (iz x3))] [] (SS m259 J260 P261) (QI post)) ∧ (¬ (z256 = z262) → post 0 m259 J260 P261))))) ∧ (((zand ((xs x3.toNat).toInt) 15) < 0 ∨ 14 < (zand ((xs x3.toNat).toInt) 15)) → Rn (some (n0, xs)) (d + 9) 0 569 [some (.ref 0), some (.ref 1), some (.ref 262), some (.int (iz x3))] [] (SS m J P) (QI post)))))) : Rn (some (n0, xs)) (d + 9) 0 18 [some (.ref 0), some (.ref 1), some (.ref 262), some (.int (iz x3))] [] (SS m J P) (QI post) := by
  refine s_iload_n (pc := 18) rfl rfl ?_
  refine s_aload_n (pc := 19) rfl rfl ?_
  refine s_slen (pc := 20) rfl ?_
  refine s_bipush (pc := 21) rfl (by decide) ?_
  refine s_isub (pc := 23) rfl ?_
  obtain ⟨hz1, hw⟩ := hw
  obtain ⟨hz2, hw⟩ := hw
  refine s_ic_gt (pc := 24) (tgt := 575) rfl rfl hz1 hz2 (fun hc => ?_) (fun hc => ?_)
  · replace hw := hw.1 hc
    refine s_iconst (pc := 575) rfl ?_
    exact s_retz (pc := 576) rfl rfl (by decide) hw
  · replace hw := hw.2 hc
    refine s_aload_n (pc := 27) rfl rfl ?_
    refine s_iload_n (pc := 28) rfl rfl ?_
    obtain ⟨hb3, hw⟩ := hw
    refine s_sld (pc := 29) rfl hL hb3 ?_
    refine s_bipush (pc := 30) rfl (by decide) ?_
    refine s_iand (pc := 32) rfl ?_
    obtain ⟨hz4, hw⟩ := hw
    by_cases hs0 : zand ((xs x3.toNat).toInt) 15 = 0
    · replace hw := hw.1 hs0
      refine s_tsw_at (pc := 33) (v := 0) (tgt := 108) rfl hz4 hs0 (by decide) rfl rfl ?_
      refine s_aload_n (pc := 108) rfl rfl ?_
      refine s_aload_n (pc := 109) rfl rfl ?_
      refine s_iload_n (pc := 110) rfl rfl ?_
      refine s_iconst (pc := 111) rfl ?_
      refine s_iadd (pc := 112) rfl ?_
      obtain ⟨hb5, hw⟩ := hw
      refine s_sld (pc := 113) rfl hL hb5 ?_
      refine s_aload_n (pc := 114) rfl rfl ?_
      refine s_iload_n (pc := 115) rfl rfl ?_
      refine s_iconst (pc := 116) rfl ?_
      refine s_iadd (pc := 117) rfl ?_
      obtain ⟨hb6, hw⟩ := hw
      refine s_sld (pc := 118) rfl hL hb6 ?_
      refine s_aload_n (pc := 119) rfl rfl ?_
      refine s_iload_n (pc := 120) rfl rfl ?_
      refine s_iconst (pc := 121) rfl ?_
      refine s_iadd (pc := 122) rfl ?_
      obtain ⟨hb7, hw⟩ := hw
      refine s_sld (pc := 123) rfl hL hb7 ?_
      refine s_aload_n (pc := 124) rfl rfl ?_
      refine s_iload_n (pc := 125) rfl rfl ?_
      refine s_iconst (pc := 126) rfl ?_
      refine s_iadd (pc := 127) rfl ?_
      obtain ⟨hb8, hw⟩ := hw
      refine s_sld (pc := 128) rfl hL hb8 ?_
      refine s_aload_n (pc := 129) rfl rfl ?_
      refine s_iload_n (pc := 130) rfl rfl ?_
      refine s_iconst (pc := 131) rfl ?_
      refine s_iadd (pc := 132) rfl ?_
      obtain ⟨hb9, hw⟩ := hw
      refine s_sld (pc := 133) rfl hL hb9 ?_
      refine s_ci (pc := 134) (d := (d + 8)) (t := []) rfl rfl (am_ca_v (ps := [.int (iz ((xs (x3 + 5).toNat).toInt)), .int (iz ((xs (x3 + 4).toNat).toInt)), .int (iz ((xs (x3 + 3).toNat).toInt)), .int (iz ((xs (x3 + 2).toNat).toInt)), .int (iz ((xs (x3 + 1).toNat).toInt))]) rfl ko_1) (Nat.le_of_ble_eq_true rfl) (Ci.weak hw fun z13 m10 J11 P12 hw => ?_)
      obtain ⟨hp14, hw⟩ := hw
      refine s_aload_n (pc := 137) rfl rfl ?_
      refine s_aload_n (pc := 138) rfl rfl ?_
      refine s_iload_n (pc := 139) rfl rfl ?_
      refine s_iconst (pc := 140) rfl ?_
      refine s_iadd (pc := 141) rfl ?_
      obtain ⟨hb15, hw⟩ := hw
      refine s_sld (pc := 142) rfl hL hb15 ?_
      refine s_aload_n (pc := 143) rfl rfl ?_
      refine s_iload_n (pc := 144) rfl rfl ?_
      refine s_iconst (pc := 145) rfl ?_
      refine s_iadd (pc := 146) rfl ?_
      obtain ⟨hb16, hw⟩ := hw
      refine s_sld (pc := 147) rfl hL hb16 ?_
      refine s_aload_n (pc := 148) rfl rfl ?_
      refine s_iload_n (pc := 149) rfl rfl ?_
      refine s_iconst (pc := 150) rfl ?_
      refine s_iadd (pc := 151) rfl ?_
      obtain ⟨hb17, hw⟩ := hw
      refine s_sld (pc := 152) rfl hL hb17 ?_
      refine s_aload_n (pc := 153) rfl rfl ?_
      refine s_iload_n (pc := 154) rfl rfl ?_
      refine s_iconst (pc := 155) rfl ?_
      refine s_iadd (pc := 156) rfl ?_
      obtain ⟨hb18, hw⟩ := hw
      refine s_sld (pc := 157) rfl hL hb18 ?_
      refine s_aload_n (pc := 158) rfl rfl ?_
      refine s_iload_n (pc := 159) rfl rfl ?_
      refine s_iconst (pc := 160) rfl ?_
      refine s_iadd (pc := 161) rfl ?_
      obtain ⟨hb19, hw⟩ := hw
      refine s_sld (pc := 162) rfl hL hb19 ?_
      refine s_ci (pc := 163) (d := (d + 8)) (t := [.int (iz z13)]) rfl rfl (am_ca_v (ps := [.int (iz ((xs (x3 + 5).toNat).toInt)), .int (iz ((xs (x3 + 4).toNat).toInt)), .int (iz ((xs (x3 + 3).toNat).toInt)), .int (iz ((xs (x3 + 2).toNat).toInt)), .int (iz ((xs (x3 + 1).toNat).toInt))]) rfl ko_262) (Nat.le_of_ble_eq_true rfl) (Ci.weak hw fun z23 m20 J21 P22 hw => ?_)
      obtain ⟨hp24, hw⟩ := hw
      obtain ⟨hz25, hw⟩ := hw
      obtain ⟨hz26, hw⟩ := hw
      refine s_ic_eq (pc := 166) (tgt := 569) rfl rfl hz25 hz26 (fun hc => ?_) (fun hc => ?_)
      · replace hw := hw.1 hc
        exact hw
      · replace hw := hw.2 hc
        refine s_iconst (pc := 169) rfl ?_
        exact s_retz (pc := 170) rfl rfl (by decide) hw
    replace hw := hw.2
    by_cases hs1 : zand ((xs x3.toNat).toInt) 15 = 1
    · replace hw := hw.1 hs1
      refine s_tsw_at (pc := 33) (v := 1) (tgt := 171) rfl hz4 hs1 (by decide) rfl rfl ?_
      refine s_aload_n (pc := 171) rfl rfl ?_
      refine s_aload_n (pc := 172) rfl rfl ?_
      refine s_iload_n (pc := 173) rfl rfl ?_
      refine s_iconst (pc := 174) rfl ?_
      refine s_iadd (pc := 175) rfl ?_
      obtain ⟨hb27, hw⟩ := hw
      refine s_sld (pc := 176) rfl hL hb27 ?_
      refine s_ci (pc := 177) (d := (d + 8)) (t := []) rfl rfl (am_ca_v (ps := [.int (iz ((xs (x3 + 1).toNat).toInt))]) rfl ko_1) (Nat.le_of_ble_eq_true rfl) (Ci.weak hw fun z31 m28 J29 P30 hw => ?_)
      obtain ⟨hp32, hw⟩ := hw
      refine s_aload_n (pc := 180) rfl rfl ?_
      refine s_aload_n (pc := 181) rfl rfl ?_
      refine s_iload_n (pc := 182) rfl rfl ?_
      refine s_iconst (pc := 183) rfl ?_
      refine s_iadd (pc := 184) rfl ?_
      obtain ⟨hb33, hw⟩ := hw
      refine s_sld (pc := 185) rfl hL hb33 ?_
      refine s_ci (pc := 186) (d := (d + 8)) (t := [.int (iz z31)]) rfl rfl (am_ca_v (ps := [.int (iz ((xs (x3 + 1).toNat).toInt))]) rfl ko_262) (Nat.le_of_ble_eq_true rfl) (Ci.weak hw fun z37 m34 J35 P36 hw => ?_)
      obtain ⟨hp38, hw⟩ := hw
      obtain ⟨hz39, hw⟩ := hw
      obtain ⟨hz40, hw⟩ := hw
      refine s_ic_eq (pc := 189) (tgt := 569) rfl rfl hz39 hz40 (fun hc => ?_) (fun hc => ?_)
      · replace hw := hw.1 hc
        exact hw
      · replace hw := hw.2 hc
        refine s_iconst (pc := 192) rfl ?_
        exact s_retz (pc := 193) rfl rfl (by decide) hw
    replace hw := hw.2
    by_cases hs2 : zand ((xs x3.toNat).toInt) 15 = 2
    · replace hw := hw.1 hs2
      refine s_tsw_at (pc := 33) (v := 2) (tgt := 194) rfl hz4 hs2 (by decide) rfl rfl ?_
      refine s_aload_n (pc := 194) rfl rfl ?_
      refine s_aload_n (pc := 195) rfl rfl ?_
      refine s_iload_n (pc := 196) rfl rfl ?_
      refine s_iconst (pc := 197) rfl ?_
      refine s_iadd (pc := 198) rfl ?_
      obtain ⟨hb41, hw⟩ := hw
      refine s_sld (pc := 199) rfl hL hb41 ?_
      refine s_ci (pc := 200) (d := (d + 8)) (t := []) rfl rfl (am_ca_v (ps := [.int (iz ((xs (x3 + 1).toNat).toInt))]) rfl ko_1) (Nat.le_of_ble_eq_true rfl) (Ci.weak hw fun z45 m42 J43 P44 hw => ?_)
      obtain ⟨hp46, hw⟩ := hw
      refine s_aload_n (pc := 203) rfl rfl ?_
      refine s_aload_n (pc := 204) rfl rfl ?_
      refine s_iload_n (pc := 205) rfl rfl ?_
      refine s_iconst (pc := 206) rfl ?_
      refine s_iadd (pc := 207) rfl ?_
      obtain ⟨hb47, hw⟩ := hw
      refine s_sld (pc := 208) rfl hL hb47 ?_
      refine s_ci (pc := 209) (d := (d + 8)) (t := [.int (iz z45)]) rfl rfl (am_ca_v (ps := [.int (iz ((xs (x3 + 1).toNat).toInt))]) rfl ko_262) (Nat.le_of_ble_eq_true rfl) (Ci.weak hw fun z51 m48 J49 P50 hw => ?_)
      obtain ⟨hp52, hw⟩ := hw
      obtain ⟨hz53, hw⟩ := hw
      obtain ⟨hz54, hw⟩ := hw
      refine s_ic_eq (pc := 212) (tgt := 569) rfl rfl hz53 hz54 (fun hc => ?_) (fun hc => ?_)
      · replace hw := hw.1 hc
        exact hw
      · replace hw := hw.2 hc
        refine s_iconst (pc := 215) rfl ?_
        exact s_retz (pc := 216) rfl rfl (by decide) hw
    replace hw := hw.2
    by_cases hs3 : zand ((xs x3.toNat).toInt) 15 = 3
    · replace hw := hw.1 hs3
      refine s_tsw_at (pc := 33) (v := 3) (tgt := 217) rfl hz4 hs3 (by decide) rfl rfl ?_
      refine s_aload_n (pc := 217) rfl rfl ?_
      refine s_aload_n (pc := 218) rfl rfl ?_
      refine s_iload_n (pc := 219) rfl rfl ?_
      refine s_iconst (pc := 220) rfl ?_
      refine s_iadd (pc := 221) rfl ?_
      obtain ⟨hb55, hw⟩ := hw
      refine s_sld (pc := 222) rfl hL hb55 ?_
      refine s_ci (pc := 223) (d := (d + 8)) (t := []) rfl rfl (am_ca_v (ps := [.int (iz ((xs (x3 + 1).toNat).toInt))]) rfl ko_1) (Nat.le_of_ble_eq_true rfl) (Ci.weak hw fun z59 m56 J57 P58 hw => ?_)
      obtain ⟨hp60, hw⟩ := hw
      refine s_aload_n (pc := 226) rfl rfl ?_
      refine s_aload_n (pc := 227) rfl rfl ?_
      refine s_iload_n (pc := 228) rfl rfl ?_
      refine s_iconst (pc := 229) rfl ?_
      refine s_iadd (pc := 230) rfl ?_
      obtain ⟨hb61, hw⟩ := hw
      refine s_sld (pc := 231) rfl hL hb61 ?_
      refine s_ci (pc := 232) (d := (d + 8)) (t := [.int (iz z59)]) rfl rfl (am_ca_v (ps := [.int (iz ((xs (x3 + 1).toNat).toInt))]) rfl ko_262) (Nat.le_of_ble_eq_true rfl) (Ci.weak hw fun z65 m62 J63 P64 hw => ?_)
      obtain ⟨hp66, hw⟩ := hw
      obtain ⟨hz67, hw⟩ := hw
      obtain ⟨hz68, hw⟩ := hw
      refine s_ic_eq (pc := 235) (tgt := 569) rfl rfl hz67 hz68 (fun hc => ?_) (fun hc => ?_)
      · replace hw := hw.1 hc
        exact hw
      · replace hw := hw.2 hc
        refine s_iconst (pc := 238) rfl ?_
        exact s_retz (pc := 239) rfl rfl (by decide) hw
    replace hw := hw.2
    by_cases hs4 : zand ((xs x3.toNat).toInt) 15 = 4
    · replace hw := hw.1 hs4
      refine s_tsw_at (pc := 33) (v := 4) (tgt := 240) rfl hz4 hs4 (by decide) rfl rfl ?_
      refine s_aload_n (pc := 240) rfl rfl ?_
      refine s_aload_n (pc := 241) rfl rfl ?_
      refine s_iload_n (pc := 242) rfl rfl ?_
      refine s_iconst (pc := 243) rfl ?_
      refine s_iadd (pc := 244) rfl ?_
      obtain ⟨hb69, hw⟩ := hw
      refine s_sld (pc := 245) rfl hL hb69 ?_
      refine s_aload_n (pc := 246) rfl rfl ?_
      refine s_iload_n (pc := 247) rfl rfl ?_
      refine s_iconst (pc := 248) rfl ?_
      refine s_iadd (pc := 249) rfl ?_
      obtain ⟨hb70, hw⟩ := hw
      refine s_sld (pc := 250) rfl hL hb70 ?_
      refine s_ci (pc := 251) (d := (d + 8)) (t := []) rfl rfl (am_ca_v (ps := [.int (iz ((xs (x3 + 2).toNat).toInt)), .int (iz ((xs (x3 + 1).toNat).toInt))]) rfl ko_1) (Nat.le_of_ble_eq_true rfl) (Ci.weak hw fun z74 m71 J72 P73 hw => ?_)
      obtain ⟨hp75, hw⟩ := hw
      refine s_aload_n (pc := 254) rfl rfl ?_
      refine s_aload_n (pc := 255) rfl rfl ?_
      refine s_iload_n (pc := 256) rfl rfl ?_
      refine s_iconst (pc := 257) rfl ?_
      refine s_iadd (pc := 258) rfl ?_
      obtain ⟨hb76, hw⟩ := hw
      refine s_sld (pc := 259) rfl hL hb76 ?_
      refine s_aload_n (pc := 260) rfl rfl ?_
      refine s_iload_n (pc := 261) rfl rfl ?_
      refine s_iconst (pc := 262) rfl ?_
      refine s_iadd (pc := 263) rfl ?_
      obtain ⟨hb77, hw⟩ := hw
      refine s_sld (pc := 264) rfl hL hb77 ?_
      refine s_ci (pc := 265) (d := (d + 8)) (t := [.int (iz z74)]) rfl rfl (am_ca_v (ps := [.int (iz ((xs (x3 + 2).toNat).toInt)), .int (iz ((xs (x3 + 1).toNat).toInt))]) rfl ko_262) (Nat.le_of_ble_eq_true rfl) (Ci.weak hw fun z81 m78 J79 P80 hw => ?_)
      obtain ⟨hp82, hw⟩ := hw
      obtain ⟨hz83, hw⟩ := hw
      obtain ⟨hz84, hw⟩ := hw
      refine s_ic_eq (pc := 268) (tgt := 569) rfl rfl hz83 hz84 (fun hc => ?_) (fun hc => ?_)
      · replace hw := hw.1 hc
        exact hw
      · replace hw := hw.2 hc
        refine s_iconst (pc := 271) rfl ?_
        exact s_retz (pc := 272) rfl rfl (by decide) hw
    replace hw := hw.2
    by_cases hs5 : zand ((xs x3.toNat).toInt) 15 = 5
    · replace hw := hw.1 hs5
      refine s_tsw_at (pc := 33) (v := 5) (tgt := 273) rfl hz4 hs5 (by decide) rfl rfl ?_
      refine s_aload_n (pc := 273) rfl rfl ?_
      refine s_aload_n (pc := 274) rfl rfl ?_
      refine s_iload_n (pc := 275) rfl rfl ?_
      refine s_iconst (pc := 276) rfl ?_
      refine s_iadd (pc := 277) rfl ?_
      obtain ⟨hb85, hw⟩ := hw
      refine s_sld (pc := 278) rfl hL hb85 ?_
      refine s_ci (pc := 279) (d := (d + 8)) (t := []) rfl rfl (am_ca_v (ps := [.int (iz ((xs (x3 + 1).toNat).toInt))]) rfl ko_1) (Nat.le_of_ble_eq_true rfl) (Ci.weak hw fun z89 m86 J87 P88 hw => ?_)
      obtain ⟨hp90, hw⟩ := hw
      refine s_aload_n (pc := 282) rfl rfl ?_
      refine s_aload_n (pc := 283) rfl rfl ?_
      refine s_iload_n (pc := 284) rfl rfl ?_
      refine s_iconst (pc := 285) rfl ?_
      refine s_iadd (pc := 286) rfl ?_
      obtain ⟨hb91, hw⟩ := hw
      refine s_sld (pc := 287) rfl hL hb91 ?_
      refine s_ci (pc := 288) (d := (d + 8)) (t := [.int (iz z89)]) rfl rfl (am_ca_v (ps := [.int (iz ((xs (x3 + 1).toNat).toInt))]) rfl ko_262) (Nat.le_of_ble_eq_true rfl) (Ci.weak hw fun z95 m92 J93 P94 hw => ?_)
      obtain ⟨hp96, hw⟩ := hw
      obtain ⟨hz97, hw⟩ := hw
      obtain ⟨hz98, hw⟩ := hw
      refine s_ic_eq (pc := 291) (tgt := 569) rfl rfl hz97 hz98 (fun hc => ?_) (fun hc => ?_)
      · replace hw := hw.1 hc
        exact hw
      · replace hw := hw.2 hc
        refine s_iconst (pc := 294) rfl ?_
        exact s_retz (pc := 295) rfl rfl (by decide) hw
    replace hw := hw.2
    by_cases hs6 : zand ((xs x3.toNat).toInt) 15 = 6
    · replace hw := hw.1 hs6
      refine s_tsw_at (pc := 33) (v := 6) (tgt := 296) rfl hz4 hs6 (by decide) rfl rfl ?_
      refine s_aload_n (pc := 296) rfl rfl ?_
      refine s_aload_n (pc := 297) rfl rfl ?_
      refine s_iload_n (pc := 298) rfl rfl ?_
      refine s_iconst (pc := 299) rfl ?_
      refine s_iadd (pc := 300) rfl ?_
      obtain ⟨hb99, hw⟩ := hw
      refine s_sld (pc := 301) rfl hL hb99 ?_
      refine s_ci (pc := 302) (d := (d + 8)) (t := []) rfl rfl (am_ca_v (ps := [.int (iz ((xs (x3 + 1).toNat).toInt))]) rfl ko_1) (Nat.le_of_ble_eq_true rfl) (Ci.weak hw fun z103 m100 J101 P102 hw => ?_)
      obtain ⟨hp104, hw⟩ := hw
      refine s_aload_n (pc := 305) rfl rfl ?_
      refine s_aload_n (pc := 306) rfl rfl ?_
      refine s_iload_n (pc := 307) rfl rfl ?_
      refine s_iconst (pc := 308) rfl ?_
      refine s_iadd (pc := 309) rfl ?_
      obtain ⟨hb105, hw⟩ := hw
      refine s_sld (pc := 310) rfl hL hb105 ?_
      refine s_ci (pc := 311) (d := (d + 8)) (t := [.int (iz z103)]) rfl rfl (am_ca_v (ps := [.int (iz ((xs (x3 + 1).toNat).toInt))]) rfl ko_262) (Nat.le_of_ble_eq_true rfl) (Ci.weak hw fun z109 m106 J107 P108 hw => ?_)
      obtain ⟨hp110, hw⟩ := hw
      obtain ⟨hz111, hw⟩ := hw
      obtain ⟨hz112, hw⟩ := hw
      refine s_ic_eq (pc := 314) (tgt := 569) rfl rfl hz111 hz112 (fun hc => ?_) (fun hc => ?_)
      · replace hw := hw.1 hc
        exact hw
      · replace hw := hw.2 hc
        refine s_iconst (pc := 317) rfl ?_
        exact s_retz (pc := 318) rfl rfl (by decide) hw
    replace hw := hw.2
    by_cases hs7 : zand ((xs x3.toNat).toInt) 15 = 7
    · replace hw := hw.1 hs7
      refine s_tsw_at (pc := 33) (v := 7) (tgt := 319) rfl hz4 hs7 (by decide) rfl rfl ?_
      refine s_aload_n (pc := 319) rfl rfl ?_
      refine s_aload_n (pc := 320) rfl rfl ?_
      refine s_iload_n (pc := 321) rfl rfl ?_
      refine s_iconst (pc := 322) rfl ?_
      refine s_iadd (pc := 323) rfl ?_
      obtain ⟨hb113, hw⟩ := hw
      refine s_sld (pc := 324) rfl hL hb113 ?_
      refine s_aload_n (pc := 325) rfl rfl ?_
      refine s_iload_n (pc := 326) rfl rfl ?_
      refine s_iconst (pc := 327) rfl ?_
      refine s_iadd (pc := 328) rfl ?_
      obtain ⟨hb114, hw⟩ := hw
      refine s_sld (pc := 329) rfl hL hb114 ?_
      obtain ⟨hz115, hw⟩ := hw
      refine s_if_eq (pc := 330) (tgt := 337) rfl rfl hz115 (fun hc => ?_) (fun hc => ?_)
      · replace hw := hw.1 hc
        refine s_iconst (pc := 337) rfl ?_
        refine s_ci (pc := 338) (d := (d + 8)) (t := []) rfl rfl (am_ca_v (ps := [.int (iz 0), .int (iz ((xs (x3 + 1).toNat).toInt))]) rfl ko_1) (Nat.le_of_ble_eq_true rfl) (Ci.weak hw fun z119 m116 J117 P118 hw => ?_)
        obtain ⟨hp120, hw⟩ := hw
        refine s_aload_n (pc := 341) rfl rfl ?_
        refine s_aload_n (pc := 342) rfl rfl ?_
        refine s_iload_n (pc := 343) rfl rfl ?_
        refine s_iconst (pc := 344) rfl ?_
        refine s_iadd (pc := 345) rfl ?_
        obtain ⟨hb121, hw⟩ := hw
        refine s_sld (pc := 346) rfl hL hb121 ?_
        refine s_aload_n (pc := 347) rfl rfl ?_
        refine s_iload_n (pc := 348) rfl rfl ?_
        refine s_iconst (pc := 349) rfl ?_
        refine s_iadd (pc := 350) rfl ?_
        obtain ⟨hb122, hw⟩ := hw
        refine s_sld (pc := 351) rfl hL hb122 ?_
        obtain ⟨hz123, hw⟩ := hw
        refine s_if_eq (pc := 352) (tgt := 359) rfl rfl hz123 (fun hc => ?_) (fun hc => ?_)
        · replace hw := hw.1 hc
          refine s_iconst (pc := 359) rfl ?_
          refine s_ci (pc := 360) (d := (d + 8)) (t := [.int (iz z119)]) rfl rfl (am_ca_v (ps := [.int (iz 0), .int (iz ((xs (x3 + 1).toNat).toInt))]) rfl ko_262) (Nat.le_of_ble_eq_true rfl) (Ci.weak hw fun z127 m124 J125 P126 hw => ?_)
          obtain ⟨hp128, hw⟩ := hw
          obtain ⟨hz129, hw⟩ := hw
          obtain ⟨hz130, hw⟩ := hw
          refine s_ic_eq (pc := 363) (tgt := 569) rfl rfl hz129 hz130 (fun hc => ?_) (fun hc => ?_)
          · replace hw := hw.1 hc
            exact hw
          · replace hw := hw.2 hc
            refine s_iconst (pc := 366) rfl ?_
            exact s_retz (pc := 367) rfl rfl (by decide) hw
        · replace hw := hw.2 hc
          refine s_iconst (pc := 355) rfl ?_
          refine s_goto (pc := 356) (tgt := 360) rfl rfl ?_
          refine s_ci (pc := 360) (d := (d + 8)) (t := [.int (iz z119)]) rfl rfl (am_ca_v (ps := [.int (iz 1), .int (iz ((xs (x3 + 1).toNat).toInt))]) rfl ko_262) (Nat.le_of_ble_eq_true rfl) (Ci.weak hw fun z134 m131 J132 P133 hw => ?_)
          obtain ⟨hp135, hw⟩ := hw
          obtain ⟨hz136, hw⟩ := hw
          obtain ⟨hz137, hw⟩ := hw
          refine s_ic_eq (pc := 363) (tgt := 569) rfl rfl hz136 hz137 (fun hc => ?_) (fun hc => ?_)
          · replace hw := hw.1 hc
            exact hw
          · replace hw := hw.2 hc
            refine s_iconst (pc := 366) rfl ?_
            exact s_retz (pc := 367) rfl rfl (by decide) hw
      · replace hw := hw.2 hc
        refine s_iconst (pc := 333) rfl ?_
        refine s_goto (pc := 334) (tgt := 338) rfl rfl ?_
        refine s_ci (pc := 338) (d := (d + 8)) (t := []) rfl rfl (am_ca_v (ps := [.int (iz 1), .int (iz ((xs (x3 + 1).toNat).toInt))]) rfl ko_1) (Nat.le_of_ble_eq_true rfl) (Ci.weak hw fun z141 m138 J139 P140 hw => ?_)
        obtain ⟨hp142, hw⟩ := hw
        refine s_aload_n (pc := 341) rfl rfl ?_
        refine s_aload_n (pc := 342) rfl rfl ?_
        refine s_iload_n (pc := 343) rfl rfl ?_
        refine s_iconst (pc := 344) rfl ?_
        refine s_iadd (pc := 345) rfl ?_
        obtain ⟨hb143, hw⟩ := hw
        refine s_sld (pc := 346) rfl hL hb143 ?_
        refine s_aload_n (pc := 347) rfl rfl ?_
        refine s_iload_n (pc := 348) rfl rfl ?_
        refine s_iconst (pc := 349) rfl ?_
        refine s_iadd (pc := 350) rfl ?_
        obtain ⟨hb144, hw⟩ := hw
        refine s_sld (pc := 351) rfl hL hb144 ?_
        obtain ⟨hz145, hw⟩ := hw
        refine s_if_eq (pc := 352) (tgt := 359) rfl rfl hz145 (fun hc => ?_) (fun hc => ?_)
        · replace hw := hw.1 hc
          refine s_iconst (pc := 359) rfl ?_
          refine s_ci (pc := 360) (d := (d + 8)) (t := [.int (iz z141)]) rfl rfl (am_ca_v (ps := [.int (iz 0), .int (iz ((xs (x3 + 1).toNat).toInt))]) rfl ko_262) (Nat.le_of_ble_eq_true rfl) (Ci.weak hw fun z149 m146 J147 P148 hw => ?_)
          obtain ⟨hp150, hw⟩ := hw
          obtain ⟨hz151, hw⟩ := hw
          obtain ⟨hz152, hw⟩ := hw
          refine s_ic_eq (pc := 363) (tgt := 569) rfl rfl hz151 hz152 (fun hc => ?_) (fun hc => ?_)
          · replace hw := hw.1 hc
            exact hw
          · replace hw := hw.2 hc
            refine s_iconst (pc := 366) rfl ?_
            exact s_retz (pc := 367) rfl rfl (by decide) hw
        · replace hw := hw.2 hc
          refine s_iconst (pc := 355) rfl ?_
          refine s_goto (pc := 356) (tgt := 360) rfl rfl ?_
          refine s_ci (pc := 360) (d := (d + 8)) (t := [.int (iz z141)]) rfl rfl (am_ca_v (ps := [.int (iz 1), .int (iz ((xs (x3 + 1).toNat).toInt))]) rfl ko_262) (Nat.le_of_ble_eq_true rfl) (Ci.weak hw fun z156 m153 J154 P155 hw => ?_)
          obtain ⟨hp157, hw⟩ := hw
          obtain ⟨hz158, hw⟩ := hw
          obtain ⟨hz159, hw⟩ := hw
          refine s_ic_eq (pc := 363) (tgt := 569) rfl rfl hz158 hz159 (fun hc => ?_) (fun hc => ?_)
          · replace hw := hw.1 hc
            exact hw
          · replace hw := hw.2 hc
            refine s_iconst (pc := 366) rfl ?_
            exact s_retz (pc := 367) rfl rfl (by decide) hw
    replace hw := hw.2
    by_cases hs8 : zand ((xs x3.toNat).toInt) 15 = 8
    · replace hw := hw.1 hs8
      refine s_tsw_at (pc := 33) (v := 8) (tgt := 368) rfl hz4 hs8 (by decide) rfl rfl ?_
      refine s_aload_n (pc := 368) rfl rfl ?_
      refine s_aload_n (pc := 369) rfl rfl ?_
      refine s_iload_n (pc := 370) rfl rfl ?_
      refine s_iconst (pc := 371) rfl ?_
      refine s_iadd (pc := 372) rfl ?_
      obtain ⟨hb160, hw⟩ := hw
      refine s_sld (pc := 373) rfl hL hb160 ?_
      refine s_ci (pc := 374) (d := (d + 8)) (t := []) rfl rfl (am_ca_v (ps := [.int (iz ((xs (x3 + 1).toNat).toInt))]) rfl ko_1) (Nat.le_of_ble_eq_true rfl) (Ci.weak hw fun z164 m161 J162 P163 hw => ?_)
      obtain ⟨hp165, hw⟩ := hw
      refine s_aload_n (pc := 377) rfl rfl ?_
      refine s_aload_n (pc := 378) rfl rfl ?_
      refine s_iload_n (pc := 379) rfl rfl ?_
      refine s_iconst (pc := 380) rfl ?_
      refine s_iadd (pc := 381) rfl ?_
      obtain ⟨hb166, hw⟩ := hw
      refine s_sld (pc := 382) rfl hL hb166 ?_
      refine s_ci (pc := 383) (d := (d + 8)) (t := [.int (iz z164)]) rfl rfl (am_ca_v (ps := [.int (iz ((xs (x3 + 1).toNat).toInt))]) rfl ko_262) (Nat.le_of_ble_eq_true rfl) (Ci.weak hw fun z170 m167 J168 P169 hw => ?_)
      obtain ⟨hp171, hw⟩ := hw
      obtain ⟨hz172, hw⟩ := hw
      obtain ⟨hz173, hw⟩ := hw
      refine s_ic_eq (pc := 386) (tgt := 569) rfl rfl hz172 hz173 (fun hc => ?_) (fun hc => ?_)
      · replace hw := hw.1 hc
        exact hw
      · replace hw := hw.2 hc
        refine s_iconst (pc := 389) rfl ?_
        exact s_retz (pc := 390) rfl rfl (by decide) hw
    replace hw := hw.2
    by_cases hs9 : zand ((xs x3.toNat).toInt) 15 = 9
    · replace hw := hw.1 hs9
      refine s_tsw_at (pc := 33) (v := 9) (tgt := 391) rfl hz4 hs9 (by decide) rfl rfl ?_
      refine s_aload_n (pc := 391) rfl rfl ?_
      refine s_aload_n (pc := 392) rfl rfl ?_
      refine s_iload_n (pc := 393) rfl rfl ?_
      refine s_iconst (pc := 394) rfl ?_
      refine s_iadd (pc := 395) rfl ?_
      obtain ⟨hb174, hw⟩ := hw
      refine s_sld (pc := 396) rfl hL hb174 ?_
      refine s_ci (pc := 397) (d := (d + 8)) (t := []) rfl rfl (am_ca_v (ps := [.int (iz ((xs (x3 + 1).toNat).toInt))]) rfl ko_1) (Nat.le_of_ble_eq_true rfl) (Ci.weak hw fun z178 m175 J176 P177 hw => ?_)
      obtain ⟨hp179, hw⟩ := hw
      refine s_aload_n (pc := 400) rfl rfl ?_
      refine s_aload_n (pc := 401) rfl rfl ?_
      refine s_iload_n (pc := 402) rfl rfl ?_
      refine s_iconst (pc := 403) rfl ?_
      refine s_iadd (pc := 404) rfl ?_
      obtain ⟨hb180, hw⟩ := hw
      refine s_sld (pc := 405) rfl hL hb180 ?_
      refine s_ci (pc := 406) (d := (d + 8)) (t := [.int (iz z178)]) rfl rfl (am_ca_v (ps := [.int (iz ((xs (x3 + 1).toNat).toInt))]) rfl ko_262) (Nat.le_of_ble_eq_true rfl) (Ci.weak hw fun z184 m181 J182 P183 hw => ?_)
      obtain ⟨hp185, hw⟩ := hw
      obtain ⟨hz186, hw⟩ := hw
      obtain ⟨hz187, hw⟩ := hw
      refine s_ic_eq (pc := 409) (tgt := 569) rfl rfl hz186 hz187 (fun hc => ?_) (fun hc => ?_)
      · replace hw := hw.1 hc
        exact hw
      · replace hw := hw.2 hc
        refine s_iconst (pc := 412) rfl ?_
        exact s_retz (pc := 413) rfl rfl (by decide) hw
    replace hw := hw.2
    by_cases hs10 : zand ((xs x3.toNat).toInt) 15 = 10
    · replace hw := hw.1 hs10
      refine s_tsw_at (pc := 33) (v := 10) (tgt := 414) rfl hz4 hs10 (by decide) rfl rfl ?_
      refine s_aload_n (pc := 414) rfl rfl ?_
      refine s_aload_n (pc := 415) rfl rfl ?_
      refine s_iload_n (pc := 416) rfl rfl ?_
      refine s_iconst (pc := 417) rfl ?_
      refine s_iadd (pc := 418) rfl ?_
      obtain ⟨hb188, hw⟩ := hw
      refine s_sld (pc := 419) rfl hL hb188 ?_
      refine s_aload_n (pc := 420) rfl rfl ?_
      refine s_iload_n (pc := 421) rfl rfl ?_
      refine s_iconst (pc := 422) rfl ?_
      refine s_iadd (pc := 423) rfl ?_
      obtain ⟨hb189, hw⟩ := hw
      refine s_sld (pc := 424) rfl hL hb189 ?_
      refine s_ci (pc := 425) (d := (d + 8)) (t := []) rfl rfl (am_ca_v (ps := [.int (iz ((xs (x3 + 2).toNat).toInt)), .int (iz ((xs (x3 + 1).toNat).toInt))]) rfl ko_1) (Nat.le_of_ble_eq_true rfl) (Ci.weak hw fun z193 m190 J191 P192 hw => ?_)
      obtain ⟨hp194, hw⟩ := hw
      refine s_aload_n (pc := 428) rfl rfl ?_
      refine s_aload_n (pc := 429) rfl rfl ?_
      refine s_iload_n (pc := 430) rfl rfl ?_
      refine s_iconst (pc := 431) rfl ?_
      refine s_iadd (pc := 432) rfl ?_
      obtain ⟨hb195, hw⟩ := hw
      refine s_sld (pc := 433) rfl hL hb195 ?_
      refine s_aload_n (pc := 434) rfl rfl ?_
      refine s_iload_n (pc := 435) rfl rfl ?_
      refine s_iconst (pc := 436) rfl ?_
      refine s_iadd (pc := 437) rfl ?_
      obtain ⟨hb196, hw⟩ := hw
      refine s_sld (pc := 438) rfl hL hb196 ?_
      refine s_ci (pc := 439) (d := (d + 8)) (t := [.int (iz z193)]) rfl rfl (am_ca_v (ps := [.int (iz ((xs (x3 + 2).toNat).toInt)), .int (iz ((xs (x3 + 1).toNat).toInt))]) rfl ko_262) (Nat.le_of_ble_eq_true rfl) (Ci.weak hw fun z200 m197 J198 P199 hw => ?_)
      obtain ⟨hp201, hw⟩ := hw
      obtain ⟨hz202, hw⟩ := hw
      obtain ⟨hz203, hw⟩ := hw
      refine s_ic_eq (pc := 442) (tgt := 569) rfl rfl hz202 hz203 (fun hc => ?_) (fun hc => ?_)
      · replace hw := hw.1 hc
        exact hw
      · replace hw := hw.2 hc
        refine s_iconst (pc := 445) rfl ?_
        exact s_retz (pc := 446) rfl rfl (by decide) hw
    replace hw := hw.2
    by_cases hs11 : zand ((xs x3.toNat).toInt) 15 = 11
    · replace hw := hw.1 hs11
      refine s_tsw_at (pc := 33) (v := 11) (tgt := 447) rfl hz4 hs11 (by decide) rfl rfl ?_
      refine s_aload_n (pc := 447) rfl rfl ?_
      refine s_aload_n (pc := 448) rfl rfl ?_
      refine s_iload_n (pc := 449) rfl rfl ?_
      refine s_iconst (pc := 450) rfl ?_
      refine s_iadd (pc := 451) rfl ?_
      obtain ⟨hb204, hw⟩ := hw
      refine s_sld (pc := 452) rfl hL hb204 ?_
      refine s_aload_n (pc := 453) rfl rfl ?_
      refine s_iload_n (pc := 454) rfl rfl ?_
      refine s_iconst (pc := 455) rfl ?_
      refine s_iadd (pc := 456) rfl ?_
      obtain ⟨hb205, hw⟩ := hw
      refine s_sld (pc := 457) rfl hL hb205 ?_
      refine s_ci (pc := 458) (d := (d + 8)) (t := []) rfl rfl (am_ca_v (ps := [.int (iz ((xs (x3 + 2).toNat).toInt)), .int (iz ((xs (x3 + 1).toNat).toInt))]) rfl ko_1) (Nat.le_of_ble_eq_true rfl) (Ci.weak hw fun z209 m206 J207 P208 hw => ?_)
      obtain ⟨hp210, hw⟩ := hw
      refine s_aload_n (pc := 461) rfl rfl ?_
      refine s_aload_n (pc := 462) rfl rfl ?_
      refine s_iload_n (pc := 463) rfl rfl ?_
      refine s_iconst (pc := 464) rfl ?_
      refine s_iadd (pc := 465) rfl ?_
      obtain ⟨hb211, hw⟩ := hw
      refine s_sld (pc := 466) rfl hL hb211 ?_
      refine s_aload_n (pc := 467) rfl rfl ?_
      refine s_iload_n (pc := 468) rfl rfl ?_
      refine s_iconst (pc := 469) rfl ?_
      refine s_iadd (pc := 470) rfl ?_
      obtain ⟨hb212, hw⟩ := hw
      refine s_sld (pc := 471) rfl hL hb212 ?_
      refine s_ci (pc := 472) (d := (d + 8)) (t := [.int (iz z209)]) rfl rfl (am_ca_v (ps := [.int (iz ((xs (x3 + 2).toNat).toInt)), .int (iz ((xs (x3 + 1).toNat).toInt))]) rfl ko_262) (Nat.le_of_ble_eq_true rfl) (Ci.weak hw fun z216 m213 J214 P215 hw => ?_)
      obtain ⟨hp217, hw⟩ := hw
      obtain ⟨hz218, hw⟩ := hw
      obtain ⟨hz219, hw⟩ := hw
      refine s_ic_eq (pc := 475) (tgt := 569) rfl rfl hz218 hz219 (fun hc => ?_) (fun hc => ?_)
      · replace hw := hw.1 hc
        exact hw
      · replace hw := hw.2 hc
        refine s_iconst (pc := 478) rfl ?_
        exact s_retz (pc := 479) rfl rfl (by decide) hw
    replace hw := hw.2
    by_cases hs12 : zand ((xs x3.toNat).toInt) 15 = 12
    · replace hw := hw.1 hs12
      refine s_tsw_at (pc := 33) (v := 12) (tgt := 480) rfl hz4 hs12 (by decide) rfl rfl ?_
      refine s_aload_n (pc := 480) rfl rfl ?_
      refine s_aload_n (pc := 481) rfl rfl ?_
      refine s_iload_n (pc := 482) rfl rfl ?_
      refine s_iconst (pc := 483) rfl ?_
      refine s_iadd (pc := 484) rfl ?_
      obtain ⟨hb220, hw⟩ := hw
      refine s_sld (pc := 485) rfl hL hb220 ?_
      refine s_aload_n (pc := 486) rfl rfl ?_
      refine s_iload_n (pc := 487) rfl rfl ?_
      refine s_iconst (pc := 488) rfl ?_
      refine s_iadd (pc := 489) rfl ?_
      obtain ⟨hb221, hw⟩ := hw
      refine s_sld (pc := 490) rfl hL hb221 ?_
      refine s_ci (pc := 491) (d := (d + 8)) (t := []) rfl rfl (am_ca_v (ps := [.int (iz ((xs (x3 + 2).toNat).toInt)), .int (iz ((xs (x3 + 1).toNat).toInt))]) rfl ko_1) (Nat.le_of_ble_eq_true rfl) (Ci.weak hw fun z225 m222 J223 P224 hw => ?_)
      obtain ⟨hp226, hw⟩ := hw
      refine s_aload_n (pc := 494) rfl rfl ?_
      refine s_aload_n (pc := 495) rfl rfl ?_
      refine s_iload_n (pc := 496) rfl rfl ?_
      refine s_iconst (pc := 497) rfl ?_
      refine s_iadd (pc := 498) rfl ?_
      obtain ⟨hb227, hw⟩ := hw
      refine s_sld (pc := 499) rfl hL hb227 ?_
      refine s_aload_n (pc := 500) rfl rfl ?_
      refine s_iload_n (pc := 501) rfl rfl ?_
      refine s_iconst (pc := 502) rfl ?_
      refine s_iadd (pc := 503) rfl ?_
      obtain ⟨hb228, hw⟩ := hw
      refine s_sld (pc := 504) rfl hL hb228 ?_
      refine s_ci (pc := 505) (d := (d + 8)) (t := [.int (iz z225)]) rfl rfl (am_ca_v (ps := [.int (iz ((xs (x3 + 2).toNat).toInt)), .int (iz ((xs (x3 + 1).toNat).toInt))]) rfl ko_262) (Nat.le_of_ble_eq_true rfl) (Ci.weak hw fun z232 m229 J230 P231 hw => ?_)
      obtain ⟨hp233, hw⟩ := hw
      obtain ⟨hz234, hw⟩ := hw
      obtain ⟨hz235, hw⟩ := hw
      refine s_ic_eq (pc := 508) (tgt := 569) rfl rfl hz234 hz235 (fun hc => ?_) (fun hc => ?_)
      · replace hw := hw.1 hc
        exact hw
      · replace hw := hw.2 hc
        refine s_iconst (pc := 511) rfl ?_
        exact s_retz (pc := 512) rfl rfl (by decide) hw
    replace hw := hw.2
    by_cases hs13 : zand ((xs x3.toNat).toInt) 15 = 13
    · replace hw := hw.1 hs13
      refine s_tsw_at (pc := 33) (v := 13) (tgt := 513) rfl hz4 hs13 (by decide) rfl rfl ?_
      refine s_aload_n (pc := 513) rfl rfl ?_
      refine s_aload_n (pc := 514) rfl rfl ?_
      refine s_iload_n (pc := 515) rfl rfl ?_
      refine s_iconst (pc := 516) rfl ?_
      refine s_iadd (pc := 517) rfl ?_
      obtain ⟨hb236, hw⟩ := hw
      refine s_sld (pc := 518) rfl hL hb236 ?_
      refine s_aload_n (pc := 519) rfl rfl ?_
      refine s_iload_n (pc := 520) rfl rfl ?_
      refine s_iconst (pc := 521) rfl ?_
      refine s_iadd (pc := 522) rfl ?_
      obtain ⟨hb237, hw⟩ := hw
      refine s_sld (pc := 523) rfl hL hb237 ?_
      refine s_ci (pc := 524) (d := (d + 8)) (t := []) rfl rfl (am_ca_v (ps := [.int (iz ((xs (x3 + 2).toNat).toInt)), .int (iz ((xs (x3 + 1).toNat).toInt))]) rfl ko_1) (Nat.le_of_ble_eq_true rfl) (Ci.weak hw fun z241 m238 J239 P240 hw => ?_)
      obtain ⟨hp242, hw⟩ := hw
      refine s_aload_n (pc := 527) rfl rfl ?_
      refine s_aload_n (pc := 528) rfl rfl ?_
      refine s_iload_n (pc := 529) rfl rfl ?_
      refine s_iconst (pc := 530) rfl ?_
      refine s_iadd (pc := 531) rfl ?_
      obtain ⟨hb243, hw⟩ := hw
      refine s_sld (pc := 532) rfl hL hb243 ?_
      refine s_aload_n (pc := 533) rfl rfl ?_
      refine s_iload_n (pc := 534) rfl rfl ?_
      refine s_iconst (pc := 535) rfl ?_
      refine s_iadd (pc := 536) rfl ?_
      obtain ⟨hb244, hw⟩ := hw
      refine s_sld (pc := 537) rfl hL hb244 ?_
      refine s_ci (pc := 538) (d := (d + 8)) (t := [.int (iz z241)]) rfl rfl (am_ca_v (ps := [.int (iz ((xs (x3 + 2).toNat).toInt)), .int (iz ((xs (x3 + 1).toNat).toInt))]) rfl ko_262) (Nat.le_of_ble_eq_true rfl) (Ci.weak hw fun z248 m245 J246 P247 hw => ?_)
      obtain ⟨hp249, hw⟩ := hw
      obtain ⟨hz250, hw⟩ := hw
      obtain ⟨hz251, hw⟩ := hw
      refine s_ic_eq (pc := 541) (tgt := 569) rfl rfl hz250 hz251 (fun hc => ?_) (fun hc => ?_)
      · replace hw := hw.1 hc
        exact hw
      · replace hw := hw.2 hc
        refine s_iconst (pc := 544) rfl ?_
        exact s_retz (pc := 545) rfl rfl (by decide) hw
    replace hw := hw.2
    by_cases hs14 : zand ((xs x3.toNat).toInt) 15 = 14
    · replace hw := hw.1 hs14
      refine s_tsw_at (pc := 33) (v := 14) (tgt := 546) rfl hz4 hs14 (by decide) rfl rfl ?_
      refine s_aload_n (pc := 546) rfl rfl ?_
      refine s_aload_n (pc := 547) rfl rfl ?_
      refine s_iload_n (pc := 548) rfl rfl ?_
      refine s_iconst (pc := 549) rfl ?_
      refine s_iadd (pc := 550) rfl ?_
      obtain ⟨hb252, hw⟩ := hw
      refine s_sld (pc := 551) rfl hL hb252 ?_
      refine s_ci (pc := 552) (d := (d + 8)) (t := []) rfl rfl (am_ca_v (ps := [.int (iz ((xs (x3 + 1).toNat).toInt))]) rfl ko_1) (Nat.le_of_ble_eq_true rfl) (Ci.weak hw fun z256 m253 J254 P255 hw => ?_)
      obtain ⟨hp257, hw⟩ := hw
      refine s_aload_n (pc := 555) rfl rfl ?_
      refine s_aload_n (pc := 556) rfl rfl ?_
      refine s_iload_n (pc := 557) rfl rfl ?_
      refine s_iconst (pc := 558) rfl ?_
      refine s_iadd (pc := 559) rfl ?_
      obtain ⟨hb258, hw⟩ := hw
      refine s_sld (pc := 560) rfl hL hb258 ?_
      refine s_ci (pc := 561) (d := (d + 8)) (t := [.int (iz z256)]) rfl rfl (am_ca_v (ps := [.int (iz ((xs (x3 + 1).toNat).toInt))]) rfl ko_262) (Nat.le_of_ble_eq_true rfl) (Ci.weak hw fun z262 m259 J260 P261 hw => ?_)
      obtain ⟨hp263, hw⟩ := hw
      obtain ⟨hz264, hw⟩ := hw
      obtain ⟨hz265, hw⟩ := hw
      refine s_ic_eq (pc := 564) (tgt := 569) rfl rfl hz264 hz265 (fun hc => ?_) (fun hc => ?_)
      · replace hw := hw.1 hc
        exact hw
      · replace hw := hw.2 hc
        refine s_iconst (pc := 567) rfl ?_
        exact s_retz (pc := 568) rfl rfl (by decide) hw
    replace hw := hw.2
    have hs : (zand ((xs x3.toNat).toInt) 15) < 0 ∨ 14 < (zand ((xs x3.toNat).toInt) 15) := by omega
    replace hw := hw hs
    refine s_tsw_out (pc := 33) (tgt := 569) rfl hz4 hs rfl ?_
    exact hw

set_option maxRecDepth 20000 in
set_option maxHeartbeats 4000000 in
theorem b_Law_law_569 (n0 : Nat) (xs : Nat → Int32) (hL : n0 ≤ 100000) {d : Nat} (x3 : Int)  (m : Mi) (J : Mj) (P : Mp) (hp : PP P) (post : Int → Mi → Mj → Mp → Prop)
    (hw : Rn (some (n0, xs)) (d + 9) 0 18 [some (.ref 0), some (.ref 1), some (.ref 262), some (.int (iz (x3 + 6)))] [] (SS m J P) (QI post)) : Rn (some (n0, xs)) (d + 9) 0 569 [some (.ref 0), some (.ref 1), some (.ref 262), some (.int (iz x3))] [] (SS m J P) (QI post) := by
  refine s_iinc (pc := 569) (L' := [some (.ref 0), some (.ref 1), some (.ref 262), some (.int (iz (x3 + 6)))]) rfl rfl (Nat.le_of_ble_eq_true rfl) rfl ?_
  refine s_goto (pc := 572) (tgt := 18) rfl rfl ?_
  exact hw
