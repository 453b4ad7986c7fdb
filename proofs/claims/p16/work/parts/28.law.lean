set_option maxRecDepth 20000 in
set_option maxHeartbeats 4000000 in
theorem b_Law_law_18 (n0 : Nat) (xs : Nat → Int32) (hL : n0 ≤ 100000) {d : Nat} (x3 : Int)  (m : Mi) (J : Mj) (P : Mp) (hp : PP P) (post : Int → Mi → Mj → Mp → Prop)
    (hw : Zr (x3) ∧ Zr (((n0 : Int)) - 6) ∧ ((((((n0 : Int)) - 6) < x3) → post 1 m J P) ∧ (¬ ((((n0 : Int)) - 6) < x3) → ((0 : Int) ≤ x3 ∧ (x3 : Int) < n0) ∧ Zr (zand ((xs x3.toNat).toInt) 15) ∧ (((zand ((xs x3.toNat).toInt) 15 = 0) → ((0 : Int) ≤ (x3 + 1) ∧ ((x3 + 1) : Int) < n0) ∧ ((0 : Int) ≤ (x3 + 2) ∧ ((x3 + 2) : Int) < n0) ∧ ((0 : Int) ≤ (x3 + 3) ∧ ((x3 + 3) : Int) < n0) ∧ ((0 : Int) ≤ (x3 + 4) ∧ ((x3 + 4) : Int) < n0) ∧ ((0 : Int) ≤ (x3 + 5) ∧ ((x3 + 5) : Int) < n0) ∧ Ci (some (n0, xs)) (d + 8) 12 [.ref 1, .int (iz ((xs (x3 + 1).toNat).toInt)), .int (iz ((xs (x3 + 2).toNat).toInt)), .int (iz ((xs (x3 + 3).toNat).toInt)), .int (iz ((xs (x3 + 4).toNat).toInt)), .int (iz ((xs (x3 + 5).toNat).toInt))] m J P (fun z13 m10 J11 P12 => PP P12 ∧ ((0 : Int) ≤ (x3 + 1) ∧ ((x3 + 1) : Int) < n0) ∧ ((0 : Int) ≤ (x3 + 2) ∧ ((x3 + 2) : Int) < n0) ∧ ((0 : Int) ≤ (x3 + 3) ∧ ((x3 + 3) : Int) < n0) ∧ ((0 : Int) ≤ (x3 + 4) ∧ ((x3 + 4) : Int) < n0) ∧ ((0 : Int) ≤ (x3 + 5) ∧ ((x3 + 5) : Int) < n0) ∧ Ci (some (n0, xs)) (d + 8) 134 [.ref 262, .int (iz ((xs (x3 + 1).toNat).toInt)), .int (iz ((xs (x3 + 2).toNat).toInt)), .int (iz ((xs (x3 + 3).toNat).toInt)), .int (iz ((xs (x3 + 4).toNat).toInt)), .int (iz ((xs (x3 + 5).toNat).toInt))] m10 J11 P12 (fun z23 m20 J21 P22 => PP P22 ∧ Rn (some (n0, xs)) (d + 9) 0 569 [some (.ref 0), some (.ref 1), some (.ref 262), some (.int (iz x3))] [] (SS m20 J21 P22) (QI post)))) ∧ ((zand ((xs x3.toNat).toInt) 15 = 1) → ((0 : Int) ≤ (x3 + 1) ∧ ((x3 + 1) : Int) < n0) ∧ Ci (some (n0, xs)) (d + 8) 14 [.ref 1, .int (iz ((xs (x3 + 1).toNat).toInt))] m J P (fun z29 m26 J27 P28 => PP P28 ∧ ((0 : Int) ≤ (x3 + 1) ∧ ((x3 + 1) : Int) < n0) ∧ Ci (some (n0, xs)) (d + 8) 136 [.ref 262, .int (iz ((xs (x3 + 1).toNat).toInt))] m26 J27 P28 (fun z35 m32 J33 P34 => PP P34 ∧ Rn (some (n0, xs)) (d + 9) 0 569 [some (.ref 0), some (.ref 1), some (.ref 262), some (.int (iz x3))] [] (SS m32 J33 P34) (QI post)))) ∧ ((zand ((xs x3.toNat).toInt) 15 = 2) → ((0 : Int) ≤ (x3 + 1) ∧ ((x3 + 1) : Int) < n0) ∧ Ci (some (n0, xs)) (d + 8) 73 [.ref 1, .int (iz ((xs (x3 + 1).toNat).toInt))] m J P (fun z41 m38 J39 P40 => PP P40 ∧ ((0 : Int) ≤ (x3 + 1) ∧ ((x3 + 1) : Int) < n0) ∧ Ci (some (n0, xs)) (d + 8) 181 [.ref 262, .int (iz ((xs (x3 + 1).toNat).toInt))] m38 J39 P40 (fun z47 m44 J45 P46 => PP P46 ∧ Rn (some (n0, xs)) (d + 9) 0 569 [some (.ref 0), some (.ref 1), some (.ref 262), some (.int (iz x3))] [] (SS m44 J45 P46) (QI post)))) ∧ ((zand ((xs x3.toNat).toInt) 15 = 3) → ((0 : Int) ≤ (x3 + 1) ∧ ((x3 + 1) : Int) < n0) ∧ Ci (some (n0, xs)) (d + 8) 74 [.ref 1, .int (iz ((xs (x3 + 1).toNat).toInt))] m J P (fun z53 m50 J51 P52 => PP P52 ∧ ((0 : Int) ≤ (x3 + 1) ∧ ((x3 + 1) : Int) < n0) ∧ Ci (some (n0, xs)) (d + 8) 182 [.ref 262, .int (iz ((xs (x3 + 1).toNat).toInt))] m50 J51 P52 (fun z59 m56 J57 P58 => PP P58 ∧ Rn (some (n0, xs)) (d + 9) 0 569 [some (.ref 0), some (.ref 1), some (.ref 262), some (.int (iz x3))] [] (SS m56 J57 P58) (QI post)))) ∧ ((zand ((xs x3.toNat).toInt) 15 = 4) → ((0 : Int) ≤ (x3 + 1) ∧ ((x3 + 1) : Int) < n0) ∧ ((0 : Int) ≤ (x3 + 2) ∧ ((x3 + 2) : Int) < n0) ∧ Ci (some (n0, xs)) (d + 8) 76 [.ref 1, .int (iz ((xs (x3 + 1).toNat).toInt)), .int (iz ((xs (x3 + 2).toNat).toInt))] m J P (fun z66 m63 J64 P65 => PP P65 ∧ ((0 : Int) ≤ (x3 + 1) ∧ ((x3 + 1) : Int) < n0) ∧ ((0 : Int) ≤ (x3 + 2) ∧ ((x3 + 2) : Int) < n0) ∧ Ci (some (n0, xs)) (d + 8) 183 [.ref 262, .int (iz ((xs (x3 + 1).toNat).toInt)), .int (iz ((xs (x3 + 2).toNat).toInt))] m63 J64 P65 (fun z73 m70 J71 P72 => PP P72 ∧ Rn (some (n0, xs)) (d + 9) 0 569 [some (.ref 0), some (.ref 1), some (.ref 262), some (.int (iz x3))] [] (SS m70 J71 P72) (QI post)))) ∧ ((zand ((xs x3.toNat).toInt) 15 = 5) → ((0 : Int) ≤ (x3 + 1) ∧ ((x3 + 1) : Int) < n0) ∧ Ci (some (n0, xs)) (d + 8) 79 [.ref 1, .int (iz ((xs (x3 + 1).toNat).toInt))] m J P (fun z79 m76 J77 P78 => PP P78 ∧ ((0 : Int) ≤ (x3 + 1) ∧ ((x3 + 1) : Int) < n0) ∧ Ci (some (n0, xs)) (d + 8) 184 [.ref 262, .int (iz ((xs (x3 + 1).toNat).toInt))] m76 J77 P78 (fun z85 m82 J83 P84 => PP P84 ∧ Rn (some (n0, xs)) (d + 9) 0 569 [some (.ref 0), some (.ref 1), some (.ref 262), some (.int (iz x3))] [] (SS m82 J83 P84) (QI post)))) ∧ ((zand ((xs x3.toNat).toInt) 15 = 6) → ((0 : Int) ≤ (x3 + 1) ∧ ((x3 + 1) : Int) < n0) ∧ Ci (some (n0, xs)) (d + 8) 90 [.ref 1, .int (iz ((xs (x3 + 1).toNat).toInt))] m J P (fun z91 m88 J89 P90 => PP P90 ∧ ((0 : Int) ≤ (x3 + 1) ∧ ((x3 + 1) : Int) < n0) ∧ Ci (some (n0, xs)) (d + 8) 194 [.ref 262, .int (iz ((xs (x3 + 1).toNat).toInt))] m88 J89 P90 (fun z97 m94 J95 P96 => PP P96 ∧ Rn (some (n0, xs)) (d + 9) 0 569 [some (.ref 0), some (.ref 1), some (.ref 262), some (.int (iz x3))] [] (SS m94 J95 P96) (QI post)))) ∧ ((zand ((xs x3.toNat).toInt) 15 = 7) → ((0 : Int) ≤ (x3 + 1) ∧ ((x3 + 1) : Int) < n0) ∧ ((0 : Int) ≤ (x3 + 2) ∧ ((x3 + 2) : Int) < n0) ∧ Zr ((xs (x3 + 2).toNat).toInt) ∧ (((((xs (x3 + 2).toNat).toInt) = 0) → Ci (some (n0, xs)) (d + 8) 97 [.ref 1, .int (iz ((xs (x3 + 1).toNat).toInt)), .int (iz 0)] m J P (fun z105 m102 J103 P104 => PP P104 ∧ ((0 : Int) ≤ (x3 + 1) ∧ ((x3 + 1) : Int) < n0) ∧ ((0 : Int) ≤ (x3 + 2) ∧ ((x3 + 2) : Int) < n0) ∧ Zr ((xs (x3 + 2).toNat).toInt) ∧ (((((xs (x3 + 2).toNat).toInt) = 0) → Ci (some (n0, xs)) (d + 8) 198 [.ref 262, .int (iz ((xs (x3 + 1).toNat).toInt)), .int (iz 0)] m102 J103 P104 (fun z113 m110 J111 P112 => PP P112 ∧ Rn (some (n0, xs)) (d + 9) 0 569 [some (.ref 0), some (.ref 1), some (.ref 262), some (.int (iz x3))] [] (SS m110 J111 P112) (QI post))) ∧ (¬ (((xs (x3 + 2).toNat).toInt) = 0) → Ci (some (n0, xs)) (d + 8) 198 [.ref 262, .int (iz ((xs (x3 + 1).toNat).toInt)), .int (iz 1)] m102 J103 P104 (fun z118 m115 J116 P117 => PP P117 ∧ Rn (some (n0, xs)) (d + 9) 0 569 [some (.ref 0), some (.ref 1), some (.ref 262), some (.int (iz x3))] [] (SS m115 J116 P117) (QI post)))))) ∧ (¬ (((xs (x3 + 2).toNat).toInt) = 0) → Ci (some (n0, xs)) (d + 8) 97 [.ref 1, .int (iz ((xs (x3 + 1).toNat).toInt)), .int (iz 1)] m J P (fun z123 m120 J121 P122 => PP P122 ∧ ((0 : Int) ≤ (x3 + 1) ∧ ((x3 + 1) : Int) < n0) ∧ ((0 : Int) ≤ (x3 + 2) ∧ ((x3 + 2) : Int) < n0) ∧ Zr ((xs (x3 + 2).toNat).toInt) ∧ (((((xs (x3 + 2).toNat).toInt) = 0) → Ci (some (n0, xs)) (d + 8) 198 [.ref 262, .int (iz ((xs (x3 + 1).toNat).toInt)), .int (iz 0)] m120 J121 P122 (fun z131 m128 J129 P130 => PP P130 ∧ Rn (some (n0, xs)) (d + 9) 0 569 [some (.ref 0), some (.ref 1), some (.ref 262), some (.int (iz x3))] [] (SS m128 J129 P130) (QI post))) ∧ (¬ (((xs (x3 + 2).toNat).toInt) = 0) → Ci (some (n0, xs)) (d + 8) 198 [.ref 262, .int (iz ((xs (x3 + 1).toNat).toInt)), .int (iz 1)] m120 J121 P122 (fun z136 m133 J134 P135 => PP P135 ∧ Rn (some (n0, xs)) (d + 9) 0 569 [some (.ref 0), some (.ref 1), some (.ref 262), some (.int (iz x3))] [] (SS m133 J134 P135) (QI post)))))))) ∧ ((zand ((xs x3.toNat).toInt) 15 = 8) → ((0 : Int) ≤ (x3 + 1) ∧ ((x3 + 1) : Int) < n0) ∧ Ci (some (n0, xs)) (d + 8) 105 [.ref 1, .int (iz ((xs (x3 + 1).toNat).toInt))] m J P (fun z142 m139 J140 P141 => PP P141 ∧ ((0 : Int) ≤ (x3 + 1) ∧ ((x3 + 1) : Int) < n0) ∧ Ci (some (n0, xs)) (d + 8) 203 [.ref 262, .int (iz ((xs (x3 + 1).toNat).toInt))] m139 J140 P141 (fun z148 m145 J146 P147 => PP P147 ∧ Rn (some (n0, xs)) (d + 9) 0 569 [some (.ref 0), some (.ref 1), some (.ref 262), some (.int (iz x3))] [] (SS m145 J146 P147) (QI post)))) ∧ ((zand ((xs x3.toNat).toInt) 15 = 9) → ((0 : Int) ≤ (x3 + 1) ∧ ((x3 + 1) : Int) < n0) ∧ Ci (some (n0, xs)) (d + 8) 110 [.ref 1, .int (iz ((xs (x3 + 1).toNat).toInt))] m J P (fun z154 m151 J152 P153 => PP P153 ∧ ((0 : Int) ≤ (x3 + 1) ∧ ((x3 + 1) : Int) < n0) ∧ Ci (some (n0, xs)) (d + 8) 206 [.ref 262, .int (iz ((xs (x3 + 1).toNat).toInt))] m151 J152 P153 (fun z160 m157 J158 P159 => PP P159 ∧ Rn (some (n0, xs)) (d + 9) 0 569 [some (.ref 0), some (.ref 1), some (.ref 262), some (.int (iz x3))] [] (SS m157 J158 P159) (QI post)))) ∧ ((zand ((xs x3.toNat).toInt) 15 = 10) → ((0 : Int) ≤ (x3 + 1) ∧ ((x3 + 1) : Int) < n0) ∧ ((0 : Int) ≤ (x3 + 2) ∧ ((x3 + 2) : Int) < n0) ∧ Ci (some (n0, xs)) (d + 8) 112 [.ref 1, .int (iz ((xs (x3 + 1).toNat).toInt)), .int (iz ((xs (x3 + 2).toNat).toInt))] m J P (fun z167 m164 J165 P166 => PP P166 ∧ ((0 : Int) ≤ (x3 + 1) ∧ ((x3 + 1) : Int) < n0) ∧ ((0 : Int) ≤ (x3 + 2) ∧ ((x3 + 2) : Int) < n0) ∧ Ci (some (n0, xs)) (d + 8) 207 [.ref 262, .int (iz ((xs (x3 + 1).toNat).toInt)), .int (iz ((xs (x3 + 2).toNat).toInt))] m164 J165 P166 (fun z174 m171 J172 P173 => PP P173 ∧ Rn (some (n0, xs)) (d + 9) 0 569 [some (.ref 0), some (.ref 1), some (.ref 262), some (.int (iz x3))] [] (SS m171 J172 P173) (QI post)))) ∧ ((zand ((xs x3.toNat).toInt) 15 = 11) → ((0 : Int) ≤ (x3 + 1) ∧ ((x3 + 1) : Int) < n0) ∧ ((0 : Int) ≤ (x3 + 2) ∧ ((x3 + 2) : Int) < n0) ∧ Ci (some (n0, xs)) (d + 8) 118 [.ref 1, .int (iz ((xs (x3 + 1).toNat).toInt)), .int (iz ((xs (x3 + 2).toNat).toInt))] m J P (fun z181 m178 J179 P180 => PP P180 ∧ ((0 : Int) ≤ (x3 + 1) ∧ ((x3 + 1) : Int) < n0) ∧ ((0 : Int) ≤ (x3 + 2) ∧ ((x3 + 2) : Int) < n0) ∧ Ci (some (n0, xs)) (d + 8) 209 [.ref 262, .int (iz ((xs (x3 + 1).toNat).toInt)), .int (iz ((xs (x3 + 2).toNat).toInt))] m178 J179 P180 (fun z188 m185 J186 P187 => PP P187 ∧ Rn (some (n0, xs)) (d + 9) 0 569 [some (.ref 0), some (.ref 1), some (.ref 262), some (.int (iz x3))] [] (SS m185 J186 P187) (QI post)))) ∧ ((zand ((xs x3.toNat).toInt) 15 = 12) → ((0 : Int) ≤ (x3 + 1) ∧ ((x3 + 1) : Int) < n0) ∧ ((0 : Int) ≤ (x3 + 2) ∧ ((x3 + 2) : Int) < n0) ∧ Ci (some (n0, xs)) (d + 8) 122 [.ref 1, .int (iz ((xs (x3 + 1).toNat).toInt)), .int (iz ((xs (x3 + 2).toNat).toInt))] m J P (fun z195 m192 J193 P194 => PP P194 ∧ ((0 : Int) ≤ (x3 + 1) ∧ ((x3 + 1) : Int) < n0) ∧ ((0 : Int) ≤ (x3 + 2) ∧ ((x3 + 2) : Int) < n0) ∧ Ci (some (n0, xs)) (d + 8) 213 [.ref 262, .int (iz ((xs (x3 + 1).toNat).toInt)), .int (iz ((xs (x3 + 2).toNat).toInt))] m192 J193 P194 (fun z202 m199 J200 P201 => PP P201 ∧ Rn (some (n0, xs)) (d + 9) 0 569 [some (.ref 0), some (.ref 1), some (.ref 262), some (.int (iz x3))] [] (SS m199 J200 P201) (QI post)))) ∧ ((zand ((xs x3.toNat).toInt) 15 = 13) → ((0 : Int) ≤ (x3 + 1) ∧ ((x3 + 1) : Int) < n0) ∧ ((0 : Int) ≤ (x3 + 2) ∧ ((x3 + 2) : Int) < n0) ∧ Ci (some (n0, xs)) (d + 8) 125 [.ref 1, .int (iz ((xs (x3 + 1).toNat).toInt)), .int (iz ((xs (x3 + 2).toNat).toInt))] m J P (fun z209 m206 J207 P208 => PP P208 ∧ ((0 : Int) ≤ (x3 + 1) ∧ ((x3 + 1) : Int) < n0) ∧ ((0 : Int) ≤ (x3 + 2) ∧ ((x3 + 2) : Int) < n0) ∧ Ci (some (n0, xs)) (d + 8) 215 [.ref 262, .int (iz ((xs (x3 + 1).toNat).toInt)), .int (iz ((xs (x3 + 2).toNat).toInt))] m206 J207 P208 (fun z216 m213 J214 P215 => PP P215 ∧ Rn (some (n0, xs)) (d + 9) 0 569 [some (.ref 0), some (.ref 1), some (.ref 262), some (.int (iz x3))] [] (SS m213 J214 P215) (QI post)))) ∧ ((zand ((xs x3.toNat).toInt) 15 = 14) → ((0 : Int) ≤ (x3 + 1) ∧ ((x3 + 1) : Int) < n0) ∧ Ci (some (n0, xs)) (d + 8) 131 [.ref 1, .int (iz ((xs (x3 + 1).toNat).toInt))] m J P (fun z222 m219 J220 P221 => PP P221 ∧ ((0 : Int) ≤ (x3 + 1) ∧ ((x3 + 1) : Int) < n0) ∧ Ci (some (n0, xs)) (d + 8) 216 [.ref 262, .int (iz ((xs (x3 + 1).toNat).toInt))] m219 J220 P221 (fun z228 m225 J226 P227 => PP P227 ∧ Zr (z222) ∧ Zr (z228) ∧ (((z222 = z228) → Rn (some (n0, xs)) (d + 9) 0 569 [some (.ref 0), some (.ref 1), some (.ref 262), some (.int (iz x3))] [] (SS m225 J226 P227) (QI post)) ∧ (¬ (z222 = z228) → post 0 m225 J226 P227))))) ∧ (((zand ((xs x3.toNat).toInt) 15) < 0 ∨ 14 < (zand ((xs x3.toNat).toInt) 15)) → Rn (some (n0, xs)) (d + 9) 0 569 [some (.ref 0), some (.ref 1), some (.ref 262), some (.int (iz x3))] [] (SS m J P) (QI post)))))) : Rn (some (n0, xs)) (d + 9) 0 18 [some (.ref 0), some (.ref 1), some (.ref 262), some (.int (iz x3))] [] (SS m J P) (QI post) := by
  refine s_iload_n (pc := 18) rfl rfl ?_
  refine s_aload_n (pc := 19) rfl rfl ?_
  refine s_slen (pc := 20) rfl ?_
  refine s_bipush (pc := 21) rfl (by decide) ?_
  refine s_isub (pc := 23) rfl ?_
  obtain ⟨hz1, hw⟩ := hw
  obtain ⟨hz2, hw⟩ := hw
  refine s_ic_gt (pc := 24) (tgt := 575) rfl rfl hz1 hz2 (fun hc => ?_) (fun hc => ?_)
  · replace hw := hw.1 hc
    refine s_iconst (pc := 575) rfl ?_
    exact s_retz (pc := 576) rfl rfl (by decide) hw
  · replace hw := hw.2 hc
    refine s_aload_n (pc := 27) rfl rfl ?_
    refine s_iload_n (pc := 28) rfl rfl ?_
    obtain ⟨hb3, hw⟩ := hw
    refine s_sld (pc := 29) rfl hL hb3 ?_
    refine s_bipush (pc := 30) rfl (by decide) ?_
    refine s_iand (pc := 32) rfl ?_
    obtain ⟨hz4, hw⟩ := hw
    by_cases hs0 : zand ((xs x3.toNat).toInt) 15 = 0
    · replace hw := hw.1 hs0
      refine s_tsw_at (pc := 33) (v := 0) (tgt := 108) rfl hz4 hs0 (by decide) rfl rfl ?_
      refine s_aload_n (pc := 108) rfl rfl ?_
      refine s_aload_n (pc := 109) rfl rfl ?_
      refine s_iload_n (pc := 110) rfl rfl ?_
      refine s_iconst (pc := 111) rfl ?_
      refine s_iadd (pc := 112) rfl ?_
      obtain ⟨hb5, hw⟩ := hw
      refine s_sld (pc := 113) rfl hL hb5 ?_
      refine s_aload_n (pc := 114) rfl rfl ?_
      refine s_iload_n (pc := 115) rfl rfl ?_
      refine s_iconst (pc := 116) rfl ?_
      refine s_iadd (pc := 117) rfl ?_
      obtain ⟨hb6, hw⟩ := hw
      refine s_sld (pc := 118) rfl hL hb6 ?_
      refine s_aload_n (pc := 119) rfl rfl ?_
      refine s_iload_n (pc := 120) rfl rfl ?_
      refine s_iconst (pc := 121) rfl ?_
      refine s_iadd (pc := 122) rfl ?_
      obtain ⟨hb7, hw⟩ := hw
      refine s_sld (pc := 123) rfl hL hb7 ?_
      refine s_aload_n (pc := 124) rfl rfl ?_
      refine s_iload_n (pc := 125) rfl rfl ?_
      refine s_iconst (pc := 126) rfl ?_
      refine s_iadd (pc := 127) rfl ?_
      obtain ⟨hb8, hw⟩ := hw
      refine s_sld (pc := 128) rfl hL hb8 ?_
      refine s_aload_n (pc := 129) rfl rfl ?_
      refine s_iload_n (pc := 130) rfl rfl ?_
      refine s_iconst (pc := 131) rfl ?_
      refine s_iadd (pc := 132) rfl ?_
      obtain ⟨hb9, hw⟩ := hw
      refine s_sld (pc := 133) rfl hL hb9 ?_
      refine s_ci (pc := 134) (d := (d + 8)) (t := []) rfl rfl (am_ca_v (ps := [.int (iz ((xs (x3 + 5).toNat).toInt)), .int (iz ((xs (x3 + 4).toNat).toInt)), .int (iz ((xs (x3 + 3).toNat).toInt)), .int (iz ((xs (x3 + 2).toNat).toInt)), .int (iz ((xs (x3 + 1).toNat).toInt))]) rfl ko_1) (Nat.le_of_ble_eq_true rfl) (Ci.weak hw fun z13 m10 J11 P12 hw => ?_)
      obtain ⟨hp14, hw⟩ := hw
      refine s_pop (pc := 137) rfl rfl ?_
      refine s_aload_n (pc := 138) rfl rfl ?_
      refine s_aload_n (pc := 139) rfl rfl ?_
      refine s_iload_n (pc := 140) rfl rfl ?_
      refine s_iconst (pc := 141) rfl ?_
      refine s_iadd (pc := 142) rfl ?_
      obtain ⟨hb15, hw⟩ := hw
      refine s_sld (pc := 143) rfl hL hb15 ?_
      refine s_aload_n (pc := 144) rfl rfl ?_
      refine s_iload_n (pc := 145) rfl rfl ?_
      refine s_iconst (pc := 146) rfl ?_
      refine s_iadd (pc := 147) rfl ?_
      obtain ⟨hb16, hw⟩ := hw
      refine s_sld (pc := 148) rfl hL hb16 ?_
      refine s_aload_n (pc := 149) rfl rfl ?_
      refine s_iload_n (pc := 150) rfl rfl ?_
      refine s_iconst (pc := 151) rfl ?_
      refine s_iadd (pc := 152) rfl ?_
      obtain ⟨hb17, hw⟩ := hw
      refine s_sld (pc := 153) rfl hL hb17 ?_
      refine s_aload_n (pc := 154) rfl rfl ?_
      refine s_iload_n (pc := 155) rfl rfl ?_
      refine s_iconst (pc := 156) rfl ?_
      refine s_iadd (pc := 157) rfl ?_
      obtain ⟨hb18, hw⟩ := hw
      refine s_sld (pc := 158) rfl hL hb18 ?_
      refine s_aload_n (pc := 159) rfl rfl ?_
      refine s_iload_n (pc := 160) rfl rfl ?_
      refine s_iconst (pc := 161) rfl ?_
      refine s_iadd (pc := 162) rfl ?_
      obtain ⟨hb19, hw⟩ := hw
      refine s_sld (pc := 163) rfl hL hb19 ?_
      refine s_ci (pc := 164) (d := (d + 8)) (t := []) rfl rfl (am_ca_v (ps := [.int (iz ((xs (x3 + 5).toNat).toInt)), .int (iz ((xs (x3 + 4).toNat).toInt)), .int (iz ((xs (x3 + 3).toNat).toInt)), .int (iz ((xs (x3 + 2).toNat).toInt)), .int (iz ((xs (x3 + 1).toNat).toInt))]) rfl ko_262) (Nat.le_of_ble_eq_true rfl) (Ci.weak hw fun z23 m20 J21 P22 hw => ?_)
      obtain ⟨hp24, hw⟩ := hw
      refine s_pop (pc := 167) rfl rfl ?_
      refine s_goto (pc := 168) (tgt := 569) rfl rfl ?_
      exact hw
    replace hw := hw.2
    by_cases hs1 : zand ((xs x3.toNat).toInt) 15 = 1
    · replace hw := hw.1 hs1
      refine s_tsw_at (pc := 33) (v := 1) (tgt := 171) rfl hz4 hs1 (by decide) rfl rfl ?_
      refine s_aload_n (pc := 171) rfl rfl ?_
      refine s_aload_n (pc := 172) rfl rfl ?_
      refine s_iload_n (pc := 173) rfl rfl ?_
      refine s_iconst (pc := 174) rfl ?_
      refine s_iadd (pc := 175) rfl ?_
      obtain ⟨hb25, hw⟩ := hw
      refine s_sld (pc := 176) rfl hL hb25 ?_
      refine s_ci (pc := 177) (d := (d + 8)) (t := []) rfl rfl (am_ca_v (ps := [.int (iz ((xs (x3 + 1).toNat).toInt))]) rfl ko_1) (Nat.le_of_ble_eq_true rfl) (Ci.weak hw fun z29 m26 J27 P28 hw => ?_)
      obtain ⟨hp30, hw⟩ := hw
      refine s_pop (pc := 180) rfl rfl ?_
      refine s_aload_n (pc := 181) rfl rfl ?_
      refine s_aload_n (pc := 182) rfl rfl ?_
      refine s_iload_n (pc := 183) rfl rfl ?_
      refine s_iconst (pc := 184) rfl ?_
      refine s_iadd (pc := 185) rfl ?_
      obtain ⟨hb31, hw⟩ := hw
      refine s_sld (pc := 186) rfl hL hb31 ?_
      refine s_ci (pc := 187) (d := (d + 8)) (t := []) rfl rfl (am_ca_v (ps := [.int (iz ((xs (x3 + 1).toNat).toInt))]) rfl ko_262) (Nat.le_of_ble_eq_true rfl) (Ci.weak hw fun z35 m32 J33 P34 hw => ?_)
      obtain ⟨hp36, hw⟩ := hw
      refine s_pop (pc := 190) rfl rfl ?_
      refine s_goto (pc := 191) (tgt := 569) rfl rfl ?_
      exact hw
    replace hw := hw.2
    by_cases hs2 : zand ((xs x3.toNat).toInt) 15 = 2
    · replace hw := hw.1 hs2
      refine s_tsw_at (pc := 33) (v := 2) (tgt := 194) rfl hz4 hs2 (by decide) rfl rfl ?_
      refine s_aload_n (pc := 194) rfl rfl ?_
      refine s_aload_n (pc := 195) rfl rfl ?_
      refine s_iload_n (pc := 196) rfl rfl ?_
      refine s_iconst (pc := 197) rfl ?_
      refine s_iadd (pc := 198) rfl ?_
      obtain ⟨hb37, hw⟩ := hw
      refine s_sld (pc := 199) rfl hL hb37 ?_
      refine s_ci (pc := 200) (d := (d + 8)) (t := []) rfl rfl (am_ca_v (ps := [.int (iz ((xs (x3 + 1).toNat).toInt))]) rfl ko_1) (Nat.le_of_ble_eq_true rfl) (Ci.weak hw fun z41 m38 J39 P40 hw => ?_)
      obtain ⟨hp42, hw⟩ := hw
      refine s_pop (pc := 203) rfl rfl ?_
      refine s_aload_n (pc := 204) rfl rfl ?_
      refine s_aload_n (pc := 205) rfl rfl ?_
      refine s_iload_n (pc := 206) rfl rfl ?_
      refine s_iconst (pc := 207) rfl ?_
      refine s_iadd (pc := 208) rfl ?_
      obtain ⟨hb43, hw⟩ := hw
      refine s_sld (pc := 209) rfl hL hb43 ?_
      refine s_ci (pc := 210) (d := (d + 8)) (t := []) rfl rfl (am_ca_v (ps := [.int (iz ((xs (x3 + 1).toNat).toInt))]) rfl ko_262) (Nat.le_of_ble_eq_true rfl) (Ci.weak hw fun z47 m44 J45 P46 hw => ?_)
      obtain ⟨hp48, hw⟩ := hw
      refine s_pop (pc := 213) rfl rfl ?_
      refine s_goto (pc := 214) (tgt := 569) rfl rfl ?_
      exact hw
    replace hw := hw.2
    by_cases hs3 : zand ((xs x3.toNat).toInt) 15 = 3
    · replace hw := hw.1 hs3
      refine s_tsw_at (pc := 33) (v := 3) (tgt := 217) rfl hz4 hs3 (by decide) rfl rfl ?_
      refine s_aload_n (pc := 217) rfl rfl ?_
      refine s_aload_n (pc := 218) rfl rfl ?_
      refine s_iload_n (pc := 219) rfl rfl ?_
      refine s_iconst (pc := 220) rfl ?_
      refine s_iadd (pc := 221) rfl ?_
      obtain ⟨hb49, hw⟩ := hw
      refine s_sld (pc := 222) rfl hL hb49 ?_
      refine s_ci (pc := 223) (d := (d + 8)) (t := []) rfl rfl (am_ca_v (ps := [.int (iz ((xs (x3 + 1).toNat).toInt))]) rfl ko_1) (Nat.le_of_ble_eq_true rfl) (Ci.weak hw fun z53 m50 J51 P52 hw => ?_)
      obtain ⟨hp54, hw⟩ := hw
      refine s_pop (pc := 226) rfl rfl ?_
      refine s_aload_n (pc := 227) rfl rfl ?_
      refine s_aload_n (pc := 228) rfl rfl ?_
      refine s_iload_n (pc := 229) rfl rfl ?_
      refine s_iconst (pc := 230) rfl ?_
      refine s_iadd (pc := 231) rfl ?_
      obtain ⟨hb55, hw⟩ := hw
      refine s_sld (pc := 232) rfl hL hb55 ?_
      refine s_ci (pc := 233) (d := (d + 8)) (t := []) rfl rfl (am_ca_v (ps := [.int (iz ((xs (x3 + 1).toNat).toInt))]) rfl ko_262) (Nat.le_of_ble_eq_true rfl) (Ci.weak hw fun z59 m56 J57 P58 hw => ?_)
      obtain ⟨hp60, hw⟩ := hw
      refine s_pop (pc := 236) rfl rfl ?_
      refine s_goto (pc := 237) (tgt := 569) rfl rfl ?_
      exact hw
    replace hw := hw.2
    by_cases hs4 : zand ((xs x3.toNat).toInt) 15 = 4
    · replace hw := hw.1 hs4
      refine s_tsw_at (pc := 33) (v := 4) (tgt := 240) rfl hz4 hs4 (by decide) rfl rfl ?_
      refine s_aload_n (pc := 240) rfl rfl ?_
      refine s_aload_n (pc := 241) rfl rfl ?_
      refine s_iload_n (pc := 242) rfl rfl ?_
      refine s_iconst (pc := 243) rfl ?_
      refine s_iadd (pc := 244) rfl ?_
      obtain ⟨hb61, hw⟩ := hw
      refine s_sld (pc := 245) rfl hL hb61 ?_
      refine s_aload_n (pc := 246) rfl rfl ?_
      refine s_iload_n (pc := 247) rfl rfl ?_
      refine s_iconst (pc := 248) rfl ?_
      refine s_iadd (pc := 249) rfl ?_
      obtain ⟨hb62, hw⟩ := hw
      refine s_sld (pc := 250) rfl hL hb62 ?_
      refine s_ci (pc := 251) (d := (d + 8)) (t := []) rfl rfl (am_ca_v (ps := [.int (iz ((xs (x3 + 2).toNat).toInt)), .int (iz ((xs (x3 + 1).toNat).toInt))]) rfl ko_1) (Nat.le_of_ble_eq_true rfl) (Ci.weak hw fun z66 m63 J64 P65 hw => ?_)
      obtain ⟨hp67, hw⟩ := hw
      refine s_pop (pc := 254) rfl rfl ?_
      refine s_aload_n (pc := 255) rfl rfl ?_
      refine s_aload_n (pc := 256) rfl rfl ?_
      refine s_iload_n (pc := 257) rfl rfl ?_
      refine s_iconst (pc := 258) rfl ?_
      refine s_iadd (pc := 259) rfl ?_
      obtain ⟨hb68, hw⟩ := hw
      refine s_sld (pc := 260) rfl hL hb68 ?_
      refine s_aload_n (pc := 261) rfl rfl ?_
      refine s_iload_n (pc := 262) rfl rfl ?_
      refine s_iconst (pc := 263) rfl ?_
      refine s_iadd (pc := 264) rfl ?_
      obtain ⟨hb69, hw⟩ := hw
      refine s_sld (pc := 265) rfl hL hb69 ?_
      refine s_ci (pc := 266) (d := (d + 8)) (t := []) rfl rfl (am_ca_v (ps := [.int (iz ((xs (x3 + 2).toNat).toInt)), .int (iz ((xs (x3 + 1).toNat).toInt))]) rfl ko_262) (Nat.le_of_ble_eq_true rfl) (Ci.weak hw fun z73 m70 J71 P72 hw => ?_)
      obtain ⟨hp74, hw⟩ := hw
      refine s_pop (pc := 269) rfl rfl ?_
      refine s_goto (pc := 270) (tgt := 569) rfl rfl ?_
      exact hw
    replace hw := hw.2
    by_cases hs5 : zand ((xs x3.toNat).toInt) 15 = 5
    · replace hw := hw.1 hs5
      refine s_tsw_at (pc := 33) (v := 5) (tgt := 273) rfl hz4 hs5 (by decide) rfl rfl ?_
      refine s_aload_n (pc := 273) rfl rfl ?_
      refine s_aload_n (pc := 274) rfl rfl ?_
      refine s_iload_n (pc := 275) rfl rfl ?_
      refine s_iconst (pc := 276) rfl ?_
      refine s_iadd (pc := 277) rfl ?_
      obtain ⟨hb75, hw⟩ := hw
      refine s_sld (pc := 278) rfl hL hb75 ?_
      refine s_ci (pc := 279) (d := (d + 8)) (t := []) rfl rfl (am_ca_v (ps := [.int (iz ((xs (x3 + 1).toNat).toInt))]) rfl ko_1) (Nat.le_of_ble_eq_true rfl) (Ci.weak hw fun z79 m76 J77 P78 hw => ?_)
      obtain ⟨hp80, hw⟩ := hw
      refine s_pop (pc := 282) rfl rfl ?_
      refine s_aload_n (pc := 283) rfl rfl ?_
      refine s_aload_n (pc := 284) rfl rfl ?_
      refine s_iload_n (pc := 285) rfl rfl ?_
      refine s_iconst (pc := 286) rfl ?_
      refine s_iadd (pc := 287) rfl ?_
      obtain ⟨hb81, hw⟩ := hw
      refine s_sld (pc := 288) rfl hL hb81 ?_
      refine s_ci (pc := 289) (d := (d + 8)) (t := []) rfl rfl (am_ca_v (ps := [.int (iz ((xs (x3 + 1).toNat).toInt))]) rfl ko_262) (Nat.le_of_ble_eq_true rfl) (Ci.weak hw fun z85 m82 J83 P84 hw => ?_)
      obtain ⟨hp86, hw⟩ := hw
      refine s_pop (pc := 292) rfl rfl ?_
      refine s_goto (pc := 293) (tgt := 569) rfl rfl ?_
      exact hw
    replace hw := hw.2
    by_cases hs6 : zand ((xs x3.toNat).toInt) 15 = 6
    · replace hw := hw.1 hs6
      refine s_tsw_at (pc := 33) (v := 6) (tgt := 296) rfl hz4 hs6 (by decide) rfl rfl ?_
      refine s_aload_n (pc := 296) rfl rfl ?_
      refine s_aload_n (pc := 297) rfl rfl ?_
      refine s_iload_n (pc := 298) rfl rfl ?_
      refine s_iconst (pc := 299) rfl ?_
      refine s_iadd (pc := 300) rfl ?_
      obtain ⟨hb87, hw⟩ := hw
      refine s_sld (pc := 301) rfl hL hb87 ?_
      refine s_ci (pc := 302) (d := (d + 8)) (t := []) rfl rfl (am_ca_v (ps := [.int (iz ((xs (x3 + 1).toNat).toInt))]) rfl ko_1) (Nat.le_of_ble_eq_true rfl) (Ci.weak hw fun z91 m88 J89 P90 hw => ?_)
      obtain ⟨hp92, hw⟩ := hw
      refine s_pop (pc := 305) rfl rfl ?_
      refine s_aload_n (pc := 306) rfl rfl ?_
      refine s_aload_n (pc := 307) rfl rfl ?_
      refine s_iload_n (pc := 308) rfl rfl ?_
      refine s_iconst (pc := 309) rfl ?_
      refine s_iadd (pc := 310) rfl ?_
      obtain ⟨hb93, hw⟩ := hw
      refine s_sld (pc := 311) rfl hL hb93 ?_
      refine s_ci (pc := 312) (d := (d + 8)) (t := []) rfl rfl (am_ca_v (ps := [.int (iz ((xs (x3 + 1).toNat).toInt))]) rfl ko_262) (Nat.le_of_ble_eq_true rfl) (Ci.weak hw fun z97 m94 J95 P96 hw => ?_)
      obtain ⟨hp98, hw⟩ := hw
      refine s_pop (pc := 315) rfl rfl ?_
      refine s_goto (pc := 316) (tgt := 569) rfl rfl ?_
      exact hw
    replace hw := hw.2
    by_cases hs7 : zand ((xs x3.toNat).toInt) 15 = 7
    · replace hw := hw.1 hs7
      refine s_tsw_at (pc := 33) (v := 7) (tgt := 319) rfl hz4 hs7 (by decide) rfl rfl ?_
      refine s_aload_n (pc := 319) rfl rfl ?_
      refine s_aload_n (pc := 320) rfl rfl ?_
      refine s_iload_n (pc := 321) rfl rfl ?_
      refine s_iconst (pc := 322) rfl ?_
      refine s_iadd (pc := 323) rfl ?_
      obtain ⟨hb99, hw⟩ := hw
      refine s_sld (pc := 324) rfl hL hb99 ?_
      refine s_aload_n (pc := 325) rfl rfl ?_
      refine s_iload_n (pc := 326) rfl rfl ?_
      refine s_iconst (pc := 327) rfl ?_
      refine s_iadd (pc := 328) rfl ?_
      obtain ⟨hb100, hw⟩ := hw
      refine s_sld (pc := 329) rfl hL hb100 ?_
      obtain ⟨hz101, hw⟩ := hw
      refine s_if_eq (pc := 330) (tgt := 337) rfl rfl hz101 (fun hc => ?_) (fun hc => ?_)
      · replace hw := hw.1 hc
        refine s_iconst (pc := 337) rfl ?_
        refine s_ci (pc := 338) (d := (d + 8)) (t := []) rfl rfl (am_ca_v (ps := [.int (iz 0), .int (iz ((xs (x3 + 1).toNat).toInt))]) rfl ko_1) (Nat.le_of_ble_eq_true rfl) (Ci.weak hw fun z105 m102 J103 P104 hw => ?_)
        obtain ⟨hp106, hw⟩ := hw
        refine s_pop (pc := 341) rfl rfl ?_
        refine s_aload_n (pc := 342) rfl rfl ?_
        refine s_aload_n (pc := 343) rfl rfl ?_
        refine s_iload_n (pc := 344) rfl rfl ?_
        refine s_iconst (pc := 345) rfl ?_
        refine s_iadd (pc := 346) rfl ?_
        obtain ⟨hb107, hw⟩ := hw
        refine s_sld (pc := 347) rfl hL hb107 ?_
        refine s_aload_n (pc := 348) rfl rfl ?_
        refine s_iload_n (pc := 349) rfl rfl ?_
        refine s_iconst (pc := 350) rfl ?_
        refine s_iadd (pc := 351) rfl ?_
        obtain ⟨hb108, hw⟩ := hw
        refine s_sld (pc := 352) rfl hL hb108 ?_
        obtain ⟨hz109, hw⟩ := hw
        refine s_if_eq (pc := 353) (tgt := 360) rfl rfl hz109 (fun hc => ?_) (fun hc => ?_)
        · replace hw := hw.1 hc
          refine s_iconst (pc := 360) rfl ?_
          refine s_ci (pc := 361) (d := (d + 8)) (t := []) rfl rfl (am_ca_v (ps := [.int (iz 0), .int (iz ((xs (x3 + 1).toNat).toInt))]) rfl ko_262) (Nat.le_of_ble_eq_true rfl) (Ci.weak hw fun z113 m110 J111 P112 hw => ?_)
          obtain ⟨hp114, hw⟩ := hw
          refine s_pop (pc := 364) rfl rfl ?_
          refine s_goto (pc := 365) (tgt := 569) rfl rfl ?_
          exact hw
        · replace hw := hw.2 hc
          refine s_iconst (pc := 356) rfl ?_
          refine s_goto (pc := 357) (tgt := 361) rfl rfl ?_
          refine s_ci (pc := 361) (d := (d + 8)) (t := []) rfl rfl (am_ca_v (ps := [.int (iz 1), .int (iz ((xs (x3 + 1).toNat).toInt))]) rfl ko_262) (Nat.le_of_ble_eq_true rfl) (Ci.weak hw fun z118 m115 J116 P117 hw => ?_)
          obtain ⟨hp119, hw⟩ := hw
          refine s_pop (pc := 364) rfl rfl ?_
          refine s_goto (pc := 365) (tgt := 569) rfl rfl ?_
          exact hw
      · replace hw := hw.2 hc
        refine s_iconst (pc := 333) rfl ?_
        refine s_goto (pc := 334) (tgt := 338) rfl rfl ?_
        refine s_ci (pc := 338) (d := (d + 8)) (t := []) rfl rfl (am_ca_v (ps := [.int (iz 1), .int (iz ((xs (x3 + 1).toNat).toInt))]) rfl ko_1) (Nat.le_of_ble_eq_true rfl) (Ci.weak hw fun z123 m120 J121 P122 hw => ?_)
        obtain ⟨hp124, hw⟩ := hw
        refine s_pop (pc := 341) rfl rfl ?_
        refine s_aload_n (pc := 342) rfl rfl ?_
        refine s_aload_n (pc := 343) rfl rfl ?_
        refine s_iload_n (pc := 344) rfl rfl ?_
        refine s_iconst (pc := 345) rfl ?_
        refine s_iadd (pc := 346) rfl ?_
        obtain ⟨hb125, hw⟩ := hw
        refine s_sld (pc := 347) rfl hL hb125 ?_
        refine s_aload_n (pc := 348) rfl rfl ?_
        refine s_iload_n (pc := 349) rfl rfl ?_
        refine s_iconst (pc := 350) rfl ?_
        refine s_iadd (pc := 351) rfl ?_
        obtain ⟨hb126, hw⟩ := hw
        refine s_sld (pc := 352) rfl hL hb126 ?_
        obtain ⟨hz127, hw⟩ := hw
        refine s_if_eq (pc := 353) (tgt := 360) rfl rfl hz127 (fun hc => ?_) (fun hc => ?_)
        · replace hw := hw.1 hc
          refine s_iconst (pc := 360) rfl ?_
          refine s_ci (pc := 361) (d := (d + 8)) (t := []) rfl rfl (am_ca_v (ps := [.int (iz 0), .int (iz ((xs (x3 + 1).toNat).toInt))]) rfl ko_262) (Nat.le_of_ble_eq_true rfl) (Ci.weak hw fun z131 m128 J129 P130 hw => ?_)
          obtain ⟨hp132, hw⟩ := hw
          refine s_pop (pc := 364) rfl rfl ?_
          refine s_goto (pc := 365) (tgt := 569) rfl rfl ?_
          exact hw
        · replace hw := hw.2 hc
          refine s_iconst (pc := 356) rfl ?_
          refine s_goto (pc := 357) (tgt := 361) rfl rfl ?_
          refine s_ci (pc := 361) (d := (d + 8)) (t := []) rfl rfl (am_ca_v (ps := [.int (iz 1), .int (iz ((xs (x3 + 1).toNat).toInt))]) rfl ko_262) (Nat.le_of_ble_eq_true rfl) (Ci.weak hw fun z136 m133 J134 P135 hw => ?_)
          obtain ⟨hp137, hw⟩ := hw
          refine s_pop (pc := 364) rfl rfl ?_
          refine s_goto (pc := 365) (tgt := 569) rfl rfl ?_
          exact hw
    replace hw := hw.2
    by_cases hs8 : zand ((xs x3.toNat).toInt) 15 = 8
    · replace hw := hw.1 hs8
      refine s_tsw_at (pc := 33) (v := 8) (tgt := 368) rfl hz4 hs8 (by decide) rfl rfl ?_
      refine s_aload_n (pc := 368) rfl rfl ?_
      refine s_aload_n (pc := 369) rfl rfl ?_
      refine s_iload_n (pc := 370) rfl rfl ?_
      refine s_iconst (pc := 371) rfl ?_
      refine s_iadd (pc := 372) rfl ?_
      obtain ⟨hb138, hw⟩ := hw
      refine s_sld (pc := 373) rfl hL hb138 ?_
      refine s_ci (pc := 374) (d := (d + 8)) (t := []) rfl rfl (am_ca_v (ps := [.int (iz ((xs (x3 + 1).toNat).toInt))]) rfl ko_1) (Nat.le_of_ble_eq_true rfl) (Ci.weak hw fun z142 m139 J140 P141 hw => ?_)
      obtain ⟨hp143, hw⟩ := hw
      refine s_pop (pc := 377) rfl rfl ?_
      refine s_aload_n (pc := 378) rfl rfl ?_
      refine s_aload_n (pc := 379) rfl rfl ?_
      refine s_iload_n (pc := 380) rfl rfl ?_
      refine s_iconst (pc := 381) rfl ?_
      refine s_iadd (pc := 382) rfl ?_
      obtain ⟨hb144, hw⟩ := hw
      refine s_sld (pc := 383) rfl hL hb144 ?_
      refine s_ci (pc := 384) (d := (d + 8)) (t := []) rfl rfl (am_ca_v (ps := [.int (iz ((xs (x3 + 1).toNat).toInt))]) rfl ko_262) (Nat.le_of_ble_eq_true rfl) (Ci.weak hw fun z148 m145 J146 P147 hw => ?_)
      obtain ⟨hp149, hw⟩ := hw
      refine s_pop (pc := 387) rfl rfl ?_
      refine s_goto (pc := 388) (tgt := 569) rfl rfl ?_
      exact hw
    replace hw := hw.2
    by_cases hs9 : zand ((xs x3.toNat).toInt) 15 = 9
    · replace hw := hw.1 hs9
      refine s_tsw_at (pc := 33) (v := 9) (tgt := 391) rfl hz4 hs9 (by decide) rfl rfl ?_
      refine s_aload_n (pc := 391) rfl rfl ?_
      refine s_aload_n (pc := 392) rfl rfl ?_
      refine s_iload_n (pc := 393) rfl rfl ?_
      refine s_iconst (pc := 394) rfl ?_
      refine s_iadd (pc := 395) rfl ?_
      obtain ⟨hb150, hw⟩ := hw
      refine s_sld (pc := 396) rfl hL hb150 ?_
      refine s_ci (pc := 397) (d := (d + 8)) (t := []) rfl rfl (am_ca_v (ps := [.int (iz ((xs (x3 + 1).toNat).toInt))]) rfl ko_1) (Nat.le_of_ble_eq_true rfl) (Ci.weak hw fun z154 m151 J152 P153 hw => ?_)
      obtain ⟨hp155, hw⟩ := hw
      refine s_pop (pc := 400) rfl rfl ?_
      refine s_aload_n (pc := 401) rfl rfl ?_
      refine s_aload_n (pc := 402) rfl rfl ?_
      refine s_iload_n (pc := 403) rfl rfl ?_
      refine s_iconst (pc := 404) rfl ?_
      refine s_iadd (pc := 405) rfl ?_
      obtain ⟨hb156, hw⟩ := hw
      refine s_sld (pc := 406) rfl hL hb156 ?_
      refine s_ci (pc := 407) (d := (d + 8)) (t := []) rfl rfl (am_ca_v (ps := [.int (iz ((xs (x3 + 1).toNat).toInt))]) rfl ko_262) (Nat.le_of_ble_eq_true rfl) (Ci.weak hw fun z160 m157 J158 P159 hw => ?_)
      obtain ⟨hp161, hw⟩ := hw
      refine s_pop (pc := 410) rfl rfl ?_
      refine s_goto (pc := 411) (tgt := 569) rfl rfl ?_
      exact hw
    replace hw := hw.2
    by_cases hs10 : zand ((xs x3.toNat).toInt) 15 = 10
    · replace hw := hw.1 hs10
      refine s_tsw_at (pc := 33) (v := 10) (tgt := 414) rfl hz4 hs10 (by decide) rfl rfl ?_
      refine s_aload_n (pc := 414) rfl rfl ?_
      refine s_aload_n (pc := 415) rfl rfl ?_
      refine s_iload_n (pc := 416) rfl rfl ?_
      refine s_iconst (pc := 417) rfl ?_
      refine s_iadd (pc := 418) rfl ?_
      obtain ⟨hb162, hw⟩ := hw
      refine s_sld (pc := 419) rfl hL hb162 ?_
      refine s_aload_n (pc := 420) rfl rfl ?_
      refine s_iload_n (pc := 421) rfl rfl ?_
      refine s_iconst (pc := 422) rfl ?_
      refine s_iadd (pc := 423) rfl ?_
      obtain ⟨hb163, hw⟩ := hw
      refine s_sld (pc := 424) rfl hL hb163 ?_
      refine s_ci (pc := 425) (d := (d + 8)) (t := []) rfl rfl (am_ca_v (ps := [.int (iz ((xs (x3 + 2).toNat).toInt)), .int (iz ((xs (x3 + 1).toNat).toInt))]) rfl ko_1) (Nat.le_of_ble_eq_true rfl) (Ci.weak hw fun z167 m164 J165 P166 hw => ?_)
      obtain ⟨hp168, hw⟩ := hw
      refine s_pop (pc := 428) rfl rfl ?_
      refine s_aload_n (pc := 429) rfl rfl ?_
      refine s_aload_n (pc := 430) rfl rfl ?_
      refine s_iload_n (pc := 431) rfl rfl ?_
      refine s_iconst (pc := 432) rfl ?_
      refine s_iadd (pc := 433) rfl ?_
      obtain ⟨hb169, hw⟩ := hw
      refine s_sld (pc := 434) rfl hL hb169 ?_
      refine s_aload_n (pc := 435) rfl rfl ?_
      refine s_iload_n (pc := 436) rfl rfl ?_
      refine s_iconst (pc := 437) rfl ?_
      refine s_iadd (pc := 438) rfl ?_
      obtain ⟨hb170, hw⟩ := hw
      refine s_sld (pc := 439) rfl hL hb170 ?_
      refine s_ci (pc := 440) (d := (d + 8)) (t := []) rfl rfl (am_ca_v (ps := [.int (iz ((xs (x3 + 2).toNat).toInt)), .int (iz ((xs (x3 + 1).toNat).toInt))]) rfl ko_262) (Nat.le_of_ble_eq_true rfl) (Ci.weak hw fun z174 m171 J172 P173 hw => ?_)
      obtain ⟨hp175, hw⟩ := hw
      refine s_pop (pc := 443) rfl rfl ?_
      refine s_goto (pc := 444) (tgt := 569) rfl rfl ?_
      exact hw
    replace hw := hw.2
    by_cases hs11 : zand ((xs x3.toNat).toInt) 15 = 11
    · replace hw := hw.1 hs11
      refine s_tsw_at (pc := 33) (v := 11) (tgt := 447) rfl hz4 hs11 (by decide) rfl rfl ?_
      refine s_aload_n (pc := 447) rfl rfl ?_
      refine s_aload_n (pc := 448) rfl rfl ?_
      refine s_iload_n (pc := 449) rfl rfl ?_
      refine s_iconst (pc := 450) rfl ?_
      refine s_iadd (pc := 451) rfl ?_
      obtain ⟨hb176, hw⟩ := hw
      refine s_sld (pc := 452) rfl hL hb176 ?_
      refine s_aload_n (pc := 453) rfl rfl ?_
      refine s_iload_n (pc := 454) rfl rfl ?_
      refine s_iconst (pc := 455) rfl ?_
      refine s_iadd (pc := 456) rfl ?_
      obtain ⟨hb177, hw⟩ := hw
      refine s_sld (pc := 457) rfl hL hb177 ?_
      refine s_ci (pc := 458) (d := (d + 8)) (t := []) rfl rfl (am_ca_v (ps := [.int (iz ((xs (x3 + 2).toNat).toInt)), .int (iz ((xs (x3 + 1).toNat).toInt))]) rfl ko_1) (Nat.le_of_ble_eq_true rfl) (Ci.weak hw fun z181 m178 J179 P180 hw => ?_)
      obtain ⟨hp182, hw⟩ := hw
      refine s_pop (pc := 461) rfl rfl ?_
      refine s_aload_n (pc := 462) rfl rfl ?_
      refine s_aload_n (pc := 463) rfl rfl ?_
      refine s_iload_n (pc := 464) rfl rfl ?_
      refine s_iconst (pc := 465) rfl ?_
      refine s_iadd (pc := 466) rfl ?_
      obtain ⟨hb183, hw⟩ := hw
      refine s_sld (pc := 467) rfl hL hb183 ?_
      refine s_aload_n (pc := 468) rfl rfl ?_
      refine s_iload_n (pc := 469) rfl rfl ?_
      refine s_iconst (pc := 470) rfl ?_
      refine s_iadd (pc := 471) rfl ?_
      obtain ⟨hb184, hw⟩ := hw
      refine s_sld (pc := 472) rfl hL hb184 ?_
      refine s_ci (pc := 473) (d := (d + 8)) (t := []) rfl rfl (am_ca_v (ps := [.int (iz ((xs (x3 + 2).toNat).toInt)), .int (iz ((xs (x3 + 1).toNat).toInt))]) rfl ko_262) (Nat.le_of_ble_eq_true rfl) (Ci.weak hw fun z188 m185 J186 P187 hw => ?_)
      obtain ⟨hp189, hw⟩ := hw
      refine s_pop (pc := 476) rfl rfl ?_
      refine s_goto (pc := 477) (tgt := 569) rfl rfl ?_
      exact hw
    replace hw := hw.2
    by_cases hs12 : zand ((xs x3.toNat).toInt) 15 = 12
    · replace hw := hw.1 hs12
      refine s_tsw_at (pc := 33) (v := 12) (tgt := 480) rfl hz4 hs12 (by decide) rfl rfl ?_
      refine s_aload_n (pc := 480) rfl rfl ?_
      refine s_aload_n (pc := 481) rfl rfl ?_
      refine s_iload_n (pc := 482) rfl rfl ?_
      refine s_iconst (pc := 483) rfl ?_
      refine s_iadd (pc := 484) rfl ?_
      obtain ⟨hb190, hw⟩ := hw
      refine s_sld (pc := 485) rfl hL hb190 ?_
      refine s_aload_n (pc := 486) rfl rfl ?_
      refine s_iload_n (pc := 487) rfl rfl ?_
      refine s_iconst (pc := 488) rfl ?_
      refine s_iadd (pc := 489) rfl ?_
      obtain ⟨hb191, hw⟩ := hw
      refine s_sld (pc := 490) rfl hL hb191 ?_
      refine s_ci (pc := 491) (d := (d + 8)) (t := []) rfl rfl (am_ca_v (ps := [.int (iz ((xs (x3 + 2).toNat).toInt)), .int (iz ((xs (x3 + 1).toNat).toInt))]) rfl ko_1) (Nat.le_of_ble_eq_true rfl) (Ci.weak hw fun z195 m192 J193 P194 hw => ?_)
      obtain ⟨hp196, hw⟩ := hw
      refine s_pop (pc := 494) rfl rfl ?_
      refine s_aload_n (pc := 495) rfl rfl ?_
      refine s_aload_n (pc := 496) rfl rfl ?_
      refine s_iload_n (pc := 497) rfl rfl ?_
      refine s_iconst (pc := 498) rfl ?_
      refine s_iadd (pc := 499) rfl ?_
      obtain ⟨hb197, hw⟩ := hw
      refine s_sld (pc := 500) rfl hL hb197 ?_
      refine s_aload_n (pc := 501) rfl rfl ?_
      refine s_iload_n (pc := 502) rfl rfl ?_
      refine s_iconst (pc := 503) rfl ?_
      refine s_iadd (pc := 504) rfl ?_
      obtain ⟨hb198, hw⟩ := hw
      refine s_sld (pc := 505) rfl hL hb198 ?_
      refine s_ci (pc := 506) (d := (d + 8)) (t := []) rfl rfl (am_ca_v (ps := [.int (iz ((xs (x3 + 2).toNat).toInt)), .int (iz ((xs (x3 + 1).toNat).toInt))]) rfl ko_262) (Nat.le_of_ble_eq_true rfl) (Ci.weak hw fun z202 m199 J200 P201 hw => ?_)
      obtain ⟨hp203, hw⟩ := hw
      refine s_pop (pc := 509) rfl rfl ?_
      refine s_goto (pc := 510) (tgt := 569) rfl rfl ?_
      exact hw
    replace hw := hw.2
    by_cases hs13 : zand ((xs x3.toNat).toInt) 15 = 13
    · replace hw := hw.1 hs13
      refine s_tsw_at (pc := 33) (v := 13) (tgt := 513) rfl hz4 hs13 (by decide) rfl rfl ?_
      refine s_aload_n (pc := 513) rfl rfl ?_
      refine s_aload_n (pc := 514) rfl rfl ?_
      refine s_iload_n (pc := 515) rfl rfl ?_
      refine s_iconst (pc := 516) rfl ?_
      refine s_iadd (pc := 517) rfl ?_
      obtain ⟨hb204, hw⟩ := hw
      refine s_sld (pc := 518) rfl hL hb204 ?_
      refine s_aload_n (pc := 519) rfl rfl ?_
      refine s_iload_n (pc := 520) rfl rfl ?_
      refine s_iconst (pc := 521) rfl ?_
      refine s_iadd (pc := 522) rfl ?_
      obtain ⟨hb205, hw⟩ := hw
      refine s_sld (pc := 523) rfl hL hb205 ?_
      refine s_ci (pc := 524) (d := (d + 8)) (t := []) rfl rfl (am_ca_v (ps := [.int (iz ((xs (x3 + 2).toNat).toInt)), .int (iz ((xs (x3 + 1).toNat).toInt))]) rfl ko_1) (Nat.le_of_ble_eq_true rfl) (Ci.weak hw fun z209 m206 J207 P208 hw => ?_)
      obtain ⟨hp210, hw⟩ := hw
      refine s_pop (pc := 527) rfl rfl ?_
      refine s_aload_n (pc := 528) rfl rfl ?_
      refine s_aload_n (pc := 529) rfl rfl ?_
      refine s_iload_n (pc := 530) rfl rfl ?_
      refine s_iconst (pc := 531) rfl ?_
      refine s_iadd (pc := 532) rfl ?_
      obtain ⟨hb211, hw⟩ := hw
      refine s_sld (pc := 533) rfl hL hb211 ?_
      refine s_aload_n (pc := 534) rfl rfl ?_
      refine s_iload_n (pc := 535) rfl rfl ?_
      refine s_iconst (pc := 536) rfl ?_
      refine s_iadd (pc := 537) rfl ?_
      obtain ⟨hb212, hw⟩ := hw
      refine s_sld (pc := 538) rfl hL hb212 ?_
      refine s_ci (pc := 539) (d := (d + 8)) (t := []) rfl rfl (am_ca_v (ps := [.int (iz ((xs (x3 + 2).toNat).toInt)), .int (iz ((xs (x3 + 1).toNat).toInt))]) rfl ko_262) (Nat.le_of_ble_eq_true rfl) (Ci.weak hw fun z216 m213 J214 P215 hw => ?_)
      obtain ⟨hp217, hw⟩ := hw
      refine s_pop (pc := 542) rfl rfl ?_
      refine s_goto (pc := 543) (tgt := 569) rfl rfl ?_
      exact hw
    replace hw := hw.2
    by_cases hs14 : zand ((xs x3.toNat).toInt) 15 = 14
    · replace hw := hw.1 hs14
      refine s_tsw_at (pc := 33) (v := 14) (tgt := 546) rfl hz4 hs14 (by decide) rfl rfl ?_
      refine s_aload_n (pc := 546) rfl rfl ?_
      refine s_aload_n (pc := 547) rfl rfl ?_
      refine s_iload_n (pc := 548) rfl rfl ?_
      refine s_iconst (pc := 549) rfl ?_
      refine s_iadd (pc := 550) rfl ?_
      obtain ⟨hb218, hw⟩ := hw
      refine s_sld (pc := 551) rfl hL hb218 ?_
      refine s_ci (pc := 552) (d := (d + 8)) (t := []) rfl rfl (am_ca_v (ps := [.int (iz ((xs (x3 + 1).toNat).toInt))]) rfl ko_1) (Nat.le_of_ble_eq_true rfl) (Ci.weak hw fun z222 m219 J220 P221 hw => ?_)
      obtain ⟨hp223, hw⟩ := hw
      refine s_aload_n (pc := 555) rfl rfl ?_
      refine s_aload_n (pc := 556) rfl rfl ?_
      refine s_iload_n (pc := 557) rfl rfl ?_
      refine s_iconst (pc := 558) rfl ?_
      refine s_iadd (pc := 559) rfl ?_
      obtain ⟨hb224, hw⟩ := hw
      refine s_sld (pc := 560) rfl hL hb224 ?_
      refine s_ci (pc := 561) (d := (d + 8)) (t := [.int (iz z222)]) rfl rfl (am_ca_v (ps := [.int (iz ((xs (x3 + 1).toNat).toInt))]) rfl ko_262) (Nat.le_of_ble_eq_true rfl) (Ci.weak hw fun z228 m225 J226 P227 hw => ?_)
      obtain ⟨hp229, hw⟩ := hw
      obtain ⟨hz230, hw⟩ := hw
      obtain ⟨hz231, hw⟩ := hw
      refine s_ic_eq (pc := 564) (tgt := 569) rfl rfl hz230 hz231 (fun hc => ?_) (fun hc => ?_)
      · replace hw := hw.1 hc
        exact hw
      · replace hw := hw.2 hc
        refine s_iconst (pc := 567) rfl ?_
        exact s_retz (pc := 568) rfl rfl (by decide) hw
    replace hw := hw.2
    have hs : (zand ((xs x3.toNat).toInt) 15) < 0 ∨ 14 < (zand ((xs x3.toNat).toInt) 15) := by omega
    replace hw := hw hs
    refine s_tsw_out (pc := 33) (tgt := 569) rfl hz4 hs rfl ?_
    exact hw

set_option maxRecDepth 20000 in
set_option maxHeartbeats 4000000 in
theorem b_Law_law_569 (n0 : Nat) (xs : Nat → Int32) (hL : n0 ≤ 100000) {d : Nat} (x3 : Int)  (m : Mi) (J : Mj) (P : Mp) (hp : PP P) (post : Int → Mi → Mj → Mp → Prop)
    (hw : Rn (some (n0, xs)) (d + 9) 0 18 [some (.ref 0), some (.ref 1), some (.ref 262), some (.int (iz (x3 + 6)))] [] (SS m J P) (QI post)) : Rn (some (n0, xs)) (d + 9) 0 569 [some (.ref 0), some (.ref 1), some (.ref 262), some (.int (iz x3))] [] (SS m J P) (QI post) := by
  refine s_iinc (pc := 569) (L' := [some (.ref 0), some (.ref 1), some (.ref 262), some (.int (iz (x3 + 6)))]) rfl rfl (Nat.le_of_ble_eq_true rfl) rfl ?_
  refine s_goto (pc := 572) (tgt := 18) rfl rfl ?_
  exact hw
