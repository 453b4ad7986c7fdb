/-! the methods, from place to place, by program (wip/whole/gen/blk.py) -/
set_option maxRecDepth 20000 in
set_option maxHeartbeats 4000000 in
theorem b_Mdl_asks_0 {X : aX} {d : Nat} (x1 : Int) (x2 : Int)  (m : Mi) (J : Mj) (P : Mp) (hp : PP P) (post : Int → Mi → Mj → Mp → Prop)
    (hw : Cv X (d + 3) 137 [.ref 262, .int (iz x1)] m J P (fun m1 J2 P3 => PP P3 ∧ Cv X (d + 3) 147 [.ref 262, .int (iz 6)] (mu (mu m1 262 16 0) 262 17 0) J2 P3 (fun m6 J7 P8 => PP P8 ∧ Zr (x2) ∧ (((x2 = 0) → Cv X (d + 3) 186 [.ref 262] m6 J7 P8 (fun m12 J13 P14 => PP P14 ∧ Zr (m12 262 10) ∧ (((¬ (m12 262 10) = 0) → Rn X (d + 4) 185 81 [some (.ref 262), some (.int (iz x1)), some (.int (iz x2)), some (.int (iz (m6 262 16)))] [] (SS m12 J13 P14) (QI post)) ∧ (¬ (¬ (m12 262 10) = 0) → Cv X (d + 3) 152 [.ref 262, .int (iz 0), .int (iz (m12 262 16)), .ref 279, .int (iz (m12 262 34)), .ref 280] m12 J13 P14 (fun m18 J19 P20 => PP P20 ∧ Rn X (d + 4) 185 81 [some (.ref 262), some (.int (iz x1)), some (.int (iz x2)), some (.int (iz (m6 262 16)))] [] (SS m18 J19 P20) (QI post)))))) ∧ (¬ (x2 = 0) → Cv X (d + 3) 145 [.ref 262, .int (iz 61)] m6 J7 P8 (fun m23 J24 P25 => PP P25 ∧ Zr (m23 262 10) ∧ (((¬ (m23 262 10) = 0) → Cv X (d + 3) 186 [.ref 262] m23 J24 P25 (fun m29 J30 P31 => PP P31 ∧ Zr (m29 262 10) ∧ (((¬ (m29 262 10) = 0) → Rn X (d + 4) 185 81 [some (.ref 262), some (.int (iz x1)), some (.int (iz x2)), some (.int (iz (m6 262 16)))] [] (SS m29 J30 P31) (QI post)) ∧ (¬ (¬ (m29 262 10) = 0) → Cv X (d + 3) 152 [.ref 262, .int (iz 0), .int (iz (m29 262 16)), .ref 279, .int (iz (m29 262 34)), .ref 280] m29 J30 P31 (fun m35 J36 P37 => PP P37 ∧ Rn X (d + 4) 185 81 [some (.ref 262), some (.int (iz x1)), some (.int (iz x2)), some (.int (iz (m6 262 16)))] [] (SS m35 J36 P37) (QI post)))))) ∧ (¬ (¬ (m23 262 10) = 0) → Cv X (d + 3) 147 [.ref 262, .int (iz 6)] m23 J24 P25 (fun m40 J41 P42 => PP P42 ∧ Cv X (d + 3) 186 [.ref 262] m40 J41 P42 (fun m45 J46 P47 => PP P47 ∧ Zr (m45 262 10) ∧ (((¬ (m45 262 10) = 0) → Rn X (d + 4) 185 81 [some (.ref 262), some (.int (iz x1)), some (.int (iz x2)), some (.int (iz (m6 262 16)))] [] (SS m45 J46 P47) (QI post)) ∧ (¬ (¬ (m45 262 10) = 0) → Cv X (d + 3) 152 [.ref 262, .int (iz 0), .int (iz (m45 262 16)), .ref 279, .int (iz (m45 262 34)), .ref 280] m45 J46 P47 (fun m51 J52 P53 => PP P53 ∧ Rn X (d + 4) 185 81 [some (.ref 262), some (.int (iz x1)), some (.int (iz x2)), some (.int (iz (m6 262 16)))] [] (SS m51 J52 P53) (QI post)))))))))))))) : Rn X (d + 4) 185 0 [some (.ref 262), some (.int (iz x1)), some (.int (iz x2)), none] [] (SS m J P) (QI post) := by
  refine s_aload_n (pc := 0) rfl rfl ?_
  refine s_iload_n (pc := 1) rfl rfl ?_
  refine s_cv (pc := 2) (d := (d + 3)) (t := []) rfl rfl (am_ca_v (ps := [.int (iz x1)]) rfl ko_262) (Nat.le_of_ble_eq_true rfl) (Cv.weak hw fun m1 J2 P3 hw => ?_)
  obtain ⟨hp5, hw⟩ := hw
  refine s_aload_n (pc := 5) rfl rfl ?_
  refine s_iconst (pc := 6) rfl ?_
  refine s_putI (pc := 7) rfl ko_262 ?_
  refine s_aload_n (pc := 10) rfl rfl ?_
  refine s_iconst (pc := 11) rfl ?_
  refine s_putI (pc := 12) rfl ko_262 ?_
  refine s_aload_n (pc := 15) rfl rfl ?_
  refine s_bipush (pc := 16) rfl (by decide) ?_
  refine s_cv (pc := 18) (d := (d + 3)) (t := []) rfl rfl (am_ca_v (ps := [.int (iz 6)]) rfl ko_262) (Nat.le_of_ble_eq_true rfl) (Cv.weak hw fun m6 J7 P8 hw => ?_)
  obtain ⟨hp10, hw⟩ := hw
  refine s_aload_n (pc := 21) rfl rfl ?_
  refine s_getI (pc := 22) rfl ko_262 ?_
  refine s_istore_n (pc := 25) (L' := [some (.ref 262), some (.int (iz x1)), some (.int (iz x2)), some (.int (iz (m6 262 16)))]) rfl (Nat.le_of_ble_eq_true rfl) rfl ?_
  refine s_iload_n (pc := 26) rfl rfl ?_
  obtain ⟨hz11, hw⟩ := hw
  refine s_if_eq (pc := 27) (tgt := 49) rfl rfl hz11 (fun hc => ?_) (fun hc => ?_)
  · replace hw := hw.1 hc
    refine s_aload_n (pc := 49) rfl rfl ?_
    refine s_cv (pc := 50) (d := (d + 3)) (t := []) rfl rfl (am_ca_v (ps := []) rfl ko_262) (Nat.le_of_ble_eq_true rfl) (Cv.weak hw fun m12 J13 P14 hw => ?_)
    obtain ⟨hp16, hw⟩ := hw
    refine s_aload_n (pc := 53) rfl rfl ?_
    refine s_getI (pc := 54) rfl ko_262 ?_
    obtain ⟨hz17, hw⟩ := hw
    refine s_if_ne (pc := 57) (tgt := 81) rfl rfl hz17 (fun hc => ?_) (fun hc => ?_)
    · replace hw := hw.1 hc
      exact hw
    · replace hw := hw.2 hc
      refine s_aload_n (pc := 60) rfl rfl ?_
      refine s_iconst (pc := 61) rfl ?_
      refine s_aload_n (pc := 62) rfl rfl ?_
      refine s_getI (pc := 63) rfl ko_262 ?_
      refine s_aload_n (pc := 66) rfl rfl ?_
      refine s_getA (pc := 67) rfl ko_262 (po_262_36 hp16) ?_
      refine s_aload_n (pc := 70) rfl rfl ?_
      refine s_getI (pc := 71) rfl ko_262 ?_
      refine s_aload_n (pc := 74) rfl rfl ?_
      refine s_getA (pc := 75) rfl ko_262 (po_262_37 hp16) ?_
      refine s_cv (pc := 78) (d := (d + 3)) (t := []) rfl rfl (am_ca_v (ps := [.ref 280, .int (iz (m12 262 34)), .ref 279, .int (iz (m12 262 16)), .int (iz 0)]) rfl ko_262) (Nat.le_of_ble_eq_true rfl) (Cv.weak hw fun m18 J19 P20 hw => ?_)
      obtain ⟨hp22, hw⟩ := hw
      exact hw
  · replace hw := hw.2 hc
    refine s_aload_n (pc := 30) rfl rfl ?_
    refine s_bipush (pc := 31) rfl (by decide) ?_
    refine s_cv (pc := 33) (d := (d + 3)) (t := []) rfl rfl (am_ca_v (ps := [.int (iz 61)]) rfl ko_262) (Nat.le_of_ble_eq_true rfl) (Cv.weak hw fun m23 J24 P25 hw => ?_)
    obtain ⟨hp27, hw⟩ := hw
    refine s_aload_n (pc := 36) rfl rfl ?_
    refine s_getI (pc := 37) rfl ko_262 ?_
    obtain ⟨hz28, hw⟩ := hw
    refine s_if_ne (pc := 40) (tgt := 49) rfl rfl hz28 (fun hc => ?_) (fun hc => ?_)
    · replace hw := hw.1 hc
      refine s_aload_n (pc := 49) rfl rfl ?_
      refine s_cv (pc := 50) (d := (d + 3)) (t := []) rfl rfl (am_ca_v (ps := []) rfl ko_262) (Nat.le_of_ble_eq_true rfl) (Cv.weak hw fun m29 J30 P31 hw => ?_)
      obtain ⟨hp33, hw⟩ := hw
      refine s_aload_n (pc := 53) rfl rfl ?_
      refine s_getI (pc := 54) rfl ko_262 ?_
      obtain ⟨hz34, hw⟩ := hw
      refine s_if_ne (pc := 57) (tgt := 81) rfl rfl hz34 (fun hc => ?_) (fun hc => ?_)
      · replace hw := hw.1 hc
        exact hw
      · replace hw := hw.2 hc
        refine s_aload_n (pc := 60) rfl rfl ?_
        refine s_iconst (pc := 61) rfl ?_
        refine s_aload_n (pc := 62) rfl rfl ?_
        refine s_getI (pc := 63) rfl ko_262 ?_
        refine s_aload_n (pc := 66) rfl rfl ?_
        refine s_getA (pc := 67) rfl ko_262 (po_262_36 hp33) ?_
        refine s_aload_n (pc := 70) rfl rfl ?_
        refine s_getI (pc := 71) rfl ko_262 ?_
        refine s_aload_n (pc := 74) rfl rfl ?_
        refine s_getA (pc := 75) rfl ko_262 (po_262_37 hp33) ?_
        refine s_cv (pc := 78) (d := (d + 3)) (t := []) rfl rfl (am_ca_v (ps := [.ref 280, .int (iz (m29 262 34)), .ref 279, .int (iz (m29 262 16)), .int (iz 0)]) rfl ko_262) (Nat.le_of_ble_eq_true rfl) (Cv.weak hw fun m35 J36 P37 hw => ?_)
        obtain ⟨hp39, hw⟩ := hw
        exact hw
    · replace hw := hw.2 hc
      refine s_aload_n (pc := 43) rfl rfl ?_
      refine s_bipush (pc := 44) rfl (by decide) ?_
      refine s_cv (pc := 46) (d := (d + 3)) (t := []) rfl rfl (am_ca_v (ps := [.int (iz 6)]) rfl ko_262) (Nat.le_of_ble_eq_true rfl) (Cv.weak hw fun m40 J41 P42 hw => ?_)
      obtain ⟨hp44, hw⟩ := hw
      refine s_aload_n (pc := 49) rfl rfl ?_
      refine s_cv (pc := 50) (d := (d + 3)) (t := []) rfl rfl (am_ca_v (ps := []) rfl ko_262) (Nat.le_of_ble_eq_true rfl) (Cv.weak hw fun m45 J46 P47 hw => ?_)
      obtain ⟨hp49, hw⟩ := hw
      refine s_aload_n (pc := 53) rfl rfl ?_
      refine s_getI (pc := 54) rfl ko_262 ?_
      obtain ⟨hz50, hw⟩ := hw
      refine s_if_ne (pc := 57) (tgt := 81) rfl rfl hz50 (fun hc => ?_) (fun hc => ?_)
      · replace hw := hw.1 hc
        exact hw
      · replace hw := hw.2 hc
        refine s_aload_n (pc := 60) rfl rfl ?_
        refine s_iconst (pc := 61) rfl ?_
        refine s_aload_n (pc := 62) rfl rfl ?_
        refine s_getI (pc := 63) rfl ko_262 ?_
        refine s_aload_n (pc := 66) rfl rfl ?_
        refine s_getA (pc := 67) rfl ko_262 (po_262_36 hp49) ?_
        refine s_aload_n (pc := 70) rfl rfl ?_
        refine s_getI (pc := 71) rfl ko_262 ?_
        refine s_aload_n (pc := 74) rfl rfl ?_
        refine s_getA (pc := 75) rfl ko_262 (po_262_37 hp49) ?_
        refine s_cv (pc := 78) (d := (d + 3)) (t := []) rfl rfl (am_ca_v (ps := [.ref 280, .int (iz (m45 262 34)), .ref 279, .int (iz (m45 262 16)), .int (iz 0)]) rfl ko_262) (Nat.le_of_ble_eq_true rfl) (Cv.weak hw fun m51 J52 P53 hw => ?_)
        obtain ⟨hp55, hw⟩ := hw
        exact hw

set_option maxRecDepth 20000 in
set_option maxHeartbeats 4000000 in
theorem b_Mdl_asks_81 {X : aX} {d : Nat} (x1 : Int) (x2 : Int) (x3 : Int)  (m : Mi) (J : Mj) (P : Mp) (hp : PP P) (post : Int → Mi → Mj → Mp → Prop)
    (hw : Cv X (d + 3) 159 [.ref 262] m J P (fun m1 J2 P3 => PP P3 ∧ Zr (m1 262 10) ∧ ((((m1 262 10) ≤ 0) → Ci X (d + 3) 187 [.ref 262, .int (iz 0), .int (iz x3), .ref 341] m1 J2 P3 (fun z10 m7 J8 P9 => PP P9 ∧ Ci X (d + 3) 187 [.ref 262, .int (iz x3), .int (iz ((mu m7 262 129 z10) 262 16)), .ref 342] (mu m7 262 129 z10) J8 P9 (fun z15 m12 J13 P14 => PP P14 ∧ post 1 (mu m12 262 130 z15) J13 P14))) ∧ (¬ ((m1 262 10) ≤ 0) → post 0 m1 J2 P3)))) : Rn X (d + 4) 185 81 [some (.ref 262), some (.int (iz x1)), some (.int (iz x2)), some (.int (iz x3))] [] (SS m J P) (QI post) := by
  refine s_aload_n (pc := 81) rfl rfl ?_
  refine s_cv (pc := 82) (d := (d + 3)) (t := []) rfl rfl (am_ca_v (ps := []) rfl ko_262) (Nat.le_of_ble_eq_true rfl) (Cv.weak hw fun m1 J2 P3 hw => ?_)
  obtain ⟨hp5, hw⟩ := hw
  refine s_aload_n (pc := 85) rfl rfl ?_
  refine s_getI (pc := 86) rfl ko_262 ?_
  obtain ⟨hz6, hw⟩ := hw
  refine s_if_le (pc := 89) (tgt := 94) rfl rfl hz6 (fun hc => ?_) (fun hc => ?_)
  · replace hw := hw.1 hc
    refine s_aload_n (pc := 94) rfl rfl ?_
    refine s_aload_n (pc := 95) rfl rfl ?_
    refine s_iconst (pc := 96) rfl ?_
    refine s_iload_n (pc := 97) rfl rfl ?_
    refine s_aload_n (pc := 98) rfl rfl ?_
    refine s_getA (pc := 99) rfl ko_262 (po_262_127 hp5) ?_
    refine s_ci (pc := 102) (d := (d + 3)) (t := [.ref 262]) rfl rfl (am_ca_v (ps := [.ref 341, .int (iz x3), .int (iz 0)]) rfl ko_262) (Nat.le_of_ble_eq_true rfl) (Ci.weak hw fun z10 m7 J8 P9 hw => ?_)
    obtain ⟨hp11, hw⟩ := hw
    refine s_putI (pc := 105) rfl ko_262 ?_
    refine s_aload_n (pc := 108) rfl rfl ?_
    refine s_aload_n (pc := 109) rfl rfl ?_
    refine s_iload_n (pc := 110) rfl rfl ?_
    refine s_aload_n (pc := 111) rfl rfl ?_
    refine s_getI (pc := 112) rfl ko_262 ?_
    refine s_aload_n (pc := 115) rfl rfl ?_
    refine s_getA (pc := 116) rfl ko_262 (po_262_128 hp11) ?_
    refine s_ci (pc := 119) (d := (d + 3)) (t := [.ref 262]) rfl rfl (am_ca_v (ps := [.ref 342, .int (iz ((mu m7 262 129 z10) 262 16)), .int (iz x3)]) rfl ko_262) (Nat.le_of_ble_eq_true rfl) (Ci.weak hw fun z15 m12 J13 P14 hw => ?_)
    obtain ⟨hp16, hw⟩ := hw
    refine s_putI (pc := 122) rfl ko_262 ?_
    refine s_iconst (pc := 125) rfl ?_
    exact s_retz (pc := 126) rfl rfl (by decide) hw
  · replace hw := hw.2 hc
    refine s_iconst (pc := 92) rfl ?_
    exact s_retz (pc := 93) rfl rfl (by decide) hw

set_option maxRecDepth 20000 in
set_option maxHeartbeats 4000000 in
theorem b_Mdl_ends_0 {X : aX} {d : Nat}   (m : Mi) (J : Mj) (P : Mp) (hp : PP P) (post : Mi → Mj → Mp → Prop)
    (hw : Zr (m 262 10) ∧ (((¬ (m 262 10) = 0) → post m J P) ∧ (¬ (¬ (m 262 10) = 0) → Zr (m 262 3) ∧ ((((m 262 3) = 0) → post m J P) ∧ (¬ ((m 262 3) = 0) → Cv X (d + 1) 142 [.ref 262] m J P (fun m3 J4 P5 => PP P5 ∧ post m3 J4 P5)))))) : Rn X (d + 2) 186 0 [some (.ref 262)] [] (SS m J P) (QV post) := by
  refine s_aload_n (pc := 0) rfl rfl ?_
  refine s_getI (pc := 1) rfl ko_262 ?_
  obtain ⟨hz1, hw⟩ := hw
  refine s_if_ne (pc := 4) (tgt := 18) rfl rfl hz1 (fun hc => ?_) (fun hc => ?_)
  · replace hw := hw.1 hc
    exact s_retv (pc := 18) rfl rfl hw
  · replace hw := hw.2 hc
    refine s_aload_n (pc := 7) rfl rfl ?_
    refine s_getI (pc := 8) rfl ko_262 ?_
    obtain ⟨hz2, hw⟩ := hw
    refine s_if_eq (pc := 11) (tgt := 18) rfl rfl hz2 (fun hc => ?_) (fun hc => ?_)
    · replace hw := hw.1 hc
      exact s_retv (pc := 18) rfl rfl hw
    · replace hw := hw.2 hc
      refine s_aload_n (pc := 14) rfl rfl ?_
      refine s_cv (pc := 15) (d := (d + 1)) (t := []) rfl rfl (am_ca_v (ps := []) rfl ko_262) (Nat.le_of_ble_eq_true rfl) (Cv.weak hw fun m3 J4 P5 hw => ?_)
      obtain ⟨hp7, hw⟩ := hw
      exact s_retv (pc := 18) rfl rfl hw

set_option maxRecDepth 20000 in
set_option maxHeartbeats 4000000 in
theorem b_Mdl_numbered_0 {X : aX} {d : Nat} (x1 : Int) (x2 : Int) (x3 nx3 : Nat) (kx3 : am_kd an_K x3 = some (.inr (0, nx3))) (bx3 : nx3 ≤ 100000) (m : Mi) (J : Mj) (P : Mp) (hp : PP P) (post : Int → Mi → Mj → Mp → Prop)
    (hw : Rn X (d + 1) 187 3 [some (.ref 262), some (.int (iz x1)), some (.int (iz x2)), some (.ref x3), some (.int (iz x1))] [] (SS m J P) (QI post)) : Rn X (d + 1) 187 0 [some (.ref 262), some (.int (iz x1)), some (.int (iz x2)), some (.ref x3), none] [] (SS m J P) (QI post) := by
  refine s_iload_n (pc := 0) rfl rfl ?_
  refine s_istore (pc := 1) (L' := [some (.ref 262), some (.int (iz x1)), some (.int (iz x2)), some (.ref x3), some (.int (iz x1))]) rfl (Nat.le_of_ble_eq_true rfl) rfl ?_
  exact hw

set_option maxRecDepth 20000 in
set_option maxHeartbeats 4000000 in
theorem b_Mdl_numbered_3 {X : aX} {d : Nat} (x1 : Int) (x2 : Int) (x3 nx3 : Nat) (x4 : Int) (kx3 : am_kd an_K x3 = some (.inr (0, nx3))) (bx3 : nx3 ≤ 100000) (m : Mi) (J : Mj) (P : Mp) (hp : PP P) (post : Int → Mi → Mj → Mp → Prop)
    (hw : Zr (x4) ∧ Zr (x2) ∧ (((x2 ≤ x4) → post (x2 - x1) m J P) ∧ (¬ (x2 ≤ x4) → ((0 : Int) ≤ x4 ∧ (x4 : Int) < 2000) ∧ Zr (m 269 x4.toNat) ∧ ((((m 269 x4.toNat) < 0) → ((0 : Int) ≤ x4 ∧ (x4 : Int) < 2000) ∧ Ci X d 150 [.ref 262, .long (J 265 x4.toNat), .ref 279, .int (iz (m 262 34))] m J P (fun z9 m6 J7 P8 => PP P8 ∧ ((0 : Int) ≤ (x4 - x1) ∧ ((x4 - x1) : Int) < nx3) ∧ Rn X (d + 1) 187 3 [some (.ref 262), some (.int (iz x1)), some (.int (iz x2)), some (.ref x3), some (.int (iz (x4 + 1)))] [] (SS (mu m6 x3 (x4 - x1).toNat z9) J7 P8) (QI post))) ∧ (¬ ((m 269 x4.toNat) < 0) → ((0 : Int) ≤ x4 ∧ (x4 : Int) < 2000) ∧ ((0 : Int) ≤ (x4 - x1) ∧ ((x4 - x1) : Int) < nx3) ∧ Rn X (d + 1) 187 3 [some (.ref 262), some (.int (iz x1)), some (.int (iz x2)), some (.ref x3), some (.int (iz (x4 + 1)))] [] (SS (mu m x3 (x4 - x1).toNat (((-1)) - (m 269 x4.toNat))) J P) (QI post)))))) : Rn X (d + 1) 187 3 [some (.ref 262), some (.int (iz x1)), some (.int (iz x2)), some (.ref x3), some (.int (iz x4))] [] (SS m J P) (QI post) := by
  refine s_iload (pc := 3) rfl rfl ?_
  refine s_iload_n (pc := 5) rfl rfl ?_
  obtain ⟨hz1, hw⟩ := hw
  obtain ⟨hz2, hw⟩ := hw
  refine s_ic_ge (pc := 6) (tgt := 62) rfl rfl hz1 hz2 (fun hc => ?_) (fun hc => ?_)
  · replace hw := hw.1 hc
    refine s_iload_n (pc := 62) rfl rfl ?_
    refine s_iload_n (pc := 63) rfl rfl ?_
    refine s_isub (pc := 64) rfl ?_
    exact s_reti (pc := 65) rfl rfl hw
  · replace hw := hw.2 hc
    refine s_aload_n (pc := 9) rfl rfl ?_
    refine s_iload (pc := 10) rfl rfl ?_
    refine s_iload_n (pc := 12) rfl rfl ?_
    refine s_isub (pc := 13) rfl ?_
    refine s_aload_n (pc := 14) rfl rfl ?_
    refine s_getA (pc := 15) rfl ko_262 (po_262_23 hp) ?_
    refine s_iload (pc := 18) rfl rfl ?_
    obtain ⟨hb3, hw⟩ := hw
    refine s_iald (pc := 20) rfl ka_269 (by decide) hb3 ?_
    obtain ⟨hz4, hw⟩ := hw
    refine s_if_lt (pc := 21) (tgt := 36) rfl rfl hz4 (fun hc => ?_) (fun hc => ?_)
    · replace hw := hw.1 hc
      refine s_aload_n (pc := 36) rfl rfl ?_
      refine s_aload_n (pc := 37) rfl rfl ?_
      refine s_getA (pc := 38) rfl ko_262 (po_262_19 hp) ?_
      refine s_iload (pc := 41) rfl rfl ?_
      obtain ⟨hb5, hw⟩ := hw
      refine s_lald (pc := 43) rfl ka_265 (by decide) hb5 ?_
      refine s_aload_n (pc := 44) rfl rfl ?_
      refine s_getA (pc := 45) rfl ko_262 (po_262_36 hp) ?_
      refine s_aload_n (pc := 48) rfl rfl ?_
      refine s_getI (pc := 49) rfl ko_262 ?_
      refine s_ci (pc := 52) (d := d) (t := [.int (iz (x4 - x1)), .ref x3]) rfl rfl (am_ca_v (ps := [.int (iz (m 262 34)), .ref 279, .long (J 265 x4.toNat)]) rfl ko_262) (Nat.le_of_ble_eq_true rfl) (Ci.weak hw fun z9 m6 J7 P8 hw => ?_)
      obtain ⟨hp10, hw⟩ := hw
      obtain ⟨hb11, hw⟩ := hw
      refine s_iast (pc := 55) rfl kx3 bx3 hb11 ?_
      refine s_iinc (pc := 56) (L' := [some (.ref 262), some (.int (iz x1)), some (.int (iz x2)), some (.ref x3), some (.int (iz (x4 + 1)))]) rfl rfl (Nat.le_of_ble_eq_true rfl) rfl ?_
      refine s_goto (pc := 59) (tgt := 3) rfl rfl ?_
      exact hw
    · replace hw := hw.2 hc
      refine s_iconst (pc := 24) rfl ?_
      refine s_aload_n (pc := 25) rfl rfl ?_
      refine s_getA (pc := 26) rfl ko_262 (po_262_23 hp) ?_
      refine s_iload (pc := 29) rfl rfl ?_
      obtain ⟨hb12, hw⟩ := hw
      refine s_iald (pc := 31) rfl ka_269 (by decide) hb12 ?_
      refine s_isub (pc := 32) rfl ?_
      refine s_goto (pc := 33) (tgt := 55) rfl rfl ?_
      obtain ⟨hb13, hw⟩ := hw
      refine s_iast (pc := 55) rfl kx3 bx3 hb13 ?_
      refine s_iinc (pc := 56) (L' := [some (.ref 262), some (.int (iz x1)), some (.int (iz x2)), some (.ref x3), some (.int (iz (x4 + 1)))]) rfl rfl (Nat.le_of_ble_eq_true rfl) rfl ?_
      refine s_goto (pc := 59) (tgt := 3) rfl rfl ?_
      exact hw

set_option maxRecDepth 20000 in
set_option maxHeartbeats 4000000 in
theorem b_Mdl_beginOut_0 {X : aX} {d : Nat}   (m : Mi) (J : Mj) (P : Mp) (hp : PP P) (post : Mi → Mj → Mp → Prop)
    (hw : Rn X d 188 12 [some (.ref 262), some (.int (iz 0))] [] (SS (mu (mu m 262 136 0) 262 139 0) J P) (QV post)) : Rn X d 188 0 [some (.ref 262), none] [] (SS m J P) (QV post) := by
  refine s_aload_n (pc := 0) rfl rfl ?_
  refine s_iconst (pc := 1) rfl ?_
  refine s_putI (pc := 2) rfl ko_262 ?_
  refine s_aload_n (pc := 5) rfl rfl ?_
  refine s_iconst (pc := 6) rfl ?_
  refine s_putI (pc := 7) rfl ko_262 ?_
  refine s_iconst (pc := 10) rfl ?_
  refine s_istore_n (pc := 11) (L' := [some (.ref 262), some (.int (iz 0))]) rfl (Nat.le_of_ble_eq_true rfl) rfl ?_
  exact hw

set_option maxRecDepth 20000 in
set_option maxHeartbeats 4000000 in
theorem b_Mdl_beginOut_12 {X : aX} {d : Nat} (x1 : Int)  (m : Mi) (J : Mj) (P : Mp) (hp : PP P) (post : Mi → Mj → Mp → Prop)
    (hw : Zr (x1) ∧ (((800 ≤ x1) → post m J P) ∧ (¬ (800 ≤ x1) → ((0 : Int) ≤ x1 ∧ (x1 : Int) < 800) ∧ ((0 : Int) ≤ x1 ∧ (x1 : Int) < 800) ∧ Rn X d 188 12 [some (.ref 262), some (.int (iz (x1 + 1)))] [] (SS (mu m 349 x1.toNat 0) (mju J 348 x1.toNat (Int64.ofNat 0)) P) (QV post)))) : Rn X d 188 12 [some (.ref 262), some (.int (iz x1))] [] (SS m J P) (QV post) := by
  refine s_iload_n (pc := 12) rfl rfl ?_
  refine s_sipush (pc := 13) rfl (by decide) ?_
  obtain ⟨hz1, hw⟩ := hw
  refine s_ic_ge (pc := 16) (tgt := 39) rfl rfl hz1 (by decide) (fun hc => ?_) (fun hc => ?_)
  · replace hw := hw.1 hc
    exact s_retv (pc := 39) rfl rfl hw
  · replace hw := hw.2 hc
    refine s_aload_n (pc := 19) rfl rfl ?_
    refine s_getA (pc := 20) rfl ko_262 (po_262_137 hp) ?_
    refine s_iload_n (pc := 23) rfl rfl ?_
    refine s_lconst (pc := 24) rfl ?_
    obtain ⟨hb2, hw⟩ := hw
    refine s_last (pc := 25) rfl ka_348 (by decide) hb2 ?_
    refine s_aload_n (pc := 26) rfl rfl ?_
    refine s_getA (pc := 27) rfl ko_262 (po_262_138 hp) ?_
    refine s_iload_n (pc := 30) rfl rfl ?_
    refine s_iconst (pc := 31) rfl ?_
    obtain ⟨hb3, hw⟩ := hw
    refine s_iast (pc := 32) rfl ka_349 (by decide) hb3 ?_
    refine s_iinc (pc := 33) (L' := [some (.ref 262), some (.int (iz (x1 + 1)))]) rfl rfl (Nat.le_of_ble_eq_true rfl) rfl ?_
    refine s_goto (pc := 36) (tgt := 12) rfl rfl ?_
    exact hw

set_option maxRecDepth 20000 in
set_option maxHeartbeats 4000000 in
theorem b_Mdl_showRow_0 {X : aX} {d : Nat} (x1 nx1 : Nat) (x2 : Int) (x3 : Int) (kx1 : am_kd an_K x1 = some (.inr (0, nx1))) (bx1 : nx1 ≤ 100000) (m : Mi) (J : Mj) (P : Mp) (hp : PP P) (post : Mi → Mj → Mp → Prop)
    (hw : Rn X (d + 3) 189 6 [some (.ref 262), some (.ref x1), some (.int (iz x2)), some (.int (iz x3)), some (.int (iz 0)), some (.int (iz x2)), none, none] [] (SS m J P) (QV post)) : Rn X (d + 3) 189 0 [some (.ref 262), some (.ref x1), some (.int (iz x2)), some (.int (iz x3)), none, none, none, none] [] (SS m J P) (QV post) := by
  refine s_iconst (pc := 0) rfl ?_
  refine s_istore (pc := 1) (L' := [some (.ref 262), some (.ref x1), some (.int (iz x2)), some (.int (iz x3)), some (.int (iz 0)), none, none, none]) rfl (Nat.le_of_ble_eq_true rfl) rfl ?_
  refine s_iload_n (pc := 3) rfl rfl ?_
  refine s_istore (pc := 4) (L' := [some (.ref 262), some (.ref x1), some (.int (iz x2)), some (.int (iz x3)), some (.int (iz 0)), some (.int (iz x2)), none, none]) rfl (Nat.le_of_ble_eq_true rfl) rfl ?_
  exact hw

set_option maxRecDepth 20000 in
set_option maxHeartbeats 4000000 in
theorem b_Mdl_showRow_6 {X : aX} {d : Nat} (x1 nx1 : Nat) (x2 : Int) (x3 : Int) (x4 : Int) (x5 : Int) (kx1 : am_kd an_K x1 = some (.inr (0, nx1))) (bx1 : nx1 ≤ 100000) (m : Mi) (J : Mj) (P : Mp) (hp : PP P) (post : Mi → Mj → Mp → Prop)
    (hw : Zr (x5) ∧ Zr (x2 + x3) ∧ ((((x2 + x3) ≤ x5) → post m J P) ∧ (¬ ((x2 + x3) ≤ x5) → ((0 : Int) ≤ x5 ∧ (x5 : Int) < nx1) ∧ Zr (m x1 x5.toNat) ∧ (((0 ≤ (m x1 x5.toNat)) → ((0 : Int) ≤ x5 ∧ (x5 : Int) < nx1) ∧ Zr (zrem (m x1 x5.toNat) 64) ∧ (((0 ≤ (zrem (m x1 x5.toNat) 64)) → ((0 : Int) ≤ (zrem (m x1 x5.toNat) 64) ∧ ((zrem (m x1 x5.toNat) 64) : Int) < 16) ∧ Cv X (d + 2) 191 [.ref 262, .long (J 279 (zrem (m x1 x5.toNat) 64).toNat)] m J P (fun m8 J9 P10 => PP P10 ∧ Zr (zrem (m x1 x5.toNat) 64) ∧ ((((zrem (m x1 x5.toNat) 64) < 0) → Rn X (d + 3) 189 105 [some (.ref 262), some (.ref x1), some (.int (iz x2)), some (.int (iz x3)), some (.int (iz x4)), some (.int (iz x5)), some (.int (iz (zrem (m x1 x5.toNat) 64))), none] [] (SS m8 J9 P10) (QV post)) ∧ (¬ ((zrem (m x1 x5.toNat) 64) < 0) → ((0 : Int) ≤ (zrem (m x1 x5.toNat) 64) ∧ ((zrem (m x1 x5.toNat) 64) : Int) < 16) ∧ Zr (m8 280 (zrem (m x1 x5.toNat) 64).toNat) ∧ ((((m8 280 (zrem (m x1 x5.toNat) 64).toNat) ≤ 0) → Rn X (d + 3) 189 105 [some (.ref 262), some (.ref x1), some (.int (iz x2)), some (.int (iz x3)), some (.int (iz x4)), some (.int (iz x5)), some (.int (iz (zrem (m x1 x5.toNat) 64))), none] [] (SS m8 J9 P10) (QV post)) ∧ (¬ ((m8 280 (zrem (m x1 x5.toNat) 64).toNat) ≤ 0) → Cv X (d + 2) 193 [.ref 262, .int (iz 40)] m8 J9 P10 (fun m16 J17 P18 => PP P18 ∧ ((0 : Int) ≤ (zrem (m x1 x5.toNat) 64) ∧ ((zrem (m x1 x5.toNat) 64) : Int) < 16) ∧ ((0 : Int) ≤ x4 ∧ (x4 : Int) < 201) ∧ Rn X (d + 3) 189 198 [some (.ref 262), some (.ref x1), some (.int (iz x2)), some (.int (iz x3)), some (.int (iz (x4 + 1))), some (.int (iz x5)), some (.int (iz (zrem (m x1 x5.toNat) 64))), none] [] (SS (mu m16 299 x4.toNat (m16 280 (zrem (m x1 x5.toNat) 64).toNat)) J17 P18) (QV post)))))))) ∧ (¬ (0 ≤ (zrem (m x1 x5.toNat) 64)) → Cv X (d + 2) 190 [.ref 262, .int (iz (((-1)) - (zrem (m x1 x5.toNat) 64)))] m J P (fun m23 J24 P25 => PP P25 ∧ Zr (zrem (m x1 x5.toNat) 64) ∧ ((((zrem (m x1 x5.toNat) 64) < 0) → Rn X (d + 3) 189 105 [some (.ref 262), some (.ref x1), some (.int (iz x2)), some (.int (iz x3)), some (.int (iz x4)), some (.int (iz x5)), some (.int (iz (zrem (m x1 x5.toNat) 64))), none] [] (SS m23 J24 P25) (QV post)) ∧ (¬ ((zrem (m x1 x5.toNat) 64) < 0) → ((0 : Int) ≤ (zrem (m x1 x5.toNat) 64) ∧ ((zrem (m x1 x5.toNat) 64) : Int) < 16) ∧ Zr (m23 280 (zrem (m x1 x5.toNat) 64).toNat) ∧ ((((m23 280 (zrem (m x1 x5.toNat) 64).toNat) ≤ 0) → Rn X (d + 3) 189 105 [some (.ref 262), some (.ref x1), some (.int (iz x2)), some (.int (iz x3)), some (.int (iz x4)), some (.int (iz x5)), some (.int (iz (zrem (m x1 x5.toNat) 64))), none] [] (SS m23 J24 P25) (QV post)) ∧ (¬ ((m23 280 (zrem (m x1 x5.toNat) 64).toNat) ≤ 0) → Cv X (d + 2) 193 [.ref 262, .int (iz 40)] m23 J24 P25 (fun m31 J32 P33 => PP P33 ∧ ((0 : Int) ≤ (zrem (m x1 x5.toNat) 64) ∧ ((zrem (m x1 x5.toNat) 64) : Int) < 16) ∧ ((0 : Int) ≤ x4 ∧ (x4 : Int) < 201) ∧ Rn X (d + 3) 189 198 [some (.ref 262), some (.ref x1), some (.int (iz x2)), some (.int (iz x3)), some (.int (iz (x4 + 1))), some (.int (iz x5)), some (.int (iz (zrem (m x1 x5.toNat) 64))), none] [] (SS (mu m31 299 x4.toNat (m31 280 (zrem (m x1 x5.toNat) 64).toNat)) J32 P33) (QV post)))))))))) ∧ (¬ (0 ≤ (m x1 x5.toNat)) → ((0 : Int) ≤ x5 ∧ (x5 : Int) < nx1) ∧ Zr (m x1 x5.toNat) ∧ (((0 ≤ (m x1 x5.toNat)) → ((0 : Int) ≤ (m x1 x5.toNat) ∧ ((m x1 x5.toNat) : Int) < 16) ∧ Cv X (d + 2) 191 [.ref 262, .long (J 279 (m x1 x5.toNat).toNat)] m J P (fun m41 J42 P43 => PP P43 ∧ Zr (m x1 x5.toNat) ∧ ((((m x1 x5.toNat) < 0) → Rn X (d + 3) 189 105 [some (.ref 262), some (.ref x1), some (.int (iz x2)), some (.int (iz x3)), some (.int (iz x4)), some (.int (iz x5)), some (.int (iz (m x1 x5.toNat))), none] [] (SS m41 J42 P43) (QV post)) ∧ (¬ ((m x1 x5.toNat) < 0) → ((0 : Int) ≤ (m x1 x5.toNat) ∧ ((m x1 x5.toNat) : Int) < 16) ∧ Zr (m41 280 (m x1 x5.toNat).toNat) ∧ ((((m41 280 (m x1 x5.toNat).toNat) ≤ 0) → Rn X (d + 3) 189 105 [some (.ref 262), some (.ref x1), some (.int (iz x2)), some (.int (iz x3)), some (.int (iz x4)), some (.int (iz x5)), some (.int (iz (m x1 x5.toNat))), none] [] (SS m41 J42 P43) (QV post)) ∧ (¬ ((m41 280 (m x1 x5.toNat).toNat) ≤ 0) → Cv X (d + 2) 193 [.ref 262, .int (iz 40)] m41 J42 P43 (fun m49 J50 P51 => PP P51 ∧ ((0 : Int) ≤ (m x1 x5.toNat) ∧ ((m x1 x5.toNat) : Int) < 16) ∧ ((0 : Int) ≤ x4 ∧ (x4 : Int) < 201) ∧ Rn X (d + 3) 189 198 [some (.ref 262), some (.ref x1), some (.int (iz x2)), some (.int (iz x3)), some (.int (iz (x4 + 1))), some (.int (iz x5)), some (.int (iz (m x1 x5.toNat))), none] [] (SS (mu m49 299 x4.toNat (m49 280 (m x1 x5.toNat).toNat)) J50 P51) (QV post)))))))) ∧ (¬ (0 ≤ (m x1 x5.toNat)) → Cv X (d + 2) 190 [.ref 262, .int (iz (((-1)) - (m x1 x5.toNat)))] m J P (fun m56 J57 P58 => PP P58 ∧ Zr (m x1 x5.toNat) ∧ ((((m x1 x5.toNat) < 0) → Rn X (d + 3) 189 105 [some (.ref 262), some (.ref x1), some (.int (iz x2)), some (.int (iz x3)), some (.int (iz x4)), some (.int (iz x5)), some (.int (iz (m x1 x5.toNat))), none] [] (SS m56 J57 P58) (QV post)) ∧ (¬ ((m x1 x5.toNat) < 0) → ((0 : Int) ≤ (m x1 x5.toNat) ∧ ((m x1 x5.toNat) : Int) < 16) ∧ Zr (m56 280 (m x1 x5.toNat).toNat) ∧ ((((m56 280 (m x1 x5.toNat).toNat) ≤ 0) → Rn X (d + 3) 189 105 [some (.ref 262), some (.ref x1), some (.int (iz x2)), some (.int (iz x3)), some (.int (iz x4)), some (.int (iz x5)), some (.int (iz (m x1 x5.toNat))), none] [] (SS m56 J57 P58) (QV post)) ∧ (¬ ((m56 280 (m x1 x5.toNat).toNat) ≤ 0) → Cv X (d + 2) 193 [.ref 262, .int (iz 40)] m56 J57 P58 (fun m64 J65 P66 => PP P66 ∧ ((0 : Int) ≤ (m x1 x5.toNat) ∧ ((m x1 x5.toNat) : Int) < 16) ∧ ((0 : Int) ≤ x4 ∧ (x4 : Int) < 201) ∧ Rn X (d + 3) 189 198 [some (.ref 262), some (.ref x1), some (.int (iz x2)), some (.int (iz x3)), some (.int (iz (x4 + 1))), some (.int (iz x5)), some (.int (iz (m x1 x5.toNat))), none] [] (SS (mu m64 299 x4.toNat (m64 280 (m x1 x5.toNat).toNat)) J65 P66) (QV post)))))))))))))) : Rn X (d + 3) 189 6 [some (.ref 262), some (.ref x1), some (.int (iz x2)), some (.int (iz x3)), some (.int (iz x4)), some (.int (iz x5)), none, none] [] (SS m J P) (QV post) := by
  refine s_iload (pc := 6) rfl rfl ?_
  refine s_iload_n (pc := 8) rfl rfl ?_
  refine s_iload_n (pc := 9) rfl rfl ?_
  refine s_iadd (pc := 10) rfl ?_
  obtain ⟨hz1, hw⟩ := hw
  obtain ⟨hz2, hw⟩ := hw
  refine s_ic_ge (pc := 11) (tgt := 204) rfl rfl hz1 hz2 (fun hc => ?_) (fun hc => ?_)
  · replace hw := hw.1 hc
    exact s_retv (pc := 204) rfl rfl hw
  · replace hw := hw.2 hc
    refine s_aload_n (pc := 14) rfl rfl ?_
    refine s_iload (pc := 15) rfl rfl ?_
    obtain ⟨hb3, hw⟩ := hw
    refine s_iald (pc := 17) rfl kx1 bx1 hb3 ?_
    obtain ⟨hz4, hw⟩ := hw
    refine s_if_ge (pc := 18) (tgt := 28) rfl rfl hz4 (fun hc => ?_) (fun hc => ?_)
    · replace hw := hw.1 hc
      refine s_aload_n (pc := 28) rfl rfl ?_
      refine s_iload (pc := 29) rfl rfl ?_
      obtain ⟨hb5, hw⟩ := hw
      refine s_iald (pc := 31) rfl kx1 bx1 hb5 ?_
      refine s_bipush (pc := 32) rfl (by decide) ?_
      refine s_irem (pc := 34) rfl (by decide) ?_
      refine s_istore (pc := 35) (L' := [some (.ref 262), some (.ref x1), some (.int (iz x2)), some (.int (iz x3)), some (.int (iz x4)), some (.int (iz x5)), some (.int (iz (zrem (m x1 x5.toNat) 64))), none]) rfl (Nat.le_of_ble_eq_true rfl) rfl ?_
      refine s_iload (pc := 37) rfl rfl ?_
      obtain ⟨hz6, hw⟩ := hw
      refine s_if_ge (pc := 39) (tgt := 53) rfl rfl hz6 (fun hc => ?_) (fun hc => ?_)
      · replace hw := hw.1 hc
        refine s_aload_n (pc := 53) rfl rfl ?_
        refine s_aload_n (pc := 54) rfl rfl ?_
        refine s_getA (pc := 55) rfl ko_262 (po_262_36 hp) ?_
        refine s_iload (pc := 58) rfl rfl ?_
        obtain ⟨hb7, hw⟩ := hw
        refine s_lald (pc := 60) rfl ka_279 (by decide) hb7 ?_
        refine s_cv (pc := 61) (d := (d + 2)) (t := []) rfl rfl (am_ca_v (ps := [.long (J 279 (zrem (m x1 x5.toNat) 64).toNat)]) rfl ko_262) (Nat.le_of_ble_eq_true rfl) (Cv.weak hw fun m8 J9 P10 hw => ?_)
        obtain ⟨hp12, hw⟩ := hw
        refine s_iload (pc := 64) rfl rfl ?_
        obtain ⟨hz13, hw⟩ := hw
        refine s_if_lt (pc := 66) (tgt := 105) rfl rfl hz13 (fun hc => ?_) (fun hc => ?_)
        · replace hw := hw.1 hc
          exact hw
        · replace hw := hw.2 hc
          refine s_aload_n (pc := 69) rfl rfl ?_
          refine s_getA (pc := 70) rfl ko_262 (po_262_37 hp12) ?_
          refine s_iload (pc := 73) rfl rfl ?_
          obtain ⟨hb14, hw⟩ := hw
          refine s_iald (pc := 75) rfl ka_280 (by decide) hb14 ?_
          obtain ⟨hz15, hw⟩ := hw
          refine s_if_le (pc := 76) (tgt := 105) rfl rfl hz15 (fun hc => ?_) (fun hc => ?_)
          · replace hw := hw.1 hc
            exact hw
          · replace hw := hw.2 hc
            refine s_aload_n (pc := 79) rfl rfl ?_
            refine s_bipush (pc := 80) rfl (by decide) ?_
            refine s_cv (pc := 82) (d := (d + 2)) (t := []) rfl rfl (am_ca_v (ps := [.int (iz 40)]) rfl ko_262) (Nat.le_of_ble_eq_true rfl) (Cv.weak hw fun m16 J17 P18 hw => ?_)
            obtain ⟨hp20, hw⟩ := hw
            refine s_aload_n (pc := 85) rfl rfl ?_
            refine s_getA (pc := 86) rfl ko_262 (po_262_64 hp20) ?_
            refine s_iload (pc := 89) rfl rfl ?_
            refine s_aload_n (pc := 91) rfl rfl ?_
            refine s_getA (pc := 92) rfl ko_262 (po_262_37 hp20) ?_
            refine s_iload (pc := 95) rfl rfl ?_
            obtain ⟨hb21, hw⟩ := hw
            refine s_iald (pc := 97) rfl ka_280 (by decide) hb21 ?_
            obtain ⟨hb22, hw⟩ := hw
            refine s_iast (pc := 98) rfl ka_299 (by decide) hb22 ?_
            refine s_iinc (pc := 99) (L' := [some (.ref 262), some (.ref x1), some (.int (iz x2)), some (.int (iz x3)), some (.int (iz (x4 + 1))), some (.int (iz x5)), some (.int (iz (zrem (m x1 x5.toNat) 64))), none]) rfl rfl (Nat.le_of_ble_eq_true rfl) rfl ?_
            refine s_goto (pc := 102) (tgt := 198) rfl rfl ?_
            exact hw
      · replace hw := hw.2 hc
        refine s_aload_n (pc := 42) rfl rfl ?_
        refine s_iconst (pc := 43) rfl ?_
        refine s_iload (pc := 44) rfl rfl ?_
        refine s_isub (pc := 46) rfl ?_
        refine s_cv (pc := 47) (d := (d + 2)) (t := []) rfl rfl (am_ca_v (ps := [.int (iz (((-1)) - (zrem (m x1 x5.toNat) 64)))]) rfl ko_262) (Nat.le_of_ble_eq_true rfl) (Cv.weak hw fun m23 J24 P25 hw => ?_)
        obtain ⟨hp27, hw⟩ := hw
        refine s_goto (pc := 50) (tgt := 64) rfl rfl ?_
        refine s_iload (pc := 64) rfl rfl ?_
        obtain ⟨hz28, hw⟩ := hw
        refine s_if_lt (pc := 66) (tgt := 105) rfl rfl hz28 (fun hc => ?_) (fun hc => ?_)
        · replace hw := hw.1 hc
          exact hw
        · replace hw := hw.2 hc
          refine s_aload_n (pc := 69) rfl rfl ?_
          refine s_getA (pc := 70) rfl ko_262 (po_262_37 hp27) ?_
          refine s_iload (pc := 73) rfl rfl ?_
          obtain ⟨hb29, hw⟩ := hw
          refine s_iald (pc := 75) rfl ka_280 (by decide) hb29 ?_
          obtain ⟨hz30, hw⟩ := hw
          refine s_if_le (pc := 76) (tgt := 105) rfl rfl hz30 (fun hc => ?_) (fun hc => ?_)
          · replace hw := hw.1 hc
            exact hw
          · replace hw := hw.2 hc
            refine s_aload_n (pc := 79) rfl rfl ?_
            refine s_bipush (pc := 80) rfl (by decide) ?_
            refine s_cv (pc := 82) (d := (d + 2)) (t := []) rfl rfl (am_ca_v (ps := [.int (iz 40)]) rfl ko_262) (Nat.le_of_ble_eq_true rfl) (Cv.weak hw fun m31 J32 P33 hw => ?_)
            obtain ⟨hp35, hw⟩ := hw
            refine s_aload_n (pc := 85) rfl rfl ?_
            refine s_getA (pc := 86) rfl ko_262 (po_262_64 hp35) ?_
            refine s_iload (pc := 89) rfl rfl ?_
            refine s_aload_n (pc := 91) rfl rfl ?_
            refine s_getA (pc := 92) rfl ko_262 (po_262_37 hp35) ?_
            refine s_iload (pc := 95) rfl rfl ?_
            obtain ⟨hb36, hw⟩ := hw
            refine s_iald (pc := 97) rfl ka_280 (by decide) hb36 ?_
            obtain ⟨hb37, hw⟩ := hw
            refine s_iast (pc := 98) rfl ka_299 (by decide) hb37 ?_
            refine s_iinc (pc := 99) (L' := [some (.ref 262), some (.ref x1), some (.int (iz x2)), some (.int (iz x3)), some (.int (iz (x4 + 1))), some (.int (iz x5)), some (.int (iz (zrem (m x1 x5.toNat) 64))), none]) rfl rfl (Nat.le_of_ble_eq_true rfl) rfl ?_
            refine s_goto (pc := 102) (tgt := 198) rfl rfl ?_
            exact hw
    · replace hw := hw.2 hc
      refine s_aload_n (pc := 21) rfl rfl ?_
      refine s_iload (pc := 22) rfl rfl ?_
      obtain ⟨hb38, hw⟩ := hw
      refine s_iald (pc := 24) rfl kx1 bx1 hb38 ?_
      refine s_goto (pc := 25) (tgt := 35) rfl rfl ?_
      refine s_istore (pc := 35) (L' := [some (.ref 262), some (.ref x1), some (.int (iz x2)), some (.int (iz x3)), some (.int (iz x4)), some (.int (iz x5)), some (.int (iz (m x1 x5.toNat))), none]) rfl (Nat.le_of_ble_eq_true rfl) rfl ?_
      refine s_iload (pc := 37) rfl rfl ?_
      obtain ⟨hz39, hw⟩ := hw
      refine s_if_ge (pc := 39) (tgt := 53) rfl rfl hz39 (fun hc => ?_) (fun hc => ?_)
      · replace hw := hw.1 hc
        refine s_aload_n (pc := 53) rfl rfl ?_
        refine s_aload_n (pc := 54) rfl rfl ?_
        refine s_getA (pc := 55) rfl ko_262 (po_262_36 hp) ?_
        refine s_iload (pc := 58) rfl rfl ?_
        obtain ⟨hb40, hw⟩ := hw
        refine s_lald (pc := 60) rfl ka_279 (by decide) hb40 ?_
        refine s_cv (pc := 61) (d := (d + 2)) (t := []) rfl rfl (am_ca_v (ps := [.long (J 279 (m x1 x5.toNat).toNat)]) rfl ko_262) (Nat.le_of_ble_eq_true rfl) (Cv.weak hw fun m41 J42 P43 hw => ?_)
        obtain ⟨hp45, hw⟩ := hw
        refine s_iload (pc := 64) rfl rfl ?_
        obtain ⟨hz46, hw⟩ := hw
        refine s_if_lt (pc := 66) (tgt := 105) rfl rfl hz46 (fun hc => ?_) (fun hc => ?_)
        · replace hw := hw.1 hc
          exact hw
        · replace hw := hw.2 hc
          refine s_aload_n (pc := 69) rfl rfl ?_
          refine s_getA (pc := 70) rfl ko_262 (po_262_37 hp45) ?_
          refine s_iload (pc := 73) rfl rfl ?_
          obtain ⟨hb47, hw⟩ := hw
          refine s_iald (pc := 75) rfl ka_280 (by decide) hb47 ?_
          obtain ⟨hz48, hw⟩ := hw
          refine s_if_le (pc := 76) (tgt := 105) rfl rfl hz48 (fun hc => ?_) (fun hc => ?_)
          · replace hw := hw.1 hc
            exact hw
          · replace hw := hw.2 hc
            refine s_aload_n (pc := 79) rfl rfl ?_
            refine s_bipush (pc := 80) rfl (by decide) ?_
            refine s_cv (pc := 82) (d := (d + 2)) (t := []) rfl rfl (am_ca_v (ps := [.int (iz 40)]) rfl ko_262) (Nat.le_of_ble_eq_true rfl) (Cv.weak hw fun m49 J50 P51 hw => ?_)
            obtain ⟨hp53, hw⟩ := hw
            refine s_aload_n (pc := 85) rfl rfl ?_
            refine s_getA (pc := 86) rfl ko_262 (po_262_64 hp53) ?_
            refine s_iload (pc := 89) rfl rfl ?_
            refine s_aload_n (pc := 91) rfl rfl ?_
            refine s_getA (pc := 92) rfl ko_262 (po_262_37 hp53) ?_
            refine s_iload (pc := 95) rfl rfl ?_
            obtain ⟨hb54, hw⟩ := hw
            refine s_iald (pc := 97) rfl ka_280 (by decide) hb54 ?_
            obtain ⟨hb55, hw⟩ := hw
            refine s_iast (pc := 98) rfl ka_299 (by decide) hb55 ?_
            refine s_iinc (pc := 99) (L' := [some (.ref 262), some (.ref x1), some (.int (iz x2)), some (.int (iz x3)), some (.int (iz (x4 + 1))), some (.int (iz x5)), some (.int (iz (m x1 x5.toNat))), none]) rfl rfl (Nat.le_of_ble_eq_true rfl) rfl ?_
            refine s_goto (pc := 102) (tgt := 198) rfl rfl ?_
            exact hw
      · replace hw := hw.2 hc
        refine s_aload_n (pc := 42) rfl rfl ?_
        refine s_iconst (pc := 43) rfl ?_
        refine s_iload (pc := 44) rfl rfl ?_
        refine s_isub (pc := 46) rfl ?_
        refine s_cv (pc := 47) (d := (d + 2)) (t := []) rfl rfl (am_ca_v (ps := [.int (iz (((-1)) - (m x1 x5.toNat)))]) rfl ko_262) (Nat.le_of_ble_eq_true rfl) (Cv.weak hw fun m56 J57 P58 hw => ?_)
        obtain ⟨hp60, hw⟩ := hw
        refine s_goto (pc := 50) (tgt := 64) rfl rfl ?_
        refine s_iload (pc := 64) rfl rfl ?_
        obtain ⟨hz61, hw⟩ := hw
        refine s_if_lt (pc := 66) (tgt := 105) rfl rfl hz61 (fun hc => ?_) (fun hc => ?_)
        · replace hw := hw.1 hc
          exact hw
        · replace hw := hw.2 hc
          refine s_aload_n (pc := 69) rfl rfl ?_
          refine s_getA (pc := 70) rfl ko_262 (po_262_37 hp60) ?_
          refine s_iload (pc := 73) rfl rfl ?_
          obtain ⟨hb62, hw⟩ := hw
          refine s_iald (pc := 75) rfl ka_280 (by decide) hb62 ?_
          obtain ⟨hz63, hw⟩ := hw
          refine s_if_le (pc := 76) (tgt := 105) rfl rfl hz63 (fun hc => ?_) (fun hc => ?_)
          · replace hw := hw.1 hc
            exact hw
          · replace hw := hw.2 hc
            refine s_aload_n (pc := 79) rfl rfl ?_
            refine s_bipush (pc := 80) rfl (by decide) ?_
            refine s_cv (pc := 82) (d := (d + 2)) (t := []) rfl rfl (am_ca_v (ps := [.int (iz 40)]) rfl ko_262) (Nat.le_of_ble_eq_true rfl) (Cv.weak hw fun m64 J65 P66 hw => ?_)
            obtain ⟨hp68, hw⟩ := hw
            refine s_aload_n (pc := 85) rfl rfl ?_
            refine s_getA (pc := 86) rfl ko_262 (po_262_64 hp68) ?_
            refine s_iload (pc := 89) rfl rfl ?_
            refine s_aload_n (pc := 91) rfl rfl ?_
            refine s_getA (pc := 92) rfl ko_262 (po_262_37 hp68) ?_
            refine s_iload (pc := 95) rfl rfl ?_
            obtain ⟨hb69, hw⟩ := hw
            refine s_iald (pc := 97) rfl ka_280 (by decide) hb69 ?_
            obtain ⟨hb70, hw⟩ := hw
            refine s_iast (pc := 98) rfl ka_299 (by decide) hb70 ?_
            refine s_iinc (pc := 99) (L' := [some (.ref 262), some (.ref x1), some (.int (iz x2)), some (.int (iz x3)), some (.int (iz (x4 + 1))), some (.int (iz x5)), some (.int (iz (m x1 x5.toNat))), none]) rfl rfl (Nat.le_of_ble_eq_true rfl) rfl ?_
            refine s_goto (pc := 102) (tgt := 198) rfl rfl ?_
            exact hw

set_option maxRecDepth 20000 in
set_option maxHeartbeats 4000000 in
theorem b_Mdl_showRow_105 {X : aX} {d : Nat} (x1 nx1 : Nat) (x2 : Int) (x3 : Int) (x4 : Int) (x5 : Int) (x6 : Int) (kx1 : am_kd an_K x1 = some (.inr (0, nx1))) (bx1 : nx1 ≤ 100000) (m : Mi) (J : Mj) (P : Mp) (hp : PP P) (post : Mi → Mj → Mp → Prop)
    (hw : Zr (x4) ∧ (((x4 ≤ 0) → Rn X (d + 3) 189 117 [some (.ref 262), some (.ref x1), some (.int (iz x2)), some (.int (iz x3)), some (.int (iz x4)), some (.int (iz x5)), some (.int (iz x6)), some (.int (iz 0))] [] (SS m J P) (QV post)) ∧ (¬ (x4 ≤ 0) → Rn X (d + 3) 189 117 [some (.ref 262), some (.ref x1), some (.int (iz x2)), some (.int (iz x3)), some (.int (iz x4)), some (.int (iz x5)), some (.int (iz x6)), some (.int (iz 1))] [] (SS m J P) (QV post)))) : Rn X (d + 3) 189 105 [some (.ref 262), some (.ref x1), some (.int (iz x2)), some (.int (iz x3)), some (.int (iz x4)), some (.int (iz x5)), some (.int (iz x6)), none] [] (SS m J P) (QV post) := by
  refine s_iload (pc := 105) rfl rfl ?_
  obtain ⟨hz1, hw⟩ := hw
  refine s_if_le (pc := 107) (tgt := 114) rfl rfl hz1 (fun hc => ?_) (fun hc => ?_)
  · replace hw := hw.1 hc
    refine s_iconst (pc := 114) rfl ?_
    refine s_istore (pc := 115) (L' := [some (.ref 262), some (.ref x1), some (.int (iz x2)), some (.int (iz x3)), some (.int (iz x4)), some (.int (iz x5)), some (.int (iz x6)), some (.int (iz 0))]) rfl (Nat.le_of_ble_eq_true rfl) rfl ?_
    exact hw
  · replace hw := hw.2 hc
    refine s_iconst (pc := 110) rfl ?_
    refine s_goto (pc := 111) (tgt := 115) rfl rfl ?_
    refine s_istore (pc := 115) (L' := [some (.ref 262), some (.ref x1), some (.int (iz x2)), some (.int (iz x3)), some (.int (iz x4)), some (.int (iz x5)), some (.int (iz x6)), some (.int (iz 1))]) rfl (Nat.le_of_ble_eq_true rfl) rfl ?_
    exact hw

set_option maxRecDepth 20000 in
set_option maxHeartbeats 4000000 in
theorem b_Mdl_showRow_117 {X : aX} {d : Nat} (x1 nx1 : Nat) (x2 : Int) (x3 : Int) (x4 : Int) (x5 : Int) (x6 : Int) (x7 : Int) (kx1 : am_kd an_K x1 = some (.inr (0, nx1))) (bx1 : nx1 ≤ 100000) (m : Mi) (J : Mj) (P : Mp) (hp : PP P) (post : Mi → Mj → Mp → Prop)
    (hw : Zr (x7) ∧ (((x7 = 0) → Rn X (d + 3) 189 198 [some (.ref 262), some (.ref x1), some (.int (iz x2)), some (.int (iz x3)), some (.int (iz x4)), some (.int (iz x5)), some (.int (iz x6)), none] [] (SS m J P) (QV post)) ∧ (¬ (x7 = 0) → ((0 : Int) ≤ (x4 - 1) ∧ ((x4 - 1) : Int) < 201) ∧ ((0 : Int) ≤ (x4 - 1) ∧ ((x4 - 1) : Int) < 201) ∧ ((0 : Int) ≤ (x4 - 1) ∧ ((x4 - 1) : Int) < 201) ∧ Zr ((mu m 299 (x4 - 1).toNat ((m 299 (x4 - 1).toNat) - 1)) 299 (x4 - 1).toNat) ∧ (((¬ ((mu m 299 (x4 - 1).toNat ((m 299 (x4 - 1).toNat) - 1)) 299 (x4 - 1).toNat) = 0) → Cv X (d + 2) 193 [.ref 262, .int (iz 44)] (mu m 299 (x4 - 1).toNat ((m 299 (x4 - 1).toNat) - 1)) J P (fun m6 J7 P8 => PP P8 ∧ Rn X (d + 3) 189 178 [some (.ref 262), some (.ref x1), some (.int (iz x2)), some (.int (iz x3)), some (.int (iz x4)), some (.int (iz x5)), some (.int (iz x6)), some (.int (iz 0))] [] (SS m6 J7 P8) (QV post))) ∧ (¬ (¬ ((mu m 299 (x4 - 1).toNat ((m 299 (x4 - 1).toNat) - 1)) 299 (x4 - 1).toNat) = 0) → Cv X (d + 2) 193 [.ref 262, .int (iz 41)] (mu m 299 (x4 - 1).toNat ((m 299 (x4 - 1).toNat) - 1)) J P (fun m11 J12 P13 => PP P13 ∧ Rn X (d + 3) 189 178 [some (.ref 262), some (.ref x1), some (.int (iz x2)), some (.int (iz x3)), some (.int (iz (x4 + (-1)))), some (.int (iz x5)), some (.int (iz x6)), some (.int (iz 1))] [] (SS m11 J12 P13) (QV post))))))) : Rn X (d + 3) 189 117 [some (.ref 262), some (.ref x1), some (.int (iz x2)), some (.int (iz x3)), some (.int (iz x4)), some (.int (iz x5)), some (.int (iz x6)), some (.int (iz x7))] [] (SS m J P) (QV post) := by
  refine s_iload (pc := 117) rfl rfl ?_
  obtain ⟨hz1, hw⟩ := hw
  refine s_if_eq (pc := 119) (tgt := 198) rfl rfl hz1 (fun hc => ?_) (fun hc => ?_)
  · replace hw := hw.1 hc
    exact Rn.weakL hw (LLe.keep _ (LLe.keep _ (LLe.keep _ (LLe.keep _ (LLe.keep _ (LLe.keep _ (LLe.keep _ (LLe.drop _ (LLe.nil)))))))))
  · replace hw := hw.2 hc
    refine s_aload_n (pc := 122) rfl rfl ?_
    refine s_getA (pc := 123) rfl ko_262 (po_262_64 hp) ?_
    refine s_iload (pc := 126) rfl rfl ?_
    refine s_iconst (pc := 128) rfl ?_
    refine s_isub (pc := 129) rfl ?_
    refine s_dup2 (pc := 130) rfl ⟨rfl, rfl⟩ ?_
    obtain ⟨hb2, hw⟩ := hw
    refine s_iald (pc := 131) rfl ka_299 (by decide) hb2 ?_
    refine s_iconst (pc := 132) rfl ?_
    refine s_isub (pc := 133) rfl ?_
    obtain ⟨hb3, hw⟩ := hw
    refine s_iast (pc := 134) rfl ka_299 (by decide) hb3 ?_
    refine s_aload_n (pc := 135) rfl rfl ?_
    refine s_getA (pc := 136) rfl ko_262 (po_262_64 hp) ?_
    refine s_iload (pc := 139) rfl rfl ?_
    refine s_iconst (pc := 141) rfl ?_
    refine s_isub (pc := 142) rfl ?_
    obtain ⟨hb4, hw⟩ := hw
    refine s_iald (pc := 143) rfl ka_299 (by decide) hb4 ?_
    obtain ⟨hz5, hw⟩ := hw
    refine s_if_ne (pc := 144) (tgt := 151) rfl rfl hz5 (fun hc => ?_) (fun hc => ?_)
    · replace hw := hw.1 hc
      refine s_iconst (pc := 151) rfl ?_
      refine s_istore (pc := 152) (L' := [some (.ref 262), some (.ref x1), some (.int (iz x2)), some (.int (iz x3)), some (.int (iz x4)), some (.int (iz x5)), some (.int (iz x6)), some (.int (iz 0))]) rfl (Nat.le_of_ble_eq_true rfl) rfl ?_
      refine s_aload_n (pc := 154) rfl rfl ?_
      refine s_iload (pc := 155) rfl rfl ?_
      refine s_if_eq (pc := 157) (tgt := 165) rfl rfl (by decide) (fun hc => ?_) (fun hc => ?_)
      rotate_left
      · exact absurd hc (by decide)
      refine s_bipush (pc := 165) rfl (by decide) ?_
      refine s_cv (pc := 167) (d := (d + 2)) (t := []) rfl rfl (am_ca_v (ps := [.int (iz 44)]) rfl ko_262) (Nat.le_of_ble_eq_true rfl) (Cv.weak hw fun m6 J7 P8 hw => ?_)
      obtain ⟨hp10, hw⟩ := hw
      refine s_iload (pc := 170) rfl rfl ?_
      refine s_if_eq (pc := 172) (tgt := 178) rfl rfl (by decide) (fun hc => ?_) (fun hc => ?_)
      rotate_left
      · exact absurd hc (by decide)
      exact hw
    · replace hw := hw.2 hc
      refine s_iconst (pc := 147) rfl ?_
      refine s_goto (pc := 148) (tgt := 152) rfl rfl ?_
      refine s_istore (pc := 152) (L' := [some (.ref 262), some (.ref x1), some (.int (iz x2)), some (.int (iz x3)), some (.int (iz x4)), some (.int (iz x5)), some (.int (iz x6)), some (.int (iz 1))]) rfl (Nat.le_of_ble_eq_true rfl) rfl ?_
      refine s_aload_n (pc := 154) rfl rfl ?_
      refine s_iload (pc := 155) rfl rfl ?_
      refine s_if_eq (pc := 157) (tgt := 165) rfl rfl (by decide) (fun hc => ?_) (fun hc => ?_)
      · exact absurd hc (by decide)
      refine s_bipush (pc := 160) rfl (by decide) ?_
      refine s_goto (pc := 162) (tgt := 167) rfl rfl ?_
      refine s_cv (pc := 167) (d := (d + 2)) (t := []) rfl rfl (am_ca_v (ps := [.int (iz 41)]) rfl ko_262) (Nat.le_of_ble_eq_true rfl) (Cv.weak hw fun m11 J12 P13 hw => ?_)
      obtain ⟨hp15, hw⟩ := hw
      refine s_iload (pc := 170) rfl rfl ?_
      refine s_if_eq (pc := 172) (tgt := 178) rfl rfl (by decide) (fun hc => ?_) (fun hc => ?_)
      · exact absurd hc (by decide)
      refine s_iinc (pc := 175) (L' := [some (.ref 262), some (.ref x1), some (.int (iz x2)), some (.int (iz x3)), some (.int (iz (x4 + (-1)))), some (.int (iz x5)), some (.int (iz x6)), some (.int (iz 1))]) rfl rfl (Nat.le_of_ble_eq_true rfl) rfl ?_
      exact hw

set_option maxRecDepth 20000 in
set_option maxHeartbeats 4000000 in
theorem b_Mdl_showRow_178 {X : aX} {d : Nat} (x1 nx1 : Nat) (x2 : Int) (x3 : Int) (x4 : Int) (x5 : Int) (x6 : Int) (x7 : Int) (kx1 : am_kd an_K x1 = some (.inr (0, nx1))) (bx1 : nx1 ≤ 100000) (m : Mi) (J : Mj) (P : Mp) (hp : PP P) (post : Mi → Mj → Mp → Prop)
    (hw : Zr (x7) ∧ (((x7 = 0) → Rn X (d + 3) 189 117 [some (.ref 262), some (.ref x1), some (.int (iz x2)), some (.int (iz x3)), some (.int (iz x4)), some (.int (iz x5)), some (.int (iz x6)), some (.int (iz 0))] [] (SS m J P) (QV post)) ∧ (¬ (x7 = 0) → Zr (x4) ∧ (((x4 ≤ 0) → Rn X (d + 3) 189 117 [some (.ref 262), some (.ref x1), some (.int (iz x2)), some (.int (iz x3)), some (.int (iz x4)), some (.int (iz x5)), some (.int (iz x6)), some (.int (iz 0))] [] (SS m J P) (QV post)) ∧ (¬ (x4 ≤ 0) → Rn X (d + 3) 189 117 [some (.ref 262), some (.ref x1), some (.int (iz x2)), some (.int (iz x3)), some (.int (iz x4)), some (.int (iz x5)), some (.int (iz x6)), some (.int (iz 1))] [] (SS m J P) (QV post)))))) : Rn X (d + 3) 189 178 [some (.ref 262), some (.ref x1), some (.int (iz x2)), some (.int (iz x3)), some (.int (iz x4)), some (.int (iz x5)), some (.int (iz x6)), some (.int (iz x7))] [] (SS m J P) (QV post) := by
  refine s_iload (pc := 178) rfl rfl ?_
  obtain ⟨hz1, hw⟩ := hw
  refine s_if_eq (pc := 180) (tgt := 192) rfl rfl hz1 (fun hc => ?_) (fun hc => ?_)
  · replace hw := hw.1 hc
    refine s_iconst (pc := 192) rfl ?_
    refine s_istore (pc := 193) (L' := [some (.ref 262), some (.ref x1), some (.int (iz x2)), some (.int (iz x3)), some (.int (iz x4)), some (.int (iz x5)), some (.int (iz x6)), some (.int (iz 0))]) rfl (Nat.le_of_ble_eq_true rfl) rfl ?_
    refine s_goto (pc := 195) (tgt := 117) rfl rfl ?_
    exact hw
  · replace hw := hw.2 hc
    refine s_iload (pc := 183) rfl rfl ?_
    obtain ⟨hz2, hw⟩ := hw
    refine s_if_le (pc := 185) (tgt := 192) rfl rfl hz2 (fun hc => ?_) (fun hc => ?_)
    · replace hw := hw.1 hc
      refine s_iconst (pc := 192) rfl ?_
      refine s_istore (pc := 193) (L' := [some (.ref 262), some (.ref x1), some (.int (iz x2)), some (.int (iz x3)), some (.int (iz x4)), some (.int (iz x5)), some (.int (iz x6)), some (.int (iz 0))]) rfl (Nat.le_of_ble_eq_true rfl) rfl ?_
      refine s_goto (pc := 195) (tgt := 117) rfl rfl ?_
      exact hw
    · replace hw := hw.2 hc
      refine s_iconst (pc := 188) rfl ?_
      refine s_goto (pc := 189) (tgt := 193) rfl rfl ?_
      refine s_istore (pc := 193) (L' := [some (.ref 262), some (.ref x1), some (.int (iz x2)), some (.int (iz x3)), some (.int (iz x4)), some (.int (iz x5)), some (.int (iz x6)), some (.int (iz 1))]) rfl (Nat.le_of_ble_eq_true rfl) rfl ?_
      refine s_goto (pc := 195) (tgt := 117) rfl rfl ?_
      exact hw

set_option maxRecDepth 20000 in
set_option maxHeartbeats 4000000 in
theorem b_Mdl_showRow_198 {X : aX} {d : Nat} (x1 nx1 : Nat) (x2 : Int) (x3 : Int) (x4 : Int) (x5 : Int) (x6 : Int) (kx1 : am_kd an_K x1 = some (.inr (0, nx1))) (bx1 : nx1 ≤ 100000) (m : Mi) (J : Mj) (P : Mp) (hp : PP P) (post : Mi → Mj → Mp → Prop)
    (hw : Rn X (d + 3) 189 6 [some (.ref 262), some (.ref x1), some (.int (iz x2)), some (.int (iz x3)), some (.int (iz x4)), some (.int (iz (x5 + 1))), none, none] [] (SS m J P) (QV post)) : Rn X (d + 3) 189 198 [some (.ref 262), some (.ref x1), some (.int (iz x2)), some (.int (iz x3)), some (.int (iz x4)), some (.int (iz x5)), some (.int (iz x6)), none] [] (SS m J P) (QV post) := by
  refine s_iinc (pc := 198) (L' := [some (.ref 262), some (.ref x1), some (.int (iz x2)), some (.int (iz x3)), some (.int (iz x4)), some (.int (iz (x5 + 1))), some (.int (iz x6)), none]) rfl rfl (Nat.le_of_ble_eq_true rfl) rfl ?_
  refine s_goto (pc := 201) (tgt := 6) rfl rfl ?_
  exact Rn.weakL hw (LLe.keep _ (LLe.keep _ (LLe.keep _ (LLe.keep _ (LLe.keep _ (LLe.keep _ (LLe.drop _ (LLe.keep _ (LLe.nil)))))))))

set_option maxRecDepth 20000 in
set_option maxHeartbeats 4000000 in
theorem b_Mdl_putVariable_0 {X : aX} {d : Nat} (x1 : Int)  (m : Mi) (J : Mj) (P : Mp) (hp : PP P) (post : Mi → Mj → Mp → Prop)
    (hw : ((0 : Int) ≤ x1 ∧ (x1 : Int) < 800) ∧ Zr (zcmp (J 348 x1.toNat) (Int64.ofNat 0)) ∧ ((((zcmp (J 348 x1.toNat) (Int64.ofNat 0)) ≤ 0) → ((0 : Int) ≤ x1 ∧ (x1 : Int) < 800) ∧ Zr (m 349 x1.toNat) ∧ (((¬ (m 349 x1.toNat) = 0) → Cv X (d + 1) 193 [.ref 262, .int (iz 95)] m J P (fun m5 J6 P7 => PP P7 ∧ Rn X (d + 2) 190 59 [some (.ref 262), some (.int (iz x1)), some (.int (iz 1))] [] (SS m5 J6 P7) (QV post))) ∧ (¬ (¬ (m 349 x1.toNat) = 0) → ((0 : Int) ≤ x1 ∧ (x1 : Int) < 800) ∧ Cv X (d + 1) 193 [.ref 262, .int (iz 95)] (mu (mu m 262 139 ((m 262 139) + 1)) 349 x1.toNat ((mu m 262 139 ((m 262 139) + 1)) 262 139)) J P (fun m11 J12 P13 => PP P13 ∧ Rn X (d + 2) 190 59 [some (.ref 262), some (.int (iz x1)), some (.int (iz 1))] [] (SS m11 J12 P13) (QV post))))) ∧ (¬ ((zcmp (J 348 x1.toNat) (Int64.ofNat 0)) ≤ 0) → ((0 : Int) ≤ x1 ∧ (x1 : Int) < 800) ∧ Cv X (d + 1) 191 [.ref 262, .long (J 348 x1.toNat)] m J P (fun m17 J18 P19 => PP P19 ∧ post m17 J18 P19)))) : Rn X (d + 2) 190 0 [some (.ref 262), some (.int (iz x1)), none] [] (SS m J P) (QV post) := by
  refine s_aload_n (pc := 0) rfl rfl ?_
  refine s_getA (pc := 1) rfl ko_262 (po_262_137 hp) ?_
  refine s_iload_n (pc := 4) rfl rfl ?_
  obtain ⟨hb1, hw⟩ := hw
  refine s_lald (pc := 5) rfl ka_348 (by decide) hb1 ?_
  refine s_lconst (pc := 6) rfl ?_
  refine s_lcmp (pc := 7) rfl ?_
  obtain ⟨hz2, hw⟩ := hw
  refine s_if_le (pc := 8) (tgt := 22) rfl rfl hz2 (fun hc => ?_) (fun hc => ?_)
  · replace hw := hw.1 hc
    refine s_aload_n (pc := 22) rfl rfl ?_
    refine s_getA (pc := 23) rfl ko_262 (po_262_138 hp) ?_
    refine s_iload_n (pc := 26) rfl rfl ?_
    obtain ⟨hb3, hw⟩ := hw
    refine s_iald (pc := 27) rfl ka_349 (by decide) hb3 ?_
    obtain ⟨hz4, hw⟩ := hw
    refine s_if_ne (pc := 28) (tgt := 51) rfl rfl hz4 (fun hc => ?_) (fun hc => ?_)
    · replace hw := hw.1 hc
      refine s_aload_n (pc := 51) rfl rfl ?_
      refine s_bipush (pc := 52) rfl (by decide) ?_
      refine s_cv (pc := 54) (d := (d + 1)) (t := []) rfl rfl (am_ca_v (ps := [.int (iz 95)]) rfl ko_262) (Nat.le_of_ble_eq_true rfl) (Cv.weak hw fun m5 J6 P7 hw => ?_)
      obtain ⟨hp9, hw⟩ := hw
      refine s_iconst (pc := 57) rfl ?_
      refine s_istore_n (pc := 58) (L' := [some (.ref 262), some (.int (iz x1)), some (.int (iz 1))]) rfl (Nat.le_of_ble_eq_true rfl) rfl ?_
      exact hw
    · replace hw := hw.2 hc
      refine s_aload_n (pc := 31) rfl rfl ?_
      refine s_dup (pc := 32) rfl rfl ?_
      refine s_getI (pc := 33) rfl ko_262 ?_
      refine s_iconst (pc := 36) rfl ?_
      refine s_iadd (pc := 37) rfl ?_
      refine s_putI (pc := 38) rfl ko_262 ?_
      refine s_aload_n (pc := 41) rfl rfl ?_
      refine s_getA (pc := 42) rfl ko_262 (po_262_138 hp) ?_
      refine s_iload_n (pc := 45) rfl rfl ?_
      refine s_aload_n (pc := 46) rfl rfl ?_
      refine s_getI (pc := 47) rfl ko_262 ?_
      obtain ⟨hb10, hw⟩ := hw
      refine s_iast (pc := 50) rfl ka_349 (by decide) hb10 ?_
      refine s_aload_n (pc := 51) rfl rfl ?_
      refine s_bipush (pc := 52) rfl (by decide) ?_
      refine s_cv (pc := 54) (d := (d + 1)) (t := []) rfl rfl (am_ca_v (ps := [.int (iz 95)]) rfl ko_262) (Nat.le_of_ble_eq_true rfl) (Cv.weak hw fun m11 J12 P13 hw => ?_)
      obtain ⟨hp15, hw⟩ := hw
      refine s_iconst (pc := 57) rfl ?_
      refine s_istore_n (pc := 58) (L' := [some (.ref 262), some (.int (iz x1)), some (.int (iz 1))]) rfl (Nat.le_of_ble_eq_true rfl) rfl ?_
      exact hw
  · replace hw := hw.2 hc
    refine s_aload_n (pc := 11) rfl rfl ?_
    refine s_aload_n (pc := 12) rfl rfl ?_
    refine s_getA (pc := 13) rfl ko_262 (po_262_137 hp) ?_
    refine s_iload_n (pc := 16) rfl rfl ?_
    obtain ⟨hb16, hw⟩ := hw
    refine s_lald (pc := 17) rfl ka_348 (by decide) hb16 ?_
    refine s_cv (pc := 18) (d := (d + 1)) (t := []) rfl rfl (am_ca_v (ps := [.long (J 348 x1.toNat)]) rfl ko_262) (Nat.le_of_ble_eq_true rfl) (Cv.weak hw fun m17 J18 P19 hw => ?_)
    obtain ⟨hp21, hw⟩ := hw
    exact s_retv (pc := 21) rfl rfl hw

set_option maxRecDepth 20000 in
set_option maxHeartbeats 4000000 in
theorem b_Mdl_putVariable_59 {X : aX} {d : Nat} (x1 : Int) (x2 : Int)  (m : Mi) (J : Mj) (P : Mp) (hp : PP P) (post : Mi → Mj → Mp → Prop)
    (hw : ((0 : Int) ≤ x1 ∧ (x1 : Int) < 800) ∧ (¬ iz (x2) = 0) ∧ Zr (zdiv (m 349 x1.toNat) x2) ∧ ((((zdiv (m 349 x1.toNat) x2) ≤ 9) → Rn X (d + 2) 190 80 [some (.ref 262), some (.int (iz x1)), some (.int (iz x2))] [] (SS m J P) (QV post)) ∧ (¬ ((zdiv (m 349 x1.toNat) x2) ≤ 9) → Rn X (d + 2) 190 59 [some (.ref 262), some (.int (iz x1)), some (.int (iz (x2 * 10)))] [] (SS m J P) (QV post)))) : Rn X (d + 2) 190 59 [some (.ref 262), some (.int (iz x1)), some (.int (iz x2))] [] (SS m J P) (QV post) := by
  refine s_aload_n (pc := 59) rfl rfl ?_
  refine s_getA (pc := 60) rfl ko_262 (po_262_138 hp) ?_
  refine s_iload_n (pc := 63) rfl rfl ?_
  obtain ⟨hb1, hw⟩ := hw
  refine s_iald (pc := 64) rfl ka_349 (by decide) hb1 ?_
  refine s_iload_n (pc := 65) rfl rfl ?_
  obtain ⟨hd2, hw⟩ := hw
  refine s_idiv (pc := 66) rfl hd2 ?_
  refine s_bipush (pc := 67) rfl (by decide) ?_
  obtain ⟨hz3, hw⟩ := hw
  refine s_ic_le (pc := 69) (tgt := 80) rfl rfl hz3 (by decide) (fun hc => ?_) (fun hc => ?_)
  · replace hw := hw.1 hc
    exact hw
  · replace hw := hw.2 hc
    refine s_iload_n (pc := 72) rfl rfl ?_
    refine s_bipush (pc := 73) rfl (by decide) ?_
    refine s_imul (pc := 75) rfl ?_
    refine s_istore_n (pc := 76) (L' := [some (.ref 262), some (.int (iz x1)), some (.int (iz (x2 * 10)))]) rfl (Nat.le_of_ble_eq_true rfl) rfl ?_
    refine s_goto (pc := 77) (tgt := 59) rfl rfl ?_
    exact hw

set_option maxRecDepth 20000 in
set_option maxHeartbeats 4000000 in
theorem b_Mdl_putVariable_80 {X : aX} {d : Nat} (x1 : Int) (x2 : Int)  (m : Mi) (J : Mj) (P : Mp) (hp : PP P) (post : Mi → Mj → Mp → Prop)
    (hw : Zr (x2) ∧ (((x2 ≤ 0) → post m J P) ∧ (¬ (x2 ≤ 0) → ((0 : Int) ≤ x1 ∧ (x1 : Int) < 800) ∧ (¬ iz (x2) = 0) ∧ Cv X (d + 1) 193 [.ref 262, .int (iz (48 + (zrem (zdiv (m 349 x1.toNat) x2) 10)))] m J P (fun m4 J5 P6 => PP P6 ∧ Rn X (d + 2) 190 80 [some (.ref 262), some (.int (iz x1)), some (.int (iz (zdiv x2 10)))] [] (SS m4 J5 P6) (QV post))))) : Rn X (d + 2) 190 80 [some (.ref 262), some (.int (iz x1)), some (.int (iz x2))] [] (SS m J P) (QV post) := by
  refine s_iload_n (pc := 80) rfl rfl ?_
  obtain ⟨hz1, hw⟩ := hw
  refine s_if_le (pc := 81) (tgt := 110) rfl rfl hz1 (fun hc => ?_) (fun hc => ?_)
  · replace hw := hw.1 hc
    exact s_retv (pc := 110) rfl rfl hw
  · replace hw := hw.2 hc
    refine s_aload_n (pc := 84) rfl rfl ?_
    refine s_bipush (pc := 85) rfl (by decide) ?_
    refine s_aload_n (pc := 87) rfl rfl ?_
    refine s_getA (pc := 88) rfl ko_262 (po_262_138 hp) ?_
    refine s_iload_n (pc := 91) rfl rfl ?_
    obtain ⟨hb2, hw⟩ := hw
    refine s_iald (pc := 92) rfl ka_349 (by decide) hb2 ?_
    refine s_iload_n (pc := 93) rfl rfl ?_
    obtain ⟨hd3, hw⟩ := hw
    refine s_idiv (pc := 94) rfl hd3 ?_
    refine s_bipush (pc := 95) rfl (by decide) ?_
    refine s_irem (pc := 97) rfl (by decide) ?_
    refine s_iadd (pc := 98) rfl ?_
    refine s_cv (pc := 99) (d := (d + 1)) (t := []) rfl rfl (am_ca_v (ps := [.int (iz (48 + (zrem (zdiv (m 349 x1.toNat) x2) 10)))]) rfl ko_262) (Nat.le_of_ble_eq_true rfl) (Cv.weak hw fun m4 J5 P6 hw => ?_)
    obtain ⟨hp8, hw⟩ := hw
    refine s_iload_n (pc := 102) rfl rfl ?_
    refine s_bipush (pc := 103) rfl (by decide) ?_
    refine s_idiv (pc := 105) rfl (by decide) ?_
    refine s_istore_n (pc := 106) (L' := [some (.ref 262), some (.int (iz x1)), some (.int (iz (zdiv x2 10)))]) rfl (Nat.le_of_ble_eq_true rfl) rfl ?_
    refine s_goto (pc := 107) (tgt := 80) rfl rfl ?_
    exact hw

set_option maxRecDepth 20000 in
set_option maxHeartbeats 4000000 in
theorem b_Mdl_putName_0 {X : aX} {d : Nat} (x1 : Int64)  (m : Mi) (J : Mj) (P : Mp) (hp : PP P) (post : Mi → Mj → Mp → Prop)
    (hw : Rn X (d + 1) 191 2 [some (.ref 262), some (.long x1), none, some (.long (Int64.ofNat 1)), none] [] (SS m J P) (QV post)) : Rn X (d + 1) 191 0 [some (.ref 262), some (.long x1), none, none, none] [] (SS m J P) (QV post) := by
  refine s_lconst (pc := 0) rfl ?_
  refine s_lstore_n (pc := 1) (L' := [some (.ref 262), some (.long x1), none, some (.long (Int64.ofNat 1)), none]) rfl (Nat.le_of_ble_eq_true rfl) rfl ?_
  exact hw

set_option maxRecDepth 20000 in
set_option maxHeartbeats 4000000 in
theorem b_Mdl_putName_2 {X : aX} {d : Nat} (x1 : Int64) (x3 : Int64)  (m : Mi) (J : Mj) (P : Mp) (hp : PP P) (post : Mi → Mj → Mp → Prop)
    (hw : (¬ x3 = 0) ∧ Zr (zcmp (x1 / x3) (Int64.ofNat 64)) ∧ ((((zcmp (x1 / x3) (Int64.ofNat 64)) < 0) → Rn X (d + 1) 191 21 [some (.ref 262), some (.long x1), none, some (.long x3), none] [] (SS m J P) (QV post)) ∧ (¬ ((zcmp (x1 / x3) (Int64.ofNat 64)) < 0) → Rn X (d + 1) 191 2 [some (.ref 262), some (.long x1), none, some (.long (x3 * (Int64.ofNat 64))), none] [] (SS m J P) (QV post)))) : Rn X (d + 1) 191 2 [some (.ref 262), some (.long x1), none, some (.long x3), none] [] (SS m J P) (QV post) := by
  refine s_lload_n (pc := 2) rfl rfl ?_
  refine s_lload_n (pc := 3) rfl rfl ?_
  obtain ⟨hd1, hw⟩ := hw
  refine s_ldiv (pc := 4) rfl hd1 ?_
  refine s_ldc2 (pc := 5) rfl ?_
  refine s_lcmp (pc := 8) rfl ?_
  obtain ⟨hz2, hw⟩ := hw
  refine s_if_lt (pc := 9) (tgt := 21) rfl rfl hz2 (fun hc => ?_) (fun hc => ?_)
  · replace hw := hw.1 hc
    exact hw
  · replace hw := hw.2 hc
    refine s_lload_n (pc := 12) rfl rfl ?_
    refine s_ldc2 (pc := 13) rfl ?_
    refine s_lmul (pc := 16) rfl ?_
    refine s_lstore_n (pc := 17) (L' := [some (.ref 262), some (.long x1), none, some (.long (x3 * (Int64.ofNat 64))), none]) rfl (Nat.le_of_ble_eq_true rfl) rfl ?_
    refine s_goto (pc := 18) (tgt := 2) rfl rfl ?_
    exact hw

set_option maxRecDepth 20000 in
set_option maxHeartbeats 4000000 in
theorem b_Mdl_putName_21 {X : aX} {d : Nat} (x1 : Int64) (x3 : Int64)  (m : Mi) (J : Mj) (P : Mp) (hp : PP P) (post : Mi → Mj → Mp → Prop)
    (hw : Zr (zcmp x3 (Int64.ofNat 0)) ∧ ((((zcmp x3 (Int64.ofNat 0)) ≤ 0) → post m J P) ∧ (¬ ((zcmp x3 (Int64.ofNat 0)) ≤ 0) → (¬ x3 = 0) ∧ (¬ (Int64.ofNat 64) = 0) ∧ Ci X d 192 [.int (iz (zl2i ((x1 / x3) - (x1 / x3) / (Int64.ofNat 64) * (Int64.ofNat 64))))] m J P (fun z7 m4 J5 P6 => PP P6 ∧ Cv X d 193 [.ref 262, .int (iz z7)] m4 J5 P6 (fun m9 J10 P11 => PP P11 ∧ (¬ (Int64.ofNat 64) = 0) ∧ Rn X (d + 1) 191 21 [some (.ref 262), some (.long x1), none, some (.long (x3 / (Int64.ofNat 64))), none] [] (SS m9 J10 P11) (QV post)))))) : Rn X (d + 1) 191 21 [some (.ref 262), some (.long x1), none, some (.long x3), none] [] (SS m J P) (QV post) := by
  refine s_lload_n (pc := 21) rfl rfl ?_
  refine s_lconst (pc := 22) rfl ?_
  refine s_lcmp (pc := 23) rfl ?_
  obtain ⟨hz1, hw⟩ := hw
  refine s_if_le (pc := 24) (tgt := 51) rfl rfl hz1 (fun hc => ?_) (fun hc => ?_)
  · replace hw := hw.1 hc
    exact s_retv (pc := 51) rfl rfl hw
  · replace hw := hw.2 hc
    refine s_aload_n (pc := 27) rfl rfl ?_
    refine s_lload_n (pc := 28) rfl rfl ?_
    refine s_lload_n (pc := 29) rfl rfl ?_
    obtain ⟨hd2, hw⟩ := hw
    refine s_ldiv (pc := 30) rfl hd2 ?_
    refine s_ldc2 (pc := 31) rfl ?_
    obtain ⟨hd3, hw⟩ := hw
    refine s_lrem (pc := 34) rfl hd3 ?_
    refine s_l2i (pc := 35) rfl ?_
    refine s_ci (pc := 36) (d := d) (t := [.ref 262]) rfl rfl (am_ca_s (ps := [.int (iz (zl2i ((x1 / x3) - (x1 / x3) / (Int64.ofNat 64) * (Int64.ofNat 64))))]) rfl) (Nat.le_of_ble_eq_true rfl) (Ci.weak hw fun z7 m4 J5 P6 hw => ?_)
    obtain ⟨hp8, hw⟩ := hw
    refine s_cv (pc := 39) (d := d) (t := []) rfl rfl (am_ca_v (ps := [.int (iz z7)]) rfl ko_262) (Nat.le_of_ble_eq_true rfl) (Cv.weak hw fun m9 J10 P11 hw => ?_)
    obtain ⟨hp13, hw⟩ := hw
    refine s_lload_n (pc := 42) rfl rfl ?_
    refine s_ldc2 (pc := 43) rfl ?_
    obtain ⟨hd14, hw⟩ := hw
    refine s_ldiv (pc := 46) rfl hd14 ?_
    refine s_lstore_n (pc := 47) (L' := [some (.ref 262), some (.long x1), none, some (.long (x3 / (Int64.ofNat 64))), none]) rfl (Nat.le_of_ble_eq_true rfl) rfl ?_
    refine s_goto (pc := 48) (tgt := 21) rfl rfl ?_
    exact hw

set_option maxRecDepth 20000 in
set_option maxHeartbeats 4000000 in
theorem b_Mdl_letter_0 {X : aX} {d : Nat} (x0 : Int)  (m : Mi) (J : Mj) (P : Mp) (hp : PP P) (post : Int → Mi → Mj → Mp → Prop)
    (hw : Zr (x0) ∧ (((27 ≤ x0) → Zr (x0) ∧ (((53 ≤ x0) → post ((48 + x0) - 53) m J P) ∧ (¬ (53 ≤ x0) → post ((65 + x0) - 27) m J P))) ∧ (¬ (27 ≤ x0) → post ((97 + x0) - 1) m J P))) : Rn X d 192 0 [some (.int (iz x0))] [] (SS m J P) (QI post) := by
  refine s_iload_n (pc := 0) rfl rfl ?_
  refine s_bipush (pc := 1) rfl (by decide) ?_
  obtain ⟨hz1, hw⟩ := hw
  refine s_ic_ge (pc := 3) (tgt := 15) rfl rfl hz1 (by decide) (fun hc => ?_) (fun hc => ?_)
  · replace hw := hw.1 hc
    refine s_iload_n (pc := 15) rfl rfl ?_
    refine s_bipush (pc := 16) rfl (by decide) ?_
    obtain ⟨hz2, hw⟩ := hw
    refine s_ic_ge (pc := 18) (tgt := 31) rfl rfl hz2 (by decide) (fun hc => ?_) (fun hc => ?_)
    · replace hw := hw.1 hc
      refine s_bipush (pc := 31) rfl (by decide) ?_
      refine s_iload_n (pc := 33) rfl rfl ?_
      refine s_iadd (pc := 34) rfl ?_
      refine s_bipush (pc := 35) rfl (by decide) ?_
      refine s_isub (pc := 37) rfl ?_
      exact s_reti (pc := 38) rfl rfl hw
    · replace hw := hw.2 hc
      refine s_bipush (pc := 21) rfl (by decide) ?_
      refine s_iload_n (pc := 23) rfl rfl ?_
      refine s_iadd (pc := 24) rfl ?_
      refine s_bipush (pc := 25) rfl (by decide) ?_
      refine s_isub (pc := 27) rfl ?_
      refine s_goto (pc := 28) (tgt := 38) rfl rfl ?_
      exact s_reti (pc := 38) rfl rfl hw
  · replace hw := hw.2 hc
    refine s_bipush (pc := 6) rfl (by decide) ?_
    refine s_iload_n (pc := 8) rfl rfl ?_
    refine s_iadd (pc := 9) rfl ?_
    refine s_iconst (pc := 10) rfl ?_
    refine s_isub (pc := 11) rfl ?_
    refine s_goto (pc := 12) (tgt := 38) rfl rfl ?_
    exact s_reti (pc := 38) rfl rfl hw

set_option maxRecDepth 20000 in
set_option maxHeartbeats 4000000 in
theorem b_Mdl_put_0 {X : aX} {d : Nat} (x1 : Int)  (m : Mi) (J : Mj) (P : Mp) (hp : PP P) (post : Mi → Mj → Mp → Prop)
    (hw : Zr (m 262 136) ∧ (((1000 ≤ (m 262 136)) → post (mu m 262 136 ((m 262 136) + 1)) J P) ∧ (¬ (1000 ≤ (m 262 136)) → ((0 : Int) ≤ (m 262 136) ∧ ((m 262 136) : Int) < 1000) ∧ (zi2b (zi2b x1) = (zi2b x1) ∧ Zr (zi2b x1)) ∧ post (mu (mu m 347 (m 262 136).toNat (zi2b x1)) 262 136 (((mu m 347 (m 262 136).toNat (zi2b x1)) 262 136) + 1)) J P))) : Rn X d 193 0 [some (.ref 262), some (.int (iz x1))] [] (SS m J P) (QV post) := by
  refine s_aload_n (pc := 0) rfl rfl ?_
  refine s_getI (pc := 1) rfl ko_262 ?_
  refine s_sipush (pc := 4) rfl (by decide) ?_
  obtain ⟨hz1, hw⟩ := hw
  refine s_ic_ge (pc := 7) (tgt := 21) rfl rfl hz1 (by decide) (fun hc => ?_) (fun hc => ?_)
  · replace hw := hw.1 hc
    refine s_aload_n (pc := 21) rfl rfl ?_
    refine s_dup (pc := 22) rfl rfl ?_
    refine s_getI (pc := 23) rfl ko_262 ?_
    refine s_iconst (pc := 26) rfl ?_
    refine s_iadd (pc := 27) rfl ?_
    refine s_putI (pc := 28) rfl ko_262 ?_
    exact s_retv (pc := 31) rfl rfl hw
  · replace hw := hw.2 hc
    refine s_aload_n (pc := 10) rfl rfl ?_
    refine s_getA (pc := 11) rfl ko_262 (po_262_135 hp) ?_
    refine s_aload_n (pc := 14) rfl rfl ?_
    refine s_getI (pc := 15) rfl ko_262 ?_
    refine s_iload_n (pc := 18) rfl rfl ?_
    refine s_i2b (pc := 19) rfl ?_
    obtain ⟨hb2, hw⟩ := hw
    obtain ⟨hv3, hw⟩ := hw
    refine s_bast (pc := 20) rfl ka_347 (Or.inl ⟨rfl, hv3⟩) (by decide) hb2 ?_
    refine s_aload_n (pc := 21) rfl rfl ?_
    refine s_dup (pc := 22) rfl rfl ?_
    refine s_getI (pc := 23) rfl ko_262 ?_
    refine s_iconst (pc := 26) rfl ?_
    refine s_iadd (pc := 27) rfl ?_
    refine s_putI (pc := 28) rfl ko_262 ?_
    exact s_retv (pc := 31) rfl rfl hw

set_option maxRecDepth 20000 in
set_option maxHeartbeats 4000000 in
theorem b_Mdl_unify_0 {X : aX} {d : Nat} (x1 : Int)  (m : Mi) (J : Mj) (P : Mp) (hp : PP P) (post : Int → Mi → Mj → Mp → Prop)
    (hw : Zr (m 262 33) ∧ ((((m 262 33) = 0) → post ((-1)) m J P) ∧ (¬ ((m 262 33) = 0) → Zr (x1) ∧ (((x1 < 0) → post ((-1)) m J P) ∧ (¬ (x1 < 0) → Zr (x1) ∧ Zr (m 262 1) ∧ (((x1 ≤ (m 262 1)) → Ci X (d + 4) 185 [.ref 262, .int (iz x1), .int (iz 1)] m J P (fun z8 m5 J6 P7 => PP P7 ∧ Zr (z8) ∧ (((¬ z8 = 0) → Cv X (d + 4) 164 [.ref 262] m5 J6 P7 (fun m11 J12 P13 => PP P13 ∧ Ci X (d + 4) 166 [.ref 262, .ref 341, .int (iz 0), .int (iz (m11 262 129)), .ref 308, .int (iz 0)] m11 J12 P13 (fun z19 m16 J17 P18 => PP P18 ∧ Ci X (d + 4) 166 [.ref 262, .ref 342, .int (iz 0), .int (iz (m16 262 130)), .ref 308, .int (iz 0)] m16 J17 P18 (fun z24 m21 J22 P23 => PP P23 ∧ Ci X (d + 4) 168 [.ref 262, .int (iz z19), .int (iz z24)] m21 J22 P23 (fun z29 m26 J27 P28 => PP P28 ∧ Zr (z29) ∧ (((¬ z29 = 0) → Cv X (d + 4) 171 [.ref 262] (mu m26 262 87 0) J27 P28 (fun m32 J33 P34 => PP P34 ∧ Rn X (d + 5) 194 117 [some (.ref 262), some (.int (iz x1)), some (.int (iz z19)), some (.int (iz z24)), some (.int (iz ((mu m32 262 122 0) 262 101))), some (.int (iz 0))] [] (SS (mu (mu m32 262 122 0) 262 101 ((mu m32 262 122 0) 262 17)) J33 P34) (QI post))) ∧ (¬ (¬ z29 = 0) → post 0 m26 J27 P28))))))) ∧ (¬ (¬ z8 = 0) → post ((-4)) m5 J6 P7)))) ∧ (¬ (x1 ≤ (m 262 1)) → post ((-1)) m J P))))))) : Rn X (d + 5) 194 0 [some (.ref 262), some (.int (iz x1)), none, none, none, none] [] (SS m J P) (QI post) := by
  refine s_aload_n (pc := 0) rfl rfl ?_
  refine s_getZ (pc := 1) rfl ko_262 ?_
  obtain ⟨hz1, hw⟩ := hw
  refine s_if_eq (pc := 4) (tgt := 19) rfl rfl hz1 (fun hc => ?_) (fun hc => ?_)
  · replace hw := hw.1 hc
    refine s_iconst (pc := 19) rfl ?_
    exact s_reti (pc := 20) rfl rfl hw
  · replace hw := hw.2 hc
    refine s_iload_n (pc := 7) rfl rfl ?_
    obtain ⟨hz2, hw⟩ := hw
    refine s_if_lt (pc := 8) (tgt := 19) rfl rfl hz2 (fun hc => ?_) (fun hc => ?_)
    · replace hw := hw.1 hc
      refine s_iconst (pc := 19) rfl ?_
      exact s_reti (pc := 20) rfl rfl hw
    · replace hw := hw.2 hc
      refine s_iload_n (pc := 11) rfl rfl ?_
      refine s_aload_n (pc := 12) rfl rfl ?_
      refine s_getI (pc := 13) rfl ko_262 ?_
      obtain ⟨hz3, hw⟩ := hw
      obtain ⟨hz4, hw⟩ := hw
      refine s_ic_le (pc := 16) (tgt := 21) rfl rfl hz3 hz4 (fun hc => ?_) (fun hc => ?_)
      · replace hw := hw.1 hc
        refine s_aload_n (pc := 21) rfl rfl ?_
        refine s_iload_n (pc := 22) rfl rfl ?_
        refine s_iconst (pc := 23) rfl ?_
        refine s_ci (pc := 24) (d := (d + 4)) (t := []) rfl rfl (am_ca_v (ps := [.int (iz 1), .int (iz x1)]) rfl ko_262) (Nat.le_of_ble_eq_true rfl) (Ci.weak hw fun z8 m5 J6 P7 hw => ?_)
        obtain ⟨hp9, hw⟩ := hw
        obtain ⟨hz10, hw⟩ := hw
        refine s_if_ne (pc := 27) (tgt := 33) rfl rfl hz10 (fun hc => ?_) (fun hc => ?_)
        · replace hw := hw.1 hc
          refine s_aload_n (pc := 33) rfl rfl ?_
          refine s_cv (pc := 34) (d := (d + 4)) (t := []) rfl rfl (am_ca_v (ps := []) rfl ko_262) (Nat.le_of_ble_eq_true rfl) (Cv.weak hw fun m11 J12 P13 hw => ?_)
          obtain ⟨hp15, hw⟩ := hw
          refine s_aload_n (pc := 37) rfl rfl ?_
          refine s_aload_n (pc := 38) rfl rfl ?_
          refine s_getA (pc := 39) rfl ko_262 (po_262_127 hp15) ?_
          refine s_iconst (pc := 42) rfl ?_
          refine s_aload_n (pc := 43) rfl rfl ?_
          refine s_getI (pc := 44) rfl ko_262 ?_
          refine s_aload_n (pc := 47) rfl rfl ?_
          refine s_getA (pc := 48) rfl ko_262 (po_262_75 hp15) ?_
          refine s_iconst (pc := 51) rfl ?_
          refine s_ci (pc := 52) (d := (d + 4)) (t := []) rfl rfl (am_ca_v (ps := [.int (iz 0), .ref 308, .int (iz (m11 262 129)), .int (iz 0), .ref 341]) rfl ko_262) (Nat.le_of_ble_eq_true rfl) (Ci.weak hw fun z19 m16 J17 P18 hw => ?_)
          obtain ⟨hp20, hw⟩ := hw
          refine s_istore_n (pc := 55) (L' := [some (.ref 262), some (.int (iz x1)), some (.int (iz z19)), none, none, none]) rfl (Nat.le_of_ble_eq_true rfl) rfl ?_
          refine s_aload_n (pc := 56) rfl rfl ?_
          refine s_aload_n (pc := 57) rfl rfl ?_
          refine s_getA (pc := 58) rfl ko_262 (po_262_128 hp20) ?_
          refine s_iconst (pc := 61) rfl ?_
          refine s_aload_n (pc := 62) rfl rfl ?_
          refine s_getI (pc := 63) rfl ko_262 ?_
          refine s_aload_n (pc := 66) rfl rfl ?_
          refine s_getA (pc := 67) rfl ko_262 (po_262_75 hp20) ?_
          refine s_iconst (pc := 70) rfl ?_
          refine s_ci (pc := 71) (d := (d + 4)) (t := []) rfl rfl (am_ca_v (ps := [.int (iz 0), .ref 308, .int (iz (m16 262 130)), .int (iz 0), .ref 342]) rfl ko_262) (Nat.le_of_ble_eq_true rfl) (Ci.weak hw fun z24 m21 J22 P23 hw => ?_)
          obtain ⟨hp25, hw⟩ := hw
          refine s_istore_n (pc := 74) (L' := [some (.ref 262), some (.int (iz x1)), some (.int (iz z19)), some (.int (iz z24)), none, none]) rfl (Nat.le_of_ble_eq_true rfl) rfl ?_
          refine s_aload_n (pc := 75) rfl rfl ?_
          refine s_iload_n (pc := 76) rfl rfl ?_
          refine s_iload_n (pc := 77) rfl rfl ?_
          refine s_ci (pc := 78) (d := (d + 4)) (t := []) rfl rfl (am_ca_v (ps := [.int (iz z24), .int (iz z19)]) rfl ko_262) (Nat.le_of_ble_eq_true rfl) (Ci.weak hw fun z29 m26 J27 P28 hw => ?_)
          obtain ⟨hp30, hw⟩ := hw
          obtain ⟨hz31, hw⟩ := hw
          refine s_if_ne (pc := 81) (tgt := 86) rfl rfl hz31 (fun hc => ?_) (fun hc => ?_)
          · replace hw := hw.1 hc
            refine s_aload_n (pc := 86) rfl rfl ?_
            refine s_iconst (pc := 87) rfl ?_
            refine s_putZ (pc := 88) rfl ko_262 (by decide) ?_
            refine s_aload_n (pc := 91) rfl rfl ?_
            refine s_cv (pc := 92) (d := (d + 4)) (t := []) rfl rfl (am_ca_v (ps := []) rfl ko_262) (Nat.le_of_ble_eq_true rfl) (Cv.weak hw fun m32 J33 P34 hw => ?_)
            obtain ⟨hp36, hw⟩ := hw
            refine s_aload_n (pc := 95) rfl rfl ?_
            refine s_iconst (pc := 96) rfl ?_
            refine s_putI (pc := 97) rfl ko_262 ?_
            refine s_aload_n (pc := 100) rfl rfl ?_
            refine s_getI (pc := 101) rfl ko_262 ?_
            refine s_istore (pc := 104) (L' := [some (.ref 262), some (.int (iz x1)), some (.int (iz z19)), some (.int (iz z24)), some (.int (iz ((mu m32 262 122 0) 262 101))), none]) rfl (Nat.le_of_ble_eq_true rfl) rfl ?_
            refine s_aload_n (pc := 106) rfl rfl ?_
            refine s_aload_n (pc := 107) rfl rfl ?_
            refine s_getI (pc := 108) rfl ko_262 ?_
            refine s_putI (pc := 111) rfl ko_262 ?_
            refine s_iconst (pc := 114) rfl ?_
            refine s_istore (pc := 115) (L' := [some (.ref 262), some (.int (iz x1)), some (.int (iz z19)), some (.int (iz z24)), some (.int (iz ((mu m32 262 122 0) 262 101))), some (.int (iz 0))]) rfl (Nat.le_of_ble_eq_true rfl) rfl ?_
            exact hw
          · replace hw := hw.2 hc
            refine s_iconst (pc := 84) rfl ?_
            exact s_reti (pc := 85) rfl rfl hw
        · replace hw := hw.2 hc
          refine s_bipush (pc := 30) rfl (by decide) ?_
          exact s_reti (pc := 32) rfl rfl hw
      · replace hw := hw.2 hc
        refine s_iconst (pc := 19) rfl ?_
        exact s_reti (pc := 20) rfl rfl hw

set_option maxRecDepth 20000 in
set_option maxHeartbeats 4000000 in
theorem b_Mdl_unify_117 {X : aX} {d : Nat} (x1 : Int) (x2 : Int) (x3 : Int) (x4 : Int) (x5 : Int)  (m : Mi) (J : Mj) (P : Mp) (hp : PP P) (post : Int → Mi → Mj → Mp → Prop)
    (hw : Zr (x5) ∧ Zr (m 262 17) ∧ ((((m 262 17) ≤ x5) → Ci X (d + 4) 195 [.ref 262] m J P (fun z6 m3 J4 P5 => PP P5 ∧ Zr (z6) ∧ (((¬ z6 = 0) → Cv X (d + 4) 188 [.ref 262] (mu m3 262 101 x4) J4 P5 (fun m9 J10 P11 => PP P11 ∧ Cv X (d + 4) 196 [.ref 262, .ref 337, .int (iz 0), .ref 338, .int (iz 0), .int (iz (m9 262 17)), .ref 266] m9 J10 P11 (fun m14 J15 P16 => PP P16 ∧ post 1 m14 J15 P16))) ∧ (¬ (¬ z6 = 0) → post 2 (mu m3 262 101 x4) J4 P5)))) ∧ (¬ ((m 262 17) ≤ x5) → ((0 : Int) ≤ x5 ∧ (x5 : Int) < 800) ∧ ((0 : Int) ≤ x5 ∧ (x5 : Int) < 6) ∧ Rn X (d + 5) 194 117 [some (.ref 262), some (.int (iz x1)), some (.int (iz x2)), some (.int (iz x3)), some (.int (iz x4)), some (.int (iz (x5 + 1)))] [] (SS (mu m 339 x5.toNat (m 308 x5.toNat)) J P) (QI post)))) : Rn X (d + 5) 194 117 [some (.ref 262), some (.int (iz x1)), some (.int (iz x2)), some (.int (iz x3)), some (.int (iz x4)), some (.int (iz x5))] [] (SS m J P) (QI post) := by
  refine s_iload (pc := 117) rfl rfl ?_
  refine s_aload_n (pc := 119) rfl rfl ?_
  refine s_getI (pc := 120) rfl ko_262 ?_
  obtain ⟨hz1, hw⟩ := hw
  obtain ⟨hz2, hw⟩ := hw
  refine s_ic_ge (pc := 123) (tgt := 146) rfl rfl hz1 hz2 (fun hc => ?_) (fun hc => ?_)
  · replace hw := hw.1 hc
    refine s_aload_n (pc := 146) rfl rfl ?_
    refine s_ci (pc := 147) (d := (d + 4)) (t := []) rfl rfl (am_ca_v (ps := []) rfl ko_262) (Nat.le_of_ble_eq_true rfl) (Ci.weak hw fun z6 m3 J4 P5 hw => ?_)
    obtain ⟨hp7, hw⟩ := hw
    refine s_istore (pc := 150) (L' := [some (.ref 262), some (.int (iz x1)), some (.int (iz x2)), some (.int (iz x3)), some (.int (iz x4)), some (.int (iz z6))]) rfl (Nat.le_of_ble_eq_true rfl) rfl ?_
    refine s_aload_n (pc := 152) rfl rfl ?_
    refine s_iload (pc := 153) rfl rfl ?_
    refine s_putI (pc := 155) rfl ko_262 ?_
    refine s_iload (pc := 158) rfl rfl ?_
    obtain ⟨hz8, hw⟩ := hw
    refine s_if_ne (pc := 160) (tgt := 165) rfl rfl hz8 (fun hc => ?_) (fun hc => ?_)
    · replace hw := hw.1 hc
      refine s_aload_n (pc := 165) rfl rfl ?_
      refine s_cv (pc := 166) (d := (d + 4)) (t := []) rfl rfl (am_ca_v (ps := []) rfl ko_262) (Nat.le_of_ble_eq_true rfl) (Cv.weak hw fun m9 J10 P11 hw => ?_)
      obtain ⟨hp13, hw⟩ := hw
      refine s_aload_n (pc := 169) rfl rfl ?_
      refine s_aload_n (pc := 170) rfl rfl ?_
      refine s_getA (pc := 171) rfl ko_262 (po_262_118 hp13) ?_
      refine s_iconst (pc := 174) rfl ?_
      refine s_aload_n (pc := 175) rfl rfl ?_
      refine s_getA (pc := 176) rfl ko_262 (po_262_119 hp13) ?_
      refine s_iconst (pc := 179) rfl ?_
      refine s_aload_n (pc := 180) rfl rfl ?_
      refine s_getI (pc := 181) rfl ko_262 ?_
      refine s_aload_n (pc := 184) rfl rfl ?_
      refine s_getA (pc := 185) rfl ko_262 (po_262_20 hp13) ?_
      refine s_cv (pc := 188) (d := (d + 4)) (t := []) rfl rfl (am_ca_v (ps := [.ref 266, .int (iz (m9 262 17)), .int (iz 0), .ref 338, .int (iz 0), .ref 337]) rfl ko_262) (Nat.le_of_ble_eq_true rfl) (Cv.weak hw fun m14 J15 P16 hw => ?_)
      obtain ⟨hp18, hw⟩ := hw
      refine s_iconst (pc := 191) rfl ?_
      exact s_reti (pc := 192) rfl rfl hw
    · replace hw := hw.2 hc
      refine s_iconst (pc := 163) rfl ?_
      exact s_reti (pc := 164) rfl rfl hw
  · replace hw := hw.2 hc
    refine s_aload_n (pc := 126) rfl rfl ?_
    refine s_getA (pc := 127) rfl ko_262 (po_262_123 hp) ?_
    refine s_iload (pc := 130) rfl rfl ?_
    refine s_aload_n (pc := 132) rfl rfl ?_
    refine s_getA (pc := 133) rfl ko_262 (po_262_75 hp) ?_
    refine s_iload (pc := 136) rfl rfl ?_
    obtain ⟨hb19, hw⟩ := hw
    refine s_iald (pc := 138) rfl ka_308 (by decide) hb19 ?_
    obtain ⟨hb20, hw⟩ := hw
    refine s_iast (pc := 139) rfl ka_339 (by decide) hb20 ?_
    refine s_iinc (pc := 140) (L' := [some (.ref 262), some (.int (iz x1)), some (.int (iz x2)), some (.int (iz x3)), some (.int (iz x4)), some (.int (iz (x5 + 1)))]) rfl rfl (Nat.le_of_ble_eq_true rfl) rfl ?_
    refine s_goto (pc := 143) (tgt := 117) rfl rfl ?_
    exact hw

set_option maxRecDepth 20000 in
set_option maxHeartbeats 4000000 in
theorem b_Mdl_writesValues_0 {X : aX} {d : Nat}   (m : Mi) (J : Mj) (P : Mp) (hp : PP P) (post : Int → Mi → Mj → Mp → Prop)
    (hw : Rn X (d + 2) 195 2 [some (.ref 262), some (.int (iz 0)), none] [] (SS m J P) (QI post)) : Rn X (d + 2) 195 0 [some (.ref 262), none, none] [] (SS m J P) (QI post) := by
  refine s_iconst (pc := 0) rfl ?_
  refine s_istore_n (pc := 1) (L' := [some (.ref 262), some (.int (iz 0)), none]) rfl (Nat.le_of_ble_eq_true rfl) rfl ?_
  exact hw

set_option maxRecDepth 20000 in
set_option maxHeartbeats 4000000 in
theorem b_Mdl_writesValues_2 {X : aX} {d : Nat} (x1 : Int)  (m : Mi) (J : Mj) (P : Mp) (hp : PP P) (post : Int → Mi → Mj → Mp → Prop)
    (hw : Zr (x1) ∧ Zr (m 262 101) ∧ ((((m 262 101) ≤ x1) → post 1 m J P) ∧ (¬ ((m 262 101) ≤ x1) → ((0 : Int) ≤ x1 ∧ (x1 : Int) < 6) ∧ Ci X (d + 1) 172 [.ref 262, .int (iz (m 339 x1.toNat)), .int (iz ((-1))), .int (iz ((-1))), .int (iz 1), .int (iz 100), .ref 337, .int (iz (m 262 122))] m J P (fun z7 m4 J5 P6 => PP P6 ∧ ((0 : Int) ≤ x1 ∧ (x1 : Int) < 6) ∧ ((0 : Int) ≤ x1 ∧ (x1 : Int) < 6) ∧ Zr ((mu m4 338 x1.toNat z7) 338 x1.toNat) ∧ (((0 ≤ ((mu m4 338 x1.toNat z7) 338 x1.toNat)) → Rn X (d + 2) 195 52 [some (.ref 262), some (.int (iz x1)), some (.int (iz 0))] [] (SS (mu m4 338 x1.toNat z7) J5 P6) (QI post)) ∧ (¬ (0 ≤ ((mu m4 338 x1.toNat z7) 338 x1.toNat)) → post 0 (mu m4 338 x1.toNat z7) J5 P6)))))) : Rn X (d + 2) 195 2 [some (.ref 262), some (.int (iz x1)), none] [] (SS m J P) (QI post) := by
  refine s_iload_n (pc := 2) rfl rfl ?_
  refine s_aload_n (pc := 3) rfl rfl ?_
  refine s_getI (pc := 4) rfl ko_262 ?_
  obtain ⟨hz1, hw⟩ := hw
  obtain ⟨hz2, hw⟩ := hw
  refine s_ic_ge (pc := 7) (tgt := 119) rfl rfl hz1 hz2 (fun hc => ?_) (fun hc => ?_)
  · replace hw := hw.1 hc
    refine s_iconst (pc := 119) rfl ?_
    exact s_retz (pc := 120) rfl rfl (by decide) hw
  · replace hw := hw.2 hc
    refine s_aload_n (pc := 10) rfl rfl ?_
    refine s_getA (pc := 11) rfl ko_262 (po_262_119 hp) ?_
    refine s_iload_n (pc := 14) rfl rfl ?_
    refine s_aload_n (pc := 15) rfl rfl ?_
    refine s_aload_n (pc := 16) rfl rfl ?_
    refine s_getA (pc := 17) rfl ko_262 (po_262_123 hp) ?_
    refine s_iload_n (pc := 20) rfl rfl ?_
    obtain ⟨hb3, hw⟩ := hw
    refine s_iald (pc := 21) rfl ka_339 (by decide) hb3 ?_
    refine s_iconst (pc := 22) rfl ?_
    refine s_iconst (pc := 23) rfl ?_
    refine s_iconst (pc := 24) rfl ?_
    refine s_bipush (pc := 25) rfl (by decide) ?_
    refine s_aload_n (pc := 27) rfl rfl ?_
    refine s_getA (pc := 28) rfl ko_262 (po_262_118 hp) ?_
    refine s_aload_n (pc := 31) rfl rfl ?_
    refine s_getI (pc := 32) rfl ko_262 ?_
    refine s_ci (pc := 35) (d := (d + 1)) (t := [.int (iz x1), .ref 338]) rfl rfl (am_ca_v (ps := [.int (iz (m 262 122)), .ref 337, .int (iz 100), .int (iz 1), .int (iz ((-1))), .int (iz ((-1))), .int (iz (m 339 x1.toNat))]) rfl ko_262) (Nat.le_of_ble_eq_true rfl) (Ci.weak hw fun z7 m4 J5 P6 hw => ?_)
    obtain ⟨hp8, hw⟩ := hw
    obtain ⟨hb9, hw⟩ := hw
    refine s_iast (pc := 38) rfl ka_338 (by decide) hb9 ?_
    refine s_aload_n (pc := 39) rfl rfl ?_
    refine s_getA (pc := 40) rfl ko_262 (po_262_119 hp8) ?_
    refine s_iload_n (pc := 43) rfl rfl ?_
    obtain ⟨hb10, hw⟩ := hw
    refine s_iald (pc := 44) rfl ka_338 (by decide) hb10 ?_
    obtain ⟨hz11, hw⟩ := hw
    refine s_if_ge (pc := 45) (tgt := 50) rfl rfl hz11 (fun hc => ?_) (fun hc => ?_)
    · replace hw := hw.1 hc
      refine s_iconst (pc := 50) rfl ?_
      refine s_istore_n (pc := 51) (L' := [some (.ref 262), some (.int (iz x1)), some (.int (iz 0))]) rfl (Nat.le_of_ble_eq_true rfl) rfl ?_
      exact hw
    · replace hw := hw.2 hc
      refine s_iconst (pc := 48) rfl ?_
      exact s_retz (pc := 49) rfl rfl (by decide) hw

set_option maxRecDepth 20000 in
set_option maxHeartbeats 4000000 in
theorem b_Mdl_writesValues_52 {X : aX} {d : Nat} (x1 : Int) (x2 : Int)  (m : Mi) (J : Mj) (P : Mp) (hp : PP P) (post : Int → Mi → Mj → Mp → Prop)
    (hw : ((0 : Int) ≤ x1 ∧ (x1 : Int) < 6) ∧ Zr (x2) ∧ Zr (m 338 x1.toNat) ∧ ((((m 338 x1.toNat) ≤ x2) → ((0 : Int) ≤ x1 ∧ (x1 : Int) < 6) ∧ Rn X (d + 2) 195 2 [some (.ref 262), some (.int (iz (x1 + 1))), none] [] (SS (mu m 262 122 ((m 262 122) + (m 338 x1.toNat))) J P) (QI post)) ∧ (¬ ((m 338 x1.toNat) ≤ x2) → ((0 : Int) ≤ ((m 262 122) + x2) ∧ (((m 262 122) + x2) : Int) < 800) ∧ Zr (m 337 ((m 262 122) + x2).toNat) ∧ ((((m 337 ((m 262 122) + x2).toNat) < 0) → Rn X (d + 2) 195 52 [some (.ref 262), some (.int (iz x1)), some (.int (iz (x2 + 1)))] [] (SS m J P) (QI post)) ∧ (¬ ((m 337 ((m 262 122) + x2).toNat) < 0) → ((0 : Int) ≤ ((m 262 122) + x2) ∧ (((m 262 122) + x2) : Int) < 800) ∧ ((0 : Int) ≤ ((m 262 122) + x2) ∧ (((m 262 122) + x2) : Int) < 800) ∧ Rn X (d + 2) 195 52 [some (.ref 262), some (.int (iz x1)), some (.int (iz (x2 + 1)))] [] (SS (mu m 337 ((m 262 122) + x2).toNat (zrem (m 337 ((m 262 122) + x2).toNat) 64)) J P) (QI post)))))) : Rn X (d + 2) 195 52 [some (.ref 262), some (.int (iz x1)), some (.int (iz x2))] [] (SS m J P) (QI post) := by
  refine s_iload_n (pc := 52) rfl rfl ?_
  refine s_aload_n (pc := 53) rfl rfl ?_
  refine s_getA (pc := 54) rfl ko_262 (po_262_119 hp) ?_
  refine s_iload_n (pc := 57) rfl rfl ?_
  obtain ⟨hb1, hw⟩ := hw
  refine s_iald (pc := 58) rfl ka_338 (by decide) hb1 ?_
  obtain ⟨hz2, hw⟩ := hw
  obtain ⟨hz3, hw⟩ := hw
  refine s_ic_ge (pc := 59) (tgt := 98) rfl rfl hz2 hz3 (fun hc => ?_) (fun hc => ?_)
  · replace hw := hw.1 hc
    refine s_aload_n (pc := 98) rfl rfl ?_
    refine s_dup (pc := 99) rfl rfl ?_
    refine s_getI (pc := 100) rfl ko_262 ?_
    refine s_aload_n (pc := 103) rfl rfl ?_
    refine s_getA (pc := 104) rfl ko_262 (po_262_119 hp) ?_
    refine s_iload_n (pc := 107) rfl rfl ?_
    obtain ⟨hb4, hw⟩ := hw
    refine s_iald (pc := 108) rfl ka_338 (by decide) hb4 ?_
    refine s_iadd (pc := 109) rfl ?_
    refine s_putI (pc := 110) rfl ko_262 ?_
    refine s_iinc (pc := 113) (L' := [some (.ref 262), some (.int (iz (x1 + 1))), some (.int (iz x2))]) rfl rfl (Nat.le_of_ble_eq_true rfl) rfl ?_
    refine s_goto (pc := 116) (tgt := 2) rfl rfl ?_
    exact Rn.weakL hw (LLe.keep _ (LLe.keep _ (LLe.drop _ (LLe.nil))))
  · replace hw := hw.2 hc
    refine s_aload_n (pc := 62) rfl rfl ?_
    refine s_getA (pc := 63) rfl ko_262 (po_262_118 hp) ?_
    refine s_aload_n (pc := 66) rfl rfl ?_
    refine s_getI (pc := 67) rfl ko_262 ?_
    refine s_iload_n (pc := 70) rfl rfl ?_
    refine s_iadd (pc := 71) rfl ?_
    obtain ⟨hb5, hw⟩ := hw
    refine s_iald (pc := 72) rfl ka_337 (by decide) hb5 ?_
    obtain ⟨hz6, hw⟩ := hw
    refine s_if_lt (pc := 73) (tgt := 92) rfl rfl hz6 (fun hc => ?_) (fun hc => ?_)
    · replace hw := hw.1 hc
      refine s_iinc (pc := 92) (L' := [some (.ref 262), some (.int (iz x1)), some (.int (iz (x2 + 1)))]) rfl rfl (Nat.le_of_ble_eq_true rfl) rfl ?_
      refine s_goto (pc := 95) (tgt := 52) rfl rfl ?_
      exact hw
    · replace hw := hw.2 hc
      refine s_aload_n (pc := 76) rfl rfl ?_
      refine s_getA (pc := 77) rfl ko_262 (po_262_118 hp) ?_
      refine s_aload_n (pc := 80) rfl rfl ?_
      refine s_getI (pc := 81) rfl ko_262 ?_
      refine s_iload_n (pc := 84) rfl rfl ?_
      refine s_iadd (pc := 85) rfl ?_
      refine s_dup2 (pc := 86) rfl ⟨rfl, rfl⟩ ?_
      obtain ⟨hb7, hw⟩ := hw
      refine s_iald (pc := 87) rfl ka_337 (by decide) hb7 ?_
      refine s_bipush (pc := 88) rfl (by decide) ?_
      refine s_irem (pc := 90) rfl (by decide) ?_
      obtain ⟨hb8, hw⟩ := hw
      refine s_iast (pc := 91) rfl ka_337 (by decide) hb8 ?_
      refine s_iinc (pc := 92) (L' := [some (.ref 262), some (.int (iz x1)), some (.int (iz (x2 + 1)))]) rfl rfl (Nat.le_of_ble_eq_true rfl) rfl ?_
      refine s_goto (pc := 95) (tgt := 52) rfl rfl ?_
      exact hw

set_option maxRecDepth 20000 in
set_option maxHeartbeats 4000000 in
theorem b_Mdl_showValues_0 {X : aX} {d : Nat} (x1 nx1 : Nat) (x2 : Int) (x3 nx3 : Nat) (x4 : Int) (x5 : Int) (x6 nx6 : Nat) (kx1 : am_kd an_K x1 = some (.inr (0, nx1))) (bx1 : nx1 ≤ 100000) (kx3 : am_kd an_K x3 = some (.inr (0, nx3))) (bx3 : nx3 ≤ 100000) (kx6 : am_kd an_K x6 = some (.inr (3, nx6))) (bx6 : nx6 ≤ 100000) (m : Mi) (J : Mj) (P : Mp) (hp : PP P) (post : Mi → Mj → Mp → Prop)
    (hw : Cv X (d + 3) 197 [.ref 262, .ref x1, .int (iz x2), .ref x3, .int (iz x4), .int (iz x5), .ref x6] m J P (fun m1 J2 P3 => PP P3 ∧ Rn X (d + 4) 196 19 [some (.ref 262), some (.ref x1), some (.int (iz x2)), some (.ref x3), some (.int (iz x4)), some (.int (iz x5)), some (.ref x6), some (.int (iz x2)), some (.int (iz 0))] [] (SS m1 J2 P3) (QV post))) : Rn X (d + 4) 196 0 [some (.ref 262), some (.ref x1), some (.int (iz x2)), some (.ref x3), some (.int (iz x4)), some (.int (iz x5)), some (.ref x6), none, none] [] (SS m J P) (QV post) := by
  refine s_aload_n (pc := 0) rfl rfl ?_
  refine s_aload_n (pc := 1) rfl rfl ?_
  refine s_iload_n (pc := 2) rfl rfl ?_
  refine s_aload_n (pc := 3) rfl rfl ?_
  refine s_iload (pc := 4) rfl rfl ?_
  refine s_iload (pc := 6) rfl rfl ?_
  refine s_aload (pc := 8) rfl rfl ?_
  refine s_cv (pc := 10) (d := (d + 3)) (t := []) rfl rfl (am_ca_v (ps := [.ref x6, .int (iz x5), .int (iz x4), .ref x3, .int (iz x2), .ref x1]) rfl ko_262) (Nat.le_of_ble_eq_true rfl) (Cv.weak hw fun m1 J2 P3 hw => ?_)
  obtain ⟨hp5, hw⟩ := hw
  refine s_iload_n (pc := 13) rfl rfl ?_
  refine s_istore (pc := 14) (L' := [some (.ref 262), some (.ref x1), some (.int (iz x2)), some (.ref x3), some (.int (iz x4)), some (.int (iz x5)), some (.ref x6), some (.int (iz x2)), none]) rfl (Nat.le_of_ble_eq_true rfl) rfl ?_
  refine s_iconst (pc := 16) rfl ?_
  refine s_istore (pc := 17) (L' := [some (.ref 262), some (.ref x1), some (.int (iz x2)), some (.ref x3), some (.int (iz x4)), some (.int (iz x5)), some (.ref x6), some (.int (iz x2)), some (.int (iz 0))]) rfl (Nat.le_of_ble_eq_true rfl) rfl ?_
  exact hw

set_option maxRecDepth 20000 in
set_option maxHeartbeats 4000000 in
theorem b_Mdl_showValues_19 {X : aX} {d : Nat} (x1 nx1 : Nat) (x2 : Int) (x3 nx3 : Nat) (x4 : Int) (x5 : Int) (x6 nx6 : Nat) (x7 : Int) (x8 : Int) (kx1 : am_kd an_K x1 = some (.inr (0, nx1))) (bx1 : nx1 ≤ 100000) (kx3 : am_kd an_K x3 = some (.inr (0, nx3))) (bx3 : nx3 ≤ 100000) (kx6 : am_kd an_K x6 = some (.inr (3, nx6))) (bx6 : nx6 ≤ 100000) (m : Mi) (J : Mj) (P : Mp) (hp : PP P) (post : Mi → Mj → Mp → Prop)
    (hw : Zr (x8) ∧ Zr (x5) ∧ (((x5 ≤ x8) → post m J P) ∧ (¬ (x5 ≤ x8) → Zr (x8) ∧ (((x8 ≤ 0) → ((0 : Int) ≤ x8 ∧ (x8 : Int) < nx6) ∧ Cv X (d + 3) 191 [.ref 262, .long (J x6 x8.toNat)] m J P (fun m5 J6 P7 => PP P7 ∧ Cv X (d + 3) 193 [.ref 262, .int (iz 61)] m5 J6 P7 (fun m10 J11 P12 => PP P12 ∧ ((0 : Int) ≤ (x4 + x8) ∧ ((x4 + x8) : Int) < nx3) ∧ Cv X (d + 3) 189 [.ref 262, .ref x1, .int (iz x7), .int (iz (m10 x3 (x4 + x8).toNat))] m10 J11 P12 (fun m16 J17 P18 => PP P18 ∧ ((0 : Int) ≤ (x4 + x8) ∧ ((x4 + x8) : Int) < nx3) ∧ Rn X (d + 4) 196 19 [some (.ref 262), some (.ref x1), some (.int (iz x2)), some (.ref x3), some (.int (iz x4)), some (.int (iz x5)), some (.ref x6), some (.int (iz (x7 + (m16 x3 (x4 + x8).toNat)))), some (.int (iz (x8 + 1)))] [] (SS m16 J17 P18) (QV post))))) ∧ (¬ (x8 ≤ 0) → Cv X (d + 3) 193 [.ref 262, .int (iz 44)] m J P (fun m22 J23 P24 => PP P24 ∧ ((0 : Int) ≤ x8 ∧ (x8 : Int) < nx6) ∧ Cv X (d + 3) 191 [.ref 262, .long (J23 x6 x8.toNat)] m22 J23 P24 (fun m28 J29 P30 => PP P30 ∧ Cv X (d + 3) 193 [.ref 262, .int (iz 61)] m28 J29 P30 (fun m33 J34 P35 => PP P35 ∧ ((0 : Int) ≤ (x4 + x8) ∧ ((x4 + x8) : Int) < nx3) ∧ Cv X (d + 3) 189 [.ref 262, .ref x1, .int (iz x7), .int (iz (m33 x3 (x4 + x8).toNat))] m33 J34 P35 (fun m39 J40 P41 => PP P41 ∧ ((0 : Int) ≤ (x4 + x8) ∧ ((x4 + x8) : Int) < nx3) ∧ Rn X (d + 4) 196 19 [some (.ref 262), some (.ref x1), some (.int (iz x2)), some (.ref x3), some (.int (iz x4)), some (.int (iz x5)), some (.ref x6), some (.int (iz (x7 + (m39 x3 (x4 + x8).toNat)))), some (.int (iz (x8 + 1)))] [] (SS m39 J40 P41) (QV post)))))))))) : Rn X (d + 4) 196 19 [some (.ref 262), some (.ref x1), some (.int (iz x2)), some (.ref x3), some (.int (iz x4)), some (.int (iz x5)), some (.ref x6), some (.int (iz x7)), some (.int (iz x8))] [] (SS m J P) (QV post) := by
  refine s_iload (pc := 19) rfl rfl ?_
  refine s_iload (pc := 21) rfl rfl ?_
  obtain ⟨hz1, hw⟩ := hw
  obtain ⟨hz2, hw⟩ := hw
  refine s_ic_ge (pc := 23) (tgt := 84) rfl rfl hz1 hz2 (fun hc => ?_) (fun hc => ?_)
  · replace hw := hw.1 hc
    exact s_retv (pc := 84) rfl rfl hw
  · replace hw := hw.2 hc
    refine s_iload (pc := 26) rfl rfl ?_
    obtain ⟨hz3, hw⟩ := hw
    refine s_if_le (pc := 28) (tgt := 37) rfl rfl hz3 (fun hc => ?_) (fun hc => ?_)
    · replace hw := hw.1 hc
      refine s_aload_n (pc := 37) rfl rfl ?_
      refine s_aload (pc := 38) rfl rfl ?_
      refine s_iload (pc := 40) rfl rfl ?_
      obtain ⟨hb4, hw⟩ := hw
      refine s_lald (pc := 42) rfl kx6 bx6 hb4 ?_
      refine s_cv (pc := 43) (d := (d + 3)) (t := []) rfl rfl (am_ca_v (ps := [.long (J x6 x8.toNat)]) rfl ko_262) (Nat.le_of_ble_eq_true rfl) (Cv.weak hw fun m5 J6 P7 hw => ?_)
      obtain ⟨hp9, hw⟩ := hw
      refine s_aload_n (pc := 46) rfl rfl ?_
      refine s_bipush (pc := 47) rfl (by decide) ?_
      refine s_cv (pc := 49) (d := (d + 3)) (t := []) rfl rfl (am_ca_v (ps := [.int (iz 61)]) rfl ko_262) (Nat.le_of_ble_eq_true rfl) (Cv.weak hw fun m10 J11 P12 hw => ?_)
      obtain ⟨hp14, hw⟩ := hw
      refine s_aload_n (pc := 52) rfl rfl ?_
      refine s_aload_n (pc := 53) rfl rfl ?_
      refine s_iload (pc := 54) rfl rfl ?_
      refine s_aload_n (pc := 56) rfl rfl ?_
      refine s_iload (pc := 57) rfl rfl ?_
      refine s_iload (pc := 59) rfl rfl ?_
      refine s_iadd (pc := 61) rfl ?_
      obtain ⟨hb15, hw⟩ := hw
      refine s_iald (pc := 62) rfl kx3 bx3 hb15 ?_
      refine s_cv (pc := 63) (d := (d + 3)) (t := []) rfl rfl (am_ca_v (ps := [.int (iz (m10 x3 (x4 + x8).toNat)), .int (iz x7), .ref x1]) rfl ko_262) (Nat.le_of_ble_eq_true rfl) (Cv.weak hw fun m16 J17 P18 hw => ?_)
      obtain ⟨hp20, hw⟩ := hw
      refine s_iload (pc := 66) rfl rfl ?_
      refine s_aload_n (pc := 68) rfl rfl ?_
      refine s_iload (pc := 69) rfl rfl ?_
      refine s_iload (pc := 71) rfl rfl ?_
      refine s_iadd (pc := 73) rfl ?_
      obtain ⟨hb21, hw⟩ := hw
      refine s_iald (pc := 74) rfl kx3 bx3 hb21 ?_
      refine s_iadd (pc := 75) rfl ?_
      refine s_istore (pc := 76) (L' := [some (.ref 262), some (.ref x1), some (.int (iz x2)), some (.ref x3), some (.int (iz x4)), some (.int (iz x5)), some (.ref x6), some (.int (iz (x7 + (m16 x3 (x4 + x8).toNat)))), some (.int (iz x8))]) rfl (Nat.le_of_ble_eq_true rfl) rfl ?_
      refine s_iinc (pc := 78) (L' := [some (.ref 262), some (.ref x1), some (.int (iz x2)), some (.ref x3), some (.int (iz x4)), some (.int (iz x5)), some (.ref x6), some (.int (iz (x7 + (m16 x3 (x4 + x8).toNat)))), some (.int (iz (x8 + 1)))]) rfl rfl (Nat.le_of_ble_eq_true rfl) rfl ?_
      refine s_goto (pc := 81) (tgt := 19) rfl rfl ?_
      exact hw
    · replace hw := hw.2 hc
      refine s_aload_n (pc := 31) rfl rfl ?_
      refine s_bipush (pc := 32) rfl (by decide) ?_
      refine s_cv (pc := 34) (d := (d + 3)) (t := []) rfl rfl (am_ca_v (ps := [.int (iz 44)]) rfl ko_262) (Nat.le_of_ble_eq_true rfl) (Cv.weak hw fun m22 J23 P24 hw => ?_)
      obtain ⟨hp26, hw⟩ := hw
      refine s_aload_n (pc := 37) rfl rfl ?_
      refine s_aload (pc := 38) rfl rfl ?_
      refine s_iload (pc := 40) rfl rfl ?_
      obtain ⟨hb27, hw⟩ := hw
      refine s_lald (pc := 42) rfl kx6 bx6 hb27 ?_
      refine s_cv (pc := 43) (d := (d + 3)) (t := []) rfl rfl (am_ca_v (ps := [.long (J23 x6 x8.toNat)]) rfl ko_262) (Nat.le_of_ble_eq_true rfl) (Cv.weak hw fun m28 J29 P30 hw => ?_)
      obtain ⟨hp32, hw⟩ := hw
      refine s_aload_n (pc := 46) rfl rfl ?_
      refine s_bipush (pc := 47) rfl (by decide) ?_
      refine s_cv (pc := 49) (d := (d + 3)) (t := []) rfl rfl (am_ca_v (ps := [.int (iz 61)]) rfl ko_262) (Nat.le_of_ble_eq_true rfl) (Cv.weak hw fun m33 J34 P35 hw => ?_)
      obtain ⟨hp37, hw⟩ := hw
      refine s_aload_n (pc := 52) rfl rfl ?_
      refine s_aload_n (pc := 53) rfl rfl ?_
      refine s_iload (pc := 54) rfl rfl ?_
      refine s_aload_n (pc := 56) rfl rfl ?_
      refine s_iload (pc := 57) rfl rfl ?_
      refine s_iload (pc := 59) rfl rfl ?_
      refine s_iadd (pc := 61) rfl ?_
      obtain ⟨hb38, hw⟩ := hw
      refine s_iald (pc := 62) rfl kx3 bx3 hb38 ?_
      refine s_cv (pc := 63) (d := (d + 3)) (t := []) rfl rfl (am_ca_v (ps := [.int (iz (m33 x3 (x4 + x8).toNat)), .int (iz x7), .ref x1]) rfl ko_262) (Nat.le_of_ble_eq_true rfl) (Cv.weak hw fun m39 J40 P41 hw => ?_)
      obtain ⟨hp43, hw⟩ := hw
      refine s_iload (pc := 66) rfl rfl ?_
      refine s_aload_n (pc := 68) rfl rfl ?_
      refine s_iload (pc := 69) rfl rfl ?_
      refine s_iload (pc := 71) rfl rfl ?_
      refine s_iadd (pc := 73) rfl ?_
      obtain ⟨hb44, hw⟩ := hw
      refine s_iald (pc := 74) rfl kx3 bx3 hb44 ?_
      refine s_iadd (pc := 75) rfl ?_
      refine s_istore (pc := 76) (L' := [some (.ref 262), some (.ref x1), some (.int (iz x2)), some (.ref x3), some (.int (iz x4)), some (.int (iz x5)), some (.ref x6), some (.int (iz (x7 + (m39 x3 (x4 + x8).toNat)))), some (.int (iz x8))]) rfl (Nat.le_of_ble_eq_true rfl) rfl ?_
      refine s_iinc (pc := 78) (L' := [some (.ref 262), some (.ref x1), some (.int (iz x2)), some (.ref x3), some (.int (iz x4)), some (.int (iz x5)), some (.ref x6), some (.int (iz (x7 + (m39 x3 (x4 + x8).toNat)))), some (.int (iz (x8 + 1)))]) rfl rfl (Nat.le_of_ble_eq_true rfl) rfl ?_
      refine s_goto (pc := 81) (tgt := 19) rfl rfl ?_
      exact hw

set_option maxRecDepth 20000 in
set_option maxHeartbeats 4000000 in
theorem b_Mdl_namesOf_0 {X : aX} {d : Nat} (x1 nx1 : Nat) (x2 : Int) (x3 nx3 : Nat) (x4 : Int) (x5 : Int) (x6 nx6 : Nat) (kx1 : am_kd an_K x1 = some (.inr (0, nx1))) (bx1 : nx1 ≤ 100000) (kx3 : am_kd an_K x3 = some (.inr (0, nx3))) (bx3 : nx3 ≤ 100000) (kx6 : am_kd an_K x6 = some (.inr (3, nx6))) (bx6 : nx6 ≤ 100000) (m : Mi) (J : Mj) (P : Mp) (hp : PP P) (post : Mi → Mj → Mp → Prop)
    (hw : Rn X d 197 6 [some (.ref 262), some (.ref x1), some (.int (iz x2)), some (.ref x3), some (.int (iz x4)), some (.int (iz x5)), some (.ref x6), some (.int (iz x2)), some (.int (iz 0))] [] (SS m J P) (QV post)) : Rn X d 197 0 [some (.ref 262), some (.ref x1), some (.int (iz x2)), some (.ref x3), some (.int (iz x4)), some (.int (iz x5)), some (.ref x6), none, none] [] (SS m J P) (QV post) := by
  refine s_iload_n (pc := 0) rfl rfl ?_
  refine s_istore (pc := 1) (L' := [some (.ref 262), some (.ref x1), some (.int (iz x2)), some (.ref x3), some (.int (iz x4)), some (.int (iz x5)), some (.ref x6), some (.int (iz x2)), none]) rfl (Nat.le_of_ble_eq_true rfl) rfl ?_
  refine s_iconst (pc := 3) rfl ?_
  refine s_istore (pc := 4) (L' := [some (.ref 262), some (.ref x1), some (.int (iz x2)), some (.ref x3), some (.int (iz x4)), some (.int (iz x5)), some (.ref x6), some (.int (iz x2)), some (.int (iz 0))]) rfl (Nat.le_of_ble_eq_true rfl) rfl ?_
  exact hw

set_option maxRecDepth 20000 in
set_option maxHeartbeats 4000000 in
theorem b_Mdl_namesOf_6 {X : aX} {d : Nat} (x1 nx1 : Nat) (x2 : Int) (x3 nx3 : Nat) (x4 : Int) (x5 : Int) (x6 nx6 : Nat) (x7 : Int) (x8 : Int) (kx1 : am_kd an_K x1 = some (.inr (0, nx1))) (bx1 : nx1 ≤ 100000) (kx3 : am_kd an_K x3 = some (.inr (0, nx3))) (bx3 : nx3 ≤ 100000) (kx6 : am_kd an_K x6 = some (.inr (3, nx6))) (bx6 : nx6 ≤ 100000) (m : Mi) (J : Mj) (P : Mp) (hp : PP P) (post : Mi → Mj → Mp → Prop)
    (hw : Zr (x8) ∧ Zr (x5) ∧ (((x5 ≤ x8) → post m J P) ∧ (¬ (x5 ≤ x8) → ((0 : Int) ≤ (x4 + x8) ∧ ((x4 + x8) : Int) < nx3) ∧ Zr (m x3 (x4 + x8).toNat) ∧ (((¬ (m x3 (x4 + x8).toNat) = 1) → ((0 : Int) ≤ (x4 + x8) ∧ ((x4 + x8) : Int) < nx3) ∧ Rn X d 197 6 [some (.ref 262), some (.ref x1), some (.int (iz x2)), some (.ref x3), some (.int (iz x4)), some (.int (iz x5)), some (.ref x6), some (.int (iz (x7 + (m x3 (x4 + x8).toNat)))), some (.int (iz (x8 + 1)))] [] (SS m J P) (QV post)) ∧ (¬ (¬ (m x3 (x4 + x8).toNat) = 1) → ((0 : Int) ≤ x7 ∧ (x7 : Int) < nx1) ∧ Zr (m x1 x7.toNat) ∧ (((0 ≤ (m x1 x7.toNat)) → ((0 : Int) ≤ (x4 + x8) ∧ ((x4 + x8) : Int) < nx3) ∧ Rn X d 197 6 [some (.ref 262), some (.ref x1), some (.int (iz x2)), some (.ref x3), some (.int (iz x4)), some (.int (iz x5)), some (.ref x6), some (.int (iz (x7 + (m x3 (x4 + x8).toNat)))), some (.int (iz (x8 + 1)))] [] (SS m J P) (QV post)) ∧ (¬ (0 ≤ (m x1 x7.toNat)) → ((0 : Int) ≤ x7 ∧ (x7 : Int) < nx1) ∧ ((0 : Int) ≤ (((-1)) - (m x1 x7.toNat)) ∧ ((((-1)) - (m x1 x7.toNat)) : Int) < 800) ∧ Zr (zcmp (J 348 (((-1)) - (m x1 x7.toNat)).toNat) (Int64.ofNat 0)) ∧ (((¬ (zcmp (J 348 (((-1)) - (m x1 x7.toNat)).toNat) (Int64.ofNat 0)) = 0) → ((0 : Int) ≤ (x4 + x8) ∧ ((x4 + x8) : Int) < nx3) ∧ Rn X d 197 6 [some (.ref 262), some (.ref x1), some (.int (iz x2)), some (.ref x3), some (.int (iz x4)), some (.int (iz x5)), some (.ref x6), some (.int (iz (x7 + (m x3 (x4 + x8).toNat)))), some (.int (iz (x8 + 1)))] [] (SS m J P) (QV post)) ∧ (¬ (¬ (zcmp (J 348 (((-1)) - (m x1 x7.toNat)).toNat) (Int64.ofNat 0)) = 0) → ((0 : Int) ≤ x7 ∧ (x7 : Int) < nx1) ∧ ((0 : Int) ≤ x8 ∧ (x8 : Int) < nx6) ∧ ((0 : Int) ≤ (((-1)) - (m x1 x7.toNat)) ∧ ((((-1)) - (m x1 x7.toNat)) : Int) < 800) ∧ ((0 : Int) ≤ (x4 + x8) ∧ ((x4 + x8) : Int) < nx3) ∧ Rn X d 197 6 [some (.ref 262), some (.ref x1), some (.int (iz x2)), some (.ref x3), some (.int (iz x4)), some (.int (iz x5)), some (.ref x6), some (.int (iz (x7 + (m x3 (x4 + x8).toNat)))), some (.int (iz (x8 + 1)))] [] (SS m (mju J 348 (((-1)) - (m x1 x7.toNat)).toNat (J x6 x8.toNat)) P) (QV post)))))))))) : Rn X d 197 6 [some (.ref 262), some (.ref x1), some (.int (iz x2)), some (.ref x3), some (.int (iz x4)), some (.int (iz x5)), some (.ref x6), some (.int (iz x7)), some (.int (iz x8))] [] (SS m J P) (QV post) := by
  refine s_iload (pc := 6) rfl rfl ?_
  refine s_iload (pc := 8) rfl rfl ?_
  obtain ⟨hz1, hw⟩ := hw
  obtain ⟨hz2, hw⟩ := hw
  refine s_ic_ge (pc := 10) (tgt := 81) rfl rfl hz1 hz2 (fun hc => ?_) (fun hc => ?_)
  · replace hw := hw.1 hc
    exact s_retv (pc := 81) rfl rfl hw
  · replace hw := hw.2 hc
    refine s_aload_n (pc := 13) rfl rfl ?_
    refine s_iload (pc := 14) rfl rfl ?_
    refine s_iload (pc := 16) rfl rfl ?_
    refine s_iadd (pc := 18) rfl ?_
    obtain ⟨hb3, hw⟩ := hw
    refine s_iald (pc := 19) rfl kx3 bx3 hb3 ?_
    refine s_iconst (pc := 20) rfl ?_
    obtain ⟨hz4, hw⟩ := hw
    refine s_ic_ne (pc := 21) (tgt := 63) rfl rfl hz4 (by decide) (fun hc => ?_) (fun hc => ?_)
    · replace hw := hw.1 hc
      refine s_iload (pc := 63) rfl rfl ?_
      refine s_aload_n (pc := 65) rfl rfl ?_
      refine s_iload (pc := 66) rfl rfl ?_
      refine s_iload (pc := 68) rfl rfl ?_
      refine s_iadd (pc := 70) rfl ?_
      obtain ⟨hb5, hw⟩ := hw
      refine s_iald (pc := 71) rfl kx3 bx3 hb5 ?_
      refine s_iadd (pc := 72) rfl ?_
      refine s_istore (pc := 73) (L' := [some (.ref 262), some (.ref x1), some (.int (iz x2)), some (.ref x3), some (.int (iz x4)), some (.int (iz x5)), some (.ref x6), some (.int (iz (x7 + (m x3 (x4 + x8).toNat)))), some (.int (iz x8))]) rfl (Nat.le_of_ble_eq_true rfl) rfl ?_
      refine s_iinc (pc := 75) (L' := [some (.ref 262), some (.ref x1), some (.int (iz x2)), some (.ref x3), some (.int (iz x4)), some (.int (iz x5)), some (.ref x6), some (.int (iz (x7 + (m x3 (x4 + x8).toNat)))), some (.int (iz (x8 + 1)))]) rfl rfl (Nat.le_of_ble_eq_true rfl) rfl ?_
      refine s_goto (pc := 78) (tgt := 6) rfl rfl ?_
      exact hw
    · replace hw := hw.2 hc
      refine s_aload_n (pc := 24) rfl rfl ?_
      refine s_iload (pc := 25) rfl rfl ?_
      obtain ⟨hb6, hw⟩ := hw
      refine s_iald (pc := 27) rfl kx1 bx1 hb6 ?_
      obtain ⟨hz7, hw⟩ := hw
      refine s_if_ge (pc := 28) (tgt := 63) rfl rfl hz7 (fun hc => ?_) (fun hc => ?_)
      · replace hw := hw.1 hc
        refine s_iload (pc := 63) rfl rfl ?_
        refine s_aload_n (pc := 65) rfl rfl ?_
        refine s_iload (pc := 66) rfl rfl ?_
        refine s_iload (pc := 68) rfl rfl ?_
        refine s_iadd (pc := 70) rfl ?_
        obtain ⟨hb8, hw⟩ := hw
        refine s_iald (pc := 71) rfl kx3 bx3 hb8 ?_
        refine s_iadd (pc := 72) rfl ?_
        refine s_istore (pc := 73) (L' := [some (.ref 262), some (.ref x1), some (.int (iz x2)), some (.ref x3), some (.int (iz x4)), some (.int (iz x5)), some (.ref x6), some (.int (iz (x7 + (m x3 (x4 + x8).toNat)))), some (.int (iz x8))]) rfl (Nat.le_of_ble_eq_true rfl) rfl ?_
        refine s_iinc (pc := 75) (L' := [some (.ref 262), some (.ref x1), some (.int (iz x2)), some (.ref x3), some (.int (iz x4)), some (.int (iz x5)), some (.ref x6), some (.int (iz (x7 + (m x3 (x4 + x8).toNat)))), some (.int (iz (x8 + 1)))]) rfl rfl (Nat.le_of_ble_eq_true rfl) rfl ?_
        refine s_goto (pc := 78) (tgt := 6) rfl rfl ?_
        exact hw
      · replace hw := hw.2 hc
        refine s_aload_n (pc := 31) rfl rfl ?_
        refine s_getA (pc := 32) rfl ko_262 (po_262_137 hp) ?_
        refine s_iconst (pc := 35) rfl ?_
        refine s_aload_n (pc := 36) rfl rfl ?_
        refine s_iload (pc := 37) rfl rfl ?_
        obtain ⟨hb9, hw⟩ := hw
        refine s_iald (pc := 39) rfl kx1 bx1 hb9 ?_
        refine s_isub (pc := 40) rfl ?_
        obtain ⟨hb10, hw⟩ := hw
        refine s_lald (pc := 41) rfl ka_348 (by decide) hb10 ?_
        refine s_lconst (pc := 42) rfl ?_
        refine s_lcmp (pc := 43) rfl ?_
        obtain ⟨hz11, hw⟩ := hw
        refine s_if_ne (pc := 44) (tgt := 63) rfl rfl hz11 (fun hc => ?_) (fun hc => ?_)
        · replace hw := hw.1 hc
          refine s_iload (pc := 63) rfl rfl ?_
          refine s_aload_n (pc := 65) rfl rfl ?_
          refine s_iload (pc := 66) rfl rfl ?_
          refine s_iload (pc := 68) rfl rfl ?_
          refine s_iadd (pc := 70) rfl ?_
          obtain ⟨hb12, hw⟩ := hw
          refine s_iald (pc := 71) rfl kx3 bx3 hb12 ?_
          refine s_iadd (pc := 72) rfl ?_
          refine s_istore (pc := 73) (L' := [some (.ref 262), some (.ref x1), some (.int (iz x2)), some (.ref x3), some (.int (iz x4)), some (.int (iz x5)), some (.ref x6), some (.int (iz (x7 + (m x3 (x4 + x8).toNat)))), some (.int (iz x8))]) rfl (Nat.le_of_ble_eq_true rfl) rfl ?_
          refine s_iinc (pc := 75) (L' := [some (.ref 262), some (.ref x1), some (.int (iz x2)), some (.ref x3), some (.int (iz x4)), some (.int (iz x5)), some (.ref x6), some (.int (iz (x7 + (m x3 (x4 + x8).toNat)))), some (.int (iz (x8 + 1)))]) rfl rfl (Nat.le_of_ble_eq_true rfl) rfl ?_
          refine s_goto (pc := 78) (tgt := 6) rfl rfl ?_
          exact hw
        · replace hw := hw.2 hc
          refine s_aload_n (pc := 47) rfl rfl ?_
          refine s_getA (pc := 48) rfl ko_262 (po_262_137 hp) ?_
          refine s_iconst (pc := 51) rfl ?_
          refine s_aload_n (pc := 52) rfl rfl ?_
          refine s_iload (pc := 53) rfl rfl ?_
          obtain ⟨hb13, hw⟩ := hw
          refine s_iald (pc := 55) rfl kx1 bx1 hb13 ?_
          refine s_isub (pc := 56) rfl ?_
          refine s_aload (pc := 57) rfl rfl ?_
          refine s_iload (pc := 59) rfl rfl ?_
          obtain ⟨hb14, hw⟩ := hw
          refine s_lald (pc := 61) rfl kx6 bx6 hb14 ?_
          obtain ⟨hb15, hw⟩ := hw
          refine s_last (pc := 62) rfl ka_348 (by decide) hb15 ?_
          refine s_iload (pc := 63) rfl rfl ?_
          refine s_aload_n (pc := 65) rfl rfl ?_
          refine s_iload (pc := 66) rfl rfl ?_
          refine s_iload (pc := 68) rfl rfl ?_
          refine s_iadd (pc := 70) rfl ?_
          obtain ⟨hb16, hw⟩ := hw
          refine s_iald (pc := 71) rfl kx3 bx3 hb16 ?_
          refine s_iadd (pc := 72) rfl ?_
          refine s_istore (pc := 73) (L' := [some (.ref 262), some (.ref x1), some (.int (iz x2)), some (.ref x3), some (.int (iz x4)), some (.int (iz x5)), some (.ref x6), some (.int (iz (x7 + (m x3 (x4 + x8).toNat)))), some (.int (iz x8))]) rfl (Nat.le_of_ble_eq_true rfl) rfl ?_
          refine s_iinc (pc := 75) (L' := [some (.ref 262), some (.ref x1), some (.int (iz x2)), some (.ref x3), some (.int (iz x4)), some (.int (iz x5)), some (.ref x6), some (.int (iz (x7 + (m x3 (x4 + x8).toNat)))), some (.int (iz (x8 + 1)))]) rfl rfl (Nat.le_of_ble_eq_true rfl) rfl ?_
          refine s_goto (pc := 78) (tgt := 6) rfl rfl ?_
          exact hw

set_option maxRecDepth 20000 in
set_option maxHeartbeats 4000000 in
theorem b_Mdl_goal_0 {X : aX} {d : Nat} (x1 : Int) (x2 : Int)  (m : Mi) (J : Mj) (P : Mp) (hp : PP P) (post : Int → Mi → Mj → Mp → Prop)
    (hw : Zr (m 262 33) ∧ ((((m 262 33) = 0) → post ((-1)) m J P) ∧ (¬ ((m 262 33) = 0) → Zr (x1) ∧ (((x1 < 0) → post ((-1)) m J P) ∧ (¬ (x1 < 0) → Zr (x1) ∧ Zr (m 262 1) ∧ (((x1 ≤ (m 262 1)) → Ci X (d + 4) 185 [.ref 262, .int (iz x1), .int (iz 1)] m J P (fun z8 m5 J6 P7 => PP P7 ∧ Zr (z8) ∧ (((¬ z8 = 0) → (x2 = 0 ∨ x2 = 1) ∧ Rn X (d + 5) 198 95 [some (.ref 262), some (.int (iz x1)), some (.int (iz x2)), some (.int (iz 0))] [] (SS (mu (mu (mu (mu (mu (mu (mu (mu (mu (mu (mu m5 262 93 1) 262 94 x2) 262 95 0) 262 96 0) 262 97 0) 262 98 0) 262 99 0) 262 100 0) 262 102 0) 262 101 ((mu (mu (mu (mu (mu (mu (mu (mu (mu m5 262 93 1) 262 94 x2) 262 95 0) 262 96 0) 262 97 0) 262 98 0) 262 99 0) 262 100 0) 262 102 0) 262 17)) 262 122 0) J6 P7) (QI post)) ∧ (¬ (¬ z8 = 0) → post (m5 262 10) m5 J6 P7)))) ∧ (¬ (x1 ≤ (m 262 1)) → post ((-1)) m J P))))))) : Rn X (d + 5) 198 0 [some (.ref 262), some (.int (iz x1)), some (.int (iz x2)), none] [] (SS m J P) (QI post) := by
  refine s_aload_n (pc := 0) rfl rfl ?_
  refine s_getZ (pc := 1) rfl ko_262 ?_
  obtain ⟨hz1, hw⟩ := hw
  refine s_if_eq (pc := 4) (tgt := 19) rfl rfl hz1 (fun hc => ?_) (fun hc => ?_)
  · replace hw := hw.1 hc
    refine s_iconst (pc := 19) rfl ?_
    exact s_reti (pc := 20) rfl rfl hw
  · replace hw := hw.2 hc
    refine s_iload_n (pc := 7) rfl rfl ?_
    obtain ⟨hz2, hw⟩ := hw
    refine s_if_lt (pc := 8) (tgt := 19) rfl rfl hz2 (fun hc => ?_) (fun hc => ?_)
    · replace hw := hw.1 hc
      refine s_iconst (pc := 19) rfl ?_
      exact s_reti (pc := 20) rfl rfl hw
    · replace hw := hw.2 hc
      refine s_iload_n (pc := 11) rfl rfl ?_
      refine s_aload_n (pc := 12) rfl rfl ?_
      refine s_getI (pc := 13) rfl ko_262 ?_
      obtain ⟨hz3, hw⟩ := hw
      obtain ⟨hz4, hw⟩ := hw
      refine s_ic_le (pc := 16) (tgt := 21) rfl rfl hz3 hz4 (fun hc => ?_) (fun hc => ?_)
      · replace hw := hw.1 hc
        refine s_aload_n (pc := 21) rfl rfl ?_
        refine s_iload_n (pc := 22) rfl rfl ?_
        refine s_iconst (pc := 23) rfl ?_
        refine s_ci (pc := 24) (d := (d + 4)) (t := []) rfl rfl (am_ca_v (ps := [.int (iz 1), .int (iz x1)]) rfl ko_262) (Nat.le_of_ble_eq_true rfl) (Ci.weak hw fun z8 m5 J6 P7 hw => ?_)
        obtain ⟨hp9, hw⟩ := hw
        obtain ⟨hz10, hw⟩ := hw
        refine s_if_ne (pc := 27) (tgt := 35) rfl rfl hz10 (fun hc => ?_) (fun hc => ?_)
        · replace hw := hw.1 hc
          refine s_aload_n (pc := 35) rfl rfl ?_
          refine s_iconst (pc := 36) rfl ?_
          refine s_putZ (pc := 37) rfl ko_262 (by decide) ?_
          refine s_aload_n (pc := 40) rfl rfl ?_
          refine s_iload_n (pc := 41) rfl rfl ?_
          obtain ⟨hv11, hw⟩ := hw
          refine s_putZ (pc := 42) rfl ko_262 hv11 ?_
          refine s_aload_n (pc := 45) rfl rfl ?_
          refine s_iconst (pc := 46) rfl ?_
          refine s_putZ (pc := 47) rfl ko_262 (by decide) ?_
          refine s_aload_n (pc := 50) rfl rfl ?_
          refine s_iconst (pc := 51) rfl ?_
          refine s_putI (pc := 52) rfl ko_262 ?_
          refine s_aload_n (pc := 55) rfl rfl ?_
          refine s_iconst (pc := 56) rfl ?_
          refine s_putI (pc := 57) rfl ko_262 ?_
          refine s_aload_n (pc := 60) rfl rfl ?_
          refine s_iconst (pc := 61) rfl ?_
          refine s_putI (pc := 62) rfl ko_262 ?_
          refine s_aload_n (pc := 65) rfl rfl ?_
          refine s_iconst (pc := 66) rfl ?_
          refine s_putI (pc := 67) rfl ko_262 ?_
          refine s_aload_n (pc := 70) rfl rfl ?_
          refine s_iconst (pc := 71) rfl ?_
          refine s_putI (pc := 72) rfl ko_262 ?_
          refine s_aload_n (pc := 75) rfl rfl ?_
          refine s_iconst (pc := 76) rfl ?_
          refine s_putI (pc := 77) rfl ko_262 ?_
          refine s_aload_n (pc := 80) rfl rfl ?_
          refine s_aload_n (pc := 81) rfl rfl ?_
          refine s_getI (pc := 82) rfl ko_262 ?_
          refine s_putI (pc := 85) rfl ko_262 ?_
          refine s_aload_n (pc := 88) rfl rfl ?_
          refine s_iconst (pc := 89) rfl ?_
          refine s_putI (pc := 90) rfl ko_262 ?_
          refine s_iconst (pc := 93) rfl ?_
          refine s_istore_n (pc := 94) (L' := [some (.ref 262), some (.int (iz x1)), some (.int (iz x2)), some (.int (iz 0))]) rfl (Nat.le_of_ble_eq_true rfl) rfl ?_
          exact hw
        · replace hw := hw.2 hc
          refine s_aload_n (pc := 30) rfl rfl ?_
          refine s_getI (pc := 31) rfl ko_262 ?_
          exact s_reti (pc := 34) rfl rfl hw
      · replace hw := hw.2 hc
        refine s_iconst (pc := 19) rfl ?_
        exact s_reti (pc := 20) rfl rfl hw

set_option maxRecDepth 20000 in
set_option maxHeartbeats 4000000 in
theorem b_Mdl_goal_95 {X : aX} {d : Nat} (x1 : Int) (x2 : Int) (x3 : Int)  (m : Mi) (J : Mj) (P : Mp) (hp : PP P) (post : Int → Mi → Mj → Mp → Prop)
    (hw : Zr (x3) ∧ Zr (m 262 129) ∧ ((((m 262 129) ≤ x3) → Rn X (d + 5) 198 154 [some (.ref 262), some (.int (iz x1)), some (.int (iz x2)), some (.int (iz 0))] [] (SS m J P) (QI post)) ∧ (¬ ((m 262 129) ≤ x3) → ((0 : Int) ≤ x3 ∧ (x3 : Int) < 40) ∧ Zr ((mu m 262 122 ((m 262 122) + 1)) 341 x3.toNat) ∧ (((0 ≤ ((mu m 262 122 ((m 262 122) + 1)) 341 x3.toNat)) → ((0 : Int) ≤ x3 ∧ (x3 : Int) < 40) ∧ ((0 : Int) ≤ (m 262 122) ∧ ((m 262 122) : Int) < 800) ∧ Rn X (d + 5) 198 95 [some (.ref 262), some (.int (iz x1)), some (.int (iz x2)), some (.int (iz (x3 + 1)))] [] (SS (mu (mu m 262 122 ((m 262 122) + 1)) 337 (m 262 122).toNat (((mu m 262 122 ((m 262 122) + 1)) 341 x3.toNat) + 64)) J P) (QI post)) ∧ (¬ (0 ≤ ((mu m 262 122 ((m 262 122) + 1)) 341 x3.toNat)) → ((0 : Int) ≤ x3 ∧ (x3 : Int) < 40) ∧ ((0 : Int) ≤ (m 262 122) ∧ ((m 262 122) : Int) < 800) ∧ Rn X (d + 5) 198 95 [some (.ref 262), some (.int (iz x1)), some (.int (iz x2)), some (.int (iz (x3 + 1)))] [] (SS (mu (mu m 262 122 ((m 262 122) + 1)) 337 (m 262 122).toNat ((mu m 262 122 ((m 262 122) + 1)) 341 x3.toNat)) J P) (QI post)))))) : Rn X (d + 5) 198 95 [some (.ref 262), some (.int (iz x1)), some (.int (iz x2)), some (.int (iz x3))] [] (SS m J P) (QI post) := by
  refine s_iload_n (pc := 95) rfl rfl ?_
  refine s_aload_n (pc := 96) rfl rfl ?_
  refine s_getI (pc := 97) rfl ko_262 ?_
  obtain ⟨hz1, hw⟩ := hw
  obtain ⟨hz2, hw⟩ := hw
  refine s_ic_ge (pc := 100) (tgt := 152) rfl rfl hz1 hz2 (fun hc => ?_) (fun hc => ?_)
  · replace hw := hw.1 hc
    refine s_iconst (pc := 152) rfl ?_
    refine s_istore_n (pc := 153) (L' := [some (.ref 262), some (.int (iz x1)), some (.int (iz x2)), some (.int (iz 0))]) rfl (Nat.le_of_ble_eq_true rfl) rfl ?_
    exact hw
  · replace hw := hw.2 hc
    refine s_aload_n (pc := 103) rfl rfl ?_
    refine s_getA (pc := 104) rfl ko_262 (po_262_118 hp) ?_
    refine s_aload_n (pc := 107) rfl rfl ?_
    refine s_dup (pc := 108) rfl rfl ?_
    refine s_getI (pc := 109) rfl ko_262 ?_
    refine s_dup_x1 (pc := 112) rfl ⟨rfl, rfl⟩ ?_
    refine s_iconst (pc := 113) rfl ?_
    refine s_iadd (pc := 114) rfl ?_
    refine s_putI (pc := 115) rfl ko_262 ?_
    refine s_aload_n (pc := 118) rfl rfl ?_
    refine s_getA (pc := 119) rfl ko_262 (po_262_127 hp) ?_
    refine s_iload_n (pc := 122) rfl rfl ?_
    obtain ⟨hb3, hw⟩ := hw
    refine s_iald (pc := 123) rfl ka_341 (by decide) hb3 ?_
    obtain ⟨hz4, hw⟩ := hw
    refine s_if_ge (pc := 124) (tgt := 136) rfl rfl hz4 (fun hc => ?_) (fun hc => ?_)
    · replace hw := hw.1 hc
      refine s_aload_n (pc := 136) rfl rfl ?_
      refine s_getA (pc := 137) rfl ko_262 (po_262_127 hp) ?_
      refine s_iload_n (pc := 140) rfl rfl ?_
      obtain ⟨hb5, hw⟩ := hw
      refine s_iald (pc := 141) rfl ka_341 (by decide) hb5 ?_
      refine s_bipush (pc := 142) rfl (by decide) ?_
      refine s_iadd (pc := 144) rfl ?_
      obtain ⟨hb6, hw⟩ := hw
      refine s_iast (pc := 145) rfl ka_337 (by decide) hb6 ?_
      refine s_iinc (pc := 146) (L' := [some (.ref 262), some (.int (iz x1)), some (.int (iz x2)), some (.int (iz (x3 + 1)))]) rfl rfl (Nat.le_of_ble_eq_true rfl) rfl ?_
      refine s_goto (pc := 149) (tgt := 95) rfl rfl ?_
      exact hw
    · replace hw := hw.2 hc
      refine s_aload_n (pc := 127) rfl rfl ?_
      refine s_getA (pc := 128) rfl ko_262 (po_262_127 hp) ?_
      refine s_iload_n (pc := 131) rfl rfl ?_
      obtain ⟨hb7, hw⟩ := hw
      refine s_iald (pc := 132) rfl ka_341 (by decide) hb7 ?_
      refine s_goto (pc := 133) (tgt := 145) rfl rfl ?_
      obtain ⟨hb8, hw⟩ := hw
      refine s_iast (pc := 145) rfl ka_337 (by decide) hb8 ?_
      refine s_iinc (pc := 146) (L' := [some (.ref 262), some (.int (iz x1)), some (.int (iz x2)), some (.int (iz (x3 + 1)))]) rfl rfl (Nat.le_of_ble_eq_true rfl) rfl ?_
      refine s_goto (pc := 149) (tgt := 95) rfl rfl ?_
      exact hw

set_option maxRecDepth 20000 in
set_option maxHeartbeats 4000000 in
theorem b_Mdl_goal_154 {X : aX} {d : Nat} (x1 : Int) (x2 : Int) (x3 : Int)  (m : Mi) (J : Mj) (P : Mp) (hp : PP P) (post : Int → Mi → Mj → Mp → Prop)
    (hw : Zr (x3) ∧ Zr (m 262 130) ∧ ((((m 262 130) ≤ x3) → Rn X (d + 5) 198 213 [some (.ref 262), some (.int (iz x1)), some (.int (iz x2)), some (.int (iz 0))] [] (SS m J P) (QI post)) ∧ (¬ ((m 262 130) ≤ x3) → ((0 : Int) ≤ x3 ∧ (x3 : Int) < 40) ∧ Zr ((mu m 262 122 ((m 262 122) + 1)) 342 x3.toNat) ∧ (((0 ≤ ((mu m 262 122 ((m 262 122) + 1)) 342 x3.toNat)) → ((0 : Int) ≤ x3 ∧ (x3 : Int) < 40) ∧ ((0 : Int) ≤ (m 262 122) ∧ ((m 262 122) : Int) < 800) ∧ Rn X (d + 5) 198 154 [some (.ref 262), some (.int (iz x1)), some (.int (iz x2)), some (.int (iz (x3 + 1)))] [] (SS (mu (mu m 262 122 ((m 262 122) + 1)) 337 (m 262 122).toNat (((mu m 262 122 ((m 262 122) + 1)) 342 x3.toNat) + 64)) J P) (QI post)) ∧ (¬ (0 ≤ ((mu m 262 122 ((m 262 122) + 1)) 342 x3.toNat)) → ((0 : Int) ≤ x3 ∧ (x3 : Int) < 40) ∧ ((0 : Int) ≤ (m 262 122) ∧ ((m 262 122) : Int) < 800) ∧ Rn X (d + 5) 198 154 [some (.ref 262), some (.int (iz x1)), some (.int (iz x2)), some (.int (iz (x3 + 1)))] [] (SS (mu (mu m 262 122 ((m 262 122) + 1)) 337 (m 262 122).toNat ((mu m 262 122 ((m 262 122) + 1)) 342 x3.toNat)) J P) (QI post)))))) : Rn X (d + 5) 198 154 [some (.ref 262), some (.int (iz x1)), some (.int (iz x2)), some (.int (iz x3))] [] (SS m J P) (QI post) := by
  refine s_iload_n (pc := 154) rfl rfl ?_
  refine s_aload_n (pc := 155) rfl rfl ?_
  refine s_getI (pc := 156) rfl ko_262 ?_
  obtain ⟨hz1, hw⟩ := hw
  obtain ⟨hz2, hw⟩ := hw
  refine s_ic_ge (pc := 159) (tgt := 211) rfl rfl hz1 hz2 (fun hc => ?_) (fun hc => ?_)
  · replace hw := hw.1 hc
    refine s_iconst (pc := 211) rfl ?_
    refine s_istore_n (pc := 212) (L' := [some (.ref 262), some (.int (iz x1)), some (.int (iz x2)), some (.int (iz 0))]) rfl (Nat.le_of_ble_eq_true rfl) rfl ?_
    exact hw
  · replace hw := hw.2 hc
    refine s_aload_n (pc := 162) rfl rfl ?_
    refine s_getA (pc := 163) rfl ko_262 (po_262_118 hp) ?_
    refine s_aload_n (pc := 166) rfl rfl ?_
    refine s_dup (pc := 167) rfl rfl ?_
    refine s_getI (pc := 168) rfl ko_262 ?_
    refine s_dup_x1 (pc := 171) rfl ⟨rfl, rfl⟩ ?_
    refine s_iconst (pc := 172) rfl ?_
    refine s_iadd (pc := 173) rfl ?_
    refine s_putI (pc := 174) rfl ko_262 ?_
    refine s_aload_n (pc := 177) rfl rfl ?_
    refine s_getA (pc := 178) rfl ko_262 (po_262_128 hp) ?_
    refine s_iload_n (pc := 181) rfl rfl ?_
    obtain ⟨hb3, hw⟩ := hw
    refine s_iald (pc := 182) rfl ka_342 (by decide) hb3 ?_
    obtain ⟨hz4, hw⟩ := hw
    refine s_if_ge (pc := 183) (tgt := 195) rfl rfl hz4 (fun hc => ?_) (fun hc => ?_)
    · replace hw := hw.1 hc
      refine s_aload_n (pc := 195) rfl rfl ?_
      refine s_getA (pc := 196) rfl ko_262 (po_262_128 hp) ?_
      refine s_iload_n (pc := 199) rfl rfl ?_
      obtain ⟨hb5, hw⟩ := hw
      refine s_iald (pc := 200) rfl ka_342 (by decide) hb5 ?_
      refine s_bipush (pc := 201) rfl (by decide) ?_
      refine s_iadd (pc := 203) rfl ?_
      obtain ⟨hb6, hw⟩ := hw
      refine s_iast (pc := 204) rfl ka_337 (by decide) hb6 ?_
      refine s_iinc (pc := 205) (L' := [some (.ref 262), some (.int (iz x1)), some (.int (iz x2)), some (.int (iz (x3 + 1)))]) rfl rfl (Nat.le_of_ble_eq_true rfl) rfl ?_
      refine s_goto (pc := 208) (tgt := 154) rfl rfl ?_
      exact hw
    · replace hw := hw.2 hc
      refine s_aload_n (pc := 186) rfl rfl ?_
      refine s_getA (pc := 187) rfl ko_262 (po_262_128 hp) ?_
      refine s_iload_n (pc := 190) rfl rfl ?_
      obtain ⟨hb7, hw⟩ := hw
      refine s_iald (pc := 191) rfl ka_342 (by decide) hb7 ?_
      refine s_goto (pc := 192) (tgt := 204) rfl rfl ?_
      obtain ⟨hb8, hw⟩ := hw
      refine s_iast (pc := 204) rfl ka_337 (by decide) hb8 ?_
      refine s_iinc (pc := 205) (L' := [some (.ref 262), some (.int (iz x1)), some (.int (iz x2)), some (.int (iz (x3 + 1)))]) rfl rfl (Nat.le_of_ble_eq_true rfl) rfl ?_
      refine s_goto (pc := 208) (tgt := 154) rfl rfl ?_
      exact hw

set_option maxRecDepth 20000 in
set_option maxHeartbeats 4000000 in
theorem b_Mdl_goal_213 {X : aX} {d : Nat} (x1 : Int) (x2 : Int) (x3 : Int)  (m : Mi) (J : Mj) (P : Mp) (hp : PP P) (post : Int → Mi → Mj → Mp → Prop)
    (hw : Zr (x3) ∧ Zr (m 262 101) ∧ ((((m 262 101) ≤ x3) → Ci X (d + 4) 199 [.ref 262, .int (iz ((-1))), .int (iz ((-1))), .int (iz ((-1)))] (mu (mu m 262 120 (m 262 129)) 262 121 ((mu m 262 120 (m 262 129)) 262 130)) J P (fun z6 m3 J4 P5 => PP P5 ∧ post 0 m3 J4 P5)) ∧ (¬ ((m 262 101) ≤ x3) → ((0 : Int) ≤ x3 ∧ (x3 : Int) < 8) ∧ ((0 : Int) ≤ x3 ∧ (x3 : Int) < 6) ∧ ((0 : Int) ≤ x3 ∧ (x3 : Int) < 6) ∧ ((0 : Int) ≤ ((mu m 338 x3.toNat 1) 262 122) ∧ (((mu m 338 x3.toNat 1) 262 122) : Int) < 800) ∧ Rn X (d + 5) 198 213 [some (.ref 262), some (.int (iz x1)), some (.int (iz x2)), some (.int (iz (x3 + 1)))] [] (SS (mu (mu (mu m 338 x3.toNat 1) 262 122 (((mu m 338 x3.toNat 1) 262 122) + 1)) 337 ((mu m 338 x3.toNat 1) 262 122).toNat (((-1)) - x3)) (mju J 322 x3.toNat (J 266 x3.toNat)) P) (QI post)))) : Rn X (d + 5) 198 213 [some (.ref 262), some (.int (iz x1)), some (.int (iz x2)), some (.int (iz x3))] [] (SS m J P) (QI post) := by
  refine s_iload_n (pc := 213) rfl rfl ?_
  refine s_aload_n (pc := 214) rfl rfl ?_
  refine s_getI (pc := 215) rfl ko_262 ?_
  obtain ⟨hz1, hw⟩ := hw
  obtain ⟨hz2, hw⟩ := hw
  refine s_ic_ge (pc := 218) (tgt := 265) rfl rfl hz1 hz2 (fun hc => ?_) (fun hc => ?_)
  · replace hw := hw.1 hc
    refine s_aload_n (pc := 265) rfl rfl ?_
    refine s_aload_n (pc := 266) rfl rfl ?_
    refine s_getI (pc := 267) rfl ko_262 ?_
    refine s_putI (pc := 270) rfl ko_262 ?_
    refine s_aload_n (pc := 273) rfl rfl ?_
    refine s_aload_n (pc := 274) rfl rfl ?_
    refine s_getI (pc := 275) rfl ko_262 ?_
    refine s_putI (pc := 278) rfl ko_262 ?_
    refine s_aload_n (pc := 281) rfl rfl ?_
    refine s_iconst (pc := 282) rfl ?_
    refine s_iconst (pc := 283) rfl ?_
    refine s_iconst (pc := 284) rfl ?_
    refine s_ci (pc := 285) (d := (d + 4)) (t := []) rfl rfl (am_ca_v (ps := [.int (iz ((-1))), .int (iz ((-1))), .int (iz ((-1)))]) rfl ko_262) (Nat.le_of_ble_eq_true rfl) (Ci.weak hw fun z6 m3 J4 P5 hw => ?_)
    obtain ⟨hp7, hw⟩ := hw
    refine s_pop (pc := 288) rfl rfl ?_
    refine s_iconst (pc := 289) rfl ?_
    exact s_reti (pc := 290) rfl rfl hw
  · replace hw := hw.2 hc
    refine s_aload_n (pc := 221) rfl rfl ?_
    refine s_getA (pc := 222) rfl ko_262 (po_262_103 hp) ?_
    refine s_iload_n (pc := 225) rfl rfl ?_
    refine s_aload_n (pc := 226) rfl rfl ?_
    refine s_getA (pc := 227) rfl ko_262 (po_262_20 hp) ?_
    refine s_iload_n (pc := 230) rfl rfl ?_
    obtain ⟨hb8, hw⟩ := hw
    refine s_lald (pc := 231) rfl ka_266 (by decide) hb8 ?_
    obtain ⟨hb9, hw⟩ := hw
    refine s_last (pc := 232) rfl ka_322 (by decide) hb9 ?_
    refine s_aload_n (pc := 233) rfl rfl ?_
    refine s_getA (pc := 234) rfl ko_262 (po_262_119 hp) ?_
    refine s_iload_n (pc := 237) rfl rfl ?_
    refine s_iconst (pc := 238) rfl ?_
    obtain ⟨hb10, hw⟩ := hw
    refine s_iast (pc := 239) rfl ka_338 (by decide) hb10 ?_
    refine s_aload_n (pc := 240) rfl rfl ?_
    refine s_getA (pc := 241) rfl ko_262 (po_262_118 hp) ?_
    refine s_aload_n (pc := 244) rfl rfl ?_
    refine s_dup (pc := 245) rfl rfl ?_
    refine s_getI (pc := 246) rfl ko_262 ?_
    refine s_dup_x1 (pc := 249) rfl ⟨rfl, rfl⟩ ?_
    refine s_iconst (pc := 250) rfl ?_
    refine s_iadd (pc := 251) rfl ?_
    refine s_putI (pc := 252) rfl ko_262 ?_
    refine s_iconst (pc := 255) rfl ?_
    refine s_iload_n (pc := 256) rfl rfl ?_
    refine s_isub (pc := 257) rfl ?_
    obtain ⟨hb11, hw⟩ := hw
    refine s_iast (pc := 258) rfl ka_337 (by decide) hb11 ?_
    refine s_iinc (pc := 259) (L' := [some (.ref 262), some (.int (iz x1)), some (.int (iz x2)), some (.int (iz (x3 + 1)))]) rfl rfl (Nat.le_of_ble_eq_true rfl) rfl ?_
    refine s_goto (pc := 262) (tgt := 213) rfl rfl ?_
    exact hw

set_option maxRecDepth 20000 in
set_option maxHeartbeats 4000000 in
theorem b_Mdl_addsNode_0 {X : aX} {d : Nat} (x1 : Int) (x2 : Int) (x3 : Int)  (m : Mi) (J : Mj) (P : Mp) (hp : PP P) (post : Int → Mi → Mj → Mp → Prop)
    (hw : Zr (m 262 96) ∧ ((((m 262 96) = 1000) → post 0 (mu m 262 95 1) J P) ∧ (¬ ((m 262 96) = 1000) → Zr (((m 262 100) + 4) + (m 262 122)) ∧ ((((((m 262 100) + 4) + (m 262 122)) ≤ 30000) → ((0 : Int) ≤ (m 262 96) ∧ ((m 262 96) : Int) < 1000) ∧ ((0 : Int) ≤ (m 262 96) ∧ ((m 262 96) : Int) < 1000) ∧ ((0 : Int) ≤ (m 262 96) ∧ ((m 262 96) : Int) < 1000) ∧ ((0 : Int) ≤ (m 262 96) ∧ ((m 262 96) : Int) < 1000) ∧ Rn X (d + 4) 199 109 [some (.ref 262), some (.int (iz x1)), some (.int (iz x2)), some (.int (iz x3)), some (.int (iz (m 262 96))), some (.int (iz 0))] [] (SS (mu (mu (mu (mu (mu (mu m 262 96 ((m 262 96) + 1)) 262 100 (((mu m 262 96 ((m 262 96) + 1)) 262 100) + (4 + ((mu m 262 96 ((m 262 96) + 1)) 262 122)))) 324 (m 262 96).toNat ((mu (mu m 262 96 ((m 262 96) + 1)) 262 100 (((mu m 262 96 ((m 262 96) + 1)) 262 100) + (4 + ((mu m 262 96 ((m 262 96) + 1)) 262 122)))) 262 102)) 325 (m 262 96).toNat ((mu (mu (mu m 262 96 ((m 262 96) + 1)) 262 100 (((mu m 262 96 ((m 262 96) + 1)) 262 100) + (4 + ((mu m 262 96 ((m 262 96) + 1)) 262 122)))) 324 (m 262 96).toNat ((mu (mu m 262 96 ((m 262 96) + 1)) 262 100 (((mu m 262 96 ((m 262 96) + 1)) 262 100) + (4 + ((mu m 262 96 ((m 262 96) + 1)) 262 122)))) 262 102)) 262 120)) 326 (m 262 96).toNat ((mu (mu (mu (mu m 262 96 ((m 262 96) + 1)) 262 100 (((mu m 262 96 ((m 262 96) + 1)) 262 100) + (4 + ((mu m 262 96 ((m 262 96) + 1)) 262 122)))) 324 (m 262 96).toNat ((mu (mu m 262 96 ((m 262 96) + 1)) 262 100 (((mu m 262 96 ((m 262 96) + 1)) 262 100) + (4 + ((mu m 262 96 ((m 262 96) + 1)) 262 122)))) 262 102)) 325 (m 262 96).toNat ((mu (mu (mu m 262 96 ((m 262 96) + 1)) 262 100 (((mu m 262 96 ((m 262 96) + 1)) 262 100) + (4 + ((mu m 262 96 ((m 262 96) + 1)) 262 122)))) 324 (m 262 96).toNat ((mu (mu m 262 96 ((m 262 96) + 1)) 262 100 (((mu m 262 96 ((m 262 96) + 1)) 262 100) + (4 + ((mu m 262 96 ((m 262 96) + 1)) 262 122)))) 262 102)) 262 120)) 262 121)) 331 (m 262 96).toNat 0) J P) (QI post)) ∧ (¬ ((((m 262 100) + 4) + (m 262 122)) ≤ 30000) → post 0 (mu m 262 95 1) J P))))) : Rn X (d + 4) 199 0 [some (.ref 262), some (.int (iz x1)), some (.int (iz x2)), some (.int (iz x3)), none, none] [] (SS m J P) (QI post) := by
  refine s_aload_n (pc := 0) rfl rfl ?_
  refine s_getI (pc := 1) rfl ko_262 ?_
  refine s_sipush (pc := 4) rfl (by decide) ?_
  obtain ⟨hz1, hw⟩ := hw
  refine s_ic_eq (pc := 7) (tgt := 27) rfl rfl hz1 (by decide) (fun hc => ?_) (fun hc => ?_)
  · replace hw := hw.1 hc
    refine s_aload_n (pc := 27) rfl rfl ?_
    refine s_iconst (pc := 28) rfl ?_
    refine s_putZ (pc := 29) rfl ko_262 (by decide) ?_
    refine s_iconst (pc := 32) rfl ?_
    exact s_retz (pc := 33) rfl rfl (by decide) hw
  · replace hw := hw.2 hc
    refine s_aload_n (pc := 10) rfl rfl ?_
    refine s_getI (pc := 11) rfl ko_262 ?_
    refine s_iconst (pc := 14) rfl ?_
    refine s_iadd (pc := 15) rfl ?_
    refine s_aload_n (pc := 16) rfl rfl ?_
    refine s_getI (pc := 17) rfl ko_262 ?_
    refine s_iadd (pc := 20) rfl ?_
    refine s_sipush (pc := 21) rfl (by decide) ?_
    obtain ⟨hz2, hw⟩ := hw
    refine s_ic_le (pc := 24) (tgt := 34) rfl rfl hz2 (by decide) (fun hc => ?_) (fun hc => ?_)
    · replace hw := hw.1 hc
      refine s_aload_n (pc := 34) rfl rfl ?_
      refine s_getI (pc := 35) rfl ko_262 ?_
      refine s_istore (pc := 38) (L' := [some (.ref 262), some (.int (iz x1)), some (.int (iz x2)), some (.int (iz x3)), some (.int (iz (m 262 96))), none]) rfl (Nat.le_of_ble_eq_true rfl) rfl ?_
      refine s_aload_n (pc := 40) rfl rfl ?_
      refine s_dup (pc := 41) rfl rfl ?_
      refine s_getI (pc := 42) rfl ko_262 ?_
      refine s_iconst (pc := 45) rfl ?_
      refine s_iadd (pc := 46) rfl ?_
      refine s_putI (pc := 47) rfl ko_262 ?_
      refine s_aload_n (pc := 50) rfl rfl ?_
      refine s_dup (pc := 51) rfl rfl ?_
      refine s_getI (pc := 52) rfl ko_262 ?_
      refine s_iconst (pc := 55) rfl ?_
      refine s_aload_n (pc := 56) rfl rfl ?_
      refine s_getI (pc := 57) rfl ko_262 ?_
      refine s_iadd (pc := 60) rfl ?_
      refine s_iadd (pc := 61) rfl ?_
      refine s_putI (pc := 62) rfl ko_262 ?_
      refine s_aload_n (pc := 65) rfl rfl ?_
      refine s_getA (pc := 66) rfl ko_262 (po_262_105 hp) ?_
      refine s_iload (pc := 69) rfl rfl ?_
      refine s_aload_n (pc := 71) rfl rfl ?_
      refine s_getI (pc := 72) rfl ko_262 ?_
      obtain ⟨hb3, hw⟩ := hw
      refine s_iast (pc := 75) rfl ka_324 (by decide) hb3 ?_
      refine s_aload_n (pc := 76) rfl rfl ?_
      refine s_getA (pc := 77) rfl ko_262 (po_262_106 hp) ?_
      refine s_iload (pc := 80) rfl rfl ?_
      refine s_aload_n (pc := 82) rfl rfl ?_
      refine s_getI (pc := 83) rfl ko_262 ?_
      obtain ⟨hb4, hw⟩ := hw
      refine s_iast (pc := 86) rfl ka_325 (by decide) hb4 ?_
      refine s_aload_n (pc := 87) rfl rfl ?_
      refine s_getA (pc := 88) rfl ko_262 (po_262_107 hp) ?_
      refine s_iload (pc := 91) rfl rfl ?_
      refine s_aload_n (pc := 93) rfl rfl ?_
      refine s_getI (pc := 94) rfl ko_262 ?_
      obtain ⟨hb5, hw⟩ := hw
      refine s_iast (pc := 97) rfl ka_326 (by decide) hb5 ?_
      refine s_aload_n (pc := 98) rfl rfl ?_
      refine s_getA (pc := 99) rfl ko_262 (po_262_112 hp) ?_
      refine s_iload (pc := 102) rfl rfl ?_
      refine s_iconst (pc := 104) rfl ?_
      obtain ⟨hb6, hw⟩ := hw
      refine s_iast (pc := 105) rfl ka_331 (by decide) hb6 ?_
      refine s_iconst (pc := 106) rfl ?_
      refine s_istore (pc := 107) (L' := [some (.ref 262), some (.int (iz x1)), some (.int (iz x2)), some (.int (iz x3)), some (.int (iz (m 262 96))), some (.int (iz 0))]) rfl (Nat.le_of_ble_eq_true rfl) rfl ?_
      exact hw
    · replace hw := hw.2 hc
      refine s_aload_n (pc := 27) rfl rfl ?_
      refine s_iconst (pc := 28) rfl ?_
      refine s_putZ (pc := 29) rfl ko_262 (by decide) ?_
      refine s_iconst (pc := 32) rfl ?_
      exact s_retz (pc := 33) rfl rfl (by decide) hw

set_option maxRecDepth 20000 in
set_option maxHeartbeats 4000000 in
theorem b_Mdl_addsNode_109 {X : aX} {d : Nat} (x1 : Int) (x2 : Int) (x3 : Int) (x4 : Int) (x5 : Int)  (m : Mi) (J : Mj) (P : Mp) (hp : PP P) (post : Int → Mi → Mj → Mp → Prop)
    (hw : Zr (x5) ∧ Zr (m 262 101) ∧ ((((m 262 101) ≤ x5) → Rn X (d + 4) 199 147 [some (.ref 262), some (.int (iz x1)), some (.int (iz x2)), some (.int (iz x3)), some (.int (iz x4)), some (.int (iz 0))] [] (SS m J P) (QI post)) ∧ (¬ ((m 262 101) ≤ x5) → ((0 : Int) ≤ x5 ∧ (x5 : Int) < 6) ∧ ((0 : Int) ≤ ((6 * x4) + x5) ∧ (((6 * x4) + x5) : Int) < 6000) ∧ Rn X (d + 4) 199 109 [some (.ref 262), some (.int (iz x1)), some (.int (iz x2)), some (.int (iz x3)), some (.int (iz x4)), some (.int (iz (x5 + 1)))] [] (SS (mu m 333 ((6 * x4) + x5).toNat (m 338 x5.toNat)) J P) (QI post)))) : Rn X (d + 4) 199 109 [some (.ref 262), some (.int (iz x1)), some (.int (iz x2)), some (.int (iz x3)), some (.int (iz x4)), some (.int (iz x5))] [] (SS m J P) (QI post) := by
  refine s_iload (pc := 109) rfl rfl ?_
  refine s_aload_n (pc := 111) rfl rfl ?_
  refine s_getI (pc := 112) rfl ko_262 ?_
  obtain ⟨hz1, hw⟩ := hw
  obtain ⟨hz2, hw⟩ := hw
  refine s_ic_ge (pc := 115) (tgt := 144) rfl rfl hz1 hz2 (fun hc => ?_) (fun hc => ?_)
  · replace hw := hw.1 hc
    refine s_iconst (pc := 144) rfl ?_
    refine s_istore (pc := 145) (L' := [some (.ref 262), some (.int (iz x1)), some (.int (iz x2)), some (.int (iz x3)), some (.int (iz x4)), some (.int (iz 0))]) rfl (Nat.le_of_ble_eq_true rfl) rfl ?_
    exact hw
  · replace hw := hw.2 hc
    refine s_aload_n (pc := 118) rfl rfl ?_
    refine s_getA (pc := 119) rfl ko_262 (po_262_114 hp) ?_
    refine s_bipush (pc := 122) rfl (by decide) ?_
    refine s_iload (pc := 124) rfl rfl ?_
    refine s_imul (pc := 126) rfl ?_
    refine s_iload (pc := 127) rfl rfl ?_
    refine s_iadd (pc := 129) rfl ?_
    refine s_aload_n (pc := 130) rfl rfl ?_
    refine s_getA (pc := 131) rfl ko_262 (po_262_119 hp) ?_
    refine s_iload (pc := 134) rfl rfl ?_
    obtain ⟨hb3, hw⟩ := hw
    refine s_iald (pc := 136) rfl ka_338 (by decide) hb3 ?_
    obtain ⟨hb4, hw⟩ := hw
    refine s_iast (pc := 137) rfl ka_333 (by decide) hb4 ?_
    refine s_iinc (pc := 138) (L' := [some (.ref 262), some (.int (iz x1)), some (.int (iz x2)), some (.int (iz x3)), some (.int (iz x4)), some (.int (iz (x5 + 1)))]) rfl rfl (Nat.le_of_ble_eq_true rfl) rfl ?_
    refine s_goto (pc := 141) (tgt := 109) rfl rfl ?_
    exact hw

set_option maxRecDepth 20000 in
set_option maxHeartbeats 4000000 in
theorem b_Mdl_addsNode_147 {X : aX} {d : Nat} (x1 : Int) (x2 : Int) (x3 : Int) (x4 : Int) (x5 : Int)  (m : Mi) (J : Mj) (P : Mp) (hp : PP P) (post : Int → Mi → Mj → Mp → Prop)
    (hw : Zr (x5) ∧ Zr (m 262 122) ∧ ((((m 262 122) ≤ x5) → ((0 : Int) ≤ x4 ∧ (x4 : Int) < 1000) ∧ ((0 : Int) ≤ x4 ∧ (x4 : Int) < 1000) ∧ ((0 : Int) ≤ x4 ∧ (x4 : Int) < 1000) ∧ Zr (x1) ∧ (((0 ≤ x1) → ((0 : Int) ≤ x1 ∧ (x1 : Int) < 1000) ∧ ((0 : Int) ≤ x4 ∧ (x4 : Int) < 1000) ∧ ((0 : Int) ≤ x4 ∧ (x4 : Int) < 1000) ∧ Ci X (d + 3) 200 [.ref 262, .int (iz x4)] (mu (mu (mu (mu (mu (mu m 262 102 ((m 262 102) + (m 262 122))) 327 x4.toNat x1) 328 x4.toNat x2) 329 x4.toNat x3) 330 x4.toNat (((mu (mu (mu (mu m 262 102 ((m 262 102) + (m 262 122))) 327 x4.toNat x1) 328 x4.toNat x2) 329 x4.toNat x3) 330 x1.toNat) + 1)) 332 x4.toNat ((-1))) J P (fun z13 m10 J11 P12 => PP P12 ∧ (z13 = 0 ∨ z13 = 1) ∧ post z13 m10 J11 P12)) ∧ (¬ (0 ≤ x1) → ((0 : Int) ≤ x4 ∧ (x4 : Int) < 1000) ∧ ((0 : Int) ≤ x4 ∧ (x4 : Int) < 1000) ∧ Ci X (d + 3) 200 [.ref 262, .int (iz x4)] (mu (mu (mu (mu (mu (mu m 262 102 ((m 262 102) + (m 262 122))) 327 x4.toNat x1) 328 x4.toNat x2) 329 x4.toNat x3) 330 x4.toNat 0) 332 x4.toNat ((-1))) J P (fun z20 m17 J18 P19 => PP P19 ∧ (z20 = 0 ∨ z20 = 1) ∧ post z20 m17 J18 P19)))) ∧ (¬ ((m 262 122) ≤ x5) → ((0 : Int) ≤ x5 ∧ (x5 : Int) < 800) ∧ ((0 : Int) ≤ ((m 262 102) + x5) ∧ (((m 262 102) + x5) : Int) < 40000) ∧ Zr (x5) ∧ Zr (((mu m 323 ((m 262 102) + x5).toNat (m 337 x5.toNat)) 262 120) + ((mu m 323 ((m 262 102) + x5).toNat (m 337 x5.toNat)) 262 121)) ∧ ((((((mu m 323 ((m 262 102) + x5).toNat (m 337 x5.toNat)) 262 120) + ((mu m 323 ((m 262 102) + x5).toNat (m 337 x5.toNat)) 262 121)) ≤ x5) → Rn X (d + 4) 199 147 [some (.ref 262), some (.int (iz x1)), some (.int (iz x2)), some (.int (iz x3)), some (.int (iz x4)), some (.int (iz (x5 + 1)))] [] (SS (mu m 323 ((m 262 102) + x5).toNat (m 337 x5.toNat)) J P) (QI post)) ∧ (¬ ((((mu m 323 ((m 262 102) + x5).toNat (m 337 x5.toNat)) 262 120) + ((mu m 323 ((m 262 102) + x5).toNat (m 337 x5.toNat)) 262 121)) ≤ x5) → ((0 : Int) ≤ x5 ∧ (x5 : Int) < 800) ∧ Zr ((mu m 323 ((m 262 102) + x5).toNat (m 337 x5.toNat)) 337 x5.toNat) ∧ (((((mu m 323 ((m 262 102) + x5).toNat (m 337 x5.toNat)) 337 x5.toNat) < 64) → Rn X (d + 4) 199 147 [some (.ref 262), some (.int (iz x1)), some (.int (iz x2)), some (.int (iz x3)), some (.int (iz x4)), some (.int (iz (x5 + 1)))] [] (SS (mu m 323 ((m 262 102) + x5).toNat (m 337 x5.toNat)) J P) (QI post)) ∧ (¬ (((mu m 323 ((m 262 102) + x5).toNat (m 337 x5.toNat)) 337 x5.toNat) < 64) → ((0 : Int) ≤ x4 ∧ (x4 : Int) < 1000) ∧ ((0 : Int) ≤ x4 ∧ (x4 : Int) < 1000) ∧ Rn X (d + 4) 199 147 [some (.ref 262), some (.int (iz x1)), some (.int (iz x2)), some (.int (iz x3)), some (.int (iz x4)), some (.int (iz (x5 + 1)))] [] (SS (mu (mu m 323 ((m 262 102) + x5).toNat (m 337 x5.toNat)) 331 x4.toNat (((mu m 323 ((m 262 102) + x5).toNat (m 337 x5.toNat)) 331 x4.toNat) + 1)) J P) (QI post)))))))) : Rn X (d + 4) 199 147 [some (.ref 262), some (.int (iz x1)), some (.int (iz x2)), some (.int (iz x3)), some (.int (iz x4)), some (.int (iz x5))] [] (SS m J P) (QI post) := by
  refine s_iload (pc := 147) rfl rfl ?_
  refine s_aload_n (pc := 149) rfl rfl ?_
  refine s_getI (pc := 150) rfl ko_262 ?_
  obtain ⟨hz1, hw⟩ := hw
  obtain ⟨hz2, hw⟩ := hw
  refine s_ic_ge (pc := 153) (tgt := 218) rfl rfl hz1 hz2 (fun hc => ?_) (fun hc => ?_)
  · replace hw := hw.1 hc
    refine s_aload_n (pc := 218) rfl rfl ?_
    refine s_dup (pc := 219) rfl rfl ?_
    refine s_getI (pc := 220) rfl ko_262 ?_
    refine s_aload_n (pc := 223) rfl rfl ?_
    refine s_getI (pc := 224) rfl ko_262 ?_
    refine s_iadd (pc := 227) rfl ?_
    refine s_putI (pc := 228) rfl ko_262 ?_
    refine s_aload_n (pc := 231) rfl rfl ?_
    refine s_getA (pc := 232) rfl ko_262 (po_262_108 hp) ?_
    refine s_iload (pc := 235) rfl rfl ?_
    refine s_iload_n (pc := 237) rfl rfl ?_
    obtain ⟨hb3, hw⟩ := hw
    refine s_iast (pc := 238) rfl ka_327 (by decide) hb3 ?_
    refine s_aload_n (pc := 239) rfl rfl ?_
    refine s_getA (pc := 240) rfl ko_262 (po_262_109 hp) ?_
    refine s_iload (pc := 243) rfl rfl ?_
    refine s_iload_n (pc := 245) rfl rfl ?_
    obtain ⟨hb4, hw⟩ := hw
    refine s_iast (pc := 246) rfl ka_328 (by decide) hb4 ?_
    refine s_aload_n (pc := 247) rfl rfl ?_
    refine s_getA (pc := 248) rfl ko_262 (po_262_110 hp) ?_
    refine s_iload (pc := 251) rfl rfl ?_
    refine s_iload_n (pc := 253) rfl rfl ?_
    obtain ⟨hb5, hw⟩ := hw
    refine s_iast (pc := 254) rfl ka_329 (by decide) hb5 ?_
    refine s_aload_n (pc := 255) rfl rfl ?_
    refine s_getA (pc := 256) rfl ko_262 (po_262_111 hp) ?_
    refine s_iload (pc := 259) rfl rfl ?_
    refine s_iload_n (pc := 261) rfl rfl ?_
    obtain ⟨hz6, hw⟩ := hw
    refine s_if_ge (pc := 262) (tgt := 269) rfl rfl hz6 (fun hc => ?_) (fun hc => ?_)
    · replace hw := hw.1 hc
      refine s_aload_n (pc := 269) rfl rfl ?_
      refine s_getA (pc := 270) rfl ko_262 (po_262_111 hp) ?_
      refine s_iload_n (pc := 273) rfl rfl ?_
      obtain ⟨hb7, hw⟩ := hw
      refine s_iald (pc := 274) rfl ka_330 (by decide) hb7 ?_
      refine s_iconst (pc := 275) rfl ?_
      refine s_iadd (pc := 276) rfl ?_
      obtain ⟨hb8, hw⟩ := hw
      refine s_iast (pc := 277) rfl ka_330 (by decide) hb8 ?_
      refine s_aload_n (pc := 278) rfl rfl ?_
      refine s_getA (pc := 279) rfl ko_262 (po_262_113 hp) ?_
      refine s_iload (pc := 282) rfl rfl ?_
      refine s_iconst (pc := 284) rfl ?_
      obtain ⟨hb9, hw⟩ := hw
      refine s_iast (pc := 285) rfl ka_332 (by decide) hb9 ?_
      refine s_aload_n (pc := 286) rfl rfl ?_
      refine s_iload (pc := 287) rfl rfl ?_
      refine s_ci (pc := 289) (d := (d + 3)) (t := []) rfl rfl (am_ca_v (ps := [.int (iz x4)]) rfl ko_262) (Nat.le_of_ble_eq_true rfl) (Ci.weak hw fun z13 m10 J11 P12 hw => ?_)
      obtain ⟨hp14, hw⟩ := hw
      exact s_retz (pc := 292) rfl rfl hw.1 hw.2
    · replace hw := hw.2 hc
      refine s_iconst (pc := 265) rfl ?_
      refine s_goto (pc := 266) (tgt := 277) rfl rfl ?_
      obtain ⟨hb15, hw⟩ := hw
      refine s_iast (pc := 277) rfl ka_330 (by decide) hb15 ?_
      refine s_aload_n (pc := 278) rfl rfl ?_
      refine s_getA (pc := 279) rfl ko_262 (po_262_113 hp) ?_
      refine s_iload (pc := 282) rfl rfl ?_
      refine s_iconst (pc := 284) rfl ?_
      obtain ⟨hb16, hw⟩ := hw
      refine s_iast (pc := 285) rfl ka_332 (by decide) hb16 ?_
      refine s_aload_n (pc := 286) rfl rfl ?_
      refine s_iload (pc := 287) rfl rfl ?_
      refine s_ci (pc := 289) (d := (d + 3)) (t := []) rfl rfl (am_ca_v (ps := [.int (iz x4)]) rfl ko_262) (Nat.le_of_ble_eq_true rfl) (Ci.weak hw fun z20 m17 J18 P19 hw => ?_)
      obtain ⟨hp21, hw⟩ := hw
      exact s_retz (pc := 292) rfl rfl hw.1 hw.2
  · replace hw := hw.2 hc
    refine s_aload_n (pc := 156) rfl rfl ?_
    refine s_getA (pc := 157) rfl ko_262 (po_262_104 hp) ?_
    refine s_aload_n (pc := 160) rfl rfl ?_
    refine s_getI (pc := 161) rfl ko_262 ?_
    refine s_iload (pc := 164) rfl rfl ?_
    refine s_iadd (pc := 166) rfl ?_
    refine s_aload_n (pc := 167) rfl rfl ?_
    refine s_getA (pc := 168) rfl ko_262 (po_262_118 hp) ?_
    refine s_iload (pc := 171) rfl rfl ?_
    obtain ⟨hb22, hw⟩ := hw
    refine s_iald (pc := 173) rfl ka_337 (by decide) hb22 ?_
    obtain ⟨hb23, hw⟩ := hw
    refine s_iast (pc := 174) rfl ka_323 (by decide) hb23 ?_
    refine s_iload (pc := 175) rfl rfl ?_
    refine s_aload_n (pc := 177) rfl rfl ?_
    refine s_getI (pc := 178) rfl ko_262 ?_
    refine s_aload_n (pc := 181) rfl rfl ?_
    refine s_getI (pc := 182) rfl ko_262 ?_
    refine s_iadd (pc := 185) rfl ?_
    obtain ⟨hz24, hw⟩ := hw
    obtain ⟨hz25, hw⟩ := hw
    refine s_ic_ge (pc := 186) (tgt := 212) rfl rfl hz24 hz25 (fun hc => ?_) (fun hc => ?_)
    · replace hw := hw.1 hc
      refine s_iinc (pc := 212) (L' := [some (.ref 262), some (.int (iz x1)), some (.int (iz x2)), some (.int (iz x3)), some (.int (iz x4)), some (.int (iz (x5 + 1)))]) rfl rfl (Nat.le_of_ble_eq_true rfl) rfl ?_
      refine s_goto (pc := 215) (tgt := 147) rfl rfl ?_
      exact hw
    · replace hw := hw.2 hc
      refine s_aload_n (pc := 189) rfl rfl ?_
      refine s_getA (pc := 190) rfl ko_262 (po_262_118 hp) ?_
      refine s_iload (pc := 193) rfl rfl ?_
      obtain ⟨hb26, hw⟩ := hw
      refine s_iald (pc := 195) rfl ka_337 (by decide) hb26 ?_
      refine s_bipush (pc := 196) rfl (by decide) ?_
      obtain ⟨hz27, hw⟩ := hw
      refine s_ic_lt (pc := 198) (tgt := 212) rfl rfl hz27 (by decide) (fun hc => ?_) (fun hc => ?_)
      · replace hw := hw.1 hc
        refine s_iinc (pc := 212) (L' := [some (.ref 262), some (.int (iz x1)), some (.int (iz x2)), some (.int (iz x3)), some (.int (iz x4)), some (.int (iz (x5 + 1)))]) rfl rfl (Nat.le_of_ble_eq_true rfl) rfl ?_
        refine s_goto (pc := 215) (tgt := 147) rfl rfl ?_
        exact hw
      · replace hw := hw.2 hc
        refine s_aload_n (pc := 201) rfl rfl ?_
        refine s_getA (pc := 202) rfl ko_262 (po_262_112 hp) ?_
        refine s_iload (pc := 205) rfl rfl ?_
        refine s_dup2 (pc := 207) rfl ⟨rfl, rfl⟩ ?_
        obtain ⟨hb28, hw⟩ := hw
        refine s_iald (pc := 208) rfl ka_331 (by decide) hb28 ?_
        refine s_iconst (pc := 209) rfl ?_
        refine s_iadd (pc := 210) rfl ?_
        obtain ⟨hb29, hw⟩ := hw
        refine s_iast (pc := 211) rfl ka_331 (by decide) hb29 ?_
        refine s_iinc (pc := 212) (L' := [some (.ref 262), some (.int (iz x1)), some (.int (iz x2)), some (.int (iz x3)), some (.int (iz x4)), some (.int (iz (x5 + 1)))]) rfl rfl (Nat.le_of_ble_eq_true rfl) rfl ?_
        refine s_goto (pc := 215) (tgt := 147) rfl rfl ?_
        exact hw

set_option maxRecDepth 20000 in
set_option maxHeartbeats 4000000 in
theorem b_Mdl_looksForAnswer_0 {X : aX} {d : Nat} (x1 : Int)  (m : Mi) (J : Mj) (P : Mp) (hp : PP P) (post : Int → Mi → Mj → Mp → Prop)
    (hw : Cv X (d + 2) 201 [.ref 262, .int (iz x1)] m J P (fun m1 J2 P3 => PP P3 ∧ Ci X (d + 2) 168 [.ref 262, .int (iz (m1 262 124)), .int (iz (m1 262 125))] m1 J2 P3 (fun z9 m6 J7 P8 => PP P8 ∧ Zr (z9) ∧ (((¬ z9 = 0) → Cv X (d + 2) 171 [.ref 262] (mu m6 262 87 0) J7 P8 (fun m12 J13 P14 => PP P14 ∧ Ci X (d + 2) 195 [.ref 262] (mu m12 262 122 0) J13 P14 (fun z20 m17 J18 P19 => PP P19 ∧ Zr (z20) ∧ (((¬ z20 = 0) → Zr (m17 262 98) ∧ ((((m17 262 98) = 300) → post 0 (mu m17 262 95 1) J18 P19) ∧ (¬ ((m17 262 98) = 300) → Zr (((m17 262 100) + 2) + (m17 262 122)) ∧ ((((((m17 262 100) + 2) + (m17 262 122)) ≤ 30000) → ((0 : Int) ≤ (m17 262 98) ∧ ((m17 262 98) : Int) < 300) ∧ ((0 : Int) ≤ (m17 262 98) ∧ ((m17 262 98) : Int) < 300) ∧ Rn X (d + 3) 200 138 [some (.ref 262), some (.int (iz x1)), some (.int (iz (m17 262 98))), some (.int (iz 0))] [] (SS (mu (mu (mu (mu m17 262 98 ((m17 262 98) + 1)) 262 100 (((mu m17 262 98 ((m17 262 98) + 1)) 262 100) + (2 + ((mu m17 262 98 ((m17 262 98) + 1)) 262 122)))) 334 (m17 262 98).toNat x1) 335 (m17 262 98).toNat ((mu (mu (mu m17 262 98 ((m17 262 98) + 1)) 262 100 (((mu m17 262 98 ((m17 262 98) + 1)) 262 100) + (2 + ((mu m17 262 98 ((m17 262 98) + 1)) 262 122)))) 334 (m17 262 98).toNat x1) 262 102)) J18 P19) (QI post)) ∧ (¬ ((((m17 262 100) + 2) + (m17 262 122)) ≤ 30000) → post 0 (mu m17 262 95 1) J18 P19))))) ∧ (¬ (¬ z20 = 0) → post 1 (mu m17 262 99 ((m17 262 99) + 1)) J18 P19))))) ∧ (¬ (¬ z9 = 0) → post 1 m6 J7 P8))))) : Rn X (d + 3) 200 0 [some (.ref 262), some (.int (iz x1)), none, none] [] (SS m J P) (QI post) := by
  refine s_aload_n (pc := 0) rfl rfl ?_
  refine s_iload_n (pc := 1) rfl rfl ?_
  refine s_cv (pc := 2) (d := (d + 2)) (t := []) rfl rfl (am_ca_v (ps := [.int (iz x1)]) rfl ko_262) (Nat.le_of_ble_eq_true rfl) (Cv.weak hw fun m1 J2 P3 hw => ?_)
  obtain ⟨hp5, hw⟩ := hw
  refine s_aload_n (pc := 5) rfl rfl ?_
  refine s_aload_n (pc := 6) rfl rfl ?_
  refine s_getI (pc := 7) rfl ko_262 ?_
  refine s_aload_n (pc := 10) rfl rfl ?_
  refine s_getI (pc := 11) rfl ko_262 ?_
  refine s_ci (pc := 14) (d := (d + 2)) (t := []) rfl rfl (am_ca_v (ps := [.int (iz (m1 262 125)), .int (iz (m1 262 124))]) rfl ko_262) (Nat.le_of_ble_eq_true rfl) (Ci.weak hw fun z9 m6 J7 P8 hw => ?_)
  obtain ⟨hp10, hw⟩ := hw
  obtain ⟨hz11, hw⟩ := hw
  refine s_if_ne (pc := 17) (tgt := 22) rfl rfl hz11 (fun hc => ?_) (fun hc => ?_)
  · replace hw := hw.1 hc
    refine s_aload_n (pc := 22) rfl rfl ?_
    refine s_iconst (pc := 23) rfl ?_
    refine s_putZ (pc := 24) rfl ko_262 (by decide) ?_
    refine s_aload_n (pc := 27) rfl rfl ?_
    refine s_cv (pc := 28) (d := (d + 2)) (t := []) rfl rfl (am_ca_v (ps := []) rfl ko_262) (Nat.le_of_ble_eq_true rfl) (Cv.weak hw fun m12 J13 P14 hw => ?_)
    obtain ⟨hp16, hw⟩ := hw
    refine s_aload_n (pc := 31) rfl rfl ?_
    refine s_iconst (pc := 32) rfl ?_
    refine s_putI (pc := 33) rfl ko_262 ?_
    refine s_aload_n (pc := 36) rfl rfl ?_
    refine s_ci (pc := 37) (d := (d + 2)) (t := []) rfl rfl (am_ca_v (ps := []) rfl ko_262) (Nat.le_of_ble_eq_true rfl) (Ci.weak hw fun z20 m17 J18 P19 hw => ?_)
    obtain ⟨hp21, hw⟩ := hw
    obtain ⟨hz22, hw⟩ := hw
    refine s_if_ne (pc := 40) (tgt := 55) rfl rfl hz22 (fun hc => ?_) (fun hc => ?_)
    · replace hw := hw.1 hc
      refine s_aload_n (pc := 55) rfl rfl ?_
      refine s_getI (pc := 56) rfl ko_262 ?_
      refine s_sipush (pc := 59) rfl (by decide) ?_
      obtain ⟨hz23, hw⟩ := hw
      refine s_ic_eq (pc := 62) (tgt := 82) rfl rfl hz23 (by decide) (fun hc => ?_) (fun hc => ?_)
      · replace hw := hw.1 hc
        refine s_aload_n (pc := 82) rfl rfl ?_
        refine s_iconst (pc := 83) rfl ?_
        refine s_putZ (pc := 84) rfl ko_262 (by decide) ?_
        refine s_iconst (pc := 87) rfl ?_
        exact s_retz (pc := 88) rfl rfl (by decide) hw
      · replace hw := hw.2 hc
        refine s_aload_n (pc := 65) rfl rfl ?_
        refine s_getI (pc := 66) rfl ko_262 ?_
        refine s_iconst (pc := 69) rfl ?_
        refine s_iadd (pc := 70) rfl ?_
        refine s_aload_n (pc := 71) rfl rfl ?_
        refine s_getI (pc := 72) rfl ko_262 ?_
        refine s_iadd (pc := 75) rfl ?_
        refine s_sipush (pc := 76) rfl (by decide) ?_
        obtain ⟨hz24, hw⟩ := hw
        refine s_ic_le (pc := 79) (tgt := 89) rfl rfl hz24 (by decide) (fun hc => ?_) (fun hc => ?_)
        · replace hw := hw.1 hc
          refine s_aload_n (pc := 89) rfl rfl ?_
          refine s_getI (pc := 90) rfl ko_262 ?_
          refine s_istore_n (pc := 93) (L' := [some (.ref 262), some (.int (iz x1)), some (.int (iz (m17 262 98))), none]) rfl (Nat.le_of_ble_eq_true rfl) rfl ?_
          refine s_aload_n (pc := 94) rfl rfl ?_
          refine s_dup (pc := 95) rfl rfl ?_
          refine s_getI (pc := 96) rfl ko_262 ?_
          refine s_iconst (pc := 99) rfl ?_
          refine s_iadd (pc := 100) rfl ?_
          refine s_putI (pc := 101) rfl ko_262 ?_
          refine s_aload_n (pc := 104) rfl rfl ?_
          refine s_dup (pc := 105) rfl rfl ?_
          refine s_getI (pc := 106) rfl ko_262 ?_
          refine s_iconst (pc := 109) rfl ?_
          refine s_aload_n (pc := 110) rfl rfl ?_
          refine s_getI (pc := 111) rfl ko_262 ?_
          refine s_iadd (pc := 114) rfl ?_
          refine s_iadd (pc := 115) rfl ?_
          refine s_putI (pc := 116) rfl ko_262 ?_
          refine s_aload_n (pc := 119) rfl rfl ?_
          refine s_getA (pc := 120) rfl ko_262 (po_262_115 hp21) ?_
          refine s_iload_n (pc := 123) rfl rfl ?_
          refine s_iload_n (pc := 124) rfl rfl ?_
          obtain ⟨hb25, hw⟩ := hw
          refine s_iast (pc := 125) rfl ka_334 (by decide) hb25 ?_
          refine s_aload_n (pc := 126) rfl rfl ?_
          refine s_getA (pc := 127) rfl ko_262 (po_262_116 hp21) ?_
          refine s_iload_n (pc := 130) rfl rfl ?_
          refine s_aload_n (pc := 131) rfl rfl ?_
          refine s_getI (pc := 132) rfl ko_262 ?_
          obtain ⟨hb26, hw⟩ := hw
          refine s_iast (pc := 135) rfl ka_335 (by decide) hb26 ?_
          refine s_iconst (pc := 136) rfl ?_
          refine s_istore_n (pc := 137) (L' := [some (.ref 262), some (.int (iz x1)), some (.int (iz (m17 262 98))), some (.int (iz 0))]) rfl (Nat.le_of_ble_eq_true rfl) rfl ?_
          exact hw
        · replace hw := hw.2 hc
          refine s_aload_n (pc := 82) rfl rfl ?_
          refine s_iconst (pc := 83) rfl ?_
          refine s_putZ (pc := 84) rfl ko_262 (by decide) ?_
          refine s_iconst (pc := 87) rfl ?_
          exact s_retz (pc := 88) rfl rfl (by decide) hw
    · replace hw := hw.2 hc
      refine s_aload_n (pc := 43) rfl rfl ?_
      refine s_dup (pc := 44) rfl rfl ?_
      refine s_getI (pc := 45) rfl ko_262 ?_
      refine s_iconst (pc := 48) rfl ?_
      refine s_iadd (pc := 49) rfl ?_
      refine s_putI (pc := 50) rfl ko_262 ?_
      refine s_iconst (pc := 53) rfl ?_
      exact s_retz (pc := 54) rfl rfl (by decide) hw
  · replace hw := hw.2 hc
    refine s_iconst (pc := 20) rfl ?_
    exact s_retz (pc := 21) rfl rfl (by decide) hw

set_option maxRecDepth 20000 in
set_option maxHeartbeats 4000000 in
theorem b_Mdl_looksForAnswer_138 {X : aX} {d : Nat} (x1 : Int) (x2 : Int) (x3 : Int)  (m : Mi) (J : Mj) (P : Mp) (hp : PP P) (post : Int → Mi → Mj → Mp → Prop)
    (hw : Zr (x3) ∧ Zr (m 262 101) ∧ ((((m 262 101) ≤ x3) → Rn X (d + 3) 200 171 [some (.ref 262), some (.int (iz x1)), some (.int (iz x2)), some (.int (iz 0))] [] (SS m J P) (QI post)) ∧ (¬ ((m 262 101) ≤ x3) → ((0 : Int) ≤ x3 ∧ (x3 : Int) < 6) ∧ ((0 : Int) ≤ ((6 * x2) + x3) ∧ (((6 * x2) + x3) : Int) < 1800) ∧ Rn X (d + 3) 200 138 [some (.ref 262), some (.int (iz x1)), some (.int (iz x2)), some (.int (iz (x3 + 1)))] [] (SS (mu m 336 ((6 * x2) + x3).toNat (m 338 x3.toNat)) J P) (QI post)))) : Rn X (d + 3) 200 138 [some (.ref 262), some (.int (iz x1)), some (.int (iz x2)), some (.int (iz x3))] [] (SS m J P) (QI post) := by
  refine s_iload_n (pc := 138) rfl rfl ?_
  refine s_aload_n (pc := 139) rfl rfl ?_
  refine s_getI (pc := 140) rfl ko_262 ?_
  obtain ⟨hz1, hw⟩ := hw
  obtain ⟨hz2, hw⟩ := hw
  refine s_ic_ge (pc := 143) (tgt := 169) rfl rfl hz1 hz2 (fun hc => ?_) (fun hc => ?_)
  · replace hw := hw.1 hc
    refine s_iconst (pc := 169) rfl ?_
    refine s_istore_n (pc := 170) (L' := [some (.ref 262), some (.int (iz x1)), some (.int (iz x2)), some (.int (iz 0))]) rfl (Nat.le_of_ble_eq_true rfl) rfl ?_
    exact hw
  · replace hw := hw.2 hc
    refine s_aload_n (pc := 146) rfl rfl ?_
    refine s_getA (pc := 147) rfl ko_262 (po_262_117 hp) ?_
    refine s_bipush (pc := 150) rfl (by decide) ?_
    refine s_iload_n (pc := 152) rfl rfl ?_
    refine s_imul (pc := 153) rfl ?_
    refine s_iload_n (pc := 154) rfl rfl ?_
    refine s_iadd (pc := 155) rfl ?_
    refine s_aload_n (pc := 156) rfl rfl ?_
    refine s_getA (pc := 157) rfl ko_262 (po_262_119 hp) ?_
    refine s_iload_n (pc := 160) rfl rfl ?_
    obtain ⟨hb3, hw⟩ := hw
    refine s_iald (pc := 161) rfl ka_338 (by decide) hb3 ?_
    obtain ⟨hb4, hw⟩ := hw
    refine s_iast (pc := 162) rfl ka_336 (by decide) hb4 ?_
    refine s_iinc (pc := 163) (L' := [some (.ref 262), some (.int (iz x1)), some (.int (iz x2)), some (.int (iz (x3 + 1)))]) rfl rfl (Nat.le_of_ble_eq_true rfl) rfl ?_
    refine s_goto (pc := 166) (tgt := 138) rfl rfl ?_
    exact hw

set_option maxRecDepth 20000 in
set_option maxHeartbeats 4000000 in
theorem b_Mdl_looksForAnswer_171 {X : aX} {d : Nat} (x1 : Int) (x2 : Int) (x3 : Int)  (m : Mi) (J : Mj) (P : Mp) (hp : PP P) (post : Int → Mi → Mj → Mp → Prop)
    (hw : Zr (x3) ∧ Zr (m 262 122) ∧ ((((m 262 122) ≤ x3) → ((0 : Int) ≤ x1 ∧ (x1 : Int) < 1000) ∧ post 1 (mu (mu m 262 102 ((m 262 102) + (m 262 122))) 332 x1.toNat x2) J P) ∧ (¬ ((m 262 122) ≤ x3) → ((0 : Int) ≤ x3 ∧ (x3 : Int) < 800) ∧ ((0 : Int) ≤ ((m 262 102) + x3) ∧ (((m 262 102) + x3) : Int) < 40000) ∧ Rn X (d + 3) 200 171 [some (.ref 262), some (.int (iz x1)), some (.int (iz x2)), some (.int (iz (x3 + 1)))] [] (SS (mu m 323 ((m 262 102) + x3).toNat (m 337 x3.toNat)) J P) (QI post)))) : Rn X (d + 3) 200 171 [some (.ref 262), some (.int (iz x1)), some (.int (iz x2)), some (.int (iz x3))] [] (SS m J P) (QI post) := by
  refine s_iload_n (pc := 171) rfl rfl ?_
  refine s_aload_n (pc := 172) rfl rfl ?_
  refine s_getI (pc := 173) rfl ko_262 ?_
  obtain ⟨hz1, hw⟩ := hw
  obtain ⟨hz2, hw⟩ := hw
  refine s_ic_ge (pc := 176) (tgt := 202) rfl rfl hz1 hz2 (fun hc => ?_) (fun hc => ?_)
  · replace hw := hw.1 hc
    refine s_aload_n (pc := 202) rfl rfl ?_
    refine s_dup (pc := 203) rfl rfl ?_
    refine s_getI (pc := 204) rfl ko_262 ?_
    refine s_aload_n (pc := 207) rfl rfl ?_
    refine s_getI (pc := 208) rfl ko_262 ?_
    refine s_iadd (pc := 211) rfl ?_
    refine s_putI (pc := 212) rfl ko_262 ?_
    refine s_aload_n (pc := 215) rfl rfl ?_
    refine s_getA (pc := 216) rfl ko_262 (po_262_113 hp) ?_
    refine s_iload_n (pc := 219) rfl rfl ?_
    refine s_iload_n (pc := 220) rfl rfl ?_
    obtain ⟨hb3, hw⟩ := hw
    refine s_iast (pc := 221) rfl ka_332 (by decide) hb3 ?_
    refine s_iconst (pc := 222) rfl ?_
    exact s_retz (pc := 223) rfl rfl (by decide) hw
  · replace hw := hw.2 hc
    refine s_aload_n (pc := 179) rfl rfl ?_
    refine s_getA (pc := 180) rfl ko_262 (po_262_104 hp) ?_
    refine s_aload_n (pc := 183) rfl rfl ?_
    refine s_getI (pc := 184) rfl ko_262 ?_
    refine s_iload_n (pc := 187) rfl rfl ?_
    refine s_iadd (pc := 188) rfl ?_
    refine s_aload_n (pc := 189) rfl rfl ?_
    refine s_getA (pc := 190) rfl ko_262 (po_262_118 hp) ?_
    refine s_iload_n (pc := 193) rfl rfl ?_
    obtain ⟨hb4, hw⟩ := hw
    refine s_iald (pc := 194) rfl ka_337 (by decide) hb4 ?_
    obtain ⟨hb5, hw⟩ := hw
    refine s_iast (pc := 195) rfl ka_323 (by decide) hb5 ?_
    refine s_iinc (pc := 196) (L' := [some (.ref 262), some (.int (iz x1)), some (.int (iz x2)), some (.int (iz (x3 + 1)))]) rfl rfl (Nat.le_of_ble_eq_true rfl) rfl ?_
    refine s_goto (pc := 199) (tgt := 171) rfl rfl ?_
    exact hw

set_option maxRecDepth 20000 in
set_option maxHeartbeats 4000000 in
theorem b_Mdl_loads_0 {X : aX} {d : Nat} (x1 : Int)  (m : Mi) (J : Mj) (P : Mp) (hp : PP P) (post : Mi → Mj → Mp → Prop)
    (hw : Cv X (d + 1) 164 [.ref 262] m J P (fun m1 J2 P3 => PP P3 ∧ ((0 : Int) ≤ x1 ∧ (x1 : Int) < 1000) ∧ ((0 : Int) ≤ x1 ∧ (x1 : Int) < 1000) ∧ Ci X (d + 1) 166 [.ref 262, .ref 323, .int (iz (m1 324 x1.toNat)), .int (iz ((m1 324 x1.toNat) + (m1 325 x1.toNat))), .ref 308, .int (iz ((-1)))] m1 J2 P3 (fun z11 m8 J9 P10 => PP P10 ∧ Rn X (d + 2) 201 39 [some (.ref 262), some (.int (iz x1)), some (.int (iz (m1 324 x1.toNat))), some (.int (iz 0)), none] [] (SS (mu m8 262 124 z11) J9 P10) (QV post)))) : Rn X (d + 2) 201 0 [some (.ref 262), some (.int (iz x1)), none, none, none] [] (SS m J P) (QV post) := by
  refine s_aload_n (pc := 0) rfl rfl ?_
  refine s_cv (pc := 1) (d := (d + 1)) (t := []) rfl rfl (am_ca_v (ps := []) rfl ko_262) (Nat.le_of_ble_eq_true rfl) (Cv.weak hw fun m1 J2 P3 hw => ?_)
  obtain ⟨hp5, hw⟩ := hw
  refine s_aload_n (pc := 4) rfl rfl ?_
  refine s_getA (pc := 5) rfl ko_262 (po_262_105 hp5) ?_
  refine s_iload_n (pc := 8) rfl rfl ?_
  obtain ⟨hb6, hw⟩ := hw
  refine s_iald (pc := 9) rfl ka_324 (by decide) hb6 ?_
  refine s_istore_n (pc := 10) (L' := [some (.ref 262), some (.int (iz x1)), some (.int (iz (m1 324 x1.toNat))), none, none]) rfl (Nat.le_of_ble_eq_true rfl) rfl ?_
  refine s_aload_n (pc := 11) rfl rfl ?_
  refine s_aload_n (pc := 12) rfl rfl ?_
  refine s_aload_n (pc := 13) rfl rfl ?_
  refine s_getA (pc := 14) rfl ko_262 (po_262_104 hp5) ?_
  refine s_iload_n (pc := 17) rfl rfl ?_
  refine s_iload_n (pc := 18) rfl rfl ?_
  refine s_aload_n (pc := 19) rfl rfl ?_
  refine s_getA (pc := 20) rfl ko_262 (po_262_106 hp5) ?_
  refine s_iload_n (pc := 23) rfl rfl ?_
  obtain ⟨hb7, hw⟩ := hw
  refine s_iald (pc := 24) rfl ka_325 (by decide) hb7 ?_
  refine s_iadd (pc := 25) rfl ?_
  refine s_aload_n (pc := 26) rfl rfl ?_
  refine s_getA (pc := 27) rfl ko_262 (po_262_75 hp5) ?_
  refine s_iconst (pc := 30) rfl ?_
  refine s_ci (pc := 31) (d := (d + 1)) (t := [.ref 262]) rfl rfl (am_ca_v (ps := [.int (iz ((-1))), .ref 308, .int (iz ((m1 324 x1.toNat) + (m1 325 x1.toNat))), .int (iz (m1 324 x1.toNat)), .ref 323]) rfl ko_262) (Nat.le_of_ble_eq_true rfl) (Ci.weak hw fun z11 m8 J9 P10 hw => ?_)
  obtain ⟨hp12, hw⟩ := hw
  refine s_putI (pc := 34) rfl ko_262 ?_
  refine s_iconst (pc := 37) rfl ?_
  refine s_istore_n (pc := 38) (L' := [some (.ref 262), some (.int (iz x1)), some (.int (iz (m1 324 x1.toNat))), some (.int (iz 0)), none]) rfl (Nat.le_of_ble_eq_true rfl) rfl ?_
  exact hw

set_option maxRecDepth 20000 in
set_option maxHeartbeats 4000000 in
theorem b_Mdl_loads_39 {X : aX} {d : Nat} (x1 : Int) (x2 : Int) (x3 : Int)  (m : Mi) (J : Mj) (P : Mp) (hp : PP P) (post : Mi → Mj → Mp → Prop)
    (hw : ((0 : Int) ≤ x1 ∧ (x1 : Int) < 1000) ∧ Zr (x3) ∧ Zr (m 325 x1.toNat) ∧ ((((m 325 x1.toNat) ≤ x3) → ((0 : Int) ≤ x1 ∧ (x1 : Int) < 1000) ∧ ((0 : Int) ≤ x1 ∧ (x1 : Int) < 1000) ∧ Ci X (d + 1) 166 [.ref 262, .ref 323, .int (iz (x2 + (m 325 x1.toNat))), .int (iz ((x2 + (m 325 x1.toNat)) + (m 326 x1.toNat))), .ref 308, .int (iz ((-1)))] m J P (fun z9 m6 J7 P8 => PP P8 ∧ Rn X (d + 2) 201 104 [some (.ref 262), some (.int (iz x1)), some (.int (iz (x2 + (m 325 x1.toNat)))), some (.int (iz 0)), none] [] (SS (mu m6 262 125 z9) J7 P8) (QV post))) ∧ (¬ ((m 325 x1.toNat) ≤ x3) → ((0 : Int) ≤ x3 ∧ (x3 : Int) < 201) ∧ ((0 : Int) ≤ x3 ∧ (x3 : Int) < 200) ∧ Rn X (d + 2) 201 39 [some (.ref 262), some (.int (iz x1)), some (.int (iz x2)), some (.int (iz (x3 + 1))), none] [] (SS (mu m 340 x3.toNat (m 312 x3.toNat)) J P) (QV post)))) : Rn X (d + 2) 201 39 [some (.ref 262), some (.int (iz x1)), some (.int (iz x2)), some (.int (iz x3)), none] [] (SS m J P) (QV post) := by
  refine s_iload_n (pc := 39) rfl rfl ?_
  refine s_aload_n (pc := 40) rfl rfl ?_
  refine s_getA (pc := 41) rfl ko_262 (po_262_106 hp) ?_
  refine s_iload_n (pc := 44) rfl rfl ?_
  obtain ⟨hb1, hw⟩ := hw
  refine s_iald (pc := 45) rfl ka_325 (by decide) hb1 ?_
  obtain ⟨hz2, hw⟩ := hw
  obtain ⟨hz3, hw⟩ := hw
  refine s_ic_ge (pc := 46) (tgt := 67) rfl rfl hz2 hz3 (fun hc => ?_) (fun hc => ?_)
  · replace hw := hw.1 hc
    refine s_iload_n (pc := 67) rfl rfl ?_
    refine s_aload_n (pc := 68) rfl rfl ?_
    refine s_getA (pc := 69) rfl ko_262 (po_262_106 hp) ?_
    refine s_iload_n (pc := 72) rfl rfl ?_
    obtain ⟨hb4, hw⟩ := hw
    refine s_iald (pc := 73) rfl ka_325 (by decide) hb4 ?_
    refine s_iadd (pc := 74) rfl ?_
    refine s_istore_n (pc := 75) (L' := [some (.ref 262), some (.int (iz x1)), some (.int (iz (x2 + (m 325 x1.toNat)))), some (.int (iz x3)), none]) rfl (Nat.le_of_ble_eq_true rfl) rfl ?_
    refine s_aload_n (pc := 76) rfl rfl ?_
    refine s_aload_n (pc := 77) rfl rfl ?_
    refine s_aload_n (pc := 78) rfl rfl ?_
    refine s_getA (pc := 79) rfl ko_262 (po_262_104 hp) ?_
    refine s_iload_n (pc := 82) rfl rfl ?_
    refine s_iload_n (pc := 83) rfl rfl ?_
    refine s_aload_n (pc := 84) rfl rfl ?_
    refine s_getA (pc := 85) rfl ko_262 (po_262_107 hp) ?_
    refine s_iload_n (pc := 88) rfl rfl ?_
    obtain ⟨hb5, hw⟩ := hw
    refine s_iald (pc := 89) rfl ka_326 (by decide) hb5 ?_
    refine s_iadd (pc := 90) rfl ?_
    refine s_aload_n (pc := 91) rfl rfl ?_
    refine s_getA (pc := 92) rfl ko_262 (po_262_75 hp) ?_
    refine s_iconst (pc := 95) rfl ?_
    refine s_ci (pc := 96) (d := (d + 1)) (t := [.ref 262]) rfl rfl (am_ca_v (ps := [.int (iz ((-1))), .ref 308, .int (iz ((x2 + (m 325 x1.toNat)) + (m 326 x1.toNat))), .int (iz (x2 + (m 325 x1.toNat))), .ref 323]) rfl ko_262) (Nat.le_of_ble_eq_true rfl) (Ci.weak hw fun z9 m6 J7 P8 hw => ?_)
    obtain ⟨hp10, hw⟩ := hw
    refine s_putI (pc := 99) rfl ko_262 ?_
    refine s_iconst (pc := 102) rfl ?_
    refine s_istore_n (pc := 103) (L' := [some (.ref 262), some (.int (iz x1)), some (.int (iz (x2 + (m 325 x1.toNat)))), some (.int (iz 0)), none]) rfl (Nat.le_of_ble_eq_true rfl) rfl ?_
    exact hw
  · replace hw := hw.2 hc
    refine s_aload_n (pc := 49) rfl rfl ?_
    refine s_getA (pc := 50) rfl ko_262 (po_262_126 hp) ?_
    refine s_iload_n (pc := 53) rfl rfl ?_
    refine s_aload_n (pc := 54) rfl rfl ?_
    refine s_getA (pc := 55) rfl ko_262 (po_262_79 hp) ?_
    refine s_iload_n (pc := 58) rfl rfl ?_
    obtain ⟨hb11, hw⟩ := hw
    refine s_iald (pc := 59) rfl ka_312 (by decide) hb11 ?_
    obtain ⟨hb12, hw⟩ := hw
    refine s_iast (pc := 60) rfl ka_340 (by decide) hb12 ?_
    refine s_iinc (pc := 61) (L' := [some (.ref 262), some (.int (iz x1)), some (.int (iz x2)), some (.int (iz (x3 + 1))), none]) rfl rfl (Nat.le_of_ble_eq_true rfl) rfl ?_
    refine s_goto (pc := 64) (tgt := 39) rfl rfl ?_
    exact hw

set_option maxRecDepth 20000 in
set_option maxHeartbeats 4000000 in
theorem b_Mdl_loads_104 {X : aX} {d : Nat} (x1 : Int) (x2 : Int) (x3 : Int)  (m : Mi) (J : Mj) (P : Mp) (hp : PP P) (post : Mi → Mj → Mp → Prop)
    (hw : ((0 : Int) ≤ x1 ∧ (x1 : Int) < 1000) ∧ Zr (x3) ∧ Zr (m 326 x1.toNat) ∧ ((((m 326 x1.toNat) ≤ x3) → Rn X (d + 2) 201 141 [some (.ref 262), some (.int (iz x1)), some (.int (iz x2)), some (.int (iz 0)), none] [] (SS m J P) (QV post)) ∧ (¬ ((m 326 x1.toNat) ≤ x3) → ((0 : Int) ≤ x1 ∧ (x1 : Int) < 1000) ∧ ((0 : Int) ≤ x3 ∧ (x3 : Int) < 201) ∧ ((0 : Int) ≤ ((m 325 x1.toNat) + x3) ∧ (((m 325 x1.toNat) + x3) : Int) < 200) ∧ Rn X (d + 2) 201 104 [some (.ref 262), some (.int (iz x1)), some (.int (iz x2)), some (.int (iz (x3 + 1))), none] [] (SS (mu m 340 ((m 325 x1.toNat) + x3).toNat (m 312 x3.toNat)) J P) (QV post)))) : Rn X (d + 2) 201 104 [some (.ref 262), some (.int (iz x1)), some (.int (iz x2)), some (.int (iz x3)), none] [] (SS m J P) (QV post) := by
  refine s_iload_n (pc := 104) rfl rfl ?_
  refine s_aload_n (pc := 105) rfl rfl ?_
  refine s_getA (pc := 106) rfl ko_262 (po_262_107 hp) ?_
  refine s_iload_n (pc := 109) rfl rfl ?_
  obtain ⟨hb1, hw⟩ := hw
  refine s_iald (pc := 110) rfl ka_326 (by decide) hb1 ?_
  obtain ⟨hz2, hw⟩ := hw
  obtain ⟨hz3, hw⟩ := hw
  refine s_ic_ge (pc := 111) (tgt := 139) rfl rfl hz2 hz3 (fun hc => ?_) (fun hc => ?_)
  · replace hw := hw.1 hc
    refine s_iconst (pc := 139) rfl ?_
    refine s_istore_n (pc := 140) (L' := [some (.ref 262), some (.int (iz x1)), some (.int (iz x2)), some (.int (iz 0)), none]) rfl (Nat.le_of_ble_eq_true rfl) rfl ?_
    exact hw
  · replace hw := hw.2 hc
    refine s_aload_n (pc := 114) rfl rfl ?_
    refine s_getA (pc := 115) rfl ko_262 (po_262_126 hp) ?_
    refine s_aload_n (pc := 118) rfl rfl ?_
    refine s_getA (pc := 119) rfl ko_262 (po_262_106 hp) ?_
    refine s_iload_n (pc := 122) rfl rfl ?_
    obtain ⟨hb4, hw⟩ := hw
    refine s_iald (pc := 123) rfl ka_325 (by decide) hb4 ?_
    refine s_iload_n (pc := 124) rfl rfl ?_
    refine s_iadd (pc := 125) rfl ?_
    refine s_aload_n (pc := 126) rfl rfl ?_
    refine s_getA (pc := 127) rfl ko_262 (po_262_79 hp) ?_
    refine s_iload_n (pc := 130) rfl rfl ?_
    obtain ⟨hb5, hw⟩ := hw
    refine s_iald (pc := 131) rfl ka_312 (by decide) hb5 ?_
    obtain ⟨hb6, hw⟩ := hw
    refine s_iast (pc := 132) rfl ka_340 (by decide) hb6 ?_
    refine s_iinc (pc := 133) (L' := [some (.ref 262), some (.int (iz x1)), some (.int (iz x2)), some (.int (iz (x3 + 1))), none]) rfl rfl (Nat.le_of_ble_eq_true rfl) rfl ?_
    refine s_goto (pc := 136) (tgt := 104) rfl rfl ?_
    exact hw

set_option maxRecDepth 20000 in
set_option maxHeartbeats 4000000 in
theorem b_Mdl_loads_141 {X : aX} {d : Nat} (x1 : Int) (x2 : Int) (x3 : Int)  (m : Mi) (J : Mj) (P : Mp) (hp : PP P) (post : Mi → Mj → Mp → Prop)
    (hw : Zr (x3) ∧ Zr (m 262 101) ∧ ((((m 262 101) ≤ x3) → post m J P) ∧ (¬ ((m 262 101) ≤ x3) → Ci X (d + 1) 202 [.ref 262, .int (iz x1), .int (iz x3)] m J P (fun z6 m3 J4 P5 => PP P5 ∧ ((0 : Int) ≤ ((6 * x1) + x3) ∧ (((6 * x1) + x3) : Int) < 6000) ∧ Ci X (d + 1) 166 [.ref 262, .ref 323, .int (iz z6), .int (iz (z6 + (m3 333 ((6 * x1) + x3).toNat))), .ref 308, .int (iz 0)] m3 J4 P5 (fun z12 m9 J10 P11 => PP P11 ∧ ((0 : Int) ≤ x3 ∧ (x3 : Int) < 6) ∧ Rn X (d + 2) 201 141 [some (.ref 262), some (.int (iz x1)), some (.int (iz x2)), some (.int (iz (x3 + 1))), none] [] (SS (mu m9 339 x3.toNat z12) J10 P11) (QV post)))))) : Rn X (d + 2) 201 141 [some (.ref 262), some (.int (iz x1)), some (.int (iz x2)), some (.int (iz x3)), none] [] (SS m J P) (QV post) := by
  refine s_iload_n (pc := 141) rfl rfl ?_
  refine s_aload_n (pc := 142) rfl rfl ?_
  refine s_getI (pc := 143) rfl ko_262 ?_
  obtain ⟨hz1, hw⟩ := hw
  obtain ⟨hz2, hw⟩ := hw
  refine s_ic_ge (pc := 146) (tgt := 198) rfl rfl hz1 hz2 (fun hc => ?_) (fun hc => ?_)
  · replace hw := hw.1 hc
    exact s_retv (pc := 198) rfl rfl hw
  · replace hw := hw.2 hc
    refine s_aload_n (pc := 149) rfl rfl ?_
    refine s_iload_n (pc := 150) rfl rfl ?_
    refine s_iload_n (pc := 151) rfl rfl ?_
    refine s_ci (pc := 152) (d := (d + 1)) (t := []) rfl rfl (am_ca_v (ps := [.int (iz x3), .int (iz x1)]) rfl ko_262) (Nat.le_of_ble_eq_true rfl) (Ci.weak hw fun z6 m3 J4 P5 hw => ?_)
    obtain ⟨hp7, hw⟩ := hw
    refine s_istore (pc := 155) (L' := [some (.ref 262), some (.int (iz x1)), some (.int (iz x2)), some (.int (iz x3)), some (.int (iz z6))]) rfl (Nat.le_of_ble_eq_true rfl) rfl ?_
    refine s_aload_n (pc := 157) rfl rfl ?_
    refine s_getA (pc := 158) rfl ko_262 (po_262_123 hp7) ?_
    refine s_iload_n (pc := 161) rfl rfl ?_
    refine s_aload_n (pc := 162) rfl rfl ?_
    refine s_aload_n (pc := 163) rfl rfl ?_
    refine s_getA (pc := 164) rfl ko_262 (po_262_104 hp7) ?_
    refine s_iload (pc := 167) rfl rfl ?_
    refine s_iload (pc := 169) rfl rfl ?_
    refine s_aload_n (pc := 171) rfl rfl ?_
    refine s_getA (pc := 172) rfl ko_262 (po_262_114 hp7) ?_
    refine s_bipush (pc := 175) rfl (by decide) ?_
    refine s_iload_n (pc := 177) rfl rfl ?_
    refine s_imul (pc := 178) rfl ?_
    refine s_iload_n (pc := 179) rfl rfl ?_
    refine s_iadd (pc := 180) rfl ?_
    obtain ⟨hb8, hw⟩ := hw
    refine s_iald (pc := 181) rfl ka_333 (by decide) hb8 ?_
    refine s_iadd (pc := 182) rfl ?_
    refine s_aload_n (pc := 183) rfl rfl ?_
    refine s_getA (pc := 184) rfl ko_262 (po_262_75 hp7) ?_
    refine s_iconst (pc := 187) rfl ?_
    refine s_ci (pc := 188) (d := (d + 1)) (t := [.int (iz x3), .ref 339]) rfl rfl (am_ca_v (ps := [.int (iz 0), .ref 308, .int (iz (z6 + (m3 333 ((6 * x1) + x3).toNat))), .int (iz z6), .ref 323]) rfl ko_262) (Nat.le_of_ble_eq_true rfl) (Ci.weak hw fun z12 m9 J10 P11 hw => ?_)
    obtain ⟨hp13, hw⟩ := hw
    obtain ⟨hb14, hw⟩ := hw
    refine s_iast (pc := 191) rfl ka_339 (by decide) hb14 ?_
    refine s_iinc (pc := 192) (L' := [some (.ref 262), some (.int (iz x1)), some (.int (iz x2)), some (.int (iz (x3 + 1))), some (.int (iz z6))]) rfl rfl (Nat.le_of_ble_eq_true rfl) rfl ?_
    refine s_goto (pc := 195) (tgt := 141) rfl rfl ?_
    exact Rn.weakL hw (LLe.keep _ (LLe.keep _ (LLe.keep _ (LLe.keep _ (LLe.drop _ (LLe.nil))))))

set_option maxRecDepth 20000 in
set_option maxHeartbeats 4000000 in
theorem b_Mdl_valueFrom_0 {X : aX} {d : Nat} (x1 : Int) (x2 : Int)  (m : Mi) (J : Mj) (P : Mp) (hp : PP P) (post : Int → Mi → Mj → Mp → Prop)
    (hw : ((0 : Int) ≤ x1 ∧ (x1 : Int) < 1000) ∧ ((0 : Int) ≤ x1 ∧ (x1 : Int) < 1000) ∧ ((0 : Int) ≤ x1 ∧ (x1 : Int) < 1000) ∧ Rn X d 202 24 [some (.ref 262), some (.int (iz x1)), some (.int (iz x2)), some (.int (iz (((m 324 x1.toNat) + (m 325 x1.toNat)) + (m 326 x1.toNat)))), some (.int (iz 0))] [] (SS m J P) (QI post)) : Rn X d 202 0 [some (.ref 262), some (.int (iz x1)), some (.int (iz x2)), none, none] [] (SS m J P) (QI post) := by
  refine s_aload_n (pc := 0) rfl rfl ?_
  refine s_getA (pc := 1) rfl ko_262 (po_262_105 hp) ?_
  refine s_iload_n (pc := 4) rfl rfl ?_
  obtain ⟨hb1, hw⟩ := hw
  refine s_iald (pc := 5) rfl ka_324 (by decide) hb1 ?_
  refine s_aload_n (pc := 6) rfl rfl ?_
  refine s_getA (pc := 7) rfl ko_262 (po_262_106 hp) ?_
  refine s_iload_n (pc := 10) rfl rfl ?_
  obtain ⟨hb2, hw⟩ := hw
  refine s_iald (pc := 11) rfl ka_325 (by decide) hb2 ?_
  refine s_iadd (pc := 12) rfl ?_
  refine s_aload_n (pc := 13) rfl rfl ?_
  refine s_getA (pc := 14) rfl ko_262 (po_262_107 hp) ?_
  refine s_iload_n (pc := 17) rfl rfl ?_
  obtain ⟨hb3, hw⟩ := hw
  refine s_iald (pc := 18) rfl ka_326 (by decide) hb3 ?_
  refine s_iadd (pc := 19) rfl ?_
  refine s_istore_n (pc := 20) (L' := [some (.ref 262), some (.int (iz x1)), some (.int (iz x2)), some (.int (iz (((m 324 x1.toNat) + (m 325 x1.toNat)) + (m 326 x1.toNat)))), none]) rfl (Nat.le_of_ble_eq_true rfl) rfl ?_
  refine s_iconst (pc := 21) rfl ?_
  refine s_istore (pc := 22) (L' := [some (.ref 262), some (.int (iz x1)), some (.int (iz x2)), some (.int (iz (((m 324 x1.toNat) + (m 325 x1.toNat)) + (m 326 x1.toNat)))), some (.int (iz 0))]) rfl (Nat.le_of_ble_eq_true rfl) rfl ?_
  exact hw

set_option maxRecDepth 20000 in
set_option maxHeartbeats 4000000 in
theorem b_Mdl_valueFrom_24 {X : aX} {d : Nat} (x1 : Int) (x2 : Int) (x3 : Int) (x4 : Int)  (m : Mi) (J : Mj) (P : Mp) (hp : PP P) (post : Int → Mi → Mj → Mp → Prop)
    (hw : Zr (x4) ∧ Zr (x2) ∧ (((x2 ≤ x4) → post x3 m J P) ∧ (¬ (x2 ≤ x4) → ((0 : Int) ≤ ((6 * x1) + x4) ∧ (((6 * x1) + x4) : Int) < 6000) ∧ Rn X d 202 24 [some (.ref 262), some (.int (iz x1)), some (.int (iz x2)), some (.int (iz (x3 + (m 333 ((6 * x1) + x4).toNat)))), some (.int (iz (x4 + 1)))] [] (SS m J P) (QI post)))) : Rn X d 202 24 [some (.ref 262), some (.int (iz x1)), some (.int (iz x2)), some (.int (iz x3)), some (.int (iz x4))] [] (SS m J P) (QI post) := by
  refine s_iload (pc := 24) rfl rfl ?_
  refine s_iload_n (pc := 26) rfl rfl ?_
  obtain ⟨hz1, hw⟩ := hw
  obtain ⟨hz2, hw⟩ := hw
  refine s_ic_ge (pc := 27) (tgt := 51) rfl rfl hz1 hz2 (fun hc => ?_) (fun hc => ?_)
  · replace hw := hw.1 hc
    refine s_iload_n (pc := 51) rfl rfl ?_
    exact s_reti (pc := 52) rfl rfl hw
  · replace hw := hw.2 hc
    refine s_iload_n (pc := 30) rfl rfl ?_
    refine s_aload_n (pc := 31) rfl rfl ?_
    refine s_getA (pc := 32) rfl ko_262 (po_262_114 hp) ?_
    refine s_bipush (pc := 35) rfl (by decide) ?_
    refine s_iload_n (pc := 37) rfl rfl ?_
    refine s_imul (pc := 38) rfl ?_
    refine s_iload (pc := 39) rfl rfl ?_
    refine s_iadd (pc := 41) rfl ?_
    obtain ⟨hb3, hw⟩ := hw
    refine s_iald (pc := 42) rfl ka_333 (by decide) hb3 ?_
    refine s_iadd (pc := 43) rfl ?_
    refine s_istore_n (pc := 44) (L' := [some (.ref 262), some (.int (iz x1)), some (.int (iz x2)), some (.int (iz (x3 + (m 333 ((6 * x1) + x4).toNat)))), some (.int (iz x4))]) rfl (Nat.le_of_ble_eq_true rfl) rfl ?_
    refine s_iinc (pc := 45) (L' := [some (.ref 262), some (.int (iz x1)), some (.int (iz x2)), some (.int (iz (x3 + (m 333 ((6 * x1) + x4).toNat)))), some (.int (iz (x4 + 1)))]) rfl rfl (Nat.le_of_ble_eq_true rfl) rfl ?_
    refine s_goto (pc := 48) (tgt := 24) rfl rfl ?_
    exact hw

set_option maxRecDepth 20000 in
set_option maxHeartbeats 4000000 in
theorem b_Mdl_expand_0 {X : aX} {d : Nat} (x1 : Int)  (m : Mi) (J : Mj) (P : Mp) (hp : PP P) (post : Int → Mi → Mj → Mp → Prop)
    (hw : Zr (m 262 93) ∧ ((((m 262 93) = 0) → post ((-1)) m J P) ∧ (¬ ((m 262 93) = 0) → Zr (x1) ∧ (((x1 < 1) → post ((-1)) m J P) ∧ (¬ (x1 < 1) → Zr (x1) ∧ (((x1 ≤ 100) → Rn X (d + 7) 203 22 [some (.ref 262), some (.int (iz x1)), some (.int (iz 0))] [] (SS m J P) (QI post)) ∧ (¬ (x1 ≤ 100) → post ((-1)) m J P))))))) : Rn X (d + 7) 203 0 [some (.ref 262), some (.int (iz x1)), none] [] (SS m J P) (QI post) := by
  refine s_aload_n (pc := 0) rfl rfl ?_
  refine s_getZ (pc := 1) rfl ko_262 ?_
  obtain ⟨hz1, hw⟩ := hw
  refine s_if_eq (pc := 4) (tgt := 18) rfl rfl hz1 (fun hc => ?_) (fun hc => ?_)
  · replace hw := hw.1 hc
    refine s_iconst (pc := 18) rfl ?_
    exact s_reti (pc := 19) rfl rfl hw
  · replace hw := hw.2 hc
    refine s_iload_n (pc := 7) rfl rfl ?_
    refine s_iconst (pc := 8) rfl ?_
    obtain ⟨hz2, hw⟩ := hw
    refine s_ic_lt (pc := 9) (tgt := 18) rfl rfl hz2 (by decide) (fun hc => ?_) (fun hc => ?_)
    · replace hw := hw.1 hc
      refine s_iconst (pc := 18) rfl ?_
      exact s_reti (pc := 19) rfl rfl hw
    · replace hw := hw.2 hc
      refine s_iload_n (pc := 12) rfl rfl ?_
      refine s_bipush (pc := 13) rfl (by decide) ?_
      obtain ⟨hz3, hw⟩ := hw
      refine s_ic_le (pc := 15) (tgt := 20) rfl rfl hz3 (by decide) (fun hc => ?_) (fun hc => ?_)
      · replace hw := hw.1 hc
        refine s_iconst (pc := 20) rfl ?_
        refine s_istore_n (pc := 21) (L' := [some (.ref 262), some (.int (iz x1)), some (.int (iz 0))]) rfl (Nat.le_of_ble_eq_true rfl) rfl ?_
        exact hw
      · replace hw := hw.2 hc
        refine s_iconst (pc := 18) rfl ?_
        exact s_reti (pc := 19) rfl rfl hw

set_option maxRecDepth 20000 in
set_option maxHeartbeats 4000000 in
theorem b_Mdl_expand_22 {X : aX} {d : Nat} (x1 : Int) (x2 : Int)  (m : Mi) (J : Mj) (P : Mp) (hp : PP P) (post : Int → Mi → Mj → Mp → Prop)
    (hw : Zr (x2) ∧ Zr (x1) ∧ (((x1 ≤ x2) → post x2 m J P) ∧ (¬ (x1 ≤ x2) → Zr (m 262 97) ∧ Zr (m 262 96) ∧ ((((m 262 96) ≤ (m 262 97)) → post x2 m J P) ∧ (¬ ((m 262 96) ≤ (m 262 97)) → Zr (m 262 95) ∧ (((¬ (m 262 95) = 0) → post x2 m J P) ∧ (¬ (¬ (m 262 95) = 0) → Ci X (d + 6) 204 [.ref 262, .int (iz (m 262 97))] m J P (fun z9 m6 J7 P8 => PP P8 ∧ Zr (z9) ∧ (((¬ z9 = 0) → Rn X (d + 7) 203 22 [some (.ref 262), some (.int (iz x1)), some (.int (iz (x2 + 1)))] [] (SS (mu m6 262 97 ((m6 262 97) + 1)) J7 P8) (QI post)) ∧ (¬ (¬ z9 = 0) → Rn X (d + 7) 203 22 [some (.ref 262), some (.int (iz x1)), some (.int (iz x2))] [] (SS m6 J7 P8) (QI post))))))))))) : Rn X (d + 7) 203 22 [some (.ref 262), some (.int (iz x1)), some (.int (iz x2))] [] (SS m J P) (QI post) := by
  refine s_iload_n (pc := 22) rfl rfl ?_
  refine s_iload_n (pc := 23) rfl rfl ?_
  obtain ⟨hz1, hw⟩ := hw
  obtain ⟨hz2, hw⟩ := hw
  refine s_ic_ge (pc := 24) (tgt := 75) rfl rfl hz1 hz2 (fun hc => ?_) (fun hc => ?_)
  · replace hw := hw.1 hc
    refine s_iload_n (pc := 75) rfl rfl ?_
    exact s_reti (pc := 76) rfl rfl hw
  · replace hw := hw.2 hc
    refine s_aload_n (pc := 27) rfl rfl ?_
    refine s_getI (pc := 28) rfl ko_262 ?_
    refine s_aload_n (pc := 31) rfl rfl ?_
    refine s_getI (pc := 32) rfl ko_262 ?_
    obtain ⟨hz3, hw⟩ := hw
    obtain ⟨hz4, hw⟩ := hw
    refine s_ic_ge (pc := 35) (tgt := 75) rfl rfl hz3 hz4 (fun hc => ?_) (fun hc => ?_)
    · replace hw := hw.1 hc
      refine s_iload_n (pc := 75) rfl rfl ?_
      exact s_reti (pc := 76) rfl rfl hw
    · replace hw := hw.2 hc
      refine s_aload_n (pc := 38) rfl rfl ?_
      refine s_getZ (pc := 39) rfl ko_262 ?_
      obtain ⟨hz5, hw⟩ := hw
      refine s_if_ne (pc := 42) (tgt := 75) rfl rfl hz5 (fun hc => ?_) (fun hc => ?_)
      · replace hw := hw.1 hc
        refine s_iload_n (pc := 75) rfl rfl ?_
        exact s_reti (pc := 76) rfl rfl hw
      · replace hw := hw.2 hc
        refine s_aload_n (pc := 45) rfl rfl ?_
        refine s_aload_n (pc := 46) rfl rfl ?_
        refine s_getI (pc := 47) rfl ko_262 ?_
        refine s_ci (pc := 50) (d := (d + 6)) (t := []) rfl rfl (am_ca_v (ps := [.int (iz (m 262 97))]) rfl ko_262) (Nat.le_of_ble_eq_true rfl) (Ci.weak hw fun z9 m6 J7 P8 hw => ?_)
        obtain ⟨hp10, hw⟩ := hw
        obtain ⟨hz11, hw⟩ := hw
        refine s_if_ne (pc := 53) (tgt := 59) rfl rfl hz11 (fun hc => ?_) (fun hc => ?_)
        · replace hw := hw.1 hc
          refine s_aload_n (pc := 59) rfl rfl ?_
          refine s_dup (pc := 60) rfl rfl ?_
          refine s_getI (pc := 61) rfl ko_262 ?_
          refine s_iconst (pc := 64) rfl ?_
          refine s_iadd (pc := 65) rfl ?_
          refine s_putI (pc := 66) rfl ko_262 ?_
          refine s_iinc (pc := 69) (L' := [some (.ref 262), some (.int (iz x1)), some (.int (iz (x2 + 1)))]) rfl rfl (Nat.le_of_ble_eq_true rfl) rfl ?_
          refine s_goto (pc := 72) (tgt := 22) rfl rfl ?_
          exact hw
        · replace hw := hw.2 hc
          refine s_goto (pc := 56) (tgt := 22) rfl rfl ?_
          exact hw

set_option maxRecDepth 20000 in
set_option maxHeartbeats 4000000 in
theorem b_Mdl_expands_0 {X : aX} {d : Nat} (x1 : Int)  (m : Mi) (J : Mj) (P : Mp) (hp : PP P) (post : Int → Mi → Mj → Mp → Prop)
    (hw : Rn X (d + 6) 204 2 [some (.ref 262), some (.int (iz x1)), some (.int (iz 0)), none, none] [] (SS m J P) (QI post)) : Rn X (d + 6) 204 0 [some (.ref 262), some (.int (iz x1)), none, none, none] [] (SS m J P) (QI post) := by
  refine s_iconst (pc := 0) rfl ?_
  refine s_istore_n (pc := 1) (L' := [some (.ref 262), some (.int (iz x1)), some (.int (iz 0)), none, none]) rfl (Nat.le_of_ble_eq_true rfl) rfl ?_
  exact hw

set_option maxRecDepth 20000 in
set_option maxHeartbeats 4000000 in
theorem b_Mdl_expands_2 {X : aX} {d : Nat} (x1 : Int) (x2 : Int)  (m : Mi) (J : Mj) (P : Mp) (hp : PP P) (post : Int → Mi → Mj → Mp → Prop)
    (hw : ((0 : Int) ≤ x1 ∧ (x1 : Int) < 1000) ∧ ((0 : Int) ≤ x1 ∧ (x1 : Int) < 1000) ∧ Zr (x2) ∧ Zr ((m 325 x1.toNat) + (m 326 x1.toNat)) ∧ (((((m 325 x1.toNat) + (m 326 x1.toNat)) ≤ x2) → post 1 m J P) ∧ (¬ (((m 325 x1.toNat) + (m 326 x1.toNat)) ≤ x2) → ((0 : Int) ≤ x1 ∧ (x1 : Int) < 1000) ∧ ((0 : Int) ≤ ((m 324 x1.toNat) + x2) ∧ (((m 324 x1.toNat) + x2) : Int) < 40000) ∧ Zr (m 323 ((m 324 x1.toNat) + x2).toNat) ∧ (((64 ≤ (m 323 ((m 324 x1.toNat) + x2).toNat)) → Rn X (d + 6) 204 45 [some (.ref 262), some (.int (iz x1)), some (.int (iz x2)), some (.int (iz (m 323 ((m 324 x1.toNat) + x2).toNat))), some (.int (iz 0))] [] (SS m J P) (QI post)) ∧ (¬ (64 ≤ (m 323 ((m 324 x1.toNat) + x2).toNat)) → Rn X (d + 6) 204 2 [some (.ref 262), some (.int (iz x1)), some (.int (iz (x2 + 1))), none, none] [] (SS m J P) (QI post)))))) : Rn X (d + 6) 204 2 [some (.ref 262), some (.int (iz x1)), some (.int (iz x2)), none, none] [] (SS m J P) (QI post) := by
  refine s_iload_n (pc := 2) rfl rfl ?_
  refine s_aload_n (pc := 3) rfl rfl ?_
  refine s_getA (pc := 4) rfl ko_262 (po_262_106 hp) ?_
  refine s_iload_n (pc := 7) rfl rfl ?_
  obtain ⟨hb1, hw⟩ := hw
  refine s_iald (pc := 8) rfl ka_325 (by decide) hb1 ?_
  refine s_aload_n (pc := 9) rfl rfl ?_
  refine s_getA (pc := 10) rfl ko_262 (po_262_107 hp) ?_
  refine s_iload_n (pc := 13) rfl rfl ?_
  obtain ⟨hb2, hw⟩ := hw
  refine s_iald (pc := 14) rfl ka_326 (by decide) hb2 ?_
  refine s_iadd (pc := 15) rfl ?_
  obtain ⟨hz3, hw⟩ := hw
  obtain ⟨hz4, hw⟩ := hw
  refine s_ic_ge (pc := 16) (tgt := 96) rfl rfl hz3 hz4 (fun hc => ?_) (fun hc => ?_)
  · replace hw := hw.1 hc
    refine s_iconst (pc := 96) rfl ?_
    exact s_retz (pc := 97) rfl rfl (by decide) hw
  · replace hw := hw.2 hc
    refine s_aload_n (pc := 19) rfl rfl ?_
    refine s_getA (pc := 20) rfl ko_262 (po_262_104 hp) ?_
    refine s_aload_n (pc := 23) rfl rfl ?_
    refine s_getA (pc := 24) rfl ko_262 (po_262_105 hp) ?_
    refine s_iload_n (pc := 27) rfl rfl ?_
    obtain ⟨hb5, hw⟩ := hw
    refine s_iald (pc := 28) rfl ka_324 (by decide) hb5 ?_
    refine s_iload_n (pc := 29) rfl rfl ?_
    refine s_iadd (pc := 30) rfl ?_
    obtain ⟨hb6, hw⟩ := hw
    refine s_iald (pc := 31) rfl ka_323 (by decide) hb6 ?_
    refine s_istore_n (pc := 32) (L' := [some (.ref 262), some (.int (iz x1)), some (.int (iz x2)), some (.int (iz (m 323 ((m 324 x1.toNat) + x2).toNat))), none]) rfl (Nat.le_of_ble_eq_true rfl) rfl ?_
    refine s_iload_n (pc := 33) rfl rfl ?_
    refine s_bipush (pc := 34) rfl (by decide) ?_
    obtain ⟨hz7, hw⟩ := hw
    refine s_ic_ge (pc := 36) (tgt := 42) rfl rfl hz7 (by decide) (fun hc => ?_) (fun hc => ?_)
    · replace hw := hw.1 hc
      refine s_iconst (pc := 42) rfl ?_
      refine s_istore (pc := 43) (L' := [some (.ref 262), some (.int (iz x1)), some (.int (iz x2)), some (.int (iz (m 323 ((m 324 x1.toNat) + x2).toNat))), some (.int (iz 0))]) rfl (Nat.le_of_ble_eq_true rfl) rfl ?_
      exact hw
    · replace hw := hw.2 hc
      refine s_goto (pc := 39) (tgt := 90) rfl rfl ?_
      refine s_iinc (pc := 90) (L' := [some (.ref 262), some (.int (iz x1)), some (.int (iz (x2 + 1))), some (.int (iz (m 323 ((m 324 x1.toNat) + x2).toNat))), none]) rfl rfl (Nat.le_of_ble_eq_true rfl) rfl ?_
      refine s_goto (pc := 93) (tgt := 2) rfl rfl ?_
      exact Rn.weakL hw (LLe.keep _ (LLe.keep _ (LLe.keep _ (LLe.drop _ (LLe.keep _ (LLe.nil))))))

set_option maxRecDepth 20000 in
set_option maxHeartbeats 4000000 in
theorem b_Mdl_expands_45 {X : aX} {d : Nat} (x1 : Int) (x2 : Int) (x3 : Int) (x4 : Int)  (m : Mi) (J : Mj) (P : Mp) (hp : PP P) (post : Int → Mi → Mj → Mp → Prop)
    (hw : Zr (x4) ∧ Zr (m 262 35) ∧ ((((m 262 35) ≤ x4) → Rn X (d + 6) 204 2 [some (.ref 262), some (.int (iz x1)), some (.int (iz (x2 + 1))), none, none] [] (SS m J P) (QI post)) ∧ (¬ ((m 262 35) ≤ x4) → ((0 : Int) ≤ (40 * x4) ∧ ((40 * x4) : Int) < 640) ∧ Zr (m 281 (40 * x4).toNat) ∧ Zr (x3 - 64) ∧ (((¬ (m 281 (40 * x4).toNat) = (x3 - 64)) → Rn X (d + 6) 204 45 [some (.ref 262), some (.int (iz x1)), some (.int (iz x2)), some (.int (iz x3)), some (.int (iz (x4 + 1)))] [] (SS m J P) (QI post)) ∧ (¬ (¬ (m 281 (40 * x4).toNat) = (x3 - 64)) → Ci X (d + 5) 205 [.ref 262, .int (iz x1), .int (iz x2), .int (iz x4)] m J P (fun z9 m6 J7 P8 => PP P8 ∧ Zr (z9) ∧ (((¬ z9 = 0) → Rn X (d + 6) 204 45 [some (.ref 262), some (.int (iz x1)), some (.int (iz x2)), some (.int (iz x3)), some (.int (iz (x4 + 1)))] [] (SS m6 J7 P8) (QI post)) ∧ (¬ (¬ z9 = 0) → post 0 m6 J7 P8)))))))) : Rn X (d + 6) 204 45 [some (.ref 262), some (.int (iz x1)), some (.int (iz x2)), some (.int (iz x3)), some (.int (iz x4))] [] (SS m J P) (QI post) := by
  refine s_iload (pc := 45) rfl rfl ?_
  refine s_aload_n (pc := 47) rfl rfl ?_
  refine s_getI (pc := 48) rfl ko_262 ?_
  obtain ⟨hz1, hw⟩ := hw
  obtain ⟨hz2, hw⟩ := hw
  refine s_ic_ge (pc := 51) (tgt := 90) rfl rfl hz1 hz2 (fun hc => ?_) (fun hc => ?_)
  · replace hw := hw.1 hc
    refine s_iinc (pc := 90) (L' := [some (.ref 262), some (.int (iz x1)), some (.int (iz (x2 + 1))), some (.int (iz x3)), some (.int (iz x4))]) rfl rfl (Nat.le_of_ble_eq_true rfl) rfl ?_
    refine s_goto (pc := 93) (tgt := 2) rfl rfl ?_
    exact Rn.weakL hw (LLe.keep _ (LLe.keep _ (LLe.keep _ (LLe.drop _ (LLe.drop _ (LLe.nil))))))
  · replace hw := hw.2 hc
    refine s_aload_n (pc := 54) rfl rfl ?_
    refine s_getA (pc := 55) rfl ko_262 (po_262_38 hp) ?_
    refine s_bipush (pc := 58) rfl (by decide) ?_
    refine s_iload (pc := 60) rfl rfl ?_
    refine s_imul (pc := 62) rfl ?_
    obtain ⟨hb3, hw⟩ := hw
    refine s_iald (pc := 63) rfl ka_281 (by decide) hb3 ?_
    refine s_iload_n (pc := 64) rfl rfl ?_
    refine s_bipush (pc := 65) rfl (by decide) ?_
    refine s_isub (pc := 67) rfl ?_
    obtain ⟨hz4, hw⟩ := hw
    obtain ⟨hz5, hw⟩ := hw
    refine s_ic_ne (pc := 68) (tgt := 84) rfl rfl hz4 hz5 (fun hc => ?_) (fun hc => ?_)
    · replace hw := hw.1 hc
      refine s_iinc (pc := 84) (L' := [some (.ref 262), some (.int (iz x1)), some (.int (iz x2)), some (.int (iz x3)), some (.int (iz (x4 + 1)))]) rfl rfl (Nat.le_of_ble_eq_true rfl) rfl ?_
      refine s_goto (pc := 87) (tgt := 45) rfl rfl ?_
      exact hw
    · replace hw := hw.2 hc
      refine s_aload_n (pc := 71) rfl rfl ?_
      refine s_iload_n (pc := 72) rfl rfl ?_
      refine s_iload_n (pc := 73) rfl rfl ?_
      refine s_iload (pc := 74) rfl rfl ?_
      refine s_ci (pc := 76) (d := (d + 5)) (t := []) rfl rfl (am_ca_v (ps := [.int (iz x4), .int (iz x2), .int (iz x1)]) rfl ko_262) (Nat.le_of_ble_eq_true rfl) (Ci.weak hw fun z9 m6 J7 P8 hw => ?_)
      obtain ⟨hp10, hw⟩ := hw
      obtain ⟨hz11, hw⟩ := hw
      refine s_if_ne (pc := 79) (tgt := 84) rfl rfl hz11 (fun hc => ?_) (fun hc => ?_)
      · replace hw := hw.1 hc
        refine s_iinc (pc := 84) (L' := [some (.ref 262), some (.int (iz x1)), some (.int (iz x2)), some (.int (iz x3)), some (.int (iz (x4 + 1)))]) rfl rfl (Nat.le_of_ble_eq_true rfl) rfl ?_
        refine s_goto (pc := 87) (tgt := 45) rfl rfl ?_
        exact hw
      · replace hw := hw.2 hc
        refine s_iconst (pc := 82) rfl ?_
        exact s_retz (pc := 83) rfl rfl (by decide) hw

set_option maxRecDepth 20000 in
set_option maxHeartbeats 4000000 in
theorem b_Mdl_narrows_0 {X : aX} {d : Nat} (x1 : Int) (x2 : Int) (x3 : Int)  (m : Mi) (J : Mj) (P : Mp) (hp : PP P) (post : Int → Mi → Mj → Mp → Prop)
    (hw : Cv X (d + 4) 201 [.ref 262, .int (iz x1)] m J P (fun m1 J2 P3 => PP P3 ∧ ((0 : Int) ≤ x3 ∧ (x3 : Int) < 16) ∧ Ci X (d + 4) 166 [.ref 262, .ref 281, .int (iz (40 * x3)), .int (iz ((40 * x3) + (m1 283 x3.toNat))), .ref 309, .int (iz 1)] m1 J2 P3 (fun z10 m7 J8 P9 => PP P9 ∧ ((0 : Int) ≤ x3 ∧ (x3 : Int) < 16) ∧ Ci X (d + 4) 166 [.ref 262, .ref 282, .int (iz (40 * x3)), .int (iz ((40 * x3) + (m7 284 x3.toNat))), .ref 309, .int (iz 1)] m7 J8 P9 (fun z16 m13 J14 P15 => PP P15 ∧ ((0 : Int) ≤ x2 ∧ (x2 : Int) < 200) ∧ Ci X (d + 4) 168 [.ref 262, .int (iz (m13 340 x2.toNat)), .int (iz z10)] m13 J14 P15 (fun z22 m19 J20 P21 => PP P21 ∧ Zr (z22) ∧ (((¬ z22 = 0) → ((m19 262 94) = 0 ∨ (m19 262 94) = 1) ∧ Cv X (d + 4) 171 [.ref 262] (mu m19 262 87 (m19 262 94)) J20 P21 (fun m26 J27 P28 => PP P28 ∧ Ci X (d + 4) 172 [.ref 262, .int (iz (m26 262 124)), .int (iz (m13 340 x2.toNat)), .int (iz z16), .int (iz 0), .int (iz 100), .ref 337, .int (iz 0)] m26 J27 P28 (fun z34 m31 J32 P33 => PP P33 ∧ Zr ((mu m31 262 120 z34) 262 120) ∧ (((0 ≤ ((mu m31 262 120 z34) 262 120)) → Ci X (d + 4) 172 [.ref 262, .int (iz ((mu m31 262 120 z34) 262 125)), .int (iz (m13 340 x2.toNat)), .int (iz z16), .int (iz 0), .int (iz 100), .ref 337, .int (iz ((mu m31 262 120 z34) 262 120))] (mu m31 262 120 z34) J32 P33 (fun z40 m37 J38 P39 => PP P39 ∧ Zr ((mu (mu m37 262 121 z40) 262 122 (((mu m37 262 121 z40) 262 120) + ((mu m37 262 121 z40) 262 121))) 262 121) ∧ (((((mu (mu m37 262 121 z40) 262 122 (((mu m37 262 121 z40) 262 120) + ((mu m37 262 121 z40) 262 121))) 262 121) < 0) → post 1 (mu (mu (mu m37 262 121 z40) 262 122 (((mu m37 262 121 z40) 262 120) + ((mu m37 262 121 z40) 262 121))) 262 99 (((mu (mu m37 262 121 z40) 262 122 (((mu m37 262 121 z40) 262 120) + ((mu m37 262 121 z40) 262 121))) 262 99) + 1)) J38 P39) ∧ (¬ (((mu (mu m37 262 121 z40) 262 122 (((mu m37 262 121 z40) 262 120) + ((mu m37 262 121 z40) 262 121))) 262 121) < 0) → Ci X (d + 4) 195 [.ref 262] (mu (mu m37 262 121 z40) 262 122 (((mu m37 262 121 z40) 262 120) + ((mu m37 262 121 z40) 262 121))) J38 P39 (fun z46 m43 J44 P45 => PP P45 ∧ Zr (z46) ∧ (((z46 = 0) → post 1 (mu m43 262 99 ((m43 262 99) + 1)) J44 P45) ∧ (¬ (z46 = 0) → Ci X (d + 4) 199 [.ref 262, .int (iz x1), .int (iz x2), .int (iz x3)] m43 J44 P45 (fun z52 m49 J50 P51 => PP P51 ∧ (z52 = 0 ∨ z52 = 1) ∧ post z52 m49 J50 P51)))))))) ∧ (¬ (0 ≤ ((mu m31 262 120 z34) 262 120)) → Zr ((mu (mu (mu m31 262 120 z34) 262 121 ((-1))) 262 122 (((mu (mu m31 262 120 z34) 262 121 ((-1))) 262 120) + ((mu (mu m31 262 120 z34) 262 121 ((-1))) 262 121))) 262 121) ∧ (((((mu (mu (mu m31 262 120 z34) 262 121 ((-1))) 262 122 (((mu (mu m31 262 120 z34) 262 121 ((-1))) 262 120) + ((mu (mu m31 262 120 z34) 262 121 ((-1))) 262 121))) 262 121) < 0) → post 1 (mu (mu (mu (mu m31 262 120 z34) 262 121 ((-1))) 262 122 (((mu (mu m31 262 120 z34) 262 121 ((-1))) 262 120) + ((mu (mu m31 262 120 z34) 262 121 ((-1))) 262 121))) 262 99 (((mu (mu (mu m31 262 120 z34) 262 121 ((-1))) 262 122 (((mu (mu m31 262 120 z34) 262 121 ((-1))) 262 120) + ((mu (mu m31 262 120 z34) 262 121 ((-1))) 262 121))) 262 99) + 1)) J32 P33) ∧ (¬ (((mu (mu (mu m31 262 120 z34) 262 121 ((-1))) 262 122 (((mu (mu m31 262 120 z34) 262 121 ((-1))) 262 120) + ((mu (mu m31 262 120 z34) 262 121 ((-1))) 262 121))) 262 121) < 0) → Ci X (d + 4) 195 [.ref 262] (mu (mu (mu m31 262 120 z34) 262 121 ((-1))) 262 122 (((mu (mu m31 262 120 z34) 262 121 ((-1))) 262 120) + ((mu (mu m31 262 120 z34) 262 121 ((-1))) 262 121))) J32 P33 (fun z58 m55 J56 P57 => PP P57 ∧ Zr (z58) ∧ (((z58 = 0) → post 1 (mu m55 262 99 ((m55 262 99) + 1)) J56 P57) ∧ (¬ (z58 = 0) → Ci X (d + 4) 199 [.ref 262, .int (iz x1), .int (iz x2), .int (iz x3)] m55 J56 P57 (fun z64 m61 J62 P63 => PP P63 ∧ (z64 = 0 ∨ z64 = 1) ∧ post z64 m61 J62 P63))))))))))) ∧ (¬ (¬ z22 = 0) → post 1 m19 J20 P21))))))) : Rn X (d + 5) 205 0 [some (.ref 262), some (.int (iz x1)), some (.int (iz x2)), some (.int (iz x3)), none, none, none, none] [] (SS m J P) (QI post) := by
  refine s_aload_n (pc := 0) rfl rfl ?_
  refine s_iload_n (pc := 1) rfl rfl ?_
  refine s_cv (pc := 2) (d := (d + 4)) (t := []) rfl rfl (am_ca_v (ps := [.int (iz x1)]) rfl ko_262) (Nat.le_of_ble_eq_true rfl) (Cv.weak hw fun m1 J2 P3 hw => ?_)
  obtain ⟨hp5, hw⟩ := hw
  refine s_aload_n (pc := 5) rfl rfl ?_
  refine s_aload_n (pc := 6) rfl rfl ?_
  refine s_getA (pc := 7) rfl ko_262 (po_262_38 hp5) ?_
  refine s_bipush (pc := 10) rfl (by decide) ?_
  refine s_iload_n (pc := 12) rfl rfl ?_
  refine s_imul (pc := 13) rfl ?_
  refine s_bipush (pc := 14) rfl (by decide) ?_
  refine s_iload_n (pc := 16) rfl rfl ?_
  refine s_imul (pc := 17) rfl ?_
  refine s_aload_n (pc := 18) rfl rfl ?_
  refine s_getA (pc := 19) rfl ko_262 (po_262_40 hp5) ?_
  refine s_iload_n (pc := 22) rfl rfl ?_
  obtain ⟨hb6, hw⟩ := hw
  refine s_iald (pc := 23) rfl ka_283 (by decide) hb6 ?_
  refine s_iadd (pc := 24) rfl ?_
  refine s_aload_n (pc := 25) rfl rfl ?_
  refine s_getA (pc := 26) rfl ko_262 (po_262_76 hp5) ?_
  refine s_iconst (pc := 29) rfl ?_
  refine s_ci (pc := 30) (d := (d + 4)) (t := []) rfl rfl (am_ca_v (ps := [.int (iz 1), .ref 309, .int (iz ((40 * x3) + (m1 283 x3.toNat))), .int (iz (40 * x3)), .ref 281]) rfl ko_262) (Nat.le_of_ble_eq_true rfl) (Ci.weak hw fun z10 m7 J8 P9 hw => ?_)
  obtain ⟨hp11, hw⟩ := hw
  refine s_istore (pc := 33) (L' := [some (.ref 262), some (.int (iz x1)), some (.int (iz x2)), some (.int (iz x3)), some (.int (iz z10)), none, none, none]) rfl (Nat.le_of_ble_eq_true rfl) rfl ?_
  refine s_aload_n (pc := 35) rfl rfl ?_
  refine s_aload_n (pc := 36) rfl rfl ?_
  refine s_getA (pc := 37) rfl ko_262 (po_262_39 hp11) ?_
  refine s_bipush (pc := 40) rfl (by decide) ?_
  refine s_iload_n (pc := 42) rfl rfl ?_
  refine s_imul (pc := 43) rfl ?_
  refine s_bipush (pc := 44) rfl (by decide) ?_
  refine s_iload_n (pc := 46) rfl rfl ?_
  refine s_imul (pc := 47) rfl ?_
  refine s_aload_n (pc := 48) rfl rfl ?_
  refine s_getA (pc := 49) rfl ko_262 (po_262_41 hp11) ?_
  refine s_iload_n (pc := 52) rfl rfl ?_
  obtain ⟨hb12, hw⟩ := hw
  refine s_iald (pc := 53) rfl ka_284 (by decide) hb12 ?_
  refine s_iadd (pc := 54) rfl ?_
  refine s_aload_n (pc := 55) rfl rfl ?_
  refine s_getA (pc := 56) rfl ko_262 (po_262_76 hp11) ?_
  refine s_iconst (pc := 59) rfl ?_
  refine s_ci (pc := 60) (d := (d + 4)) (t := []) rfl rfl (am_ca_v (ps := [.int (iz 1), .ref 309, .int (iz ((40 * x3) + (m7 284 x3.toNat))), .int (iz (40 * x3)), .ref 282]) rfl ko_262) (Nat.le_of_ble_eq_true rfl) (Ci.weak hw fun z16 m13 J14 P15 hw => ?_)
  obtain ⟨hp17, hw⟩ := hw
  refine s_istore (pc := 63) (L' := [some (.ref 262), some (.int (iz x1)), some (.int (iz x2)), some (.int (iz x3)), some (.int (iz z10)), some (.int (iz z16)), none, none]) rfl (Nat.le_of_ble_eq_true rfl) rfl ?_
  refine s_aload_n (pc := 65) rfl rfl ?_
  refine s_getA (pc := 66) rfl ko_262 (po_262_126 hp17) ?_
  refine s_iload_n (pc := 69) rfl rfl ?_
  obtain ⟨hb18, hw⟩ := hw
  refine s_iald (pc := 70) rfl ka_340 (by decide) hb18 ?_
  refine s_istore (pc := 71) (L' := [some (.ref 262), some (.int (iz x1)), some (.int (iz x2)), some (.int (iz x3)), some (.int (iz z10)), some (.int (iz z16)), some (.int (iz (m13 340 x2.toNat))), none]) rfl (Nat.le_of_ble_eq_true rfl) rfl ?_
  refine s_aload_n (pc := 73) rfl rfl ?_
  refine s_iload (pc := 74) rfl rfl ?_
  refine s_iload (pc := 76) rfl rfl ?_
  refine s_ci (pc := 78) (d := (d + 4)) (t := []) rfl rfl (am_ca_v (ps := [.int (iz z10), .int (iz (m13 340 x2.toNat))]) rfl ko_262) (Nat.le_of_ble_eq_true rfl) (Ci.weak hw fun z22 m19 J20 P21 hw => ?_)
  obtain ⟨hp23, hw⟩ := hw
  obtain ⟨hz24, hw⟩ := hw
  refine s_if_ne (pc := 81) (tgt := 86) rfl rfl hz24 (fun hc => ?_) (fun hc => ?_)
  · replace hw := hw.1 hc
    refine s_aload_n (pc := 86) rfl rfl ?_
    refine s_aload_n (pc := 87) rfl rfl ?_
    refine s_getZ (pc := 88) rfl ko_262 ?_
    obtain ⟨hv25, hw⟩ := hw
    refine s_putZ (pc := 91) rfl ko_262 hv25 ?_
    refine s_aload_n (pc := 94) rfl rfl ?_
    refine s_cv (pc := 95) (d := (d + 4)) (t := []) rfl rfl (am_ca_v (ps := []) rfl ko_262) (Nat.le_of_ble_eq_true rfl) (Cv.weak hw fun m26 J27 P28 hw => ?_)
    obtain ⟨hp30, hw⟩ := hw
    refine s_aload_n (pc := 98) rfl rfl ?_
    refine s_aload_n (pc := 99) rfl rfl ?_
    refine s_aload_n (pc := 100) rfl rfl ?_
    refine s_getI (pc := 101) rfl ko_262 ?_
    refine s_iload (pc := 104) rfl rfl ?_
    refine s_iload (pc := 106) rfl rfl ?_
    refine s_iconst (pc := 108) rfl ?_
    refine s_bipush (pc := 109) rfl (by decide) ?_
    refine s_aload_n (pc := 111) rfl rfl ?_
    refine s_getA (pc := 112) rfl ko_262 (po_262_118 hp30) ?_
    refine s_iconst (pc := 115) rfl ?_
    refine s_ci (pc := 116) (d := (d + 4)) (t := [.ref 262]) rfl rfl (am_ca_v (ps := [.int (iz 0), .ref 337, .int (iz 100), .int (iz 0), .int (iz z16), .int (iz (m13 340 x2.toNat)), .int (iz (m26 262 124))]) rfl ko_262) (Nat.le_of_ble_eq_true rfl) (Ci.weak hw fun z34 m31 J32 P33 hw => ?_)
    obtain ⟨hp35, hw⟩ := hw
    refine s_putI (pc := 119) rfl ko_262 ?_
    refine s_aload_n (pc := 122) rfl rfl ?_
    refine s_aload_n (pc := 123) rfl rfl ?_
    refine s_getI (pc := 124) rfl ko_262 ?_
    obtain ⟨hz36, hw⟩ := hw
    refine s_if_ge (pc := 127) (tgt := 134) rfl rfl hz36 (fun hc => ?_) (fun hc => ?_)
    · replace hw := hw.1 hc
      refine s_aload_n (pc := 134) rfl rfl ?_
      refine s_aload_n (pc := 135) rfl rfl ?_
      refine s_getI (pc := 136) rfl ko_262 ?_
      refine s_iload (pc := 139) rfl rfl ?_
      refine s_iload (pc := 141) rfl rfl ?_
      refine s_iconst (pc := 143) rfl ?_
      refine s_bipush (pc := 144) rfl (by decide) ?_
      refine s_aload_n (pc := 146) rfl rfl ?_
      refine s_getA (pc := 147) rfl ko_262 (po_262_118 hp35) ?_
      refine s_aload_n (pc := 150) rfl rfl ?_
      refine s_getI (pc := 151) rfl ko_262 ?_
      refine s_ci (pc := 154) (d := (d + 4)) (t := [.ref 262]) rfl rfl (am_ca_v (ps := [.int (iz ((mu m31 262 120 z34) 262 120)), .ref 337, .int (iz 100), .int (iz 0), .int (iz z16), .int (iz (m13 340 x2.toNat)), .int (iz ((mu m31 262 120 z34) 262 125))]) rfl ko_262) (Nat.le_of_ble_eq_true rfl) (Ci.weak hw fun z40 m37 J38 P39 hw => ?_)
      obtain ⟨hp41, hw⟩ := hw
      refine s_putI (pc := 157) rfl ko_262 ?_
      refine s_aload_n (pc := 160) rfl rfl ?_
      refine s_aload_n (pc := 161) rfl rfl ?_
      refine s_getI (pc := 162) rfl ko_262 ?_
      refine s_aload_n (pc := 165) rfl rfl ?_
      refine s_getI (pc := 166) rfl ko_262 ?_
      refine s_iadd (pc := 169) rfl ?_
      refine s_putI (pc := 170) rfl ko_262 ?_
      refine s_aload_n (pc := 173) rfl rfl ?_
      refine s_getI (pc := 174) rfl ko_262 ?_
      obtain ⟨hz42, hw⟩ := hw
      refine s_if_lt (pc := 177) (tgt := 191) rfl rfl hz42 (fun hc => ?_) (fun hc => ?_)
      · replace hw := hw.1 hc
        refine s_iconst (pc := 191) rfl ?_
        refine s_istore (pc := 192) (L' := [some (.ref 262), some (.int (iz x1)), some (.int (iz x2)), some (.int (iz x3)), some (.int (iz z10)), some (.int (iz z16)), some (.int (iz (m13 340 x2.toNat))), some (.int (iz 0))]) rfl (Nat.le_of_ble_eq_true rfl) rfl ?_
        refine s_iload (pc := 194) rfl rfl ?_
        refine s_if_ne (pc := 196) (tgt := 211) rfl rfl (by decide) (fun hc => ?_) (fun hc => ?_)
        · exact absurd hc (by decide)
        refine s_aload_n (pc := 199) rfl rfl ?_
        refine s_dup (pc := 200) rfl rfl ?_
        refine s_getI (pc := 201) rfl ko_262 ?_
        refine s_iconst (pc := 204) rfl ?_
        refine s_iadd (pc := 205) rfl ?_
        refine s_putI (pc := 206) rfl ko_262 ?_
        refine s_iconst (pc := 209) rfl ?_
        exact s_retz (pc := 210) rfl rfl (by decide) hw
      · replace hw := hw.2 hc
        refine s_aload_n (pc := 180) rfl rfl ?_
        refine s_ci (pc := 181) (d := (d + 4)) (t := []) rfl rfl (am_ca_v (ps := []) rfl ko_262) (Nat.le_of_ble_eq_true rfl) (Ci.weak hw fun z46 m43 J44 P45 hw => ?_)
        obtain ⟨hp47, hw⟩ := hw
        obtain ⟨hz48, hw⟩ := hw
        refine s_if_eq (pc := 184) (tgt := 191) rfl rfl hz48 (fun hc => ?_) (fun hc => ?_)
        · replace hw := hw.1 hc
          refine s_iconst (pc := 191) rfl ?_
          refine s_istore (pc := 192) (L' := [some (.ref 262), some (.int (iz x1)), some (.int (iz x2)), some (.int (iz x3)), some (.int (iz z10)), some (.int (iz z16)), some (.int (iz (m13 340 x2.toNat))), some (.int (iz 0))]) rfl (Nat.le_of_ble_eq_true rfl) rfl ?_
          refine s_iload (pc := 194) rfl rfl ?_
          refine s_if_ne (pc := 196) (tgt := 211) rfl rfl (by decide) (fun hc => ?_) (fun hc => ?_)
          · exact absurd hc (by decide)
          refine s_aload_n (pc := 199) rfl rfl ?_
          refine s_dup (pc := 200) rfl rfl ?_
          refine s_getI (pc := 201) rfl ko_262 ?_
          refine s_iconst (pc := 204) rfl ?_
          refine s_iadd (pc := 205) rfl ?_
          refine s_putI (pc := 206) rfl ko_262 ?_
          refine s_iconst (pc := 209) rfl ?_
          exact s_retz (pc := 210) rfl rfl (by decide) hw
        · replace hw := hw.2 hc
          refine s_iconst (pc := 187) rfl ?_
          refine s_goto (pc := 188) (tgt := 192) rfl rfl ?_
          refine s_istore (pc := 192) (L' := [some (.ref 262), some (.int (iz x1)), some (.int (iz x2)), some (.int (iz x3)), some (.int (iz z10)), some (.int (iz z16)), some (.int (iz (m13 340 x2.toNat))), some (.int (iz 1))]) rfl (Nat.le_of_ble_eq_true rfl) rfl ?_
          refine s_iload (pc := 194) rfl rfl ?_
          refine s_if_ne (pc := 196) (tgt := 211) rfl rfl (by decide) (fun hc => ?_) (fun hc => ?_)
          rotate_left
          · exact absurd hc (by decide)
          refine s_aload_n (pc := 211) rfl rfl ?_
          refine s_iload_n (pc := 212) rfl rfl ?_
          refine s_iload_n (pc := 213) rfl rfl ?_
          refine s_iload_n (pc := 214) rfl rfl ?_
          refine s_ci (pc := 215) (d := (d + 4)) (t := []) rfl rfl (am_ca_v (ps := [.int (iz x3), .int (iz x2), .int (iz x1)]) rfl ko_262) (Nat.le_of_ble_eq_true rfl) (Ci.weak hw fun z52 m49 J50 P51 hw => ?_)
          obtain ⟨hp53, hw⟩ := hw
          exact s_retz (pc := 218) rfl rfl hw.1 hw.2
    · replace hw := hw.2 hc
      refine s_iconst (pc := 130) rfl ?_
      refine s_goto (pc := 131) (tgt := 157) rfl rfl ?_
      refine s_putI (pc := 157) rfl ko_262 ?_
      refine s_aload_n (pc := 160) rfl rfl ?_
      refine s_aload_n (pc := 161) rfl rfl ?_
      refine s_getI (pc := 162) rfl ko_262 ?_
      refine s_aload_n (pc := 165) rfl rfl ?_
      refine s_getI (pc := 166) rfl ko_262 ?_
      refine s_iadd (pc := 169) rfl ?_
      refine s_putI (pc := 170) rfl ko_262 ?_
      refine s_aload_n (pc := 173) rfl rfl ?_
      refine s_getI (pc := 174) rfl ko_262 ?_
      obtain ⟨hz54, hw⟩ := hw
      refine s_if_lt (pc := 177) (tgt := 191) rfl rfl hz54 (fun hc => ?_) (fun hc => ?_)
      · replace hw := hw.1 hc
        refine s_iconst (pc := 191) rfl ?_
        refine s_istore (pc := 192) (L' := [some (.ref 262), some (.int (iz x1)), some (.int (iz x2)), some (.int (iz x3)), some (.int (iz z10)), some (.int (iz z16)), some (.int (iz (m13 340 x2.toNat))), some (.int (iz 0))]) rfl (Nat.le_of_ble_eq_true rfl) rfl ?_
        refine s_iload (pc := 194) rfl rfl ?_
        refine s_if_ne (pc := 196) (tgt := 211) rfl rfl (by decide) (fun hc => ?_) (fun hc => ?_)
        · exact absurd hc (by decide)
        refine s_aload_n (pc := 199) rfl rfl ?_
        refine s_dup (pc := 200) rfl rfl ?_
        refine s_getI (pc := 201) rfl ko_262 ?_
        refine s_iconst (pc := 204) rfl ?_
        refine s_iadd (pc := 205) rfl ?_
        refine s_putI (pc := 206) rfl ko_262 ?_
        refine s_iconst (pc := 209) rfl ?_
        exact s_retz (pc := 210) rfl rfl (by decide) hw
      · replace hw := hw.2 hc
        refine s_aload_n (pc := 180) rfl rfl ?_
        refine s_ci (pc := 181) (d := (d + 4)) (t := []) rfl rfl (am_ca_v (ps := []) rfl ko_262) (Nat.le_of_ble_eq_true rfl) (Ci.weak hw fun z58 m55 J56 P57 hw => ?_)
        obtain ⟨hp59, hw⟩ := hw
        obtain ⟨hz60, hw⟩ := hw
        refine s_if_eq (pc := 184) (tgt := 191) rfl rfl hz60 (fun hc => ?_) (fun hc => ?_)
        · replace hw := hw.1 hc
          refine s_iconst (pc := 191) rfl ?_
          refine s_istore (pc := 192) (L' := [some (.ref 262), some (.int (iz x1)), some (.int (iz x2)), some (.int (iz x3)), some (.int (iz z10)), some (.int (iz z16)), some (.int (iz (m13 340 x2.toNat))), some (.int (iz 0))]) rfl (Nat.le_of_ble_eq_true rfl) rfl ?_
          refine s_iload (pc := 194) rfl rfl ?_
          refine s_if_ne (pc := 196) (tgt := 211) rfl rfl (by decide) (fun hc => ?_) (fun hc => ?_)
          · exact absurd hc (by decide)
          refine s_aload_n (pc := 199) rfl rfl ?_
          refine s_dup (pc := 200) rfl rfl ?_
          refine s_getI (pc := 201) rfl ko_262 ?_
          refine s_iconst (pc := 204) rfl ?_
          refine s_iadd (pc := 205) rfl ?_
          refine s_putI (pc := 206) rfl ko_262 ?_
          refine s_iconst (pc := 209) rfl ?_
          exact s_retz (pc := 210) rfl rfl (by decide) hw
        · replace hw := hw.2 hc
          refine s_iconst (pc := 187) rfl ?_
          refine s_goto (pc := 188) (tgt := 192) rfl rfl ?_
          refine s_istore (pc := 192) (L' := [some (.ref 262), some (.int (iz x1)), some (.int (iz x2)), some (.int (iz x3)), some (.int (iz z10)), some (.int (iz z16)), some (.int (iz (m13 340 x2.toNat))), some (.int (iz 1))]) rfl (Nat.le_of_ble_eq_true rfl) rfl ?_
          refine s_iload (pc := 194) rfl rfl ?_
          refine s_if_ne (pc := 196) (tgt := 211) rfl rfl (by decide) (fun hc => ?_) (fun hc => ?_)
          rotate_left
          · exact absurd hc (by decide)
          refine s_aload_n (pc := 211) rfl rfl ?_
          refine s_iload_n (pc := 212) rfl rfl ?_
          refine s_iload_n (pc := 213) rfl rfl ?_
          refine s_iload_n (pc := 214) rfl rfl ?_
          refine s_ci (pc := 215) (d := (d + 4)) (t := []) rfl rfl (am_ca_v (ps := [.int (iz x3), .int (iz x2), .int (iz x1)]) rfl ko_262) (Nat.le_of_ble_eq_true rfl) (Ci.weak hw fun z64 m61 J62 P63 hw => ?_)
          obtain ⟨hp65, hw⟩ := hw
          exact s_retz (pc := 218) rfl rfl hw.1 hw.2
  · replace hw := hw.2 hc
    refine s_iconst (pc := 84) rfl ?_
    exact s_retz (pc := 85) rfl rfl (by decide) hw

set_option maxRecDepth 20000 in
set_option maxHeartbeats 4000000 in
theorem b_Mdl_tree_0 {X : aX} {d : Nat} (x1 : Int)  (m : Mi) (J : Mj) (P : Mp) (hp : PP P) (post : Int → Mi → Mj → Mp → Prop)
    (hw : Zr (x1) ∧ (((x1 < 0) → post ((-1)) m J P) ∧ (¬ (x1 < 0) → Zr (x1) ∧ (((x1 ≤ 6) → Zr (m 262 93) ∧ (((¬ (m 262 93) = 0) → Zr (x1) ∧ (((x1 = 0) → Zr (m 262 95) ∧ ((((m 262 95) = 0) → Zr (m 262 97) ∧ Zr (m 262 96) ∧ ((((m 262 96) ≤ (m 262 97)) → post 2 m J P) ∧ (¬ ((m 262 96) ≤ (m 262 97)) → post 1 m J P))) ∧ (¬ ((m 262 95) = 0) → post 3 m J P))) ∧ ((x1 = 1) → post (m 262 96) m J P) ∧ ((x1 = 2) → post (m 262 97) m J P) ∧ ((x1 = 3) → post (m 262 98) m J P) ∧ ((x1 = 4) → post (m 262 99) m J P) ∧ ((x1 = 5) → post (m 262 100) m J P) ∧ ((x1 < 0 ∨ 5 < x1) → post (m 262 101) m J P))) ∧ (¬ (¬ (m 262 93) = 0) → post 0 m J P))) ∧ (¬ (x1 ≤ 6) → post ((-1)) m J P))))) : Rn X d 206 0 [some (.ref 262), some (.int (iz x1))] [] (SS m J P) (QI post) := by
  refine s_iload_n (pc := 0) rfl rfl ?_
  obtain ⟨hz1, hw⟩ := hw
  refine s_if_lt (pc := 1) (tgt := 10) rfl rfl hz1 (fun hc => ?_) (fun hc => ?_)
  · replace hw := hw.1 hc
    refine s_iconst (pc := 10) rfl ?_
    exact s_reti (pc := 11) rfl rfl hw
  · replace hw := hw.2 hc
    refine s_iload_n (pc := 4) rfl rfl ?_
    refine s_bipush (pc := 5) rfl (by decide) ?_
    obtain ⟨hz2, hw⟩ := hw
    refine s_ic_le (pc := 7) (tgt := 12) rfl rfl hz2 (by decide) (fun hc => ?_) (fun hc => ?_)
    · replace hw := hw.1 hc
      refine s_aload_n (pc := 12) rfl rfl ?_
      refine s_getZ (pc := 13) rfl ko_262 ?_
      obtain ⟨hz3, hw⟩ := hw
      refine s_if_ne (pc := 16) (tgt := 21) rfl rfl hz3 (fun hc => ?_) (fun hc => ?_)
      · replace hw := hw.1 hc
        refine s_iload_n (pc := 21) rfl rfl ?_
        obtain ⟨hz4, hw⟩ := hw
        by_cases hs0 : x1 = 0
        · replace hw := hw.1 hs0
          refine s_tsw_at (pc := 22) (v := 0) (tgt := 60) rfl hz4 hs0 (by decide) rfl rfl ?_
          refine s_aload_n (pc := 60) rfl rfl ?_
          refine s_getZ (pc := 61) rfl ko_262 ?_
          obtain ⟨hz5, hw⟩ := hw
          refine s_if_eq (pc := 64) (tgt := 71) rfl rfl hz5 (fun hc => ?_) (fun hc => ?_)
          · replace hw := hw.1 hc
            refine s_aload_n (pc := 71) rfl rfl ?_
            refine s_getI (pc := 72) rfl ko_262 ?_
            refine s_aload_n (pc := 75) rfl rfl ?_
            refine s_getI (pc := 76) rfl ko_262 ?_
            obtain ⟨hz6, hw⟩ := hw
            obtain ⟨hz7, hw⟩ := hw
            refine s_ic_ge (pc := 79) (tgt := 86) rfl rfl hz6 hz7 (fun hc => ?_) (fun hc => ?_)
            · replace hw := hw.1 hc
              refine s_iconst (pc := 86) rfl ?_
              exact s_reti (pc := 87) rfl rfl hw
            · replace hw := hw.2 hc
              refine s_iconst (pc := 82) rfl ?_
              refine s_goto (pc := 83) (tgt := 87) rfl rfl ?_
              exact s_reti (pc := 87) rfl rfl hw
          · replace hw := hw.2 hc
            refine s_iconst (pc := 67) rfl ?_
            refine s_goto (pc := 68) (tgt := 87) rfl rfl ?_
            exact s_reti (pc := 87) rfl rfl hw
        replace hw := hw.2
        by_cases hs1 : x1 = 1
        · replace hw := hw.1 hs1
          refine s_tsw_at (pc := 22) (v := 1) (tgt := 88) rfl hz4 hs1 (by decide) rfl rfl ?_
          refine s_aload_n (pc := 88) rfl rfl ?_
          refine s_getI (pc := 89) rfl ko_262 ?_
          exact s_reti (pc := 92) rfl rfl hw
        replace hw := hw.2
        by_cases hs2 : x1 = 2
        · replace hw := hw.1 hs2
          refine s_tsw_at (pc := 22) (v := 2) (tgt := 93) rfl hz4 hs2 (by decide) rfl rfl ?_
          refine s_aload_n (pc := 93) rfl rfl ?_
          refine s_getI (pc := 94) rfl ko_262 ?_
          exact s_reti (pc := 97) rfl rfl hw
        replace hw := hw.2
        by_cases hs3 : x1 = 3
        · replace hw := hw.1 hs3
          refine s_tsw_at (pc := 22) (v := 3) (tgt := 98) rfl hz4 hs3 (by decide) rfl rfl ?_
          refine s_aload_n (pc := 98) rfl rfl ?_
          refine s_getI (pc := 99) rfl ko_262 ?_
          exact s_reti (pc := 102) rfl rfl hw
        replace hw := hw.2
        by_cases hs4 : x1 = 4
        · replace hw := hw.1 hs4
          refine s_tsw_at (pc := 22) (v := 4) (tgt := 103) rfl hz4 hs4 (by decide) rfl rfl ?_
          refine s_aload_n (pc := 103) rfl rfl ?_
          refine s_getI (pc := 104) rfl ko_262 ?_
          exact s_reti (pc := 107) rfl rfl hw
        replace hw := hw.2
        by_cases hs5 : x1 = 5
        · replace hw := hw.1 hs5
          refine s_tsw_at (pc := 22) (v := 5) (tgt := 108) rfl hz4 hs5 (by decide) rfl rfl ?_
          refine s_aload_n (pc := 108) rfl rfl ?_
          refine s_getI (pc := 109) rfl ko_262 ?_
          exact s_reti (pc := 112) rfl rfl hw
        replace hw := hw.2
        have hs : x1 < 0 ∨ 5 < x1 := by omega
        replace hw := hw hs
        refine s_tsw_out (pc := 22) (tgt := 113) rfl hz4 hs rfl ?_
        refine s_aload_n (pc := 113) rfl rfl ?_
        refine s_getI (pc := 114) rfl ko_262 ?_
        exact s_reti (pc := 117) rfl rfl hw
      · replace hw := hw.2 hc
        refine s_iconst (pc := 19) rfl ?_
        exact s_reti (pc := 20) rfl rfl hw
    · replace hw := hw.2 hc
      refine s_iconst (pc := 10) rfl ?_
      exact s_reti (pc := 11) rfl rfl hw

set_option maxRecDepth 20000 in
set_option maxHeartbeats 4000000 in
theorem b_Mdl_node_0 {X : aX} {d : Nat} (x1 : Int) (x2 : Int)  (m : Mi) (J : Mj) (P : Mp) (hp : PP P) (post : Int → Mi → Mj → Mp → Prop)
    (hw : Ci X d 208 [.ref 262, .int (iz x1)] m J P (fun z4 m1 J2 P3 => PP P3 ∧ Zr (z4) ∧ (((¬ z4 = 0) → Zr (x2) ∧ (((x2 = 0) → ((0 : Int) ≤ x1 ∧ (x1 : Int) < 1000) ∧ post (m1 327 x1.toNat) m1 J2 P3) ∧ ((x2 = 1) → ((0 : Int) ≤ x1 ∧ (x1 : Int) < 1000) ∧ post (m1 328 x1.toNat) m1 J2 P3) ∧ ((x2 = 2) → ((0 : Int) ≤ x1 ∧ (x1 : Int) < 1000) ∧ post (m1 329 x1.toNat) m1 J2 P3) ∧ ((x2 = 3) → ((0 : Int) ≤ x1 ∧ (x1 : Int) < 1000) ∧ post (m1 330 x1.toNat) m1 J2 P3) ∧ ((x2 = 4) → ((0 : Int) ≤ x1 ∧ (x1 : Int) < 1000) ∧ post (m1 325 x1.toNat) m1 J2 P3) ∧ ((x2 = 5) → ((0 : Int) ≤ x1 ∧ (x1 : Int) < 1000) ∧ post (m1 326 x1.toNat) m1 J2 P3) ∧ ((x2 = 6) → ((0 : Int) ≤ x1 ∧ (x1 : Int) < 1000) ∧ post (m1 331 x1.toNat) m1 J2 P3) ∧ ((x2 = 7) → ((0 : Int) ≤ x1 ∧ (x1 : Int) < 1000) ∧ post (m1 332 x1.toNat) m1 J2 P3) ∧ ((x2 < 0 ∨ 7 < x2) → post ((-1)) m1 J2 P3))) ∧ (¬ (¬ z4 = 0) → post ((-1)) m1 J2 P3)))) : Rn X (d + 1) 207 0 [some (.ref 262), some (.int (iz x1)), some (.int (iz x2))] [] (SS m J P) (QI post) := by
  refine s_aload_n (pc := 0) rfl rfl ?_
  refine s_iload_n (pc := 1) rfl rfl ?_
  refine s_ci (pc := 2) (d := d) (t := []) rfl rfl (am_ca_v (ps := [.int (iz x1)]) rfl ko_262) (Nat.le_of_ble_eq_true rfl) (Ci.weak hw fun z4 m1 J2 P3 hw => ?_)
  obtain ⟨hp5, hw⟩ := hw
  obtain ⟨hz6, hw⟩ := hw
  refine s_if_ne (pc := 5) (tgt := 10) rfl rfl hz6 (fun hc => ?_) (fun hc => ?_)
  · replace hw := hw.1 hc
    refine s_iload_n (pc := 10) rfl rfl ?_
    obtain ⟨hz7, hw⟩ := hw
    by_cases hs0 : x2 = 0
    · replace hw := hw.1 hs0
      refine s_tsw_at (pc := 11) (v := 0) (tgt := 56) rfl hz7 hs0 (by decide) rfl rfl ?_
      refine s_aload_n (pc := 56) rfl rfl ?_
      refine s_getA (pc := 57) rfl ko_262 (po_262_108 hp5) ?_
      refine s_iload_n (pc := 60) rfl rfl ?_
      obtain ⟨hb8, hw⟩ := hw
      refine s_iald (pc := 61) rfl ka_327 (by decide) hb8 ?_
      exact s_reti (pc := 62) rfl rfl hw
    replace hw := hw.2
    by_cases hs1 : x2 = 1
    · replace hw := hw.1 hs1
      refine s_tsw_at (pc := 11) (v := 1) (tgt := 63) rfl hz7 hs1 (by decide) rfl rfl ?_
      refine s_aload_n (pc := 63) rfl rfl ?_
      refine s_getA (pc := 64) rfl ko_262 (po_262_109 hp5) ?_
      refine s_iload_n (pc := 67) rfl rfl ?_
      obtain ⟨hb9, hw⟩ := hw
      refine s_iald (pc := 68) rfl ka_328 (by decide) hb9 ?_
      exact s_reti (pc := 69) rfl rfl hw
    replace hw := hw.2
    by_cases hs2 : x2 = 2
    · replace hw := hw.1 hs2
      refine s_tsw_at (pc := 11) (v := 2) (tgt := 70) rfl hz7 hs2 (by decide) rfl rfl ?_
      refine s_aload_n (pc := 70) rfl rfl ?_
      refine s_getA (pc := 71) rfl ko_262 (po_262_110 hp5) ?_
      refine s_iload_n (pc := 74) rfl rfl ?_
      obtain ⟨hb10, hw⟩ := hw
      refine s_iald (pc := 75) rfl ka_329 (by decide) hb10 ?_
      exact s_reti (pc := 76) rfl rfl hw
    replace hw := hw.2
    by_cases hs3 : x2 = 3
    · replace hw := hw.1 hs3
      refine s_tsw_at (pc := 11) (v := 3) (tgt := 77) rfl hz7 hs3 (by decide) rfl rfl ?_
      refine s_aload_n (pc := 77) rfl rfl ?_
      refine s_getA (pc := 78) rfl ko_262 (po_262_111 hp5) ?_
      refine s_iload_n (pc := 81) rfl rfl ?_
      obtain ⟨hb11, hw⟩ := hw
      refine s_iald (pc := 82) rfl ka_330 (by decide) hb11 ?_
      exact s_reti (pc := 83) rfl rfl hw
    replace hw := hw.2
    by_cases hs4 : x2 = 4
    · replace hw := hw.1 hs4
      refine s_tsw_at (pc := 11) (v := 4) (tgt := 84) rfl hz7 hs4 (by decide) rfl rfl ?_
      refine s_aload_n (pc := 84) rfl rfl ?_
      refine s_getA (pc := 85) rfl ko_262 (po_262_106 hp5) ?_
      refine s_iload_n (pc := 88) rfl rfl ?_
      obtain ⟨hb12, hw⟩ := hw
      refine s_iald (pc := 89) rfl ka_325 (by decide) hb12 ?_
      exact s_reti (pc := 90) rfl rfl hw
    replace hw := hw.2
    by_cases hs5 : x2 = 5
    · replace hw := hw.1 hs5
      refine s_tsw_at (pc := 11) (v := 5) (tgt := 91) rfl hz7 hs5 (by decide) rfl rfl ?_
      refine s_aload_n (pc := 91) rfl rfl ?_
      refine s_getA (pc := 92) rfl ko_262 (po_262_107 hp5) ?_
      refine s_iload_n (pc := 95) rfl rfl ?_
      obtain ⟨hb13, hw⟩ := hw
      refine s_iald (pc := 96) rfl ka_326 (by decide) hb13 ?_
      exact s_reti (pc := 97) rfl rfl hw
    replace hw := hw.2
    by_cases hs6 : x2 = 6
    · replace hw := hw.1 hs6
      refine s_tsw_at (pc := 11) (v := 6) (tgt := 98) rfl hz7 hs6 (by decide) rfl rfl ?_
      refine s_aload_n (pc := 98) rfl rfl ?_
      refine s_getA (pc := 99) rfl ko_262 (po_262_112 hp5) ?_
      refine s_iload_n (pc := 102) rfl rfl ?_
      obtain ⟨hb14, hw⟩ := hw
      refine s_iald (pc := 103) rfl ka_331 (by decide) hb14 ?_
      exact s_reti (pc := 104) rfl rfl hw
    replace hw := hw.2
    by_cases hs7 : x2 = 7
    · replace hw := hw.1 hs7
      refine s_tsw_at (pc := 11) (v := 7) (tgt := 105) rfl hz7 hs7 (by decide) rfl rfl ?_
      refine s_aload_n (pc := 105) rfl rfl ?_
      refine s_getA (pc := 106) rfl ko_262 (po_262_113 hp5) ?_
      refine s_iload_n (pc := 109) rfl rfl ?_
      obtain ⟨hb15, hw⟩ := hw
      refine s_iald (pc := 110) rfl ka_332 (by decide) hb15 ?_
      exact s_reti (pc := 111) rfl rfl hw
    replace hw := hw.2
    have hs : x2 < 0 ∨ 7 < x2 := by omega
    replace hw := hw hs
    refine s_tsw_out (pc := 11) (tgt := 112) rfl hz7 hs rfl ?_
    refine s_iconst (pc := 112) rfl ?_
    exact s_reti (pc := 113) rfl rfl hw
  · replace hw := hw.2 hc
    refine s_iconst (pc := 8) rfl ?_
    exact s_reti (pc := 9) rfl rfl hw

set_option maxRecDepth 20000 in
set_option maxHeartbeats 4000000 in
theorem b_Mdl_isNode_0 {X : aX} {d : Nat} (x1 : Int)  (m : Mi) (J : Mj) (P : Mp) (hp : PP P) (post : Int → Mi → Mj → Mp → Prop)
    (hw : Zr (m 262 93) ∧ ((((m 262 93) = 0) → post 0 m J P) ∧ (¬ ((m 262 93) = 0) → Zr (x1) ∧ (((x1 < 0) → post 0 m J P) ∧ (¬ (x1 < 0) → Zr (x1) ∧ Zr (m 262 96) ∧ ((((m 262 96) ≤ x1) → post 0 m J P) ∧ (¬ ((m 262 96) ≤ x1) → post 1 m J P))))))) : Rn X d 208 0 [some (.ref 262), some (.int (iz x1))] [] (SS m J P) (QI post) := by
  refine s_aload_n (pc := 0) rfl rfl ?_
  refine s_getZ (pc := 1) rfl ko_262 ?_
  obtain ⟨hz1, hw⟩ := hw
  refine s_if_eq (pc := 4) (tgt := 23) rfl rfl hz1 (fun hc => ?_) (fun hc => ?_)
  · replace hw := hw.1 hc
    refine s_iconst (pc := 23) rfl ?_
    exact s_retz (pc := 24) rfl rfl (by decide) hw
  · replace hw := hw.2 hc
    refine s_iload_n (pc := 7) rfl rfl ?_
    obtain ⟨hz2, hw⟩ := hw
    refine s_if_lt (pc := 8) (tgt := 23) rfl rfl hz2 (fun hc => ?_) (fun hc => ?_)
    · replace hw := hw.1 hc
      refine s_iconst (pc := 23) rfl ?_
      exact s_retz (pc := 24) rfl rfl (by decide) hw
    · replace hw := hw.2 hc
      refine s_iload_n (pc := 11) rfl rfl ?_
      refine s_aload_n (pc := 12) rfl rfl ?_
      refine s_getI (pc := 13) rfl ko_262 ?_
      obtain ⟨hz3, hw⟩ := hw
      obtain ⟨hz4, hw⟩ := hw
      refine s_ic_ge (pc := 16) (tgt := 23) rfl rfl hz3 hz4 (fun hc => ?_) (fun hc => ?_)
      · replace hw := hw.1 hc
        refine s_iconst (pc := 23) rfl ?_
        exact s_retz (pc := 24) rfl rfl (by decide) hw
      · replace hw := hw.2 hc
        refine s_iconst (pc := 19) rfl ?_
        refine s_goto (pc := 20) (tgt := 24) rfl rfl ?_
        exact s_retz (pc := 24) rfl rfl (by decide) hw

set_option maxRecDepth 20000 in
set_option maxHeartbeats 4000000 in
theorem b_Mdl_answer_0 {X : aX} {d : Nat} (x1 : Int) (x2 : Int)  (m : Mi) (J : Mj) (P : Mp) (hp : PP P) (post : Int → Mi → Mj → Mp → Prop)
    (hw : Ci X (d + 5) 210 [.ref 262, .int (iz x1)] m J P (fun z4 m1 J2 P3 => PP P3 ∧ Zr (z4) ∧ (((z4 = 0) → post ((-1)) m1 J2 P3) ∧ (¬ (z4 = 0) → Zr (x2) ∧ (((x2 < 0) → post ((-1)) m1 J2 P3) ∧ (¬ (x2 < 0) → Zr (x2) ∧ (((x2 ≤ 1) → Zr (x2) ∧ (((¬ x2 = 0) → ((0 : Int) ≤ 0 ∧ (0 : Int) < 1000) ∧ ((0 : Int) ≤ 0 ∧ (0 : Int) < 1000) ∧ Ci X (d + 5) 211 [.ref 262, .int (iz x1), .int (iz (m1 324 (0 : Int).toNat)), .int (iz (m1 325 (0 : Int).toNat)), .ref 343] m1 J2 P3 (fun z15 m12 J13 P14 => PP P14 ∧ ((0 : Int) ≤ 0 ∧ (0 : Int) < 1000) ∧ ((0 : Int) ≤ 0 ∧ (0 : Int) < 1000) ∧ ((0 : Int) ≤ 0 ∧ (0 : Int) < 1000) ∧ Ci X (d + 5) 211 [.ref 262, .int (iz x1), .int (iz ((m12 324 (0 : Int).toNat) + (m12 325 (0 : Int).toNat))), .int (iz (m12 326 (0 : Int).toNat)), .ref 344] m12 J13 P14 (fun z23 m20 J21 P22 => PP P22 ∧ Ci X (d + 5) 173 [.ref 262, .ref 343, .int (iz z15), .ref 344, .int (iz z23)] m20 J21 P22 (fun z28 m25 J26 P27 => PP P27 ∧ post z28 m25 J26 P27)))) ∧ (¬ (¬ x2 = 0) → ((0 : Int) ≤ x1 ∧ (x1 : Int) < 300) ∧ post (m1 334 x1.toNat) m1 J2 P3))) ∧ (¬ (x2 ≤ 1) → post ((-1)) m1 J2 P3)))))))) : Rn X (d + 6) 209 0 [some (.ref 262), some (.int (iz x1)), some (.int (iz x2)), none, none] [] (SS m J P) (QI post) := by
  refine s_aload_n (pc := 0) rfl rfl ?_
  refine s_iload_n (pc := 1) rfl rfl ?_
  refine s_ci (pc := 2) (d := (d + 5)) (t := []) rfl rfl (am_ca_v (ps := [.int (iz x1)]) rfl ko_262) (Nat.le_of_ble_eq_true rfl) (Ci.weak hw fun z4 m1 J2 P3 hw => ?_)
  obtain ⟨hp5, hw⟩ := hw
  obtain ⟨hz6, hw⟩ := hw
  refine s_if_eq (pc := 5) (tgt := 17) rfl rfl hz6 (fun hc => ?_) (fun hc => ?_)
  · replace hw := hw.1 hc
    refine s_iconst (pc := 17) rfl ?_
    exact s_reti (pc := 18) rfl rfl hw
  · replace hw := hw.2 hc
    refine s_iload_n (pc := 8) rfl rfl ?_
    obtain ⟨hz7, hw⟩ := hw
    refine s_if_lt (pc := 9) (tgt := 17) rfl rfl hz7 (fun hc => ?_) (fun hc => ?_)
    · replace hw := hw.1 hc
      refine s_iconst (pc := 17) rfl ?_
      exact s_reti (pc := 18) rfl rfl hw
    · replace hw := hw.2 hc
      refine s_iload_n (pc := 12) rfl rfl ?_
      refine s_iconst (pc := 13) rfl ?_
      obtain ⟨hz8, hw⟩ := hw
      refine s_ic_le (pc := 14) (tgt := 19) rfl rfl hz8 (by decide) (fun hc => ?_) (fun hc => ?_)
      · replace hw := hw.1 hc
        refine s_iload_n (pc := 19) rfl rfl ?_
        obtain ⟨hz9, hw⟩ := hw
        refine s_if_ne (pc := 20) (tgt := 30) rfl rfl hz9 (fun hc => ?_) (fun hc => ?_)
        · replace hw := hw.1 hc
          refine s_aload_n (pc := 30) rfl rfl ?_
          refine s_iload_n (pc := 31) rfl rfl ?_
          refine s_aload_n (pc := 32) rfl rfl ?_
          refine s_getA (pc := 33) rfl ko_262 (po_262_105 hp5) ?_
          refine s_iconst (pc := 36) rfl ?_
          obtain ⟨hb10, hw⟩ := hw
          refine s_iald (pc := 37) rfl ka_324 (by decide) hb10 ?_
          refine s_aload_n (pc := 38) rfl rfl ?_
          refine s_getA (pc := 39) rfl ko_262 (po_262_106 hp5) ?_
          refine s_iconst (pc := 42) rfl ?_
          obtain ⟨hb11, hw⟩ := hw
          refine s_iald (pc := 43) rfl ka_325 (by decide) hb11 ?_
          refine s_aload_n (pc := 44) rfl rfl ?_
          refine s_getA (pc := 45) rfl ko_262 (po_262_131 hp5) ?_
          refine s_ci (pc := 48) (d := (d + 5)) (t := []) rfl rfl (am_ca_v (ps := [.ref 343, .int (iz (m1 325 (0 : Int).toNat)), .int (iz (m1 324 (0 : Int).toNat)), .int (iz x1)]) rfl ko_262) (Nat.le_of_ble_eq_true rfl) (Ci.weak hw fun z15 m12 J13 P14 hw => ?_)
          obtain ⟨hp16, hw⟩ := hw
          refine s_istore_n (pc := 51) (L' := [some (.ref 262), some (.int (iz x1)), some (.int (iz x2)), some (.int (iz z15)), none]) rfl (Nat.le_of_ble_eq_true rfl) rfl ?_
          refine s_aload_n (pc := 52) rfl rfl ?_
          refine s_iload_n (pc := 53) rfl rfl ?_
          refine s_aload_n (pc := 54) rfl rfl ?_
          refine s_getA (pc := 55) rfl ko_262 (po_262_105 hp16) ?_
          refine s_iconst (pc := 58) rfl ?_
          obtain ⟨hb17, hw⟩ := hw
          refine s_iald (pc := 59) rfl ka_324 (by decide) hb17 ?_
          refine s_aload_n (pc := 60) rfl rfl ?_
          refine s_getA (pc := 61) rfl ko_262 (po_262_106 hp16) ?_
          refine s_iconst (pc := 64) rfl ?_
          obtain ⟨hb18, hw⟩ := hw
          refine s_iald (pc := 65) rfl ka_325 (by decide) hb18 ?_
          refine s_iadd (pc := 66) rfl ?_
          refine s_aload_n (pc := 67) rfl rfl ?_
          refine s_getA (pc := 68) rfl ko_262 (po_262_107 hp16) ?_
          refine s_iconst (pc := 71) rfl ?_
          obtain ⟨hb19, hw⟩ := hw
          refine s_iald (pc := 72) rfl ka_326 (by decide) hb19 ?_
          refine s_aload_n (pc := 73) rfl rfl ?_
          refine s_getA (pc := 74) rfl ko_262 (po_262_132 hp16) ?_
          refine s_ci (pc := 77) (d := (d + 5)) (t := []) rfl rfl (am_ca_v (ps := [.ref 344, .int (iz (m12 326 (0 : Int).toNat)), .int (iz ((m12 324 (0 : Int).toNat) + (m12 325 (0 : Int).toNat))), .int (iz x1)]) rfl ko_262) (Nat.le_of_ble_eq_true rfl) (Ci.weak hw fun z23 m20 J21 P22 hw => ?_)
          obtain ⟨hp24, hw⟩ := hw
          refine s_istore (pc := 80) (L' := [some (.ref 262), some (.int (iz x1)), some (.int (iz x2)), some (.int (iz z15)), some (.int (iz z23))]) rfl (Nat.le_of_ble_eq_true rfl) rfl ?_
          refine s_aload_n (pc := 82) rfl rfl ?_
          refine s_aload_n (pc := 83) rfl rfl ?_
          refine s_getA (pc := 84) rfl ko_262 (po_262_131 hp24) ?_
          refine s_iload_n (pc := 87) rfl rfl ?_
          refine s_aload_n (pc := 88) rfl rfl ?_
          refine s_getA (pc := 89) rfl ko_262 (po_262_132 hp24) ?_
          refine s_iload (pc := 92) rfl rfl ?_
          refine s_ci (pc := 94) (d := (d + 5)) (t := []) rfl rfl (am_ca_v (ps := [.int (iz z23), .ref 344, .int (iz z15), .ref 343]) rfl ko_262) (Nat.le_of_ble_eq_true rfl) (Ci.weak hw fun z28 m25 J26 P27 hw => ?_)
          obtain ⟨hp29, hw⟩ := hw
          exact s_reti (pc := 97) rfl rfl hw
        · replace hw := hw.2 hc
          refine s_aload_n (pc := 23) rfl rfl ?_
          refine s_getA (pc := 24) rfl ko_262 (po_262_115 hp5) ?_
          refine s_iload_n (pc := 27) rfl rfl ?_
          obtain ⟨hb30, hw⟩ := hw
          refine s_iald (pc := 28) rfl ka_334 (by decide) hb30 ?_
          exact s_reti (pc := 29) rfl rfl hw
      · replace hw := hw.2 hc
        refine s_iconst (pc := 17) rfl ?_
        exact s_reti (pc := 18) rfl rfl hw

set_option maxRecDepth 20000 in
set_option maxHeartbeats 4000000 in
theorem b_Mdl_isAnswer_0 {X : aX} {d : Nat} (x1 : Int)  (m : Mi) (J : Mj) (P : Mp) (hp : PP P) (post : Int → Mi → Mj → Mp → Prop)
    (hw : Zr (m 262 93) ∧ ((((m 262 93) = 0) → post 0 m J P) ∧ (¬ ((m 262 93) = 0) → Zr (x1) ∧ (((x1 < 0) → post 0 m J P) ∧ (¬ (x1 < 0) → Zr (x1) ∧ Zr (m 262 98) ∧ ((((m 262 98) ≤ x1) → post 0 m J P) ∧ (¬ ((m 262 98) ≤ x1) → post 1 m J P))))))) : Rn X d 210 0 [some (.ref 262), some (.int (iz x1))] [] (SS m J P) (QI post) := by
  refine s_aload_n (pc := 0) rfl rfl ?_
  refine s_getZ (pc := 1) rfl ko_262 ?_
  obtain ⟨hz1, hw⟩ := hw
  refine s_if_eq (pc := 4) (tgt := 23) rfl rfl hz1 (fun hc => ?_) (fun hc => ?_)
  · replace hw := hw.1 hc
    refine s_iconst (pc := 23) rfl ?_
    exact s_retz (pc := 24) rfl rfl (by decide) hw
  · replace hw := hw.2 hc
    refine s_iload_n (pc := 7) rfl rfl ?_
    obtain ⟨hz2, hw⟩ := hw
    refine s_if_lt (pc := 8) (tgt := 23) rfl rfl hz2 (fun hc => ?_) (fun hc => ?_)
    · replace hw := hw.1 hc
      refine s_iconst (pc := 23) rfl ?_
      exact s_retz (pc := 24) rfl rfl (by decide) hw
    · replace hw := hw.2 hc
      refine s_iload_n (pc := 11) rfl rfl ?_
      refine s_aload_n (pc := 12) rfl rfl ?_
      refine s_getI (pc := 13) rfl ko_262 ?_
      obtain ⟨hz3, hw⟩ := hw
      obtain ⟨hz4, hw⟩ := hw
      refine s_ic_ge (pc := 16) (tgt := 23) rfl rfl hz3 hz4 (fun hc => ?_) (fun hc => ?_)
      · replace hw := hw.1 hc
        refine s_iconst (pc := 23) rfl ?_
        exact s_retz (pc := 24) rfl rfl (by decide) hw
      · replace hw := hw.2 hc
        refine s_iconst (pc := 19) rfl ?_
        refine s_goto (pc := 20) (tgt := 24) rfl rfl ?_
        exact s_retz (pc := 24) rfl rfl (by decide) hw

set_option maxRecDepth 20000 in
set_option maxHeartbeats 4000000 in
theorem b_Mdl_puts_0 {X : aX} {d : Nat} (x1 : Int) (x2 : Int) (x3 : Int) (x4 nx4 : Nat) (kx4 : am_kd an_K x4 = some (.inr (0, nx4))) (bx4 : nx4 ≤ 100000) (m : Mi) (J : Mj) (P : Mp) (hp : PP P) (post : Int → Mi → Mj → Mp → Prop)
    (hw : Rn X (d + 1) 211 6 [some (.ref 262), some (.int (iz x1)), some (.int (iz x2)), some (.int (iz x3)), some (.ref x4), some (.int (iz 0)), some (.int (iz x2)), none, none, none, none] [] (SS m J P) (QI post)) : Rn X (d + 1) 211 0 [some (.ref 262), some (.int (iz x1)), some (.int (iz x2)), some (.int (iz x3)), some (.ref x4), none, none, none, none, none, none] [] (SS m J P) (QI post) := by
  refine s_iconst (pc := 0) rfl ?_
  refine s_istore (pc := 1) (L' := [some (.ref 262), some (.int (iz x1)), some (.int (iz x2)), some (.int (iz x3)), some (.ref x4), some (.int (iz 0)), none, none, none, none, none]) rfl (Nat.le_of_ble_eq_true rfl) rfl ?_
  refine s_iload_n (pc := 3) rfl rfl ?_
  refine s_istore (pc := 4) (L' := [some (.ref 262), some (.int (iz x1)), some (.int (iz x2)), some (.int (iz x3)), some (.ref x4), some (.int (iz 0)), some (.int (iz x2)), none, none, none, none]) rfl (Nat.le_of_ble_eq_true rfl) rfl ?_
  exact hw

set_option maxRecDepth 20000 in
set_option maxHeartbeats 4000000 in
theorem b_Mdl_puts_6 {X : aX} {d : Nat} (x1 : Int) (x2 : Int) (x3 : Int) (x4 nx4 : Nat) (x5 : Int) (x6 : Int) (kx4 : am_kd an_K x4 = some (.inr (0, nx4))) (bx4 : nx4 ≤ 100000) (m : Mi) (J : Mj) (P : Mp) (hp : PP P) (post : Int → Mi → Mj → Mp → Prop)
    (hw : Zr (x6) ∧ Zr (x2 + x3) ∧ ((((x2 + x3) ≤ x6) → post x5 m J P) ∧ (¬ ((x2 + x3) ≤ x6) → ((0 : Int) ≤ x6 ∧ (x6 : Int) < 40000) ∧ Zr (m 323 x6.toNat) ∧ (((0 ≤ (m 323 x6.toNat)) → Zr (m 323 x6.toNat) ∧ (((0 ≤ (m 323 x6.toNat)) → Zr (x5 + 1) ∧ ((((x5 + 1) ≤ 200) → Rn X (d + 1) 211 84 [some (.ref 262), some (.int (iz x1)), some (.int (iz x2)), some (.int (iz x3)), some (.ref x4), some (.int (iz x5)), some (.int (iz x6)), some (.int (iz (m 323 x6.toNat))), some (.int (iz ((-1)))), some (.int (iz 1)), some (.int (iz 0))] [] (SS m J P) (QI post)) ∧ (¬ ((x5 + 1) ≤ 200) → post ((-1)) m J P))) ∧ (¬ (0 ≤ (m 323 x6.toNat)) → ((0 : Int) ≤ (((6 * x1) - 1) - (m 323 x6.toNat)) ∧ ((((6 * x1) - 1) - (m 323 x6.toNat)) : Int) < 1800) ∧ Zr (x5 + (m 336 (((6 * x1) - 1) - (m 323 x6.toNat)).toNat)) ∧ ((((x5 + (m 336 (((6 * x1) - 1) - (m 323 x6.toNat)).toNat)) ≤ 200) → Rn X (d + 1) 211 84 [some (.ref 262), some (.int (iz x1)), some (.int (iz x2)), some (.int (iz x3)), some (.ref x4), some (.int (iz x5)), some (.int (iz x6)), some (.int (iz (m 323 x6.toNat))), some (.int (iz ((-1)))), some (.int (iz (m 336 (((6 * x1) - 1) - (m 323 x6.toNat)).toNat))), some (.int (iz 0))] [] (SS m J P) (QI post)) ∧ (¬ ((x5 + (m 336 (((6 * x1) - 1) - (m 323 x6.toNat)).toNat)) ≤ 200) → post ((-1)) m J P))))) ∧ (¬ (0 ≤ (m 323 x6.toNat)) → Ci X d 212 [.ref 262, .int (iz x1), .int (iz (((-1)) - (m 323 x6.toNat)))] m J P (fun z12 m9 J10 P11 => PP P11 ∧ Zr (m 323 x6.toNat) ∧ (((0 ≤ (m 323 x6.toNat)) → Zr (x5 + 1) ∧ ((((x5 + 1) ≤ 200) → Rn X (d + 1) 211 84 [some (.ref 262), some (.int (iz x1)), some (.int (iz x2)), some (.int (iz x3)), some (.ref x4), some (.int (iz x5)), some (.int (iz x6)), some (.int (iz (m 323 x6.toNat))), some (.int (iz z12)), some (.int (iz 1)), some (.int (iz 0))] [] (SS m9 J10 P11) (QI post)) ∧ (¬ ((x5 + 1) ≤ 200) → post ((-1)) m9 J10 P11))) ∧ (¬ (0 ≤ (m 323 x6.toNat)) → ((0 : Int) ≤ (((6 * x1) - 1) - (m 323 x6.toNat)) ∧ ((((6 * x1) - 1) - (m 323 x6.toNat)) : Int) < 1800) ∧ Zr (x5 + (m9 336 (((6 * x1) - 1) - (m 323 x6.toNat)).toNat)) ∧ ((((x5 + (m9 336 (((6 * x1) - 1) - (m 323 x6.toNat)).toNat)) ≤ 200) → Rn X (d + 1) 211 84 [some (.ref 262), some (.int (iz x1)), some (.int (iz x2)), some (.int (iz x3)), some (.ref x4), some (.int (iz x5)), some (.int (iz x6)), some (.int (iz (m 323 x6.toNat))), some (.int (iz z12)), some (.int (iz (m9 336 (((6 * x1) - 1) - (m 323 x6.toNat)).toNat))), some (.int (iz 0))] [] (SS m9 J10 P11) (QI post)) ∧ (¬ ((x5 + (m9 336 (((6 * x1) - 1) - (m 323 x6.toNat)).toNat)) ≤ 200) → post ((-1)) m9 J10 P11)))))))))) : Rn X (d + 1) 211 6 [some (.ref 262), some (.int (iz x1)), some (.int (iz x2)), some (.int (iz x3)), some (.ref x4), some (.int (iz x5)), some (.int (iz x6)), none, none, none, none] [] (SS m J P) (QI post) := by
  refine s_iload (pc := 6) rfl rfl ?_
  refine s_iload_n (pc := 8) rfl rfl ?_
  refine s_iload_n (pc := 9) rfl rfl ?_
  refine s_iadd (pc := 10) rfl ?_
  obtain ⟨hz1, hw⟩ := hw
  obtain ⟨hz2, hw⟩ := hw
  refine s_ic_ge (pc := 11) (tgt := 141) rfl rfl hz1 hz2 (fun hc => ?_) (fun hc => ?_)
  · replace hw := hw.1 hc
    refine s_iload (pc := 141) rfl rfl ?_
    exact s_reti (pc := 143) rfl rfl hw
  · replace hw := hw.2 hc
    refine s_aload_n (pc := 14) rfl rfl ?_
    refine s_getA (pc := 15) rfl ko_262 (po_262_104 hp) ?_
    refine s_iload (pc := 18) rfl rfl ?_
    obtain ⟨hb3, hw⟩ := hw
    refine s_iald (pc := 20) rfl ka_323 (by decide) hb3 ?_
    refine s_istore (pc := 21) (L' := [some (.ref 262), some (.int (iz x1)), some (.int (iz x2)), some (.int (iz x3)), some (.ref x4), some (.int (iz x5)), some (.int (iz x6)), some (.int (iz (m 323 x6.toNat))), none, none, none]) rfl (Nat.le_of_ble_eq_true rfl) rfl ?_
    refine s_iload (pc := 23) rfl rfl ?_
    obtain ⟨hz4, hw⟩ := hw
    refine s_if_ge (pc := 25) (tgt := 40) rfl rfl hz4 (fun hc => ?_) (fun hc => ?_)
    · replace hw := hw.1 hc
      refine s_iconst (pc := 40) rfl ?_
      refine s_istore (pc := 41) (L' := [some (.ref 262), some (.int (iz x1)), some (.int (iz x2)), some (.int (iz x3)), some (.ref x4), some (.int (iz x5)), some (.int (iz x6)), some (.int (iz (m 323 x6.toNat))), some (.int (iz ((-1)))), none, none]) rfl (Nat.le_of_ble_eq_true rfl) rfl ?_
      refine s_iload (pc := 43) rfl rfl ?_
      obtain ⟨hz5, hw⟩ := hw
      refine s_if_ge (pc := 45) (tgt := 65) rfl rfl hz5 (fun hc => ?_) (fun hc => ?_)
      · replace hw := hw.1 hc
        refine s_iconst (pc := 65) rfl ?_
        refine s_istore (pc := 66) (L' := [some (.ref 262), some (.int (iz x1)), some (.int (iz x2)), some (.int (iz x3)), some (.ref x4), some (.int (iz x5)), some (.int (iz x6)), some (.int (iz (m 323 x6.toNat))), some (.int (iz ((-1)))), some (.int (iz 1)), none]) rfl (Nat.le_of_ble_eq_true rfl) rfl ?_
        refine s_iload (pc := 68) rfl rfl ?_
        refine s_iload (pc := 70) rfl rfl ?_
        refine s_iadd (pc := 72) rfl ?_
        refine s_sipush (pc := 73) rfl (by decide) ?_
        obtain ⟨hz6, hw⟩ := hw
        refine s_ic_le (pc := 76) (tgt := 81) rfl rfl hz6 (by decide) (fun hc => ?_) (fun hc => ?_)
        · replace hw := hw.1 hc
          refine s_iconst (pc := 81) rfl ?_
          refine s_istore (pc := 82) (L' := [some (.ref 262), some (.int (iz x1)), some (.int (iz x2)), some (.int (iz x3)), some (.ref x4), some (.int (iz x5)), some (.int (iz x6)), some (.int (iz (m 323 x6.toNat))), some (.int (iz ((-1)))), some (.int (iz 1)), some (.int (iz 0))]) rfl (Nat.le_of_ble_eq_true rfl) rfl ?_
          exact hw
        · replace hw := hw.2 hc
          refine s_iconst (pc := 79) rfl ?_
          exact s_reti (pc := 80) rfl rfl hw
      · replace hw := hw.2 hc
        refine s_aload_n (pc := 48) rfl rfl ?_
        refine s_getA (pc := 49) rfl ko_262 (po_262_117 hp) ?_
        refine s_bipush (pc := 52) rfl (by decide) ?_
        refine s_iload_n (pc := 54) rfl rfl ?_
        refine s_imul (pc := 55) rfl ?_
        refine s_iconst (pc := 56) rfl ?_
        refine s_isub (pc := 57) rfl ?_
        refine s_iload (pc := 58) rfl rfl ?_
        refine s_isub (pc := 60) rfl ?_
        obtain ⟨hb7, hw⟩ := hw
        refine s_iald (pc := 61) rfl ka_336 (by decide) hb7 ?_
        refine s_goto (pc := 62) (tgt := 66) rfl rfl ?_
        refine s_istore (pc := 66) (L' := [some (.ref 262), some (.int (iz x1)), some (.int (iz x2)), some (.int (iz x3)), some (.ref x4), some (.int (iz x5)), some (.int (iz x6)), some (.int (iz (m 323 x6.toNat))), some (.int (iz ((-1)))), some (.int (iz (m 336 (((6 * x1) - 1) - (m 323 x6.toNat)).toNat))), none]) rfl (Nat.le_of_ble_eq_true rfl) rfl ?_
        refine s_iload (pc := 68) rfl rfl ?_
        refine s_iload (pc := 70) rfl rfl ?_
        refine s_iadd (pc := 72) rfl ?_
        refine s_sipush (pc := 73) rfl (by decide) ?_
        obtain ⟨hz8, hw⟩ := hw
        refine s_ic_le (pc := 76) (tgt := 81) rfl rfl hz8 (by decide) (fun hc => ?_) (fun hc => ?_)
        · replace hw := hw.1 hc
          refine s_iconst (pc := 81) rfl ?_
          refine s_istore (pc := 82) (L' := [some (.ref 262), some (.int (iz x1)), some (.int (iz x2)), some (.int (iz x3)), some (.ref x4), some (.int (iz x5)), some (.int (iz x6)), some (.int (iz (m 323 x6.toNat))), some (.int (iz ((-1)))), some (.int (iz (m 336 (((6 * x1) - 1) - (m 323 x6.toNat)).toNat))), some (.int (iz 0))]) rfl (Nat.le_of_ble_eq_true rfl) rfl ?_
          exact hw
        · replace hw := hw.2 hc
          refine s_iconst (pc := 79) rfl ?_
          exact s_reti (pc := 80) rfl rfl hw
    · replace hw := hw.2 hc
      refine s_aload_n (pc := 28) rfl rfl ?_
      refine s_iload_n (pc := 29) rfl rfl ?_
      refine s_iconst (pc := 30) rfl ?_
      refine s_iload (pc := 31) rfl rfl ?_
      refine s_isub (pc := 33) rfl ?_
      refine s_ci (pc := 34) (d := d) (t := []) rfl rfl (am_ca_v (ps := [.int (iz (((-1)) - (m 323 x6.toNat))), .int (iz x1)]) rfl ko_262) (Nat.le_of_ble_eq_true rfl) (Ci.weak hw fun z12 m9 J10 P11 hw => ?_)
      obtain ⟨hp13, hw⟩ := hw
      refine s_goto (pc := 37) (tgt := 41) rfl rfl ?_
      refine s_istore (pc := 41) (L' := [some (.ref 262), some (.int (iz x1)), some (.int (iz x2)), some (.int (iz x3)), some (.ref x4), some (.int (iz x5)), some (.int (iz x6)), some (.int (iz (m 323 x6.toNat))), some (.int (iz z12)), none, none]) rfl (Nat.le_of_ble_eq_true rfl) rfl ?_
      refine s_iload (pc := 43) rfl rfl ?_
      obtain ⟨hz14, hw⟩ := hw
      refine s_if_ge (pc := 45) (tgt := 65) rfl rfl hz14 (fun hc => ?_) (fun hc => ?_)
      · replace hw := hw.1 hc
        refine s_iconst (pc := 65) rfl ?_
        refine s_istore (pc := 66) (L' := [some (.ref 262), some (.int (iz x1)), some (.int (iz x2)), some (.int (iz x3)), some (.ref x4), some (.int (iz x5)), some (.int (iz x6)), some (.int (iz (m 323 x6.toNat))), some (.int (iz z12)), some (.int (iz 1)), none]) rfl (Nat.le_of_ble_eq_true rfl) rfl ?_
        refine s_iload (pc := 68) rfl rfl ?_
        refine s_iload (pc := 70) rfl rfl ?_
        refine s_iadd (pc := 72) rfl ?_
        refine s_sipush (pc := 73) rfl (by decide) ?_
        obtain ⟨hz15, hw⟩ := hw
        refine s_ic_le (pc := 76) (tgt := 81) rfl rfl hz15 (by decide) (fun hc => ?_) (fun hc => ?_)
        · replace hw := hw.1 hc
          refine s_iconst (pc := 81) rfl ?_
          refine s_istore (pc := 82) (L' := [some (.ref 262), some (.int (iz x1)), some (.int (iz x2)), some (.int (iz x3)), some (.ref x4), some (.int (iz x5)), some (.int (iz x6)), some (.int (iz (m 323 x6.toNat))), some (.int (iz z12)), some (.int (iz 1)), some (.int (iz 0))]) rfl (Nat.le_of_ble_eq_true rfl) rfl ?_
          exact hw
        · replace hw := hw.2 hc
          refine s_iconst (pc := 79) rfl ?_
          exact s_reti (pc := 80) rfl rfl hw
      · replace hw := hw.2 hc
        refine s_aload_n (pc := 48) rfl rfl ?_
        refine s_getA (pc := 49) rfl ko_262 (po_262_117 hp13) ?_
        refine s_bipush (pc := 52) rfl (by decide) ?_
        refine s_iload_n (pc := 54) rfl rfl ?_
        refine s_imul (pc := 55) rfl ?_
        refine s_iconst (pc := 56) rfl ?_
        refine s_isub (pc := 57) rfl ?_
        refine s_iload (pc := 58) rfl rfl ?_
        refine s_isub (pc := 60) rfl ?_
        obtain ⟨hb16, hw⟩ := hw
        refine s_iald (pc := 61) rfl ka_336 (by decide) hb16 ?_
        refine s_goto (pc := 62) (tgt := 66) rfl rfl ?_
        refine s_istore (pc := 66) (L' := [some (.ref 262), some (.int (iz x1)), some (.int (iz x2)), some (.int (iz x3)), some (.ref x4), some (.int (iz x5)), some (.int (iz x6)), some (.int (iz (m 323 x6.toNat))), some (.int (iz z12)), some (.int (iz (m9 336 (((6 * x1) - 1) - (m 323 x6.toNat)).toNat))), none]) rfl (Nat.le_of_ble_eq_true rfl) rfl ?_
        refine s_iload (pc := 68) rfl rfl ?_
        refine s_iload (pc := 70) rfl rfl ?_
        refine s_iadd (pc := 72) rfl ?_
        refine s_sipush (pc := 73) rfl (by decide) ?_
        obtain ⟨hz17, hw⟩ := hw
        refine s_ic_le (pc := 76) (tgt := 81) rfl rfl hz17 (by decide) (fun hc => ?_) (fun hc => ?_)
        · replace hw := hw.1 hc
          refine s_iconst (pc := 81) rfl ?_
          refine s_istore (pc := 82) (L' := [some (.ref 262), some (.int (iz x1)), some (.int (iz x2)), some (.int (iz x3)), some (.ref x4), some (.int (iz x5)), some (.int (iz x6)), some (.int (iz (m 323 x6.toNat))), some (.int (iz z12)), some (.int (iz (m9 336 (((6 * x1) - 1) - (m 323 x6.toNat)).toNat))), some (.int (iz 0))]) rfl (Nat.le_of_ble_eq_true rfl) rfl ?_
          exact hw
        · replace hw := hw.2 hc
          refine s_iconst (pc := 79) rfl ?_
          exact s_reti (pc := 80) rfl rfl hw

set_option maxRecDepth 20000 in
set_option maxHeartbeats 4000000 in
theorem b_Mdl_puts_84 {X : aX} {d : Nat} (x1 : Int) (x2 : Int) (x3 : Int) (x4 nx4 : Nat) (x5 : Int) (x6 : Int) (x7 : Int) (x8 : Int) (x9 : Int) (x10 : Int) (kx4 : am_kd an_K x4 = some (.inr (0, nx4))) (bx4 : nx4 ≤ 100000) (m : Mi) (J : Mj) (P : Mp) (hp : PP P) (post : Int → Mi → Mj → Mp → Prop)
    (hw : Zr (x10) ∧ Zr (x9) ∧ (((x9 ≤ x10) → Rn X (d + 1) 211 6 [some (.ref 262), some (.int (iz x1)), some (.int (iz x2)), some (.int (iz x3)), some (.ref x4), some (.int (iz (x5 + x9))), some (.int (iz (x6 + 1))), none, none, none, none] [] (SS m J P) (QI post)) ∧ (¬ (x9 ≤ x10) → Zr (x7) ∧ (((0 ≤ x7) → ((0 : Int) ≤ (x5 + x10) ∧ ((x5 + x10) : Int) < nx4) ∧ Rn X (d + 1) 211 84 [some (.ref 262), some (.int (iz x1)), some (.int (iz x2)), some (.int (iz x3)), some (.ref x4), some (.int (iz x5)), some (.int (iz x6)), some (.int (iz x7)), some (.int (iz x8)), some (.int (iz x9)), some (.int (iz (x10 + 1)))] [] (SS (mu m x4 (x5 + x10).toNat (zrem x7 64)) J P) (QI post)) ∧ (¬ (0 ≤ x7) → ((0 : Int) ≤ (x8 + x10) ∧ ((x8 + x10) : Int) < 40000) ∧ ((0 : Int) ≤ (x5 + x10) ∧ ((x5 + x10) : Int) < nx4) ∧ Rn X (d + 1) 211 84 [some (.ref 262), some (.int (iz x1)), some (.int (iz x2)), some (.int (iz x3)), some (.ref x4), some (.int (iz x5)), some (.int (iz x6)), some (.int (iz x7)), some (.int (iz x8)), some (.int (iz x9)), some (.int (iz (x10 + 1)))] [] (SS (mu m x4 (x5 + x10).toNat (m 323 (x8 + x10).toNat)) J P) (QI post)))))) : Rn X (d + 1) 211 84 [some (.ref 262), some (.int (iz x1)), some (.int (iz x2)), some (.int (iz x3)), some (.ref x4), some (.int (iz x5)), some (.int (iz x6)), some (.int (iz x7)), some (.int (iz x8)), some (.int (iz x9)), some (.int (iz x10))] [] (SS m J P) (QI post) := by
  refine s_iload (pc := 84) rfl rfl ?_
  refine s_iload (pc := 86) rfl rfl ?_
  obtain ⟨hz1, hw⟩ := hw
  obtain ⟨hz2, hw⟩ := hw
  refine s_ic_ge (pc := 88) (tgt := 128) rfl rfl hz1 hz2 (fun hc => ?_) (fun hc => ?_)
  · replace hw := hw.1 hc
    refine s_iload (pc := 128) rfl rfl ?_
    refine s_iload (pc := 130) rfl rfl ?_
    refine s_iadd (pc := 132) rfl ?_
    refine s_istore (pc := 133) (L' := [some (.ref 262), some (.int (iz x1)), some (.int (iz x2)), some (.int (iz x3)), some (.ref x4), some (.int (iz (x5 + x9))), some (.int (iz x6)), some (.int (iz x7)), some (.int (iz x8)), some (.int (iz x9)), some (.int (iz x10))]) rfl (Nat.le_of_ble_eq_true rfl) rfl ?_
    refine s_iinc (pc := 135) (L' := [some (.ref 262), some (.int (iz x1)), some (.int (iz x2)), some (.int (iz x3)), some (.ref x4), some (.int (iz (x5 + x9))), some (.int (iz (x6 + 1))), some (.int (iz x7)), some (.int (iz x8)), some (.int (iz x9)), some (.int (iz x10))]) rfl rfl (Nat.le_of_ble_eq_true rfl) rfl ?_
    refine s_goto (pc := 138) (tgt := 6) rfl rfl ?_
    exact Rn.weakL hw (LLe.keep _ (LLe.keep _ (LLe.keep _ (LLe.keep _ (LLe.keep _ (LLe.keep _ (LLe.keep _ (LLe.drop _ (LLe.drop _ (LLe.drop _ (LLe.drop _ (LLe.nil))))))))))))
  · replace hw := hw.2 hc
    refine s_aload (pc := 91) rfl rfl ?_
    refine s_iload (pc := 93) rfl rfl ?_
    refine s_iload (pc := 95) rfl rfl ?_
    refine s_iadd (pc := 97) rfl ?_
    refine s_iload (pc := 98) rfl rfl ?_
    obtain ⟨hz3, hw⟩ := hw
    refine s_if_ge (pc := 100) (tgt := 116) rfl rfl hz3 (fun hc => ?_) (fun hc => ?_)
    · replace hw := hw.1 hc
      refine s_iload (pc := 116) rfl rfl ?_
      refine s_bipush (pc := 118) rfl (by decide) ?_
      refine s_irem (pc := 120) rfl (by decide) ?_
      obtain ⟨hb4, hw⟩ := hw
      refine s_iast (pc := 121) rfl kx4 bx4 hb4 ?_
      refine s_iinc (pc := 122) (L' := [some (.ref 262), some (.int (iz x1)), some (.int (iz x2)), some (.int (iz x3)), some (.ref x4), some (.int (iz x5)), some (.int (iz x6)), some (.int (iz x7)), some (.int (iz x8)), some (.int (iz x9)), some (.int (iz (x10 + 1)))]) rfl rfl (Nat.le_of_ble_eq_true rfl) rfl ?_
      refine s_goto (pc := 125) (tgt := 84) rfl rfl ?_
      exact hw
    · replace hw := hw.2 hc
      refine s_aload_n (pc := 103) rfl rfl ?_
      refine s_getA (pc := 104) rfl ko_262 (po_262_104 hp) ?_
      refine s_iload (pc := 107) rfl rfl ?_
      refine s_iload (pc := 109) rfl rfl ?_
      refine s_iadd (pc := 111) rfl ?_
      obtain ⟨hb5, hw⟩ := hw
      refine s_iald (pc := 112) rfl ka_323 (by decide) hb5 ?_
      refine s_goto (pc := 113) (tgt := 121) rfl rfl ?_
      obtain ⟨hb6, hw⟩ := hw
      refine s_iast (pc := 121) rfl kx4 bx4 hb6 ?_
      refine s_iinc (pc := 122) (L' := [some (.ref 262), some (.int (iz x1)), some (.int (iz x2)), some (.int (iz x3)), some (.ref x4), some (.int (iz x5)), some (.int (iz x6)), some (.int (iz x7)), some (.int (iz x8)), some (.int (iz x9)), some (.int (iz (x10 + 1)))]) rfl rfl (Nat.le_of_ble_eq_true rfl) rfl ?_
      refine s_goto (pc := 125) (tgt := 84) rfl rfl ?_
      exact hw

set_option maxRecDepth 20000 in
set_option maxHeartbeats 4000000 in
theorem b_Mdl_answerFrom_0 {X : aX} {d : Nat} (x1 : Int) (x2 : Int)  (m : Mi) (J : Mj) (P : Mp) (hp : PP P) (post : Int → Mi → Mj → Mp → Prop)
    (hw : ((0 : Int) ≤ x1 ∧ (x1 : Int) < 300) ∧ Rn X d 212 10 [some (.ref 262), some (.int (iz x1)), some (.int (iz x2)), some (.int (iz (m 335 x1.toNat))), some (.int (iz 0))] [] (SS m J P) (QI post)) : Rn X d 212 0 [some (.ref 262), some (.int (iz x1)), some (.int (iz x2)), none, none] [] (SS m J P) (QI post) := by
  refine s_aload_n (pc := 0) rfl rfl ?_
  refine s_getA (pc := 1) rfl ko_262 (po_262_116 hp) ?_
  refine s_iload_n (pc := 4) rfl rfl ?_
  obtain ⟨hb1, hw⟩ := hw
  refine s_iald (pc := 5) rfl ka_335 (by decide) hb1 ?_
  refine s_istore_n (pc := 6) (L' := [some (.ref 262), some (.int (iz x1)), some (.int (iz x2)), some (.int (iz (m 335 x1.toNat))), none]) rfl (Nat.le_of_ble_eq_true rfl) rfl ?_
  refine s_iconst (pc := 7) rfl ?_
  refine s_istore (pc := 8) (L' := [some (.ref 262), some (.int (iz x1)), some (.int (iz x2)), some (.int (iz (m 335 x1.toNat))), some (.int (iz 0))]) rfl (Nat.le_of_ble_eq_true rfl) rfl ?_
  exact hw

set_option maxRecDepth 20000 in
set_option maxHeartbeats 4000000 in
theorem b_Mdl_answerFrom_10 {X : aX} {d : Nat} (x1 : Int) (x2 : Int) (x3 : Int) (x4 : Int)  (m : Mi) (J : Mj) (P : Mp) (hp : PP P) (post : Int → Mi → Mj → Mp → Prop)
    (hw : Zr (x4) ∧ Zr (x2) ∧ (((x2 ≤ x4) → post x3 m J P) ∧ (¬ (x2 ≤ x4) → ((0 : Int) ≤ ((6 * x1) + x4) ∧ (((6 * x1) + x4) : Int) < 1800) ∧ Rn X d 212 10 [some (.ref 262), some (.int (iz x1)), some (.int (iz x2)), some (.int (iz (x3 + (m 336 ((6 * x1) + x4).toNat)))), some (.int (iz (x4 + 1)))] [] (SS m J P) (QI post)))) : Rn X d 212 10 [some (.ref 262), some (.int (iz x1)), some (.int (iz x2)), some (.int (iz x3)), some (.int (iz x4))] [] (SS m J P) (QI post) := by
  refine s_iload (pc := 10) rfl rfl ?_
  refine s_iload_n (pc := 12) rfl rfl ?_
  obtain ⟨hz1, hw⟩ := hw
  obtain ⟨hz2, hw⟩ := hw
  refine s_ic_ge (pc := 13) (tgt := 37) rfl rfl hz1 hz2 (fun hc => ?_) (fun hc => ?_)
  · replace hw := hw.1 hc
    refine s_iload_n (pc := 37) rfl rfl ?_
    exact s_reti (pc := 38) rfl rfl hw
  · replace hw := hw.2 hc
    refine s_iload_n (pc := 16) rfl rfl ?_
    refine s_aload_n (pc := 17) rfl rfl ?_
    refine s_getA (pc := 18) rfl ko_262 (po_262_117 hp) ?_
    refine s_bipush (pc := 21) rfl (by decide) ?_
    refine s_iload_n (pc := 23) rfl rfl ?_
    refine s_imul (pc := 24) rfl ?_
    refine s_iload (pc := 25) rfl rfl ?_
    refine s_iadd (pc := 27) rfl ?_
    obtain ⟨hb3, hw⟩ := hw
    refine s_iald (pc := 28) rfl ka_336 (by decide) hb3 ?_
    refine s_iadd (pc := 29) rfl ?_
    refine s_istore_n (pc := 30) (L' := [some (.ref 262), some (.int (iz x1)), some (.int (iz x2)), some (.int (iz (x3 + (m 336 ((6 * x1) + x4).toNat)))), some (.int (iz x4))]) rfl (Nat.le_of_ble_eq_true rfl) rfl ?_
    refine s_iinc (pc := 31) (L' := [some (.ref 262), some (.int (iz x1)), some (.int (iz x2)), some (.int (iz (x3 + (m 336 ((6 * x1) + x4).toNat)))), some (.int (iz (x4 + 1)))]) rfl rfl (Nat.le_of_ble_eq_true rfl) rfl ?_
    refine s_goto (pc := 34) (tgt := 10) rfl rfl ?_
    exact hw

set_option maxRecDepth 20000 in
set_option maxHeartbeats 4000000 in
theorem b_Mdl_covers_0 {X : aX} {d : Nat} (x1 : Int) (x2 : Int)  (m : Mi) (J : Mj) (P : Mp) (hp : PP P) (post : Int → Mi → Mj → Mp → Prop)
    (hw : Ci X (d + 1) 210 [.ref 262, .int (iz x1)] m J P (fun z4 m1 J2 P3 => PP P3 ∧ Zr (z4) ∧ (((z4 = 0) → post 0 m1 J2 P3) ∧ (¬ (z4 = 0) → Ci X (d + 1) 210 [.ref 262, .int (iz x2)] m1 J2 P3 (fun z10 m7 J8 P9 => PP P9 ∧ Zr (z10) ∧ (((¬ z10 = 0) → Rn X (d + 2) 213 20 [some (.ref 262), some (.int (iz x1)), some (.int (iz x2)), some (.int (iz 0)), none] [] (SS m7 J8 P9) (QI post)) ∧ (¬ (¬ z10 = 0) → post 0 m7 J8 P9))))))) : Rn X (d + 2) 213 0 [some (.ref 262), some (.int (iz x1)), some (.int (iz x2)), none, none] [] (SS m J P) (QI post) := by
  refine s_aload_n (pc := 0) rfl rfl ?_
  refine s_iload_n (pc := 1) rfl rfl ?_
  refine s_ci (pc := 2) (d := (d + 1)) (t := []) rfl rfl (am_ca_v (ps := [.int (iz x1)]) rfl ko_262) (Nat.le_of_ble_eq_true rfl) (Ci.weak hw fun z4 m1 J2 P3 hw => ?_)
  obtain ⟨hp5, hw⟩ := hw
  obtain ⟨hz6, hw⟩ := hw
  refine s_if_eq (pc := 5) (tgt := 16) rfl rfl hz6 (fun hc => ?_) (fun hc => ?_)
  · replace hw := hw.1 hc
    refine s_iconst (pc := 16) rfl ?_
    exact s_retz (pc := 17) rfl rfl (by decide) hw
  · replace hw := hw.2 hc
    refine s_aload_n (pc := 8) rfl rfl ?_
    refine s_iload_n (pc := 9) rfl rfl ?_
    refine s_ci (pc := 10) (d := (d + 1)) (t := []) rfl rfl (am_ca_v (ps := [.int (iz x2)]) rfl ko_262) (Nat.le_of_ble_eq_true rfl) (Ci.weak hw fun z10 m7 J8 P9 hw => ?_)
    obtain ⟨hp11, hw⟩ := hw
    obtain ⟨hz12, hw⟩ := hw
    refine s_if_ne (pc := 13) (tgt := 18) rfl rfl hz12 (fun hc => ?_) (fun hc => ?_)
    · replace hw := hw.1 hc
      refine s_iconst (pc := 18) rfl ?_
      refine s_istore_n (pc := 19) (L' := [some (.ref 262), some (.int (iz x1)), some (.int (iz x2)), some (.int (iz 0)), none]) rfl (Nat.le_of_ble_eq_true rfl) rfl ?_
      exact hw
    · replace hw := hw.2 hc
      refine s_iconst (pc := 16) rfl ?_
      exact s_retz (pc := 17) rfl rfl (by decide) hw

set_option maxRecDepth 20000 in
set_option maxHeartbeats 4000000 in
theorem b_Mdl_covers_20 {X : aX} {d : Nat} (x1 : Int) (x2 : Int) (x3 : Int)  (m : Mi) (J : Mj) (P : Mp) (hp : PP P) (post : Int → Mi → Mj → Mp → Prop)
    (hw : Zr (x3) ∧ (((800 ≤ x3) → Rn X (d + 2) 213 45 [some (.ref 262), some (.int (iz x1)), some (.int (iz x2)), some (.int (iz 1)), some (.int (iz 0))] [] (SS m J P) (QI post)) ∧ (¬ (800 ≤ x3) → ((0 : Int) ≤ x3 ∧ (x3 : Int) < 800) ∧ Rn X (d + 2) 213 20 [some (.ref 262), some (.int (iz x1)), some (.int (iz x2)), some (.int (iz (x3 + 1))), none] [] (SS (mu m 345 x3.toNat ((-1))) J P) (QI post)))) : Rn X (d + 2) 213 20 [some (.ref 262), some (.int (iz x1)), some (.int (iz x2)), some (.int (iz x3)), none] [] (SS m J P) (QI post) := by
  refine s_iload_n (pc := 20) rfl rfl ?_
  refine s_sipush (pc := 21) rfl (by decide) ?_
  obtain ⟨hz1, hw⟩ := hw
  refine s_ic_ge (pc := 24) (tgt := 40) rfl rfl hz1 (by decide) (fun hc => ?_) (fun hc => ?_)
  · replace hw := hw.1 hc
    refine s_iconst (pc := 40) rfl ?_
    refine s_istore_n (pc := 41) (L' := [some (.ref 262), some (.int (iz x1)), some (.int (iz x2)), some (.int (iz 1)), none]) rfl (Nat.le_of_ble_eq_true rfl) rfl ?_
    refine s_iconst (pc := 42) rfl ?_
    refine s_istore (pc := 43) (L' := [some (.ref 262), some (.int (iz x1)), some (.int (iz x2)), some (.int (iz 1)), some (.int (iz 0))]) rfl (Nat.le_of_ble_eq_true rfl) rfl ?_
    exact hw
  · replace hw := hw.2 hc
    refine s_aload_n (pc := 27) rfl rfl ?_
    refine s_getA (pc := 28) rfl ko_262 (po_262_133 hp) ?_
    refine s_iload_n (pc := 31) rfl rfl ?_
    refine s_iconst (pc := 32) rfl ?_
    obtain ⟨hb2, hw⟩ := hw
    refine s_iast (pc := 33) rfl ka_345 (by decide) hb2 ?_
    refine s_iinc (pc := 34) (L' := [some (.ref 262), some (.int (iz x1)), some (.int (iz x2)), some (.int (iz (x3 + 1))), none]) rfl rfl (Nat.le_of_ble_eq_true rfl) rfl ?_
    refine s_goto (pc := 37) (tgt := 20) rfl rfl ?_
    exact hw

set_option maxRecDepth 20000 in
set_option maxHeartbeats 4000000 in
theorem b_Mdl_covers_45 {X : aX} {d : Nat} (x1 : Int) (x2 : Int) (x3 : Int) (x4 : Int)  (m : Mi) (J : Mj) (P : Mp) (hp : PP P) (post : Int → Mi → Mj → Mp → Prop)
    (hw : Zr (x4) ∧ Zr (m 262 101) ∧ ((((m 262 101) ≤ x4) → (x3 = 0 ∨ x3 = 1) ∧ post x3 m J P) ∧ (¬ ((m 262 101) ≤ x4) → Zr (x3) ∧ (((x3 = 0) → (x3 = 0 ∨ x3 = 1) ∧ post x3 m J P) ∧ (¬ (x3 = 0) → Ci X (d + 1) 212 [.ref 262, .int (iz x1), .int (iz x4)] m J P (fun z7 m4 J5 P6 => PP P6 ∧ ((0 : Int) ≤ ((6 * x1) + x4) ∧ (((6 * x1) + x4) : Int) < 1800) ∧ Ci X (d + 1) 212 [.ref 262, .int (iz x2), .int (iz x4)] m4 J5 P6 (fun z13 m10 J11 P12 => PP P12 ∧ ((0 : Int) ≤ ((6 * x2) + x4) ∧ (((6 * x2) + x4) : Int) < 1800) ∧ Ci X (d + 1) 214 [.ref 262, .int (iz z7), .int (iz (m4 336 ((6 * x1) + x4).toNat)), .int (iz z13), .int (iz (m10 336 ((6 * x2) + x4).toNat))] m10 J11 P12 (fun z19 m16 J17 P18 => PP P18 ∧ Rn X (d + 2) 213 45 [some (.ref 262), some (.int (iz x1)), some (.int (iz x2)), some (.int (iz z19)), some (.int (iz (x4 + 1)))] [] (SS m16 J17 P18) (QI post))))))))) : Rn X (d + 2) 213 45 [some (.ref 262), some (.int (iz x1)), some (.int (iz x2)), some (.int (iz x3)), some (.int (iz x4))] [] (SS m J P) (QI post) := by
  refine s_iload (pc := 45) rfl rfl ?_
  refine s_aload_n (pc := 47) rfl rfl ?_
  refine s_getI (pc := 48) rfl ko_262 ?_
  obtain ⟨hz1, hw⟩ := hw
  obtain ⟨hz2, hw⟩ := hw
  refine s_ic_ge (pc := 51) (tgt := 107) rfl rfl hz1 hz2 (fun hc => ?_) (fun hc => ?_)
  · replace hw := hw.1 hc
    refine s_iload_n (pc := 107) rfl rfl ?_
    exact s_retz (pc := 108) rfl rfl hw.1 hw.2
  · replace hw := hw.2 hc
    refine s_iload_n (pc := 54) rfl rfl ?_
    obtain ⟨hz3, hw⟩ := hw
    refine s_if_eq (pc := 55) (tgt := 107) rfl rfl hz3 (fun hc => ?_) (fun hc => ?_)
    · replace hw := hw.1 hc
      refine s_iload_n (pc := 107) rfl rfl ?_
      exact s_retz (pc := 108) rfl rfl hw.1 hw.2
    · replace hw := hw.2 hc
      refine s_aload_n (pc := 58) rfl rfl ?_
      refine s_aload_n (pc := 59) rfl rfl ?_
      refine s_iload_n (pc := 60) rfl rfl ?_
      refine s_iload (pc := 61) rfl rfl ?_
      refine s_ci (pc := 63) (d := (d + 1)) (t := [.ref 262]) rfl rfl (am_ca_v (ps := [.int (iz x4), .int (iz x1)]) rfl ko_262) (Nat.le_of_ble_eq_true rfl) (Ci.weak hw fun z7 m4 J5 P6 hw => ?_)
      obtain ⟨hp8, hw⟩ := hw
      refine s_aload_n (pc := 66) rfl rfl ?_
      refine s_getA (pc := 67) rfl ko_262 (po_262_117 hp8) ?_
      refine s_bipush (pc := 70) rfl (by decide) ?_
      refine s_iload_n (pc := 72) rfl rfl ?_
      refine s_imul (pc := 73) rfl ?_
      refine s_iload (pc := 74) rfl rfl ?_
      refine s_iadd (pc := 76) rfl ?_
      obtain ⟨hb9, hw⟩ := hw
      refine s_iald (pc := 77) rfl ka_336 (by decide) hb9 ?_
      refine s_aload_n (pc := 78) rfl rfl ?_
      refine s_iload_n (pc := 79) rfl rfl ?_
      refine s_iload (pc := 80) rfl rfl ?_
      refine s_ci (pc := 82) (d := (d + 1)) (t := [.int (iz (m4 336 ((6 * x1) + x4).toNat)), .int (iz z7), .ref 262]) rfl rfl (am_ca_v (ps := [.int (iz x4), .int (iz x2)]) rfl ko_262) (Nat.le_of_ble_eq_true rfl) (Ci.weak hw fun z13 m10 J11 P12 hw => ?_)
      obtain ⟨hp14, hw⟩ := hw
      refine s_aload_n (pc := 85) rfl rfl ?_
      refine s_getA (pc := 86) rfl ko_262 (po_262_117 hp14) ?_
      refine s_bipush (pc := 89) rfl (by decide) ?_
      refine s_iload_n (pc := 91) rfl rfl ?_
      refine s_imul (pc := 92) rfl ?_
      refine s_iload (pc := 93) rfl rfl ?_
      refine s_iadd (pc := 95) rfl ?_
      obtain ⟨hb15, hw⟩ := hw
      refine s_iald (pc := 96) rfl ka_336 (by decide) hb15 ?_
      refine s_ci (pc := 97) (d := (d + 1)) (t := []) rfl rfl (am_ca_v (ps := [.int (iz (m10 336 ((6 * x2) + x4).toNat)), .int (iz z13), .int (iz (m4 336 ((6 * x1) + x4).toNat)), .int (iz z7)]) rfl ko_262) (Nat.le_of_ble_eq_true rfl) (Ci.weak hw fun z19 m16 J17 P18 hw => ?_)
      obtain ⟨hp20, hw⟩ := hw
      refine s_istore_n (pc := 100) (L' := [some (.ref 262), some (.int (iz x1)), some (.int (iz x2)), some (.int (iz z19)), some (.int (iz x4))]) rfl (Nat.le_of_ble_eq_true rfl) rfl ?_
      refine s_iinc (pc := 101) (L' := [some (.ref 262), some (.int (iz x1)), some (.int (iz x2)), some (.int (iz z19)), some (.int (iz (x4 + 1)))]) rfl rfl (Nat.le_of_ble_eq_true rfl) rfl ?_
      refine s_goto (pc := 104) (tgt := 45) rfl rfl ?_
      exact hw
