/-! the methods, from place to place, by program (wip/whole/gen/blk.py) -/
set_option maxRecDepth 20000 in
set_option maxHeartbeats 4000000 in
theorem b_Nh_showSides_0 {X : aX} {d : Nat} (x1 nx1 : Nat) (x2 : Int) (kx1 : am_kd an_K x1 = some (.inr (0, nx1))) (bx1 : nx1 ≤ 100000) (m : Mi) (J : Mj) (P : Mp) (hp : PP P) (post : Int → Mi → Mj → Mp → Prop)
    (hw : (∃ q1, P 1 8 = some q1 ∧ am_kd an_K q1 = some (.inl 10) ∧ Ci X (d + 3) 84 [.ref 50, .ref x1, .int (iz x2), .ref q1] m J P (fun z5 m2 J3 P4 => PP P4 ∧ Cv X (d + 3) 87 [.ref 50, .int (iz 61)] m2 J3 P4 (fun m7 J8 P9 => PP P9 ∧ (∃ q12, P9 1 8 = some q12 ∧ am_kd an_K q12 = some (.inl 10) ∧ Ci X (d + 3) 84 [.ref 50, .ref x1, .int (iz z5), .ref q12] m7 J8 P9 (fun z16 m13 J14 P15 => PP P15 ∧ post (m13 50 1) m13 J14 P15)))))) : Rn X (d + 4) 129 0 [some (.ref 1), some (.ref x1), some (.int (iz x2)), none] [] (SS m J P) (QI post) := by
  refine s_aload_n (pc := 0) rfl rfl ?_
  refine s_getA (pc := 1) rfl ko_1 (po_1_7 hp) ?_
  refine s_aload_n (pc := 4) rfl rfl ?_
  refine s_iload_n (pc := 5) rfl rfl ?_
  refine s_aload_n (pc := 6) rfl rfl ?_
  obtain ⟨q1, hq1, kq1, hw⟩ := hw
  refine s_getA (pc := 7) rfl ko_1 hq1 ?_
  refine s_ci (pc := 10) (d := (d + 3)) (t := []) rfl rfl (am_ca_v (ps := [.ref q1, .int (iz x2), .ref x1]) rfl ko_50) (Nat.le_of_ble_eq_true rfl) (Ci.weak hw fun z5 m2 J3 P4 hw => ?_)
  obtain ⟨hp6, hw⟩ := hw
  refine s_istore_n (pc := 13) (L' := [some (.ref 1), some (.ref x1), some (.int (iz x2)), some (.int (iz z5))]) rfl (Nat.le_of_ble_eq_true rfl) rfl ?_
  refine s_aload_n (pc := 14) rfl rfl ?_
  refine s_getA (pc := 15) rfl ko_1 (po_1_7 hp6) ?_
  refine s_bipush (pc := 18) rfl (by decide) ?_
  refine s_cv (pc := 20) (d := (d + 3)) (t := []) rfl rfl (am_ca_v (ps := [.int (iz 61)]) rfl ko_50) (Nat.le_of_ble_eq_true rfl) (Cv.weak hw fun m7 J8 P9 hw => ?_)
  obtain ⟨hp11, hw⟩ := hw
  refine s_aload_n (pc := 23) rfl rfl ?_
  refine s_getA (pc := 24) rfl ko_1 (po_1_7 hp11) ?_
  refine s_aload_n (pc := 27) rfl rfl ?_
  refine s_iload_n (pc := 28) rfl rfl ?_
  refine s_aload_n (pc := 29) rfl rfl ?_
  obtain ⟨q12, hq12, kq12, hw⟩ := hw
  refine s_getA (pc := 30) rfl ko_1 hq12 ?_
  refine s_ci (pc := 33) (d := (d + 3)) (t := []) rfl rfl (am_ca_v (ps := [.ref q12, .int (iz z5), .ref x1]) rfl ko_50) (Nat.le_of_ble_eq_true rfl) (Ci.weak hw fun z16 m13 J14 P15 hw => ?_)
  obtain ⟨hp17, hw⟩ := hw
  refine s_pop (pc := 36) rfl rfl ?_
  refine s_aload_n (pc := 37) rfl rfl ?_
  refine s_getA (pc := 38) rfl ko_1 (po_1_7 hp17) ?_
  refine s_getI (pc := 41) rfl ko_50 ?_
  exact s_reti (pc := 44) rfl rfl hw

set_option maxRecDepth 20000 in
set_option maxHeartbeats 4000000 in
theorem b_Nh_showEquation_0 {X : aX} {d : Nat} (x1 : Int)  (m : Mi) (J : Mj) (P : Mp) (hp : PP P) (post : Int → Mi → Mj → Mp → Prop)
    (hw : Ci X (d + 4) 114 [.ref 38, .int (iz x1)] m J P (fun z4 m1 J2 P3 => PP P3 ∧ Zr (z4) ∧ (((¬ z4 = 0) → Cv X (d + 4) 82 [.ref 50] m1 J2 P3 (fun m7 J8 P9 => PP P9 ∧ Ci X (d + 4) 117 [.ref 38, .int (iz x1)] m7 J8 P9 (fun z15 m12 J13 P14 => PP P14 ∧ (∃ q17, P14 38 2 = some q17 ∧ am_kd an_K q17 = some (.inl 8) ∧ (∃ q18, P14 1 8 = some q18 ∧ am_kd an_K q18 = some (.inl 10) ∧ Cv X (d + 4) 95 [.ref 50, .ref 45, .int (iz z15), .ref q17, .ref q18] m12 J13 P14 (fun m19 J20 P21 => PP P21 ∧ Ci X (d + 4) 116 [.ref 38, .int (iz x1)] m19 J20 P21 (fun z27 m24 J25 P26 => PP P26 ∧ Ci X (d + 4) 129 [.ref 1, .ref 45, .int (iz z27)] m24 J25 P26 (fun z32 m29 J30 P31 => PP P31 ∧ post z32 m29 J30 P31)))))))) ∧ (¬ (¬ z4 = 0) → post ((-1)) m1 J2 P3)))) : Rn X (d + 5) 130 0 [some (.ref 1), some (.int (iz x1))] [] (SS m J P) (QI post) := by
  refine s_aload_n (pc := 0) rfl rfl ?_
  refine s_getA (pc := 1) rfl ko_1 (po_1_6 hp) ?_
  refine s_iload_n (pc := 4) rfl rfl ?_
  refine s_ci (pc := 5) (d := (d + 4)) (t := []) rfl rfl (am_ca_v (ps := [.int (iz x1)]) rfl ko_38) (Nat.le_of_ble_eq_true rfl) (Ci.weak hw fun z4 m1 J2 P3 hw => ?_)
  obtain ⟨hp5, hw⟩ := hw
  obtain ⟨hz6, hw⟩ := hw
  refine s_if_ne (pc := 8) (tgt := 13) rfl rfl hz6 (fun hc => ?_) (fun hc => ?_)
  · replace hw := hw.1 hc
    refine s_aload_n (pc := 13) rfl rfl ?_
    refine s_getA (pc := 14) rfl ko_1 (po_1_7 hp5) ?_
    refine s_cv (pc := 17) (d := (d + 4)) (t := []) rfl rfl (am_ca_v (ps := []) rfl ko_50) (Nat.le_of_ble_eq_true rfl) (Cv.weak hw fun m7 J8 P9 hw => ?_)
    obtain ⟨hp11, hw⟩ := hw
    refine s_aload_n (pc := 20) rfl rfl ?_
    refine s_getA (pc := 21) rfl ko_1 (po_1_7 hp11) ?_
    refine s_aload_n (pc := 24) rfl rfl ?_
    refine s_getA (pc := 25) rfl ko_1 (po_1_6 hp11) ?_
    refine s_getA (pc := 28) rfl ko_38 (po_38_3 hp11) ?_
    refine s_aload_n (pc := 31) rfl rfl ?_
    refine s_getA (pc := 32) rfl ko_1 (po_1_6 hp11) ?_
    refine s_iload_n (pc := 35) rfl rfl ?_
    refine s_ci (pc := 36) (d := (d + 4)) (t := [.ref 45, .ref 50]) rfl rfl (am_ca_v (ps := [.int (iz x1)]) rfl ko_38) (Nat.le_of_ble_eq_true rfl) (Ci.weak hw fun z15 m12 J13 P14 hw => ?_)
    obtain ⟨hp16, hw⟩ := hw
    refine s_aload_n (pc := 39) rfl rfl ?_
    refine s_getA (pc := 40) rfl ko_1 (po_1_6 hp16) ?_
    obtain ⟨q17, hq17, kq17, hw⟩ := hw
    refine s_getA (pc := 43) rfl ko_38 hq17 ?_
    refine s_aload_n (pc := 46) rfl rfl ?_
    obtain ⟨q18, hq18, kq18, hw⟩ := hw
    refine s_getA (pc := 47) rfl ko_1 hq18 ?_
    refine s_cv (pc := 50) (d := (d + 4)) (t := []) rfl rfl (am_ca_v (ps := [.ref q18, .ref q17, .int (iz z15), .ref 45]) rfl ko_50) (Nat.le_of_ble_eq_true rfl) (Cv.weak hw fun m19 J20 P21 hw => ?_)
    obtain ⟨hp23, hw⟩ := hw
    refine s_aload_n (pc := 53) rfl rfl ?_
    refine s_aload_n (pc := 54) rfl rfl ?_
    refine s_getA (pc := 55) rfl ko_1 (po_1_6 hp23) ?_
    refine s_getA (pc := 58) rfl ko_38 (po_38_3 hp23) ?_
    refine s_aload_n (pc := 61) rfl rfl ?_
    refine s_getA (pc := 62) rfl ko_1 (po_1_6 hp23) ?_
    refine s_iload_n (pc := 65) rfl rfl ?_
    refine s_ci (pc := 66) (d := (d + 4)) (t := [.ref 45, .ref 1]) rfl rfl (am_ca_v (ps := [.int (iz x1)]) rfl ko_38) (Nat.le_of_ble_eq_true rfl) (Ci.weak hw fun z27 m24 J25 P26 hw => ?_)
    obtain ⟨hp28, hw⟩ := hw
    refine s_ci (pc := 69) (d := (d + 4)) (t := []) rfl rfl (am_ca_v (ps := [.int (iz z27), .ref 45]) rfl ko_1) (Nat.le_of_ble_eq_true rfl) (Ci.weak hw fun z32 m29 J30 P31 hw => ?_)
    obtain ⟨hp33, hw⟩ := hw
    exact s_reti (pc := 72) rfl rfl hw
  · replace hw := hw.2 hc
    refine s_iconst (pc := 11) rfl ?_
    exact s_reti (pc := 12) rfl rfl hw

set_option maxRecDepth 20000 in
set_option maxHeartbeats 4000000 in
theorem b_Nh_out_0 {X : aX} {d : Nat} (x1 : Int)  (m : Mi) (J : Mj) (P : Mp) (hp : PP P) (post : Int → Mi → Mj → Mp → Prop)
    (hw : Zr (x1) ∧ (((x1 < 0) → post ((-1)) m J P) ∧ (¬ (x1 < 0) → Ci X (d + 1) 75 [.ref 50] m J P (fun z5 m2 J3 P4 => PP P4 ∧ Zr (x1) ∧ Zr (z5) ∧ (((z5 ≤ x1) → post ((-1)) m2 J3 P4) ∧ (¬ (z5 ≤ x1) → ((0 : Int) ≤ x1 ∧ (x1 : Int) < 1000) ∧ post (m2 51 x1.toNat) m2 J3 P4)))))) : Rn X (d + 2) 131 0 [some (.ref 1), some (.int (iz x1))] [] (SS m J P) (QI post) := by
  refine s_iload_n (pc := 0) rfl rfl ?_
  obtain ⟨hz1, hw⟩ := hw
  refine s_if_lt (pc := 1) (tgt := 27) rfl rfl hz1 (fun hc => ?_) (fun hc => ?_)
  · replace hw := hw.1 hc
    refine s_iconst (pc := 27) rfl ?_
    exact s_reti (pc := 28) rfl rfl hw
  · replace hw := hw.2 hc
    refine s_iload_n (pc := 4) rfl rfl ?_
    refine s_aload_n (pc := 5) rfl rfl ?_
    refine s_getA (pc := 6) rfl ko_1 (po_1_7 hp) ?_
    refine s_ci (pc := 9) (d := (d + 1)) (t := [.int (iz x1)]) rfl rfl (am_ca_v (ps := []) rfl ko_50) (Nat.le_of_ble_eq_true rfl) (Ci.weak hw fun z5 m2 J3 P4 hw => ?_)
    obtain ⟨hp6, hw⟩ := hw
    obtain ⟨hz7, hw⟩ := hw
    obtain ⟨hz8, hw⟩ := hw
    refine s_ic_ge (pc := 12) (tgt := 27) rfl rfl hz7 hz8 (fun hc => ?_) (fun hc => ?_)
    · replace hw := hw.1 hc
      refine s_iconst (pc := 27) rfl ?_
      exact s_reti (pc := 28) rfl rfl hw
    · replace hw := hw.2 hc
      refine s_aload_n (pc := 15) rfl rfl ?_
      refine s_getA (pc := 16) rfl ko_1 (po_1_7 hp6) ?_
      refine s_getA (pc := 19) rfl ko_50 (po_50_0 hp6) ?_
      refine s_iload_n (pc := 22) rfl rfl ?_
      obtain ⟨hb9, hw⟩ := hw
      refine s_iald (pc := 23) rfl ka_51 (by decide) hb9 ?_
      refine s_goto (pc := 24) (tgt := 28) rfl rfl ?_
      exact s_reti (pc := 28) rfl rfl hw

set_option maxRecDepth 20000 in
set_option maxHeartbeats 4000000 in
theorem b_Mdl_code_0 {X : aX} {d : Nat} (x0 : Int)  (m : Mi) (J : Mj) (P : Mp) (hp : PP P) (post : Int → Mi → Mj → Mp → Prop)
    (hw : Zr (x0) ∧ (((x0 < 97) → Zr (x0) ∧ (((x0 < 65) → Zr (x0) ∧ (((x0 < 48) → Rn X d 133 65 [some (.int (iz x0))] [] (SS m J P) (QI post)) ∧ (¬ (x0 < 48) → Zr (x0) ∧ (((57 < x0) → Rn X d 133 65 [some (.int (iz x0))] [] (SS m J P) (QI post)) ∧ (¬ (57 < x0) → post ((x0 - 48) + 53) m J P))))) ∧ (¬ (x0 < 65) → Zr (x0) ∧ (((90 < x0) → Zr (x0) ∧ (((x0 < 48) → Rn X d 133 65 [some (.int (iz x0))] [] (SS m J P) (QI post)) ∧ (¬ (x0 < 48) → Zr (x0) ∧ (((57 < x0) → Rn X d 133 65 [some (.int (iz x0))] [] (SS m J P) (QI post)) ∧ (¬ (57 < x0) → post ((x0 - 48) + 53) m J P))))) ∧ (¬ (90 < x0) → post ((x0 - 65) + 27) m J P))))) ∧ (¬ (x0 < 97) → Zr (x0) ∧ (((122 < x0) → Zr (x0) ∧ (((x0 < 65) → Zr (x0) ∧ (((x0 < 48) → Rn X d 133 65 [some (.int (iz x0))] [] (SS m J P) (QI post)) ∧ (¬ (x0 < 48) → Zr (x0) ∧ (((57 < x0) → Rn X d 133 65 [some (.int (iz x0))] [] (SS m J P) (QI post)) ∧ (¬ (57 < x0) → post ((x0 - 48) + 53) m J P))))) ∧ (¬ (x0 < 65) → Zr (x0) ∧ (((90 < x0) → Zr (x0) ∧ (((x0 < 48) → Rn X d 133 65 [some (.int (iz x0))] [] (SS m J P) (QI post)) ∧ (¬ (x0 < 48) → Zr (x0) ∧ (((57 < x0) → Rn X d 133 65 [some (.int (iz x0))] [] (SS m J P) (QI post)) ∧ (¬ (57 < x0) → post ((x0 - 48) + 53) m J P))))) ∧ (¬ (90 < x0) → post ((x0 - 65) + 27) m J P))))) ∧ (¬ (122 < x0) → post ((x0 - 97) + 1) m J P))))) : Rn X d 133 0 [some (.int (iz x0))] [] (SS m J P) (QI post) := by
  refine s_iload_n (pc := 0) rfl rfl ?_
  refine s_bipush (pc := 1) rfl (by decide) ?_
  obtain ⟨hz1, hw⟩ := hw
  refine s_ic_lt (pc := 3) (tgt := 21) rfl rfl hz1 (by decide) (fun hc => ?_) (fun hc => ?_)
  · replace hw := hw.1 hc
    refine s_iload_n (pc := 21) rfl rfl ?_
    refine s_bipush (pc := 22) rfl (by decide) ?_
    obtain ⟨hz2, hw⟩ := hw
    refine s_ic_lt (pc := 24) (tgt := 43) rfl rfl hz2 (by decide) (fun hc => ?_) (fun hc => ?_)
    · replace hw := hw.1 hc
      refine s_iload_n (pc := 43) rfl rfl ?_
      refine s_bipush (pc := 44) rfl (by decide) ?_
      obtain ⟨hz3, hw⟩ := hw
      refine s_ic_lt (pc := 46) (tgt := 65) rfl rfl hz3 (by decide) (fun hc => ?_) (fun hc => ?_)
      · replace hw := hw.1 hc
        exact hw
      · replace hw := hw.2 hc
        refine s_iload_n (pc := 49) rfl rfl ?_
        refine s_bipush (pc := 50) rfl (by decide) ?_
        obtain ⟨hz4, hw⟩ := hw
        refine s_ic_gt (pc := 52) (tgt := 65) rfl rfl hz4 (by decide) (fun hc => ?_) (fun hc => ?_)
        · replace hw := hw.1 hc
          exact hw
        · replace hw := hw.2 hc
          refine s_iload_n (pc := 55) rfl rfl ?_
          refine s_bipush (pc := 56) rfl (by decide) ?_
          refine s_isub (pc := 58) rfl ?_
          refine s_bipush (pc := 59) rfl (by decide) ?_
          refine s_iadd (pc := 61) rfl ?_
          refine s_goto (pc := 62) (tgt := 66) rfl rfl ?_
          exact s_reti (pc := 66) rfl rfl hw
    · replace hw := hw.2 hc
      refine s_iload_n (pc := 27) rfl rfl ?_
      refine s_bipush (pc := 28) rfl (by decide) ?_
      obtain ⟨hz5, hw⟩ := hw
      refine s_ic_gt (pc := 30) (tgt := 43) rfl rfl hz5 (by decide) (fun hc => ?_) (fun hc => ?_)
      · replace hw := hw.1 hc
        refine s_iload_n (pc := 43) rfl rfl ?_
        refine s_bipush (pc := 44) rfl (by decide) ?_
        obtain ⟨hz6, hw⟩ := hw
        refine s_ic_lt (pc := 46) (tgt := 65) rfl rfl hz6 (by decide) (fun hc => ?_) (fun hc => ?_)
        · replace hw := hw.1 hc
          exact hw
        · replace hw := hw.2 hc
          refine s_iload_n (pc := 49) rfl rfl ?_
          refine s_bipush (pc := 50) rfl (by decide) ?_
          obtain ⟨hz7, hw⟩ := hw
          refine s_ic_gt (pc := 52) (tgt := 65) rfl rfl hz7 (by decide) (fun hc => ?_) (fun hc => ?_)
          · replace hw := hw.1 hc
            exact hw
          · replace hw := hw.2 hc
            refine s_iload_n (pc := 55) rfl rfl ?_
            refine s_bipush (pc := 56) rfl (by decide) ?_
            refine s_isub (pc := 58) rfl ?_
            refine s_bipush (pc := 59) rfl (by decide) ?_
            refine s_iadd (pc := 61) rfl ?_
            refine s_goto (pc := 62) (tgt := 66) rfl rfl ?_
            exact s_reti (pc := 66) rfl rfl hw
      · replace hw := hw.2 hc
        refine s_iload_n (pc := 33) rfl rfl ?_
        refine s_bipush (pc := 34) rfl (by decide) ?_
        refine s_isub (pc := 36) rfl ?_
        refine s_bipush (pc := 37) rfl (by decide) ?_
        refine s_iadd (pc := 39) rfl ?_
        refine s_goto (pc := 40) (tgt := 66) rfl rfl ?_
        exact s_reti (pc := 66) rfl rfl hw
  · replace hw := hw.2 hc
    refine s_iload_n (pc := 6) rfl rfl ?_
    refine s_bipush (pc := 7) rfl (by decide) ?_
    obtain ⟨hz8, hw⟩ := hw
    refine s_ic_gt (pc := 9) (tgt := 21) rfl rfl hz8 (by decide) (fun hc => ?_) (fun hc => ?_)
    · replace hw := hw.1 hc
      refine s_iload_n (pc := 21) rfl rfl ?_
      refine s_bipush (pc := 22) rfl (by decide) ?_
      obtain ⟨hz9, hw⟩ := hw
      refine s_ic_lt (pc := 24) (tgt := 43) rfl rfl hz9 (by decide) (fun hc => ?_) (fun hc => ?_)
      · replace hw := hw.1 hc
        refine s_iload_n (pc := 43) rfl rfl ?_
        refine s_bipush (pc := 44) rfl (by decide) ?_
        obtain ⟨hz10, hw⟩ := hw
        refine s_ic_lt (pc := 46) (tgt := 65) rfl rfl hz10 (by decide) (fun hc => ?_) (fun hc => ?_)
        · replace hw := hw.1 hc
          exact hw
        · replace hw := hw.2 hc
          refine s_iload_n (pc := 49) rfl rfl ?_
          refine s_bipush (pc := 50) rfl (by decide) ?_
          obtain ⟨hz11, hw⟩ := hw
          refine s_ic_gt (pc := 52) (tgt := 65) rfl rfl hz11 (by decide) (fun hc => ?_) (fun hc => ?_)
          · replace hw := hw.1 hc
            exact hw
          · replace hw := hw.2 hc
            refine s_iload_n (pc := 55) rfl rfl ?_
            refine s_bipush (pc := 56) rfl (by decide) ?_
            refine s_isub (pc := 58) rfl ?_
            refine s_bipush (pc := 59) rfl (by decide) ?_
            refine s_iadd (pc := 61) rfl ?_
            refine s_goto (pc := 62) (tgt := 66) rfl rfl ?_
            exact s_reti (pc := 66) rfl rfl hw
      · replace hw := hw.2 hc
        refine s_iload_n (pc := 27) rfl rfl ?_
        refine s_bipush (pc := 28) rfl (by decide) ?_
        obtain ⟨hz12, hw⟩ := hw
        refine s_ic_gt (pc := 30) (tgt := 43) rfl rfl hz12 (by decide) (fun hc => ?_) (fun hc => ?_)
        · replace hw := hw.1 hc
          refine s_iload_n (pc := 43) rfl rfl ?_
          refine s_bipush (pc := 44) rfl (by decide) ?_
          obtain ⟨hz13, hw⟩ := hw
          refine s_ic_lt (pc := 46) (tgt := 65) rfl rfl hz13 (by decide) (fun hc => ?_) (fun hc => ?_)
          · replace hw := hw.1 hc
            exact hw
          · replace hw := hw.2 hc
            refine s_iload_n (pc := 49) rfl rfl ?_
            refine s_bipush (pc := 50) rfl (by decide) ?_
            obtain ⟨hz14, hw⟩ := hw
            refine s_ic_gt (pc := 52) (tgt := 65) rfl rfl hz14 (by decide) (fun hc => ?_) (fun hc => ?_)
            · replace hw := hw.1 hc
              exact hw
            · replace hw := hw.2 hc
              refine s_iload_n (pc := 55) rfl rfl ?_
              refine s_bipush (pc := 56) rfl (by decide) ?_
              refine s_isub (pc := 58) rfl ?_
              refine s_bipush (pc := 59) rfl (by decide) ?_
              refine s_iadd (pc := 61) rfl ?_
              refine s_goto (pc := 62) (tgt := 66) rfl rfl ?_
              exact s_reti (pc := 66) rfl rfl hw
        · replace hw := hw.2 hc
          refine s_iload_n (pc := 33) rfl rfl ?_
          refine s_bipush (pc := 34) rfl (by decide) ?_
          refine s_isub (pc := 36) rfl ?_
          refine s_bipush (pc := 37) rfl (by decide) ?_
          refine s_iadd (pc := 39) rfl ?_
          refine s_goto (pc := 40) (tgt := 66) rfl rfl ?_
          exact s_reti (pc := 66) rfl rfl hw
    · replace hw := hw.2 hc
      refine s_iload_n (pc := 12) rfl rfl ?_
      refine s_bipush (pc := 13) rfl (by decide) ?_
      refine s_isub (pc := 15) rfl ?_
      refine s_iconst (pc := 16) rfl ?_
      refine s_iadd (pc := 17) rfl ?_
      refine s_goto (pc := 18) (tgt := 66) rfl rfl ?_
      exact s_reti (pc := 66) rfl rfl hw

set_option maxRecDepth 20000 in
set_option maxHeartbeats 4000000 in
theorem b_Mdl_code_65 {X : aX} {d : Nat} (x0 : Int)  (m : Mi) (J : Mj) (P : Mp) (hp : PP P) (post : Int → Mi → Mj → Mp → Prop)
    (hw : post 0 m J P) : Rn X d 133 65 [some (.int (iz x0))] [] (SS m J P) (QI post) := by
  refine s_iconst (pc := 65) rfl ?_
  exact s_reti (pc := 66) rfl rfl hw

set_option maxRecDepth 20000 in
set_option maxHeartbeats 4000000 in
theorem b_Mdl_feed_0 {X : aX} {d : Nat} (x1 : Int) (x2 : Int) (x3 : Int) (x4 : Int) (x5 : Int)  (m : Mi) (J : Mj) (P : Mp) (hp : PP P) (post : Int → Mi → Mj → Mp → Prop)
    (hw : Zr ((m 262 1) + 20) ∧ (((((m 262 1) + 20) ≤ 1600) → Cv X d 135 [.ref 262, .int (iz x1)] m J P (fun m2 J3 P4 => PP P4 ∧ Cv X d 135 [.ref 262, .int (iz x2)] m2 J3 P4 (fun m7 J8 P9 => PP P9 ∧ Cv X d 135 [.ref 262, .int (iz x3)] m7 J8 P9 (fun m12 J13 P14 => PP P14 ∧ Cv X d 135 [.ref 262, .int (iz x4)] m12 J13 P14 (fun m17 J18 P19 => PP P19 ∧ Cv X d 135 [.ref 262, .int (iz x5)] m17 J18 P19 (fun m22 J23 P24 => PP P24 ∧ post (m22 262 1) m22 J23 P24)))))) ∧ (¬ (((m 262 1) + 20) ≤ 1600) → post ((-1)) m J P))) : Rn X (d + 1) 134 0 [some (.ref 262), some (.int (iz x1)), some (.int (iz x2)), some (.int (iz x3)), some (.int (iz x4)), some (.int (iz x5))] [] (SS m J P) (QI post) := by
  refine s_aload_n (pc := 0) rfl rfl ?_
  refine s_getI (pc := 1) rfl ko_262 ?_
  refine s_bipush (pc := 4) rfl (by decide) ?_
  refine s_iadd (pc := 6) rfl ?_
  refine s_sipush (pc := 7) rfl (by decide) ?_
  obtain ⟨hz1, hw⟩ := hw
  refine s_ic_le (pc := 10) (tgt := 15) rfl rfl hz1 (by decide) (fun hc => ?_) (fun hc => ?_)
  · replace hw := hw.1 hc
    refine s_aload_n (pc := 15) rfl rfl ?_
    refine s_iload_n (pc := 16) rfl rfl ?_
    refine s_cv (pc := 17) (d := d) (t := []) rfl rfl (am_ca_v (ps := [.int (iz x1)]) rfl ko_262) (Nat.le_of_ble_eq_true rfl) (Cv.weak hw fun m2 J3 P4 hw => ?_)
    obtain ⟨hp6, hw⟩ := hw
    refine s_aload_n (pc := 20) rfl rfl ?_
    refine s_iload_n (pc := 21) rfl rfl ?_
    refine s_cv (pc := 22) (d := d) (t := []) rfl rfl (am_ca_v (ps := [.int (iz x2)]) rfl ko_262) (Nat.le_of_ble_eq_true rfl) (Cv.weak hw fun m7 J8 P9 hw => ?_)
    obtain ⟨hp11, hw⟩ := hw
    refine s_aload_n (pc := 25) rfl rfl ?_
    refine s_iload_n (pc := 26) rfl rfl ?_
    refine s_cv (pc := 27) (d := d) (t := []) rfl rfl (am_ca_v (ps := [.int (iz x3)]) rfl ko_262) (Nat.le_of_ble_eq_true rfl) (Cv.weak hw fun m12 J13 P14 hw => ?_)
    obtain ⟨hp16, hw⟩ := hw
    refine s_aload_n (pc := 30) rfl rfl ?_
    refine s_iload (pc := 31) rfl rfl ?_
    refine s_cv (pc := 33) (d := d) (t := []) rfl rfl (am_ca_v (ps := [.int (iz x4)]) rfl ko_262) (Nat.le_of_ble_eq_true rfl) (Cv.weak hw fun m17 J18 P19 hw => ?_)
    obtain ⟨hp21, hw⟩ := hw
    refine s_aload_n (pc := 36) rfl rfl ?_
    refine s_iload (pc := 37) rfl rfl ?_
    refine s_cv (pc := 39) (d := d) (t := []) rfl rfl (am_ca_v (ps := [.int (iz x5)]) rfl ko_262) (Nat.le_of_ble_eq_true rfl) (Cv.weak hw fun m22 J23 P24 hw => ?_)
    obtain ⟨hp26, hw⟩ := hw
    refine s_aload_n (pc := 42) rfl rfl ?_
    refine s_getI (pc := 43) rfl ko_262 ?_
    exact s_reti (pc := 46) rfl rfl hw
  · replace hw := hw.2 hc
    refine s_iconst (pc := 13) rfl ?_
    exact s_reti (pc := 14) rfl rfl hw

set_option maxRecDepth 20000 in
set_option maxHeartbeats 4000000 in
theorem b_Mdl_lay_0 {X : aX} {d : Nat} (x1 : Int)  (m : Mi) (J : Mj) (P : Mp) (hp : PP P) (post : Mi → Mj → Mp → Prop)
    (hw : Rn X d 135 2 [some (.ref 262), some (.int (iz x1)), some (.int (iz 3))] [] (SS m J P) (QV post)) : Rn X d 135 0 [some (.ref 262), some (.int (iz x1)), none] [] (SS m J P) (QV post) := by
  refine s_iconst (pc := 0) rfl ?_
  refine s_istore_n (pc := 1) (L' := [some (.ref 262), some (.int (iz x1)), some (.int (iz 3))]) rfl (Nat.le_of_ble_eq_true rfl) rfl ?_
  exact hw

set_option maxRecDepth 20000 in
set_option maxHeartbeats 4000000 in
theorem b_Mdl_lay_2 {X : aX} {d : Nat} (x1 : Int) (x2 : Int)  (m : Mi) (J : Mj) (P : Mp) (hp : PP P) (post : Mi → Mj → Mp → Prop)
    (hw : Zr (x2) ∧ (((x2 < 0) → post m J P) ∧ (¬ (x2 < 0) → ((0 : Int) ≤ (m 262 1) ∧ ((m 262 1) : Int) < 1600) ∧ (zi2b (zi2b (zshr x1 (8 * x2))) = (zi2b (zshr x1 (8 * x2))) ∧ Zr (zi2b (zshr x1 (8 * x2)))) ∧ Rn X d 135 2 [some (.ref 262), some (.int (iz x1)), some (.int (iz (x2 + (-1))))] [] (SS (mu (mu m 263 (m 262 1).toNat (zi2b (zshr x1 (8 * x2)))) 262 1 (((mu m 263 (m 262 1).toNat (zi2b (zshr x1 (8 * x2)))) 262 1) + 1)) J P) (QV post)))) : Rn X d 135 2 [some (.ref 262), some (.int (iz x1)), some (.int (iz x2))] [] (SS m J P) (QV post) := by
  refine s_iload_n (pc := 2) rfl rfl ?_
  obtain ⟨hz1, hw⟩ := hw
  refine s_if_lt (pc := 3) (tgt := 38) rfl rfl hz1 (fun hc => ?_) (fun hc => ?_)
  · replace hw := hw.1 hc
    exact s_retv (pc := 38) rfl rfl hw
  · replace hw := hw.2 hc
    refine s_aload_n (pc := 6) rfl rfl ?_
    refine s_getA (pc := 7) rfl ko_262 (po_262_0 hp) ?_
    refine s_aload_n (pc := 10) rfl rfl ?_
    refine s_getI (pc := 11) rfl ko_262 ?_
    refine s_iload_n (pc := 14) rfl rfl ?_
    refine s_bipush (pc := 15) rfl (by decide) ?_
    refine s_iload_n (pc := 17) rfl rfl ?_
    refine s_imul (pc := 18) rfl ?_
    refine s_ishr (pc := 19) rfl ?_
    refine s_i2b (pc := 20) rfl ?_
    obtain ⟨hb2, hw⟩ := hw
    obtain ⟨hv3, hw⟩ := hw
    refine s_bast (pc := 21) rfl ka_263 (Or.inl ⟨rfl, hv3⟩) (by decide) hb2 ?_
    refine s_aload_n (pc := 22) rfl rfl ?_
    refine s_dup (pc := 23) rfl rfl ?_
    refine s_getI (pc := 24) rfl ko_262 ?_
    refine s_iconst (pc := 27) rfl ?_
    refine s_iadd (pc := 28) rfl ?_
    refine s_putI (pc := 29) rfl ko_262 ?_
    refine s_iinc (pc := 32) (L' := [some (.ref 262), some (.int (iz x1)), some (.int (iz (x2 + (-1))))]) rfl rfl (Nat.le_of_ble_eq_true rfl) rfl ?_
    refine s_goto (pc := 35) (tgt := 2) rfl rfl ?_
    exact hw

set_option maxRecDepth 20000 in
set_option maxHeartbeats 4000000 in
theorem b_Mdl_system_0 {X : aX} {d : Nat} (x1 : Int)  (m : Mi) (J : Mj) (P : Mp) (hp : PP P) (post : Int → Mi → Mj → Mp → Prop)
    (hw : Zr (x1) ∧ (((x1 < 0) → post ((-1)) m J P) ∧ (¬ (x1 < 0) → Zr (x1) ∧ Zr (m 262 1) ∧ (((x1 ≤ (m 262 1)) → Cv X (d + 7) 137 [.ref 262, .int (iz x1)] m J P (fun m4 J5 P6 => PP P6 ∧ Cv X (d + 7) 141 [.ref 262] m4 J5 P6 (fun m9 J10 P11 => PP P11 ∧ Zr (m9 262 10) ∧ (((¬ (m9 262 10) = 0) → Cv X (d + 7) 159 [.ref 262] m9 J10 P11 (fun m15 J16 P17 => PP P17 ∧ Zr (m15 262 10) ∧ ((((m15 262 10) ≤ 0) → Cv X (d + 7) 160 [.ref 262] m15 J16 P17 (fun m21 J22 P23 => PP P23 ∧ Cv X (d + 7) 161 [.ref 262] (mu m21 262 93 0) J22 P23 (fun m26 J27 P28 => PP P28 ∧ post 0 m26 J27 P28))) ∧ (¬ ((m15 262 10) ≤ 0) → post (m15 262 10) m15 J16 P17)))) ∧ (¬ (¬ (m9 262 10) = 0) → Cv X (d + 7) 149 [.ref 262] m9 J10 P11 (fun m31 J32 P33 => PP P33 ∧ Cv X (d + 7) 159 [.ref 262] m31 J32 P33 (fun m36 J37 P38 => PP P38 ∧ Zr (m36 262 10) ∧ ((((m36 262 10) ≤ 0) → Cv X (d + 7) 160 [.ref 262] m36 J37 P38 (fun m42 J43 P44 => PP P44 ∧ Cv X (d + 7) 161 [.ref 262] (mu m42 262 93 0) J43 P44 (fun m47 J48 P49 => PP P49 ∧ post 0 m47 J48 P49))) ∧ (¬ ((m36 262 10) ≤ 0) → post (m36 262 10) m36 J37 P38))))))))) ∧ (¬ (x1 ≤ (m 262 1)) → post ((-1)) m J P))))) : Rn X (d + 8) 136 0 [some (.ref 262), some (.int (iz x1))] [] (SS m J P) (QI post) := by
  refine s_iload_n (pc := 0) rfl rfl ?_
  obtain ⟨hz1, hw⟩ := hw
  refine s_if_lt (pc := 1) (tgt := 12) rfl rfl hz1 (fun hc => ?_) (fun hc => ?_)
  · replace hw := hw.1 hc
    refine s_iconst (pc := 12) rfl ?_
    exact s_reti (pc := 13) rfl rfl hw
  · replace hw := hw.2 hc
    refine s_iload_n (pc := 4) rfl rfl ?_
    refine s_aload_n (pc := 5) rfl rfl ?_
    refine s_getI (pc := 6) rfl ko_262 ?_
    obtain ⟨hz2, hw⟩ := hw
    obtain ⟨hz3, hw⟩ := hw
    refine s_ic_le (pc := 9) (tgt := 14) rfl rfl hz2 hz3 (fun hc => ?_) (fun hc => ?_)
    · replace hw := hw.1 hc
      refine s_aload_n (pc := 14) rfl rfl ?_
      refine s_iload_n (pc := 15) rfl rfl ?_
      refine s_cv (pc := 16) (d := (d + 7)) (t := []) rfl rfl (am_ca_v (ps := [.int (iz x1)]) rfl ko_262) (Nat.le_of_ble_eq_true rfl) (Cv.weak hw fun m4 J5 P6 hw => ?_)
      obtain ⟨hp8, hw⟩ := hw
      refine s_aload_n (pc := 19) rfl rfl ?_
      refine s_cv (pc := 20) (d := (d + 7)) (t := []) rfl rfl (am_ca_v (ps := []) rfl ko_262) (Nat.le_of_ble_eq_true rfl) (Cv.weak hw fun m9 J10 P11 hw => ?_)
      obtain ⟨hp13, hw⟩ := hw
      refine s_aload_n (pc := 23) rfl rfl ?_
      refine s_getI (pc := 24) rfl ko_262 ?_
      obtain ⟨hz14, hw⟩ := hw
      refine s_if_ne (pc := 27) (tgt := 34) rfl rfl hz14 (fun hc => ?_) (fun hc => ?_)
      · replace hw := hw.1 hc
        refine s_aload_n (pc := 34) rfl rfl ?_
        refine s_cv (pc := 35) (d := (d + 7)) (t := []) rfl rfl (am_ca_v (ps := []) rfl ko_262) (Nat.le_of_ble_eq_true rfl) (Cv.weak hw fun m15 J16 P17 hw => ?_)
        obtain ⟨hp19, hw⟩ := hw
        refine s_aload_n (pc := 38) rfl rfl ?_
        refine s_getI (pc := 39) rfl ko_262 ?_
        obtain ⟨hz20, hw⟩ := hw
        refine s_if_le (pc := 42) (tgt := 50) rfl rfl hz20 (fun hc => ?_) (fun hc => ?_)
        · replace hw := hw.1 hc
          refine s_aload_n (pc := 50) rfl rfl ?_
          refine s_cv (pc := 51) (d := (d + 7)) (t := []) rfl rfl (am_ca_v (ps := []) rfl ko_262) (Nat.le_of_ble_eq_true rfl) (Cv.weak hw fun m21 J22 P23 hw => ?_)
          obtain ⟨hp25, hw⟩ := hw
          refine s_aload_n (pc := 54) rfl rfl ?_
          refine s_iconst (pc := 55) rfl ?_
          refine s_putZ (pc := 56) rfl ko_262 (by decide) ?_
          refine s_aload_n (pc := 59) rfl rfl ?_
          refine s_cv (pc := 60) (d := (d + 7)) (t := []) rfl rfl (am_ca_v (ps := []) rfl ko_262) (Nat.le_of_ble_eq_true rfl) (Cv.weak hw fun m26 J27 P28 hw => ?_)
          obtain ⟨hp30, hw⟩ := hw
          refine s_iconst (pc := 63) rfl ?_
          exact s_reti (pc := 64) rfl rfl hw
        · replace hw := hw.2 hc
          refine s_aload_n (pc := 45) rfl rfl ?_
          refine s_getI (pc := 46) rfl ko_262 ?_
          exact s_reti (pc := 49) rfl rfl hw
      · replace hw := hw.2 hc
        refine s_aload_n (pc := 30) rfl rfl ?_
        refine s_cv (pc := 31) (d := (d + 7)) (t := []) rfl rfl (am_ca_v (ps := []) rfl ko_262) (Nat.le_of_ble_eq_true rfl) (Cv.weak hw fun m31 J32 P33 hw => ?_)
        obtain ⟨hp35, hw⟩ := hw
        refine s_aload_n (pc := 34) rfl rfl ?_
        refine s_cv (pc := 35) (d := (d + 7)) (t := []) rfl rfl (am_ca_v (ps := []) rfl ko_262) (Nat.le_of_ble_eq_true rfl) (Cv.weak hw fun m36 J37 P38 hw => ?_)
        obtain ⟨hp40, hw⟩ := hw
        refine s_aload_n (pc := 38) rfl rfl ?_
        refine s_getI (pc := 39) rfl ko_262 ?_
        obtain ⟨hz41, hw⟩ := hw
        refine s_if_le (pc := 42) (tgt := 50) rfl rfl hz41 (fun hc => ?_) (fun hc => ?_)
        · replace hw := hw.1 hc
          refine s_aload_n (pc := 50) rfl rfl ?_
          refine s_cv (pc := 51) (d := (d + 7)) (t := []) rfl rfl (am_ca_v (ps := []) rfl ko_262) (Nat.le_of_ble_eq_true rfl) (Cv.weak hw fun m42 J43 P44 hw => ?_)
          obtain ⟨hp46, hw⟩ := hw
          refine s_aload_n (pc := 54) rfl rfl ?_
          refine s_iconst (pc := 55) rfl ?_
          refine s_putZ (pc := 56) rfl ko_262 (by decide) ?_
          refine s_aload_n (pc := 59) rfl rfl ?_
          refine s_cv (pc := 60) (d := (d + 7)) (t := []) rfl rfl (am_ca_v (ps := []) rfl ko_262) (Nat.le_of_ble_eq_true rfl) (Cv.weak hw fun m47 J48 P49 hw => ?_)
          obtain ⟨hp51, hw⟩ := hw
          refine s_iconst (pc := 63) rfl ?_
          exact s_reti (pc := 64) rfl rfl hw
        · replace hw := hw.2 hc
          refine s_aload_n (pc := 45) rfl rfl ?_
          refine s_getI (pc := 46) rfl ko_262 ?_
          exact s_reti (pc := 49) rfl rfl hw
    · replace hw := hw.2 hc
      refine s_iconst (pc := 12) rfl ?_
      exact s_reti (pc := 13) rfl rfl hw

set_option maxRecDepth 20000 in
set_option maxHeartbeats 4000000 in
theorem b_Mdl_begin_0 {X : aX} {d : Nat} (x1 : Int)  (m : Mi) (J : Mj) (P : Mp) (hp : PP P) (post : Mi → Mj → Mp → Prop)
    (hw : Cv X (d + 2) 138 [.ref 262] (mu (mu (mu (mu m 262 2 x1) 262 1 0) 262 5 0) 262 10 0) J P (fun m1 J2 P3 => PP P3 ∧ post m1 J2 P3)) : Rn X (d + 3) 137 0 [some (.ref 262), some (.int (iz x1))] [] (SS m J P) (QV post) := by
  refine s_aload_n (pc := 0) rfl rfl ?_
  refine s_iload_n (pc := 1) rfl rfl ?_
  refine s_putI (pc := 2) rfl ko_262 ?_
  refine s_aload_n (pc := 5) rfl rfl ?_
  refine s_iconst (pc := 6) rfl ?_
  refine s_putI (pc := 7) rfl ko_262 ?_
  refine s_aload_n (pc := 10) rfl rfl ?_
  refine s_iconst (pc := 11) rfl ?_
  refine s_putI (pc := 12) rfl ko_262 ?_
  refine s_aload_n (pc := 15) rfl rfl ?_
  refine s_iconst (pc := 16) rfl ?_
  refine s_putI (pc := 17) rfl ko_262 ?_
  refine s_aload_n (pc := 20) rfl rfl ?_
  refine s_cv (pc := 21) (d := (d + 2)) (t := []) rfl rfl (am_ca_v (ps := []) rfl ko_262) (Nat.le_of_ble_eq_true rfl) (Cv.weak hw fun m1 J2 P3 hw => ?_)
  obtain ⟨hp5, hw⟩ := hw
  exact s_retv (pc := 24) rfl rfl hw

set_option maxRecDepth 20000 in
set_option maxHeartbeats 4000000 in
theorem b_Mdl_next_0 {X : aX} {d : Nat}   (m : Mi) (J : Mj) (P : Mp) (hp : PP P) (post : Mi → Mj → Mp → Prop)
    (hw : Rn X (d + 2) 138 8 [some (.ref 262), none] [] (SS (mu m 262 4 (m 262 5)) J P) (QV post)) : Rn X (d + 2) 138 0 [some (.ref 262), none] [] (SS m J P) (QV post) := by
  refine s_aload_n (pc := 0) rfl rfl ?_
  refine s_aload_n (pc := 1) rfl rfl ?_
  refine s_getI (pc := 2) rfl ko_262 ?_
  refine s_putI (pc := 5) rfl ko_262 ?_
  exact hw

set_option maxRecDepth 20000 in
set_option maxHeartbeats 4000000 in
theorem b_Mdl_next_8 {X : aX} {d : Nat}   (m : Mi) (J : Mj) (P : Mp) (hp : PP P) (post : Mi → Mj → Mp → Prop)
    (hw : Zr (m 262 4) ∧ Zr (m 262 2) ∧ ((((m 262 2) ≤ (m 262 4)) → Zr ((mu m 262 5 (m 262 4)) 262 4) ∧ Zr ((mu m 262 5 (m 262 4)) 262 2) ∧ (((((mu m 262 5 (m 262 4)) 262 4) < ((mu m 262 5 (m 262 4)) 262 2)) → Ci X (d + 1) 139 [.ref 262, .int (iz ((mu m 262 5 (m 262 4)) 262 4))] (mu m 262 5 (m 262 4)) J P (fun z8 m5 J6 P7 => PP P7 ∧ Zr (z8) ∧ (((z8 < 48) → Ci X (d + 1) 133 [.int (iz z8)] m5 J6 P7 (fun z14 m11 J12 P13 => PP P13 ∧ Zr (z14) ∧ (((z14 ≤ 0) → Cv X (d + 1) 140 [.ref 262, .int (iz z8)] m11 J12 P13 (fun m17 J18 P19 => PP P19 ∧ Rn X (d + 2) 138 283 [some (.ref 262), some (.int (iz z8))] [] (SS m17 J18 P19) (QV post))) ∧ (¬ (z14 ≤ 0) → Rn X (d + 2) 138 142 [some (.ref 262), some (.int (iz z8))] [] (SS m11 (mju J12 262 7 (Int64.ofNat 0)) P13) (QV post))))) ∧ (¬ (z8 < 48) → Zr (z8) ∧ (((57 < z8) → Ci X (d + 1) 133 [.int (iz z8)] m5 J6 P7 (fun z26 m23 J24 P25 => PP P25 ∧ Zr (z26) ∧ (((z26 ≤ 0) → Cv X (d + 1) 140 [.ref 262, .int (iz z8)] m23 J24 P25 (fun m29 J30 P31 => PP P31 ∧ Rn X (d + 2) 138 283 [some (.ref 262), some (.int (iz z8))] [] (SS m29 J30 P31) (QV post))) ∧ (¬ (z26 ≤ 0) → Rn X (d + 2) 138 142 [some (.ref 262), some (.int (iz z8))] [] (SS m23 (mju J24 262 7 (Int64.ofNat 0)) P25) (QV post))))) ∧ (¬ (57 < z8) → Rn X (d + 2) 138 283 [some (.ref 262), some (.int (iz z8))] [] (SS (mu (mu (mu m5 262 3 3) 262 6 (z8 - 48)) 262 5 (((mu (mu m5 262 3 3) 262 6 (z8 - 48)) 262 4) + 1)) J6 P7) (QV post))))))) ∧ (¬ (((mu m 262 5 (m 262 4)) 262 4) < ((mu m 262 5 (m 262 4)) 262 2)) → post (mu (mu m 262 5 (m 262 4)) 262 3 0) J P))) ∧ (¬ ((m 262 2) ≤ (m 262 4)) → Ci X (d + 1) 139 [.ref 262, .int (iz (m 262 4))] m J P (fun z37 m34 J35 P36 => PP P36 ∧ Zr (z37) ∧ (((z37 = 10) → Rn X (d + 2) 138 8 [some (.ref 262), none] [] (SS (mu m34 262 4 ((m34 262 4) + 1)) J35 P36) (QV post)) ∧ (¬ (z37 = 10) → Ci X (d + 1) 139 [.ref 262, .int (iz (m34 262 4))] m34 J35 P36 (fun z43 m40 J41 P42 => PP P42 ∧ Zr (z43) ∧ (((¬ z43 = 32) → Zr ((mu m40 262 5 (m40 262 4)) 262 4) ∧ Zr ((mu m40 262 5 (m40 262 4)) 262 2) ∧ (((((mu m40 262 5 (m40 262 4)) 262 4) < ((mu m40 262 5 (m40 262 4)) 262 2)) → Ci X (d + 1) 139 [.ref 262, .int (iz ((mu m40 262 5 (m40 262 4)) 262 4))] (mu m40 262 5 (m40 262 4)) J41 P42 (fun z51 m48 J49 P50 => PP P50 ∧ Zr (z51) ∧ (((z51 < 48) → Ci X (d + 1) 133 [.int (iz z51)] m48 J49 P50 (fun z57 m54 J55 P56 => PP P56 ∧ Zr (z57) ∧ (((z57 ≤ 0) → Cv X (d + 1) 140 [.ref 262, .int (iz z51)] m54 J55 P56 (fun m60 J61 P62 => PP P62 ∧ Rn X (d + 2) 138 283 [some (.ref 262), some (.int (iz z51))] [] (SS m60 J61 P62) (QV post))) ∧ (¬ (z57 ≤ 0) → Rn X (d + 2) 138 142 [some (.ref 262), some (.int (iz z51))] [] (SS m54 (mju J55 262 7 (Int64.ofNat 0)) P56) (QV post))))) ∧ (¬ (z51 < 48) → Zr (z51) ∧ (((57 < z51) → Ci X (d + 1) 133 [.int (iz z51)] m48 J49 P50 (fun z69 m66 J67 P68 => PP P68 ∧ Zr (z69) ∧ (((z69 ≤ 0) → Cv X (d + 1) 140 [.ref 262, .int (iz z51)] m66 J67 P68 (fun m72 J73 P74 => PP P74 ∧ Rn X (d + 2) 138 283 [some (.ref 262), some (.int (iz z51))] [] (SS m72 J73 P74) (QV post))) ∧ (¬ (z69 ≤ 0) → Rn X (d + 2) 138 142 [some (.ref 262), some (.int (iz z51))] [] (SS m66 (mju J67 262 7 (Int64.ofNat 0)) P68) (QV post))))) ∧ (¬ (57 < z51) → Rn X (d + 2) 138 283 [some (.ref 262), some (.int (iz z51))] [] (SS (mu (mu (mu m48 262 3 3) 262 6 (z51 - 48)) 262 5 (((mu (mu m48 262 3 3) 262 6 (z51 - 48)) 262 4) + 1)) J49 P50) (QV post))))))) ∧ (¬ (((mu m40 262 5 (m40 262 4)) 262 4) < ((mu m40 262 5 (m40 262 4)) 262 2)) → post (mu (mu m40 262 5 (m40 262 4)) 262 3 0) J41 P42))) ∧ (¬ (¬ z43 = 32) → Rn X (d + 2) 138 8 [some (.ref 262), none] [] (SS (mu m40 262 4 ((m40 262 4) + 1)) J41 P42) (QV post)))))))))) : Rn X (d + 2) 138 8 [some (.ref 262), none] [] (SS m J P) (QV post) := by
  refine s_aload_n (pc := 8) rfl rfl ?_
  refine s_getI (pc := 9) rfl ko_262 ?_
  refine s_aload_n (pc := 12) rfl rfl ?_
  refine s_getI (pc := 13) rfl ko_262 ?_
  obtain ⟨hz1, hw⟩ := hw
  obtain ⟨hz2, hw⟩ := hw
  refine s_ic_ge (pc := 16) (tgt := 58) rfl rfl hz1 hz2 (fun hc => ?_) (fun hc => ?_)
  · replace hw := hw.1 hc
    refine s_aload_n (pc := 58) rfl rfl ?_
    refine s_aload_n (pc := 59) rfl rfl ?_
    refine s_getI (pc := 60) rfl ko_262 ?_
    refine s_putI (pc := 63) rfl ko_262 ?_
    refine s_aload_n (pc := 66) rfl rfl ?_
    refine s_getI (pc := 67) rfl ko_262 ?_
    refine s_aload_n (pc := 70) rfl rfl ?_
    refine s_getI (pc := 71) rfl ko_262 ?_
    obtain ⟨hz3, hw⟩ := hw
    obtain ⟨hz4, hw⟩ := hw
    refine s_ic_lt (pc := 74) (tgt := 83) rfl rfl hz3 hz4 (fun hc => ?_) (fun hc => ?_)
    · replace hw := hw.1 hc
      refine s_aload_n (pc := 83) rfl rfl ?_
      refine s_aload_n (pc := 84) rfl rfl ?_
      refine s_getI (pc := 85) rfl ko_262 ?_
      refine s_ci (pc := 88) (d := (d + 1)) (t := []) rfl rfl (am_ca_v (ps := [.int (iz ((mu m 262 5 (m 262 4)) 262 4))]) rfl ko_262) (Nat.le_of_ble_eq_true rfl) (Ci.weak hw fun z8 m5 J6 P7 hw => ?_)
      obtain ⟨hp9, hw⟩ := hw
      refine s_istore_n (pc := 91) (L' := [some (.ref 262), some (.int (iz z8))]) rfl (Nat.le_of_ble_eq_true rfl) rfl ?_
      refine s_iload_n (pc := 92) rfl rfl ?_
      refine s_bipush (pc := 93) rfl (by decide) ?_
      obtain ⟨hz10, hw⟩ := hw
      refine s_ic_lt (pc := 95) (tgt := 130) rfl rfl hz10 (by decide) (fun hc => ?_) (fun hc => ?_)
      · replace hw := hw.1 hc
        refine s_iload_n (pc := 130) rfl rfl ?_
        refine s_ci (pc := 131) (d := (d + 1)) (t := []) rfl rfl (am_ca_s (ps := [.int (iz z8)]) rfl) (Nat.le_of_ble_eq_true rfl) (Ci.weak hw fun z14 m11 J12 P13 hw => ?_)
        obtain ⟨hp15, hw⟩ := hw
        obtain ⟨hz16, hw⟩ := hw
        refine s_if_le (pc := 134) (tgt := 278) rfl rfl hz16 (fun hc => ?_) (fun hc => ?_)
        · replace hw := hw.1 hc
          refine s_aload_n (pc := 278) rfl rfl ?_
          refine s_iload_n (pc := 279) rfl rfl ?_
          refine s_cv (pc := 280) (d := (d + 1)) (t := []) rfl rfl (am_ca_v (ps := [.int (iz z8)]) rfl ko_262) (Nat.le_of_ble_eq_true rfl) (Cv.weak hw fun m17 J18 P19 hw => ?_)
          obtain ⟨hp21, hw⟩ := hw
          exact hw
        · replace hw := hw.2 hc
          refine s_aload_n (pc := 137) rfl rfl ?_
          refine s_lconst (pc := 138) rfl ?_
          refine s_putJ (pc := 139) rfl ko_262 ?_
          exact hw
      · replace hw := hw.2 hc
        refine s_iload_n (pc := 98) rfl rfl ?_
        refine s_bipush (pc := 99) rfl (by decide) ?_
        obtain ⟨hz22, hw⟩ := hw
        refine s_ic_gt (pc := 101) (tgt := 130) rfl rfl hz22 (by decide) (fun hc => ?_) (fun hc => ?_)
        · replace hw := hw.1 hc
          refine s_iload_n (pc := 130) rfl rfl ?_
          refine s_ci (pc := 131) (d := (d + 1)) (t := []) rfl rfl (am_ca_s (ps := [.int (iz z8)]) rfl) (Nat.le_of_ble_eq_true rfl) (Ci.weak hw fun z26 m23 J24 P25 hw => ?_)
          obtain ⟨hp27, hw⟩ := hw
          obtain ⟨hz28, hw⟩ := hw
          refine s_if_le (pc := 134) (tgt := 278) rfl rfl hz28 (fun hc => ?_) (fun hc => ?_)
          · replace hw := hw.1 hc
            refine s_aload_n (pc := 278) rfl rfl ?_
            refine s_iload_n (pc := 279) rfl rfl ?_
            refine s_cv (pc := 280) (d := (d + 1)) (t := []) rfl rfl (am_ca_v (ps := [.int (iz z8)]) rfl ko_262) (Nat.le_of_ble_eq_true rfl) (Cv.weak hw fun m29 J30 P31 hw => ?_)
            obtain ⟨hp33, hw⟩ := hw
            exact hw
          · replace hw := hw.2 hc
            refine s_aload_n (pc := 137) rfl rfl ?_
            refine s_lconst (pc := 138) rfl ?_
            refine s_putJ (pc := 139) rfl ko_262 ?_
            exact hw
        · replace hw := hw.2 hc
          refine s_aload_n (pc := 104) rfl rfl ?_
          refine s_iconst (pc := 105) rfl ?_
          refine s_putI (pc := 106) rfl ko_262 ?_
          refine s_aload_n (pc := 109) rfl rfl ?_
          refine s_iload_n (pc := 110) rfl rfl ?_
          refine s_bipush (pc := 111) rfl (by decide) ?_
          refine s_isub (pc := 113) rfl ?_
          refine s_putI (pc := 114) rfl ko_262 ?_
          refine s_aload_n (pc := 117) rfl rfl ?_
          refine s_aload_n (pc := 118) rfl rfl ?_
          refine s_getI (pc := 119) rfl ko_262 ?_
          refine s_iconst (pc := 122) rfl ?_
          refine s_iadd (pc := 123) rfl ?_
          refine s_putI (pc := 124) rfl ko_262 ?_
          refine s_goto (pc := 127) (tgt := 283) rfl rfl ?_
          exact hw
    · replace hw := hw.2 hc
      refine s_aload_n (pc := 77) rfl rfl ?_
      refine s_iconst (pc := 78) rfl ?_
      refine s_putI (pc := 79) rfl ko_262 ?_
      exact s_retv (pc := 82) rfl rfl hw
  · replace hw := hw.2 hc
    refine s_aload_n (pc := 19) rfl rfl ?_
    refine s_aload_n (pc := 20) rfl rfl ?_
    refine s_getI (pc := 21) rfl ko_262 ?_
    refine s_ci (pc := 24) (d := (d + 1)) (t := []) rfl rfl (am_ca_v (ps := [.int (iz (m 262 4))]) rfl ko_262) (Nat.le_of_ble_eq_true rfl) (Ci.weak hw fun z37 m34 J35 P36 hw => ?_)
    obtain ⟨hp38, hw⟩ := hw
    refine s_bipush (pc := 27) rfl (by decide) ?_
    obtain ⟨hz39, hw⟩ := hw
    refine s_ic_eq (pc := 29) (tgt := 45) rfl rfl hz39 (by decide) (fun hc => ?_) (fun hc => ?_)
    · replace hw := hw.1 hc
      refine s_aload_n (pc := 45) rfl rfl ?_
      refine s_dup (pc := 46) rfl rfl ?_
      refine s_getI (pc := 47) rfl ko_262 ?_
      refine s_iconst (pc := 50) rfl ?_
      refine s_iadd (pc := 51) rfl ?_
      refine s_putI (pc := 52) rfl ko_262 ?_
      refine s_goto (pc := 55) (tgt := 8) rfl rfl ?_
      exact hw
    · replace hw := hw.2 hc
      refine s_aload_n (pc := 32) rfl rfl ?_
      refine s_aload_n (pc := 33) rfl rfl ?_
      refine s_getI (pc := 34) rfl ko_262 ?_
      refine s_ci (pc := 37) (d := (d + 1)) (t := []) rfl rfl (am_ca_v (ps := [.int (iz (m34 262 4))]) rfl ko_262) (Nat.le_of_ble_eq_true rfl) (Ci.weak hw fun z43 m40 J41 P42 hw => ?_)
      obtain ⟨hp44, hw⟩ := hw
      refine s_bipush (pc := 40) rfl (by decide) ?_
      obtain ⟨hz45, hw⟩ := hw
      refine s_ic_ne (pc := 42) (tgt := 58) rfl rfl hz45 (by decide) (fun hc => ?_) (fun hc => ?_)
      · replace hw := hw.1 hc
        refine s_aload_n (pc := 58) rfl rfl ?_
        refine s_aload_n (pc := 59) rfl rfl ?_
        refine s_getI (pc := 60) rfl ko_262 ?_
        refine s_putI (pc := 63) rfl ko_262 ?_
        refine s_aload_n (pc := 66) rfl rfl ?_
        refine s_getI (pc := 67) rfl ko_262 ?_
        refine s_aload_n (pc := 70) rfl rfl ?_
        refine s_getI (pc := 71) rfl ko_262 ?_
        obtain ⟨hz46, hw⟩ := hw
        obtain ⟨hz47, hw⟩ := hw
        refine s_ic_lt (pc := 74) (tgt := 83) rfl rfl hz46 hz47 (fun hc => ?_) (fun hc => ?_)
        · replace hw := hw.1 hc
          refine s_aload_n (pc := 83) rfl rfl ?_
          refine s_aload_n (pc := 84) rfl rfl ?_
          refine s_getI (pc := 85) rfl ko_262 ?_
          refine s_ci (pc := 88) (d := (d + 1)) (t := []) rfl rfl (am_ca_v (ps := [.int (iz ((mu m40 262 5 (m40 262 4)) 262 4))]) rfl ko_262) (Nat.le_of_ble_eq_true rfl) (Ci.weak hw fun z51 m48 J49 P50 hw => ?_)
          obtain ⟨hp52, hw⟩ := hw
          refine s_istore_n (pc := 91) (L' := [some (.ref 262), some (.int (iz z51))]) rfl (Nat.le_of_ble_eq_true rfl) rfl ?_
          refine s_iload_n (pc := 92) rfl rfl ?_
          refine s_bipush (pc := 93) rfl (by decide) ?_
          obtain ⟨hz53, hw⟩ := hw
          refine s_ic_lt (pc := 95) (tgt := 130) rfl rfl hz53 (by decide) (fun hc => ?_) (fun hc => ?_)
          · replace hw := hw.1 hc
            refine s_iload_n (pc := 130) rfl rfl ?_
            refine s_ci (pc := 131) (d := (d + 1)) (t := []) rfl rfl (am_ca_s (ps := [.int (iz z51)]) rfl) (Nat.le_of_ble_eq_true rfl) (Ci.weak hw fun z57 m54 J55 P56 hw => ?_)
            obtain ⟨hp58, hw⟩ := hw
            obtain ⟨hz59, hw⟩ := hw
            refine s_if_le (pc := 134) (tgt := 278) rfl rfl hz59 (fun hc => ?_) (fun hc => ?_)
            · replace hw := hw.1 hc
              refine s_aload_n (pc := 278) rfl rfl ?_
              refine s_iload_n (pc := 279) rfl rfl ?_
              refine s_cv (pc := 280) (d := (d + 1)) (t := []) rfl rfl (am_ca_v (ps := [.int (iz z51)]) rfl ko_262) (Nat.le_of_ble_eq_true rfl) (Cv.weak hw fun m60 J61 P62 hw => ?_)
              obtain ⟨hp64, hw⟩ := hw
              exact hw
            · replace hw := hw.2 hc
              refine s_aload_n (pc := 137) rfl rfl ?_
              refine s_lconst (pc := 138) rfl ?_
              refine s_putJ (pc := 139) rfl ko_262 ?_
              exact hw
          · replace hw := hw.2 hc
            refine s_iload_n (pc := 98) rfl rfl ?_
            refine s_bipush (pc := 99) rfl (by decide) ?_
            obtain ⟨hz65, hw⟩ := hw
            refine s_ic_gt (pc := 101) (tgt := 130) rfl rfl hz65 (by decide) (fun hc => ?_) (fun hc => ?_)
            · replace hw := hw.1 hc
              refine s_iload_n (pc := 130) rfl rfl ?_
              refine s_ci (pc := 131) (d := (d + 1)) (t := []) rfl rfl (am_ca_s (ps := [.int (iz z51)]) rfl) (Nat.le_of_ble_eq_true rfl) (Ci.weak hw fun z69 m66 J67 P68 hw => ?_)
              obtain ⟨hp70, hw⟩ := hw
              obtain ⟨hz71, hw⟩ := hw
              refine s_if_le (pc := 134) (tgt := 278) rfl rfl hz71 (fun hc => ?_) (fun hc => ?_)
              · replace hw := hw.1 hc
                refine s_aload_n (pc := 278) rfl rfl ?_
                refine s_iload_n (pc := 279) rfl rfl ?_
                refine s_cv (pc := 280) (d := (d + 1)) (t := []) rfl rfl (am_ca_v (ps := [.int (iz z51)]) rfl ko_262) (Nat.le_of_ble_eq_true rfl) (Cv.weak hw fun m72 J73 P74 hw => ?_)
                obtain ⟨hp76, hw⟩ := hw
                exact hw
              · replace hw := hw.2 hc
                refine s_aload_n (pc := 137) rfl rfl ?_
                refine s_lconst (pc := 138) rfl ?_
                refine s_putJ (pc := 139) rfl ko_262 ?_
                exact hw
            · replace hw := hw.2 hc
              refine s_aload_n (pc := 104) rfl rfl ?_
              refine s_iconst (pc := 105) rfl ?_
              refine s_putI (pc := 106) rfl ko_262 ?_
              refine s_aload_n (pc := 109) rfl rfl ?_
              refine s_iload_n (pc := 110) rfl rfl ?_
              refine s_bipush (pc := 111) rfl (by decide) ?_
              refine s_isub (pc := 113) rfl ?_
              refine s_putI (pc := 114) rfl ko_262 ?_
              refine s_aload_n (pc := 117) rfl rfl ?_
              refine s_aload_n (pc := 118) rfl rfl ?_
              refine s_getI (pc := 119) rfl ko_262 ?_
              refine s_iconst (pc := 122) rfl ?_
              refine s_iadd (pc := 123) rfl ?_
              refine s_putI (pc := 124) rfl ko_262 ?_
              refine s_goto (pc := 127) (tgt := 283) rfl rfl ?_
              exact hw
        · replace hw := hw.2 hc
          refine s_aload_n (pc := 77) rfl rfl ?_
          refine s_iconst (pc := 78) rfl ?_
          refine s_putI (pc := 79) rfl ko_262 ?_
          exact s_retv (pc := 82) rfl rfl hw
      · replace hw := hw.2 hc
        refine s_aload_n (pc := 45) rfl rfl ?_
        refine s_dup (pc := 46) rfl rfl ?_
        refine s_getI (pc := 47) rfl ko_262 ?_
        refine s_iconst (pc := 50) rfl ?_
        refine s_iadd (pc := 51) rfl ?_
        refine s_putI (pc := 52) rfl ko_262 ?_
        refine s_goto (pc := 55) (tgt := 8) rfl rfl ?_
        exact hw

set_option maxRecDepth 20000 in
set_option maxHeartbeats 4000000 in
theorem b_Mdl_next_142 {X : aX} {d : Nat} (x1 : Int)  (m : Mi) (J : Mj) (P : Mp) (hp : PP P) (post : Mi → Mj → Mp → Prop)
    (hw : Ci X (d + 1) 139 [.ref 262, .int (iz (m 262 5))] m J P (fun z4 m1 J2 P3 => PP P3 ∧ Ci X (d + 1) 133 [.int (iz z4)] m1 J2 P3 (fun z9 m6 J7 P8 => PP P8 ∧ Zr (z9) ∧ (((z9 ≤ 0) → Zr ((m6 262 5) - (m6 262 4)) ∧ (((((m6 262 5) - (m6 262 4)) ≤ 8) → Zr (x1) ∧ (((90 < x1) → Zr (zcmp (J7 262 7) (J7 262 8)) ∧ (((¬ (zcmp (J7 262 7) (J7 262 8)) = 0) → Zr (zcmp (J7 262 7) (J7 262 9)) ∧ (((¬ (zcmp (J7 262 7) (J7 262 9)) = 0) → Rn X (d + 2) 138 283 [some (.ref 262), some (.int (iz x1))] [] (SS (mu m6 262 3 1) J7 P8) (QV post)) ∧ (¬ (¬ (zcmp (J7 262 7) (J7 262 9)) = 0) → Rn X (d + 2) 138 283 [some (.ref 262), some (.int (iz x1))] [] (SS (mu m6 262 3 7) J7 P8) (QV post)))) ∧ (¬ (¬ (zcmp (J7 262 7) (J7 262 8)) = 0) → Rn X (d + 2) 138 283 [some (.ref 262), some (.int (iz x1))] [] (SS (mu m6 262 3 6) J7 P8) (QV post)))) ∧ (¬ (90 < x1) → Rn X (d + 2) 138 283 [some (.ref 262), some (.int (iz x1))] [] (SS (mu m6 262 3 2) J7 P8) (QV post)))) ∧ (¬ (((m6 262 5) - (m6 262 4)) ≤ 8) → Rn X (d + 2) 138 283 [some (.ref 262), some (.int (iz x1))] [] (SS (mu m6 262 3 5) J7 P8) (QV post)))) ∧ (¬ (z9 ≤ 0) → Zr ((m6 262 5) - (m6 262 4)) ∧ (((8 ≤ ((m6 262 5) - (m6 262 4))) → Rn X (d + 2) 138 142 [some (.ref 262), some (.int (iz x1))] [] (SS (mu m6 262 5 ((m6 262 5) + 1)) J7 P8) (QV post)) ∧ (¬ (8 ≤ ((m6 262 5) - (m6 262 4))) → Ci X (d + 1) 139 [.ref 262, .int (iz (m6 262 5))] m6 J7 P8 (fun z20 m17 J18 P19 => PP P19 ∧ Ci X (d + 1) 133 [.int (iz z20)] m17 J18 P19 (fun z25 m22 J23 P24 => PP P24 ∧ Rn X (d + 2) 138 142 [some (.ref 262), some (.int (iz x1))] [] (SS (mu m22 262 5 ((m22 262 5) + 1)) (mju J23 262 7 (((Int64.ofNat 64) * (J7 262 7)) + (zi2l z25))) P24) (QV post)))))))))) : Rn X (d + 2) 138 142 [some (.ref 262), some (.int (iz x1))] [] (SS m J P) (QV post) := by
  refine s_aload_n (pc := 142) rfl rfl ?_
  refine s_aload_n (pc := 143) rfl rfl ?_
  refine s_getI (pc := 144) rfl ko_262 ?_
  refine s_ci (pc := 147) (d := (d + 1)) (t := []) rfl rfl (am_ca_v (ps := [.int (iz (m 262 5))]) rfl ko_262) (Nat.le_of_ble_eq_true rfl) (Ci.weak hw fun z4 m1 J2 P3 hw => ?_)
  obtain ⟨hp5, hw⟩ := hw
  refine s_ci (pc := 150) (d := (d + 1)) (t := []) rfl rfl (am_ca_s (ps := [.int (iz z4)]) rfl) (Nat.le_of_ble_eq_true rfl) (Ci.weak hw fun z9 m6 J7 P8 hw => ?_)
  obtain ⟨hp10, hw⟩ := hw
  obtain ⟨hz11, hw⟩ := hw
  refine s_if_le (pc := 153) (tgt := 208) rfl rfl hz11 (fun hc => ?_) (fun hc => ?_)
  · replace hw := hw.1 hc
    refine s_aload_n (pc := 208) rfl rfl ?_
    refine s_aload_n (pc := 209) rfl rfl ?_
    refine s_getI (pc := 210) rfl ko_262 ?_
    refine s_aload_n (pc := 213) rfl rfl ?_
    refine s_getI (pc := 214) rfl ko_262 ?_
    refine s_isub (pc := 217) rfl ?_
    refine s_bipush (pc := 218) rfl (by decide) ?_
    obtain ⟨hz12, hw⟩ := hw
    refine s_ic_le (pc := 220) (tgt := 227) rfl rfl hz12 (by decide) (fun hc => ?_) (fun hc => ?_)
    · replace hw := hw.1 hc
      refine s_iload_n (pc := 227) rfl rfl ?_
      refine s_bipush (pc := 228) rfl (by decide) ?_
      obtain ⟨hz13, hw⟩ := hw
      refine s_ic_gt (pc := 230) (tgt := 237) rfl rfl hz13 (by decide) (fun hc => ?_) (fun hc => ?_)
      · replace hw := hw.1 hc
        refine s_aload_n (pc := 237) rfl rfl ?_
        refine s_getJ (pc := 238) rfl ko_262 ?_
        refine s_aload_n (pc := 241) rfl rfl ?_
        refine s_getJ (pc := 242) rfl ko_262 ?_
        refine s_lcmp (pc := 245) rfl ?_
        obtain ⟨hz14, hw⟩ := hw
        refine s_if_ne (pc := 246) (tgt := 254) rfl rfl hz14 (fun hc => ?_) (fun hc => ?_)
        · replace hw := hw.1 hc
          refine s_aload_n (pc := 254) rfl rfl ?_
          refine s_getJ (pc := 255) rfl ko_262 ?_
          refine s_aload_n (pc := 258) rfl rfl ?_
          refine s_getJ (pc := 259) rfl ko_262 ?_
          refine s_lcmp (pc := 262) rfl ?_
          obtain ⟨hz15, hw⟩ := hw
          refine s_if_ne (pc := 263) (tgt := 271) rfl rfl hz15 (fun hc => ?_) (fun hc => ?_)
          · replace hw := hw.1 hc
            refine s_iconst (pc := 271) rfl ?_
            refine s_putI (pc := 272) rfl ko_262 ?_
            refine s_goto (pc := 275) (tgt := 283) rfl rfl ?_
            exact hw
          · replace hw := hw.2 hc
            refine s_bipush (pc := 266) rfl (by decide) ?_
            refine s_goto (pc := 268) (tgt := 272) rfl rfl ?_
            refine s_putI (pc := 272) rfl ko_262 ?_
            refine s_goto (pc := 275) (tgt := 283) rfl rfl ?_
            exact hw
        · replace hw := hw.2 hc
          refine s_bipush (pc := 249) rfl (by decide) ?_
          refine s_goto (pc := 251) (tgt := 272) rfl rfl ?_
          refine s_putI (pc := 272) rfl ko_262 ?_
          refine s_goto (pc := 275) (tgt := 283) rfl rfl ?_
          exact hw
      · replace hw := hw.2 hc
        refine s_iconst (pc := 233) rfl ?_
        refine s_goto (pc := 234) (tgt := 272) rfl rfl ?_
        refine s_putI (pc := 272) rfl ko_262 ?_
        refine s_goto (pc := 275) (tgt := 283) rfl rfl ?_
        exact hw
    · replace hw := hw.2 hc
      refine s_iconst (pc := 223) rfl ?_
      refine s_goto (pc := 224) (tgt := 272) rfl rfl ?_
      refine s_putI (pc := 272) rfl ko_262 ?_
      refine s_goto (pc := 275) (tgt := 283) rfl rfl ?_
      exact hw
  · replace hw := hw.2 hc
    refine s_aload_n (pc := 156) rfl rfl ?_
    refine s_getI (pc := 157) rfl ko_262 ?_
    refine s_aload_n (pc := 160) rfl rfl ?_
    refine s_getI (pc := 161) rfl ko_262 ?_
    refine s_isub (pc := 164) rfl ?_
    refine s_bipush (pc := 165) rfl (by decide) ?_
    obtain ⟨hz16, hw⟩ := hw
    refine s_ic_ge (pc := 167) (tgt := 195) rfl rfl hz16 (by decide) (fun hc => ?_) (fun hc => ?_)
    · replace hw := hw.1 hc
      refine s_aload_n (pc := 195) rfl rfl ?_
      refine s_dup (pc := 196) rfl rfl ?_
      refine s_getI (pc := 197) rfl ko_262 ?_
      refine s_iconst (pc := 200) rfl ?_
      refine s_iadd (pc := 201) rfl ?_
      refine s_putI (pc := 202) rfl ko_262 ?_
      refine s_goto (pc := 205) (tgt := 142) rfl rfl ?_
      exact hw
    · replace hw := hw.2 hc
      refine s_aload_n (pc := 170) rfl rfl ?_
      refine s_ldc2 (pc := 171) rfl ?_
      refine s_aload_n (pc := 174) rfl rfl ?_
      refine s_getJ (pc := 175) rfl ko_262 ?_
      refine s_lmul (pc := 178) rfl ?_
      refine s_aload_n (pc := 179) rfl rfl ?_
      refine s_aload_n (pc := 180) rfl rfl ?_
      refine s_getI (pc := 181) rfl ko_262 ?_
      refine s_ci (pc := 184) (d := (d + 1)) (t := [.long ((Int64.ofNat 64) * (J7 262 7)), .ref 262]) rfl rfl (am_ca_v (ps := [.int (iz (m6 262 5))]) rfl ko_262) (Nat.le_of_ble_eq_true rfl) (Ci.weak hw fun z20 m17 J18 P19 hw => ?_)
      obtain ⟨hp21, hw⟩ := hw
      refine s_ci (pc := 187) (d := (d + 1)) (t := [.long ((Int64.ofNat 64) * (J7 262 7)), .ref 262]) rfl rfl (am_ca_s (ps := [.int (iz z20)]) rfl) (Nat.le_of_ble_eq_true rfl) (Ci.weak hw fun z25 m22 J23 P24 hw => ?_)
      obtain ⟨hp26, hw⟩ := hw
      refine s_i2l (pc := 190) rfl ?_
      refine s_ladd (pc := 191) rfl ?_
      refine s_putJ (pc := 192) rfl ko_262 ?_
      refine s_aload_n (pc := 195) rfl rfl ?_
      refine s_dup (pc := 196) rfl rfl ?_
      refine s_getI (pc := 197) rfl ko_262 ?_
      refine s_iconst (pc := 200) rfl ?_
      refine s_iadd (pc := 201) rfl ?_
      refine s_putI (pc := 202) rfl ko_262 ?_
      refine s_goto (pc := 205) (tgt := 142) rfl rfl ?_
      exact hw

set_option maxRecDepth 20000 in
set_option maxHeartbeats 4000000 in
theorem b_Mdl_next_283 {X : aX} {d : Nat} (x1 : Int)  (m : Mi) (J : Mj) (P : Mp) (hp : PP P) (post : Mi → Mj → Mp → Prop)
    (hw : post m J P) : Rn X (d + 2) 138 283 [some (.ref 262), some (.int (iz x1))] [] (SS m J P) (QV post) := by
  exact s_retv (pc := 283) rfl rfl hw

set_option maxRecDepth 20000 in
set_option maxHeartbeats 4000000 in
theorem b_Mdl_look_0 {X : aX} {d : Nat} (x1 : Int)  (m : Mi) (J : Mj) (P : Mp) (hp : PP P) (post : Int → Mi → Mj → Mp → Prop)
    (hw : Zr (x1) ∧ Zr (m 262 2) ∧ ((((m 262 2) ≤ x1) → post 0 m J P) ∧ (¬ ((m 262 2) ≤ x1) → ((0 : Int) ≤ x1 ∧ (x1 : Int) < 1600) ∧ post (zand (m 263 x1.toNat) 255) m J P))) : Rn X d 139 0 [some (.ref 262), some (.int (iz x1))] [] (SS m J P) (QI post) := by
  refine s_iload_n (pc := 0) rfl rfl ?_
  refine s_aload_n (pc := 1) rfl rfl ?_
  refine s_getI (pc := 2) rfl ko_262 ?_
  obtain ⟨hz1, hw⟩ := hw
  obtain ⟨hz2, hw⟩ := hw
  refine s_ic_ge (pc := 5) (tgt := 21) rfl rfl hz1 hz2 (fun hc => ?_) (fun hc => ?_)
  · replace hw := hw.1 hc
    refine s_iconst (pc := 21) rfl ?_
    exact s_reti (pc := 22) rfl rfl hw
  · replace hw := hw.2 hc
    refine s_aload_n (pc := 8) rfl rfl ?_
    refine s_getA (pc := 9) rfl ko_262 (po_262_0 hp) ?_
    refine s_iload_n (pc := 12) rfl rfl ?_
    obtain ⟨hb3, hw⟩ := hw
    refine s_bald (pc := 13) rfl ka_263 (by decide) (by decide) hb3 ?_
    refine s_sipush (pc := 14) rfl (by decide) ?_
    refine s_iand (pc := 17) rfl ?_
    refine s_goto (pc := 18) (tgt := 22) rfl rfl ?_
    exact s_reti (pc := 22) rfl rfl hw

set_option maxRecDepth 20000 in
set_option maxHeartbeats 4000000 in
theorem b_Mdl_sign_0 {X : aX} {d : Nat} (x1 : Int)  (m : Mi) (J : Mj) (P : Mp) (hp : PP P) (post : Mi → Mj → Mp → Prop)
    (hw : Zr (x1) ∧ (((¬ x1 = 45) → Zr (x1) ∧ (((x1 = 40) → Rn X (d + 1) 140 96 [some (.ref 262), some (.int (iz x1))] [] (SS (mu (mu (mu m 262 3 4) 262 6 x1) 262 5 (((mu (mu m 262 3 4) 262 6 x1) 262 4) + 1)) J P) (QV post)) ∧ (¬ (x1 = 40) → Zr (x1) ∧ (((x1 = 41) → Rn X (d + 1) 140 96 [some (.ref 262), some (.int (iz x1))] [] (SS (mu (mu (mu m 262 3 4) 262 6 x1) 262 5 (((mu (mu m 262 3 4) 262 6 x1) 262 4) + 1)) J P) (QV post)) ∧ (¬ (x1 = 41) → Zr (x1) ∧ (((x1 = 44) → Rn X (d + 1) 140 96 [some (.ref 262), some (.int (iz x1))] [] (SS (mu (mu (mu m 262 3 4) 262 6 x1) 262 5 (((mu (mu m 262 3 4) 262 6 x1) 262 4) + 1)) J P) (QV post)) ∧ (¬ (x1 = 44) → Zr (x1) ∧ (((x1 = 59) → Rn X (d + 1) 140 96 [some (.ref 262), some (.int (iz x1))] [] (SS (mu (mu (mu m 262 3 4) 262 6 x1) 262 5 (((mu (mu m 262 3 4) 262 6 x1) 262 4) + 1)) J P) (QV post)) ∧ (¬ (x1 = 59) → Zr (x1) ∧ (((x1 = 61) → Rn X (d + 1) 140 96 [some (.ref 262), some (.int (iz x1))] [] (SS (mu (mu (mu m 262 3 4) 262 6 x1) 262 5 (((mu (mu m 262 3 4) 262 6 x1) 262 4) + 1)) J P) (QV post)) ∧ (¬ (x1 = 61) → Rn X (d + 1) 140 96 [some (.ref 262), some (.int (iz x1))] [] (SS (mu (mu (mu (mu m 262 3 4) 262 6 x1) 262 5 (((mu (mu m 262 3 4) 262 6 x1) 262 4) + 1)) 262 3 5) J P) (QV post)))))))))))) ∧ (¬ (¬ x1 = 45) → Ci X d 139 [.ref 262, .int (iz (((mu (mu (mu m 262 3 4) 262 6 x1) 262 5 (((mu (mu m 262 3 4) 262 6 x1) 262 4) + 1)) 262 4) + 1))] (mu (mu (mu m 262 3 4) 262 6 x1) 262 5 (((mu (mu m 262 3 4) 262 6 x1) 262 4) + 1)) J P (fun z10 m7 J8 P9 => PP P9 ∧ Zr (z10) ∧ (((¬ z10 = 62) → Zr (x1) ∧ (((x1 = 40) → Rn X (d + 1) 140 96 [some (.ref 262), some (.int (iz x1))] [] (SS m7 J8 P9) (QV post)) ∧ (¬ (x1 = 40) → Zr (x1) ∧ (((x1 = 41) → Rn X (d + 1) 140 96 [some (.ref 262), some (.int (iz x1))] [] (SS m7 J8 P9) (QV post)) ∧ (¬ (x1 = 41) → Zr (x1) ∧ (((x1 = 44) → Rn X (d + 1) 140 96 [some (.ref 262), some (.int (iz x1))] [] (SS m7 J8 P9) (QV post)) ∧ (¬ (x1 = 44) → Zr (x1) ∧ (((x1 = 59) → Rn X (d + 1) 140 96 [some (.ref 262), some (.int (iz x1))] [] (SS m7 J8 P9) (QV post)) ∧ (¬ (x1 = 59) → Zr (x1) ∧ (((x1 = 61) → Rn X (d + 1) 140 96 [some (.ref 262), some (.int (iz x1))] [] (SS m7 J8 P9) (QV post)) ∧ (¬ (x1 = 61) → Rn X (d + 1) 140 96 [some (.ref 262), some (.int (iz x1))] [] (SS (mu m7 262 3 5) J8 P9) (QV post)))))))))))) ∧ (¬ (¬ z10 = 62) → Rn X (d + 1) 140 96 [some (.ref 262), some (.int (iz x1))] [] (SS (mu (mu m7 262 6 256) 262 5 (((mu m7 262 6 256) 262 4) + 2)) J8 P9) (QV post))))))) : Rn X (d + 1) 140 0 [some (.ref 262), some (.int (iz x1))] [] (SS m J P) (QV post) := by
  refine s_aload_n (pc := 0) rfl rfl ?_
  refine s_iconst (pc := 1) rfl ?_
  refine s_putI (pc := 2) rfl ko_262 ?_
  refine s_aload_n (pc := 5) rfl rfl ?_
  refine s_iload_n (pc := 6) rfl rfl ?_
  refine s_putI (pc := 7) rfl ko_262 ?_
  refine s_aload_n (pc := 10) rfl rfl ?_
  refine s_aload_n (pc := 11) rfl rfl ?_
  refine s_getI (pc := 12) rfl ko_262 ?_
  refine s_iconst (pc := 15) rfl ?_
  refine s_iadd (pc := 16) rfl ?_
  refine s_putI (pc := 17) rfl ko_262 ?_
  refine s_iload_n (pc := 20) rfl rfl ?_
  refine s_bipush (pc := 21) rfl (by decide) ?_
  obtain ⟨hz1, hw⟩ := hw
  refine s_ic_ne (pc := 23) (tgt := 61) rfl rfl hz1 (by decide) (fun hc => ?_) (fun hc => ?_)
  · replace hw := hw.1 hc
    refine s_iload_n (pc := 61) rfl rfl ?_
    refine s_bipush (pc := 62) rfl (by decide) ?_
    obtain ⟨hz2, hw⟩ := hw
    refine s_ic_eq (pc := 64) (tgt := 96) rfl rfl hz2 (by decide) (fun hc => ?_) (fun hc => ?_)
    · replace hw := hw.1 hc
      exact hw
    · replace hw := hw.2 hc
      refine s_iload_n (pc := 67) rfl rfl ?_
      refine s_bipush (pc := 68) rfl (by decide) ?_
      obtain ⟨hz3, hw⟩ := hw
      refine s_ic_eq (pc := 70) (tgt := 96) rfl rfl hz3 (by decide) (fun hc => ?_) (fun hc => ?_)
      · replace hw := hw.1 hc
        exact hw
      · replace hw := hw.2 hc
        refine s_iload_n (pc := 73) rfl rfl ?_
        refine s_bipush (pc := 74) rfl (by decide) ?_
        obtain ⟨hz4, hw⟩ := hw
        refine s_ic_eq (pc := 76) (tgt := 96) rfl rfl hz4 (by decide) (fun hc => ?_) (fun hc => ?_)
        · replace hw := hw.1 hc
          exact hw
        · replace hw := hw.2 hc
          refine s_iload_n (pc := 79) rfl rfl ?_
          refine s_bipush (pc := 80) rfl (by decide) ?_
          obtain ⟨hz5, hw⟩ := hw
          refine s_ic_eq (pc := 82) (tgt := 96) rfl rfl hz5 (by decide) (fun hc => ?_) (fun hc => ?_)
          · replace hw := hw.1 hc
            exact hw
          · replace hw := hw.2 hc
            refine s_iload_n (pc := 85) rfl rfl ?_
            refine s_bipush (pc := 86) rfl (by decide) ?_
            obtain ⟨hz6, hw⟩ := hw
            refine s_ic_eq (pc := 88) (tgt := 96) rfl rfl hz6 (by decide) (fun hc => ?_) (fun hc => ?_)
            · replace hw := hw.1 hc
              exact hw
            · replace hw := hw.2 hc
              refine s_aload_n (pc := 91) rfl rfl ?_
              refine s_iconst (pc := 92) rfl ?_
              refine s_putI (pc := 93) rfl ko_262 ?_
              exact hw
  · replace hw := hw.2 hc
    refine s_aload_n (pc := 26) rfl rfl ?_
    refine s_aload_n (pc := 27) rfl rfl ?_
    refine s_getI (pc := 28) rfl ko_262 ?_
    refine s_iconst (pc := 31) rfl ?_
    refine s_iadd (pc := 32) rfl ?_
    refine s_ci (pc := 33) (d := d) (t := []) rfl rfl (am_ca_v (ps := [.int (iz (((mu (mu (mu m 262 3 4) 262 6 x1) 262 5 (((mu (mu m 262 3 4) 262 6 x1) 262 4) + 1)) 262 4) + 1))]) rfl ko_262) (Nat.le_of_ble_eq_true rfl) (Ci.weak hw fun z10 m7 J8 P9 hw => ?_)
    obtain ⟨hp11, hw⟩ := hw
    refine s_bipush (pc := 36) rfl (by decide) ?_
    obtain ⟨hz12, hw⟩ := hw
    refine s_ic_ne (pc := 38) (tgt := 61) rfl rfl hz12 (by decide) (fun hc => ?_) (fun hc => ?_)
    · replace hw := hw.1 hc
      refine s_iload_n (pc := 61) rfl rfl ?_
      refine s_bipush (pc := 62) rfl (by decide) ?_
      obtain ⟨hz13, hw⟩ := hw
      refine s_ic_eq (pc := 64) (tgt := 96) rfl rfl hz13 (by decide) (fun hc => ?_) (fun hc => ?_)
      · replace hw := hw.1 hc
        exact hw
      · replace hw := hw.2 hc
        refine s_iload_n (pc := 67) rfl rfl ?_
        refine s_bipush (pc := 68) rfl (by decide) ?_
        obtain ⟨hz14, hw⟩ := hw
        refine s_ic_eq (pc := 70) (tgt := 96) rfl rfl hz14 (by decide) (fun hc => ?_) (fun hc => ?_)
        · replace hw := hw.1 hc
          exact hw
        · replace hw := hw.2 hc
          refine s_iload_n (pc := 73) rfl rfl ?_
          refine s_bipush (pc := 74) rfl (by decide) ?_
          obtain ⟨hz15, hw⟩ := hw
          refine s_ic_eq (pc := 76) (tgt := 96) rfl rfl hz15 (by decide) (fun hc => ?_) (fun hc => ?_)
          · replace hw := hw.1 hc
            exact hw
          · replace hw := hw.2 hc
            refine s_iload_n (pc := 79) rfl rfl ?_
            refine s_bipush (pc := 80) rfl (by decide) ?_
            obtain ⟨hz16, hw⟩ := hw
            refine s_ic_eq (pc := 82) (tgt := 96) rfl rfl hz16 (by decide) (fun hc => ?_) (fun hc => ?_)
            · replace hw := hw.1 hc
              exact hw
            · replace hw := hw.2 hc
              refine s_iload_n (pc := 85) rfl rfl ?_
              refine s_bipush (pc := 86) rfl (by decide) ?_
              obtain ⟨hz17, hw⟩ := hw
              refine s_ic_eq (pc := 88) (tgt := 96) rfl rfl hz17 (by decide) (fun hc => ?_) (fun hc => ?_)
              · replace hw := hw.1 hc
                exact hw
              · replace hw := hw.2 hc
                refine s_aload_n (pc := 91) rfl rfl ?_
                refine s_iconst (pc := 92) rfl ?_
                refine s_putI (pc := 93) rfl ko_262 ?_
                exact hw
    · replace hw := hw.2 hc
      refine s_aload_n (pc := 41) rfl rfl ?_
      refine s_sipush (pc := 42) rfl (by decide) ?_
      refine s_putI (pc := 45) rfl ko_262 ?_
      refine s_aload_n (pc := 48) rfl rfl ?_
      refine s_aload_n (pc := 49) rfl rfl ?_
      refine s_getI (pc := 50) rfl ko_262 ?_
      refine s_iconst (pc := 53) rfl ?_
      refine s_iadd (pc := 54) rfl ?_
      refine s_putI (pc := 55) rfl ko_262 ?_
      refine s_goto (pc := 58) (tgt := 96) rfl rfl ?_
      exact hw

set_option maxRecDepth 20000 in
set_option maxHeartbeats 4000000 in
theorem b_Mdl_sign_96 {X : aX} {d : Nat} (x1 : Int)  (m : Mi) (J : Mj) (P : Mp) (hp : PP P) (post : Mi → Mj → Mp → Prop)
    (hw : post m J P) : Rn X (d + 1) 140 96 [some (.ref 262), some (.int (iz x1))] [] (SS m J P) (QV post) := by
  exact s_retv (pc := 96) rfl rfl hw

set_option maxRecDepth 20000 in
set_option maxHeartbeats 4000000 in
theorem b_Mdl_readSystem_0 {X : aX} {d : Nat}   (m : Mi) (J : Mj) (P : Mp) (hp : PP P) (post : Mi → Mj → Mp → Prop)
    (hw : Zr ((mu (mu (mu m 262 14 0) 262 15 0) 262 16 0) 262 3) ∧ (((((mu (mu (mu m 262 14 0) 262 15 0) 262 16 0) 262 3) = 6) → Cv X (d + 4) 138 [.ref 262] (mu (mu (mu m 262 14 0) 262 15 0) 262 16 0) J P (fun m2 J3 P4 => PP P4 ∧ Rn X (d + 5) 141 35 [some (.ref 262), some (.int (iz 1))] [] (SS m2 J3 P4) (QV post))) ∧ (¬ (((mu (mu (mu m 262 14 0) 262 15 0) 262 16 0) 262 3) = 6) → Cv X (d + 4) 142 [.ref 262] (mu (mu (mu m 262 14 0) 262 15 0) 262 16 0) J P (fun m7 J8 P9 => PP P9 ∧ post m7 J8 P9)))) : Rn X (d + 5) 141 0 [some (.ref 262), none] [] (SS m J P) (QV post) := by
  refine s_aload_n (pc := 0) rfl rfl ?_
  refine s_iconst (pc := 1) rfl ?_
  refine s_putI (pc := 2) rfl ko_262 ?_
  refine s_aload_n (pc := 5) rfl rfl ?_
  refine s_iconst (pc := 6) rfl ?_
  refine s_putI (pc := 7) rfl ko_262 ?_
  refine s_aload_n (pc := 10) rfl rfl ?_
  refine s_iconst (pc := 11) rfl ?_
  refine s_putI (pc := 12) rfl ko_262 ?_
  refine s_aload_n (pc := 15) rfl rfl ?_
  refine s_getI (pc := 16) rfl ko_262 ?_
  refine s_bipush (pc := 19) rfl (by decide) ?_
  obtain ⟨hz1, hw⟩ := hw
  refine s_ic_eq (pc := 21) (tgt := 29) rfl rfl hz1 (by decide) (fun hc => ?_) (fun hc => ?_)
  · replace hw := hw.1 hc
    refine s_aload_n (pc := 29) rfl rfl ?_
    refine s_cv (pc := 30) (d := (d + 4)) (t := []) rfl rfl (am_ca_v (ps := []) rfl ko_262) (Nat.le_of_ble_eq_true rfl) (Cv.weak hw fun m2 J3 P4 hw => ?_)
    obtain ⟨hp6, hw⟩ := hw
    refine s_iconst (pc := 33) rfl ?_
    refine s_istore_n (pc := 34) (L' := [some (.ref 262), some (.int (iz 1))]) rfl (Nat.le_of_ble_eq_true rfl) rfl ?_
    exact hw
  · replace hw := hw.2 hc
    refine s_aload_n (pc := 24) rfl rfl ?_
    refine s_cv (pc := 25) (d := (d + 4)) (t := []) rfl rfl (am_ca_v (ps := []) rfl ko_262) (Nat.le_of_ble_eq_true rfl) (Cv.weak hw fun m7 J8 P9 hw => ?_)
    obtain ⟨hp11, hw⟩ := hw
    exact s_retv (pc := 28) rfl rfl hw

set_option maxRecDepth 20000 in
set_option maxHeartbeats 4000000 in
theorem b_Mdl_readSystem_35 {X : aX} {d : Nat} (x1 : Int)  (m : Mi) (J : Mj) (P : Mp) (hp : PP P) (post : Mi → Mj → Mp → Prop)
    (hw : Zr (x1) ∧ (((x1 = 0) → Cv X (d + 4) 145 [.ref 262, .int (iz 59)] m J P (fun m2 J3 P4 => PP P4 ∧ Rn X (d + 5) 141 189 [some (.ref 262), some (.int (iz x1))] [] (SS m2 J3 P4) (QV post))) ∧ (¬ (x1 = 0) → Zr (m 262 10) ∧ (((¬ (m 262 10) = 0) → Cv X (d + 4) 145 [.ref 262, .int (iz 59)] m J P (fun m8 J9 P10 => PP P10 ∧ Rn X (d + 5) 141 189 [some (.ref 262), some (.int (iz x1))] [] (SS m8 J9 P10) (QV post))) ∧ (¬ (¬ (m 262 10) = 0) → Zr (m 262 3) ∧ ((((m 262 3) = 1) → Zr (m 262 14) ∧ (((¬ (m 262 14) = 16) → Zr (m 262 10) ∧ ((((m 262 10) ≤ 0) → ((0 : Int) ≤ (m 262 14) ∧ ((m 262 14) : Int) < 16) ∧ ((0 : Int) ≤ (m 262 14) ∧ ((m 262 14) : Int) < 16) ∧ Cv X (d + 4) 138 [.ref 262] (mu m 267 (m 262 14).toNat (m 262 4)) (mju J 264 (m 262 14).toNat (J 262 7)) P (fun m18 J19 P20 => PP P20 ∧ Zr (m18 262 3) ∧ (((¬ (m18 262 3) = 3) → Rn X (d + 5) 141 133 [some (.ref 262), some (.int (iz x1))] [] (SS m18 J19 P20) (QV post)) ∧ (¬ (¬ (m18 262 3) = 3) → Zr (m18 262 6) ∧ ((((m18 262 6) ≤ 4) → ((0 : Int) ≤ (m18 262 14) ∧ ((m18 262 14) : Int) < 16) ∧ Cv X (d + 4) 138 [.ref 262] (mu (mu m18 268 (m18 262 14).toNat (m18 262 6)) 262 14 (((mu m18 268 (m18 262 14).toNat (m18 262 6)) 262 14) + 1)) J19 P20 (fun m26 J27 P28 => PP P28 ∧ Ci X (d + 4) 144 [.ref 262, .int (iz 44)] m26 J27 P28 (fun z34 m31 J32 P33 => PP P33 ∧ Zr (z34) ∧ (((z34 = 0) → Rn X (d + 5) 141 35 [some (.ref 262), some (.int (iz z34))] [] (SS m31 J32 P33) (QV post)) ∧ (¬ (z34 = 0) → Cv X (d + 4) 138 [.ref 262] m31 J32 P33 (fun m37 J38 P39 => PP P39 ∧ Rn X (d + 5) 141 35 [some (.ref 262), some (.int (iz z34))] [] (SS m37 J38 P39) (QV post))))))) ∧ (¬ ((m18 262 6) ≤ 4) → Rn X (d + 5) 141 133 [some (.ref 262), some (.int (iz x1))] [] (SS m18 J19 P20) (QV post))))))) ∧ (¬ ((m 262 10) ≤ 0) → post m J P))) ∧ (¬ (¬ (m 262 14) = 16) → Cv X (d + 4) 143 [.ref 262, .int (iz 3), .int (iz (m 262 4))] m J P (fun m42 J43 P44 => PP P44 ∧ Zr (m42 262 10) ∧ ((((m42 262 10) ≤ 0) → ((0 : Int) ≤ (m42 262 14) ∧ ((m42 262 14) : Int) < 16) ∧ ((0 : Int) ≤ (m42 262 14) ∧ ((m42 262 14) : Int) < 16) ∧ Cv X (d + 4) 138 [.ref 262] (mu m42 267 (m42 262 14).toNat (m42 262 4)) (mju J43 264 (m42 262 14).toNat (J43 262 7)) P44 (fun m50 J51 P52 => PP P52 ∧ Zr (m50 262 3) ∧ (((¬ (m50 262 3) = 3) → Rn X (d + 5) 141 133 [some (.ref 262), some (.int (iz x1))] [] (SS m50 J51 P52) (QV post)) ∧ (¬ (¬ (m50 262 3) = 3) → Zr (m50 262 6) ∧ ((((m50 262 6) ≤ 4) → ((0 : Int) ≤ (m50 262 14) ∧ ((m50 262 14) : Int) < 16) ∧ Cv X (d + 4) 138 [.ref 262] (mu (mu m50 268 (m50 262 14).toNat (m50 262 6)) 262 14 (((mu m50 268 (m50 262 14).toNat (m50 262 6)) 262 14) + 1)) J51 P52 (fun m58 J59 P60 => PP P60 ∧ Ci X (d + 4) 144 [.ref 262, .int (iz 44)] m58 J59 P60 (fun z66 m63 J64 P65 => PP P65 ∧ Zr (z66) ∧ (((z66 = 0) → Rn X (d + 5) 141 35 [some (.ref 262), some (.int (iz z66))] [] (SS m63 J64 P65) (QV post)) ∧ (¬ (z66 = 0) → Cv X (d + 4) 138 [.ref 262] m63 J64 P65 (fun m69 J70 P71 => PP P71 ∧ Rn X (d + 5) 141 35 [some (.ref 262), some (.int (iz z66))] [] (SS m69 J70 P71) (QV post))))))) ∧ (¬ ((m50 262 6) ≤ 4) → Rn X (d + 5) 141 133 [some (.ref 262), some (.int (iz x1))] [] (SS m50 J51 P52) (QV post))))))) ∧ (¬ ((m42 262 10) ≤ 0) → post m42 J43 P44)))))) ∧ (¬ ((m 262 3) = 1) → Cv X (d + 4) 142 [.ref 262] m J P (fun m74 J75 P76 => PP P76 ∧ Zr (m74 262 10) ∧ ((((m74 262 10) ≤ 0) → ((0 : Int) ≤ (m74 262 14) ∧ ((m74 262 14) : Int) < 16) ∧ ((0 : Int) ≤ (m74 262 14) ∧ ((m74 262 14) : Int) < 16) ∧ Cv X (d + 4) 138 [.ref 262] (mu m74 267 (m74 262 14).toNat (m74 262 4)) (mju J75 264 (m74 262 14).toNat (J75 262 7)) P76 (fun m82 J83 P84 => PP P84 ∧ Zr (m82 262 3) ∧ (((¬ (m82 262 3) = 3) → Rn X (d + 5) 141 133 [some (.ref 262), some (.int (iz x1))] [] (SS m82 J83 P84) (QV post)) ∧ (¬ (¬ (m82 262 3) = 3) → Zr (m82 262 6) ∧ ((((m82 262 6) ≤ 4) → ((0 : Int) ≤ (m82 262 14) ∧ ((m82 262 14) : Int) < 16) ∧ Cv X (d + 4) 138 [.ref 262] (mu (mu m82 268 (m82 262 14).toNat (m82 262 6)) 262 14 (((mu m82 268 (m82 262 14).toNat (m82 262 6)) 262 14) + 1)) J83 P84 (fun m90 J91 P92 => PP P92 ∧ Ci X (d + 4) 144 [.ref 262, .int (iz 44)] m90 J91 P92 (fun z98 m95 J96 P97 => PP P97 ∧ Zr (z98) ∧ (((z98 = 0) → Rn X (d + 5) 141 35 [some (.ref 262), some (.int (iz z98))] [] (SS m95 J96 P97) (QV post)) ∧ (¬ (z98 = 0) → Cv X (d + 4) 138 [.ref 262] m95 J96 P97 (fun m101 J102 P103 => PP P103 ∧ Rn X (d + 5) 141 35 [some (.ref 262), some (.int (iz z98))] [] (SS m101 J102 P103) (QV post))))))) ∧ (¬ ((m82 262 6) ≤ 4) → Rn X (d + 5) 141 133 [some (.ref 262), some (.int (iz x1))] [] (SS m82 J83 P84) (QV post))))))) ∧ (¬ ((m74 262 10) ≤ 0) → post m74 J75 P76)))))))))) : Rn X (d + 5) 141 35 [some (.ref 262), some (.int (iz x1))] [] (SS m J P) (QV post) := by
  refine s_iload_n (pc := 35) rfl rfl ?_
  obtain ⟨hz1, hw⟩ := hw
  refine s_if_eq (pc := 36) (tgt := 183) rfl rfl hz1 (fun hc => ?_) (fun hc => ?_)
  · replace hw := hw.1 hc
    refine s_aload_n (pc := 183) rfl rfl ?_
    refine s_bipush (pc := 184) rfl (by decide) ?_
    refine s_cv (pc := 186) (d := (d + 4)) (t := []) rfl rfl (am_ca_v (ps := [.int (iz 59)]) rfl ko_262) (Nat.le_of_ble_eq_true rfl) (Cv.weak hw fun m2 J3 P4 hw => ?_)
    obtain ⟨hp6, hw⟩ := hw
    exact hw
  · replace hw := hw.2 hc
    refine s_aload_n (pc := 39) rfl rfl ?_
    refine s_getI (pc := 40) rfl ko_262 ?_
    obtain ⟨hz7, hw⟩ := hw
    refine s_if_ne (pc := 43) (tgt := 183) rfl rfl hz7 (fun hc => ?_) (fun hc => ?_)
    · replace hw := hw.1 hc
      refine s_aload_n (pc := 183) rfl rfl ?_
      refine s_bipush (pc := 184) rfl (by decide) ?_
      refine s_cv (pc := 186) (d := (d + 4)) (t := []) rfl rfl (am_ca_v (ps := [.int (iz 59)]) rfl ko_262) (Nat.le_of_ble_eq_true rfl) (Cv.weak hw fun m8 J9 P10 hw => ?_)
      obtain ⟨hp12, hw⟩ := hw
      exact hw
    · replace hw := hw.2 hc
      refine s_aload_n (pc := 46) rfl rfl ?_
      refine s_getI (pc := 47) rfl ko_262 ?_
      refine s_iconst (pc := 50) rfl ?_
      obtain ⟨hz13, hw⟩ := hw
      refine s_ic_eq (pc := 51) (tgt := 61) rfl rfl hz13 (by decide) (fun hc => ?_) (fun hc => ?_)
      · replace hw := hw.1 hc
        refine s_aload_n (pc := 61) rfl rfl ?_
        refine s_getI (pc := 62) rfl ko_262 ?_
        refine s_bipush (pc := 65) rfl (by decide) ?_
        obtain ⟨hz14, hw⟩ := hw
        refine s_ic_ne (pc := 67) (tgt := 79) rfl rfl hz14 (by decide) (fun hc => ?_) (fun hc => ?_)
        · replace hw := hw.1 hc
          refine s_aload_n (pc := 79) rfl rfl ?_
          refine s_getI (pc := 80) rfl ko_262 ?_
          obtain ⟨hz15, hw⟩ := hw
          refine s_if_le (pc := 83) (tgt := 87) rfl rfl hz15 (fun hc => ?_) (fun hc => ?_)
          · replace hw := hw.1 hc
            refine s_aload_n (pc := 87) rfl rfl ?_
            refine s_getA (pc := 88) rfl ko_262 (po_262_18 hp) ?_
            refine s_aload_n (pc := 91) rfl rfl ?_
            refine s_getI (pc := 92) rfl ko_262 ?_
            refine s_aload_n (pc := 95) rfl rfl ?_
            refine s_getJ (pc := 96) rfl ko_262 ?_
            obtain ⟨hb16, hw⟩ := hw
            refine s_last (pc := 99) rfl ka_264 (by decide) hb16 ?_
            refine s_aload_n (pc := 100) rfl rfl ?_
            refine s_getA (pc := 101) rfl ko_262 (po_262_21 hp) ?_
            refine s_aload_n (pc := 104) rfl rfl ?_
            refine s_getI (pc := 105) rfl ko_262 ?_
            refine s_aload_n (pc := 108) rfl rfl ?_
            refine s_getI (pc := 109) rfl ko_262 ?_
            obtain ⟨hb17, hw⟩ := hw
            refine s_iast (pc := 112) rfl ka_267 (by decide) hb17 ?_
            refine s_aload_n (pc := 113) rfl rfl ?_
            refine s_cv (pc := 114) (d := (d + 4)) (t := []) rfl rfl (am_ca_v (ps := []) rfl ko_262) (Nat.le_of_ble_eq_true rfl) (Cv.weak hw fun m18 J19 P20 hw => ?_)
            obtain ⟨hp22, hw⟩ := hw
            refine s_aload_n (pc := 117) rfl rfl ?_
            refine s_getI (pc := 118) rfl ko_262 ?_
            refine s_iconst (pc := 121) rfl ?_
            obtain ⟨hz23, hw⟩ := hw
            refine s_ic_ne (pc := 122) (tgt := 133) rfl rfl hz23 (by decide) (fun hc => ?_) (fun hc => ?_)
            · replace hw := hw.1 hc
              exact hw
            · replace hw := hw.2 hc
              refine s_aload_n (pc := 125) rfl rfl ?_
              refine s_getI (pc := 126) rfl ko_262 ?_
              refine s_iconst (pc := 129) rfl ?_
              obtain ⟨hz24, hw⟩ := hw
              refine s_ic_le (pc := 130) (tgt := 138) rfl rfl hz24 (by decide) (fun hc => ?_) (fun hc => ?_)
              · replace hw := hw.1 hc
                refine s_aload_n (pc := 138) rfl rfl ?_
                refine s_getA (pc := 139) rfl ko_262 (po_262_22 hp22) ?_
                refine s_aload_n (pc := 142) rfl rfl ?_
                refine s_getI (pc := 143) rfl ko_262 ?_
                refine s_aload_n (pc := 146) rfl rfl ?_
                refine s_getI (pc := 147) rfl ko_262 ?_
                obtain ⟨hb25, hw⟩ := hw
                refine s_iast (pc := 150) rfl ka_268 (by decide) hb25 ?_
                refine s_aload_n (pc := 151) rfl rfl ?_
                refine s_dup (pc := 152) rfl rfl ?_
                refine s_getI (pc := 153) rfl ko_262 ?_
                refine s_iconst (pc := 156) rfl ?_
                refine s_iadd (pc := 157) rfl ?_
                refine s_putI (pc := 158) rfl ko_262 ?_
                refine s_aload_n (pc := 161) rfl rfl ?_
                refine s_cv (pc := 162) (d := (d + 4)) (t := []) rfl rfl (am_ca_v (ps := []) rfl ko_262) (Nat.le_of_ble_eq_true rfl) (Cv.weak hw fun m26 J27 P28 hw => ?_)
                obtain ⟨hp30, hw⟩ := hw
                refine s_aload_n (pc := 165) rfl rfl ?_
                refine s_bipush (pc := 166) rfl (by decide) ?_
                refine s_ci (pc := 168) (d := (d + 4)) (t := []) rfl rfl (am_ca_v (ps := [.int (iz 44)]) rfl ko_262) (Nat.le_of_ble_eq_true rfl) (Ci.weak hw fun z34 m31 J32 P33 hw => ?_)
                obtain ⟨hp35, hw⟩ := hw
                refine s_istore_n (pc := 171) (L' := [some (.ref 262), some (.int (iz z34))]) rfl (Nat.le_of_ble_eq_true rfl) rfl ?_
                refine s_iload_n (pc := 172) rfl rfl ?_
                obtain ⟨hz36, hw⟩ := hw
                refine s_if_eq (pc := 173) (tgt := 35) rfl rfl hz36 (fun hc => ?_) (fun hc => ?_)
                · replace hw := hw.1 hc
                  exact hw
                · replace hw := hw.2 hc
                  refine s_aload_n (pc := 176) rfl rfl ?_
                  refine s_cv (pc := 177) (d := (d + 4)) (t := []) rfl rfl (am_ca_v (ps := []) rfl ko_262) (Nat.le_of_ble_eq_true rfl) (Cv.weak hw fun m37 J38 P39 hw => ?_)
                  obtain ⟨hp41, hw⟩ := hw
                  refine s_goto (pc := 180) (tgt := 35) rfl rfl ?_
                  exact hw
              · replace hw := hw.2 hc
                exact hw
          · replace hw := hw.2 hc
            exact s_retv (pc := 86) rfl rfl hw
        · replace hw := hw.2 hc
          refine s_aload_n (pc := 70) rfl rfl ?_
          refine s_iconst (pc := 71) rfl ?_
          refine s_aload_n (pc := 72) rfl rfl ?_
          refine s_getI (pc := 73) rfl ko_262 ?_
          refine s_cv (pc := 76) (d := (d + 4)) (t := []) rfl rfl (am_ca_v (ps := [.int (iz (m 262 4)), .int (iz 3)]) rfl ko_262) (Nat.le_of_ble_eq_true rfl) (Cv.weak hw fun m42 J43 P44 hw => ?_)
          obtain ⟨hp46, hw⟩ := hw
          refine s_aload_n (pc := 79) rfl rfl ?_
          refine s_getI (pc := 80) rfl ko_262 ?_
          obtain ⟨hz47, hw⟩ := hw
          refine s_if_le (pc := 83) (tgt := 87) rfl rfl hz47 (fun hc => ?_) (fun hc => ?_)
          · replace hw := hw.1 hc
            refine s_aload_n (pc := 87) rfl rfl ?_
            refine s_getA (pc := 88) rfl ko_262 (po_262_18 hp46) ?_
            refine s_aload_n (pc := 91) rfl rfl ?_
            refine s_getI (pc := 92) rfl ko_262 ?_
            refine s_aload_n (pc := 95) rfl rfl ?_
            refine s_getJ (pc := 96) rfl ko_262 ?_
            obtain ⟨hb48, hw⟩ := hw
            refine s_last (pc := 99) rfl ka_264 (by decide) hb48 ?_
            refine s_aload_n (pc := 100) rfl rfl ?_
            refine s_getA (pc := 101) rfl ko_262 (po_262_21 hp46) ?_
            refine s_aload_n (pc := 104) rfl rfl ?_
            refine s_getI (pc := 105) rfl ko_262 ?_
            refine s_aload_n (pc := 108) rfl rfl ?_
            refine s_getI (pc := 109) rfl ko_262 ?_
            obtain ⟨hb49, hw⟩ := hw
            refine s_iast (pc := 112) rfl ka_267 (by decide) hb49 ?_
            refine s_aload_n (pc := 113) rfl rfl ?_
            refine s_cv (pc := 114) (d := (d + 4)) (t := []) rfl rfl (am_ca_v (ps := []) rfl ko_262) (Nat.le_of_ble_eq_true rfl) (Cv.weak hw fun m50 J51 P52 hw => ?_)
            obtain ⟨hp54, hw⟩ := hw
            refine s_aload_n (pc := 117) rfl rfl ?_
            refine s_getI (pc := 118) rfl ko_262 ?_
            refine s_iconst (pc := 121) rfl ?_
            obtain ⟨hz55, hw⟩ := hw
            refine s_ic_ne (pc := 122) (tgt := 133) rfl rfl hz55 (by decide) (fun hc => ?_) (fun hc => ?_)
            · replace hw := hw.1 hc
              exact hw
            · replace hw := hw.2 hc
              refine s_aload_n (pc := 125) rfl rfl ?_
              refine s_getI (pc := 126) rfl ko_262 ?_
              refine s_iconst (pc := 129) rfl ?_
              obtain ⟨hz56, hw⟩ := hw
              refine s_ic_le (pc := 130) (tgt := 138) rfl rfl hz56 (by decide) (fun hc => ?_) (fun hc => ?_)
              · replace hw := hw.1 hc
                refine s_aload_n (pc := 138) rfl rfl ?_
                refine s_getA (pc := 139) rfl ko_262 (po_262_22 hp54) ?_
                refine s_aload_n (pc := 142) rfl rfl ?_
                refine s_getI (pc := 143) rfl ko_262 ?_
                refine s_aload_n (pc := 146) rfl rfl ?_
                refine s_getI (pc := 147) rfl ko_262 ?_
                obtain ⟨hb57, hw⟩ := hw
                refine s_iast (pc := 150) rfl ka_268 (by decide) hb57 ?_
                refine s_aload_n (pc := 151) rfl rfl ?_
                refine s_dup (pc := 152) rfl rfl ?_
                refine s_getI (pc := 153) rfl ko_262 ?_
                refine s_iconst (pc := 156) rfl ?_
                refine s_iadd (pc := 157) rfl ?_
                refine s_putI (pc := 158) rfl ko_262 ?_
                refine s_aload_n (pc := 161) rfl rfl ?_
                refine s_cv (pc := 162) (d := (d + 4)) (t := []) rfl rfl (am_ca_v (ps := []) rfl ko_262) (Nat.le_of_ble_eq_true rfl) (Cv.weak hw fun m58 J59 P60 hw => ?_)
                obtain ⟨hp62, hw⟩ := hw
                refine s_aload_n (pc := 165) rfl rfl ?_
                refine s_bipush (pc := 166) rfl (by decide) ?_
                refine s_ci (pc := 168) (d := (d + 4)) (t := []) rfl rfl (am_ca_v (ps := [.int (iz 44)]) rfl ko_262) (Nat.le_of_ble_eq_true rfl) (Ci.weak hw fun z66 m63 J64 P65 hw => ?_)
                obtain ⟨hp67, hw⟩ := hw
                refine s_istore_n (pc := 171) (L' := [some (.ref 262), some (.int (iz z66))]) rfl (Nat.le_of_ble_eq_true rfl) rfl ?_
                refine s_iload_n (pc := 172) rfl rfl ?_
                obtain ⟨hz68, hw⟩ := hw
                refine s_if_eq (pc := 173) (tgt := 35) rfl rfl hz68 (fun hc => ?_) (fun hc => ?_)
                · replace hw := hw.1 hc
                  exact hw
                · replace hw := hw.2 hc
                  refine s_aload_n (pc := 176) rfl rfl ?_
                  refine s_cv (pc := 177) (d := (d + 4)) (t := []) rfl rfl (am_ca_v (ps := []) rfl ko_262) (Nat.le_of_ble_eq_true rfl) (Cv.weak hw fun m69 J70 P71 hw => ?_)
                  obtain ⟨hp73, hw⟩ := hw
                  refine s_goto (pc := 180) (tgt := 35) rfl rfl ?_
                  exact hw
              · replace hw := hw.2 hc
                exact hw
          · replace hw := hw.2 hc
            exact s_retv (pc := 86) rfl rfl hw
      · replace hw := hw.2 hc
        refine s_aload_n (pc := 54) rfl rfl ?_
        refine s_cv (pc := 55) (d := (d + 4)) (t := []) rfl rfl (am_ca_v (ps := []) rfl ko_262) (Nat.le_of_ble_eq_true rfl) (Cv.weak hw fun m74 J75 P76 hw => ?_)
        obtain ⟨hp78, hw⟩ := hw
        refine s_goto (pc := 58) (tgt := 79) rfl rfl ?_
        refine s_aload_n (pc := 79) rfl rfl ?_
        refine s_getI (pc := 80) rfl ko_262 ?_
        obtain ⟨hz79, hw⟩ := hw
        refine s_if_le (pc := 83) (tgt := 87) rfl rfl hz79 (fun hc => ?_) (fun hc => ?_)
        · replace hw := hw.1 hc
          refine s_aload_n (pc := 87) rfl rfl ?_
          refine s_getA (pc := 88) rfl ko_262 (po_262_18 hp78) ?_
          refine s_aload_n (pc := 91) rfl rfl ?_
          refine s_getI (pc := 92) rfl ko_262 ?_
          refine s_aload_n (pc := 95) rfl rfl ?_
          refine s_getJ (pc := 96) rfl ko_262 ?_
          obtain ⟨hb80, hw⟩ := hw
          refine s_last (pc := 99) rfl ka_264 (by decide) hb80 ?_
          refine s_aload_n (pc := 100) rfl rfl ?_
          refine s_getA (pc := 101) rfl ko_262 (po_262_21 hp78) ?_
          refine s_aload_n (pc := 104) rfl rfl ?_
          refine s_getI (pc := 105) rfl ko_262 ?_
          refine s_aload_n (pc := 108) rfl rfl ?_
          refine s_getI (pc := 109) rfl ko_262 ?_
          obtain ⟨hb81, hw⟩ := hw
          refine s_iast (pc := 112) rfl ka_267 (by decide) hb81 ?_
          refine s_aload_n (pc := 113) rfl rfl ?_
          refine s_cv (pc := 114) (d := (d + 4)) (t := []) rfl rfl (am_ca_v (ps := []) rfl ko_262) (Nat.le_of_ble_eq_true rfl) (Cv.weak hw fun m82 J83 P84 hw => ?_)
          obtain ⟨hp86, hw⟩ := hw
          refine s_aload_n (pc := 117) rfl rfl ?_
          refine s_getI (pc := 118) rfl ko_262 ?_
          refine s_iconst (pc := 121) rfl ?_
          obtain ⟨hz87, hw⟩ := hw
          refine s_ic_ne (pc := 122) (tgt := 133) rfl rfl hz87 (by decide) (fun hc => ?_) (fun hc => ?_)
          · replace hw := hw.1 hc
            exact hw
          · replace hw := hw.2 hc
            refine s_aload_n (pc := 125) rfl rfl ?_
            refine s_getI (pc := 126) rfl ko_262 ?_
            refine s_iconst (pc := 129) rfl ?_
            obtain ⟨hz88, hw⟩ := hw
            refine s_ic_le (pc := 130) (tgt := 138) rfl rfl hz88 (by decide) (fun hc => ?_) (fun hc => ?_)
            · replace hw := hw.1 hc
              refine s_aload_n (pc := 138) rfl rfl ?_
              refine s_getA (pc := 139) rfl ko_262 (po_262_22 hp86) ?_
              refine s_aload_n (pc := 142) rfl rfl ?_
              refine s_getI (pc := 143) rfl ko_262 ?_
              refine s_aload_n (pc := 146) rfl rfl ?_
              refine s_getI (pc := 147) rfl ko_262 ?_
              obtain ⟨hb89, hw⟩ := hw
              refine s_iast (pc := 150) rfl ka_268 (by decide) hb89 ?_
              refine s_aload_n (pc := 151) rfl rfl ?_
              refine s_dup (pc := 152) rfl rfl ?_
              refine s_getI (pc := 153) rfl ko_262 ?_
              refine s_iconst (pc := 156) rfl ?_
              refine s_iadd (pc := 157) rfl ?_
              refine s_putI (pc := 158) rfl ko_262 ?_
              refine s_aload_n (pc := 161) rfl rfl ?_
              refine s_cv (pc := 162) (d := (d + 4)) (t := []) rfl rfl (am_ca_v (ps := []) rfl ko_262) (Nat.le_of_ble_eq_true rfl) (Cv.weak hw fun m90 J91 P92 hw => ?_)
              obtain ⟨hp94, hw⟩ := hw
              refine s_aload_n (pc := 165) rfl rfl ?_
              refine s_bipush (pc := 166) rfl (by decide) ?_
              refine s_ci (pc := 168) (d := (d + 4)) (t := []) rfl rfl (am_ca_v (ps := [.int (iz 44)]) rfl ko_262) (Nat.le_of_ble_eq_true rfl) (Ci.weak hw fun z98 m95 J96 P97 hw => ?_)
              obtain ⟨hp99, hw⟩ := hw
              refine s_istore_n (pc := 171) (L' := [some (.ref 262), some (.int (iz z98))]) rfl (Nat.le_of_ble_eq_true rfl) rfl ?_
              refine s_iload_n (pc := 172) rfl rfl ?_
              obtain ⟨hz100, hw⟩ := hw
              refine s_if_eq (pc := 173) (tgt := 35) rfl rfl hz100 (fun hc => ?_) (fun hc => ?_)
              · replace hw := hw.1 hc
                exact hw
              · replace hw := hw.2 hc
                refine s_aload_n (pc := 176) rfl rfl ?_
                refine s_cv (pc := 177) (d := (d + 4)) (t := []) rfl rfl (am_ca_v (ps := []) rfl ko_262) (Nat.le_of_ble_eq_true rfl) (Cv.weak hw fun m101 J102 P103 hw => ?_)
                obtain ⟨hp105, hw⟩ := hw
                refine s_goto (pc := 180) (tgt := 35) rfl rfl ?_
                exact hw
            · replace hw := hw.2 hc
              exact hw
        · replace hw := hw.2 hc
          exact s_retv (pc := 86) rfl rfl hw

set_option maxRecDepth 20000 in
set_option maxHeartbeats 4000000 in
theorem b_Mdl_readSystem_133 {X : aX} {d : Nat} (x1 : Int)  (m : Mi) (J : Mj) (P : Mp) (hp : PP P) (post : Mi → Mj → Mp → Prop)
    (hw : Cv X (d + 4) 142 [.ref 262] m J P (fun m1 J2 P3 => PP P3 ∧ post m1 J2 P3)) : Rn X (d + 5) 141 133 [some (.ref 262), some (.int (iz x1))] [] (SS m J P) (QV post) := by
  refine s_aload_n (pc := 133) rfl rfl ?_
  refine s_cv (pc := 134) (d := (d + 4)) (t := []) rfl rfl (am_ca_v (ps := []) rfl ko_262) (Nat.le_of_ble_eq_true rfl) (Cv.weak hw fun m1 J2 P3 hw => ?_)
  obtain ⟨hp5, hw⟩ := hw
  exact s_retv (pc := 137) rfl rfl hw

set_option maxRecDepth 20000 in
set_option maxHeartbeats 4000000 in
theorem b_Mdl_readSystem_189 {X : aX} {d : Nat} (x1 : Int)  (m : Mi) (J : Mj) (P : Mp) (hp : PP P) (post : Mi → Mj → Mp → Prop)
    (hw : Zr (m 262 10) ∧ (((¬ (m 262 10) = 0) → post m J P) ∧ (¬ (¬ (m 262 10) = 0) → Zr (m 262 3) ∧ ((((m 262 3) = 0) → post m J P) ∧ (¬ ((m 262 3) = 0) → Cv X (d + 4) 146 [.ref 262] m J P (fun m3 J4 P5 => PP P5 ∧ Rn X (d + 5) 141 189 [some (.ref 262), some (.int (iz x1))] [] (SS m3 J4 P5) (QV post))))))) : Rn X (d + 5) 141 189 [some (.ref 262), some (.int (iz x1))] [] (SS m J P) (QV post) := by
  refine s_aload_n (pc := 189) rfl rfl ?_
  refine s_getI (pc := 190) rfl ko_262 ?_
  obtain ⟨hz1, hw⟩ := hw
  refine s_if_ne (pc := 193) (tgt := 210) rfl rfl hz1 (fun hc => ?_) (fun hc => ?_)
  · replace hw := hw.1 hc
    exact s_retv (pc := 210) rfl rfl hw
  · replace hw := hw.2 hc
    refine s_aload_n (pc := 196) rfl rfl ?_
    refine s_getI (pc := 197) rfl ko_262 ?_
    obtain ⟨hz2, hw⟩ := hw
    refine s_if_eq (pc := 200) (tgt := 210) rfl rfl hz2 (fun hc => ?_) (fun hc => ?_)
    · replace hw := hw.1 hc
      exact s_retv (pc := 210) rfl rfl hw
    · replace hw := hw.2 hc
      refine s_aload_n (pc := 203) rfl rfl ?_
      refine s_cv (pc := 204) (d := (d + 4)) (t := []) rfl rfl (am_ca_v (ps := []) rfl ko_262) (Nat.le_of_ble_eq_true rfl) (Cv.weak hw fun m3 J4 P5 hw => ?_)
      obtain ⟨hp7, hw⟩ := hw
      refine s_goto (pc := 207) (tgt := 189) rfl rfl ?_
      exact hw

set_option maxRecDepth 20000 in
set_option maxHeartbeats 4000000 in
theorem b_Mdl_wrong_0 {X : aX} {d : Nat}   (m : Mi) (J : Mj) (P : Mp) (hp : PP P) (post : Mi → Mj → Mp → Prop)
    (hw : Zr (m 262 3) ∧ (((¬ (m 262 3) = 5) → Cv X d 143 [.ref 262, .int (iz 2), .int (iz (m 262 4))] m J P (fun m2 J3 P4 => PP P4 ∧ post m2 J3 P4)) ∧ (¬ (¬ (m 262 3) = 5) → Cv X d 143 [.ref 262, .int (iz 1), .int (iz (m 262 4))] m J P (fun m7 J8 P9 => PP P9 ∧ post m7 J8 P9)))) : Rn X (d + 1) 142 0 [some (.ref 262)] [] (SS m J P) (QV post) := by
  refine s_aload_n (pc := 0) rfl rfl ?_
  refine s_aload_n (pc := 1) rfl rfl ?_
  refine s_getI (pc := 2) rfl ko_262 ?_
  refine s_iconst (pc := 5) rfl ?_
  obtain ⟨hz1, hw⟩ := hw
  refine s_ic_ne (pc := 6) (tgt := 13) rfl rfl hz1 (by decide) (fun hc => ?_) (fun hc => ?_)
  · replace hw := hw.1 hc
    refine s_iconst (pc := 13) rfl ?_
    refine s_aload_n (pc := 14) rfl rfl ?_
    refine s_getI (pc := 15) rfl ko_262 ?_
    refine s_cv (pc := 18) (d := d) (t := []) rfl rfl (am_ca_v (ps := [.int (iz (m 262 4)), .int (iz 2)]) rfl ko_262) (Nat.le_of_ble_eq_true rfl) (Cv.weak hw fun m2 J3 P4 hw => ?_)
    obtain ⟨hp6, hw⟩ := hw
    exact s_retv (pc := 21) rfl rfl hw
  · replace hw := hw.2 hc
    refine s_iconst (pc := 9) rfl ?_
    refine s_goto (pc := 10) (tgt := 14) rfl rfl ?_
    refine s_aload_n (pc := 14) rfl rfl ?_
    refine s_getI (pc := 15) rfl ko_262 ?_
    refine s_cv (pc := 18) (d := d) (t := []) rfl rfl (am_ca_v (ps := [.int (iz (m 262 4)), .int (iz 1)]) rfl ko_262) (Nat.le_of_ble_eq_true rfl) (Cv.weak hw fun m7 J8 P9 hw => ?_)
    obtain ⟨hp11, hw⟩ := hw
    exact s_retv (pc := 21) rfl rfl hw

set_option maxRecDepth 20000 in
set_option maxHeartbeats 4000000 in
theorem b_Mdl_fail_0 {X : aX} {d : Nat} (x1 : Int) (x2 : Int)  (m : Mi) (J : Mj) (P : Mp) (hp : PP P) (post : Mi → Mj → Mp → Prop)
    (hw : Zr (m 262 10) ∧ ((((m 262 10) ≤ 0) → post (mu (mu m 262 10 x1) 262 11 x2) J P) ∧ (¬ ((m 262 10) ≤ 0) → post m J P))) : Rn X d 143 0 [some (.ref 262), some (.int (iz x1)), some (.int (iz x2))] [] (SS m J P) (QV post) := by
  refine s_aload_n (pc := 0) rfl rfl ?_
  refine s_getI (pc := 1) rfl ko_262 ?_
  obtain ⟨hz1, hw⟩ := hw
  refine s_if_le (pc := 4) (tgt := 8) rfl rfl hz1 (fun hc => ?_) (fun hc => ?_)
  · replace hw := hw.1 hc
    refine s_aload_n (pc := 8) rfl rfl ?_
    refine s_iload_n (pc := 9) rfl rfl ?_
    refine s_putI (pc := 10) rfl ko_262 ?_
    refine s_aload_n (pc := 13) rfl rfl ?_
    refine s_iload_n (pc := 14) rfl rfl ?_
    refine s_putI (pc := 15) rfl ko_262 ?_
    exact s_retv (pc := 18) rfl rfl hw
  · replace hw := hw.2 hc
    exact s_retv (pc := 7) rfl rfl hw

set_option maxRecDepth 20000 in
set_option maxHeartbeats 4000000 in
theorem b_Mdl_is_0 {X : aX} {d : Nat} (x1 : Int)  (m : Mi) (J : Mj) (P : Mp) (hp : PP P) (post : Int → Mi → Mj → Mp → Prop)
    (hw : Zr (m 262 3) ∧ (((¬ (m 262 3) = 4) → post 0 m J P) ∧ (¬ (¬ (m 262 3) = 4) → Zr (m 262 6) ∧ Zr (x1) ∧ (((¬ (m 262 6) = x1) → post 0 m J P) ∧ (¬ (¬ (m 262 6) = x1) → post 1 m J P))))) : Rn X d 144 0 [some (.ref 262), some (.int (iz x1))] [] (SS m J P) (QI post) := by
  refine s_aload_n (pc := 0) rfl rfl ?_
  refine s_getI (pc := 1) rfl ko_262 ?_
  refine s_iconst (pc := 4) rfl ?_
  obtain ⟨hz1, hw⟩ := hw
  refine s_ic_ne (pc := 5) (tgt := 20) rfl rfl hz1 (by decide) (fun hc => ?_) (fun hc => ?_)
  · replace hw := hw.1 hc
    refine s_iconst (pc := 20) rfl ?_
    exact s_retz (pc := 21) rfl rfl (by decide) hw
  · replace hw := hw.2 hc
    refine s_aload_n (pc := 8) rfl rfl ?_
    refine s_getI (pc := 9) rfl ko_262 ?_
    refine s_iload_n (pc := 12) rfl rfl ?_
    obtain ⟨hz2, hw⟩ := hw
    obtain ⟨hz3, hw⟩ := hw
    refine s_ic_ne (pc := 13) (tgt := 20) rfl rfl hz2 hz3 (fun hc => ?_) (fun hc => ?_)
    · replace hw := hw.1 hc
      refine s_iconst (pc := 20) rfl ?_
      exact s_retz (pc := 21) rfl rfl (by decide) hw
    · replace hw := hw.2 hc
      refine s_iconst (pc := 16) rfl ?_
      refine s_goto (pc := 17) (tgt := 21) rfl rfl ?_
      exact s_retz (pc := 21) rfl rfl (by decide) hw

set_option maxRecDepth 20000 in
set_option maxHeartbeats 4000000 in
theorem b_Mdl_wants_0 {X : aX} {d : Nat} (x1 : Int)  (m : Mi) (J : Mj) (P : Mp) (hp : PP P) (post : Mi → Mj → Mp → Prop)
    (hw : Zr (m 262 10) ∧ ((((m 262 10) ≤ 0) → Ci X (d + 2) 144 [.ref 262, .int (iz x1)] m J P (fun z5 m2 J3 P4 => PP P4 ∧ Zr (z5) ∧ (((z5 = 0) → Cv X (d + 2) 142 [.ref 262] m2 J3 P4 (fun m8 J9 P10 => PP P10 ∧ post m8 J9 P10)) ∧ (¬ (z5 = 0) → Cv X (d + 2) 138 [.ref 262] m2 J3 P4 (fun m13 J14 P15 => PP P15 ∧ post m13 J14 P15))))) ∧ (¬ ((m 262 10) ≤ 0) → post m J P))) : Rn X (d + 3) 145 0 [some (.ref 262), some (.int (iz x1))] [] (SS m J P) (QV post) := by
  refine s_aload_n (pc := 0) rfl rfl ?_
  refine s_getI (pc := 1) rfl ko_262 ?_
  obtain ⟨hz1, hw⟩ := hw
  refine s_if_le (pc := 4) (tgt := 8) rfl rfl hz1 (fun hc => ?_) (fun hc => ?_)
  · replace hw := hw.1 hc
    refine s_aload_n (pc := 8) rfl rfl ?_
    refine s_iload_n (pc := 9) rfl rfl ?_
    refine s_ci (pc := 10) (d := (d + 2)) (t := []) rfl rfl (am_ca_v (ps := [.int (iz x1)]) rfl ko_262) (Nat.le_of_ble_eq_true rfl) (Ci.weak hw fun z5 m2 J3 P4 hw => ?_)
    obtain ⟨hp6, hw⟩ := hw
    obtain ⟨hz7, hw⟩ := hw
    refine s_if_eq (pc := 13) (tgt := 23) rfl rfl hz7 (fun hc => ?_) (fun hc => ?_)
    · replace hw := hw.1 hc
      refine s_aload_n (pc := 23) rfl rfl ?_
      refine s_cv (pc := 24) (d := (d + 2)) (t := []) rfl rfl (am_ca_v (ps := []) rfl ko_262) (Nat.le_of_ble_eq_true rfl) (Cv.weak hw fun m8 J9 P10 hw => ?_)
      obtain ⟨hp12, hw⟩ := hw
      exact s_retv (pc := 27) rfl rfl hw
    · replace hw := hw.2 hc
      refine s_aload_n (pc := 16) rfl rfl ?_
      refine s_cv (pc := 17) (d := (d + 2)) (t := []) rfl rfl (am_ca_v (ps := []) rfl ko_262) (Nat.le_of_ble_eq_true rfl) (Cv.weak hw fun m13 J14 P15 hw => ?_)
      obtain ⟨hp17, hw⟩ := hw
      refine s_goto (pc := 20) (tgt := 27) rfl rfl ?_
      exact s_retv (pc := 27) rfl rfl hw
  · replace hw := hw.2 hc
    exact s_retv (pc := 7) rfl rfl hw

set_option maxRecDepth 20000 in
set_option maxHeartbeats 4000000 in
theorem b_Mdl_readRule_0 {X : aX} {d : Nat}   (m : Mi) (J : Mj) (P : Mp) (hp : PP P) (post : Mi → Mj → Mp → Prop)
    (hw : Zr (m 262 3) ∧ ((((m 262 3) = 7) → Zr (m 262 15) ∧ (((¬ (m 262 15) = 16) → Zr (m 262 10) ∧ ((((m 262 10) ≤ 0) → Cv X (d + 3) 138 [.ref 262] m J P (fun m4 J5 P6 => PP P6 ∧ ((0 : Int) ≤ (m 262 15) ∧ ((m 262 15) : Int) < 16) ∧ Cv X (d + 3) 147 [.ref 262, .int (iz 8)] (mu (mu m4 262 17 0) 272 (m 262 15).toNat ((mu m4 262 17 0) 262 16)) J5 P6 (fun m10 J11 P12 => PP P12 ∧ ((0 : Int) ≤ (m 262 15) ∧ ((m 262 15) : Int) < 16) ∧ Cv X (d + 3) 145 [.ref 262, .int (iz 256)] (mu m10 275 (m 262 15).toNat (m10 262 4)) J11 P12 (fun m16 J17 P18 => PP P18 ∧ ((0 : Int) ≤ (m 262 15) ∧ ((m 262 15) : Int) < 16) ∧ Zr ((mu m16 273 (m 262 15).toNat (m16 262 16)) 262 10) ∧ (((¬ ((mu m16 273 (m 262 15).toNat (m16 262 16)) 262 10) = 0) → Rn X (d + 4) 146 112 [some (.ref 262), some (.int (iz (m 262 15))), none] [] (SS (mu m16 273 (m 262 15).toNat (m16 262 16)) J17 P18) (QV post)) ∧ (¬ (¬ ((mu m16 273 (m 262 15).toNat (m16 262 16)) 262 10) = 0) → Cv X (d + 3) 147 [.ref 262, .int (iz 8)] (mu m16 273 (m 262 15).toNat (m16 262 16)) J17 P18 (fun m23 J24 P25 => PP P25 ∧ Rn X (d + 4) 146 112 [some (.ref 262), some (.int (iz (m 262 15))), none] [] (SS m23 J24 P25) (QV post)))))))) ∧ (¬ ((m 262 10) ≤ 0) → post m J P))) ∧ (¬ (¬ (m 262 15) = 16) → Cv X (d + 3) 143 [.ref 262, .int (iz 3), .int (iz (m 262 4))] m J P (fun m28 J29 P30 => PP P30 ∧ Zr (m28 262 10) ∧ ((((m28 262 10) ≤ 0) → Cv X (d + 3) 138 [.ref 262] m28 J29 P30 (fun m34 J35 P36 => PP P36 ∧ ((0 : Int) ≤ (m28 262 15) ∧ ((m28 262 15) : Int) < 16) ∧ Cv X (d + 3) 147 [.ref 262, .int (iz 8)] (mu (mu m34 262 17 0) 272 (m28 262 15).toNat ((mu m34 262 17 0) 262 16)) J35 P36 (fun m40 J41 P42 => PP P42 ∧ ((0 : Int) ≤ (m28 262 15) ∧ ((m28 262 15) : Int) < 16) ∧ Cv X (d + 3) 145 [.ref 262, .int (iz 256)] (mu m40 275 (m28 262 15).toNat (m40 262 4)) J41 P42 (fun m46 J47 P48 => PP P48 ∧ ((0 : Int) ≤ (m28 262 15) ∧ ((m28 262 15) : Int) < 16) ∧ Zr ((mu m46 273 (m28 262 15).toNat (m46 262 16)) 262 10) ∧ (((¬ ((mu m46 273 (m28 262 15).toNat (m46 262 16)) 262 10) = 0) → Rn X (d + 4) 146 112 [some (.ref 262), some (.int (iz (m28 262 15))), none] [] (SS (mu m46 273 (m28 262 15).toNat (m46 262 16)) J47 P48) (QV post)) ∧ (¬ (¬ ((mu m46 273 (m28 262 15).toNat (m46 262 16)) 262 10) = 0) → Cv X (d + 3) 147 [.ref 262, .int (iz 8)] (mu m46 273 (m28 262 15).toNat (m46 262 16)) J47 P48 (fun m53 J54 P55 => PP P55 ∧ Rn X (d + 4) 146 112 [some (.ref 262), some (.int (iz (m28 262 15))), none] [] (SS m53 J54 P55) (QV post)))))))) ∧ (¬ ((m28 262 10) ≤ 0) → post m28 J29 P30)))))) ∧ (¬ ((m 262 3) = 7) → Cv X (d + 3) 142 [.ref 262] m J P (fun m58 J59 P60 => PP P60 ∧ Zr (m58 262 10) ∧ ((((m58 262 10) ≤ 0) → Cv X (d + 3) 138 [.ref 262] m58 J59 P60 (fun m64 J65 P66 => PP P66 ∧ ((0 : Int) ≤ (m58 262 15) ∧ ((m58 262 15) : Int) < 16) ∧ Cv X (d + 3) 147 [.ref 262, .int (iz 8)] (mu (mu m64 262 17 0) 272 (m58 262 15).toNat ((mu m64 262 17 0) 262 16)) J65 P66 (fun m70 J71 P72 => PP P72 ∧ ((0 : Int) ≤ (m58 262 15) ∧ ((m58 262 15) : Int) < 16) ∧ Cv X (d + 3) 145 [.ref 262, .int (iz 256)] (mu m70 275 (m58 262 15).toNat (m70 262 4)) J71 P72 (fun m76 J77 P78 => PP P78 ∧ ((0 : Int) ≤ (m58 262 15) ∧ ((m58 262 15) : Int) < 16) ∧ Zr ((mu m76 273 (m58 262 15).toNat (m76 262 16)) 262 10) ∧ (((¬ ((mu m76 273 (m58 262 15).toNat (m76 262 16)) 262 10) = 0) → Rn X (d + 4) 146 112 [some (.ref 262), some (.int (iz (m58 262 15))), none] [] (SS (mu m76 273 (m58 262 15).toNat (m76 262 16)) J77 P78) (QV post)) ∧ (¬ (¬ ((mu m76 273 (m58 262 15).toNat (m76 262 16)) 262 10) = 0) → Cv X (d + 3) 147 [.ref 262, .int (iz 8)] (mu m76 273 (m58 262 15).toNat (m76 262 16)) J77 P78 (fun m83 J84 P85 => PP P85 ∧ Rn X (d + 4) 146 112 [some (.ref 262), some (.int (iz (m58 262 15))), none] [] (SS m83 J84 P85) (QV post)))))))) ∧ (¬ ((m58 262 10) ≤ 0) → post m58 J59 P60)))))) : Rn X (d + 4) 146 0 [some (.ref 262), none, none] [] (SS m J P) (QV post) := by
  refine s_aload_n (pc := 0) rfl rfl ?_
  refine s_getI (pc := 1) rfl ko_262 ?_
  refine s_bipush (pc := 4) rfl (by decide) ?_
  obtain ⟨hz1, hw⟩ := hw
  refine s_ic_eq (pc := 6) (tgt := 16) rfl rfl hz1 (by decide) (fun hc => ?_) (fun hc => ?_)
  · replace hw := hw.1 hc
    refine s_aload_n (pc := 16) rfl rfl ?_
    refine s_getI (pc := 17) rfl ko_262 ?_
    refine s_bipush (pc := 20) rfl (by decide) ?_
    obtain ⟨hz2, hw⟩ := hw
    refine s_ic_ne (pc := 22) (tgt := 34) rfl rfl hz2 (by decide) (fun hc => ?_) (fun hc => ?_)
    · replace hw := hw.1 hc
      refine s_aload_n (pc := 34) rfl rfl ?_
      refine s_getI (pc := 35) rfl ko_262 ?_
      obtain ⟨hz3, hw⟩ := hw
      refine s_if_le (pc := 38) (tgt := 42) rfl rfl hz3 (fun hc => ?_) (fun hc => ?_)
      · replace hw := hw.1 hc
        refine s_aload_n (pc := 42) rfl rfl ?_
        refine s_getI (pc := 43) rfl ko_262 ?_
        refine s_istore_n (pc := 46) (L' := [some (.ref 262), some (.int (iz (m 262 15))), none]) rfl (Nat.le_of_ble_eq_true rfl) rfl ?_
        refine s_aload_n (pc := 47) rfl rfl ?_
        refine s_cv (pc := 48) (d := (d + 3)) (t := []) rfl rfl (am_ca_v (ps := []) rfl ko_262) (Nat.le_of_ble_eq_true rfl) (Cv.weak hw fun m4 J5 P6 hw => ?_)
        obtain ⟨hp8, hw⟩ := hw
        refine s_aload_n (pc := 51) rfl rfl ?_
        refine s_iconst (pc := 52) rfl ?_
        refine s_putI (pc := 53) rfl ko_262 ?_
        refine s_aload_n (pc := 56) rfl rfl ?_
        refine s_getA (pc := 57) rfl ko_262 (po_262_26 hp8) ?_
        refine s_iload_n (pc := 60) rfl rfl ?_
        refine s_aload_n (pc := 61) rfl rfl ?_
        refine s_getI (pc := 62) rfl ko_262 ?_
        obtain ⟨hb9, hw⟩ := hw
        refine s_iast (pc := 65) rfl ka_272 (by decide) hb9 ?_
        refine s_aload_n (pc := 66) rfl rfl ?_
        refine s_bipush (pc := 67) rfl (by decide) ?_
        refine s_cv (pc := 69) (d := (d + 3)) (t := []) rfl rfl (am_ca_v (ps := [.int (iz 8)]) rfl ko_262) (Nat.le_of_ble_eq_true rfl) (Cv.weak hw fun m10 J11 P12 hw => ?_)
        obtain ⟨hp14, hw⟩ := hw
        refine s_aload_n (pc := 72) rfl rfl ?_
        refine s_getA (pc := 73) rfl ko_262 (po_262_29 hp14) ?_
        refine s_iload_n (pc := 76) rfl rfl ?_
        refine s_aload_n (pc := 77) rfl rfl ?_
        refine s_getI (pc := 78) rfl ko_262 ?_
        obtain ⟨hb15, hw⟩ := hw
        refine s_iast (pc := 81) rfl ka_275 (by decide) hb15 ?_
        refine s_aload_n (pc := 82) rfl rfl ?_
        refine s_sipush (pc := 83) rfl (by decide) ?_
        refine s_cv (pc := 86) (d := (d + 3)) (t := []) rfl rfl (am_ca_v (ps := [.int (iz 256)]) rfl ko_262) (Nat.le_of_ble_eq_true rfl) (Cv.weak hw fun m16 J17 P18 hw => ?_)
        obtain ⟨hp20, hw⟩ := hw
        refine s_aload_n (pc := 89) rfl rfl ?_
        refine s_getA (pc := 90) rfl ko_262 (po_262_27 hp20) ?_
        refine s_iload_n (pc := 93) rfl rfl ?_
        refine s_aload_n (pc := 94) rfl rfl ?_
        refine s_getI (pc := 95) rfl ko_262 ?_
        obtain ⟨hb21, hw⟩ := hw
        refine s_iast (pc := 98) rfl ka_273 (by decide) hb21 ?_
        refine s_aload_n (pc := 99) rfl rfl ?_
        refine s_getI (pc := 100) rfl ko_262 ?_
        obtain ⟨hz22, hw⟩ := hw
        refine s_if_ne (pc := 103) (tgt := 112) rfl rfl hz22 (fun hc => ?_) (fun hc => ?_)
        · replace hw := hw.1 hc
          exact hw
        · replace hw := hw.2 hc
          refine s_aload_n (pc := 106) rfl rfl ?_
          refine s_bipush (pc := 107) rfl (by decide) ?_
          refine s_cv (pc := 109) (d := (d + 3)) (t := []) rfl rfl (am_ca_v (ps := [.int (iz 8)]) rfl ko_262) (Nat.le_of_ble_eq_true rfl) (Cv.weak hw fun m23 J24 P25 hw => ?_)
          obtain ⟨hp27, hw⟩ := hw
          exact hw
      · replace hw := hw.2 hc
        exact s_retv (pc := 41) rfl rfl hw
    · replace hw := hw.2 hc
      refine s_aload_n (pc := 25) rfl rfl ?_
      refine s_iconst (pc := 26) rfl ?_
      refine s_aload_n (pc := 27) rfl rfl ?_
      refine s_getI (pc := 28) rfl ko_262 ?_
      refine s_cv (pc := 31) (d := (d + 3)) (t := []) rfl rfl (am_ca_v (ps := [.int (iz (m 262 4)), .int (iz 3)]) rfl ko_262) (Nat.le_of_ble_eq_true rfl) (Cv.weak hw fun m28 J29 P30 hw => ?_)
      obtain ⟨hp32, hw⟩ := hw
      refine s_aload_n (pc := 34) rfl rfl ?_
      refine s_getI (pc := 35) rfl ko_262 ?_
      obtain ⟨hz33, hw⟩ := hw
      refine s_if_le (pc := 38) (tgt := 42) rfl rfl hz33 (fun hc => ?_) (fun hc => ?_)
      · replace hw := hw.1 hc
        refine s_aload_n (pc := 42) rfl rfl ?_
        refine s_getI (pc := 43) rfl ko_262 ?_
        refine s_istore_n (pc := 46) (L' := [some (.ref 262), some (.int (iz (m28 262 15))), none]) rfl (Nat.le_of_ble_eq_true rfl) rfl ?_
        refine s_aload_n (pc := 47) rfl rfl ?_
        refine s_cv (pc := 48) (d := (d + 3)) (t := []) rfl rfl (am_ca_v (ps := []) rfl ko_262) (Nat.le_of_ble_eq_true rfl) (Cv.weak hw fun m34 J35 P36 hw => ?_)
        obtain ⟨hp38, hw⟩ := hw
        refine s_aload_n (pc := 51) rfl rfl ?_
        refine s_iconst (pc := 52) rfl ?_
        refine s_putI (pc := 53) rfl ko_262 ?_
        refine s_aload_n (pc := 56) rfl rfl ?_
        refine s_getA (pc := 57) rfl ko_262 (po_262_26 hp38) ?_
        refine s_iload_n (pc := 60) rfl rfl ?_
        refine s_aload_n (pc := 61) rfl rfl ?_
        refine s_getI (pc := 62) rfl ko_262 ?_
        obtain ⟨hb39, hw⟩ := hw
        refine s_iast (pc := 65) rfl ka_272 (by decide) hb39 ?_
        refine s_aload_n (pc := 66) rfl rfl ?_
        refine s_bipush (pc := 67) rfl (by decide) ?_
        refine s_cv (pc := 69) (d := (d + 3)) (t := []) rfl rfl (am_ca_v (ps := [.int (iz 8)]) rfl ko_262) (Nat.le_of_ble_eq_true rfl) (Cv.weak hw fun m40 J41 P42 hw => ?_)
        obtain ⟨hp44, hw⟩ := hw
        refine s_aload_n (pc := 72) rfl rfl ?_
        refine s_getA (pc := 73) rfl ko_262 (po_262_29 hp44) ?_
        refine s_iload_n (pc := 76) rfl rfl ?_
        refine s_aload_n (pc := 77) rfl rfl ?_
        refine s_getI (pc := 78) rfl ko_262 ?_
        obtain ⟨hb45, hw⟩ := hw
        refine s_iast (pc := 81) rfl ka_275 (by decide) hb45 ?_
        refine s_aload_n (pc := 82) rfl rfl ?_
        refine s_sipush (pc := 83) rfl (by decide) ?_
        refine s_cv (pc := 86) (d := (d + 3)) (t := []) rfl rfl (am_ca_v (ps := [.int (iz 256)]) rfl ko_262) (Nat.le_of_ble_eq_true rfl) (Cv.weak hw fun m46 J47 P48 hw => ?_)
        obtain ⟨hp50, hw⟩ := hw
        refine s_aload_n (pc := 89) rfl rfl ?_
        refine s_getA (pc := 90) rfl ko_262 (po_262_27 hp50) ?_
        refine s_iload_n (pc := 93) rfl rfl ?_
        refine s_aload_n (pc := 94) rfl rfl ?_
        refine s_getI (pc := 95) rfl ko_262 ?_
        obtain ⟨hb51, hw⟩ := hw
        refine s_iast (pc := 98) rfl ka_273 (by decide) hb51 ?_
        refine s_aload_n (pc := 99) rfl rfl ?_
        refine s_getI (pc := 100) rfl ko_262 ?_
        obtain ⟨hz52, hw⟩ := hw
        refine s_if_ne (pc := 103) (tgt := 112) rfl rfl hz52 (fun hc => ?_) (fun hc => ?_)
        · replace hw := hw.1 hc
          exact hw
        · replace hw := hw.2 hc
          refine s_aload_n (pc := 106) rfl rfl ?_
          refine s_bipush (pc := 107) rfl (by decide) ?_
          refine s_cv (pc := 109) (d := (d + 3)) (t := []) rfl rfl (am_ca_v (ps := [.int (iz 8)]) rfl ko_262) (Nat.le_of_ble_eq_true rfl) (Cv.weak hw fun m53 J54 P55 hw => ?_)
          obtain ⟨hp57, hw⟩ := hw
          exact hw
      · replace hw := hw.2 hc
        exact s_retv (pc := 41) rfl rfl hw
  · replace hw := hw.2 hc
    refine s_aload_n (pc := 9) rfl rfl ?_
    refine s_cv (pc := 10) (d := (d + 3)) (t := []) rfl rfl (am_ca_v (ps := []) rfl ko_262) (Nat.le_of_ble_eq_true rfl) (Cv.weak hw fun m58 J59 P60 hw => ?_)
    obtain ⟨hp62, hw⟩ := hw
    refine s_goto (pc := 13) (tgt := 34) rfl rfl ?_
    refine s_aload_n (pc := 34) rfl rfl ?_
    refine s_getI (pc := 35) rfl ko_262 ?_
    obtain ⟨hz63, hw⟩ := hw
    refine s_if_le (pc := 38) (tgt := 42) rfl rfl hz63 (fun hc => ?_) (fun hc => ?_)
    · replace hw := hw.1 hc
      refine s_aload_n (pc := 42) rfl rfl ?_
      refine s_getI (pc := 43) rfl ko_262 ?_
      refine s_istore_n (pc := 46) (L' := [some (.ref 262), some (.int (iz (m58 262 15))), none]) rfl (Nat.le_of_ble_eq_true rfl) rfl ?_
      refine s_aload_n (pc := 47) rfl rfl ?_
      refine s_cv (pc := 48) (d := (d + 3)) (t := []) rfl rfl (am_ca_v (ps := []) rfl ko_262) (Nat.le_of_ble_eq_true rfl) (Cv.weak hw fun m64 J65 P66 hw => ?_)
      obtain ⟨hp68, hw⟩ := hw
      refine s_aload_n (pc := 51) rfl rfl ?_
      refine s_iconst (pc := 52) rfl ?_
      refine s_putI (pc := 53) rfl ko_262 ?_
      refine s_aload_n (pc := 56) rfl rfl ?_
      refine s_getA (pc := 57) rfl ko_262 (po_262_26 hp68) ?_
      refine s_iload_n (pc := 60) rfl rfl ?_
      refine s_aload_n (pc := 61) rfl rfl ?_
      refine s_getI (pc := 62) rfl ko_262 ?_
      obtain ⟨hb69, hw⟩ := hw
      refine s_iast (pc := 65) rfl ka_272 (by decide) hb69 ?_
      refine s_aload_n (pc := 66) rfl rfl ?_
      refine s_bipush (pc := 67) rfl (by decide) ?_
      refine s_cv (pc := 69) (d := (d + 3)) (t := []) rfl rfl (am_ca_v (ps := [.int (iz 8)]) rfl ko_262) (Nat.le_of_ble_eq_true rfl) (Cv.weak hw fun m70 J71 P72 hw => ?_)
      obtain ⟨hp74, hw⟩ := hw
      refine s_aload_n (pc := 72) rfl rfl ?_
      refine s_getA (pc := 73) rfl ko_262 (po_262_29 hp74) ?_
      refine s_iload_n (pc := 76) rfl rfl ?_
      refine s_aload_n (pc := 77) rfl rfl ?_
      refine s_getI (pc := 78) rfl ko_262 ?_
      obtain ⟨hb75, hw⟩ := hw
      refine s_iast (pc := 81) rfl ka_275 (by decide) hb75 ?_
      refine s_aload_n (pc := 82) rfl rfl ?_
      refine s_sipush (pc := 83) rfl (by decide) ?_
      refine s_cv (pc := 86) (d := (d + 3)) (t := []) rfl rfl (am_ca_v (ps := [.int (iz 256)]) rfl ko_262) (Nat.le_of_ble_eq_true rfl) (Cv.weak hw fun m76 J77 P78 hw => ?_)
      obtain ⟨hp80, hw⟩ := hw
      refine s_aload_n (pc := 89) rfl rfl ?_
      refine s_getA (pc := 90) rfl ko_262 (po_262_27 hp80) ?_
      refine s_iload_n (pc := 93) rfl rfl ?_
      refine s_aload_n (pc := 94) rfl rfl ?_
      refine s_getI (pc := 95) rfl ko_262 ?_
      obtain ⟨hb81, hw⟩ := hw
      refine s_iast (pc := 98) rfl ka_273 (by decide) hb81 ?_
      refine s_aload_n (pc := 99) rfl rfl ?_
      refine s_getI (pc := 100) rfl ko_262 ?_
      obtain ⟨hz82, hw⟩ := hw
      refine s_if_ne (pc := 103) (tgt := 112) rfl rfl hz82 (fun hc => ?_) (fun hc => ?_)
      · replace hw := hw.1 hc
        exact hw
      · replace hw := hw.2 hc
        refine s_aload_n (pc := 106) rfl rfl ?_
        refine s_bipush (pc := 107) rfl (by decide) ?_
        refine s_cv (pc := 109) (d := (d + 3)) (t := []) rfl rfl (am_ca_v (ps := [.int (iz 8)]) rfl ko_262) (Nat.le_of_ble_eq_true rfl) (Cv.weak hw fun m83 J84 P85 hw => ?_)
        obtain ⟨hp87, hw⟩ := hw
        exact hw
    · replace hw := hw.2 hc
      exact s_retv (pc := 41) rfl rfl hw

set_option maxRecDepth 20000 in
set_option maxHeartbeats 4000000 in
theorem b_Mdl_readRule_112 {X : aX} {d : Nat} (x1 : Int)  (m : Mi) (J : Mj) (P : Mp) (hp : PP P) (post : Mi → Mj → Mp → Prop)
    (hw : ((0 : Int) ≤ x1 ∧ (x1 : Int) < 16) ∧ Cv X (d + 3) 145 [.ref 262, .int (iz 59)] (mu m 274 x1.toNat (m 262 16)) J P (fun m2 J3 P4 => PP P4 ∧ ((0 : Int) ≤ x1 ∧ (x1 : Int) < 16) ∧ Rn X (d + 4) 146 140 [some (.ref 262), some (.int (iz x1)), some (.int (iz 0))] [] (SS (mu m2 276 x1.toNat (m2 262 17)) J3 P4) (QV post))) : Rn X (d + 4) 146 112 [some (.ref 262), some (.int (iz x1)), none] [] (SS m J P) (QV post) := by
  refine s_aload_n (pc := 112) rfl rfl ?_
  refine s_getA (pc := 113) rfl ko_262 (po_262_28 hp) ?_
  refine s_iload_n (pc := 116) rfl rfl ?_
  refine s_aload_n (pc := 117) rfl rfl ?_
  refine s_getI (pc := 118) rfl ko_262 ?_
  obtain ⟨hb1, hw⟩ := hw
  refine s_iast (pc := 121) rfl ka_274 (by decide) hb1 ?_
  refine s_aload_n (pc := 122) rfl rfl ?_
  refine s_bipush (pc := 123) rfl (by decide) ?_
  refine s_cv (pc := 125) (d := (d + 3)) (t := []) rfl rfl (am_ca_v (ps := [.int (iz 59)]) rfl ko_262) (Nat.le_of_ble_eq_true rfl) (Cv.weak hw fun m2 J3 P4 hw => ?_)
  obtain ⟨hp6, hw⟩ := hw
  refine s_aload_n (pc := 128) rfl rfl ?_
  refine s_getA (pc := 129) rfl ko_262 (po_262_30 hp6) ?_
  refine s_iload_n (pc := 132) rfl rfl ?_
  refine s_aload_n (pc := 133) rfl rfl ?_
  refine s_getI (pc := 134) rfl ko_262 ?_
  obtain ⟨hb7, hw⟩ := hw
  refine s_iast (pc := 137) rfl ka_276 (by decide) hb7 ?_
  refine s_iconst (pc := 138) rfl ?_
  refine s_istore_n (pc := 139) (L' := [some (.ref 262), some (.int (iz x1)), some (.int (iz 0))]) rfl (Nat.le_of_ble_eq_true rfl) rfl ?_
  exact hw

set_option maxRecDepth 20000 in
set_option maxHeartbeats 4000000 in
theorem b_Mdl_readRule_140 {X : aX} {d : Nat} (x1 : Int) (x2 : Int)  (m : Mi) (J : Mj) (P : Mp) (hp : PP P) (post : Mi → Mj → Mp → Prop)
    (hw : Zr (x2) ∧ Zr (m 262 17) ∧ ((((m 262 17) ≤ x2) → post (mu m 262 15 ((m 262 15) + 1)) J P) ∧ (¬ ((m 262 17) ≤ x2) → ((0 : Int) ≤ x2 ∧ (x2 : Int) < 8) ∧ ((0 : Int) ≤ ((8 * x1) + x2) ∧ (((8 * x1) + x2) : Int) < 128) ∧ Rn X (d + 4) 146 140 [some (.ref 262), some (.int (iz x1)), some (.int (iz (x2 + 1)))] [] (SS m (mju J 277 ((8 * x1) + x2).toNat (J 266 x2.toNat)) P) (QV post)))) : Rn X (d + 4) 146 140 [some (.ref 262), some (.int (iz x1)), some (.int (iz x2))] [] (SS m J P) (QV post) := by
  refine s_iload_n (pc := 140) rfl rfl ?_
  refine s_aload_n (pc := 141) rfl rfl ?_
  refine s_getI (pc := 142) rfl ko_262 ?_
  obtain ⟨hz1, hw⟩ := hw
  obtain ⟨hz2, hw⟩ := hw
  refine s_ic_ge (pc := 145) (tgt := 171) rfl rfl hz1 hz2 (fun hc => ?_) (fun hc => ?_)
  · replace hw := hw.1 hc
    refine s_aload_n (pc := 171) rfl rfl ?_
    refine s_dup (pc := 172) rfl rfl ?_
    refine s_getI (pc := 173) rfl ko_262 ?_
    refine s_iconst (pc := 176) rfl ?_
    refine s_iadd (pc := 177) rfl ?_
    refine s_putI (pc := 178) rfl ko_262 ?_
    exact s_retv (pc := 181) rfl rfl hw
  · replace hw := hw.2 hc
    refine s_aload_n (pc := 148) rfl rfl ?_
    refine s_getA (pc := 149) rfl ko_262 (po_262_31 hp) ?_
    refine s_bipush (pc := 152) rfl (by decide) ?_
    refine s_iload_n (pc := 154) rfl rfl ?_
    refine s_imul (pc := 155) rfl ?_
    refine s_iload_n (pc := 156) rfl rfl ?_
    refine s_iadd (pc := 157) rfl ?_
    refine s_aload_n (pc := 158) rfl rfl ?_
    refine s_getA (pc := 159) rfl ko_262 (po_262_20 hp) ?_
    refine s_iload_n (pc := 162) rfl rfl ?_
    obtain ⟨hb3, hw⟩ := hw
    refine s_lald (pc := 163) rfl ka_266 (by decide) hb3 ?_
    obtain ⟨hb4, hw⟩ := hw
    refine s_last (pc := 164) rfl ka_277 (by decide) hb4 ?_
    refine s_iinc (pc := 165) (L' := [some (.ref 262), some (.int (iz x1)), some (.int (iz (x2 + 1)))]) rfl rfl (Nat.le_of_ble_eq_true rfl) rfl ?_
    refine s_goto (pc := 168) (tgt := 140) rfl rfl ?_
    exact hw

set_option maxRecDepth 20000 in
set_option maxHeartbeats 4000000 in
theorem b_Mdl_readTerm_0 {X : aX} {d : Nat} (x1 : Int)  (m : Mi) (J : Mj) (P : Mp) (hp : PP P) (post : Mi → Mj → Mp → Prop)
    (hw : Rn X (d + 3) 147 10 [some (.ref 262), some (.int (iz x1)), some (.int (iz (m 262 16))), some (.int (iz 0)), some (.int (iz 1)), none, none, none] [] (SS m J P) (QV post)) : Rn X (d + 3) 147 0 [some (.ref 262), some (.int (iz x1)), none, none, none, none, none, none] [] (SS m J P) (QV post) := by
  refine s_aload_n (pc := 0) rfl rfl ?_
  refine s_getI (pc := 1) rfl ko_262 ?_
  refine s_istore_n (pc := 4) (L' := [some (.ref 262), some (.int (iz x1)), some (.int (iz (m 262 16))), none, none, none, none, none]) rfl (Nat.le_of_ble_eq_true rfl) rfl ?_
  refine s_iconst (pc := 5) rfl ?_
  refine s_istore_n (pc := 6) (L' := [some (.ref 262), some (.int (iz x1)), some (.int (iz (m 262 16))), some (.int (iz 0)), none, none, none, none]) rfl (Nat.le_of_ble_eq_true rfl) rfl ?_
  refine s_iconst (pc := 7) rfl ?_
  refine s_istore (pc := 8) (L' := [some (.ref 262), some (.int (iz x1)), some (.int (iz (m 262 16))), some (.int (iz 0)), some (.int (iz 1)), none, none, none]) rfl (Nat.le_of_ble_eq_true rfl) rfl ?_
  exact hw

set_option maxRecDepth 20000 in
set_option maxHeartbeats 4000000 in
theorem b_Mdl_readTerm_10 {X : aX} {d : Nat} (x1 : Int) (x2 : Int) (x3 : Int) (x4 : Int)  (m : Mi) (J : Mj) (P : Mp) (hp : PP P) (post : Mi → Mj → Mp → Prop)
    (hw : Zr (x4) ∧ (((x4 = 0) → post m J P) ∧ (¬ (x4 = 0) → Zr (m 262 10) ∧ (((¬ (m 262 10) = 0) → post m J P) ∧ (¬ (¬ (m 262 10) = 0) → Zr (m 262 3) ∧ ((((m 262 3) = 2) → ((0 : Int) ≤ (m 262 16) ∧ ((m 262 16) : Int) < 2000) ∧ ((0 : Int) ≤ (m 262 16) ∧ ((m 262 16) : Int) < 2000) ∧ ((0 : Int) ≤ (m 262 16) ∧ ((m 262 16) : Int) < 2000) ∧ Zr ((mu (mu m 271 (m 262 16).toNat 0) 270 (m 262 16).toNat ((mu m 271 (m 262 16).toNat 0) 262 4)) 262 3) ∧ (((¬ ((mu (mu m 271 (m 262 16).toNat 0) 270 (m 262 16).toNat ((mu m 271 (m 262 16).toNat 0) 262 4)) 262 3) = 2) → ((0 : Int) ≤ (m 262 16) ∧ ((m 262 16) : Int) < 2000) ∧ Zr (((mu (mu (mu (mu m 271 (m 262 16).toNat 0) 270 (m 262 16).toNat ((mu m 271 (m 262 16).toNat 0) 262 4)) 269 (m 262 16).toNat ((-1))) 262 16 (((mu (mu (mu m 271 (m 262 16).toNat 0) 270 (m 262 16).toNat ((mu m 271 (m 262 16).toNat 0) 262 4)) 269 (m 262 16).toNat ((-1))) 262 16) + 1)) 262 16) - x2) ∧ ((((((mu (mu (mu (mu m 271 (m 262 16).toNat 0) 270 (m 262 16).toNat ((mu m 271 (m 262 16).toNat 0) 262 4)) 269 (m 262 16).toNat ((-1))) 262 16 (((mu (mu (mu m 271 (m 262 16).toNat 0) 270 (m 262 16).toNat ((mu m 271 (m 262 16).toNat 0) 262 4)) 269 (m 262 16).toNat ((-1))) 262 16) + 1)) 262 16) - x2) ≤ 40) → Rn X (d + 3) 147 133 [some (.ref 262), some (.int (iz x1)), some (.int (iz x2)), some (.int (iz x3)), some (.int (iz x4)), some (.int (iz (m 262 16))), none, none] [] (SS (mu (mu (mu (mu m 271 (m 262 16).toNat 0) 270 (m 262 16).toNat ((mu m 271 (m 262 16).toNat 0) 262 4)) 269 (m 262 16).toNat ((-1))) 262 16 (((mu (mu (mu m 271 (m 262 16).toNat 0) 270 (m 262 16).toNat ((mu m 271 (m 262 16).toNat 0) 262 4)) 269 (m 262 16).toNat ((-1))) 262 16) + 1)) (mju J 265 (m 262 16).toNat (J 262 7)) P) (QV post)) ∧ (¬ ((((mu (mu (mu (mu m 271 (m 262 16).toNat 0) 270 (m 262 16).toNat ((mu m 271 (m 262 16).toNat 0) 262 4)) 269 (m 262 16).toNat ((-1))) 262 16 (((mu (mu (mu m 271 (m 262 16).toNat 0) 270 (m 262 16).toNat ((mu m 271 (m 262 16).toNat 0) 262 4)) 269 (m 262 16).toNat ((-1))) 262 16) + 1)) 262 16) - x2) ≤ 40) → Cv X (d + 2) 143 [.ref 262, .int (iz 3), .int (iz ((mu (mu (mu (mu m 271 (m 262 16).toNat 0) 270 (m 262 16).toNat ((mu m 271 (m 262 16).toNat 0) 262 4)) 269 (m 262 16).toNat ((-1))) 262 16 (((mu (mu (mu m 271 (m 262 16).toNat 0) 270 (m 262 16).toNat ((mu m 271 (m 262 16).toNat 0) 262 4)) 269 (m 262 16).toNat ((-1))) 262 16) + 1)) 262 4))] (mu (mu (mu (mu m 271 (m 262 16).toNat 0) 270 (m 262 16).toNat ((mu m 271 (m 262 16).toNat 0) 262 4)) 269 (m 262 16).toNat ((-1))) 262 16 (((mu (mu (mu m 271 (m 262 16).toNat 0) 270 (m 262 16).toNat ((mu m 271 (m 262 16).toNat 0) 262 4)) 269 (m 262 16).toNat ((-1))) 262 16) + 1)) (mju J 265 (m 262 16).toNat (J 262 7)) P (fun m10 J11 P12 => PP P12 ∧ Rn X (d + 3) 147 133 [some (.ref 262), some (.int (iz x1)), some (.int (iz x2)), some (.int (iz x3)), some (.int (iz x4)), some (.int (iz (m 262 16))), none, none] [] (SS m10 J11 P12) (QV post))))) ∧ (¬ (¬ ((mu (mu m 271 (m 262 16).toNat 0) 270 (m 262 16).toNat ((mu m 271 (m 262 16).toNat 0) 262 4)) 262 3) = 2) → Ci X (d + 2) 148 [.ref 262, .int (iz x1)] (mu (mu m 271 (m 262 16).toNat 0) 270 (m 262 16).toNat ((mu m 271 (m 262 16).toNat 0) 262 4)) (mju J 265 (m 262 16).toNat (J 262 7)) P (fun z18 m15 J16 P17 => PP P17 ∧ ((0 : Int) ≤ (m 262 16) ∧ ((m 262 16) : Int) < 2000) ∧ Zr (((mu (mu m15 269 (m 262 16).toNat z18) 262 16 (((mu m15 269 (m 262 16).toNat z18) 262 16) + 1)) 262 16) - x2) ∧ ((((((mu (mu m15 269 (m 262 16).toNat z18) 262 16 (((mu m15 269 (m 262 16).toNat z18) 262 16) + 1)) 262 16) - x2) ≤ 40) → Rn X (d + 3) 147 133 [some (.ref 262), some (.int (iz x1)), some (.int (iz x2)), some (.int (iz x3)), some (.int (iz x4)), some (.int (iz (m 262 16))), none, none] [] (SS (mu (mu m15 269 (m 262 16).toNat z18) 262 16 (((mu m15 269 (m 262 16).toNat z18) 262 16) + 1)) J16 P17) (QV post)) ∧ (¬ ((((mu (mu m15 269 (m 262 16).toNat z18) 262 16 (((mu m15 269 (m 262 16).toNat z18) 262 16) + 1)) 262 16) - x2) ≤ 40) → Cv X (d + 2) 143 [.ref 262, .int (iz 3), .int (iz ((mu (mu m15 269 (m 262 16).toNat z18) 262 16 (((mu m15 269 (m 262 16).toNat z18) 262 16) + 1)) 262 4))] (mu (mu m15 269 (m 262 16).toNat z18) 262 16 (((mu m15 269 (m 262 16).toNat z18) 262 16) + 1)) J16 P17 (fun m22 J23 P24 => PP P24 ∧ Rn X (d + 3) 147 133 [some (.ref 262), some (.int (iz x1)), some (.int (iz x2)), some (.int (iz x3)), some (.int (iz x4)), some (.int (iz (m 262 16))), none, none] [] (SS m22 J23 P24) (QV post)))))))) ∧ (¬ ((m 262 3) = 2) → Zr (m 262 3) ∧ ((((m 262 3) = 1) → ((0 : Int) ≤ (m 262 16) ∧ ((m 262 16) : Int) < 2000) ∧ ((0 : Int) ≤ (m 262 16) ∧ ((m 262 16) : Int) < 2000) ∧ ((0 : Int) ≤ (m 262 16) ∧ ((m 262 16) : Int) < 2000) ∧ Zr ((mu (mu m 271 (m 262 16).toNat 0) 270 (m 262 16).toNat ((mu m 271 (m 262 16).toNat 0) 262 4)) 262 3) ∧ (((¬ ((mu (mu m 271 (m 262 16).toNat 0) 270 (m 262 16).toNat ((mu m 271 (m 262 16).toNat 0) 262 4)) 262 3) = 2) → ((0 : Int) ≤ (m 262 16) ∧ ((m 262 16) : Int) < 2000) ∧ Zr (((mu (mu (mu (mu m 271 (m 262 16).toNat 0) 270 (m 262 16).toNat ((mu m 271 (m 262 16).toNat 0) 262 4)) 269 (m 262 16).toNat ((-1))) 262 16 (((mu (mu (mu m 271 (m 262 16).toNat 0) 270 (m 262 16).toNat ((mu m 271 (m 262 16).toNat 0) 262 4)) 269 (m 262 16).toNat ((-1))) 262 16) + 1)) 262 16) - x2) ∧ ((((((mu (mu (mu (mu m 271 (m 262 16).toNat 0) 270 (m 262 16).toNat ((mu m 271 (m 262 16).toNat 0) 262 4)) 269 (m 262 16).toNat ((-1))) 262 16 (((mu (mu (mu m 271 (m 262 16).toNat 0) 270 (m 262 16).toNat ((mu m 271 (m 262 16).toNat 0) 262 4)) 269 (m 262 16).toNat ((-1))) 262 16) + 1)) 262 16) - x2) ≤ 40) → Rn X (d + 3) 147 133 [some (.ref 262), some (.int (iz x1)), some (.int (iz x2)), some (.int (iz x3)), some (.int (iz x4)), some (.int (iz (m 262 16))), none, none] [] (SS (mu (mu (mu (mu m 271 (m 262 16).toNat 0) 270 (m 262 16).toNat ((mu m 271 (m 262 16).toNat 0) 262 4)) 269 (m 262 16).toNat ((-1))) 262 16 (((mu (mu (mu m 271 (m 262 16).toNat 0) 270 (m 262 16).toNat ((mu m 271 (m 262 16).toNat 0) 262 4)) 269 (m 262 16).toNat ((-1))) 262 16) + 1)) (mju J 265 (m 262 16).toNat (J 262 7)) P) (QV post)) ∧ (¬ ((((mu (mu (mu (mu m 271 (m 262 16).toNat 0) 270 (m 262 16).toNat ((mu m 271 (m 262 16).toNat 0) 262 4)) 269 (m 262 16).toNat ((-1))) 262 16 (((mu (mu (mu m 271 (m 262 16).toNat 0) 270 (m 262 16).toNat ((mu m 271 (m 262 16).toNat 0) 262 4)) 269 (m 262 16).toNat ((-1))) 262 16) + 1)) 262 16) - x2) ≤ 40) → Cv X (d + 2) 143 [.ref 262, .int (iz 3), .int (iz ((mu (mu (mu (mu m 271 (m 262 16).toNat 0) 270 (m 262 16).toNat ((mu m 271 (m 262 16).toNat 0) 262 4)) 269 (m 262 16).toNat ((-1))) 262 16 (((mu (mu (mu m 271 (m 262 16).toNat 0) 270 (m 262 16).toNat ((mu m 271 (m 262 16).toNat 0) 262 4)) 269 (m 262 16).toNat ((-1))) 262 16) + 1)) 262 4))] (mu (mu (mu (mu m 271 (m 262 16).toNat 0) 270 (m 262 16).toNat ((mu m 271 (m 262 16).toNat 0) 262 4)) 269 (m 262 16).toNat ((-1))) 262 16 (((mu (mu (mu m 271 (m 262 16).toNat 0) 270 (m 262 16).toNat ((mu m 271 (m 262 16).toNat 0) 262 4)) 269 (m 262 16).toNat ((-1))) 262 16) + 1)) (mju J 265 (m 262 16).toNat (J 262 7)) P (fun m34 J35 P36 => PP P36 ∧ Rn X (d + 3) 147 133 [some (.ref 262), some (.int (iz x1)), some (.int (iz x2)), some (.int (iz x3)), some (.int (iz x4)), some (.int (iz (m 262 16))), none, none] [] (SS m34 J35 P36) (QV post))))) ∧ (¬ (¬ ((mu (mu m 271 (m 262 16).toNat 0) 270 (m 262 16).toNat ((mu m 271 (m 262 16).toNat 0) 262 4)) 262 3) = 2) → Ci X (d + 2) 148 [.ref 262, .int (iz x1)] (mu (mu m 271 (m 262 16).toNat 0) 270 (m 262 16).toNat ((mu m 271 (m 262 16).toNat 0) 262 4)) (mju J 265 (m 262 16).toNat (J 262 7)) P (fun z42 m39 J40 P41 => PP P41 ∧ ((0 : Int) ≤ (m 262 16) ∧ ((m 262 16) : Int) < 2000) ∧ Zr (((mu (mu m39 269 (m 262 16).toNat z42) 262 16 (((mu m39 269 (m 262 16).toNat z42) 262 16) + 1)) 262 16) - x2) ∧ ((((((mu (mu m39 269 (m 262 16).toNat z42) 262 16 (((mu m39 269 (m 262 16).toNat z42) 262 16) + 1)) 262 16) - x2) ≤ 40) → Rn X (d + 3) 147 133 [some (.ref 262), some (.int (iz x1)), some (.int (iz x2)), some (.int (iz x3)), some (.int (iz x4)), some (.int (iz (m 262 16))), none, none] [] (SS (mu (mu m39 269 (m 262 16).toNat z42) 262 16 (((mu m39 269 (m 262 16).toNat z42) 262 16) + 1)) J40 P41) (QV post)) ∧ (¬ ((((mu (mu m39 269 (m 262 16).toNat z42) 262 16 (((mu m39 269 (m 262 16).toNat z42) 262 16) + 1)) 262 16) - x2) ≤ 40) → Cv X (d + 2) 143 [.ref 262, .int (iz 3), .int (iz ((mu (mu m39 269 (m 262 16).toNat z42) 262 16 (((mu m39 269 (m 262 16).toNat z42) 262 16) + 1)) 262 4))] (mu (mu m39 269 (m 262 16).toNat z42) 262 16 (((mu m39 269 (m 262 16).toNat z42) 262 16) + 1)) J40 P41 (fun m46 J47 P48 => PP P48 ∧ Rn X (d + 3) 147 133 [some (.ref 262), some (.int (iz x1)), some (.int (iz x2)), some (.int (iz x3)), some (.int (iz x4)), some (.int (iz (m 262 16))), none, none] [] (SS m46 J47 P48) (QV post)))))))) ∧ (¬ ((m 262 3) = 1) → Cv X (d + 2) 142 [.ref 262] m J P (fun m51 J52 P53 => PP P53 ∧ post m51 J52 P53)))))))))) : Rn X (d + 3) 147 10 [some (.ref 262), some (.int (iz x1)), some (.int (iz x2)), some (.int (iz x3)), some (.int (iz x4)), none, none, none] [] (SS m J P) (QV post) := by
  refine s_iload (pc := 10) rfl rfl ?_
  obtain ⟨hz1, hw⟩ := hw
  refine s_if_eq (pc := 12) (tgt := 296) rfl rfl hz1 (fun hc => ?_) (fun hc => ?_)
  · replace hw := hw.1 hc
    exact s_retv (pc := 296) rfl rfl hw
  · replace hw := hw.2 hc
    refine s_aload_n (pc := 15) rfl rfl ?_
    refine s_getI (pc := 16) rfl ko_262 ?_
    obtain ⟨hz2, hw⟩ := hw
    refine s_if_ne (pc := 19) (tgt := 296) rfl rfl hz2 (fun hc => ?_) (fun hc => ?_)
    · replace hw := hw.1 hc
      exact s_retv (pc := 296) rfl rfl hw
    · replace hw := hw.2 hc
      refine s_aload_n (pc := 22) rfl rfl ?_
      refine s_getI (pc := 23) rfl ko_262 ?_
      refine s_iconst (pc := 26) rfl ?_
      obtain ⟨hz3, hw⟩ := hw
      refine s_ic_eq (pc := 27) (tgt := 43) rfl rfl hz3 (by decide) (fun hc => ?_) (fun hc => ?_)
      · replace hw := hw.1 hc
        refine s_aload_n (pc := 43) rfl rfl ?_
        refine s_getI (pc := 44) rfl ko_262 ?_
        refine s_istore (pc := 47) (L' := [some (.ref 262), some (.int (iz x1)), some (.int (iz x2)), some (.int (iz x3)), some (.int (iz x4)), some (.int (iz (m 262 16))), none, none]) rfl (Nat.le_of_ble_eq_true rfl) rfl ?_
        refine s_aload_n (pc := 49) rfl rfl ?_
        refine s_getA (pc := 50) rfl ko_262 (po_262_25 hp) ?_
        refine s_iload (pc := 53) rfl rfl ?_
        refine s_iconst (pc := 55) rfl ?_
        obtain ⟨hb4, hw⟩ := hw
        refine s_iast (pc := 56) rfl ka_271 (by decide) hb4 ?_
        refine s_aload_n (pc := 57) rfl rfl ?_
        refine s_getA (pc := 58) rfl ko_262 (po_262_24 hp) ?_
        refine s_iload (pc := 61) rfl rfl ?_
        refine s_aload_n (pc := 63) rfl rfl ?_
        refine s_getI (pc := 64) rfl ko_262 ?_
        obtain ⟨hb5, hw⟩ := hw
        refine s_iast (pc := 67) rfl ka_270 (by decide) hb5 ?_
        refine s_aload_n (pc := 68) rfl rfl ?_
        refine s_getA (pc := 69) rfl ko_262 (po_262_19 hp) ?_
        refine s_iload (pc := 72) rfl rfl ?_
        refine s_aload_n (pc := 74) rfl rfl ?_
        refine s_getJ (pc := 75) rfl ko_262 ?_
        obtain ⟨hb6, hw⟩ := hw
        refine s_last (pc := 78) rfl ka_265 (by decide) hb6 ?_
        refine s_aload_n (pc := 79) rfl rfl ?_
        refine s_getA (pc := 80) rfl ko_262 (po_262_23 hp) ?_
        refine s_iload (pc := 83) rfl rfl ?_
        refine s_aload_n (pc := 85) rfl rfl ?_
        refine s_getI (pc := 86) rfl ko_262 ?_
        refine s_iconst (pc := 89) rfl ?_
        obtain ⟨hz7, hw⟩ := hw
        refine s_ic_ne (pc := 90) (tgt := 101) rfl rfl hz7 (by decide) (fun hc => ?_) (fun hc => ?_)
        · replace hw := hw.1 hc
          refine s_iconst (pc := 101) rfl ?_
          obtain ⟨hb8, hw⟩ := hw
          refine s_iast (pc := 102) rfl ka_269 (by decide) hb8 ?_
          refine s_aload_n (pc := 103) rfl rfl ?_
          refine s_dup (pc := 104) rfl rfl ?_
          refine s_getI (pc := 105) rfl ko_262 ?_
          refine s_iconst (pc := 108) rfl ?_
          refine s_iadd (pc := 109) rfl ?_
          refine s_putI (pc := 110) rfl ko_262 ?_
          refine s_aload_n (pc := 113) rfl rfl ?_
          refine s_getI (pc := 114) rfl ko_262 ?_
          refine s_iload_n (pc := 117) rfl rfl ?_
          refine s_isub (pc := 118) rfl ?_
          refine s_bipush (pc := 119) rfl (by decide) ?_
          obtain ⟨hz9, hw⟩ := hw
          refine s_ic_le (pc := 121) (tgt := 133) rfl rfl hz9 (by decide) (fun hc => ?_) (fun hc => ?_)
          · replace hw := hw.1 hc
            exact hw
          · replace hw := hw.2 hc
            refine s_aload_n (pc := 124) rfl rfl ?_
            refine s_iconst (pc := 125) rfl ?_
            refine s_aload_n (pc := 126) rfl rfl ?_
            refine s_getI (pc := 127) rfl ko_262 ?_
            refine s_cv (pc := 130) (d := (d + 2)) (t := []) rfl rfl (am_ca_v (ps := [.int (iz ((mu (mu (mu (mu m 271 (m 262 16).toNat 0) 270 (m 262 16).toNat ((mu m 271 (m 262 16).toNat 0) 262 4)) 269 (m 262 16).toNat ((-1))) 262 16 (((mu (mu (mu m 271 (m 262 16).toNat 0) 270 (m 262 16).toNat ((mu m 271 (m 262 16).toNat 0) 262 4)) 269 (m 262 16).toNat ((-1))) 262 16) + 1)) 262 4)), .int (iz 3)]) rfl ko_262) (Nat.le_of_ble_eq_true rfl) (Cv.weak hw fun m10 J11 P12 hw => ?_)
            obtain ⟨hp14, hw⟩ := hw
            exact hw
        · replace hw := hw.2 hc
          refine s_aload_n (pc := 93) rfl rfl ?_
          refine s_iload_n (pc := 94) rfl rfl ?_
          refine s_ci (pc := 95) (d := (d + 2)) (t := [.int (iz (m 262 16)), .ref 269]) rfl rfl (am_ca_v (ps := [.int (iz x1)]) rfl ko_262) (Nat.le_of_ble_eq_true rfl) (Ci.weak hw fun z18 m15 J16 P17 hw => ?_)
          obtain ⟨hp19, hw⟩ := hw
          refine s_goto (pc := 98) (tgt := 102) rfl rfl ?_
          obtain ⟨hb20, hw⟩ := hw
          refine s_iast (pc := 102) rfl ka_269 (by decide) hb20 ?_
          refine s_aload_n (pc := 103) rfl rfl ?_
          refine s_dup (pc := 104) rfl rfl ?_
          refine s_getI (pc := 105) rfl ko_262 ?_
          refine s_iconst (pc := 108) rfl ?_
          refine s_iadd (pc := 109) rfl ?_
          refine s_putI (pc := 110) rfl ko_262 ?_
          refine s_aload_n (pc := 113) rfl rfl ?_
          refine s_getI (pc := 114) rfl ko_262 ?_
          refine s_iload_n (pc := 117) rfl rfl ?_
          refine s_isub (pc := 118) rfl ?_
          refine s_bipush (pc := 119) rfl (by decide) ?_
          obtain ⟨hz21, hw⟩ := hw
          refine s_ic_le (pc := 121) (tgt := 133) rfl rfl hz21 (by decide) (fun hc => ?_) (fun hc => ?_)
          · replace hw := hw.1 hc
            exact hw
          · replace hw := hw.2 hc
            refine s_aload_n (pc := 124) rfl rfl ?_
            refine s_iconst (pc := 125) rfl ?_
            refine s_aload_n (pc := 126) rfl rfl ?_
            refine s_getI (pc := 127) rfl ko_262 ?_
            refine s_cv (pc := 130) (d := (d + 2)) (t := []) rfl rfl (am_ca_v (ps := [.int (iz ((mu (mu m15 269 (m 262 16).toNat z18) 262 16 (((mu m15 269 (m 262 16).toNat z18) 262 16) + 1)) 262 4)), .int (iz 3)]) rfl ko_262) (Nat.le_of_ble_eq_true rfl) (Cv.weak hw fun m22 J23 P24 hw => ?_)
            obtain ⟨hp26, hw⟩ := hw
            exact hw
      · replace hw := hw.2 hc
        refine s_aload_n (pc := 30) rfl rfl ?_
        refine s_getI (pc := 31) rfl ko_262 ?_
        refine s_iconst (pc := 34) rfl ?_
        obtain ⟨hz27, hw⟩ := hw
        refine s_ic_eq (pc := 35) (tgt := 43) rfl rfl hz27 (by decide) (fun hc => ?_) (fun hc => ?_)
        · replace hw := hw.1 hc
          refine s_aload_n (pc := 43) rfl rfl ?_
          refine s_getI (pc := 44) rfl ko_262 ?_
          refine s_istore (pc := 47) (L' := [some (.ref 262), some (.int (iz x1)), some (.int (iz x2)), some (.int (iz x3)), some (.int (iz x4)), some (.int (iz (m 262 16))), none, none]) rfl (Nat.le_of_ble_eq_true rfl) rfl ?_
          refine s_aload_n (pc := 49) rfl rfl ?_
          refine s_getA (pc := 50) rfl ko_262 (po_262_25 hp) ?_
          refine s_iload (pc := 53) rfl rfl ?_
          refine s_iconst (pc := 55) rfl ?_
          obtain ⟨hb28, hw⟩ := hw
          refine s_iast (pc := 56) rfl ka_271 (by decide) hb28 ?_
          refine s_aload_n (pc := 57) rfl rfl ?_
          refine s_getA (pc := 58) rfl ko_262 (po_262_24 hp) ?_
          refine s_iload (pc := 61) rfl rfl ?_
          refine s_aload_n (pc := 63) rfl rfl ?_
          refine s_getI (pc := 64) rfl ko_262 ?_
          obtain ⟨hb29, hw⟩ := hw
          refine s_iast (pc := 67) rfl ka_270 (by decide) hb29 ?_
          refine s_aload_n (pc := 68) rfl rfl ?_
          refine s_getA (pc := 69) rfl ko_262 (po_262_19 hp) ?_
          refine s_iload (pc := 72) rfl rfl ?_
          refine s_aload_n (pc := 74) rfl rfl ?_
          refine s_getJ (pc := 75) rfl ko_262 ?_
          obtain ⟨hb30, hw⟩ := hw
          refine s_last (pc := 78) rfl ka_265 (by decide) hb30 ?_
          refine s_aload_n (pc := 79) rfl rfl ?_
          refine s_getA (pc := 80) rfl ko_262 (po_262_23 hp) ?_
          refine s_iload (pc := 83) rfl rfl ?_
          refine s_aload_n (pc := 85) rfl rfl ?_
          refine s_getI (pc := 86) rfl ko_262 ?_
          refine s_iconst (pc := 89) rfl ?_
          obtain ⟨hz31, hw⟩ := hw
          refine s_ic_ne (pc := 90) (tgt := 101) rfl rfl hz31 (by decide) (fun hc => ?_) (fun hc => ?_)
          · replace hw := hw.1 hc
            refine s_iconst (pc := 101) rfl ?_
            obtain ⟨hb32, hw⟩ := hw
            refine s_iast (pc := 102) rfl ka_269 (by decide) hb32 ?_
            refine s_aload_n (pc := 103) rfl rfl ?_
            refine s_dup (pc := 104) rfl rfl ?_
            refine s_getI (pc := 105) rfl ko_262 ?_
            refine s_iconst (pc := 108) rfl ?_
            refine s_iadd (pc := 109) rfl ?_
            refine s_putI (pc := 110) rfl ko_262 ?_
            refine s_aload_n (pc := 113) rfl rfl ?_
            refine s_getI (pc := 114) rfl ko_262 ?_
            refine s_iload_n (pc := 117) rfl rfl ?_
            refine s_isub (pc := 118) rfl ?_
            refine s_bipush (pc := 119) rfl (by decide) ?_
            obtain ⟨hz33, hw⟩ := hw
            refine s_ic_le (pc := 121) (tgt := 133) rfl rfl hz33 (by decide) (fun hc => ?_) (fun hc => ?_)
            · replace hw := hw.1 hc
              exact hw
            · replace hw := hw.2 hc
              refine s_aload_n (pc := 124) rfl rfl ?_
              refine s_iconst (pc := 125) rfl ?_
              refine s_aload_n (pc := 126) rfl rfl ?_
              refine s_getI (pc := 127) rfl ko_262 ?_
              refine s_cv (pc := 130) (d := (d + 2)) (t := []) rfl rfl (am_ca_v (ps := [.int (iz ((mu (mu (mu (mu m 271 (m 262 16).toNat 0) 270 (m 262 16).toNat ((mu m 271 (m 262 16).toNat 0) 262 4)) 269 (m 262 16).toNat ((-1))) 262 16 (((mu (mu (mu m 271 (m 262 16).toNat 0) 270 (m 262 16).toNat ((mu m 271 (m 262 16).toNat 0) 262 4)) 269 (m 262 16).toNat ((-1))) 262 16) + 1)) 262 4)), .int (iz 3)]) rfl ko_262) (Nat.le_of_ble_eq_true rfl) (Cv.weak hw fun m34 J35 P36 hw => ?_)
              obtain ⟨hp38, hw⟩ := hw
              exact hw
          · replace hw := hw.2 hc
            refine s_aload_n (pc := 93) rfl rfl ?_
            refine s_iload_n (pc := 94) rfl rfl ?_
            refine s_ci (pc := 95) (d := (d + 2)) (t := [.int (iz (m 262 16)), .ref 269]) rfl rfl (am_ca_v (ps := [.int (iz x1)]) rfl ko_262) (Nat.le_of_ble_eq_true rfl) (Ci.weak hw fun z42 m39 J40 P41 hw => ?_)
            obtain ⟨hp43, hw⟩ := hw
            refine s_goto (pc := 98) (tgt := 102) rfl rfl ?_
            obtain ⟨hb44, hw⟩ := hw
            refine s_iast (pc := 102) rfl ka_269 (by decide) hb44 ?_
            refine s_aload_n (pc := 103) rfl rfl ?_
            refine s_dup (pc := 104) rfl rfl ?_
            refine s_getI (pc := 105) rfl ko_262 ?_
            refine s_iconst (pc := 108) rfl ?_
            refine s_iadd (pc := 109) rfl ?_
            refine s_putI (pc := 110) rfl ko_262 ?_
            refine s_aload_n (pc := 113) rfl rfl ?_
            refine s_getI (pc := 114) rfl ko_262 ?_
            refine s_iload_n (pc := 117) rfl rfl ?_
            refine s_isub (pc := 118) rfl ?_
            refine s_bipush (pc := 119) rfl (by decide) ?_
            obtain ⟨hz45, hw⟩ := hw
            refine s_ic_le (pc := 121) (tgt := 133) rfl rfl hz45 (by decide) (fun hc => ?_) (fun hc => ?_)
            · replace hw := hw.1 hc
              exact hw
            · replace hw := hw.2 hc
              refine s_aload_n (pc := 124) rfl rfl ?_
              refine s_iconst (pc := 125) rfl ?_
              refine s_aload_n (pc := 126) rfl rfl ?_
              refine s_getI (pc := 127) rfl ko_262 ?_
              refine s_cv (pc := 130) (d := (d + 2)) (t := []) rfl rfl (am_ca_v (ps := [.int (iz ((mu (mu m39 269 (m 262 16).toNat z42) 262 16 (((mu m39 269 (m 262 16).toNat z42) 262 16) + 1)) 262 4)), .int (iz 3)]) rfl ko_262) (Nat.le_of_ble_eq_true rfl) (Cv.weak hw fun m46 J47 P48 hw => ?_)
              obtain ⟨hp50, hw⟩ := hw
              exact hw
        · replace hw := hw.2 hc
          refine s_aload_n (pc := 38) rfl rfl ?_
          refine s_cv (pc := 39) (d := (d + 2)) (t := []) rfl rfl (am_ca_v (ps := []) rfl ko_262) (Nat.le_of_ble_eq_true rfl) (Cv.weak hw fun m51 J52 P53 hw => ?_)
          obtain ⟨hp55, hw⟩ := hw
          exact s_retv (pc := 42) rfl rfl hw

set_option maxRecDepth 20000 in
set_option maxHeartbeats 4000000 in
theorem b_Mdl_readTerm_133 {X : aX} {d : Nat} (x1 : Int) (x2 : Int) (x3 : Int) (x4 : Int) (x5 : Int)  (m : Mi) (J : Mj) (P : Mp) (hp : PP P) (post : Mi → Mj → Mp → Prop)
    (hw : Zr (m 262 10) ∧ ((((m 262 10) ≤ 0) → Zr (m 262 3) ∧ (((¬ (m 262 3) = 1) → Cv X (d + 2) 138 [.ref 262] m J P (fun m3 J4 P5 => PP P5 ∧ Rn X (d + 3) 147 203 [some (.ref 262), some (.int (iz x1)), some (.int (iz x2)), some (.int (iz x3)), some (.int (iz x4)), some (.int (iz x5)), some (.int (iz 0)), some (.int (iz 1))] [] (SS m3 J4 P5) (QV post))) ∧ (¬ (¬ (m 262 3) = 1) → Cv X (d + 2) 138 [.ref 262] m J P (fun m8 J9 P10 => PP P10 ∧ Ci X (d + 2) 144 [.ref 262, .int (iz 40)] m8 J9 P10 (fun z16 m13 J14 P15 => PP P15 ∧ Zr (z16) ∧ (((z16 = 0) → Rn X (d + 3) 147 203 [some (.ref 262), some (.int (iz x1)), some (.int (iz x2)), some (.int (iz x3)), some (.int (iz x4)), some (.int (iz x5)), some (.int (iz 1)), some (.int (iz 1))] [] (SS m13 J14 P15) (QV post)) ∧ (¬ (z16 = 0) → ((0 : Int) ≤ x3 ∧ (x3 : Int) < 48) ∧ ((0 : Int) ≤ x5 ∧ (x5 : Int) < 2000) ∧ Cv X (d + 2) 138 [.ref 262] (mu (mu m13 278 x3.toNat x5) 271 x5.toNat 1) J14 P15 (fun m21 J22 P23 => PP P23 ∧ Rn X (d + 3) 147 10 [some (.ref 262), some (.int (iz x1)), some (.int (iz x2)), some (.int (iz (x3 + 1))), some (.int (iz x4)), none, none, none] [] (SS m21 J22 P23) (QV post))))))))) ∧ (¬ ((m 262 10) ≤ 0) → post m J P))) : Rn X (d + 3) 147 133 [some (.ref 262), some (.int (iz x1)), some (.int (iz x2)), some (.int (iz x3)), some (.int (iz x4)), some (.int (iz x5)), none, none] [] (SS m J P) (QV post) := by
  refine s_aload_n (pc := 133) rfl rfl ?_
  refine s_getI (pc := 134) rfl ko_262 ?_
  obtain ⟨hz1, hw⟩ := hw
  refine s_if_le (pc := 137) (tgt := 141) rfl rfl hz1 (fun hc => ?_) (fun hc => ?_)
  · replace hw := hw.1 hc
    refine s_aload_n (pc := 141) rfl rfl ?_
    refine s_getI (pc := 142) rfl ko_262 ?_
    refine s_iconst (pc := 145) rfl ?_
    obtain ⟨hz2, hw⟩ := hw
    refine s_ic_ne (pc := 146) (tgt := 153) rfl rfl hz2 (by decide) (fun hc => ?_) (fun hc => ?_)
    · replace hw := hw.1 hc
      refine s_iconst (pc := 153) rfl ?_
      refine s_istore (pc := 154) (L' := [some (.ref 262), some (.int (iz x1)), some (.int (iz x2)), some (.int (iz x3)), some (.int (iz x4)), some (.int (iz x5)), some (.int (iz 0)), none]) rfl (Nat.le_of_ble_eq_true rfl) rfl ?_
      refine s_aload_n (pc := 156) rfl rfl ?_
      refine s_cv (pc := 157) (d := (d + 2)) (t := []) rfl rfl (am_ca_v (ps := []) rfl ko_262) (Nat.le_of_ble_eq_true rfl) (Cv.weak hw fun m3 J4 P5 hw => ?_)
      obtain ⟨hp7, hw⟩ := hw
      refine s_iload (pc := 160) rfl rfl ?_
      refine s_if_eq (pc := 162) (tgt := 200) rfl rfl (by decide) (fun hc => ?_) (fun hc => ?_)
      rotate_left
      · exact absurd hc (by decide)
      refine s_iconst (pc := 200) rfl ?_
      refine s_istore (pc := 201) (L' := [some (.ref 262), some (.int (iz x1)), some (.int (iz x2)), some (.int (iz x3)), some (.int (iz x4)), some (.int (iz x5)), some (.int (iz 0)), some (.int (iz 1))]) rfl (Nat.le_of_ble_eq_true rfl) rfl ?_
      exact hw
    · replace hw := hw.2 hc
      refine s_iconst (pc := 149) rfl ?_
      refine s_goto (pc := 150) (tgt := 154) rfl rfl ?_
      refine s_istore (pc := 154) (L' := [some (.ref 262), some (.int (iz x1)), some (.int (iz x2)), some (.int (iz x3)), some (.int (iz x4)), some (.int (iz x5)), some (.int (iz 1)), none]) rfl (Nat.le_of_ble_eq_true rfl) rfl ?_
      refine s_aload_n (pc := 156) rfl rfl ?_
      refine s_cv (pc := 157) (d := (d + 2)) (t := []) rfl rfl (am_ca_v (ps := []) rfl ko_262) (Nat.le_of_ble_eq_true rfl) (Cv.weak hw fun m8 J9 P10 hw => ?_)
      obtain ⟨hp12, hw⟩ := hw
      refine s_iload (pc := 160) rfl rfl ?_
      refine s_if_eq (pc := 162) (tgt := 200) rfl rfl (by decide) (fun hc => ?_) (fun hc => ?_)
      · exact absurd hc (by decide)
      refine s_aload_n (pc := 165) rfl rfl ?_
      refine s_bipush (pc := 166) rfl (by decide) ?_
      refine s_ci (pc := 168) (d := (d + 2)) (t := []) rfl rfl (am_ca_v (ps := [.int (iz 40)]) rfl ko_262) (Nat.le_of_ble_eq_true rfl) (Ci.weak hw fun z16 m13 J14 P15 hw => ?_)
      obtain ⟨hp17, hw⟩ := hw
      obtain ⟨hz18, hw⟩ := hw
      refine s_if_eq (pc := 171) (tgt := 200) rfl rfl hz18 (fun hc => ?_) (fun hc => ?_)
      · replace hw := hw.1 hc
        refine s_iconst (pc := 200) rfl ?_
        refine s_istore (pc := 201) (L' := [some (.ref 262), some (.int (iz x1)), some (.int (iz x2)), some (.int (iz x3)), some (.int (iz x4)), some (.int (iz x5)), some (.int (iz 1)), some (.int (iz 1))]) rfl (Nat.le_of_ble_eq_true rfl) rfl ?_
        exact hw
      · replace hw := hw.2 hc
        refine s_aload_n (pc := 174) rfl rfl ?_
        refine s_getA (pc := 175) rfl ko_262 (po_262_32 hp17) ?_
        refine s_iload_n (pc := 178) rfl rfl ?_
        refine s_iload (pc := 179) rfl rfl ?_
        obtain ⟨hb19, hw⟩ := hw
        refine s_iast (pc := 181) rfl ka_278 (by decide) hb19 ?_
        refine s_iinc (pc := 182) (L' := [some (.ref 262), some (.int (iz x1)), some (.int (iz x2)), some (.int (iz (x3 + 1))), some (.int (iz x4)), some (.int (iz x5)), some (.int (iz 1)), none]) rfl rfl (Nat.le_of_ble_eq_true rfl) rfl ?_
        refine s_aload_n (pc := 185) rfl rfl ?_
        refine s_getA (pc := 186) rfl ko_262 (po_262_25 hp17) ?_
        refine s_iload (pc := 189) rfl rfl ?_
        refine s_iconst (pc := 191) rfl ?_
        obtain ⟨hb20, hw⟩ := hw
        refine s_iast (pc := 192) rfl ka_271 (by decide) hb20 ?_
        refine s_aload_n (pc := 193) rfl rfl ?_
        refine s_cv (pc := 194) (d := (d + 2)) (t := []) rfl rfl (am_ca_v (ps := []) rfl ko_262) (Nat.le_of_ble_eq_true rfl) (Cv.weak hw fun m21 J22 P23 hw => ?_)
        obtain ⟨hp25, hw⟩ := hw
        refine s_goto (pc := 197) (tgt := 10) rfl rfl ?_
        exact Rn.weakL hw (LLe.keep _ (LLe.keep _ (LLe.keep _ (LLe.keep _ (LLe.keep _ (LLe.drop _ (LLe.drop _ (LLe.keep _ (LLe.nil)))))))))
  · replace hw := hw.2 hc
    exact s_retv (pc := 140) rfl rfl hw

set_option maxRecDepth 20000 in
set_option maxHeartbeats 4000000 in
theorem b_Mdl_readTerm_203 {X : aX} {d : Nat} (x1 : Int) (x2 : Int) (x3 : Int) (x4 : Int) (x5 : Int) (x6 : Int) (x7 : Int)  (m : Mi) (J : Mj) (P : Mp) (hp : PP P) (post : Mi → Mj → Mp → Prop)
    (hw : Zr (x7) ∧ (((x7 = 0) → Zr (x3) ∧ (((¬ x3 = 0) → Ci X (d + 2) 144 [.ref 262, .int (iz 44)] m J P (fun z6 m3 J4 P5 => PP P5 ∧ Zr (z6) ∧ (((z6 = 0) → Cv X (d + 2) 142 [.ref 262] m3 J4 P5 (fun m9 J10 P11 => PP P11 ∧ Rn X (d + 3) 147 10 [some (.ref 262), some (.int (iz x1)), some (.int (iz x2)), some (.int (iz x3)), some (.int (iz x4)), none, none, none] [] (SS m9 J10 P11) (QV post))) ∧ (¬ (z6 = 0) → ((0 : Int) ≤ (x3 - 1) ∧ ((x3 - 1) : Int) < 48) ∧ ((0 : Int) ≤ (m3 278 (x3 - 1).toNat) ∧ ((m3 278 (x3 - 1).toNat) : Int) < 2000) ∧ ((0 : Int) ≤ (m3 278 (x3 - 1).toNat) ∧ ((m3 278 (x3 - 1).toNat) : Int) < 2000) ∧ Cv X (d + 2) 138 [.ref 262] (mu m3 271 (m3 278 (x3 - 1).toNat).toNat ((m3 271 (m3 278 (x3 - 1).toNat).toNat) + 1)) J4 P5 (fun m17 J18 P19 => PP P19 ∧ Rn X (d + 3) 147 10 [some (.ref 262), some (.int (iz x1)), some (.int (iz x2)), some (.int (iz x3)), some (.int (iz x4)), none, none, none] [] (SS m17 J18 P19) (QV post)))))) ∧ (¬ (¬ x3 = 0) → Rn X (d + 3) 147 10 [some (.ref 262), some (.int (iz x1)), some (.int (iz x2)), some (.int (iz x3)), some (.int (iz 0)), none, none, none] [] (SS m J P) (QV post)))) ∧ (¬ (x7 = 0) → Zr (x3) ∧ (((x3 ≤ 0) → Rn X (d + 3) 147 203 [some (.ref 262), some (.int (iz x1)), some (.int (iz x2)), some (.int (iz x3)), some (.int (iz x4)), some (.int (iz x5)), some (.int (iz x6)), some (.int (iz 0))] [] (SS m J P) (QV post)) ∧ (¬ (x3 ≤ 0) → Ci X (d + 2) 144 [.ref 262, .int (iz 41)] m J P (fun z26 m23 J24 P25 => PP P25 ∧ Zr (z26) ∧ (((z26 = 0) → Rn X (d + 3) 147 203 [some (.ref 262), some (.int (iz x1)), some (.int (iz x2)), some (.int (iz x3)), some (.int (iz x4)), some (.int (iz x5)), some (.int (iz x6)), some (.int (iz 0))] [] (SS m23 J24 P25) (QV post)) ∧ (¬ (z26 = 0) → Cv X (d + 2) 138 [.ref 262] m23 J24 P25 (fun m29 J30 P31 => PP P31 ∧ Rn X (d + 3) 147 203 [some (.ref 262), some (.int (iz x1)), some (.int (iz x2)), some (.int (iz (x3 + (-1)))), some (.int (iz x4)), some (.int (iz x5)), some (.int (iz x6)), some (.int (iz 1))] [] (SS m29 J30 P31) (QV post)))))))))) : Rn X (d + 3) 147 203 [some (.ref 262), some (.int (iz x1)), some (.int (iz x2)), some (.int (iz x3)), some (.int (iz x4)), some (.int (iz x5)), some (.int (iz x6)), some (.int (iz x7))] [] (SS m J P) (QV post) := by
  refine s_iload (pc := 203) rfl rfl ?_
  obtain ⟨hz1, hw⟩ := hw
  refine s_if_eq (pc := 205) (tgt := 246) rfl rfl hz1 (fun hc => ?_) (fun hc => ?_)
  · replace hw := hw.1 hc
    refine s_iload_n (pc := 246) rfl rfl ?_
    obtain ⟨hz2, hw⟩ := hw
    refine s_if_ne (pc := 247) (tgt := 256) rfl rfl hz2 (fun hc => ?_) (fun hc => ?_)
    · replace hw := hw.1 hc
      refine s_aload_n (pc := 256) rfl rfl ?_
      refine s_bipush (pc := 257) rfl (by decide) ?_
      refine s_ci (pc := 259) (d := (d + 2)) (t := []) rfl rfl (am_ca_v (ps := [.int (iz 44)]) rfl ko_262) (Nat.le_of_ble_eq_true rfl) (Ci.weak hw fun z6 m3 J4 P5 hw => ?_)
      obtain ⟨hp7, hw⟩ := hw
      obtain ⟨hz8, hw⟩ := hw
      refine s_if_eq (pc := 262) (tgt := 289) rfl rfl hz8 (fun hc => ?_) (fun hc => ?_)
      · replace hw := hw.1 hc
        refine s_aload_n (pc := 289) rfl rfl ?_
        refine s_cv (pc := 290) (d := (d + 2)) (t := []) rfl rfl (am_ca_v (ps := []) rfl ko_262) (Nat.le_of_ble_eq_true rfl) (Cv.weak hw fun m9 J10 P11 hw => ?_)
        obtain ⟨hp13, hw⟩ := hw
        refine s_goto (pc := 293) (tgt := 10) rfl rfl ?_
        exact Rn.weakL hw (LLe.keep _ (LLe.keep _ (LLe.keep _ (LLe.keep _ (LLe.keep _ (LLe.drop _ (LLe.drop _ (LLe.drop _ (LLe.nil)))))))))
      · replace hw := hw.2 hc
        refine s_aload_n (pc := 265) rfl rfl ?_
        refine s_getA (pc := 266) rfl ko_262 (po_262_25 hp7) ?_
        refine s_aload_n (pc := 269) rfl rfl ?_
        refine s_getA (pc := 270) rfl ko_262 (po_262_32 hp7) ?_
        refine s_iload_n (pc := 273) rfl rfl ?_
        refine s_iconst (pc := 274) rfl ?_
        refine s_isub (pc := 275) rfl ?_
        obtain ⟨hb14, hw⟩ := hw
        refine s_iald (pc := 276) rfl ka_278 (by decide) hb14 ?_
        refine s_dup2 (pc := 277) rfl ⟨rfl, rfl⟩ ?_
        obtain ⟨hb15, hw⟩ := hw
        refine s_iald (pc := 278) rfl ka_271 (by decide) hb15 ?_
        refine s_iconst (pc := 279) rfl ?_
        refine s_iadd (pc := 280) rfl ?_
        obtain ⟨hb16, hw⟩ := hw
        refine s_iast (pc := 281) rfl ka_271 (by decide) hb16 ?_
        refine s_aload_n (pc := 282) rfl rfl ?_
        refine s_cv (pc := 283) (d := (d + 2)) (t := []) rfl rfl (am_ca_v (ps := []) rfl ko_262) (Nat.le_of_ble_eq_true rfl) (Cv.weak hw fun m17 J18 P19 hw => ?_)
        obtain ⟨hp21, hw⟩ := hw
        refine s_goto (pc := 286) (tgt := 293) rfl rfl ?_
        refine s_goto (pc := 293) (tgt := 10) rfl rfl ?_
        exact Rn.weakL hw (LLe.keep _ (LLe.keep _ (LLe.keep _ (LLe.keep _ (LLe.keep _ (LLe.drop _ (LLe.drop _ (LLe.drop _ (LLe.nil)))))))))
    · replace hw := hw.2 hc
      refine s_iconst (pc := 250) rfl ?_
      refine s_istore (pc := 251) (L' := [some (.ref 262), some (.int (iz x1)), some (.int (iz x2)), some (.int (iz x3)), some (.int (iz 0)), some (.int (iz x5)), some (.int (iz x6)), some (.int (iz x7))]) rfl (Nat.le_of_ble_eq_true rfl) rfl ?_
      refine s_goto (pc := 253) (tgt := 293) rfl rfl ?_
      refine s_goto (pc := 293) (tgt := 10) rfl rfl ?_
      exact Rn.weakL hw (LLe.keep _ (LLe.keep _ (LLe.keep _ (LLe.keep _ (LLe.keep _ (LLe.drop _ (LLe.drop _ (LLe.drop _ (LLe.nil)))))))))
  · replace hw := hw.2 hc
    refine s_iload_n (pc := 208) rfl rfl ?_
    obtain ⟨hz22, hw⟩ := hw
    refine s_if_le (pc := 209) (tgt := 225) rfl rfl hz22 (fun hc => ?_) (fun hc => ?_)
    · replace hw := hw.1 hc
      refine s_iconst (pc := 225) rfl ?_
      refine s_istore (pc := 226) (L' := [some (.ref 262), some (.int (iz x1)), some (.int (iz x2)), some (.int (iz x3)), some (.int (iz x4)), some (.int (iz x5)), some (.int (iz x6)), some (.int (iz 0))]) rfl (Nat.le_of_ble_eq_true rfl) rfl ?_
      refine s_iload (pc := 228) rfl rfl ?_
      refine s_if_ne (pc := 230) (tgt := 236) rfl rfl (by decide) (fun hc => ?_) (fun hc => ?_)
      · exact absurd hc (by decide)
      refine s_goto (pc := 233) (tgt := 203) rfl rfl ?_
      exact hw
    · replace hw := hw.2 hc
      refine s_aload_n (pc := 212) rfl rfl ?_
      refine s_bipush (pc := 213) rfl (by decide) ?_
      refine s_ci (pc := 215) (d := (d + 2)) (t := []) rfl rfl (am_ca_v (ps := [.int (iz 41)]) rfl ko_262) (Nat.le_of_ble_eq_true rfl) (Ci.weak hw fun z26 m23 J24 P25 hw => ?_)
      obtain ⟨hp27, hw⟩ := hw
      obtain ⟨hz28, hw⟩ := hw
      refine s_if_eq (pc := 218) (tgt := 225) rfl rfl hz28 (fun hc => ?_) (fun hc => ?_)
      · replace hw := hw.1 hc
        refine s_iconst (pc := 225) rfl ?_
        refine s_istore (pc := 226) (L' := [some (.ref 262), some (.int (iz x1)), some (.int (iz x2)), some (.int (iz x3)), some (.int (iz x4)), some (.int (iz x5)), some (.int (iz x6)), some (.int (iz 0))]) rfl (Nat.le_of_ble_eq_true rfl) rfl ?_
        refine s_iload (pc := 228) rfl rfl ?_
        refine s_if_ne (pc := 230) (tgt := 236) rfl rfl (by decide) (fun hc => ?_) (fun hc => ?_)
        · exact absurd hc (by decide)
        refine s_goto (pc := 233) (tgt := 203) rfl rfl ?_
        exact hw
      · replace hw := hw.2 hc
        refine s_iconst (pc := 221) rfl ?_
        refine s_goto (pc := 222) (tgt := 226) rfl rfl ?_
        refine s_istore (pc := 226) (L' := [some (.ref 262), some (.int (iz x1)), some (.int (iz x2)), some (.int (iz x3)), some (.int (iz x4)), some (.int (iz x5)), some (.int (iz x6)), some (.int (iz 1))]) rfl (Nat.le_of_ble_eq_true rfl) rfl ?_
        refine s_iload (pc := 228) rfl rfl ?_
        refine s_if_ne (pc := 230) (tgt := 236) rfl rfl (by decide) (fun hc => ?_) (fun hc => ?_)
        rotate_left
        · exact absurd hc (by decide)
        refine s_iinc (pc := 236) (L' := [some (.ref 262), some (.int (iz x1)), some (.int (iz x2)), some (.int (iz (x3 + (-1)))), some (.int (iz x4)), some (.int (iz x5)), some (.int (iz x6)), some (.int (iz 1))]) rfl rfl (Nat.le_of_ble_eq_true rfl) rfl ?_
        refine s_aload_n (pc := 239) rfl rfl ?_
        refine s_cv (pc := 240) (d := (d + 2)) (t := []) rfl rfl (am_ca_v (ps := []) rfl ko_262) (Nat.le_of_ble_eq_true rfl) (Cv.weak hw fun m29 J30 P31 hw => ?_)
        obtain ⟨hp33, hw⟩ := hw
        refine s_goto (pc := 243) (tgt := 203) rfl rfl ?_
        exact hw

set_option maxRecDepth 20000 in
set_option maxHeartbeats 4000000 in
theorem b_Mdl_variableOf_0 {X : aX} {d : Nat} (x1 : Int)  (m : Mi) (J : Mj) (P : Mp) (hp : PP P) (post : Int → Mi → Mj → Mp → Prop)
    (hw : Rn X (d + 1) 148 2 [some (.ref 262), some (.int (iz x1)), some (.int (iz 0))] [] (SS m J P) (QI post)) : Rn X (d + 1) 148 0 [some (.ref 262), some (.int (iz x1)), none] [] (SS m J P) (QI post) := by
  refine s_iconst (pc := 0) rfl ?_
  refine s_istore_n (pc := 1) (L' := [some (.ref 262), some (.int (iz x1)), some (.int (iz 0))]) rfl (Nat.le_of_ble_eq_true rfl) rfl ?_
  exact hw

set_option maxRecDepth 20000 in
set_option maxHeartbeats 4000000 in
theorem b_Mdl_variableOf_2 {X : aX} {d : Nat} (x1 : Int) (x2 : Int)  (m : Mi) (J : Mj) (P : Mp) (hp : PP P) (post : Int → Mi → Mj → Mp → Prop)
    (hw : Zr (x2) ∧ Zr (m 262 17) ∧ ((((m 262 17) ≤ x2) → Zr (x2) ∧ Zr (m 262 17) ∧ ((((m 262 17) ≤ x2) → Zr (x2) ∧ Zr (x1) ∧ (((¬ x2 = x1) → ((0 : Int) ≤ x2 ∧ (x2 : Int) < 8) ∧ post x2 (mu m 262 17 ((m 262 17) + 1)) (mju J 266 x2.toNat (J 262 7)) P) ∧ (¬ (¬ x2 = x1) → Cv X d 143 [.ref 262, .int (iz 3), .int (iz (m 262 4))] m J P (fun m8 J9 P10 => PP P10 ∧ post 0 m8 J9 P10)))) ∧ (¬ ((m 262 17) ≤ x2) → post x2 m J P))) ∧ (¬ ((m 262 17) ≤ x2) → ((0 : Int) ≤ x2 ∧ (x2 : Int) < 8) ∧ Zr (zcmp (J 266 x2.toNat) (J 262 7)) ∧ ((((zcmp (J 266 x2.toNat) (J 262 7)) = 0) → Zr (x2) ∧ Zr (m 262 17) ∧ ((((m 262 17) ≤ x2) → Zr (x2) ∧ Zr (x1) ∧ (((¬ x2 = x1) → ((0 : Int) ≤ x2 ∧ (x2 : Int) < 8) ∧ post x2 (mu m 262 17 ((m 262 17) + 1)) (mju J 266 x2.toNat (J 262 7)) P) ∧ (¬ (¬ x2 = x1) → Cv X d 143 [.ref 262, .int (iz 3), .int (iz (m 262 4))] m J P (fun m20 J21 P22 => PP P22 ∧ post 0 m20 J21 P22)))) ∧ (¬ ((m 262 17) ≤ x2) → post x2 m J P))) ∧ (¬ ((zcmp (J 266 x2.toNat) (J 262 7)) = 0) → Rn X (d + 1) 148 2 [some (.ref 262), some (.int (iz x1)), some (.int (iz (x2 + 1)))] [] (SS m J P) (QI post)))))) : Rn X (d + 1) 148 2 [some (.ref 262), some (.int (iz x1)), some (.int (iz x2))] [] (SS m J P) (QI post) := by
  refine s_iload_n (pc := 2) rfl rfl ?_
  refine s_aload_n (pc := 3) rfl rfl ?_
  refine s_getI (pc := 4) rfl ko_262 ?_
  obtain ⟨hz1, hw⟩ := hw
  obtain ⟨hz2, hw⟩ := hw
  refine s_ic_ge (pc := 7) (tgt := 30) rfl rfl hz1 hz2 (fun hc => ?_) (fun hc => ?_)
  · replace hw := hw.1 hc
    refine s_iload_n (pc := 30) rfl rfl ?_
    refine s_aload_n (pc := 31) rfl rfl ?_
    refine s_getI (pc := 32) rfl ko_262 ?_
    obtain ⟨hz3, hw⟩ := hw
    obtain ⟨hz4, hw⟩ := hw
    refine s_ic_ge (pc := 35) (tgt := 40) rfl rfl hz3 hz4 (fun hc => ?_) (fun hc => ?_)
    · replace hw := hw.1 hc
      refine s_iload_n (pc := 40) rfl rfl ?_
      refine s_iload_n (pc := 41) rfl rfl ?_
      obtain ⟨hz5, hw⟩ := hw
      obtain ⟨hz6, hw⟩ := hw
      refine s_ic_ne (pc := 42) (tgt := 56) rfl rfl hz5 hz6 (fun hc => ?_) (fun hc => ?_)
      · replace hw := hw.1 hc
        refine s_aload_n (pc := 56) rfl rfl ?_
        refine s_getA (pc := 57) rfl ko_262 (po_262_20 hp) ?_
        refine s_iload_n (pc := 60) rfl rfl ?_
        refine s_aload_n (pc := 61) rfl rfl ?_
        refine s_getJ (pc := 62) rfl ko_262 ?_
        obtain ⟨hb7, hw⟩ := hw
        refine s_last (pc := 65) rfl ka_266 (by decide) hb7 ?_
        refine s_aload_n (pc := 66) rfl rfl ?_
        refine s_dup (pc := 67) rfl rfl ?_
        refine s_getI (pc := 68) rfl ko_262 ?_
        refine s_iconst (pc := 71) rfl ?_
        refine s_iadd (pc := 72) rfl ?_
        refine s_putI (pc := 73) rfl ko_262 ?_
        refine s_iload_n (pc := 76) rfl rfl ?_
        exact s_reti (pc := 77) rfl rfl hw
      · replace hw := hw.2 hc
        refine s_aload_n (pc := 45) rfl rfl ?_
        refine s_iconst (pc := 46) rfl ?_
        refine s_aload_n (pc := 47) rfl rfl ?_
        refine s_getI (pc := 48) rfl ko_262 ?_
        refine s_cv (pc := 51) (d := d) (t := []) rfl rfl (am_ca_v (ps := [.int (iz (m 262 4)), .int (iz 3)]) rfl ko_262) (Nat.le_of_ble_eq_true rfl) (Cv.weak hw fun m8 J9 P10 hw => ?_)
        obtain ⟨hp12, hw⟩ := hw
        refine s_iconst (pc := 54) rfl ?_
        exact s_reti (pc := 55) rfl rfl hw
    · replace hw := hw.2 hc
      refine s_iload_n (pc := 38) rfl rfl ?_
      exact s_reti (pc := 39) rfl rfl hw
  · replace hw := hw.2 hc
    refine s_aload_n (pc := 10) rfl rfl ?_
    refine s_getA (pc := 11) rfl ko_262 (po_262_20 hp) ?_
    refine s_iload_n (pc := 14) rfl rfl ?_
    obtain ⟨hb13, hw⟩ := hw
    refine s_lald (pc := 15) rfl ka_266 (by decide) hb13 ?_
    refine s_aload_n (pc := 16) rfl rfl ?_
    refine s_getJ (pc := 17) rfl ko_262 ?_
    refine s_lcmp (pc := 20) rfl ?_
    obtain ⟨hz14, hw⟩ := hw
    refine s_if_eq (pc := 21) (tgt := 30) rfl rfl hz14 (fun hc => ?_) (fun hc => ?_)
    · replace hw := hw.1 hc
      refine s_iload_n (pc := 30) rfl rfl ?_
      refine s_aload_n (pc := 31) rfl rfl ?_
      refine s_getI (pc := 32) rfl ko_262 ?_
      obtain ⟨hz15, hw⟩ := hw
      obtain ⟨hz16, hw⟩ := hw
      refine s_ic_ge (pc := 35) (tgt := 40) rfl rfl hz15 hz16 (fun hc => ?_) (fun hc => ?_)
      · replace hw := hw.1 hc
        refine s_iload_n (pc := 40) rfl rfl ?_
        refine s_iload_n (pc := 41) rfl rfl ?_
        obtain ⟨hz17, hw⟩ := hw
        obtain ⟨hz18, hw⟩ := hw
        refine s_ic_ne (pc := 42) (tgt := 56) rfl rfl hz17 hz18 (fun hc => ?_) (fun hc => ?_)
        · replace hw := hw.1 hc
          refine s_aload_n (pc := 56) rfl rfl ?_
          refine s_getA (pc := 57) rfl ko_262 (po_262_20 hp) ?_
          refine s_iload_n (pc := 60) rfl rfl ?_
          refine s_aload_n (pc := 61) rfl rfl ?_
          refine s_getJ (pc := 62) rfl ko_262 ?_
          obtain ⟨hb19, hw⟩ := hw
          refine s_last (pc := 65) rfl ka_266 (by decide) hb19 ?_
          refine s_aload_n (pc := 66) rfl rfl ?_
          refine s_dup (pc := 67) rfl rfl ?_
          refine s_getI (pc := 68) rfl ko_262 ?_
          refine s_iconst (pc := 71) rfl ?_
          refine s_iadd (pc := 72) rfl ?_
          refine s_putI (pc := 73) rfl ko_262 ?_
          refine s_iload_n (pc := 76) rfl rfl ?_
          exact s_reti (pc := 77) rfl rfl hw
        · replace hw := hw.2 hc
          refine s_aload_n (pc := 45) rfl rfl ?_
          refine s_iconst (pc := 46) rfl ?_
          refine s_aload_n (pc := 47) rfl rfl ?_
          refine s_getI (pc := 48) rfl ko_262 ?_
          refine s_cv (pc := 51) (d := d) (t := []) rfl rfl (am_ca_v (ps := [.int (iz (m 262 4)), .int (iz 3)]) rfl ko_262) (Nat.le_of_ble_eq_true rfl) (Cv.weak hw fun m20 J21 P22 hw => ?_)
          obtain ⟨hp24, hw⟩ := hw
          refine s_iconst (pc := 54) rfl ?_
          exact s_reti (pc := 55) rfl rfl hw
      · replace hw := hw.2 hc
        refine s_iload_n (pc := 38) rfl rfl ?_
        exact s_reti (pc := 39) rfl rfl hw
    · replace hw := hw.2 hc
      refine s_iinc (pc := 24) (L' := [some (.ref 262), some (.int (iz x1)), some (.int (iz (x2 + 1)))]) rfl rfl (Nat.le_of_ble_eq_true rfl) rfl ?_
      refine s_goto (pc := 27) (tgt := 2) rfl rfl ?_
      exact hw

set_option maxRecDepth 20000 in
set_option maxHeartbeats 4000000 in
theorem b_Mdl_judgeSystem_0 {X : aX} {d : Nat}   (m : Mi) (J : Mj) (P : Mp) (hp : PP P) (post : Mi → Mj → Mp → Prop)
    (hw : Rn X (d + 4) 149 2 [some (.ref 262), some (.int (iz 0))] [] (SS m J P) (QV post)) : Rn X (d + 4) 149 0 [some (.ref 262), none] [] (SS m J P) (QV post) := by
  refine s_iconst (pc := 0) rfl ?_
  refine s_istore_n (pc := 1) (L' := [some (.ref 262), some (.int (iz 0))]) rfl (Nat.le_of_ble_eq_true rfl) rfl ?_
  exact hw

set_option maxRecDepth 20000 in
set_option maxHeartbeats 4000000 in
theorem b_Mdl_judgeSystem_2 {X : aX} {d : Nat} (x1 : Int)  (m : Mi) (J : Mj) (P : Mp) (hp : PP P) (post : Mi → Mj → Mp → Prop)
    (hw : Zr (x1) ∧ Zr (m 262 14) ∧ ((((m 262 14) ≤ x1) → Rn X (d + 4) 149 54 [some (.ref 262), some (.int (iz 0))] [] (SS m J P) (QV post)) ∧ (¬ ((m 262 14) ≤ x1) → Zr (m 262 10) ∧ (((¬ (m 262 10) = 0) → Rn X (d + 4) 149 54 [some (.ref 262), some (.int (iz 0))] [] (SS m J P) (QV post)) ∧ (¬ (¬ (m 262 10) = 0) → ((0 : Int) ≤ x1 ∧ (x1 : Int) < 16) ∧ Ci X (d + 3) 150 [.ref 262, .long (J 264 x1.toNat), .ref 264, .int (iz x1)] m J P (fun z8 m5 J6 P7 => PP P7 ∧ Zr (z8) ∧ (((z8 < 0) → Rn X (d + 4) 149 2 [some (.ref 262), some (.int (iz (x1 + 1)))] [] (SS m5 J6 P7) (QV post)) ∧ (¬ (z8 < 0) → ((0 : Int) ≤ x1 ∧ (x1 : Int) < 16) ∧ Cv X (d + 3) 143 [.ref 262, .int (iz 4), .int (iz (m5 267 x1.toNat))] m5 J6 P7 (fun m12 J13 P14 => PP P14 ∧ Rn X (d + 4) 149 2 [some (.ref 262), some (.int (iz (x1 + 1)))] [] (SS m12 J13 P14) (QV post)))))))))) : Rn X (d + 4) 149 2 [some (.ref 262), some (.int (iz x1))] [] (SS m J P) (QV post) := by
  refine s_iload_n (pc := 2) rfl rfl ?_
  refine s_aload_n (pc := 3) rfl rfl ?_
  refine s_getI (pc := 4) rfl ko_262 ?_
  obtain ⟨hz1, hw⟩ := hw
  obtain ⟨hz2, hw⟩ := hw
  refine s_ic_ge (pc := 7) (tgt := 52) rfl rfl hz1 hz2 (fun hc => ?_) (fun hc => ?_)
  · replace hw := hw.1 hc
    refine s_iconst (pc := 52) rfl ?_
    refine s_istore_n (pc := 53) (L' := [some (.ref 262), some (.int (iz 0))]) rfl (Nat.le_of_ble_eq_true rfl) rfl ?_
    exact hw
  · replace hw := hw.2 hc
    refine s_aload_n (pc := 10) rfl rfl ?_
    refine s_getI (pc := 11) rfl ko_262 ?_
    obtain ⟨hz3, hw⟩ := hw
    refine s_if_ne (pc := 14) (tgt := 52) rfl rfl hz3 (fun hc => ?_) (fun hc => ?_)
    · replace hw := hw.1 hc
      refine s_iconst (pc := 52) rfl ?_
      refine s_istore_n (pc := 53) (L' := [some (.ref 262), some (.int (iz 0))]) rfl (Nat.le_of_ble_eq_true rfl) rfl ?_
      exact hw
    · replace hw := hw.2 hc
      refine s_aload_n (pc := 17) rfl rfl ?_
      refine s_aload_n (pc := 18) rfl rfl ?_
      refine s_getA (pc := 19) rfl ko_262 (po_262_18 hp) ?_
      refine s_iload_n (pc := 22) rfl rfl ?_
      obtain ⟨hb4, hw⟩ := hw
      refine s_lald (pc := 23) rfl ka_264 (by decide) hb4 ?_
      refine s_aload_n (pc := 24) rfl rfl ?_
      refine s_getA (pc := 25) rfl ko_262 (po_262_18 hp) ?_
      refine s_iload_n (pc := 28) rfl rfl ?_
      refine s_ci (pc := 29) (d := (d + 3)) (t := []) rfl rfl (am_ca_v (ps := [.int (iz x1), .ref 264, .long (J 264 x1.toNat)]) rfl ko_262) (Nat.le_of_ble_eq_true rfl) (Ci.weak hw fun z8 m5 J6 P7 hw => ?_)
      obtain ⟨hp9, hw⟩ := hw
      obtain ⟨hz10, hw⟩ := hw
      refine s_if_lt (pc := 32) (tgt := 46) rfl rfl hz10 (fun hc => ?_) (fun hc => ?_)
      · replace hw := hw.1 hc
        refine s_iinc (pc := 46) (L' := [some (.ref 262), some (.int (iz (x1 + 1)))]) rfl rfl (Nat.le_of_ble_eq_true rfl) rfl ?_
        refine s_goto (pc := 49) (tgt := 2) rfl rfl ?_
        exact hw
      · replace hw := hw.2 hc
        refine s_aload_n (pc := 35) rfl rfl ?_
        refine s_iconst (pc := 36) rfl ?_
        refine s_aload_n (pc := 37) rfl rfl ?_
        refine s_getA (pc := 38) rfl ko_262 (po_262_21 hp9) ?_
        refine s_iload_n (pc := 41) rfl rfl ?_
        obtain ⟨hb11, hw⟩ := hw
        refine s_iald (pc := 42) rfl ka_267 (by decide) hb11 ?_
        refine s_cv (pc := 43) (d := (d + 3)) (t := []) rfl rfl (am_ca_v (ps := [.int (iz (m5 267 x1.toNat)), .int (iz 4)]) rfl ko_262) (Nat.le_of_ble_eq_true rfl) (Cv.weak hw fun m12 J13 P14 hw => ?_)
        obtain ⟨hp16, hw⟩ := hw
        refine s_iinc (pc := 46) (L' := [some (.ref 262), some (.int (iz (x1 + 1)))]) rfl rfl (Nat.le_of_ble_eq_true rfl) rfl ?_
        refine s_goto (pc := 49) (tgt := 2) rfl rfl ?_
        exact hw

set_option maxRecDepth 20000 in
set_option maxHeartbeats 4000000 in
theorem b_Mdl_judgeSystem_54 {X : aX} {d : Nat} (x1 : Int)  (m : Mi) (J : Mj) (P : Mp) (hp : PP P) (post : Mi → Mj → Mp → Prop)
    (hw : Zr (x1) ∧ Zr (m 262 15) ∧ ((((m 262 15) ≤ x1) → post m J P) ∧ (¬ ((m 262 15) ≤ x1) → Zr (m 262 10) ∧ (((¬ (m 262 10) = 0) → post m J P) ∧ (¬ (¬ (m 262 10) = 0) → Cv X (d + 3) 151 [.ref 262, .int (iz x1)] m J P (fun m4 J5 P6 => PP P6 ∧ Rn X (d + 4) 149 54 [some (.ref 262), some (.int (iz (x1 + 1)))] [] (SS m4 J5 P6) (QV post))))))) : Rn X (d + 4) 149 54 [some (.ref 262), some (.int (iz x1))] [] (SS m J P) (QV post) := by
  refine s_iload_n (pc := 54) rfl rfl ?_
  refine s_aload_n (pc := 55) rfl rfl ?_
  refine s_getI (pc := 56) rfl ko_262 ?_
  obtain ⟨hz1, hw⟩ := hw
  obtain ⟨hz2, hw⟩ := hw
  refine s_ic_ge (pc := 59) (tgt := 80) rfl rfl hz1 hz2 (fun hc => ?_) (fun hc => ?_)
  · replace hw := hw.1 hc
    exact s_retv (pc := 80) rfl rfl hw
  · replace hw := hw.2 hc
    refine s_aload_n (pc := 62) rfl rfl ?_
    refine s_getI (pc := 63) rfl ko_262 ?_
    obtain ⟨hz3, hw⟩ := hw
    refine s_if_ne (pc := 66) (tgt := 80) rfl rfl hz3 (fun hc => ?_) (fun hc => ?_)
    · replace hw := hw.1 hc
      exact s_retv (pc := 80) rfl rfl hw
    · replace hw := hw.2 hc
      refine s_aload_n (pc := 69) rfl rfl ?_
      refine s_iload_n (pc := 70) rfl rfl ?_
      refine s_cv (pc := 71) (d := (d + 3)) (t := []) rfl rfl (am_ca_v (ps := [.int (iz x1)]) rfl ko_262) (Nat.le_of_ble_eq_true rfl) (Cv.weak hw fun m4 J5 P6 hw => ?_)
      obtain ⟨hp8, hw⟩ := hw
      refine s_iinc (pc := 74) (L' := [some (.ref 262), some (.int (iz (x1 + 1)))]) rfl rfl (Nat.le_of_ble_eq_true rfl) rfl ?_
      refine s_goto (pc := 77) (tgt := 54) rfl rfl ?_
      exact hw

set_option maxRecDepth 20000 in
set_option maxHeartbeats 4000000 in
theorem b_Mdl_symbolOf_0 {X : aX} {d : Nat} (x1 : Int64) (x3 nx3 : Nat) (x4 : Int) (kx3 : am_kd an_K x3 = some (.inr (3, nx3))) (bx3 : nx3 ≤ 100000) (m : Mi) (J : Mj) (P : Mp) (hp : PP P) (post : Int → Mi → Mj → Mp → Prop)
    (hw : Rn X d 150 3 [some (.ref 262), some (.long x1), none, some (.ref x3), some (.int (iz x4)), some (.int (iz 0))] [] (SS m J P) (QI post)) : Rn X d 150 0 [some (.ref 262), some (.long x1), none, some (.ref x3), some (.int (iz x4)), none] [] (SS m J P) (QI post) := by
  refine s_iconst (pc := 0) rfl ?_
  refine s_istore (pc := 1) (L' := [some (.ref 262), some (.long x1), none, some (.ref x3), some (.int (iz x4)), some (.int (iz 0))]) rfl (Nat.le_of_ble_eq_true rfl) rfl ?_
  exact hw

set_option maxRecDepth 20000 in
set_option maxHeartbeats 4000000 in
theorem b_Mdl_symbolOf_3 {X : aX} {d : Nat} (x1 : Int64) (x3 nx3 : Nat) (x4 : Int) (x5 : Int) (kx3 : am_kd an_K x3 = some (.inr (3, nx3))) (bx3 : nx3 ≤ 100000) (m : Mi) (J : Mj) (P : Mp) (hp : PP P) (post : Int → Mi → Mj → Mp → Prop)
    (hw : Zr (x5) ∧ Zr (x4) ∧ (((x4 ≤ x5) → post ((-1)) m J P) ∧ (¬ (x4 ≤ x5) → ((0 : Int) ≤ x5 ∧ (x5 : Int) < nx3) ∧ Zr (zcmp (J x3 x5.toNat) x1) ∧ (((¬ (zcmp (J x3 x5.toNat) x1) = 0) → Rn X d 150 3 [some (.ref 262), some (.long x1), none, some (.ref x3), some (.int (iz x4)), some (.int (iz (x5 + 1)))] [] (SS m J P) (QI post)) ∧ (¬ (¬ (zcmp (J x3 x5.toNat) x1) = 0) → post x5 m J P))))) : Rn X d 150 3 [some (.ref 262), some (.long x1), none, some (.ref x3), some (.int (iz x4)), some (.int (iz x5))] [] (SS m J P) (QI post) := by
  refine s_iload (pc := 3) rfl rfl ?_
  refine s_iload (pc := 5) rfl rfl ?_
  obtain ⟨hz1, hw⟩ := hw
  obtain ⟨hz2, hw⟩ := hw
  refine s_ic_ge (pc := 7) (tgt := 28) rfl rfl hz1 hz2 (fun hc => ?_) (fun hc => ?_)
  · replace hw := hw.1 hc
    refine s_iconst (pc := 28) rfl ?_
    exact s_reti (pc := 29) rfl rfl hw
  · replace hw := hw.2 hc
    refine s_aload_n (pc := 10) rfl rfl ?_
    refine s_iload (pc := 11) rfl rfl ?_
    obtain ⟨hb3, hw⟩ := hw
    refine s_lald (pc := 13) rfl kx3 bx3 hb3 ?_
    refine s_lload_n (pc := 14) rfl rfl ?_
    refine s_lcmp (pc := 15) rfl ?_
    obtain ⟨hz4, hw⟩ := hw
    refine s_if_ne (pc := 16) (tgt := 22) rfl rfl hz4 (fun hc => ?_) (fun hc => ?_)
    · replace hw := hw.1 hc
      refine s_iinc (pc := 22) (L' := [some (.ref 262), some (.long x1), none, some (.ref x3), some (.int (iz x4)), some (.int (iz (x5 + 1)))]) rfl rfl (Nat.le_of_ble_eq_true rfl) rfl ?_
      refine s_goto (pc := 25) (tgt := 3) rfl rfl ?_
      exact hw
    · replace hw := hw.2 hc
      refine s_iload (pc := 19) rfl rfl ?_
      exact s_reti (pc := 21) rfl rfl hw

set_option maxRecDepth 20000 in
set_option maxHeartbeats 4000000 in
theorem b_Mdl_judgeRule_0 {X : aX} {d : Nat} (x1 : Int)  (m : Mi) (J : Mj) (P : Mp) (hp : PP P) (post : Mi → Mj → Mp → Prop)
    (hw : ((0 : Int) ≤ x1 ∧ (x1 : Int) < 16) ∧ ((0 : Int) ≤ x1 ∧ (x1 : Int) < 16) ∧ Cv X (d + 2) 152 [.ref 262, .int (iz (m 272 x1.toNat)), .int (iz (m 273 x1.toNat)), .ref 264, .int (iz (m 262 14)), .ref 268] m J P (fun m3 J4 P5 => PP P5 ∧ ((0 : Int) ≤ x1 ∧ (x1 : Int) < 16) ∧ ((0 : Int) ≤ x1 ∧ (x1 : Int) < 16) ∧ Cv X (d + 2) 152 [.ref 262, .int (iz (m3 273 x1.toNat)), .int (iz (m3 274 x1.toNat)), .ref 264, .int (iz (m3 262 14)), .ref 268] m3 J4 P5 (fun m10 J11 P12 => PP P12 ∧ Zr (m10 262 10) ∧ ((((m10 262 10) ≤ 0) → ((0 : Int) ≤ x1 ∧ (x1 : Int) < 16) ∧ ((0 : Int) ≤ (m10 272 x1.toNat) ∧ ((m10 272 x1.toNat) : Int) < 2000) ∧ Zr (m10 269 (m10 272 x1.toNat).toNat) ∧ ((((m10 269 (m10 272 x1.toNat).toNat) < 0) → ((0 : Int) ≤ x1 ∧ (x1 : Int) < 16) ∧ Rn X (d + 3) 151 102 [some (.ref 262), some (.int (iz x1)), some (.int (iz (m10 273 x1.toNat))), none, none] [] (SS m10 J11 P12) (QV post)) ∧ (¬ ((m10 269 (m10 272 x1.toNat).toNat) < 0) → ((0 : Int) ≤ x1 ∧ (x1 : Int) < 16) ∧ ((0 : Int) ≤ (m10 272 x1.toNat) ∧ ((m10 272 x1.toNat) : Int) < 2000) ∧ Cv X (d + 2) 143 [.ref 262, .int (iz 7), .int (iz (m10 270 (m10 272 x1.toNat).toNat))] m10 J11 P12 (fun m22 J23 P24 => PP P24 ∧ ((0 : Int) ≤ x1 ∧ (x1 : Int) < 16) ∧ Rn X (d + 3) 151 102 [some (.ref 262), some (.int (iz x1)), some (.int (iz (m22 273 x1.toNat))), none, none] [] (SS m22 J23 P24) (QV post))))) ∧ (¬ ((m10 262 10) ≤ 0) → post m10 J11 P12))))) : Rn X (d + 3) 151 0 [some (.ref 262), some (.int (iz x1)), none, none, none] [] (SS m J P) (QV post) := by
  refine s_aload_n (pc := 0) rfl rfl ?_
  refine s_aload_n (pc := 1) rfl rfl ?_
  refine s_getA (pc := 2) rfl ko_262 (po_262_26 hp) ?_
  refine s_iload_n (pc := 5) rfl rfl ?_
  obtain ⟨hb1, hw⟩ := hw
  refine s_iald (pc := 6) rfl ka_272 (by decide) hb1 ?_
  refine s_aload_n (pc := 7) rfl rfl ?_
  refine s_getA (pc := 8) rfl ko_262 (po_262_27 hp) ?_
  refine s_iload_n (pc := 11) rfl rfl ?_
  obtain ⟨hb2, hw⟩ := hw
  refine s_iald (pc := 12) rfl ka_273 (by decide) hb2 ?_
  refine s_aload_n (pc := 13) rfl rfl ?_
  refine s_getA (pc := 14) rfl ko_262 (po_262_18 hp) ?_
  refine s_aload_n (pc := 17) rfl rfl ?_
  refine s_getI (pc := 18) rfl ko_262 ?_
  refine s_aload_n (pc := 21) rfl rfl ?_
  refine s_getA (pc := 22) rfl ko_262 (po_262_22 hp) ?_
  refine s_cv (pc := 25) (d := (d + 2)) (t := []) rfl rfl (am_ca_v (ps := [.ref 268, .int (iz (m 262 14)), .ref 264, .int (iz (m 273 x1.toNat)), .int (iz (m 272 x1.toNat))]) rfl ko_262) (Nat.le_of_ble_eq_true rfl) (Cv.weak hw fun m3 J4 P5 hw => ?_)
  obtain ⟨hp7, hw⟩ := hw
  refine s_aload_n (pc := 28) rfl rfl ?_
  refine s_aload_n (pc := 29) rfl rfl ?_
  refine s_getA (pc := 30) rfl ko_262 (po_262_27 hp7) ?_
  refine s_iload_n (pc := 33) rfl rfl ?_
  obtain ⟨hb8, hw⟩ := hw
  refine s_iald (pc := 34) rfl ka_273 (by decide) hb8 ?_
  refine s_aload_n (pc := 35) rfl rfl ?_
  refine s_getA (pc := 36) rfl ko_262 (po_262_28 hp7) ?_
  refine s_iload_n (pc := 39) rfl rfl ?_
  obtain ⟨hb9, hw⟩ := hw
  refine s_iald (pc := 40) rfl ka_274 (by decide) hb9 ?_
  refine s_aload_n (pc := 41) rfl rfl ?_
  refine s_getA (pc := 42) rfl ko_262 (po_262_18 hp7) ?_
  refine s_aload_n (pc := 45) rfl rfl ?_
  refine s_getI (pc := 46) rfl ko_262 ?_
  refine s_aload_n (pc := 49) rfl rfl ?_
  refine s_getA (pc := 50) rfl ko_262 (po_262_22 hp7) ?_
  refine s_cv (pc := 53) (d := (d + 2)) (t := []) rfl rfl (am_ca_v (ps := [.ref 268, .int (iz (m3 262 14)), .ref 264, .int (iz (m3 274 x1.toNat)), .int (iz (m3 273 x1.toNat))]) rfl ko_262) (Nat.le_of_ble_eq_true rfl) (Cv.weak hw fun m10 J11 P12 hw => ?_)
  obtain ⟨hp14, hw⟩ := hw
  refine s_aload_n (pc := 56) rfl rfl ?_
  refine s_getI (pc := 57) rfl ko_262 ?_
  obtain ⟨hz15, hw⟩ := hw
  refine s_if_le (pc := 60) (tgt := 64) rfl rfl hz15 (fun hc => ?_) (fun hc => ?_)
  · replace hw := hw.1 hc
    refine s_aload_n (pc := 64) rfl rfl ?_
    refine s_getA (pc := 65) rfl ko_262 (po_262_23 hp14) ?_
    refine s_aload_n (pc := 68) rfl rfl ?_
    refine s_getA (pc := 69) rfl ko_262 (po_262_26 hp14) ?_
    refine s_iload_n (pc := 72) rfl rfl ?_
    obtain ⟨hb16, hw⟩ := hw
    refine s_iald (pc := 73) rfl ka_272 (by decide) hb16 ?_
    obtain ⟨hb17, hw⟩ := hw
    refine s_iald (pc := 74) rfl ka_269 (by decide) hb17 ?_
    obtain ⟨hz18, hw⟩ := hw
    refine s_if_lt (pc := 75) (tgt := 95) rfl rfl hz18 (fun hc => ?_) (fun hc => ?_)
    · replace hw := hw.1 hc
      refine s_aload_n (pc := 95) rfl rfl ?_
      refine s_getA (pc := 96) rfl ko_262 (po_262_27 hp14) ?_
      refine s_iload_n (pc := 99) rfl rfl ?_
      obtain ⟨hb19, hw⟩ := hw
      refine s_iald (pc := 100) rfl ka_273 (by decide) hb19 ?_
      refine s_istore_n (pc := 101) (L' := [some (.ref 262), some (.int (iz x1)), some (.int (iz (m10 273 x1.toNat))), none, none]) rfl (Nat.le_of_ble_eq_true rfl) rfl ?_
      exact hw
    · replace hw := hw.2 hc
      refine s_aload_n (pc := 78) rfl rfl ?_
      refine s_bipush (pc := 79) rfl (by decide) ?_
      refine s_aload_n (pc := 81) rfl rfl ?_
      refine s_getA (pc := 82) rfl ko_262 (po_262_24 hp14) ?_
      refine s_aload_n (pc := 85) rfl rfl ?_
      refine s_getA (pc := 86) rfl ko_262 (po_262_26 hp14) ?_
      refine s_iload_n (pc := 89) rfl rfl ?_
      obtain ⟨hb20, hw⟩ := hw
      refine s_iald (pc := 90) rfl ka_272 (by decide) hb20 ?_
      obtain ⟨hb21, hw⟩ := hw
      refine s_iald (pc := 91) rfl ka_270 (by decide) hb21 ?_
      refine s_cv (pc := 92) (d := (d + 2)) (t := []) rfl rfl (am_ca_v (ps := [.int (iz (m10 270 (m10 272 x1.toNat).toNat)), .int (iz 7)]) rfl ko_262) (Nat.le_of_ble_eq_true rfl) (Cv.weak hw fun m22 J23 P24 hw => ?_)
      obtain ⟨hp26, hw⟩ := hw
      refine s_aload_n (pc := 95) rfl rfl ?_
      refine s_getA (pc := 96) rfl ko_262 (po_262_27 hp26) ?_
      refine s_iload_n (pc := 99) rfl rfl ?_
      obtain ⟨hb27, hw⟩ := hw
      refine s_iald (pc := 100) rfl ka_273 (by decide) hb27 ?_
      refine s_istore_n (pc := 101) (L' := [some (.ref 262), some (.int (iz x1)), some (.int (iz (m22 273 x1.toNat))), none, none]) rfl (Nat.le_of_ble_eq_true rfl) rfl ?_
      exact hw
  · replace hw := hw.2 hc
    exact s_retv (pc := 63) rfl rfl hw

set_option maxRecDepth 20000 in
set_option maxHeartbeats 4000000 in
theorem b_Mdl_judgeRule_102 {X : aX} {d : Nat} (x1 : Int) (x2 : Int)  (m : Mi) (J : Mj) (P : Mp) (hp : PP P) (post : Mi → Mj → Mp → Prop)
    (hw : ((0 : Int) ≤ x1 ∧ (x1 : Int) < 16) ∧ Zr (x2) ∧ Zr (m 274 x1.toNat) ∧ ((((m 274 x1.toNat) ≤ x2) → Zr (m 262 10) ∧ ((((m 262 10) ≤ 0) → ((0 : Int) ≤ x1 ∧ (x1 : Int) < 16) ∧ ((0 : Int) ≤ x1 ∧ (x1 : Int) < 16) ∧ Ci X (d + 2) 153 [.ref 262, .int (iz (m 272 x1.toNat)), .int (iz (m 273 x1.toNat)), .ref 291] m J P (fun z10 m7 J8 P9 => PP P9 ∧ ((0 : Int) ≤ x1 ∧ (x1 : Int) < 16) ∧ ((0 : Int) ≤ x1 ∧ (x1 : Int) < 16) ∧ Ci X (d + 2) 153 [.ref 262, .int (iz ((mu m7 262 56 z10) 273 x1.toNat)), .int (iz ((mu m7 262 56 z10) 274 x1.toNat)), .ref 292] (mu m7 262 56 z10) J8 P9 (fun z17 m14 J15 P16 => PP P16 ∧ Ci X (d + 2) 154 [.ref 262] (mu m14 262 57 z17) J15 P16 (fun z22 m19 J20 P21 => PP P21 ∧ Zr (z22) ∧ (((¬ z22 = 0) → post m19 J20 P21) ∧ (¬ (¬ z22 = 0) → ((0 : Int) ≤ x1 ∧ (x1 : Int) < 16) ∧ Cv X (d + 2) 143 [.ref 262, .int (iz 7), .int (iz (m19 275 x1.toNat))] m19 J20 P21 (fun m26 J27 P28 => PP P28 ∧ post m26 J27 P28))))))) ∧ (¬ ((m 262 10) ≤ 0) → post m J P))) ∧ (¬ ((m 274 x1.toNat) ≤ x2) → Zr (m 262 10) ∧ (((¬ (m 262 10) = 0) → Zr (m 262 10) ∧ ((((m 262 10) ≤ 0) → ((0 : Int) ≤ x1 ∧ (x1 : Int) < 16) ∧ ((0 : Int) ≤ x1 ∧ (x1 : Int) < 16) ∧ Ci X (d + 2) 153 [.ref 262, .int (iz (m 272 x1.toNat)), .int (iz (m 273 x1.toNat)), .ref 291] m J P (fun z38 m35 J36 P37 => PP P37 ∧ ((0 : Int) ≤ x1 ∧ (x1 : Int) < 16) ∧ ((0 : Int) ≤ x1 ∧ (x1 : Int) < 16) ∧ Ci X (d + 2) 153 [.ref 262, .int (iz ((mu m35 262 56 z38) 273 x1.toNat)), .int (iz ((mu m35 262 56 z38) 274 x1.toNat)), .ref 292] (mu m35 262 56 z38) J36 P37 (fun z45 m42 J43 P44 => PP P44 ∧ Ci X (d + 2) 154 [.ref 262] (mu m42 262 57 z45) J43 P44 (fun z50 m47 J48 P49 => PP P49 ∧ Zr (z50) ∧ (((¬ z50 = 0) → post m47 J48 P49) ∧ (¬ (¬ z50 = 0) → ((0 : Int) ≤ x1 ∧ (x1 : Int) < 16) ∧ Cv X (d + 2) 143 [.ref 262, .int (iz 7), .int (iz (m47 275 x1.toNat))] m47 J48 P49 (fun m54 J55 P56 => PP P56 ∧ post m54 J55 P56))))))) ∧ (¬ ((m 262 10) ≤ 0) → post m J P))) ∧ (¬ (¬ (m 262 10) = 0) → ((0 : Int) ≤ x2 ∧ (x2 : Int) < 2000) ∧ Zr (m 269 x2.toNat) ∧ (((0 ≤ (m 269 x2.toNat)) → ((0 : Int) ≤ x1 ∧ (x1 : Int) < 16) ∧ Rn X (d + 3) 151 142 [some (.ref 262), some (.int (iz x1)), some (.int (iz x2)), some (.int (iz 0)), some (.int (iz (m 272 x1.toNat)))] [] (SS m J P) (QV post)) ∧ (¬ (0 ≤ (m 269 x2.toNat)) → ((0 : Int) ≤ x1 ∧ (x1 : Int) < 16) ∧ Rn X (d + 3) 151 142 [some (.ref 262), some (.int (iz x1)), some (.int (iz x2)), some (.int (iz 1)), some (.int (iz (m 272 x1.toNat)))] [] (SS m J P) (QV post)))))))) : Rn X (d + 3) 151 102 [some (.ref 262), some (.int (iz x1)), some (.int (iz x2)), none, none] [] (SS m J P) (QV post) := by
  refine s_iload_n (pc := 102) rfl rfl ?_
  refine s_aload_n (pc := 103) rfl rfl ?_
  refine s_getA (pc := 104) rfl ko_262 (po_262_28 hp) ?_
  refine s_iload_n (pc := 107) rfl rfl ?_
  obtain ⟨hb1, hw⟩ := hw
  refine s_iald (pc := 108) rfl ka_274 (by decide) hb1 ?_
  obtain ⟨hz2, hw⟩ := hw
  obtain ⟨hz3, hw⟩ := hw
  refine s_ic_ge (pc := 109) (tgt := 207) rfl rfl hz2 hz3 (fun hc => ?_) (fun hc => ?_)
  · replace hw := hw.1 hc
    refine s_aload_n (pc := 207) rfl rfl ?_
    refine s_getI (pc := 208) rfl ko_262 ?_
    obtain ⟨hz4, hw⟩ := hw
    refine s_if_le (pc := 211) (tgt := 215) rfl rfl hz4 (fun hc => ?_) (fun hc => ?_)
    · replace hw := hw.1 hc
      refine s_aload_n (pc := 215) rfl rfl ?_
      refine s_aload_n (pc := 216) rfl rfl ?_
      refine s_aload_n (pc := 217) rfl rfl ?_
      refine s_getA (pc := 218) rfl ko_262 (po_262_26 hp) ?_
      refine s_iload_n (pc := 221) rfl rfl ?_
      obtain ⟨hb5, hw⟩ := hw
      refine s_iald (pc := 222) rfl ka_272 (by decide) hb5 ?_
      refine s_aload_n (pc := 223) rfl rfl ?_
      refine s_getA (pc := 224) rfl ko_262 (po_262_27 hp) ?_
      refine s_iload_n (pc := 227) rfl rfl ?_
      obtain ⟨hb6, hw⟩ := hw
      refine s_iald (pc := 228) rfl ka_273 (by decide) hb6 ?_
      refine s_aload_n (pc := 229) rfl rfl ?_
      refine s_getA (pc := 230) rfl ko_262 (po_262_52 hp) ?_
      refine s_ci (pc := 233) (d := (d + 2)) (t := [.ref 262]) rfl rfl (am_ca_v (ps := [.ref 291, .int (iz (m 273 x1.toNat)), .int (iz (m 272 x1.toNat))]) rfl ko_262) (Nat.le_of_ble_eq_true rfl) (Ci.weak hw fun z10 m7 J8 P9 hw => ?_)
      obtain ⟨hp11, hw⟩ := hw
      refine s_putI (pc := 236) rfl ko_262 ?_
      refine s_aload_n (pc := 239) rfl rfl ?_
      refine s_aload_n (pc := 240) rfl rfl ?_
      refine s_aload_n (pc := 241) rfl rfl ?_
      refine s_getA (pc := 242) rfl ko_262 (po_262_27 hp11) ?_
      refine s_iload_n (pc := 245) rfl rfl ?_
      obtain ⟨hb12, hw⟩ := hw
      refine s_iald (pc := 246) rfl ka_273 (by decide) hb12 ?_
      refine s_aload_n (pc := 247) rfl rfl ?_
      refine s_getA (pc := 248) rfl ko_262 (po_262_28 hp11) ?_
      refine s_iload_n (pc := 251) rfl rfl ?_
      obtain ⟨hb13, hw⟩ := hw
      refine s_iald (pc := 252) rfl ka_274 (by decide) hb13 ?_
      refine s_aload_n (pc := 253) rfl rfl ?_
      refine s_getA (pc := 254) rfl ko_262 (po_262_53 hp11) ?_
      refine s_ci (pc := 257) (d := (d + 2)) (t := [.ref 262]) rfl rfl (am_ca_v (ps := [.ref 292, .int (iz ((mu m7 262 56 z10) 274 x1.toNat)), .int (iz ((mu m7 262 56 z10) 273 x1.toNat))]) rfl ko_262) (Nat.le_of_ble_eq_true rfl) (Ci.weak hw fun z17 m14 J15 P16 hw => ?_)
      obtain ⟨hp18, hw⟩ := hw
      refine s_putI (pc := 260) rfl ko_262 ?_
      refine s_aload_n (pc := 263) rfl rfl ?_
      refine s_ci (pc := 264) (d := (d + 2)) (t := []) rfl rfl (am_ca_v (ps := []) rfl ko_262) (Nat.le_of_ble_eq_true rfl) (Ci.weak hw fun z22 m19 J20 P21 hw => ?_)
      obtain ⟨hp23, hw⟩ := hw
      obtain ⟨hz24, hw⟩ := hw
      refine s_if_ne (pc := 267) (tgt := 282) rfl rfl hz24 (fun hc => ?_) (fun hc => ?_)
      · replace hw := hw.1 hc
        exact s_retv (pc := 282) rfl rfl hw
      · replace hw := hw.2 hc
        refine s_aload_n (pc := 270) rfl rfl ?_
        refine s_bipush (pc := 271) rfl (by decide) ?_
        refine s_aload_n (pc := 273) rfl rfl ?_
        refine s_getA (pc := 274) rfl ko_262 (po_262_29 hp23) ?_
        refine s_iload_n (pc := 277) rfl rfl ?_
        obtain ⟨hb25, hw⟩ := hw
        refine s_iald (pc := 278) rfl ka_275 (by decide) hb25 ?_
        refine s_cv (pc := 279) (d := (d + 2)) (t := []) rfl rfl (am_ca_v (ps := [.int (iz (m19 275 x1.toNat)), .int (iz 7)]) rfl ko_262) (Nat.le_of_ble_eq_true rfl) (Cv.weak hw fun m26 J27 P28 hw => ?_)
        obtain ⟨hp30, hw⟩ := hw
        exact s_retv (pc := 282) rfl rfl hw
    · replace hw := hw.2 hc
      exact s_retv (pc := 214) rfl rfl hw
  · replace hw := hw.2 hc
    refine s_aload_n (pc := 112) rfl rfl ?_
    refine s_getI (pc := 113) rfl ko_262 ?_
    obtain ⟨hz31, hw⟩ := hw
    refine s_if_ne (pc := 116) (tgt := 207) rfl rfl hz31 (fun hc => ?_) (fun hc => ?_)
    · replace hw := hw.1 hc
      refine s_aload_n (pc := 207) rfl rfl ?_
      refine s_getI (pc := 208) rfl ko_262 ?_
      obtain ⟨hz32, hw⟩ := hw
      refine s_if_le (pc := 211) (tgt := 215) rfl rfl hz32 (fun hc => ?_) (fun hc => ?_)
      · replace hw := hw.1 hc
        refine s_aload_n (pc := 215) rfl rfl ?_
        refine s_aload_n (pc := 216) rfl rfl ?_
        refine s_aload_n (pc := 217) rfl rfl ?_
        refine s_getA (pc := 218) rfl ko_262 (po_262_26 hp) ?_
        refine s_iload_n (pc := 221) rfl rfl ?_
        obtain ⟨hb33, hw⟩ := hw
        refine s_iald (pc := 222) rfl ka_272 (by decide) hb33 ?_
        refine s_aload_n (pc := 223) rfl rfl ?_
        refine s_getA (pc := 224) rfl ko_262 (po_262_27 hp) ?_
        refine s_iload_n (pc := 227) rfl rfl ?_
        obtain ⟨hb34, hw⟩ := hw
        refine s_iald (pc := 228) rfl ka_273 (by decide) hb34 ?_
        refine s_aload_n (pc := 229) rfl rfl ?_
        refine s_getA (pc := 230) rfl ko_262 (po_262_52 hp) ?_
        refine s_ci (pc := 233) (d := (d + 2)) (t := [.ref 262]) rfl rfl (am_ca_v (ps := [.ref 291, .int (iz (m 273 x1.toNat)), .int (iz (m 272 x1.toNat))]) rfl ko_262) (Nat.le_of_ble_eq_true rfl) (Ci.weak hw fun z38 m35 J36 P37 hw => ?_)
        obtain ⟨hp39, hw⟩ := hw
        refine s_putI (pc := 236) rfl ko_262 ?_
        refine s_aload_n (pc := 239) rfl rfl ?_
        refine s_aload_n (pc := 240) rfl rfl ?_
        refine s_aload_n (pc := 241) rfl rfl ?_
        refine s_getA (pc := 242) rfl ko_262 (po_262_27 hp39) ?_
        refine s_iload_n (pc := 245) rfl rfl ?_
        obtain ⟨hb40, hw⟩ := hw
        refine s_iald (pc := 246) rfl ka_273 (by decide) hb40 ?_
        refine s_aload_n (pc := 247) rfl rfl ?_
        refine s_getA (pc := 248) rfl ko_262 (po_262_28 hp39) ?_
        refine s_iload_n (pc := 251) rfl rfl ?_
        obtain ⟨hb41, hw⟩ := hw
        refine s_iald (pc := 252) rfl ka_274 (by decide) hb41 ?_
        refine s_aload_n (pc := 253) rfl rfl ?_
        refine s_getA (pc := 254) rfl ko_262 (po_262_53 hp39) ?_
        refine s_ci (pc := 257) (d := (d + 2)) (t := [.ref 262]) rfl rfl (am_ca_v (ps := [.ref 292, .int (iz ((mu m35 262 56 z38) 274 x1.toNat)), .int (iz ((mu m35 262 56 z38) 273 x1.toNat))]) rfl ko_262) (Nat.le_of_ble_eq_true rfl) (Ci.weak hw fun z45 m42 J43 P44 hw => ?_)
        obtain ⟨hp46, hw⟩ := hw
        refine s_putI (pc := 260) rfl ko_262 ?_
        refine s_aload_n (pc := 263) rfl rfl ?_
        refine s_ci (pc := 264) (d := (d + 2)) (t := []) rfl rfl (am_ca_v (ps := []) rfl ko_262) (Nat.le_of_ble_eq_true rfl) (Ci.weak hw fun z50 m47 J48 P49 hw => ?_)
        obtain ⟨hp51, hw⟩ := hw
        obtain ⟨hz52, hw⟩ := hw
        refine s_if_ne (pc := 267) (tgt := 282) rfl rfl hz52 (fun hc => ?_) (fun hc => ?_)
        · replace hw := hw.1 hc
          exact s_retv (pc := 282) rfl rfl hw
        · replace hw := hw.2 hc
          refine s_aload_n (pc := 270) rfl rfl ?_
          refine s_bipush (pc := 271) rfl (by decide) ?_
          refine s_aload_n (pc := 273) rfl rfl ?_
          refine s_getA (pc := 274) rfl ko_262 (po_262_29 hp51) ?_
          refine s_iload_n (pc := 277) rfl rfl ?_
          obtain ⟨hb53, hw⟩ := hw
          refine s_iald (pc := 278) rfl ka_275 (by decide) hb53 ?_
          refine s_cv (pc := 279) (d := (d + 2)) (t := []) rfl rfl (am_ca_v (ps := [.int (iz (m47 275 x1.toNat)), .int (iz 7)]) rfl ko_262) (Nat.le_of_ble_eq_true rfl) (Cv.weak hw fun m54 J55 P56 hw => ?_)
          obtain ⟨hp58, hw⟩ := hw
          exact s_retv (pc := 282) rfl rfl hw
      · replace hw := hw.2 hc
        exact s_retv (pc := 214) rfl rfl hw
    · replace hw := hw.2 hc
      refine s_aload_n (pc := 119) rfl rfl ?_
      refine s_getA (pc := 120) rfl ko_262 (po_262_23 hp) ?_
      refine s_iload_n (pc := 123) rfl rfl ?_
      obtain ⟨hb59, hw⟩ := hw
      refine s_iald (pc := 124) rfl ka_269 (by decide) hb59 ?_
      obtain ⟨hz60, hw⟩ := hw
      refine s_if_ge (pc := 125) (tgt := 132) rfl rfl hz60 (fun hc => ?_) (fun hc => ?_)
      · replace hw := hw.1 hc
        refine s_iconst (pc := 132) rfl ?_
        refine s_istore_n (pc := 133) (L' := [some (.ref 262), some (.int (iz x1)), some (.int (iz x2)), some (.int (iz 0)), none]) rfl (Nat.le_of_ble_eq_true rfl) rfl ?_
        refine s_aload_n (pc := 134) rfl rfl ?_
        refine s_getA (pc := 135) rfl ko_262 (po_262_26 hp) ?_
        refine s_iload_n (pc := 138) rfl rfl ?_
        obtain ⟨hb61, hw⟩ := hw
        refine s_iald (pc := 139) rfl ka_272 (by decide) hb61 ?_
        refine s_istore (pc := 140) (L' := [some (.ref 262), some (.int (iz x1)), some (.int (iz x2)), some (.int (iz 0)), some (.int (iz (m 272 x1.toNat)))]) rfl (Nat.le_of_ble_eq_true rfl) rfl ?_
        exact hw
      · replace hw := hw.2 hc
        refine s_iconst (pc := 128) rfl ?_
        refine s_goto (pc := 129) (tgt := 133) rfl rfl ?_
        refine s_istore_n (pc := 133) (L' := [some (.ref 262), some (.int (iz x1)), some (.int (iz x2)), some (.int (iz 1)), none]) rfl (Nat.le_of_ble_eq_true rfl) rfl ?_
        refine s_aload_n (pc := 134) rfl rfl ?_
        refine s_getA (pc := 135) rfl ko_262 (po_262_26 hp) ?_
        refine s_iload_n (pc := 138) rfl rfl ?_
        obtain ⟨hb62, hw⟩ := hw
        refine s_iald (pc := 139) rfl ka_272 (by decide) hb62 ?_
        refine s_istore (pc := 140) (L' := [some (.ref 262), some (.int (iz x1)), some (.int (iz x2)), some (.int (iz 1)), some (.int (iz (m 272 x1.toNat)))]) rfl (Nat.le_of_ble_eq_true rfl) rfl ?_
        exact hw

set_option maxRecDepth 20000 in
set_option maxHeartbeats 4000000 in
theorem b_Mdl_judgeRule_142 {X : aX} {d : Nat} (x1 : Int) (x2 : Int) (x3 : Int) (x4 : Int)  (m : Mi) (J : Mj) (P : Mp) (hp : PP P) (post : Mi → Mj → Mp → Prop)
    (hw : ((0 : Int) ≤ x1 ∧ (x1 : Int) < 16) ∧ Zr (x4) ∧ Zr (m 273 x1.toNat) ∧ ((((m 273 x1.toNat) ≤ x4) → Zr (x3) ∧ (((¬ x3 = 0) → Rn X (d + 3) 151 102 [some (.ref 262), some (.int (iz x1)), some (.int (iz (x2 + 1))), none, none] [] (SS m J P) (QV post)) ∧ (¬ (¬ x3 = 0) → ((0 : Int) ≤ x2 ∧ (x2 : Int) < 2000) ∧ Cv X (d + 2) 143 [.ref 262, .int (iz 7), .int (iz (m 270 x2.toNat))] m J P (fun m6 J7 P8 => PP P8 ∧ Rn X (d + 3) 151 102 [some (.ref 262), some (.int (iz x1)), some (.int (iz (x2 + 1))), none, none] [] (SS m6 J7 P8) (QV post))))) ∧ (¬ ((m 273 x1.toNat) ≤ x4) → Zr (x3) ∧ (((¬ x3 = 0) → Rn X (d + 3) 151 142 [some (.ref 262), some (.int (iz x1)), some (.int (iz x2)), some (.int (iz 1)), some (.int (iz (x4 + 1)))] [] (SS m J P) (QV post)) ∧ (¬ (¬ x3 = 0) → ((0 : Int) ≤ x4 ∧ (x4 : Int) < 2000) ∧ ((0 : Int) ≤ x2 ∧ (x2 : Int) < 2000) ∧ Zr (m 269 x4.toNat) ∧ Zr (m 269 x2.toNat) ∧ (((¬ (m 269 x4.toNat) = (m 269 x2.toNat)) → Rn X (d + 3) 151 142 [some (.ref 262), some (.int (iz x1)), some (.int (iz x2)), some (.int (iz 0)), some (.int (iz (x4 + 1)))] [] (SS m J P) (QV post)) ∧ (¬ (¬ (m 269 x4.toNat) = (m 269 x2.toNat)) → Rn X (d + 3) 151 142 [some (.ref 262), some (.int (iz x1)), some (.int (iz x2)), some (.int (iz 1)), some (.int (iz (x4 + 1)))] [] (SS m J P) (QV post)))))))) : Rn X (d + 3) 151 142 [some (.ref 262), some (.int (iz x1)), some (.int (iz x2)), some (.int (iz x3)), some (.int (iz x4))] [] (SS m J P) (QV post) := by
  refine s_iload (pc := 142) rfl rfl ?_
  refine s_aload_n (pc := 144) rfl rfl ?_
  refine s_getA (pc := 145) rfl ko_262 (po_262_27 hp) ?_
  refine s_iload_n (pc := 148) rfl rfl ?_
  obtain ⟨hb1, hw⟩ := hw
  refine s_iald (pc := 149) rfl ka_273 (by decide) hb1 ?_
  obtain ⟨hz2, hw⟩ := hw
  obtain ⟨hz3, hw⟩ := hw
  refine s_ic_ge (pc := 150) (tgt := 185) rfl rfl hz2 hz3 (fun hc => ?_) (fun hc => ?_)
  · replace hw := hw.1 hc
    refine s_iload_n (pc := 185) rfl rfl ?_
    obtain ⟨hz4, hw⟩ := hw
    refine s_if_ne (pc := 186) (tgt := 201) rfl rfl hz4 (fun hc => ?_) (fun hc => ?_)
    · replace hw := hw.1 hc
      refine s_iinc (pc := 201) (L' := [some (.ref 262), some (.int (iz x1)), some (.int (iz (x2 + 1))), some (.int (iz x3)), some (.int (iz x4))]) rfl rfl (Nat.le_of_ble_eq_true rfl) rfl ?_
      refine s_goto (pc := 204) (tgt := 102) rfl rfl ?_
      exact Rn.weakL hw (LLe.keep _ (LLe.keep _ (LLe.keep _ (LLe.drop _ (LLe.drop _ (LLe.nil))))))
    · replace hw := hw.2 hc
      refine s_aload_n (pc := 189) rfl rfl ?_
      refine s_bipush (pc := 190) rfl (by decide) ?_
      refine s_aload_n (pc := 192) rfl rfl ?_
      refine s_getA (pc := 193) rfl ko_262 (po_262_24 hp) ?_
      refine s_iload_n (pc := 196) rfl rfl ?_
      obtain ⟨hb5, hw⟩ := hw
      refine s_iald (pc := 197) rfl ka_270 (by decide) hb5 ?_
      refine s_cv (pc := 198) (d := (d + 2)) (t := []) rfl rfl (am_ca_v (ps := [.int (iz (m 270 x2.toNat)), .int (iz 7)]) rfl ko_262) (Nat.le_of_ble_eq_true rfl) (Cv.weak hw fun m6 J7 P8 hw => ?_)
      obtain ⟨hp10, hw⟩ := hw
      refine s_iinc (pc := 201) (L' := [some (.ref 262), some (.int (iz x1)), some (.int (iz (x2 + 1))), some (.int (iz x3)), some (.int (iz x4))]) rfl rfl (Nat.le_of_ble_eq_true rfl) rfl ?_
      refine s_goto (pc := 204) (tgt := 102) rfl rfl ?_
      exact Rn.weakL hw (LLe.keep _ (LLe.keep _ (LLe.keep _ (LLe.drop _ (LLe.drop _ (LLe.nil))))))
  · replace hw := hw.2 hc
    refine s_iload_n (pc := 153) rfl rfl ?_
    obtain ⟨hz11, hw⟩ := hw
    refine s_if_ne (pc := 154) (tgt := 173) rfl rfl hz11 (fun hc => ?_) (fun hc => ?_)
    · replace hw := hw.1 hc
      refine s_iconst (pc := 173) rfl ?_
      refine s_goto (pc := 174) (tgt := 178) rfl rfl ?_
      refine s_istore_n (pc := 178) (L' := [some (.ref 262), some (.int (iz x1)), some (.int (iz x2)), some (.int (iz 1)), some (.int (iz x4))]) rfl (Nat.le_of_ble_eq_true rfl) rfl ?_
      refine s_iinc (pc := 179) (L' := [some (.ref 262), some (.int (iz x1)), some (.int (iz x2)), some (.int (iz 1)), some (.int (iz (x4 + 1)))]) rfl rfl (Nat.le_of_ble_eq_true rfl) rfl ?_
      refine s_goto (pc := 182) (tgt := 142) rfl rfl ?_
      exact hw
    · replace hw := hw.2 hc
      refine s_aload_n (pc := 157) rfl rfl ?_
      refine s_getA (pc := 158) rfl ko_262 (po_262_23 hp) ?_
      refine s_iload (pc := 161) rfl rfl ?_
      obtain ⟨hb12, hw⟩ := hw
      refine s_iald (pc := 163) rfl ka_269 (by decide) hb12 ?_
      refine s_aload_n (pc := 164) rfl rfl ?_
      refine s_getA (pc := 165) rfl ko_262 (po_262_23 hp) ?_
      refine s_iload_n (pc := 168) rfl rfl ?_
      obtain ⟨hb13, hw⟩ := hw
      refine s_iald (pc := 169) rfl ka_269 (by decide) hb13 ?_
      obtain ⟨hz14, hw⟩ := hw
      obtain ⟨hz15, hw⟩ := hw
      refine s_ic_ne (pc := 170) (tgt := 177) rfl rfl hz14 hz15 (fun hc => ?_) (fun hc => ?_)
      · replace hw := hw.1 hc
        refine s_iconst (pc := 177) rfl ?_
        refine s_istore_n (pc := 178) (L' := [some (.ref 262), some (.int (iz x1)), some (.int (iz x2)), some (.int (iz 0)), some (.int (iz x4))]) rfl (Nat.le_of_ble_eq_true rfl) rfl ?_
        refine s_iinc (pc := 179) (L' := [some (.ref 262), some (.int (iz x1)), some (.int (iz x2)), some (.int (iz 0)), some (.int (iz (x4 + 1)))]) rfl rfl (Nat.le_of_ble_eq_true rfl) rfl ?_
        refine s_goto (pc := 182) (tgt := 142) rfl rfl ?_
        exact hw
      · replace hw := hw.2 hc
        refine s_iconst (pc := 173) rfl ?_
        refine s_goto (pc := 174) (tgt := 178) rfl rfl ?_
        refine s_istore_n (pc := 178) (L' := [some (.ref 262), some (.int (iz x1)), some (.int (iz x2)), some (.int (iz 1)), some (.int (iz x4))]) rfl (Nat.le_of_ble_eq_true rfl) rfl ?_
        refine s_iinc (pc := 179) (L' := [some (.ref 262), some (.int (iz x1)), some (.int (iz x2)), some (.int (iz 1)), some (.int (iz (x4 + 1)))]) rfl rfl (Nat.le_of_ble_eq_true rfl) rfl ?_
        refine s_goto (pc := 182) (tgt := 142) rfl rfl ?_
        exact hw

set_option maxRecDepth 20000 in
set_option maxHeartbeats 4000000 in
theorem b_Mdl_judgeNames_0 {X : aX} {d : Nat} (x1 : Int) (x2 : Int) (x3 nx3 : Nat) (x4 : Int) (x5 nx5 : Nat) (kx3 : am_kd an_K x3 = some (.inr (3, nx3))) (bx3 : nx3 ≤ 100000) (kx5 : am_kd an_K x5 = some (.inr (0, nx5))) (bx5 : nx5 ≤ 100000) (m : Mi) (J : Mj) (P : Mp) (hp : PP P) (post : Mi → Mj → Mp → Prop)
    (hw : Rn X (d + 1) 152 3 [some (.ref 262), some (.int (iz x1)), some (.int (iz x2)), some (.ref x3), some (.int (iz x4)), some (.ref x5), some (.int (iz x1)), none] [] (SS m J P) (QV post)) : Rn X (d + 1) 152 0 [some (.ref 262), some (.int (iz x1)), some (.int (iz x2)), some (.ref x3), some (.int (iz x4)), some (.ref x5), none, none] [] (SS m J P) (QV post) := by
  refine s_iload_n (pc := 0) rfl rfl ?_
  refine s_istore (pc := 1) (L' := [some (.ref 262), some (.int (iz x1)), some (.int (iz x2)), some (.ref x3), some (.int (iz x4)), some (.ref x5), some (.int (iz x1)), none]) rfl (Nat.le_of_ble_eq_true rfl) rfl ?_
  exact hw

set_option maxRecDepth 20000 in
set_option maxHeartbeats 4000000 in
theorem b_Mdl_judgeNames_3 {X : aX} {d : Nat} (x1 : Int) (x2 : Int) (x3 nx3 : Nat) (x4 : Int) (x5 nx5 : Nat) (x6 : Int) (kx3 : am_kd an_K x3 = some (.inr (3, nx3))) (bx3 : nx3 ≤ 100000) (kx5 : am_kd an_K x5 = some (.inr (0, nx5))) (bx5 : nx5 ≤ 100000) (m : Mi) (J : Mj) (P : Mp) (hp : PP P) (post : Mi → Mj → Mp → Prop)
    (hw : Zr (x6) ∧ Zr (x2) ∧ (((x2 ≤ x6) → post m J P) ∧ (¬ (x2 ≤ x6) → Zr (m 262 10) ∧ (((¬ (m 262 10) = 0) → post m J P) ∧ (¬ (¬ (m 262 10) = 0) → ((0 : Int) ≤ x6 ∧ (x6 : Int) < 2000) ∧ Zr (m 269 x6.toNat) ∧ ((((m 269 x6.toNat) < 0) → ((0 : Int) ≤ x6 ∧ (x6 : Int) < 2000) ∧ Ci X d 150 [.ref 262, .long (J 265 x6.toNat), .ref x3, .int (iz x4)] m J P (fun z10 m7 J8 P9 => PP P9 ∧ Zr (z10) ∧ (((0 ≤ z10) → ((0 : Int) ≤ z10 ∧ (z10 : Int) < nx5) ∧ ((0 : Int) ≤ x6 ∧ (x6 : Int) < 2000) ∧ Zr (m7 x5 z10.toNat) ∧ Zr (m7 271 x6.toNat) ∧ ((((m7 x5 z10.toNat) = (m7 271 x6.toNat)) → Rn X (d + 1) 152 3 [some (.ref 262), some (.int (iz x1)), some (.int (iz x2)), some (.ref x3), some (.int (iz x4)), some (.ref x5), some (.int (iz (x6 + 1))), none] [] (SS m7 J8 P9) (QV post)) ∧ (¬ ((m7 x5 z10.toNat) = (m7 271 x6.toNat)) → ((0 : Int) ≤ x6 ∧ (x6 : Int) < 2000) ∧ Cv X d 143 [.ref 262, .int (iz 6), .int (iz (m7 270 x6.toNat))] m7 J8 P9 (fun m18 J19 P20 => PP P20 ∧ Rn X (d + 1) 152 3 [some (.ref 262), some (.int (iz x1)), some (.int (iz x2)), some (.ref x3), some (.int (iz x4)), some (.ref x5), some (.int (iz (x6 + 1))), none] [] (SS m18 J19 P20) (QV post))))) ∧ (¬ (0 ≤ z10) → ((0 : Int) ≤ x6 ∧ (x6 : Int) < 2000) ∧ Cv X d 143 [.ref 262, .int (iz 5), .int (iz (m7 270 x6.toNat))] m7 J8 P9 (fun m24 J25 P26 => PP P26 ∧ Rn X (d + 1) 152 3 [some (.ref 262), some (.int (iz x1)), some (.int (iz x2)), some (.ref x3), some (.int (iz x4)), some (.ref x5), some (.int (iz (x6 + 1))), none] [] (SS m24 J25 P26) (QV post)))))) ∧ (¬ ((m 269 x6.toNat) < 0) → Rn X (d + 1) 152 3 [some (.ref 262), some (.int (iz x1)), some (.int (iz x2)), some (.ref x3), some (.int (iz x4)), some (.ref x5), some (.int (iz (x6 + 1))), none] [] (SS m J P) (QV post)))))))) : Rn X (d + 1) 152 3 [some (.ref 262), some (.int (iz x1)), some (.int (iz x2)), some (.ref x3), some (.int (iz x4)), some (.ref x5), some (.int (iz x6)), none] [] (SS m J P) (QV post) := by
  refine s_iload (pc := 3) rfl rfl ?_
  refine s_iload_n (pc := 5) rfl rfl ?_
  obtain ⟨hz1, hw⟩ := hw
  obtain ⟨hz2, hw⟩ := hw
  refine s_ic_ge (pc := 6) (tgt := 99) rfl rfl hz1 hz2 (fun hc => ?_) (fun hc => ?_)
  · replace hw := hw.1 hc
    exact s_retv (pc := 99) rfl rfl hw
  · replace hw := hw.2 hc
    refine s_aload_n (pc := 9) rfl rfl ?_
    refine s_getI (pc := 10) rfl ko_262 ?_
    obtain ⟨hz3, hw⟩ := hw
    refine s_if_ne (pc := 13) (tgt := 99) rfl rfl hz3 (fun hc => ?_) (fun hc => ?_)
    · replace hw := hw.1 hc
      exact s_retv (pc := 99) rfl rfl hw
    · replace hw := hw.2 hc
      refine s_aload_n (pc := 16) rfl rfl ?_
      refine s_getA (pc := 17) rfl ko_262 (po_262_23 hp) ?_
      refine s_iload (pc := 20) rfl rfl ?_
      obtain ⟨hb4, hw⟩ := hw
      refine s_iald (pc := 22) rfl ka_269 (by decide) hb4 ?_
      obtain ⟨hz5, hw⟩ := hw
      refine s_if_lt (pc := 23) (tgt := 29) rfl rfl hz5 (fun hc => ?_) (fun hc => ?_)
      · replace hw := hw.1 hc
        refine s_aload_n (pc := 29) rfl rfl ?_
        refine s_aload_n (pc := 30) rfl rfl ?_
        refine s_getA (pc := 31) rfl ko_262 (po_262_19 hp) ?_
        refine s_iload (pc := 34) rfl rfl ?_
        obtain ⟨hb6, hw⟩ := hw
        refine s_lald (pc := 36) rfl ka_265 (by decide) hb6 ?_
        refine s_aload_n (pc := 37) rfl rfl ?_
        refine s_iload (pc := 38) rfl rfl ?_
        refine s_ci (pc := 40) (d := d) (t := []) rfl rfl (am_ca_v (ps := [.int (iz x4), .ref x3, .long (J 265 x6.toNat)]) rfl ko_262) (Nat.le_of_ble_eq_true rfl) (Ci.weak hw fun z10 m7 J8 P9 hw => ?_)
        obtain ⟨hp11, hw⟩ := hw
        refine s_istore (pc := 43) (L' := [some (.ref 262), some (.int (iz x1)), some (.int (iz x2)), some (.ref x3), some (.int (iz x4)), some (.ref x5), some (.int (iz x6)), some (.int (iz z10))]) rfl (Nat.le_of_ble_eq_true rfl) rfl ?_
        refine s_iload (pc := 45) rfl rfl ?_
        obtain ⟨hz12, hw⟩ := hw
        refine s_if_ge (pc := 47) (tgt := 65) rfl rfl hz12 (fun hc => ?_) (fun hc => ?_)
        · replace hw := hw.1 hc
          refine s_aload (pc := 65) rfl rfl ?_
          refine s_iload (pc := 67) rfl rfl ?_
          obtain ⟨hb13, hw⟩ := hw
          refine s_iald (pc := 69) rfl kx5 bx5 hb13 ?_
          refine s_aload_n (pc := 70) rfl rfl ?_
          refine s_getA (pc := 71) rfl ko_262 (po_262_25 hp11) ?_
          refine s_iload (pc := 74) rfl rfl ?_
          obtain ⟨hb14, hw⟩ := hw
          refine s_iald (pc := 76) rfl ka_271 (by decide) hb14 ?_
          obtain ⟨hz15, hw⟩ := hw
          obtain ⟨hz16, hw⟩ := hw
          refine s_ic_eq (pc := 77) (tgt := 93) rfl rfl hz15 hz16 (fun hc => ?_) (fun hc => ?_)
          · replace hw := hw.1 hc
            refine s_iinc (pc := 93) (L' := [some (.ref 262), some (.int (iz x1)), some (.int (iz x2)), some (.ref x3), some (.int (iz x4)), some (.ref x5), some (.int (iz (x6 + 1))), some (.int (iz z10))]) rfl rfl (Nat.le_of_ble_eq_true rfl) rfl ?_
            refine s_goto (pc := 96) (tgt := 3) rfl rfl ?_
            exact Rn.weakL hw (LLe.keep _ (LLe.keep _ (LLe.keep _ (LLe.keep _ (LLe.keep _ (LLe.keep _ (LLe.keep _ (LLe.drop _ (LLe.nil)))))))))
          · replace hw := hw.2 hc
            refine s_aload_n (pc := 80) rfl rfl ?_
            refine s_bipush (pc := 81) rfl (by decide) ?_
            refine s_aload_n (pc := 83) rfl rfl ?_
            refine s_getA (pc := 84) rfl ko_262 (po_262_24 hp11) ?_
            refine s_iload (pc := 87) rfl rfl ?_
            obtain ⟨hb17, hw⟩ := hw
            refine s_iald (pc := 89) rfl ka_270 (by decide) hb17 ?_
            refine s_cv (pc := 90) (d := d) (t := []) rfl rfl (am_ca_v (ps := [.int (iz (m7 270 x6.toNat)), .int (iz 6)]) rfl ko_262) (Nat.le_of_ble_eq_true rfl) (Cv.weak hw fun m18 J19 P20 hw => ?_)
            obtain ⟨hp22, hw⟩ := hw
            refine s_iinc (pc := 93) (L' := [some (.ref 262), some (.int (iz x1)), some (.int (iz x2)), some (.ref x3), some (.int (iz x4)), some (.ref x5), some (.int (iz (x6 + 1))), some (.int (iz z10))]) rfl rfl (Nat.le_of_ble_eq_true rfl) rfl ?_
            refine s_goto (pc := 96) (tgt := 3) rfl rfl ?_
            exact Rn.weakL hw (LLe.keep _ (LLe.keep _ (LLe.keep _ (LLe.keep _ (LLe.keep _ (LLe.keep _ (LLe.keep _ (LLe.drop _ (LLe.nil)))))))))
        · replace hw := hw.2 hc
          refine s_aload_n (pc := 50) rfl rfl ?_
          refine s_iconst (pc := 51) rfl ?_
          refine s_aload_n (pc := 52) rfl rfl ?_
          refine s_getA (pc := 53) rfl ko_262 (po_262_24 hp11) ?_
          refine s_iload (pc := 56) rfl rfl ?_
          obtain ⟨hb23, hw⟩ := hw
          refine s_iald (pc := 58) rfl ka_270 (by decide) hb23 ?_
          refine s_cv (pc := 59) (d := d) (t := []) rfl rfl (am_ca_v (ps := [.int (iz (m7 270 x6.toNat)), .int (iz 5)]) rfl ko_262) (Nat.le_of_ble_eq_true rfl) (Cv.weak hw fun m24 J25 P26 hw => ?_)
          obtain ⟨hp28, hw⟩ := hw
          refine s_goto (pc := 62) (tgt := 93) rfl rfl ?_
          refine s_iinc (pc := 93) (L' := [some (.ref 262), some (.int (iz x1)), some (.int (iz x2)), some (.ref x3), some (.int (iz x4)), some (.ref x5), some (.int (iz (x6 + 1))), some (.int (iz z10))]) rfl rfl (Nat.le_of_ble_eq_true rfl) rfl ?_
          refine s_goto (pc := 96) (tgt := 3) rfl rfl ?_
          exact Rn.weakL hw (LLe.keep _ (LLe.keep _ (LLe.keep _ (LLe.keep _ (LLe.keep _ (LLe.keep _ (LLe.keep _ (LLe.drop _ (LLe.nil)))))))))
      · replace hw := hw.2 hc
        refine s_goto (pc := 26) (tgt := 93) rfl rfl ?_
        refine s_iinc (pc := 93) (L' := [some (.ref 262), some (.int (iz x1)), some (.int (iz x2)), some (.ref x3), some (.int (iz x4)), some (.ref x5), some (.int (iz (x6 + 1))), none]) rfl rfl (Nat.le_of_ble_eq_true rfl) rfl ?_
        refine s_goto (pc := 96) (tgt := 3) rfl rfl ?_
        exact hw

set_option maxRecDepth 20000 in
set_option maxHeartbeats 4000000 in
theorem b_Mdl_numbers_0 {X : aX} {d : Nat} (x1 : Int) (x2 : Int) (x3 nx3 : Nat) (kx3 : am_kd an_K x3 = some (.inr (0, nx3))) (bx3 : nx3 ≤ 100000) (m : Mi) (J : Mj) (P : Mp) (hp : PP P) (post : Int → Mi → Mj → Mp → Prop)
    (hw : Rn X (d + 1) 153 3 [some (.ref 262), some (.int (iz x1)), some (.int (iz x2)), some (.ref x3), some (.int (iz x1))] [] (SS m J P) (QI post)) : Rn X (d + 1) 153 0 [some (.ref 262), some (.int (iz x1)), some (.int (iz x2)), some (.ref x3), none] [] (SS m J P) (QI post) := by
  refine s_iload_n (pc := 0) rfl rfl ?_
  refine s_istore (pc := 1) (L' := [some (.ref 262), some (.int (iz x1)), some (.int (iz x2)), some (.ref x3), some (.int (iz x1))]) rfl (Nat.le_of_ble_eq_true rfl) rfl ?_
  exact hw

set_option maxRecDepth 20000 in
set_option maxHeartbeats 4000000 in
theorem b_Mdl_numbers_3 {X : aX} {d : Nat} (x1 : Int) (x2 : Int) (x3 nx3 : Nat) (x4 : Int) (kx3 : am_kd an_K x3 = some (.inr (0, nx3))) (bx3 : nx3 ≤ 100000) (m : Mi) (J : Mj) (P : Mp) (hp : PP P) (post : Int → Mi → Mj → Mp → Prop)
    (hw : Zr (x4) ∧ Zr (x2) ∧ (((x2 ≤ x4) → post (x2 - x1) m J P) ∧ (¬ (x2 ≤ x4) → ((0 : Int) ≤ x4 ∧ (x4 : Int) < 2000) ∧ Zr (m 269 x4.toNat) ∧ ((((m 269 x4.toNat) < 0) → ((0 : Int) ≤ x4 ∧ (x4 : Int) < 2000) ∧ Ci X d 150 [.ref 262, .long (J 265 x4.toNat), .ref 264, .int (iz (m 262 14))] m J P (fun z9 m6 J7 P8 => PP P8 ∧ ((0 : Int) ≤ (x4 - x1) ∧ ((x4 - x1) : Int) < nx3) ∧ Rn X (d + 1) 153 3 [some (.ref 262), some (.int (iz x1)), some (.int (iz x2)), some (.ref x3), some (.int (iz (x4 + 1)))] [] (SS (mu m6 x3 (x4 - x1).toNat z9) J7 P8) (QI post))) ∧ (¬ ((m 269 x4.toNat) < 0) → ((0 : Int) ≤ x4 ∧ (x4 : Int) < 2000) ∧ ((0 : Int) ≤ (x4 - x1) ∧ ((x4 - x1) : Int) < nx3) ∧ Rn X (d + 1) 153 3 [some (.ref 262), some (.int (iz x1)), some (.int (iz x2)), some (.ref x3), some (.int (iz (x4 + 1)))] [] (SS (mu m x3 (x4 - x1).toNat (((-1)) - (m 269 x4.toNat))) J P) (QI post)))))) : Rn X (d + 1) 153 3 [some (.ref 262), some (.int (iz x1)), some (.int (iz x2)), some (.ref x3), some (.int (iz x4))] [] (SS m J P) (QI post) := by
  refine s_iload (pc := 3) rfl rfl ?_
  refine s_iload_n (pc := 5) rfl rfl ?_
  obtain ⟨hz1, hw⟩ := hw
  obtain ⟨hz2, hw⟩ := hw
  refine s_ic_ge (pc := 6) (tgt := 62) rfl rfl hz1 hz2 (fun hc => ?_) (fun hc => ?_)
  · replace hw := hw.1 hc
    refine s_iload_n (pc := 62) rfl rfl ?_
    refine s_iload_n (pc := 63) rfl rfl ?_
    refine s_isub (pc := 64) rfl ?_
    exact s_reti (pc := 65) rfl rfl hw
  · replace hw := hw.2 hc
    refine s_aload_n (pc := 9) rfl rfl ?_
    refine s_iload (pc := 10) rfl rfl ?_
    refine s_iload_n (pc := 12) rfl rfl ?_
    refine s_isub (pc := 13) rfl ?_
    refine s_aload_n (pc := 14) rfl rfl ?_
    refine s_getA (pc := 15) rfl ko_262 (po_262_23 hp) ?_
    refine s_iload (pc := 18) rfl rfl ?_
    obtain ⟨hb3, hw⟩ := hw
    refine s_iald (pc := 20) rfl ka_269 (by decide) hb3 ?_
    obtain ⟨hz4, hw⟩ := hw
    refine s_if_lt (pc := 21) (tgt := 36) rfl rfl hz4 (fun hc => ?_) (fun hc => ?_)
    · replace hw := hw.1 hc
      refine s_aload_n (pc := 36) rfl rfl ?_
      refine s_aload_n (pc := 37) rfl rfl ?_
      refine s_getA (pc := 38) rfl ko_262 (po_262_19 hp) ?_
      refine s_iload (pc := 41) rfl rfl ?_
      obtain ⟨hb5, hw⟩ := hw
      refine s_lald (pc := 43) rfl ka_265 (by decide) hb5 ?_
      refine s_aload_n (pc := 44) rfl rfl ?_
      refine s_getA (pc := 45) rfl ko_262 (po_262_18 hp) ?_
      refine s_aload_n (pc := 48) rfl rfl ?_
      refine s_getI (pc := 49) rfl ko_262 ?_
      refine s_ci (pc := 52) (d := d) (t := [.int (iz (x4 - x1)), .ref x3]) rfl rfl (am_ca_v (ps := [.int (iz (m 262 14)), .ref 264, .long (J 265 x4.toNat)]) rfl ko_262) (Nat.le_of_ble_eq_true rfl) (Ci.weak hw fun z9 m6 J7 P8 hw => ?_)
      obtain ⟨hp10, hw⟩ := hw
      obtain ⟨hb11, hw⟩ := hw
      refine s_iast (pc := 55) rfl kx3 bx3 hb11 ?_
      refine s_iinc (pc := 56) (L' := [some (.ref 262), some (.int (iz x1)), some (.int (iz x2)), some (.ref x3), some (.int (iz (x4 + 1)))]) rfl rfl (Nat.le_of_ble_eq_true rfl) rfl ?_
      refine s_goto (pc := 59) (tgt := 3) rfl rfl ?_
      exact hw
    · replace hw := hw.2 hc
      refine s_iconst (pc := 24) rfl ?_
      refine s_aload_n (pc := 25) rfl rfl ?_
      refine s_getA (pc := 26) rfl ko_262 (po_262_23 hp) ?_
      refine s_iload (pc := 29) rfl rfl ?_
      obtain ⟨hb12, hw⟩ := hw
      refine s_iald (pc := 31) rfl ka_269 (by decide) hb12 ?_
      refine s_isub (pc := 32) rfl ?_
      refine s_goto (pc := 33) (tgt := 55) rfl rfl ?_
      obtain ⟨hb13, hw⟩ := hw
      refine s_iast (pc := 55) rfl kx3 bx3 hb13 ?_
      refine s_iinc (pc := 56) (L' := [some (.ref 262), some (.int (iz x1)), some (.int (iz x2)), some (.ref x3), some (.int (iz (x4 + 1)))]) rfl rfl (Nat.le_of_ble_eq_true rfl) rfl ?_
      refine s_goto (pc := 59) (tgt := 3) rfl rfl ?_
      exact hw

set_option maxRecDepth 20000 in
set_option maxHeartbeats 4000000 in
theorem b_Mdl_aboveAll_0 {X : aX} {d : Nat}   (m : Mi) (J : Mj) (P : Mp) (hp : PP P) (post : Int → Mi → Mj → Mp → Prop)
    (hw : Cv X (d + 1) 155 [.ref 291, .int (iz (m 262 56)), .ref 293, .ref 268] m J P (fun m1 J2 P3 => PP P3 ∧ Cv X (d + 1) 155 [.ref 292, .int (iz (m1 262 57)), .ref 294, .ref 268] m1 J2 P3 (fun m6 J7 P8 => PP P8 ∧ Rn X (d + 2) 154 45 [some (.ref 262), some (.int (iz ((m6 262 56) - 1))), none] [] (SS m6 J7 P8) (QI post)))) : Rn X (d + 2) 154 0 [some (.ref 262), none, none] [] (SS m J P) (QI post) := by
  refine s_aload_n (pc := 0) rfl rfl ?_
  refine s_getA (pc := 1) rfl ko_262 (po_262_52 hp) ?_
  refine s_aload_n (pc := 4) rfl rfl ?_
  refine s_getI (pc := 5) rfl ko_262 ?_
  refine s_aload_n (pc := 8) rfl rfl ?_
  refine s_getA (pc := 9) rfl ko_262 (po_262_54 hp) ?_
  refine s_aload_n (pc := 12) rfl rfl ?_
  refine s_getA (pc := 13) rfl ko_262 (po_262_22 hp) ?_
  refine s_cv (pc := 16) (d := (d + 1)) (t := []) rfl rfl (am_ca_s (ps := [.ref 268, .ref 293, .int (iz (m 262 56)), .ref 291]) rfl) (Nat.le_of_ble_eq_true rfl) (Cv.weak hw fun m1 J2 P3 hw => ?_)
  obtain ⟨hp5, hw⟩ := hw
  refine s_aload_n (pc := 19) rfl rfl ?_
  refine s_getA (pc := 20) rfl ko_262 (po_262_53 hp5) ?_
  refine s_aload_n (pc := 23) rfl rfl ?_
  refine s_getI (pc := 24) rfl ko_262 ?_
  refine s_aload_n (pc := 27) rfl rfl ?_
  refine s_getA (pc := 28) rfl ko_262 (po_262_55 hp5) ?_
  refine s_aload_n (pc := 31) rfl rfl ?_
  refine s_getA (pc := 32) rfl ko_262 (po_262_22 hp5) ?_
  refine s_cv (pc := 35) (d := (d + 1)) (t := []) rfl rfl (am_ca_s (ps := [.ref 268, .ref 294, .int (iz (m1 262 57)), .ref 292]) rfl) (Nat.le_of_ble_eq_true rfl) (Cv.weak hw fun m6 J7 P8 hw => ?_)
  obtain ⟨hp10, hw⟩ := hw
  refine s_aload_n (pc := 38) rfl rfl ?_
  refine s_getI (pc := 39) rfl ko_262 ?_
  refine s_iconst (pc := 42) rfl ?_
  refine s_isub (pc := 43) rfl ?_
  refine s_istore_n (pc := 44) (L' := [some (.ref 262), some (.int (iz ((m6 262 56) - 1))), none]) rfl (Nat.le_of_ble_eq_true rfl) rfl ?_
  exact hw

set_option maxRecDepth 20000 in
set_option maxHeartbeats 4000000 in
theorem b_Mdl_aboveAll_45 {X : aX} {d : Nat} (x1 : Int)  (m : Mi) (J : Mj) (P : Mp) (hp : PP P) (post : Int → Mi → Mj → Mp → Prop)
    (hw : Zr (x1) ∧ (((x1 < 0) → ((0 : Int) ≤ 0 ∧ (0 : Int) < 1600) ∧ ((m 295 (0 : Int).toNat) = 0 ∨ (m 295 (0 : Int).toNat) = 1) ∧ post (m 295 (0 : Int).toNat) m J P) ∧ (¬ (x1 < 0) → Rn X (d + 2) 154 56 [some (.ref 262), some (.int (iz x1)), some (.int (iz ((m 262 57) - 1)))] [] (SS m J P) (QI post)))) : Rn X (d + 2) 154 45 [some (.ref 262), some (.int (iz x1)), none] [] (SS m J P) (QI post) := by
  refine s_iload_n (pc := 45) rfl rfl ?_
  obtain ⟨hz1, hw⟩ := hw
  refine s_if_lt (pc := 46) (tgt := 89) rfl rfl hz1 (fun hc => ?_) (fun hc => ?_)
  · replace hw := hw.1 hc
    refine s_aload_n (pc := 89) rfl rfl ?_
    refine s_getA (pc := 90) rfl ko_262 (po_262_58 hp) ?_
    refine s_iconst (pc := 93) rfl ?_
    obtain ⟨hb2, hw⟩ := hw
    refine s_bald (pc := 94) rfl ka_295 (by decide) (by decide) hb2 ?_
    exact s_retz (pc := 95) rfl rfl hw.1 hw.2
  · replace hw := hw.2 hc
    refine s_aload_n (pc := 49) rfl rfl ?_
    refine s_getI (pc := 50) rfl ko_262 ?_
    refine s_iconst (pc := 53) rfl ?_
    refine s_isub (pc := 54) rfl ?_
    refine s_istore_n (pc := 55) (L' := [some (.ref 262), some (.int (iz x1)), some (.int (iz ((m 262 57) - 1)))]) rfl (Nat.le_of_ble_eq_true rfl) rfl ?_
    exact hw

set_option maxRecDepth 20000 in
set_option maxHeartbeats 4000000 in
theorem b_Mdl_aboveAll_56 {X : aX} {d : Nat} (x1 : Int) (x2 : Int)  (m : Mi) (J : Mj) (P : Mp) (hp : PP P) (post : Int → Mi → Mj → Mp → Prop)
    (hw : Zr (x2) ∧ (((x2 < 0) → Rn X (d + 2) 154 45 [some (.ref 262), some (.int (iz (x1 + (-1)))), none] [] (SS m J P) (QI post)) ∧ (¬ (x2 < 0) → Ci X (d + 1) 156 [.ref 262, .int (iz x1), .int (iz x2)] m J P (fun z5 m2 J3 P4 => PP P4 ∧ ((0 : Int) ≤ ((40 * x1) + x2) ∧ (((40 * x1) + x2) : Int) < 1600) ∧ (z5 = 0 ∨ z5 = 1) ∧ Rn X (d + 2) 154 56 [some (.ref 262), some (.int (iz x1)), some (.int (iz (x2 + (-1))))] [] (SS (mu m2 295 ((40 * x1) + x2).toNat z5) J3 P4) (QI post))))) : Rn X (d + 2) 154 56 [some (.ref 262), some (.int (iz x1)), some (.int (iz x2))] [] (SS m J P) (QI post) := by
  refine s_iload_n (pc := 56) rfl rfl ?_
  obtain ⟨hz1, hw⟩ := hw
  refine s_if_lt (pc := 57) (tgt := 83) rfl rfl hz1 (fun hc => ?_) (fun hc => ?_)
  · replace hw := hw.1 hc
    refine s_iinc (pc := 83) (L' := [some (.ref 262), some (.int (iz (x1 + (-1)))), some (.int (iz x2))]) rfl rfl (Nat.le_of_ble_eq_true rfl) rfl ?_
    refine s_goto (pc := 86) (tgt := 45) rfl rfl ?_
    exact Rn.weakL hw (LLe.keep _ (LLe.keep _ (LLe.drop _ (LLe.nil))))
  · replace hw := hw.2 hc
    refine s_aload_n (pc := 60) rfl rfl ?_
    refine s_getA (pc := 61) rfl ko_262 (po_262_58 hp) ?_
    refine s_bipush (pc := 64) rfl (by decide) ?_
    refine s_iload_n (pc := 66) rfl rfl ?_
    refine s_imul (pc := 67) rfl ?_
    refine s_iload_n (pc := 68) rfl rfl ?_
    refine s_iadd (pc := 69) rfl ?_
    refine s_aload_n (pc := 70) rfl rfl ?_
    refine s_iload_n (pc := 71) rfl rfl ?_
    refine s_iload_n (pc := 72) rfl rfl ?_
    refine s_ci (pc := 73) (d := (d + 1)) (t := [.int (iz ((40 * x1) + x2)), .ref 295]) rfl rfl (am_ca_v (ps := [.int (iz x2), .int (iz x1)]) rfl ko_262) (Nat.le_of_ble_eq_true rfl) (Ci.weak hw fun z5 m2 J3 P4 hw => ?_)
    obtain ⟨hp6, hw⟩ := hw
    obtain ⟨hb7, hw⟩ := hw
    obtain ⟨hv8, hw⟩ := hw
    refine s_bast (pc := 76) rfl ka_295 (Or.inr ⟨rfl, hv8⟩) (by decide) hb7 ?_
    refine s_iinc (pc := 77) (L' := [some (.ref 262), some (.int (iz x1)), some (.int (iz (x2 + (-1))))]) rfl rfl (Nat.le_of_ble_eq_true rfl) rfl ?_
    refine s_goto (pc := 80) (tgt := 56) rfl rfl ?_
    exact hw

set_option maxRecDepth 20000 in
set_option maxHeartbeats 4000000 in
theorem b_Mdl_endsOf_0 {X : aX} {d : Nat} (x0 nx0 : Nat) (x1 : Int) (x2 nx2 : Nat) (x3 nx3 : Nat) (kx0 : am_kd an_K x0 = some (.inr (0, nx0))) (bx0 : nx0 ≤ 100000) (kx2 : am_kd an_K x2 = some (.inr (0, nx2))) (bx2 : nx2 ≤ 100000) (kx3 : am_kd an_K x3 = some (.inr (0, nx3))) (bx3 : nx3 ≤ 100000) (m : Mi) (J : Mj) (P : Mp) (hp : PP P) (post : Mi → Mj → Mp → Prop)
    (hw : Rn X d 155 5 [some (.ref x0), some (.int (iz x1)), some (.ref x2), some (.ref x3), some (.int (iz (x1 - 1))), none, none] [] (SS m J P) (QV post)) : Rn X d 155 0 [some (.ref x0), some (.int (iz x1)), some (.ref x2), some (.ref x3), none, none, none] [] (SS m J P) (QV post) := by
  refine s_iload_n (pc := 0) rfl rfl ?_
  refine s_iconst (pc := 1) rfl ?_
  refine s_isub (pc := 2) rfl ?_
  refine s_istore (pc := 3) (L' := [some (.ref x0), some (.int (iz x1)), some (.ref x2), some (.ref x3), some (.int (iz (x1 - 1))), none, none]) rfl (Nat.le_of_ble_eq_true rfl) rfl ?_
  exact hw

set_option maxRecDepth 20000 in
set_option maxHeartbeats 4000000 in
theorem b_Mdl_endsOf_5 {X : aX} {d : Nat} (x0 nx0 : Nat) (x1 : Int) (x2 nx2 : Nat) (x3 nx3 : Nat) (x4 : Int) (kx0 : am_kd an_K x0 = some (.inr (0, nx0))) (bx0 : nx0 ≤ 100000) (kx2 : am_kd an_K x2 = some (.inr (0, nx2))) (bx2 : nx2 ≤ 100000) (kx3 : am_kd an_K x3 = some (.inr (0, nx3))) (bx3 : nx3 ≤ 100000) (m : Mi) (J : Mj) (P : Mp) (hp : PP P) (post : Mi → Mj → Mp → Prop)
    (hw : Zr (x4) ∧ (((x4 < 0) → post m J P) ∧ (¬ (x4 < 0) → Rn X d 155 19 [some (.ref x0), some (.int (iz x1)), some (.ref x2), some (.ref x3), some (.int (iz x4)), some (.int (iz (x4 + 1))), some (.int (iz 0))] [] (SS m J P) (QV post)))) : Rn X d 155 5 [some (.ref x0), some (.int (iz x1)), some (.ref x2), some (.ref x3), some (.int (iz x4)), none, none] [] (SS m J P) (QV post) := by
  refine s_iload (pc := 5) rfl rfl ?_
  obtain ⟨hz1, hw⟩ := hw
  refine s_if_lt (pc := 7) (tgt := 61) rfl rfl hz1 (fun hc => ?_) (fun hc => ?_)
  · replace hw := hw.1 hc
    exact s_retv (pc := 61) rfl rfl hw
  · replace hw := hw.2 hc
    refine s_iload (pc := 10) rfl rfl ?_
    refine s_iconst (pc := 12) rfl ?_
    refine s_iadd (pc := 13) rfl ?_
    refine s_istore (pc := 14) (L' := [some (.ref x0), some (.int (iz x1)), some (.ref x2), some (.ref x3), some (.int (iz x4)), some (.int (iz (x4 + 1))), none]) rfl (Nat.le_of_ble_eq_true rfl) rfl ?_
    refine s_iconst (pc := 16) rfl ?_
    refine s_istore (pc := 17) (L' := [some (.ref x0), some (.int (iz x1)), some (.ref x2), some (.ref x3), some (.int (iz x4)), some (.int (iz (x4 + 1))), some (.int (iz 0))]) rfl (Nat.le_of_ble_eq_true rfl) rfl ?_
    exact hw

set_option maxRecDepth 20000 in
set_option maxHeartbeats 4000000 in
theorem b_Mdl_endsOf_19 {X : aX} {d : Nat} (x0 nx0 : Nat) (x1 : Int) (x2 nx2 : Nat) (x3 nx3 : Nat) (x4 : Int) (x5 : Int) (x6 : Int) (kx0 : am_kd an_K x0 = some (.inr (0, nx0))) (bx0 : nx0 ≤ 100000) (kx2 : am_kd an_K x2 = some (.inr (0, nx2))) (bx2 : nx2 ≤ 100000) (kx3 : am_kd an_K x3 = some (.inr (0, nx3))) (bx3 : nx3 ≤ 100000) (m : Mi) (J : Mj) (P : Mp) (hp : PP P) (post : Mi → Mj → Mp → Prop)
    (hw : ((0 : Int) ≤ x4 ∧ (x4 : Int) < nx0) ∧ Zr (m x0 x4.toNat) ∧ ((((m x0 x4.toNat) < 0) → ((0 : Int) ≤ x4 ∧ (x4 : Int) < nx2) ∧ Rn X d 155 5 [some (.ref x0), some (.int (iz x1)), some (.ref x2), some (.ref x3), some (.int (iz (x4 + (-1)))), none, none] [] (SS (mu m x2 x4.toNat x5) J P) (QV post)) ∧ (¬ ((m x0 x4.toNat) < 0) → ((0 : Int) ≤ x4 ∧ (x4 : Int) < nx0) ∧ ((0 : Int) ≤ (m x0 x4.toNat) ∧ ((m x0 x4.toNat) : Int) < nx3) ∧ Zr (x6) ∧ Zr (m x3 (m x0 x4.toNat).toNat) ∧ ((((m x3 (m x0 x4.toNat).toNat) ≤ x6) → ((0 : Int) ≤ x4 ∧ (x4 : Int) < nx2) ∧ Rn X d 155 5 [some (.ref x0), some (.int (iz x1)), some (.ref x2), some (.ref x3), some (.int (iz (x4 + (-1)))), none, none] [] (SS (mu m x2 x4.toNat x5) J P) (QV post)) ∧ (¬ ((m x3 (m x0 x4.toNat).toNat) ≤ x6) → ((0 : Int) ≤ x5 ∧ (x5 : Int) < nx2) ∧ Rn X d 155 19 [some (.ref x0), some (.int (iz x1)), some (.ref x2), some (.ref x3), some (.int (iz x4)), some (.int (iz (m x2 x5.toNat))), some (.int (iz (x6 + 1)))] [] (SS m J P) (QV post)))))) : Rn X d 155 19 [some (.ref x0), some (.int (iz x1)), some (.ref x2), some (.ref x3), some (.int (iz x4)), some (.int (iz x5)), some (.int (iz x6))] [] (SS m J P) (QV post) := by
  refine s_aload_n (pc := 19) rfl rfl ?_
  refine s_iload (pc := 20) rfl rfl ?_
  obtain ⟨hb1, hw⟩ := hw
  refine s_iald (pc := 22) rfl kx0 bx0 hb1 ?_
  obtain ⟨hz2, hw⟩ := hw
  refine s_if_lt (pc := 23) (tgt := 49) rfl rfl hz2 (fun hc => ?_) (fun hc => ?_)
  · replace hw := hw.1 hc
    refine s_aload_n (pc := 49) rfl rfl ?_
    refine s_iload (pc := 50) rfl rfl ?_
    refine s_iload (pc := 52) rfl rfl ?_
    obtain ⟨hb3, hw⟩ := hw
    refine s_iast (pc := 54) rfl kx2 bx2 hb3 ?_
    refine s_iinc (pc := 55) (L' := [some (.ref x0), some (.int (iz x1)), some (.ref x2), some (.ref x3), some (.int (iz (x4 + (-1)))), some (.int (iz x5)), some (.int (iz x6))]) rfl rfl (Nat.le_of_ble_eq_true rfl) rfl ?_
    refine s_goto (pc := 58) (tgt := 5) rfl rfl ?_
    exact Rn.weakL hw (LLe.keep _ (LLe.keep _ (LLe.keep _ (LLe.keep _ (LLe.keep _ (LLe.drop _ (LLe.drop _ (LLe.nil))))))))
  · replace hw := hw.2 hc
    refine s_iload (pc := 26) rfl rfl ?_
    refine s_aload_n (pc := 28) rfl rfl ?_
    refine s_aload_n (pc := 29) rfl rfl ?_
    refine s_iload (pc := 30) rfl rfl ?_
    obtain ⟨hb4, hw⟩ := hw
    refine s_iald (pc := 32) rfl kx0 bx0 hb4 ?_
    obtain ⟨hb5, hw⟩ := hw
    refine s_iald (pc := 33) rfl kx3 bx3 hb5 ?_
    obtain ⟨hz6, hw⟩ := hw
    obtain ⟨hz7, hw⟩ := hw
    refine s_ic_ge (pc := 34) (tgt := 49) rfl rfl hz6 hz7 (fun hc => ?_) (fun hc => ?_)
    · replace hw := hw.1 hc
      refine s_aload_n (pc := 49) rfl rfl ?_
      refine s_iload (pc := 50) rfl rfl ?_
      refine s_iload (pc := 52) rfl rfl ?_
      obtain ⟨hb8, hw⟩ := hw
      refine s_iast (pc := 54) rfl kx2 bx2 hb8 ?_
      refine s_iinc (pc := 55) (L' := [some (.ref x0), some (.int (iz x1)), some (.ref x2), some (.ref x3), some (.int (iz (x4 + (-1)))), some (.int (iz x5)), some (.int (iz x6))]) rfl rfl (Nat.le_of_ble_eq_true rfl) rfl ?_
      refine s_goto (pc := 58) (tgt := 5) rfl rfl ?_
      exact Rn.weakL hw (LLe.keep _ (LLe.keep _ (LLe.keep _ (LLe.keep _ (LLe.keep _ (LLe.drop _ (LLe.drop _ (LLe.nil))))))))
    · replace hw := hw.2 hc
      refine s_aload_n (pc := 37) rfl rfl ?_
      refine s_iload (pc := 38) rfl rfl ?_
      obtain ⟨hb9, hw⟩ := hw
      refine s_iald (pc := 40) rfl kx2 bx2 hb9 ?_
      refine s_istore (pc := 41) (L' := [some (.ref x0), some (.int (iz x1)), some (.ref x2), some (.ref x3), some (.int (iz x4)), some (.int (iz (m x2 x5.toNat))), some (.int (iz x6))]) rfl (Nat.le_of_ble_eq_true rfl) rfl ?_
      refine s_iinc (pc := 43) (L' := [some (.ref x0), some (.int (iz x1)), some (.ref x2), some (.ref x3), some (.int (iz x4)), some (.int (iz (m x2 x5.toNat))), some (.int (iz (x6 + 1)))]) rfl rfl (Nat.le_of_ble_eq_true rfl) rfl ?_
      refine s_goto (pc := 46) (tgt := 19) rfl rfl ?_
      exact hw

set_option maxRecDepth 20000 in
set_option maxHeartbeats 4000000 in
theorem b_Mdl_above_0 {X : aX} {d : Nat} (x1 : Int) (x2 : Int)  (m : Mi) (J : Mj) (P : Mp) (hp : PP P) (post : Int → Mi → Mj → Mp → Prop)
    (hw : ((0 : Int) ≤ x1 ∧ (x1 : Int) < 40) ∧ Zr (m 291 x1.toNat) ∧ (((0 ≤ (m 291 x1.toNat)) → ((0 : Int) ≤ x2 ∧ (x2 : Int) < 40) ∧ Zr (m 292 x2.toNat) ∧ (((0 ≤ (m 292 x2.toNat)) → Rn X (d + 1) 156 39 [some (.ref 262), some (.int (iz x1)), some (.int (iz x2)), some (.int (iz (x1 + 1))), some (.int (iz 0)), none] [] (SS m J P) (QI post)) ∧ (¬ (0 ≤ (m 292 x2.toNat)) → ((0 : Int) ≤ x2 ∧ (x2 : Int) < 40) ∧ Ci X d 157 [.ref 262, .int (iz x1), .int (iz (m 292 x2.toNat))] m J P (fun z9 m6 J7 P8 => PP P8 ∧ (z9 = 0 ∨ z9 = 1) ∧ post z9 m6 J7 P8)))) ∧ (¬ (0 ≤ (m 291 x1.toNat)) → post 0 m J P))) : Rn X (d + 1) 156 0 [some (.ref 262), some (.int (iz x1)), some (.int (iz x2)), none, none, none] [] (SS m J P) (QI post) := by
  refine s_aload_n (pc := 0) rfl rfl ?_
  refine s_getA (pc := 1) rfl ko_262 (po_262_52 hp) ?_
  refine s_iload_n (pc := 4) rfl rfl ?_
  obtain ⟨hb1, hw⟩ := hw
  refine s_iald (pc := 5) rfl ka_291 (by decide) hb1 ?_
  obtain ⟨hz2, hw⟩ := hw
  refine s_if_ge (pc := 6) (tgt := 11) rfl rfl hz2 (fun hc => ?_) (fun hc => ?_)
  · replace hw := hw.1 hc
    refine s_aload_n (pc := 11) rfl rfl ?_
    refine s_getA (pc := 12) rfl ko_262 (po_262_53 hp) ?_
    refine s_iload_n (pc := 15) rfl rfl ?_
    obtain ⟨hb3, hw⟩ := hw
    refine s_iald (pc := 16) rfl ka_292 (by decide) hb3 ?_
    obtain ⟨hz4, hw⟩ := hw
    refine s_if_ge (pc := 17) (tgt := 32) rfl rfl hz4 (fun hc => ?_) (fun hc => ?_)
    · replace hw := hw.1 hc
      refine s_iload_n (pc := 32) rfl rfl ?_
      refine s_iconst (pc := 33) rfl ?_
      refine s_iadd (pc := 34) rfl ?_
      refine s_istore_n (pc := 35) (L' := [some (.ref 262), some (.int (iz x1)), some (.int (iz x2)), some (.int (iz (x1 + 1))), none, none]) rfl (Nat.le_of_ble_eq_true rfl) rfl ?_
      refine s_iconst (pc := 36) rfl ?_
      refine s_istore (pc := 37) (L' := [some (.ref 262), some (.int (iz x1)), some (.int (iz x2)), some (.int (iz (x1 + 1))), some (.int (iz 0)), none]) rfl (Nat.le_of_ble_eq_true rfl) rfl ?_
      exact hw
    · replace hw := hw.2 hc
      refine s_aload_n (pc := 20) rfl rfl ?_
      refine s_iload_n (pc := 21) rfl rfl ?_
      refine s_aload_n (pc := 22) rfl rfl ?_
      refine s_getA (pc := 23) rfl ko_262 (po_262_53 hp) ?_
      refine s_iload_n (pc := 26) rfl rfl ?_
      obtain ⟨hb5, hw⟩ := hw
      refine s_iald (pc := 27) rfl ka_292 (by decide) hb5 ?_
      refine s_ci (pc := 28) (d := d) (t := []) rfl rfl (am_ca_v (ps := [.int (iz (m 292 x2.toNat)), .int (iz x1)]) rfl ko_262) (Nat.le_of_ble_eq_true rfl) (Ci.weak hw fun z9 m6 J7 P8 hw => ?_)
      obtain ⟨hp10, hw⟩ := hw
      exact s_retz (pc := 31) rfl rfl hw.1 hw.2
  · replace hw := hw.2 hc
    refine s_iconst (pc := 9) rfl ?_
    exact s_retz (pc := 10) rfl rfl (by decide) hw

set_option maxRecDepth 20000 in
set_option maxHeartbeats 4000000 in
theorem b_Mdl_above_39 {X : aX} {d : Nat} (x1 : Int) (x2 : Int) (x3 : Int) (x4 : Int)  (m : Mi) (J : Mj) (P : Mp) (hp : PP P) (post : Int → Mi → Mj → Mp → Prop)
    (hw : ((0 : Int) ≤ x1 ∧ (x1 : Int) < 40) ∧ ((0 : Int) ≤ (m 291 x1.toNat) ∧ ((m 291 x1.toNat) : Int) < 16) ∧ Zr (x4) ∧ Zr (m 268 (m 291 x1.toNat).toNat) ∧ ((((m 268 (m 291 x1.toNat).toNat) ≤ x4) → ((0 : Int) ≤ x1 ∧ (x1 : Int) < 40) ∧ ((0 : Int) ≤ x2 ∧ (x2 : Int) < 40) ∧ Zr (m 291 x1.toNat) ∧ Zr (m 292 x2.toNat) ∧ ((((m 292 x2.toNat) ≤ (m 291 x1.toNat)) → Rn X (d + 1) 156 118 [some (.ref 262), some (.int (iz x1)), some (.int (iz x2)), some (.int (iz x3)), some (.int (iz (x2 + 1))), some (.int (iz 0))] [] (SS m J P) (QI post)) ∧ (¬ ((m 292 x2.toNat) ≤ (m 291 x1.toNat)) → post 0 m J P))) ∧ (¬ ((m 268 (m 291 x1.toNat).toNat) ≤ x4) → Ci X d 158 [.ref 262, .int (iz x3), .int (iz x2)] m J P (fun z12 m9 J10 P11 => PP P11 ∧ Zr (z12) ∧ (((¬ z12 = 0) → post 1 m9 J10 P11) ∧ (¬ (¬ z12 = 0) → ((0 : Int) ≤ ((40 * x3) + x2) ∧ (((40 * x3) + x2) : Int) < 1600) ∧ Zr (m9 295 ((40 * x3) + x2).toNat) ∧ ((((m9 295 ((40 * x3) + x2).toNat) = 0) → ((0 : Int) ≤ x3 ∧ (x3 : Int) < 40) ∧ Rn X (d + 1) 156 39 [some (.ref 262), some (.int (iz x1)), some (.int (iz x2)), some (.int (iz (m9 293 x3.toNat))), some (.int (iz (x4 + 1))), none] [] (SS m9 J10 P11) (QI post)) ∧ (¬ ((m9 295 ((40 * x3) + x2).toNat) = 0) → post 1 m9 J10 P11)))))))) : Rn X (d + 1) 156 39 [some (.ref 262), some (.int (iz x1)), some (.int (iz x2)), some (.int (iz x3)), some (.int (iz x4)), none] [] (SS m J P) (QI post) := by
  refine s_iload (pc := 39) rfl rfl ?_
  refine s_aload_n (pc := 41) rfl rfl ?_
  refine s_getA (pc := 42) rfl ko_262 (po_262_22 hp) ?_
  refine s_aload_n (pc := 45) rfl rfl ?_
  refine s_getA (pc := 46) rfl ko_262 (po_262_52 hp) ?_
  refine s_iload_n (pc := 49) rfl rfl ?_
  obtain ⟨hb1, hw⟩ := hw
  refine s_iald (pc := 50) rfl ka_291 (by decide) hb1 ?_
  obtain ⟨hb2, hw⟩ := hw
  refine s_iald (pc := 51) rfl ka_268 (by decide) hb2 ?_
  obtain ⟨hz3, hw⟩ := hw
  obtain ⟨hz4, hw⟩ := hw
  refine s_ic_ge (pc := 52) (tgt := 93) rfl rfl hz3 hz4 (fun hc => ?_) (fun hc => ?_)
  · replace hw := hw.1 hc
    refine s_aload_n (pc := 93) rfl rfl ?_
    refine s_getA (pc := 94) rfl ko_262 (po_262_52 hp) ?_
    refine s_iload_n (pc := 97) rfl rfl ?_
    obtain ⟨hb5, hw⟩ := hw
    refine s_iald (pc := 98) rfl ka_291 (by decide) hb5 ?_
    refine s_aload_n (pc := 99) rfl rfl ?_
    refine s_getA (pc := 100) rfl ko_262 (po_262_53 hp) ?_
    refine s_iload_n (pc := 103) rfl rfl ?_
    obtain ⟨hb6, hw⟩ := hw
    refine s_iald (pc := 104) rfl ka_292 (by decide) hb6 ?_
    obtain ⟨hz7, hw⟩ := hw
    obtain ⟨hz8, hw⟩ := hw
    refine s_ic_ge (pc := 105) (tgt := 110) rfl rfl hz7 hz8 (fun hc => ?_) (fun hc => ?_)
    · replace hw := hw.1 hc
      refine s_iload_n (pc := 110) rfl rfl ?_
      refine s_iconst (pc := 111) rfl ?_
      refine s_iadd (pc := 112) rfl ?_
      refine s_istore (pc := 113) (L' := [some (.ref 262), some (.int (iz x1)), some (.int (iz x2)), some (.int (iz x3)), some (.int (iz (x2 + 1))), none]) rfl (Nat.le_of_ble_eq_true rfl) rfl ?_
      refine s_iconst (pc := 115) rfl ?_
      refine s_istore (pc := 116) (L' := [some (.ref 262), some (.int (iz x1)), some (.int (iz x2)), some (.int (iz x3)), some (.int (iz (x2 + 1))), some (.int (iz 0))]) rfl (Nat.le_of_ble_eq_true rfl) rfl ?_
      exact hw
    · replace hw := hw.2 hc
      refine s_iconst (pc := 108) rfl ?_
      exact s_retz (pc := 109) rfl rfl (by decide) hw
  · replace hw := hw.2 hc
    refine s_aload_n (pc := 55) rfl rfl ?_
    refine s_iload_n (pc := 56) rfl rfl ?_
    refine s_iload_n (pc := 57) rfl rfl ?_
    refine s_ci (pc := 58) (d := d) (t := []) rfl rfl (am_ca_v (ps := [.int (iz x2), .int (iz x3)]) rfl ko_262) (Nat.le_of_ble_eq_true rfl) (Ci.weak hw fun z12 m9 J10 P11 hw => ?_)
    obtain ⟨hp13, hw⟩ := hw
    obtain ⟨hz14, hw⟩ := hw
    refine s_if_ne (pc := 61) (tgt := 78) rfl rfl hz14 (fun hc => ?_) (fun hc => ?_)
    · replace hw := hw.1 hc
      refine s_iconst (pc := 78) rfl ?_
      exact s_retz (pc := 79) rfl rfl (by decide) hw
    · replace hw := hw.2 hc
      refine s_aload_n (pc := 64) rfl rfl ?_
      refine s_getA (pc := 65) rfl ko_262 (po_262_58 hp13) ?_
      refine s_bipush (pc := 68) rfl (by decide) ?_
      refine s_iload_n (pc := 70) rfl rfl ?_
      refine s_imul (pc := 71) rfl ?_
      refine s_iload_n (pc := 72) rfl rfl ?_
      refine s_iadd (pc := 73) rfl ?_
      obtain ⟨hb15, hw⟩ := hw
      refine s_bald (pc := 74) rfl ka_295 (by decide) (by decide) hb15 ?_
      obtain ⟨hz16, hw⟩ := hw
      refine s_if_eq (pc := 75) (tgt := 80) rfl rfl hz16 (fun hc => ?_) (fun hc => ?_)
      · replace hw := hw.1 hc
        refine s_aload_n (pc := 80) rfl rfl ?_
        refine s_getA (pc := 81) rfl ko_262 (po_262_54 hp13) ?_
        refine s_iload_n (pc := 84) rfl rfl ?_
        obtain ⟨hb17, hw⟩ := hw
        refine s_iald (pc := 85) rfl ka_293 (by decide) hb17 ?_
        refine s_istore_n (pc := 86) (L' := [some (.ref 262), some (.int (iz x1)), some (.int (iz x2)), some (.int (iz (m9 293 x3.toNat))), some (.int (iz x4)), none]) rfl (Nat.le_of_ble_eq_true rfl) rfl ?_
        refine s_iinc (pc := 87) (L' := [some (.ref 262), some (.int (iz x1)), some (.int (iz x2)), some (.int (iz (m9 293 x3.toNat))), some (.int (iz (x4 + 1))), none]) rfl rfl (Nat.le_of_ble_eq_true rfl) rfl ?_
        refine s_goto (pc := 90) (tgt := 39) rfl rfl ?_
        exact hw
      · replace hw := hw.2 hc
        refine s_iconst (pc := 78) rfl ?_
        exact s_retz (pc := 79) rfl rfl (by decide) hw

set_option maxRecDepth 20000 in
set_option maxHeartbeats 4000000 in
theorem b_Mdl_above_118 {X : aX} {d : Nat} (x1 : Int) (x2 : Int) (x3 : Int) (x4 : Int) (x5 : Int)  (m : Mi) (J : Mj) (P : Mp) (hp : PP P) (post : Int → Mi → Mj → Mp → Prop)
    (hw : ((0 : Int) ≤ x2 ∧ (x2 : Int) < 40) ∧ ((0 : Int) ≤ (m 292 x2.toNat) ∧ ((m 292 x2.toNat) : Int) < 16) ∧ Zr (x5) ∧ Zr (m 268 (m 292 x2.toNat).toNat) ∧ ((((m 268 (m 292 x2.toNat).toNat) ≤ x5) → ((0 : Int) ≤ x1 ∧ (x1 : Int) < 40) ∧ ((0 : Int) ≤ x2 ∧ (x2 : Int) < 40) ∧ Zr (m 291 x1.toNat) ∧ Zr (m 292 x2.toNat) ∧ ((((m 291 x1.toNat) ≤ (m 292 x2.toNat)) → Rn X (d + 1) 156 195 [some (.ref 262), some (.int (iz x1)), some (.int (iz x2)), some (.int (iz (x1 + 1))), some (.int (iz (x2 + 1))), some (.int (iz 0))] [] (SS m J P) (QI post)) ∧ (¬ ((m 291 x1.toNat) ≤ (m 292 x2.toNat)) → post 1 m J P))) ∧ (¬ ((m 268 (m 292 x2.toNat).toNat) ≤ x5) → ((0 : Int) ≤ ((40 * x1) + x4) ∧ (((40 * x1) + x4) : Int) < 1600) ∧ Zr (m 295 ((40 * x1) + x4).toNat) ∧ (((¬ (m 295 ((40 * x1) + x4).toNat) = 0) → ((0 : Int) ≤ x4 ∧ (x4 : Int) < 40) ∧ Rn X (d + 1) 156 118 [some (.ref 262), some (.int (iz x1)), some (.int (iz x2)), some (.int (iz x3)), some (.int (iz (m 294 x4.toNat))), some (.int (iz (x5 + 1)))] [] (SS m J P) (QI post)) ∧ (¬ (¬ (m 295 ((40 * x1) + x4).toNat) = 0) → post 0 m J P))))) : Rn X (d + 1) 156 118 [some (.ref 262), some (.int (iz x1)), some (.int (iz x2)), some (.int (iz x3)), some (.int (iz x4)), some (.int (iz x5))] [] (SS m J P) (QI post) := by
  refine s_iload (pc := 118) rfl rfl ?_
  refine s_aload_n (pc := 120) rfl rfl ?_
  refine s_getA (pc := 121) rfl ko_262 (po_262_22 hp) ?_
  refine s_aload_n (pc := 124) rfl rfl ?_
  refine s_getA (pc := 125) rfl ko_262 (po_262_53 hp) ?_
  refine s_iload_n (pc := 128) rfl rfl ?_
  obtain ⟨hb1, hw⟩ := hw
  refine s_iald (pc := 129) rfl ka_292 (by decide) hb1 ?_
  obtain ⟨hb2, hw⟩ := hw
  refine s_iald (pc := 130) rfl ka_268 (by decide) hb2 ?_
  obtain ⟨hz3, hw⟩ := hw
  obtain ⟨hz4, hw⟩ := hw
  refine s_ic_ge (pc := 131) (tgt := 166) rfl rfl hz3 hz4 (fun hc => ?_) (fun hc => ?_)
  · replace hw := hw.1 hc
    refine s_aload_n (pc := 166) rfl rfl ?_
    refine s_getA (pc := 167) rfl ko_262 (po_262_52 hp) ?_
    refine s_iload_n (pc := 170) rfl rfl ?_
    obtain ⟨hb5, hw⟩ := hw
    refine s_iald (pc := 171) rfl ka_291 (by decide) hb5 ?_
    refine s_aload_n (pc := 172) rfl rfl ?_
    refine s_getA (pc := 173) rfl ko_262 (po_262_53 hp) ?_
    refine s_iload_n (pc := 176) rfl rfl ?_
    obtain ⟨hb6, hw⟩ := hw
    refine s_iald (pc := 177) rfl ka_292 (by decide) hb6 ?_
    obtain ⟨hz7, hw⟩ := hw
    obtain ⟨hz8, hw⟩ := hw
    refine s_ic_le (pc := 178) (tgt := 183) rfl rfl hz7 hz8 (fun hc => ?_) (fun hc => ?_)
    · replace hw := hw.1 hc
      refine s_iload_n (pc := 183) rfl rfl ?_
      refine s_iconst (pc := 184) rfl ?_
      refine s_iadd (pc := 185) rfl ?_
      refine s_istore_n (pc := 186) (L' := [some (.ref 262), some (.int (iz x1)), some (.int (iz x2)), some (.int (iz (x1 + 1))), some (.int (iz x4)), some (.int (iz x5))]) rfl (Nat.le_of_ble_eq_true rfl) rfl ?_
      refine s_iload_n (pc := 187) rfl rfl ?_
      refine s_iconst (pc := 188) rfl ?_
      refine s_iadd (pc := 189) rfl ?_
      refine s_istore (pc := 190) (L' := [some (.ref 262), some (.int (iz x1)), some (.int (iz x2)), some (.int (iz (x1 + 1))), some (.int (iz (x2 + 1))), some (.int (iz x5))]) rfl (Nat.le_of_ble_eq_true rfl) rfl ?_
      refine s_iconst (pc := 192) rfl ?_
      refine s_istore (pc := 193) (L' := [some (.ref 262), some (.int (iz x1)), some (.int (iz x2)), some (.int (iz (x1 + 1))), some (.int (iz (x2 + 1))), some (.int (iz 0))]) rfl (Nat.le_of_ble_eq_true rfl) rfl ?_
      exact hw
    · replace hw := hw.2 hc
      refine s_iconst (pc := 181) rfl ?_
      exact s_retz (pc := 182) rfl rfl (by decide) hw
  · replace hw := hw.2 hc
    refine s_aload_n (pc := 134) rfl rfl ?_
    refine s_getA (pc := 135) rfl ko_262 (po_262_58 hp) ?_
    refine s_bipush (pc := 138) rfl (by decide) ?_
    refine s_iload_n (pc := 140) rfl rfl ?_
    refine s_imul (pc := 141) rfl ?_
    refine s_iload (pc := 142) rfl rfl ?_
    refine s_iadd (pc := 144) rfl ?_
    obtain ⟨hb9, hw⟩ := hw
    refine s_bald (pc := 145) rfl ka_295 (by decide) (by decide) hb9 ?_
    obtain ⟨hz10, hw⟩ := hw
    refine s_if_ne (pc := 146) (tgt := 151) rfl rfl hz10 (fun hc => ?_) (fun hc => ?_)
    · replace hw := hw.1 hc
      refine s_aload_n (pc := 151) rfl rfl ?_
      refine s_getA (pc := 152) rfl ko_262 (po_262_55 hp) ?_
      refine s_iload (pc := 155) rfl rfl ?_
      obtain ⟨hb11, hw⟩ := hw
      refine s_iald (pc := 157) rfl ka_294 (by decide) hb11 ?_
      refine s_istore (pc := 158) (L' := [some (.ref 262), some (.int (iz x1)), some (.int (iz x2)), some (.int (iz x3)), some (.int (iz (m 294 x4.toNat))), some (.int (iz x5))]) rfl (Nat.le_of_ble_eq_true rfl) rfl ?_
      refine s_iinc (pc := 160) (L' := [some (.ref 262), some (.int (iz x1)), some (.int (iz x2)), some (.int (iz x3)), some (.int (iz (m 294 x4.toNat))), some (.int (iz (x5 + 1)))]) rfl rfl (Nat.le_of_ble_eq_true rfl) rfl ?_
      refine s_goto (pc := 163) (tgt := 118) rfl rfl ?_
      exact hw
    · replace hw := hw.2 hc
      refine s_iconst (pc := 149) rfl ?_
      exact s_retz (pc := 150) rfl rfl (by decide) hw

set_option maxRecDepth 20000 in
set_option maxHeartbeats 4000000 in
theorem b_Mdl_above_195 {X : aX} {d : Nat} (x1 : Int) (x2 : Int) (x3 : Int) (x4 : Int) (x5 : Int)  (m : Mi) (J : Mj) (P : Mp) (hp : PP P) (post : Int → Mi → Mj → Mp → Prop)
    (hw : ((0 : Int) ≤ x2 ∧ (x2 : Int) < 40) ∧ ((0 : Int) ≤ (m 292 x2.toNat) ∧ ((m 292 x2.toNat) : Int) < 16) ∧ Zr (x5) ∧ Zr (m 268 (m 292 x2.toNat).toNat) ∧ ((((m 268 (m 292 x2.toNat).toNat) ≤ x5) → post 0 m J P) ∧ (¬ ((m 268 (m 292 x2.toNat).toNat) ≤ x5) → Ci X d 158 [.ref 262, .int (iz x3), .int (iz x4)] m J P (fun z8 m5 J6 P7 => PP P7 ∧ Zr (z8) ∧ (((¬ z8 = 0) → ((0 : Int) ≤ x3 ∧ (x3 : Int) < 40) ∧ ((0 : Int) ≤ x4 ∧ (x4 : Int) < 40) ∧ Rn X (d + 1) 156 195 [some (.ref 262), some (.int (iz x1)), some (.int (iz x2)), some (.int (iz (m5 293 x3.toNat))), some (.int (iz (m5 294 x4.toNat))), some (.int (iz (x5 + 1)))] [] (SS m5 J6 P7) (QI post)) ∧ (¬ (¬ z8 = 0) → ((0 : Int) ≤ ((40 * x3) + x4) ∧ (((40 * x3) + x4) : Int) < 1600) ∧ ((m5 295 ((40 * x3) + x4).toNat) = 0 ∨ (m5 295 ((40 * x3) + x4).toNat) = 1) ∧ post (m5 295 ((40 * x3) + x4).toNat) m5 J6 P7)))))) : Rn X (d + 1) 156 195 [some (.ref 262), some (.int (iz x1)), some (.int (iz x2)), some (.int (iz x3)), some (.int (iz x4)), some (.int (iz x5))] [] (SS m J P) (QI post) := by
  refine s_iload (pc := 195) rfl rfl ?_
  refine s_aload_n (pc := 197) rfl rfl ?_
  refine s_getA (pc := 198) rfl ko_262 (po_262_22 hp) ?_
  refine s_aload_n (pc := 201) rfl rfl ?_
  refine s_getA (pc := 202) rfl ko_262 (po_262_53 hp) ?_
  refine s_iload_n (pc := 205) rfl rfl ?_
  obtain ⟨hb1, hw⟩ := hw
  refine s_iald (pc := 206) rfl ka_292 (by decide) hb1 ?_
  obtain ⟨hb2, hw⟩ := hw
  refine s_iald (pc := 207) rfl ka_268 (by decide) hb2 ?_
  obtain ⟨hz3, hw⟩ := hw
  obtain ⟨hz4, hw⟩ := hw
  refine s_ic_ge (pc := 208) (tgt := 256) rfl rfl hz3 hz4 (fun hc => ?_) (fun hc => ?_)
  · replace hw := hw.1 hc
    refine s_iconst (pc := 256) rfl ?_
    exact s_retz (pc := 257) rfl rfl (by decide) hw
  · replace hw := hw.2 hc
    refine s_aload_n (pc := 211) rfl rfl ?_
    refine s_iload_n (pc := 212) rfl rfl ?_
    refine s_iload (pc := 213) rfl rfl ?_
    refine s_ci (pc := 215) (d := d) (t := []) rfl rfl (am_ca_v (ps := [.int (iz x4), .int (iz x3)]) rfl ko_262) (Nat.le_of_ble_eq_true rfl) (Ci.weak hw fun z8 m5 J6 P7 hw => ?_)
    obtain ⟨hp9, hw⟩ := hw
    obtain ⟨hz10, hw⟩ := hw
    refine s_if_ne (pc := 218) (tgt := 234) rfl rfl hz10 (fun hc => ?_) (fun hc => ?_)
    · replace hw := hw.1 hc
      refine s_aload_n (pc := 234) rfl rfl ?_
      refine s_getA (pc := 235) rfl ko_262 (po_262_54 hp9) ?_
      refine s_iload_n (pc := 238) rfl rfl ?_
      obtain ⟨hb11, hw⟩ := hw
      refine s_iald (pc := 239) rfl ka_293 (by decide) hb11 ?_
      refine s_istore_n (pc := 240) (L' := [some (.ref 262), some (.int (iz x1)), some (.int (iz x2)), some (.int (iz (m5 293 x3.toNat))), some (.int (iz x4)), some (.int (iz x5))]) rfl (Nat.le_of_ble_eq_true rfl) rfl ?_
      refine s_aload_n (pc := 241) rfl rfl ?_
      refine s_getA (pc := 242) rfl ko_262 (po_262_55 hp9) ?_
      refine s_iload (pc := 245) rfl rfl ?_
      obtain ⟨hb12, hw⟩ := hw
      refine s_iald (pc := 247) rfl ka_294 (by decide) hb12 ?_
      refine s_istore (pc := 248) (L' := [some (.ref 262), some (.int (iz x1)), some (.int (iz x2)), some (.int (iz (m5 293 x3.toNat))), some (.int (iz (m5 294 x4.toNat))), some (.int (iz x5))]) rfl (Nat.le_of_ble_eq_true rfl) rfl ?_
      refine s_iinc (pc := 250) (L' := [some (.ref 262), some (.int (iz x1)), some (.int (iz x2)), some (.int (iz (m5 293 x3.toNat))), some (.int (iz (m5 294 x4.toNat))), some (.int (iz (x5 + 1)))]) rfl rfl (Nat.le_of_ble_eq_true rfl) rfl ?_
      refine s_goto (pc := 253) (tgt := 195) rfl rfl ?_
      exact hw
    · replace hw := hw.2 hc
      refine s_aload_n (pc := 221) rfl rfl ?_
      refine s_getA (pc := 222) rfl ko_262 (po_262_58 hp9) ?_
      refine s_bipush (pc := 225) rfl (by decide) ?_
      refine s_iload_n (pc := 227) rfl rfl ?_
      refine s_imul (pc := 228) rfl ?_
      refine s_iload (pc := 229) rfl rfl ?_
      refine s_iadd (pc := 231) rfl ?_
      obtain ⟨hb13, hw⟩ := hw
      refine s_bald (pc := 232) rfl ka_295 (by decide) (by decide) hb13 ?_
      exact s_retz (pc := 233) rfl rfl hw.1 hw.2

set_option maxRecDepth 20000 in
set_option maxHeartbeats 4000000 in
theorem b_Mdl_hasVariable_0 {X : aX} {d : Nat} (x1 : Int) (x2 : Int)  (m : Mi) (J : Mj) (P : Mp) (hp : PP P) (post : Int → Mi → Mj → Mp → Prop)
    (hw : Rn X d 157 2 [some (.ref 262), some (.int (iz x1)), some (.int (iz x2)), some (.int (iz x1))] [] (SS m J P) (QI post)) : Rn X d 157 0 [some (.ref 262), some (.int (iz x1)), some (.int (iz x2)), none] [] (SS m J P) (QI post) := by
  refine s_iload_n (pc := 0) rfl rfl ?_
  refine s_istore_n (pc := 1) (L' := [some (.ref 262), some (.int (iz x1)), some (.int (iz x2)), some (.int (iz x1))]) rfl (Nat.le_of_ble_eq_true rfl) rfl ?_
  exact hw

set_option maxRecDepth 20000 in
set_option maxHeartbeats 4000000 in
theorem b_Mdl_hasVariable_2 {X : aX} {d : Nat} (x1 : Int) (x2 : Int) (x3 : Int)  (m : Mi) (J : Mj) (P : Mp) (hp : PP P) (post : Int → Mi → Mj → Mp → Prop)
    (hw : ((0 : Int) ≤ x1 ∧ (x1 : Int) < 40) ∧ Zr (x3) ∧ Zr (m 293 x1.toNat) ∧ ((((m 293 x1.toNat) ≤ x3) → post 0 m J P) ∧ (¬ ((m 293 x1.toNat) ≤ x3) → ((0 : Int) ≤ x3 ∧ (x3 : Int) < 40) ∧ Zr (m 291 x3.toNat) ∧ Zr (x2) ∧ (((¬ (m 291 x3.toNat) = x2) → Rn X d 157 2 [some (.ref 262), some (.int (iz x1)), some (.int (iz x2)), some (.int (iz (x3 + 1)))] [] (SS m J P) (QI post)) ∧ (¬ (¬ (m 291 x3.toNat) = x2) → post 1 m J P))))) : Rn X d 157 2 [some (.ref 262), some (.int (iz x1)), some (.int (iz x2)), some (.int (iz x3))] [] (SS m J P) (QI post) := by
  refine s_iload_n (pc := 2) rfl rfl ?_
  refine s_aload_n (pc := 3) rfl rfl ?_
  refine s_getA (pc := 4) rfl ko_262 (po_262_54 hp) ?_
  refine s_iload_n (pc := 7) rfl rfl ?_
  obtain ⟨hb1, hw⟩ := hw
  refine s_iald (pc := 8) rfl ka_293 (by decide) hb1 ?_
  obtain ⟨hz2, hw⟩ := hw
  obtain ⟨hz3, hw⟩ := hw
  refine s_ic_ge (pc := 9) (tgt := 30) rfl rfl hz2 hz3 (fun hc => ?_) (fun hc => ?_)
  · replace hw := hw.1 hc
    refine s_iconst (pc := 30) rfl ?_
    exact s_retz (pc := 31) rfl rfl (by decide) hw
  · replace hw := hw.2 hc
    refine s_aload_n (pc := 12) rfl rfl ?_
    refine s_getA (pc := 13) rfl ko_262 (po_262_52 hp) ?_
    refine s_iload_n (pc := 16) rfl rfl ?_
    obtain ⟨hb4, hw⟩ := hw
    refine s_iald (pc := 17) rfl ka_291 (by decide) hb4 ?_
    refine s_iload_n (pc := 18) rfl rfl ?_
    obtain ⟨hz5, hw⟩ := hw
    obtain ⟨hz6, hw⟩ := hw
    refine s_ic_ne (pc := 19) (tgt := 24) rfl rfl hz5 hz6 (fun hc => ?_) (fun hc => ?_)
    · replace hw := hw.1 hc
      refine s_iinc (pc := 24) (L' := [some (.ref 262), some (.int (iz x1)), some (.int (iz x2)), some (.int (iz (x3 + 1)))]) rfl rfl (Nat.le_of_ble_eq_true rfl) rfl ?_
      refine s_goto (pc := 27) (tgt := 2) rfl rfl ?_
      exact hw
    · replace hw := hw.2 hc
      refine s_iconst (pc := 22) rfl ?_
      exact s_retz (pc := 23) rfl rfl (by decide) hw

set_option maxRecDepth 20000 in
set_option maxHeartbeats 4000000 in
theorem b_Mdl_isLike_0 {X : aX} {d : Nat} (x1 : Int) (x2 : Int)  (m : Mi) (J : Mj) (P : Mp) (hp : PP P) (post : Int → Mi → Mj → Mp → Prop)
    (hw : ((0 : Int) ≤ x1 ∧ (x1 : Int) < 40) ∧ ((0 : Int) ≤ x2 ∧ (x2 : Int) < 40) ∧ Zr ((m 293 x1.toNat) - x1) ∧ Zr ((m 294 x2.toNat) - x2) ∧ (((((m 293 x1.toNat) - x1) = ((m 294 x2.toNat) - x2)) → Rn X d 158 23 [some (.ref 262), some (.int (iz x1)), some (.int (iz x2)), some (.int (iz 0))] [] (SS m J P) (QI post)) ∧ (¬ (((m 293 x1.toNat) - x1) = ((m 294 x2.toNat) - x2)) → post 0 m J P))) : Rn X d 158 0 [some (.ref 262), some (.int (iz x1)), some (.int (iz x2)), none] [] (SS m J P) (QI post) := by
  refine s_aload_n (pc := 0) rfl rfl ?_
  refine s_getA (pc := 1) rfl ko_262 (po_262_54 hp) ?_
  refine s_iload_n (pc := 4) rfl rfl ?_
  obtain ⟨hb1, hw⟩ := hw
  refine s_iald (pc := 5) rfl ka_293 (by decide) hb1 ?_
  refine s_iload_n (pc := 6) rfl rfl ?_
  refine s_isub (pc := 7) rfl ?_
  refine s_aload_n (pc := 8) rfl rfl ?_
  refine s_getA (pc := 9) rfl ko_262 (po_262_55 hp) ?_
  refine s_iload_n (pc := 12) rfl rfl ?_
  obtain ⟨hb2, hw⟩ := hw
  refine s_iald (pc := 13) rfl ka_294 (by decide) hb2 ?_
  refine s_iload_n (pc := 14) rfl rfl ?_
  refine s_isub (pc := 15) rfl ?_
  obtain ⟨hz3, hw⟩ := hw
  obtain ⟨hz4, hw⟩ := hw
  refine s_ic_eq (pc := 16) (tgt := 21) rfl rfl hz3 hz4 (fun hc => ?_) (fun hc => ?_)
  · replace hw := hw.1 hc
    refine s_iconst (pc := 21) rfl ?_
    refine s_istore_n (pc := 22) (L' := [some (.ref 262), some (.int (iz x1)), some (.int (iz x2)), some (.int (iz 0))]) rfl (Nat.le_of_ble_eq_true rfl) rfl ?_
    exact hw
  · replace hw := hw.2 hc
    refine s_iconst (pc := 19) rfl ?_
    exact s_retz (pc := 20) rfl rfl (by decide) hw

set_option maxRecDepth 20000 in
set_option maxHeartbeats 4000000 in
theorem b_Mdl_isLike_23 {X : aX} {d : Nat} (x1 : Int) (x2 : Int) (x3 : Int)  (m : Mi) (J : Mj) (P : Mp) (hp : PP P) (post : Int → Mi → Mj → Mp → Prop)
    (hw : ((0 : Int) ≤ x1 ∧ (x1 : Int) < 40) ∧ Zr (x3) ∧ Zr ((m 293 x1.toNat) - x1) ∧ (((((m 293 x1.toNat) - x1) ≤ x3) → post 1 m J P) ∧ (¬ (((m 293 x1.toNat) - x1) ≤ x3) → ((0 : Int) ≤ (x1 + x3) ∧ ((x1 + x3) : Int) < 40) ∧ ((0 : Int) ≤ (x2 + x3) ∧ ((x2 + x3) : Int) < 40) ∧ Zr (m 291 (x1 + x3).toNat) ∧ Zr (m 292 (x2 + x3).toNat) ∧ ((((m 291 (x1 + x3).toNat) = (m 292 (x2 + x3).toNat)) → Rn X d 158 23 [some (.ref 262), some (.int (iz x1)), some (.int (iz x2)), some (.int (iz (x3 + 1)))] [] (SS m J P) (QI post)) ∧ (¬ ((m 291 (x1 + x3).toNat) = (m 292 (x2 + x3).toNat)) → post 0 m J P))))) : Rn X d 158 23 [some (.ref 262), some (.int (iz x1)), some (.int (iz x2)), some (.int (iz x3))] [] (SS m J P) (QI post) := by
  refine s_iload_n (pc := 23) rfl rfl ?_
  refine s_aload_n (pc := 24) rfl rfl ?_
  refine s_getA (pc := 25) rfl ko_262 (po_262_54 hp) ?_
  refine s_iload_n (pc := 28) rfl rfl ?_
  obtain ⟨hb1, hw⟩ := hw
  refine s_iald (pc := 29) rfl ka_293 (by decide) hb1 ?_
  refine s_iload_n (pc := 30) rfl rfl ?_
  refine s_isub (pc := 31) rfl ?_
  obtain ⟨hz2, hw⟩ := hw
  obtain ⟨hz3, hw⟩ := hw
  refine s_ic_ge (pc := 32) (tgt := 62) rfl rfl hz2 hz3 (fun hc => ?_) (fun hc => ?_)
  · replace hw := hw.1 hc
    refine s_iconst (pc := 62) rfl ?_
    exact s_retz (pc := 63) rfl rfl (by decide) hw
  · replace hw := hw.2 hc
    refine s_aload_n (pc := 35) rfl rfl ?_
    refine s_getA (pc := 36) rfl ko_262 (po_262_52 hp) ?_
    refine s_iload_n (pc := 39) rfl rfl ?_
    refine s_iload_n (pc := 40) rfl rfl ?_
    refine s_iadd (pc := 41) rfl ?_
    obtain ⟨hb4, hw⟩ := hw
    refine s_iald (pc := 42) rfl ka_291 (by decide) hb4 ?_
    refine s_aload_n (pc := 43) rfl rfl ?_
    refine s_getA (pc := 44) rfl ko_262 (po_262_53 hp) ?_
    refine s_iload_n (pc := 47) rfl rfl ?_
    refine s_iload_n (pc := 48) rfl rfl ?_
    refine s_iadd (pc := 49) rfl ?_
    obtain ⟨hb5, hw⟩ := hw
    refine s_iald (pc := 50) rfl ka_292 (by decide) hb5 ?_
    obtain ⟨hz6, hw⟩ := hw
    obtain ⟨hz7, hw⟩ := hw
    refine s_ic_eq (pc := 51) (tgt := 56) rfl rfl hz6 hz7 (fun hc => ?_) (fun hc => ?_)
    · replace hw := hw.1 hc
      refine s_iinc (pc := 56) (L' := [some (.ref 262), some (.int (iz x1)), some (.int (iz x2)), some (.int (iz (x3 + 1)))]) rfl rfl (Nat.le_of_ble_eq_true rfl) rfl ?_
      refine s_goto (pc := 59) (tgt := 23) rfl rfl ?_
      exact hw
    · replace hw := hw.2 hc
      refine s_iconst (pc := 54) rfl ?_
      exact s_retz (pc := 55) rfl rfl (by decide) hw

set_option maxRecDepth 20000 in
set_option maxHeartbeats 4000000 in
theorem b_Mdl_tells_0 {X : aX} {d : Nat}   (m : Mi) (J : Mj) (P : Mp) (hp : PP P) (post : Mi → Mj → Mp → Prop)
    (hw : Zr ((mu m 262 12 (m 262 10)) 262 10) ∧ (((¬ ((mu m 262 12 (m 262 10)) 262 10) = 0) → post (mu (mu m 262 12 (m 262 10)) 262 13 ((mu m 262 12 (m 262 10)) 262 11)) J P) ∧ (¬ (¬ ((mu m 262 12 (m 262 10)) 262 10) = 0) → post (mu (mu m 262 12 (m 262 10)) 262 13 ((-1))) J P))) : Rn X d 159 0 [some (.ref 262)] [] (SS m J P) (QV post) := by
  refine s_aload_n (pc := 0) rfl rfl ?_
  refine s_aload_n (pc := 1) rfl rfl ?_
  refine s_getI (pc := 2) rfl ko_262 ?_
  refine s_putI (pc := 5) rfl ko_262 ?_
  refine s_aload_n (pc := 8) rfl rfl ?_
  refine s_aload_n (pc := 9) rfl rfl ?_
  refine s_getI (pc := 10) rfl ko_262 ?_
  obtain ⟨hz1, hw⟩ := hw
  refine s_if_ne (pc := 13) (tgt := 20) rfl rfl hz1 (fun hc => ?_) (fun hc => ?_)
  · replace hw := hw.1 hc
    refine s_aload_n (pc := 20) rfl rfl ?_
    refine s_getI (pc := 21) rfl ko_262 ?_
    refine s_putI (pc := 24) rfl ko_262 ?_
    exact s_retv (pc := 27) rfl rfl hw
  · replace hw := hw.2 hc
    refine s_iconst (pc := 16) rfl ?_
    refine s_goto (pc := 17) (tgt := 24) rfl rfl ?_
    refine s_putI (pc := 24) rfl ko_262 ?_
    exact s_retv (pc := 27) rfl rfl hw

set_option maxRecDepth 20000 in
set_option maxHeartbeats 4000000 in
theorem b_Mdl_takeSystem_0 {X : aX} {d : Nat}   (m : Mi) (J : Mj) (P : Mp) (hp : PP P) (post : Mi → Mj → Mp → Prop)
    (hw : Rn X (d + 2) 160 23 [some (.ref 262), some (.int (iz 0)), none] [] (SS (mu (mu (mu m 262 33 1) 262 34 ((mu m 262 33 1) 262 14)) 262 35 ((mu (mu m 262 33 1) 262 34 ((mu m 262 33 1) 262 14)) 262 15)) J P) (QV post)) : Rn X (d + 2) 160 0 [some (.ref 262), none, none] [] (SS m J P) (QV post) := by
  refine s_aload_n (pc := 0) rfl rfl ?_
  refine s_iconst (pc := 1) rfl ?_
  refine s_putZ (pc := 2) rfl ko_262 (by decide) ?_
  refine s_aload_n (pc := 5) rfl rfl ?_
  refine s_aload_n (pc := 6) rfl rfl ?_
  refine s_getI (pc := 7) rfl ko_262 ?_
  refine s_putI (pc := 10) rfl ko_262 ?_
  refine s_aload_n (pc := 13) rfl rfl ?_
  refine s_aload_n (pc := 14) rfl rfl ?_
  refine s_getI (pc := 15) rfl ko_262 ?_
  refine s_putI (pc := 18) rfl ko_262 ?_
  refine s_iconst (pc := 21) rfl ?_
  refine s_istore_n (pc := 22) (L' := [some (.ref 262), some (.int (iz 0)), none]) rfl (Nat.le_of_ble_eq_true rfl) rfl ?_
  exact hw

set_option maxRecDepth 20000 in
set_option maxHeartbeats 4000000 in
theorem b_Mdl_takeSystem_23 {X : aX} {d : Nat} (x1 : Int)  (m : Mi) (J : Mj) (P : Mp) (hp : PP P) (post : Mi → Mj → Mp → Prop)
    (hw : Zr (x1) ∧ Zr (m 262 34) ∧ ((((m 262 34) ≤ x1) → Rn X (d + 2) 160 63 [some (.ref 262), some (.int (iz 0)), none] [] (SS m J P) (QV post)) ∧ (¬ ((m 262 34) ≤ x1) → ((0 : Int) ≤ x1 ∧ (x1 : Int) < 16) ∧ ((0 : Int) ≤ x1 ∧ (x1 : Int) < 16) ∧ ((0 : Int) ≤ x1 ∧ (x1 : Int) < 16) ∧ ((0 : Int) ≤ x1 ∧ (x1 : Int) < 16) ∧ Rn X (d + 2) 160 23 [some (.ref 262), some (.int (iz (x1 + 1))), none] [] (SS (mu m 280 x1.toNat (m 268 x1.toNat)) (mju J 279 x1.toNat (J 264 x1.toNat)) P) (QV post)))) : Rn X (d + 2) 160 23 [some (.ref 262), some (.int (iz x1)), none] [] (SS m J P) (QV post) := by
  refine s_iload_n (pc := 23) rfl rfl ?_
  refine s_aload_n (pc := 24) rfl rfl ?_
  refine s_getI (pc := 25) rfl ko_262 ?_
  obtain ⟨hz1, hw⟩ := hw
  obtain ⟨hz2, hw⟩ := hw
  refine s_ic_ge (pc := 28) (tgt := 61) rfl rfl hz1 hz2 (fun hc => ?_) (fun hc => ?_)
  · replace hw := hw.1 hc
    refine s_iconst (pc := 61) rfl ?_
    refine s_istore_n (pc := 62) (L' := [some (.ref 262), some (.int (iz 0)), none]) rfl (Nat.le_of_ble_eq_true rfl) rfl ?_
    exact hw
  · replace hw := hw.2 hc
    refine s_aload_n (pc := 31) rfl rfl ?_
    refine s_getA (pc := 32) rfl ko_262 (po_262_36 hp) ?_
    refine s_iload_n (pc := 35) rfl rfl ?_
    refine s_aload_n (pc := 36) rfl rfl ?_
    refine s_getA (pc := 37) rfl ko_262 (po_262_18 hp) ?_
    refine s_iload_n (pc := 40) rfl rfl ?_
    obtain ⟨hb3, hw⟩ := hw
    refine s_lald (pc := 41) rfl ka_264 (by decide) hb3 ?_
    obtain ⟨hb4, hw⟩ := hw
    refine s_last (pc := 42) rfl ka_279 (by decide) hb4 ?_
    refine s_aload_n (pc := 43) rfl rfl ?_
    refine s_getA (pc := 44) rfl ko_262 (po_262_37 hp) ?_
    refine s_iload_n (pc := 47) rfl rfl ?_
    refine s_aload_n (pc := 48) rfl rfl ?_
    refine s_getA (pc := 49) rfl ko_262 (po_262_22 hp) ?_
    refine s_iload_n (pc := 52) rfl rfl ?_
    obtain ⟨hb5, hw⟩ := hw
    refine s_iald (pc := 53) rfl ka_268 (by decide) hb5 ?_
    obtain ⟨hb6, hw⟩ := hw
    refine s_iast (pc := 54) rfl ka_280 (by decide) hb6 ?_
    refine s_iinc (pc := 55) (L' := [some (.ref 262), some (.int (iz (x1 + 1))), none]) rfl rfl (Nat.le_of_ble_eq_true rfl) rfl ?_
    refine s_goto (pc := 58) (tgt := 23) rfl rfl ?_
    exact hw

set_option maxRecDepth 20000 in
set_option maxHeartbeats 4000000 in
theorem b_Mdl_takeSystem_63 {X : aX} {d : Nat} (x1 : Int)  (m : Mi) (J : Mj) (P : Mp) (hp : PP P) (post : Mi → Mj → Mp → Prop)
    (hw : Zr (x1) ∧ Zr (m 262 35) ∧ ((((m 262 35) ≤ x1) → post m J P) ∧ (¬ ((m 262 35) ≤ x1) → ((0 : Int) ≤ x1 ∧ (x1 : Int) < 16) ∧ ((0 : Int) ≤ x1 ∧ (x1 : Int) < 16) ∧ ((0 : Int) ≤ x1 ∧ (x1 : Int) < 16) ∧ ((0 : Int) ≤ x1 ∧ (x1 : Int) < 16) ∧ ((0 : Int) ≤ x1 ∧ (x1 : Int) < 16) ∧ ((0 : Int) ≤ x1 ∧ (x1 : Int) < 16) ∧ ((0 : Int) ≤ x1 ∧ (x1 : Int) < 16) ∧ ((0 : Int) ≤ x1 ∧ (x1 : Int) < 16) ∧ Ci X (d + 1) 153 [.ref 262, .int (iz ((mu (mu m 283 x1.toNat ((m 273 x1.toNat) - (m 272 x1.toNat))) 284 x1.toNat (((mu m 283 x1.toNat ((m 273 x1.toNat) - (m 272 x1.toNat))) 274 x1.toNat) - ((mu m 283 x1.toNat ((m 273 x1.toNat) - (m 272 x1.toNat))) 273 x1.toNat))) 272 x1.toNat)), .int (iz ((mu (mu m 283 x1.toNat ((m 273 x1.toNat) - (m 272 x1.toNat))) 284 x1.toNat (((mu m 283 x1.toNat ((m 273 x1.toNat) - (m 272 x1.toNat))) 274 x1.toNat) - ((mu m 283 x1.toNat ((m 273 x1.toNat) - (m 272 x1.toNat))) 273 x1.toNat))) 273 x1.toNat)), .ref 291] (mu (mu m 283 x1.toNat ((m 273 x1.toNat) - (m 272 x1.toNat))) 284 x1.toNat (((mu m 283 x1.toNat ((m 273 x1.toNat) - (m 272 x1.toNat))) 274 x1.toNat) - ((mu m 283 x1.toNat ((m 273 x1.toNat) - (m 272 x1.toNat))) 273 x1.toNat))) J P (fun z14 m11 J12 P13 => PP P13 ∧ ((0 : Int) ≤ x1 ∧ (x1 : Int) < 16) ∧ ((0 : Int) ≤ x1 ∧ (x1 : Int) < 16) ∧ Ci X (d + 1) 153 [.ref 262, .int (iz (m11 273 x1.toNat)), .int (iz (m11 274 x1.toNat)), .ref 292] m11 J12 P13 (fun z21 m18 J19 P20 => PP P20 ∧ Rn X (d + 2) 160 153 [some (.ref 262), some (.int (iz x1)), some (.int (iz 0))] [] (SS m18 J19 P20) (QV post)))))) : Rn X (d + 2) 160 63 [some (.ref 262), some (.int (iz x1)), none] [] (SS m J P) (QV post) := by
  refine s_iload_n (pc := 63) rfl rfl ?_
  refine s_aload_n (pc := 64) rfl rfl ?_
  refine s_getI (pc := 65) rfl ko_262 ?_
  obtain ⟨hz1, hw⟩ := hw
  obtain ⟨hz2, hw⟩ := hw
  refine s_ic_ge (pc := 68) (tgt := 275) rfl rfl hz1 hz2 (fun hc => ?_) (fun hc => ?_)
  · replace hw := hw.1 hc
    exact s_retv (pc := 275) rfl rfl hw
  · replace hw := hw.2 hc
    refine s_aload_n (pc := 71) rfl rfl ?_
    refine s_getA (pc := 72) rfl ko_262 (po_262_40 hp) ?_
    refine s_iload_n (pc := 75) rfl rfl ?_
    refine s_aload_n (pc := 76) rfl rfl ?_
    refine s_getA (pc := 77) rfl ko_262 (po_262_27 hp) ?_
    refine s_iload_n (pc := 80) rfl rfl ?_
    obtain ⟨hb3, hw⟩ := hw
    refine s_iald (pc := 81) rfl ka_273 (by decide) hb3 ?_
    refine s_aload_n (pc := 82) rfl rfl ?_
    refine s_getA (pc := 83) rfl ko_262 (po_262_26 hp) ?_
    refine s_iload_n (pc := 86) rfl rfl ?_
    obtain ⟨hb4, hw⟩ := hw
    refine s_iald (pc := 87) rfl ka_272 (by decide) hb4 ?_
    refine s_isub (pc := 88) rfl ?_
    obtain ⟨hb5, hw⟩ := hw
    refine s_iast (pc := 89) rfl ka_283 (by decide) hb5 ?_
    refine s_aload_n (pc := 90) rfl rfl ?_
    refine s_getA (pc := 91) rfl ko_262 (po_262_41 hp) ?_
    refine s_iload_n (pc := 94) rfl rfl ?_
    refine s_aload_n (pc := 95) rfl rfl ?_
    refine s_getA (pc := 96) rfl ko_262 (po_262_28 hp) ?_
    refine s_iload_n (pc := 99) rfl rfl ?_
    obtain ⟨hb6, hw⟩ := hw
    refine s_iald (pc := 100) rfl ka_274 (by decide) hb6 ?_
    refine s_aload_n (pc := 101) rfl rfl ?_
    refine s_getA (pc := 102) rfl ko_262 (po_262_27 hp) ?_
    refine s_iload_n (pc := 105) rfl rfl ?_
    obtain ⟨hb7, hw⟩ := hw
    refine s_iald (pc := 106) rfl ka_273 (by decide) hb7 ?_
    refine s_isub (pc := 107) rfl ?_
    obtain ⟨hb8, hw⟩ := hw
    refine s_iast (pc := 108) rfl ka_284 (by decide) hb8 ?_
    refine s_aload_n (pc := 109) rfl rfl ?_
    refine s_aload_n (pc := 110) rfl rfl ?_
    refine s_getA (pc := 111) rfl ko_262 (po_262_26 hp) ?_
    refine s_iload_n (pc := 114) rfl rfl ?_
    obtain ⟨hb9, hw⟩ := hw
    refine s_iald (pc := 115) rfl ka_272 (by decide) hb9 ?_
    refine s_aload_n (pc := 116) rfl rfl ?_
    refine s_getA (pc := 117) rfl ko_262 (po_262_27 hp) ?_
    refine s_iload_n (pc := 120) rfl rfl ?_
    obtain ⟨hb10, hw⟩ := hw
    refine s_iald (pc := 121) rfl ka_273 (by decide) hb10 ?_
    refine s_aload_n (pc := 122) rfl rfl ?_
    refine s_getA (pc := 123) rfl ko_262 (po_262_52 hp) ?_
    refine s_ci (pc := 126) (d := (d + 1)) (t := []) rfl rfl (am_ca_v (ps := [.ref 291, .int (iz ((mu (mu m 283 x1.toNat ((m 273 x1.toNat) - (m 272 x1.toNat))) 284 x1.toNat (((mu m 283 x1.toNat ((m 273 x1.toNat) - (m 272 x1.toNat))) 274 x1.toNat) - ((mu m 283 x1.toNat ((m 273 x1.toNat) - (m 272 x1.toNat))) 273 x1.toNat))) 273 x1.toNat)), .int (iz ((mu (mu m 283 x1.toNat ((m 273 x1.toNat) - (m 272 x1.toNat))) 284 x1.toNat (((mu m 283 x1.toNat ((m 273 x1.toNat) - (m 272 x1.toNat))) 274 x1.toNat) - ((mu m 283 x1.toNat ((m 273 x1.toNat) - (m 272 x1.toNat))) 273 x1.toNat))) 272 x1.toNat))]) rfl ko_262) (Nat.le_of_ble_eq_true rfl) (Ci.weak hw fun z14 m11 J12 P13 hw => ?_)
    obtain ⟨hp15, hw⟩ := hw
    refine s_pop (pc := 129) rfl rfl ?_
    refine s_aload_n (pc := 130) rfl rfl ?_
    refine s_aload_n (pc := 131) rfl rfl ?_
    refine s_getA (pc := 132) rfl ko_262 (po_262_27 hp15) ?_
    refine s_iload_n (pc := 135) rfl rfl ?_
    obtain ⟨hb16, hw⟩ := hw
    refine s_iald (pc := 136) rfl ka_273 (by decide) hb16 ?_
    refine s_aload_n (pc := 137) rfl rfl ?_
    refine s_getA (pc := 138) rfl ko_262 (po_262_28 hp15) ?_
    refine s_iload_n (pc := 141) rfl rfl ?_
    obtain ⟨hb17, hw⟩ := hw
    refine s_iald (pc := 142) rfl ka_274 (by decide) hb17 ?_
    refine s_aload_n (pc := 143) rfl rfl ?_
    refine s_getA (pc := 144) rfl ko_262 (po_262_53 hp15) ?_
    refine s_ci (pc := 147) (d := (d + 1)) (t := []) rfl rfl (am_ca_v (ps := [.ref 292, .int (iz (m11 274 x1.toNat)), .int (iz (m11 273 x1.toNat))]) rfl ko_262) (Nat.le_of_ble_eq_true rfl) (Ci.weak hw fun z21 m18 J19 P20 hw => ?_)
    obtain ⟨hp22, hw⟩ := hw
    refine s_pop (pc := 150) rfl rfl ?_
    refine s_iconst (pc := 151) rfl ?_
    refine s_istore_n (pc := 152) (L' := [some (.ref 262), some (.int (iz x1)), some (.int (iz 0))]) rfl (Nat.le_of_ble_eq_true rfl) rfl ?_
    exact hw

set_option maxRecDepth 20000 in
set_option maxHeartbeats 4000000 in
theorem b_Mdl_takeSystem_153 {X : aX} {d : Nat} (x1 : Int) (x2 : Int)  (m : Mi) (J : Mj) (P : Mp) (hp : PP P) (post : Mi → Mj → Mp → Prop)
    (hw : ((0 : Int) ≤ x1 ∧ (x1 : Int) < 16) ∧ Zr (x2) ∧ Zr (m 283 x1.toNat) ∧ ((((m 283 x1.toNat) ≤ x2) → Rn X (d + 2) 160 188 [some (.ref 262), some (.int (iz x1)), some (.int (iz 0))] [] (SS m J P) (QV post)) ∧ (¬ ((m 283 x1.toNat) ≤ x2) → ((0 : Int) ≤ x2 ∧ (x2 : Int) < 40) ∧ ((0 : Int) ≤ ((40 * x1) + x2) ∧ (((40 * x1) + x2) : Int) < 640) ∧ Rn X (d + 2) 160 153 [some (.ref 262), some (.int (iz x1)), some (.int (iz (x2 + 1)))] [] (SS (mu m 281 ((40 * x1) + x2).toNat (m 291 x2.toNat)) J P) (QV post)))) : Rn X (d + 2) 160 153 [some (.ref 262), some (.int (iz x1)), some (.int (iz x2))] [] (SS m J P) (QV post) := by
  refine s_iload_n (pc := 153) rfl rfl ?_
  refine s_aload_n (pc := 154) rfl rfl ?_
  refine s_getA (pc := 155) rfl ko_262 (po_262_40 hp) ?_
  refine s_iload_n (pc := 158) rfl rfl ?_
  obtain ⟨hb1, hw⟩ := hw
  refine s_iald (pc := 159) rfl ka_283 (by decide) hb1 ?_
  obtain ⟨hz2, hw⟩ := hw
  obtain ⟨hz3, hw⟩ := hw
  refine s_ic_ge (pc := 160) (tgt := 186) rfl rfl hz2 hz3 (fun hc => ?_) (fun hc => ?_)
  · replace hw := hw.1 hc
    refine s_iconst (pc := 186) rfl ?_
    refine s_istore_n (pc := 187) (L' := [some (.ref 262), some (.int (iz x1)), some (.int (iz 0))]) rfl (Nat.le_of_ble_eq_true rfl) rfl ?_
    exact hw
  · replace hw := hw.2 hc
    refine s_aload_n (pc := 163) rfl rfl ?_
    refine s_getA (pc := 164) rfl ko_262 (po_262_38 hp) ?_
    refine s_bipush (pc := 167) rfl (by decide) ?_
    refine s_iload_n (pc := 169) rfl rfl ?_
    refine s_imul (pc := 170) rfl ?_
    refine s_iload_n (pc := 171) rfl rfl ?_
    refine s_iadd (pc := 172) rfl ?_
    refine s_aload_n (pc := 173) rfl rfl ?_
    refine s_getA (pc := 174) rfl ko_262 (po_262_52 hp) ?_
    refine s_iload_n (pc := 177) rfl rfl ?_
    obtain ⟨hb4, hw⟩ := hw
    refine s_iald (pc := 178) rfl ka_291 (by decide) hb4 ?_
    obtain ⟨hb5, hw⟩ := hw
    refine s_iast (pc := 179) rfl ka_281 (by decide) hb5 ?_
    refine s_iinc (pc := 180) (L' := [some (.ref 262), some (.int (iz x1)), some (.int (iz (x2 + 1)))]) rfl rfl (Nat.le_of_ble_eq_true rfl) rfl ?_
    refine s_goto (pc := 183) (tgt := 153) rfl rfl ?_
    exact hw

set_option maxRecDepth 20000 in
set_option maxHeartbeats 4000000 in
theorem b_Mdl_takeSystem_188 {X : aX} {d : Nat} (x1 : Int) (x2 : Int)  (m : Mi) (J : Mj) (P : Mp) (hp : PP P) (post : Mi → Mj → Mp → Prop)
    (hw : ((0 : Int) ≤ x1 ∧ (x1 : Int) < 16) ∧ Zr (x2) ∧ Zr (m 284 x1.toNat) ∧ ((((m 284 x1.toNat) ≤ x2) → ((0 : Int) ≤ x1 ∧ (x1 : Int) < 16) ∧ ((0 : Int) ≤ x1 ∧ (x1 : Int) < 16) ∧ Rn X (d + 2) 160 235 [some (.ref 262), some (.int (iz x1)), some (.int (iz 0))] [] (SS (mu m 285 x1.toNat (m 276 x1.toNat)) J P) (QV post)) ∧ (¬ ((m 284 x1.toNat) ≤ x2) → ((0 : Int) ≤ x2 ∧ (x2 : Int) < 40) ∧ ((0 : Int) ≤ ((40 * x1) + x2) ∧ (((40 * x1) + x2) : Int) < 640) ∧ Rn X (d + 2) 160 188 [some (.ref 262), some (.int (iz x1)), some (.int (iz (x2 + 1)))] [] (SS (mu m 282 ((40 * x1) + x2).toNat (m 292 x2.toNat)) J P) (QV post)))) : Rn X (d + 2) 160 188 [some (.ref 262), some (.int (iz x1)), some (.int (iz x2))] [] (SS m J P) (QV post) := by
  refine s_iload_n (pc := 188) rfl rfl ?_
  refine s_aload_n (pc := 189) rfl rfl ?_
  refine s_getA (pc := 190) rfl ko_262 (po_262_41 hp) ?_
  refine s_iload_n (pc := 193) rfl rfl ?_
  obtain ⟨hb1, hw⟩ := hw
  refine s_iald (pc := 194) rfl ka_284 (by decide) hb1 ?_
  obtain ⟨hz2, hw⟩ := hw
  obtain ⟨hz3, hw⟩ := hw
  refine s_ic_ge (pc := 195) (tgt := 221) rfl rfl hz2 hz3 (fun hc => ?_) (fun hc => ?_)
  · replace hw := hw.1 hc
    refine s_aload_n (pc := 221) rfl rfl ?_
    refine s_getA (pc := 222) rfl ko_262 (po_262_42 hp) ?_
    refine s_iload_n (pc := 225) rfl rfl ?_
    refine s_aload_n (pc := 226) rfl rfl ?_
    refine s_getA (pc := 227) rfl ko_262 (po_262_30 hp) ?_
    refine s_iload_n (pc := 230) rfl rfl ?_
    obtain ⟨hb4, hw⟩ := hw
    refine s_iald (pc := 231) rfl ka_276 (by decide) hb4 ?_
    obtain ⟨hb5, hw⟩ := hw
    refine s_iast (pc := 232) rfl ka_285 (by decide) hb5 ?_
    refine s_iconst (pc := 233) rfl ?_
    refine s_istore_n (pc := 234) (L' := [some (.ref 262), some (.int (iz x1)), some (.int (iz 0))]) rfl (Nat.le_of_ble_eq_true rfl) rfl ?_
    exact hw
  · replace hw := hw.2 hc
    refine s_aload_n (pc := 198) rfl rfl ?_
    refine s_getA (pc := 199) rfl ko_262 (po_262_39 hp) ?_
    refine s_bipush (pc := 202) rfl (by decide) ?_
    refine s_iload_n (pc := 204) rfl rfl ?_
    refine s_imul (pc := 205) rfl ?_
    refine s_iload_n (pc := 206) rfl rfl ?_
    refine s_iadd (pc := 207) rfl ?_
    refine s_aload_n (pc := 208) rfl rfl ?_
    refine s_getA (pc := 209) rfl ko_262 (po_262_53 hp) ?_
    refine s_iload_n (pc := 212) rfl rfl ?_
    obtain ⟨hb6, hw⟩ := hw
    refine s_iald (pc := 213) rfl ka_292 (by decide) hb6 ?_
    obtain ⟨hb7, hw⟩ := hw
    refine s_iast (pc := 214) rfl ka_282 (by decide) hb7 ?_
    refine s_iinc (pc := 215) (L' := [some (.ref 262), some (.int (iz x1)), some (.int (iz (x2 + 1)))]) rfl rfl (Nat.le_of_ble_eq_true rfl) rfl ?_
    refine s_goto (pc := 218) (tgt := 188) rfl rfl ?_
    exact hw

set_option maxRecDepth 20000 in
set_option maxHeartbeats 4000000 in
theorem b_Mdl_takeSystem_235 {X : aX} {d : Nat} (x1 : Int) (x2 : Int)  (m : Mi) (J : Mj) (P : Mp) (hp : PP P) (post : Mi → Mj → Mp → Prop)
    (hw : Zr (x2) ∧ (((8 ≤ x2) → Rn X (d + 2) 160 63 [some (.ref 262), some (.int (iz (x1 + 1))), none] [] (SS m J P) (QV post)) ∧ (¬ (8 ≤ x2) → ((0 : Int) ≤ ((8 * x1) + x2) ∧ (((8 * x1) + x2) : Int) < 128) ∧ ((0 : Int) ≤ ((8 * x1) + x2) ∧ (((8 * x1) + x2) : Int) < 128) ∧ Rn X (d + 2) 160 235 [some (.ref 262), some (.int (iz x1)), some (.int (iz (x2 + 1)))] [] (SS m (mju J 286 ((8 * x1) + x2).toNat (J 277 ((8 * x1) + x2).toNat)) P) (QV post)))) : Rn X (d + 2) 160 235 [some (.ref 262), some (.int (iz x1)), some (.int (iz x2))] [] (SS m J P) (QV post) := by
  refine s_iload_n (pc := 235) rfl rfl ?_
  refine s_bipush (pc := 236) rfl (by decide) ?_
  obtain ⟨hz1, hw⟩ := hw
  refine s_ic_ge (pc := 238) (tgt := 269) rfl rfl hz1 (by decide) (fun hc => ?_) (fun hc => ?_)
  · replace hw := hw.1 hc
    refine s_iinc (pc := 269) (L' := [some (.ref 262), some (.int (iz (x1 + 1))), some (.int (iz x2))]) rfl rfl (Nat.le_of_ble_eq_true rfl) rfl ?_
    refine s_goto (pc := 272) (tgt := 63) rfl rfl ?_
    exact Rn.weakL hw (LLe.keep _ (LLe.keep _ (LLe.drop _ (LLe.nil))))
  · replace hw := hw.2 hc
    refine s_aload_n (pc := 241) rfl rfl ?_
    refine s_getA (pc := 242) rfl ko_262 (po_262_43 hp) ?_
    refine s_bipush (pc := 245) rfl (by decide) ?_
    refine s_iload_n (pc := 247) rfl rfl ?_
    refine s_imul (pc := 248) rfl ?_
    refine s_iload_n (pc := 249) rfl rfl ?_
    refine s_iadd (pc := 250) rfl ?_
    refine s_aload_n (pc := 251) rfl rfl ?_
    refine s_getA (pc := 252) rfl ko_262 (po_262_31 hp) ?_
    refine s_bipush (pc := 255) rfl (by decide) ?_
    refine s_iload_n (pc := 257) rfl rfl ?_
    refine s_imul (pc := 258) rfl ?_
    refine s_iload_n (pc := 259) rfl rfl ?_
    refine s_iadd (pc := 260) rfl ?_
    obtain ⟨hb2, hw⟩ := hw
    refine s_lald (pc := 261) rfl ka_277 (by decide) hb2 ?_
    obtain ⟨hb3, hw⟩ := hw
    refine s_last (pc := 262) rfl ka_286 (by decide) hb3 ?_
    refine s_iinc (pc := 263) (L' := [some (.ref 262), some (.int (iz x1)), some (.int (iz (x2 + 1)))]) rfl rfl (Nat.le_of_ble_eq_true rfl) rfl ?_
    refine s_goto (pc := 266) (tgt := 235) rfl rfl ?_
    exact hw
