/-! the methods, from place to place, by program (wip/whole/gen/blk.py) -/
set_option maxRecDepth 20000 in
set_option maxHeartbeats 4000000 in
theorem b_Nh_feed_0 {X : aX} {d : Nat} (x1 : Int) (x2 : Int) (x3 : Int) (x4 : Int) (x5 : Int)  (m : Mi) (J : Mj) (P : Mp) (hp : PP P) (post : Int → Mi → Mj → Mp → Prop)
    (hw : Zr ((m 2 1) + 20) ∧ (((((m 2 1) + 20) ≤ 1600) → Cv X d 13 [.ref 2, .int (iz x1)] m J P (fun m2 J3 P4 => PP P4 ∧ Cv X d 13 [.ref 2, .int (iz x2)] m2 J3 P4 (fun m7 J8 P9 => PP P9 ∧ Cv X d 13 [.ref 2, .int (iz x3)] m7 J8 P9 (fun m12 J13 P14 => PP P14 ∧ Cv X d 13 [.ref 2, .int (iz x4)] m12 J13 P14 (fun m17 J18 P19 => PP P19 ∧ Cv X d 13 [.ref 2, .int (iz x5)] m17 J18 P19 (fun m22 J23 P24 => PP P24 ∧ post (m22 2 1) m22 J23 P24)))))) ∧ (¬ (((m 2 1) + 20) ≤ 1600) → post ((-1)) m J P))) : Rn X (d + 1) 12 0 [some (.ref 1), some (.int (iz x1)), some (.int (iz x2)), some (.int (iz x3)), some (.int (iz x4)), some (.int (iz x5))] [] (SS m J P) (QI post) := by
  refine s_aload_n (pc := 0) rfl rfl ?_
  refine s_getA (pc := 1) rfl ko_1 (po_1_0 hp) ?_
  refine s_getI (pc := 4) rfl ko_2 ?_
  refine s_bipush (pc := 7) rfl (by decide) ?_
  refine s_iadd (pc := 9) rfl ?_
  refine s_sipush (pc := 10) rfl (by decide) ?_
  obtain ⟨hz1, hw⟩ := hw
  refine s_ic_le (pc := 13) (tgt := 18) rfl rfl hz1 (by decide) (fun hc => ?_) (fun hc => ?_)
  · replace hw := hw.1 hc
    refine s_aload_n (pc := 18) rfl rfl ?_
    refine s_getA (pc := 19) rfl ko_1 (po_1_0 hp) ?_
    refine s_iload_n (pc := 22) rfl rfl ?_
    refine s_cv (pc := 23) (d := d) (t := []) rfl rfl (am_ca_v (ps := [.int (iz x1)]) rfl ko_2) (Nat.le_of_ble_eq_true rfl) (Cv.weak hw fun m2 J3 P4 hw => ?_)
    obtain ⟨hp6, hw⟩ := hw
    refine s_aload_n (pc := 26) rfl rfl ?_
    refine s_getA (pc := 27) rfl ko_1 (po_1_0 hp6) ?_
    refine s_iload_n (pc := 30) rfl rfl ?_
    refine s_cv (pc := 31) (d := d) (t := []) rfl rfl (am_ca_v (ps := [.int (iz x2)]) rfl ko_2) (Nat.le_of_ble_eq_true rfl) (Cv.weak hw fun m7 J8 P9 hw => ?_)
    obtain ⟨hp11, hw⟩ := hw
    refine s_aload_n (pc := 34) rfl rfl ?_
    refine s_getA (pc := 35) rfl ko_1 (po_1_0 hp11) ?_
    refine s_iload_n (pc := 38) rfl rfl ?_
    refine s_cv (pc := 39) (d := d) (t := []) rfl rfl (am_ca_v (ps := [.int (iz x3)]) rfl ko_2) (Nat.le_of_ble_eq_true rfl) (Cv.weak hw fun m12 J13 P14 hw => ?_)
    obtain ⟨hp16, hw⟩ := hw
    refine s_aload_n (pc := 42) rfl rfl ?_
    refine s_getA (pc := 43) rfl ko_1 (po_1_0 hp16) ?_
    refine s_iload (pc := 46) rfl rfl ?_
    refine s_cv (pc := 48) (d := d) (t := []) rfl rfl (am_ca_v (ps := [.int (iz x4)]) rfl ko_2) (Nat.le_of_ble_eq_true rfl) (Cv.weak hw fun m17 J18 P19 hw => ?_)
    obtain ⟨hp21, hw⟩ := hw
    refine s_aload_n (pc := 51) rfl rfl ?_
    refine s_getA (pc := 52) rfl ko_1 (po_1_0 hp21) ?_
    refine s_iload (pc := 55) rfl rfl ?_
    refine s_cv (pc := 57) (d := d) (t := []) rfl rfl (am_ca_v (ps := [.int (iz x5)]) rfl ko_2) (Nat.le_of_ble_eq_true rfl) (Cv.weak hw fun m22 J23 P24 hw => ?_)
    obtain ⟨hp26, hw⟩ := hw
    refine s_aload_n (pc := 60) rfl rfl ?_
    refine s_getA (pc := 61) rfl ko_1 (po_1_0 hp26) ?_
    refine s_getI (pc := 64) rfl ko_2 ?_
    exact s_reti (pc := 67) rfl rfl hw
  · replace hw := hw.2 hc
    refine s_iconst (pc := 16) rfl ?_
    exact s_reti (pc := 17) rfl rfl hw

set_option maxRecDepth 20000 in
set_option maxHeartbeats 4000000 in
theorem b_Text_append_0 {X : aX} {d : Nat} (x1 : Int)  (m : Mi) (J : Mj) (P : Mp) (hp : PP P) (post : Mi → Mj → Mp → Prop)
    (hw : Rn X d 13 3 [some (.ref 2), some (.int (iz x1)), some (.int (iz 24))] [] (SS m J P) (QV post)) : Rn X d 13 0 [some (.ref 2), some (.int (iz x1)), none] [] (SS m J P) (QV post) := by
  refine s_bipush (pc := 0) rfl (by decide) ?_
  refine s_istore_n (pc := 2) (L' := [some (.ref 2), some (.int (iz x1)), some (.int (iz 24))]) rfl (Nat.le_of_ble_eq_true rfl) rfl ?_
  exact hw

set_option maxRecDepth 20000 in
set_option maxHeartbeats 4000000 in
theorem b_Text_append_3 {X : aX} {d : Nat} (x1 : Int) (x2 : Int)  (m : Mi) (J : Mj) (P : Mp) (hp : PP P) (post : Mi → Mj → Mp → Prop)
    (hw : Zr (x2) ∧ (((x2 < 0) → post m J P) ∧ (¬ (x2 < 0) → Zr (m 2 1) ∧ (((1600 ≤ (m 2 1)) → post m J P) ∧ (¬ (1600 ≤ (m 2 1)) → ((0 : Int) ≤ (m 2 1) ∧ ((m 2 1) : Int) < 1600) ∧ Rn X d 13 3 [some (.ref 2), some (.int (iz x1)), some (.int (iz (x2 + (-8))))] [] (SS (mu (mu m 3 (m 2 1).toNat (zand (zushr x1 x2) 255)) 2 1 (((mu m 3 (m 2 1).toNat (zand (zushr x1 x2) 255)) 2 1) + 1)) J P) (QV post)))))) : Rn X d 13 3 [some (.ref 2), some (.int (iz x1)), some (.int (iz x2))] [] (SS m J P) (QV post) := by
  refine s_iload_n (pc := 3) rfl rfl ?_
  obtain ⟨hz1, hw⟩ := hw
  refine s_if_lt (pc := 4) (tgt := 49) rfl rfl hz1 (fun hc => ?_) (fun hc => ?_)
  · replace hw := hw.1 hc
    exact s_retv (pc := 49) rfl rfl hw
  · replace hw := hw.2 hc
    refine s_aload_n (pc := 7) rfl rfl ?_
    refine s_getI (pc := 8) rfl ko_2 ?_
    refine s_sipush (pc := 11) rfl (by decide) ?_
    obtain ⟨hz2, hw⟩ := hw
    refine s_ic_ge (pc := 14) (tgt := 49) rfl rfl hz2 (by decide) (fun hc => ?_) (fun hc => ?_)
    · replace hw := hw.1 hc
      exact s_retv (pc := 49) rfl rfl hw
    · replace hw := hw.2 hc
      refine s_aload_n (pc := 17) rfl rfl ?_
      refine s_getA (pc := 18) rfl ko_2 (po_2_0 hp) ?_
      refine s_aload_n (pc := 21) rfl rfl ?_
      refine s_getI (pc := 22) rfl ko_2 ?_
      refine s_iload_n (pc := 25) rfl rfl ?_
      refine s_iload_n (pc := 26) rfl rfl ?_
      refine s_iushr (pc := 27) rfl ?_
      refine s_sipush (pc := 28) rfl (by decide) ?_
      refine s_iand (pc := 31) rfl ?_
      obtain ⟨hb3, hw⟩ := hw
      refine s_iast (pc := 32) rfl ka_3 (by decide) hb3 ?_
      refine s_aload_n (pc := 33) rfl rfl ?_
      refine s_dup (pc := 34) rfl rfl ?_
      refine s_getI (pc := 35) rfl ko_2 ?_
      refine s_iconst (pc := 38) rfl ?_
      refine s_iadd (pc := 39) rfl ?_
      refine s_putI (pc := 40) rfl ko_2 ?_
      refine s_iinc (pc := 43) (L' := [some (.ref 2), some (.int (iz x1)), some (.int (iz (x2 + (-8))))]) rfl rfl (Nat.le_of_ble_eq_true rfl) rfl ?_
      refine s_goto (pc := 46) (tgt := 3) rfl rfl ?_
      exact hw

set_option maxRecDepth 20000 in
set_option maxHeartbeats 4000000 in
theorem b_Nh_system_0 {X : aX} {d : Nat} (x1 : Int)  (m : Mi) (J : Mj) (P : Mp) (hp : PP P) (post : Int → Mi → Mj → Mp → Prop)
    (hw : Ci X (d + 6) 15 [.ref 2, .int (iz x1)] m J P (fun z4 m1 J2 P3 => PP P3 ∧ Zr (z4) ∧ (((z4 = 0) → (∃ q7, P3 1 9 = some q7 ∧ am_kd an_K q7 = some (.inl 10) ∧ Ci X (d + 6) 16 [.ref 4, .int (iz x1), .ref q7] m1 J2 P3 (fun z11 m8 J9 P10 => PP P10 ∧ Zr (z11) ∧ (((z11 = 0) → (∃ q14, P10 1 8 = some q14 ∧ am_kd an_K q14 = some (.inl 10) ∧ (∃ q15, P10 1 9 = some q15 ∧ am_kd an_K q15 = some (.inl 10) ∧ PP (mpu P10 1 8 (some q15)) ∧ PP (mpu (mpu P10 1 8 (some q15)) 1 9 (some q14)) ∧ (∃ q18, (mpu (mpu P10 1 8 (some q15)) 1 9 (some q14)) 1 8 = some q18 ∧ am_kd an_K q18 = some (.inl 10) ∧ Cv X (d + 6) 47 [.ref 28, .ref q18] (mu (mu m8 1 11 1) 38 8 0) J9 (mpu (mpu P10 1 8 (some q15)) 1 9 (some q14)) (fun m19 J20 P21 => PP P21 ∧ (∃ q24, P21 1 8 = some q24 ∧ am_kd an_K q24 = some (.inl 10) ∧ Cv X (d + 6) 49 [.ref 36, .ref q24] m19 J20 P21 (fun m25 J26 P27 => PP P27 ∧ post 0 m25 J26 P27))))))) ∧ (¬ (z11 = 0) → post (m8 4 3) m8 J9 P10))))) ∧ (¬ (z4 = 0) → post ((-1)) m1 J2 P3)))) : Rn X (d + 7) 14 0 [some (.ref 1), some (.int (iz x1)), none] [] (SS m J P) (QI post) := by
  refine s_aload_n (pc := 0) rfl rfl ?_
  refine s_getA (pc := 1) rfl ko_1 (po_1_0 hp) ?_
  refine s_iload_n (pc := 4) rfl rfl ?_
  refine s_ci (pc := 5) (d := (d + 6)) (t := []) rfl rfl (am_ca_v (ps := [.int (iz x1)]) rfl ko_2) (Nat.le_of_ble_eq_true rfl) (Ci.weak hw fun z4 m1 J2 P3 hw => ?_)
  obtain ⟨hp5, hw⟩ := hw
  obtain ⟨hz6, hw⟩ := hw
  refine s_if_eq (pc := 8) (tgt := 13) rfl rfl hz6 (fun hc => ?_) (fun hc => ?_)
  · replace hw := hw.1 hc
    refine s_aload_n (pc := 13) rfl rfl ?_
    refine s_getA (pc := 14) rfl ko_1 (po_1_1 hp5) ?_
    refine s_iload_n (pc := 17) rfl rfl ?_
    refine s_aload_n (pc := 18) rfl rfl ?_
    obtain ⟨q7, hq7, kq7, hw⟩ := hw
    refine s_getA (pc := 19) rfl ko_1 hq7 ?_
    refine s_ci (pc := 22) (d := (d + 6)) (t := []) rfl rfl (am_ca_v (ps := [.ref q7, .int (iz x1)]) rfl ko_4) (Nat.le_of_ble_eq_true rfl) (Ci.weak hw fun z11 m8 J9 P10 hw => ?_)
    obtain ⟨hp12, hw⟩ := hw
    obtain ⟨hz13, hw⟩ := hw
    refine s_if_eq (pc := 25) (tgt := 36) rfl rfl hz13 (fun hc => ?_) (fun hc => ?_)
    · replace hw := hw.1 hc
      refine s_aload_n (pc := 36) rfl rfl ?_
      obtain ⟨q14, hq14, kq14, hw⟩ := hw
      refine s_getA (pc := 37) rfl ko_1 hq14 ?_
      refine s_astore_n (pc := 40) (L' := [some (.ref 1), some (.int (iz x1)), some (.ref q14)]) rfl (Nat.le_of_ble_eq_true rfl) rfl ?_
      refine s_aload_n (pc := 41) rfl rfl ?_
      refine s_aload_n (pc := 42) rfl rfl ?_
      obtain ⟨q15, hq15, kq15, hw⟩ := hw
      refine s_getA (pc := 43) rfl ko_1 hq15 ?_
      refine s_putA (pc := 46) rfl ko_1 ?_
      obtain ⟨hp16, hw⟩ := hw
      refine s_aload_n (pc := 49) rfl rfl ?_
      refine s_aload_n (pc := 50) rfl rfl ?_
      refine s_putA (pc := 51) rfl ko_1 ?_
      obtain ⟨hp17, hw⟩ := hw
      refine s_aload_n (pc := 54) rfl rfl ?_
      refine s_iconst (pc := 55) rfl ?_
      refine s_putZ (pc := 56) rfl ko_1 (by decide) ?_
      refine s_aload_n (pc := 59) rfl rfl ?_
      refine s_getA (pc := 60) rfl ko_1 (po_1_6 hp17) ?_
      refine s_iconst (pc := 63) rfl ?_
      refine s_putZ (pc := 64) rfl ko_38 (by decide) ?_
      refine s_aload_n (pc := 67) rfl rfl ?_
      refine s_getA (pc := 68) rfl ko_1 (po_1_4 hp17) ?_
      refine s_aload_n (pc := 71) rfl rfl ?_
      obtain ⟨q18, hq18, kq18, hw⟩ := hw
      refine s_getA (pc := 72) rfl ko_1 hq18 ?_
      refine s_cv (pc := 75) (d := (d + 6)) (t := []) rfl rfl (am_ca_v (ps := [.ref q18]) rfl ko_28) (Nat.le_of_ble_eq_true rfl) (Cv.weak hw fun m19 J20 P21 hw => ?_)
      obtain ⟨hp23, hw⟩ := hw
      refine s_aload_n (pc := 78) rfl rfl ?_
      refine s_getA (pc := 79) rfl ko_1 (po_1_5 hp23) ?_
      refine s_aload_n (pc := 82) rfl rfl ?_
      obtain ⟨q24, hq24, kq24, hw⟩ := hw
      refine s_getA (pc := 83) rfl ko_1 hq24 ?_
      refine s_cv (pc := 86) (d := (d + 6)) (t := []) rfl rfl (am_ca_v (ps := [.ref q24]) rfl ko_36) (Nat.le_of_ble_eq_true rfl) (Cv.weak hw fun m25 J26 P27 hw => ?_)
      obtain ⟨hp29, hw⟩ := hw
      refine s_iconst (pc := 89) rfl ?_
      exact s_reti (pc := 90) rfl rfl hw
    · replace hw := hw.2 hc
      refine s_aload_n (pc := 28) rfl rfl ?_
      refine s_getA (pc := 29) rfl ko_1 (po_1_1 hp12) ?_
      refine s_getI (pc := 32) rfl ko_4 ?_
      exact s_reti (pc := 35) rfl rfl hw
  · replace hw := hw.2 hc
    refine s_iconst (pc := 11) rfl ?_
    exact s_reti (pc := 12) rfl rfl hw

set_option maxRecDepth 20000 in
set_option maxHeartbeats 4000000 in
theorem b_Text_lacks_0 {X : aX} {d : Nat} (x1 : Int)  (m : Mi) (J : Mj) (P : Mp) (hp : PP P) (post : Int → Mi → Mj → Mp → Prop)
    (hw : Zr (x1) ∧ (((x1 < 0) → post 1 m J P) ∧ (¬ (x1 < 0) → Zr (x1) ∧ Zr (m 2 1) ∧ (((x1 ≤ (m 2 1)) → post 0 m J P) ∧ (¬ (x1 ≤ (m 2 1)) → post 1 m J P))))) : Rn X d 15 0 [some (.ref 2), some (.int (iz x1))] [] (SS m J P) (QI post) := by
  refine s_iload_n (pc := 0) rfl rfl ?_
  obtain ⟨hz1, hw⟩ := hw
  refine s_if_lt (pc := 1) (tgt := 12) rfl rfl hz1 (fun hc => ?_) (fun hc => ?_)
  · replace hw := hw.1 hc
    refine s_iconst (pc := 12) rfl ?_
    refine s_goto (pc := 13) (tgt := 17) rfl rfl ?_
    exact s_retz (pc := 17) rfl rfl (by decide) hw
  · replace hw := hw.2 hc
    refine s_iload_n (pc := 4) rfl rfl ?_
    refine s_aload_n (pc := 5) rfl rfl ?_
    refine s_getI (pc := 6) rfl ko_2 ?_
    obtain ⟨hz2, hw⟩ := hw
    obtain ⟨hz3, hw⟩ := hw
    refine s_ic_le (pc := 9) (tgt := 16) rfl rfl hz2 hz3 (fun hc => ?_) (fun hc => ?_)
    · replace hw := hw.1 hc
      refine s_iconst (pc := 16) rfl ?_
      exact s_retz (pc := 17) rfl rfl (by decide) hw
    · replace hw := hw.2 hc
      refine s_iconst (pc := 12) rfl ?_
      refine s_goto (pc := 13) (tgt := 17) rfl rfl ?_
      exact s_retz (pc := 17) rfl rfl (by decide) hw

set_option maxRecDepth 20000 in
set_option maxHeartbeats 4000000 in
theorem b_Reader_readSystem_0 {X : aX} {d : Nat} (x1 : Int) (x2 : Nat) (kx2 : am_kd an_K x2 = some (.inl 10)) (m : Mi) (J : Mj) (P : Mp) (hp : PP P) (post : Int → Mi → Mj → Mp → Prop)
    (hw : Cv X (d + 5) 17 [.ref 4, .int (iz x1)] m J P (fun m1 J2 P3 => PP P3 ∧ Ci X (d + 5) 23 [.ref 4, .ref x2] (mu (mu m1 x2 4 0) x2 5 0) J2 P3 (fun z9 m6 J7 P8 => PP P8 ∧ Rn X (d + 6) 16 24 [some (.ref 4), some (.int (iz x1)), some (.ref x2), some (.int (iz z9)), some (.int (iz 0))] [] (SS m6 J7 P8) (QI post)))) : Rn X (d + 6) 16 0 [some (.ref 4), some (.int (iz x1)), some (.ref x2), none, none] [] (SS m J P) (QI post) := by
  refine s_aload_n (pc := 0) rfl rfl ?_
  refine s_iload_n (pc := 1) rfl rfl ?_
  refine s_cv (pc := 2) (d := (d + 5)) (t := []) rfl rfl (am_ca_v (ps := [.int (iz x1)]) rfl ko_4) (Nat.le_of_ble_eq_true rfl) (Cv.weak hw fun m1 J2 P3 hw => ?_)
  obtain ⟨hp5, hw⟩ := hw
  refine s_aload_n (pc := 5) rfl rfl ?_
  refine s_iconst (pc := 6) rfl ?_
  refine s_putI (pc := 7) rfl kx2 ?_
  refine s_aload_n (pc := 10) rfl rfl ?_
  refine s_iconst (pc := 11) rfl ?_
  refine s_putI (pc := 12) rfl kx2 ?_
  refine s_aload_n (pc := 15) rfl rfl ?_
  refine s_aload_n (pc := 16) rfl rfl ?_
  refine s_ci (pc := 17) (d := (d + 5)) (t := []) rfl rfl (am_ca_v (ps := [.ref x2]) rfl ko_4) (Nat.le_of_ble_eq_true rfl) (Ci.weak hw fun z9 m6 J7 P8 hw => ?_)
  obtain ⟨hp10, hw⟩ := hw
  refine s_istore_n (pc := 20) (L' := [some (.ref 4), some (.int (iz x1)), some (.ref x2), some (.int (iz z9)), none]) rfl (Nat.le_of_ble_eq_true rfl) rfl ?_
  refine s_iconst (pc := 21) rfl ?_
  refine s_istore (pc := 22) (L' := [some (.ref 4), some (.int (iz x1)), some (.ref x2), some (.int (iz z9)), some (.int (iz 0))]) rfl (Nat.le_of_ble_eq_true rfl) rfl ?_
  exact hw

set_option maxRecDepth 20000 in
set_option maxHeartbeats 4000000 in
theorem b_Reader_readSystem_24 {X : aX} {d : Nat} (x1 : Int) (x2 : Nat) (x3 : Int) (x4 : Int) (kx2 : am_kd an_K x2 = some (.inl 10)) (m : Mi) (J : Mj) (P : Mp) (hp : PP P) (post : Int → Mi → Mj → Mp → Prop)
    (hw : Zr (x4) ∧ (((16 ≤ x4) → Zr (x3) ∧ (((x3 = 0) → Rn X (d + 6) 16 125 [some (.ref 4), some (.int (iz x1)), some (.ref x2), some (.int (iz x3)), some (.int (iz x4))] [] (SS m J P) (QI post)) ∧ (¬ (x3 = 0) → Ci X (d + 5) 36 [.ref 4] m J P (fun z6 m3 J4 P5 => PP P5 ∧ Zr (z6) ∧ (((z6 = 0) → Rn X (d + 6) 16 125 [some (.ref 4), some (.int (iz x1)), some (.ref x2), some (.int (iz x3)), some (.int (iz x4))] [] (SS m3 J4 P5) (QI post)) ∧ (¬ (z6 = 0) → Ci X (d + 5) 37 [.ref 4, .ref x2] m3 J4 P5 (fun z12 m9 J10 P11 => PP P11 ∧ Zr (z12) ∧ (((z12 = 0) → Rn X (d + 6) 16 125 [some (.ref 4), some (.int (iz x1)), some (.ref x2), some (.int (iz x3)), some (.int (iz x4))] [] (SS m9 J10 P11) (QI post)) ∧ (¬ (z12 = 0) → Rn X (d + 6) 16 130 [some (.ref 4), some (.int (iz x1)), some (.ref x2), some (.int (iz 1)), some (.int (iz 0))] [] (SS m9 J10 P11) (QI post)))))))))) ∧ (¬ (16 ≤ x4) → Zr (x3) ∧ (((x3 = 0) → Zr (x3) ∧ (((x3 = 0) → Rn X (d + 6) 16 125 [some (.ref 4), some (.int (iz x1)), some (.ref x2), some (.int (iz x3)), some (.int (iz x4))] [] (SS m J P) (QI post)) ∧ (¬ (x3 = 0) → Ci X (d + 5) 36 [.ref 4] m J P (fun z20 m17 J18 P19 => PP P19 ∧ Zr (z20) ∧ (((z20 = 0) → Rn X (d + 6) 16 125 [some (.ref 4), some (.int (iz x1)), some (.ref x2), some (.int (iz x3)), some (.int (iz x4))] [] (SS m17 J18 P19) (QI post)) ∧ (¬ (z20 = 0) → Ci X (d + 5) 37 [.ref 4, .ref x2] m17 J18 P19 (fun z26 m23 J24 P25 => PP P25 ∧ Zr (z26) ∧ (((z26 = 0) → Rn X (d + 6) 16 125 [some (.ref 4), some (.int (iz x1)), some (.ref x2), some (.int (iz x3)), some (.int (iz x4))] [] (SS m23 J24 P25) (QI post)) ∧ (¬ (z26 = 0) → Rn X (d + 6) 16 130 [some (.ref 4), some (.int (iz x1)), some (.ref x2), some (.int (iz 1)), some (.int (iz 0))] [] (SS m23 J24 P25) (QI post)))))))))) ∧ (¬ (x3 = 0) → Zr (m 2 4) ∧ (((¬ (m 2 4) = 11) → Zr (x3) ∧ (((x3 = 0) → Rn X (d + 6) 16 125 [some (.ref 4), some (.int (iz x1)), some (.ref x2), some (.int (iz x3)), some (.int (iz x4))] [] (SS m J P) (QI post)) ∧ (¬ (x3 = 0) → Ci X (d + 5) 36 [.ref 4] m J P (fun z34 m31 J32 P33 => PP P33 ∧ Zr (z34) ∧ (((z34 = 0) → Rn X (d + 6) 16 125 [some (.ref 4), some (.int (iz x1)), some (.ref x2), some (.int (iz x3)), some (.int (iz x4))] [] (SS m31 J32 P33) (QI post)) ∧ (¬ (z34 = 0) → Ci X (d + 5) 37 [.ref 4, .ref x2] m31 J32 P33 (fun z40 m37 J38 P39 => PP P39 ∧ Zr (z40) ∧ (((z40 = 0) → Rn X (d + 6) 16 125 [some (.ref 4), some (.int (iz x1)), some (.ref x2), some (.int (iz x3)), some (.int (iz x4))] [] (SS m37 J38 P39) (QI post)) ∧ (¬ (z40 = 0) → Rn X (d + 6) 16 130 [some (.ref 4), some (.int (iz x1)), some (.ref x2), some (.int (iz 1)), some (.int (iz 0))] [] (SS m37 J38 P39) (QI post)))))))))) ∧ (¬ (¬ (m 2 4) = 11) → Cv X (d + 5) 19 [.ref 2] m J P (fun m43 J44 P45 => PP P45 ∧ ((0 : Int) ≤ x4 ∧ (x4 : Int) < 16) ∧ Ci X (d + 5) 28 [.ref 4, .ref x2, .ref (x2 + 5 + 6 * x4.toNat), .int (iz 9), .int (iz 8)] m43 J44 P45 (fun z52 m49 J50 P51 => PP P51 ∧ Zr (z52) ∧ (((z52 = 0) → Rn X (d + 6) 16 24 [some (.ref 4), some (.int (iz x1)), some (.ref x2), some (.int (iz 0)), some (.int (iz (x4 + 1)))] [] (SS (mu m49 x2 5 (x4 + 1)) J50 P51) (QI post)) ∧ (¬ (z52 = 0) → Ci X (d + 5) 24 [.ref 4, .int (iz 7)] m49 J50 P51 (fun z58 m55 J56 P57 => PP P57 ∧ Zr (z58) ∧ (((z58 = 0) → Rn X (d + 6) 16 24 [some (.ref 4), some (.int (iz x1)), some (.ref x2), some (.int (iz 0)), some (.int (iz (x4 + 1)))] [] (SS (mu m55 x2 5 (x4 + 1)) J56 P57) (QI post)) ∧ (¬ (z58 = 0) → Rn X (d + 6) 16 24 [some (.ref 4), some (.int (iz x1)), some (.ref x2), some (.int (iz 1)), some (.int (iz (x4 + 1)))] [] (SS (mu m55 x2 5 (x4 + 1)) J56 P57) (QI post))))))))))))))) : Rn X (d + 6) 16 24 [some (.ref 4), some (.int (iz x1)), some (.ref x2), some (.int (iz x3)), some (.int (iz x4))] [] (SS m J P) (QI post) := by
  refine s_iload (pc := 24) rfl rfl ?_
  refine s_bipush (pc := 26) rfl (by decide) ?_
  obtain ⟨hz1, hw⟩ := hw
  refine s_ic_ge (pc := 28) (tgt := 102) rfl rfl hz1 (by decide) (fun hc => ?_) (fun hc => ?_)
  · replace hw := hw.1 hc
    refine s_iload_n (pc := 102) rfl rfl ?_
    obtain ⟨hz2, hw⟩ := hw
    refine s_if_eq (pc := 103) (tgt := 125) rfl rfl hz2 (fun hc => ?_) (fun hc => ?_)
    · replace hw := hw.1 hc
      exact hw
    · replace hw := hw.2 hc
      refine s_aload_n (pc := 106) rfl rfl ?_
      refine s_ci (pc := 107) (d := (d + 5)) (t := []) rfl rfl (am_ca_v (ps := []) rfl ko_4) (Nat.le_of_ble_eq_true rfl) (Ci.weak hw fun z6 m3 J4 P5 hw => ?_)
      obtain ⟨hp7, hw⟩ := hw
      obtain ⟨hz8, hw⟩ := hw
      refine s_if_eq (pc := 110) (tgt := 125) rfl rfl hz8 (fun hc => ?_) (fun hc => ?_)
      · replace hw := hw.1 hc
        exact hw
      · replace hw := hw.2 hc
        refine s_aload_n (pc := 113) rfl rfl ?_
        refine s_aload_n (pc := 114) rfl rfl ?_
        refine s_ci (pc := 115) (d := (d + 5)) (t := []) rfl rfl (am_ca_v (ps := [.ref x2]) rfl ko_4) (Nat.le_of_ble_eq_true rfl) (Ci.weak hw fun z12 m9 J10 P11 hw => ?_)
        obtain ⟨hp13, hw⟩ := hw
        obtain ⟨hz14, hw⟩ := hw
        refine s_if_eq (pc := 118) (tgt := 125) rfl rfl hz14 (fun hc => ?_) (fun hc => ?_)
        · replace hw := hw.1 hc
          exact hw
        · replace hw := hw.2 hc
          refine s_iconst (pc := 121) rfl ?_
          refine s_goto (pc := 122) (tgt := 126) rfl rfl ?_
          refine s_istore_n (pc := 126) (L' := [some (.ref 4), some (.int (iz x1)), some (.ref x2), some (.int (iz 1)), some (.int (iz x4))]) rfl (Nat.le_of_ble_eq_true rfl) rfl ?_
          refine s_iconst (pc := 127) rfl ?_
          refine s_istore (pc := 128) (L' := [some (.ref 4), some (.int (iz x1)), some (.ref x2), some (.int (iz 1)), some (.int (iz 0))]) rfl (Nat.le_of_ble_eq_true rfl) rfl ?_
          exact hw
  · replace hw := hw.2 hc
    refine s_iload_n (pc := 31) rfl rfl ?_
    obtain ⟨hz15, hw⟩ := hw
    refine s_if_eq (pc := 32) (tgt := 102) rfl rfl hz15 (fun hc => ?_) (fun hc => ?_)
    · replace hw := hw.1 hc
      refine s_iload_n (pc := 102) rfl rfl ?_
      obtain ⟨hz16, hw⟩ := hw
      refine s_if_eq (pc := 103) (tgt := 125) rfl rfl hz16 (fun hc => ?_) (fun hc => ?_)
      · replace hw := hw.1 hc
        exact hw
      · replace hw := hw.2 hc
        refine s_aload_n (pc := 106) rfl rfl ?_
        refine s_ci (pc := 107) (d := (d + 5)) (t := []) rfl rfl (am_ca_v (ps := []) rfl ko_4) (Nat.le_of_ble_eq_true rfl) (Ci.weak hw fun z20 m17 J18 P19 hw => ?_)
        obtain ⟨hp21, hw⟩ := hw
        obtain ⟨hz22, hw⟩ := hw
        refine s_if_eq (pc := 110) (tgt := 125) rfl rfl hz22 (fun hc => ?_) (fun hc => ?_)
        · replace hw := hw.1 hc
          exact hw
        · replace hw := hw.2 hc
          refine s_aload_n (pc := 113) rfl rfl ?_
          refine s_aload_n (pc := 114) rfl rfl ?_
          refine s_ci (pc := 115) (d := (d + 5)) (t := []) rfl rfl (am_ca_v (ps := [.ref x2]) rfl ko_4) (Nat.le_of_ble_eq_true rfl) (Ci.weak hw fun z26 m23 J24 P25 hw => ?_)
          obtain ⟨hp27, hw⟩ := hw
          obtain ⟨hz28, hw⟩ := hw
          refine s_if_eq (pc := 118) (tgt := 125) rfl rfl hz28 (fun hc => ?_) (fun hc => ?_)
          · replace hw := hw.1 hc
            exact hw
          · replace hw := hw.2 hc
            refine s_iconst (pc := 121) rfl ?_
            refine s_goto (pc := 122) (tgt := 126) rfl rfl ?_
            refine s_istore_n (pc := 126) (L' := [some (.ref 4), some (.int (iz x1)), some (.ref x2), some (.int (iz 1)), some (.int (iz x4))]) rfl (Nat.le_of_ble_eq_true rfl) rfl ?_
            refine s_iconst (pc := 127) rfl ?_
            refine s_istore (pc := 128) (L' := [some (.ref 4), some (.int (iz x1)), some (.ref x2), some (.int (iz 1)), some (.int (iz 0))]) rfl (Nat.le_of_ble_eq_true rfl) rfl ?_
            exact hw
    · replace hw := hw.2 hc
      refine s_aload_n (pc := 35) rfl rfl ?_
      refine s_getA (pc := 36) rfl ko_4 (po_4_0 hp) ?_
      refine s_getI (pc := 39) rfl ko_2 ?_
      refine s_bipush (pc := 42) rfl (by decide) ?_
      obtain ⟨hz29, hw⟩ := hw
      refine s_ic_ne (pc := 44) (tgt := 102) rfl rfl hz29 (by decide) (fun hc => ?_) (fun hc => ?_)
      · replace hw := hw.1 hc
        refine s_iload_n (pc := 102) rfl rfl ?_
        obtain ⟨hz30, hw⟩ := hw
        refine s_if_eq (pc := 103) (tgt := 125) rfl rfl hz30 (fun hc => ?_) (fun hc => ?_)
        · replace hw := hw.1 hc
          exact hw
        · replace hw := hw.2 hc
          refine s_aload_n (pc := 106) rfl rfl ?_
          refine s_ci (pc := 107) (d := (d + 5)) (t := []) rfl rfl (am_ca_v (ps := []) rfl ko_4) (Nat.le_of_ble_eq_true rfl) (Ci.weak hw fun z34 m31 J32 P33 hw => ?_)
          obtain ⟨hp35, hw⟩ := hw
          obtain ⟨hz36, hw⟩ := hw
          refine s_if_eq (pc := 110) (tgt := 125) rfl rfl hz36 (fun hc => ?_) (fun hc => ?_)
          · replace hw := hw.1 hc
            exact hw
          · replace hw := hw.2 hc
            refine s_aload_n (pc := 113) rfl rfl ?_
            refine s_aload_n (pc := 114) rfl rfl ?_
            refine s_ci (pc := 115) (d := (d + 5)) (t := []) rfl rfl (am_ca_v (ps := [.ref x2]) rfl ko_4) (Nat.le_of_ble_eq_true rfl) (Ci.weak hw fun z40 m37 J38 P39 hw => ?_)
            obtain ⟨hp41, hw⟩ := hw
            obtain ⟨hz42, hw⟩ := hw
            refine s_if_eq (pc := 118) (tgt := 125) rfl rfl hz42 (fun hc => ?_) (fun hc => ?_)
            · replace hw := hw.1 hc
              exact hw
            · replace hw := hw.2 hc
              refine s_iconst (pc := 121) rfl ?_
              refine s_goto (pc := 122) (tgt := 126) rfl rfl ?_
              refine s_istore_n (pc := 126) (L' := [some (.ref 4), some (.int (iz x1)), some (.ref x2), some (.int (iz 1)), some (.int (iz x4))]) rfl (Nat.le_of_ble_eq_true rfl) rfl ?_
              refine s_iconst (pc := 127) rfl ?_
              refine s_istore (pc := 128) (L' := [some (.ref 4), some (.int (iz x1)), some (.ref x2), some (.int (iz 1)), some (.int (iz 0))]) rfl (Nat.le_of_ble_eq_true rfl) rfl ?_
              exact hw
      · replace hw := hw.2 hc
        refine s_aload_n (pc := 47) rfl rfl ?_
        refine s_getA (pc := 48) rfl ko_4 (po_4_0 hp) ?_
        refine s_cv (pc := 51) (d := (d + 5)) (t := []) rfl rfl (am_ca_v (ps := []) rfl ko_2) (Nat.le_of_ble_eq_true rfl) (Cv.weak hw fun m43 J44 P45 hw => ?_)
        obtain ⟨hp47, hw⟩ := hw
        refine s_aload_n (pc := 54) rfl rfl ?_
        refine s_aload_n (pc := 55) rfl rfl ?_
        refine s_aload_n (pc := 56) rfl rfl ?_
        refine s_getA (pc := 57) rfl kx2 (pc_10_3 hp47 kx2) ?_
        refine s_iload (pc := 60) rfl rfl ?_
        obtain ⟨hb48, hw⟩ := hw
        refine s_aald (pc := 62) rfl (kc_10_3 kx2) (by decide) hb48 (pr hp47 kx2 hb48) ?_
        refine s_bipush (pc := 63) rfl (by decide) ?_
        refine s_bipush (pc := 65) rfl (by decide) ?_
        refine s_ci (pc := 67) (d := (d + 5)) (t := []) rfl rfl (am_ca_v (ps := [.int (iz 8), .int (iz 9), .ref (x2 + 5 + 6 * x4.toNat), .ref x2]) rfl ko_4) (Nat.le_of_ble_eq_true rfl) (Ci.weak hw fun z52 m49 J50 P51 hw => ?_)
        obtain ⟨hp53, hw⟩ := hw
        obtain ⟨hz54, hw⟩ := hw
        refine s_if_eq (pc := 70) (tgt := 86) rfl rfl hz54 (fun hc => ?_) (fun hc => ?_)
        · replace hw := hw.1 hc
          refine s_iconst (pc := 86) rfl ?_
          refine s_istore_n (pc := 87) (L' := [some (.ref 4), some (.int (iz x1)), some (.ref x2), some (.int (iz 0)), some (.int (iz x4))]) rfl (Nat.le_of_ble_eq_true rfl) rfl ?_
          refine s_aload_n (pc := 88) rfl rfl ?_
          refine s_iload (pc := 89) rfl rfl ?_
          refine s_iconst (pc := 91) rfl ?_
          refine s_iadd (pc := 92) rfl ?_
          refine s_putI (pc := 93) rfl kx2 ?_
          refine s_iinc (pc := 96) (L' := [some (.ref 4), some (.int (iz x1)), some (.ref x2), some (.int (iz 0)), some (.int (iz (x4 + 1)))]) rfl rfl (Nat.le_of_ble_eq_true rfl) rfl ?_
          refine s_goto (pc := 99) (tgt := 24) rfl rfl ?_
          exact hw
        · replace hw := hw.2 hc
          refine s_aload_n (pc := 73) rfl rfl ?_
          refine s_bipush (pc := 74) rfl (by decide) ?_
          refine s_ci (pc := 76) (d := (d + 5)) (t := []) rfl rfl (am_ca_v (ps := [.int (iz 7)]) rfl ko_4) (Nat.le_of_ble_eq_true rfl) (Ci.weak hw fun z58 m55 J56 P57 hw => ?_)
          obtain ⟨hp59, hw⟩ := hw
          obtain ⟨hz60, hw⟩ := hw
          refine s_if_eq (pc := 79) (tgt := 86) rfl rfl hz60 (fun hc => ?_) (fun hc => ?_)
          · replace hw := hw.1 hc
            refine s_iconst (pc := 86) rfl ?_
            refine s_istore_n (pc := 87) (L' := [some (.ref 4), some (.int (iz x1)), some (.ref x2), some (.int (iz 0)), some (.int (iz x4))]) rfl (Nat.le_of_ble_eq_true rfl) rfl ?_
            refine s_aload_n (pc := 88) rfl rfl ?_
            refine s_iload (pc := 89) rfl rfl ?_
            refine s_iconst (pc := 91) rfl ?_
            refine s_iadd (pc := 92) rfl ?_
            refine s_putI (pc := 93) rfl kx2 ?_
            refine s_iinc (pc := 96) (L' := [some (.ref 4), some (.int (iz x1)), some (.ref x2), some (.int (iz 0)), some (.int (iz (x4 + 1)))]) rfl rfl (Nat.le_of_ble_eq_true rfl) rfl ?_
            refine s_goto (pc := 99) (tgt := 24) rfl rfl ?_
            exact hw
          · replace hw := hw.2 hc
            refine s_iconst (pc := 82) rfl ?_
            refine s_goto (pc := 83) (tgt := 87) rfl rfl ?_
            refine s_istore_n (pc := 87) (L' := [some (.ref 4), some (.int (iz x1)), some (.ref x2), some (.int (iz 1)), some (.int (iz x4))]) rfl (Nat.le_of_ble_eq_true rfl) rfl ?_
            refine s_aload_n (pc := 88) rfl rfl ?_
            refine s_iload (pc := 89) rfl rfl ?_
            refine s_iconst (pc := 91) rfl ?_
            refine s_iadd (pc := 92) rfl ?_
            refine s_putI (pc := 93) rfl kx2 ?_
            refine s_iinc (pc := 96) (L' := [some (.ref 4), some (.int (iz x1)), some (.ref x2), some (.int (iz 1)), some (.int (iz (x4 + 1)))]) rfl rfl (Nat.le_of_ble_eq_true rfl) rfl ?_
            refine s_goto (pc := 99) (tgt := 24) rfl rfl ?_
            exact hw

set_option maxRecDepth 20000 in
set_option maxHeartbeats 4000000 in
theorem b_Reader_readSystem_125 {X : aX} {d : Nat} (x1 : Int) (x2 : Nat) (x3 : Int) (x4 : Int) (kx2 : am_kd an_K x2 = some (.inl 10)) (m : Mi) (J : Mj) (P : Mp) (hp : PP P) (post : Int → Mi → Mj → Mp → Prop)
    (hw : Rn X (d + 6) 16 130 [some (.ref 4), some (.int (iz x1)), some (.ref x2), some (.int (iz 0)), some (.int (iz 0))] [] (SS m J P) (QI post)) : Rn X (d + 6) 16 125 [some (.ref 4), some (.int (iz x1)), some (.ref x2), some (.int (iz x3)), some (.int (iz x4))] [] (SS m J P) (QI post) := by
  refine s_iconst (pc := 125) rfl ?_
  refine s_istore_n (pc := 126) (L' := [some (.ref 4), some (.int (iz x1)), some (.ref x2), some (.int (iz 0)), some (.int (iz x4))]) rfl (Nat.le_of_ble_eq_true rfl) rfl ?_
  refine s_iconst (pc := 127) rfl ?_
  refine s_istore (pc := 128) (L' := [some (.ref 4), some (.int (iz x1)), some (.ref x2), some (.int (iz 0)), some (.int (iz 0))]) rfl (Nat.le_of_ble_eq_true rfl) rfl ?_
  exact hw

set_option maxRecDepth 20000 in
set_option maxHeartbeats 4000000 in
theorem b_Reader_readSystem_130 {X : aX} {d : Nat} (x1 : Int) (x2 : Nat) (x3 : Int) (x4 : Int) (kx2 : am_kd an_K x2 = some (.inl 10)) (m : Mi) (J : Mj) (P : Mp) (hp : PP P) (post : Int → Mi → Mj → Mp → Prop)
    (hw : Zr (x4) ∧ Zr (m x2 5) ∧ ((((m x2 5) ≤ x4) → post (m 4 3) m J P) ∧ (¬ ((m x2 5) ≤ x4) → Zr (x3) ∧ (((x3 = 0) → post (m 4 3) m J P) ∧ (¬ (x3 = 0) → ((0 : Int) ≤ x4 ∧ (x4 : Int) < 16) ∧ Ci X (d + 5) 38 [.ref 4, .ref x2, .ref (x2 + 5 + 6 * x4.toNat)] m J P (fun z8 m5 J6 P7 => PP P7 ∧ Zr (z8) ∧ (((z8 = 0) → Rn X (d + 6) 16 130 [some (.ref 4), some (.int (iz x1)), some (.ref x2), some (.int (iz 0)), some (.int (iz (x4 + 1)))] [] (SS m5 J6 P7) (QI post)) ∧ (¬ (z8 = 0) → ((0 : Int) ≤ x4 ∧ (x4 : Int) < 16) ∧ Ci X (d + 5) 41 [.ref 4, .ref (x2 + 5 + 6 * x4.toNat)] m5 J6 P7 (fun z15 m12 J13 P14 => PP P14 ∧ Zr (z15) ∧ (((z15 = 0) → Rn X (d + 6) 16 130 [some (.ref 4), some (.int (iz x1)), some (.ref x2), some (.int (iz 0)), some (.int (iz (x4 + 1)))] [] (SS m12 J13 P14) (QI post)) ∧ (¬ (z15 = 0) → Rn X (d + 6) 16 130 [some (.ref 4), some (.int (iz x1)), some (.ref x2), some (.int (iz 1)), some (.int (iz (x4 + 1)))] [] (SS m12 J13 P14) (QI post)))))))))))) : Rn X (d + 6) 16 130 [some (.ref 4), some (.int (iz x1)), some (.ref x2), some (.int (iz x3)), some (.int (iz x4))] [] (SS m J P) (QI post) := by
  refine s_iload (pc := 130) rfl rfl ?_
  refine s_aload_n (pc := 132) rfl rfl ?_
  refine s_getI (pc := 133) rfl kx2 ?_
  obtain ⟨hz1, hw⟩ := hw
  obtain ⟨hz2, hw⟩ := hw
  refine s_ic_ge (pc := 136) (tgt := 184) rfl rfl hz1 hz2 (fun hc => ?_) (fun hc => ?_)
  · replace hw := hw.1 hc
    refine s_aload_n (pc := 184) rfl rfl ?_
    refine s_getI (pc := 185) rfl ko_4 ?_
    exact s_reti (pc := 188) rfl rfl hw
  · replace hw := hw.2 hc
    refine s_iload_n (pc := 139) rfl rfl ?_
    obtain ⟨hz3, hw⟩ := hw
    refine s_if_eq (pc := 140) (tgt := 184) rfl rfl hz3 (fun hc => ?_) (fun hc => ?_)
    · replace hw := hw.1 hc
      refine s_aload_n (pc := 184) rfl rfl ?_
      refine s_getI (pc := 185) rfl ko_4 ?_
      exact s_reti (pc := 188) rfl rfl hw
    · replace hw := hw.2 hc
      refine s_aload_n (pc := 143) rfl rfl ?_
      refine s_aload_n (pc := 144) rfl rfl ?_
      refine s_aload_n (pc := 145) rfl rfl ?_
      refine s_getA (pc := 146) rfl kx2 (pc_10_3 hp kx2) ?_
      refine s_iload (pc := 149) rfl rfl ?_
      obtain ⟨hb4, hw⟩ := hw
      refine s_aald (pc := 151) rfl (kc_10_3 kx2) (by decide) hb4 (pr hp kx2 hb4) ?_
      refine s_ci (pc := 152) (d := (d + 5)) (t := []) rfl rfl (am_ca_v (ps := [.ref (x2 + 5 + 6 * x4.toNat), .ref x2]) rfl ko_4) (Nat.le_of_ble_eq_true rfl) (Ci.weak hw fun z8 m5 J6 P7 hw => ?_)
      obtain ⟨hp9, hw⟩ := hw
      obtain ⟨hz10, hw⟩ := hw
      refine s_if_eq (pc := 155) (tgt := 176) rfl rfl hz10 (fun hc => ?_) (fun hc => ?_)
      · replace hw := hw.1 hc
        refine s_iconst (pc := 176) rfl ?_
        refine s_istore_n (pc := 177) (L' := [some (.ref 4), some (.int (iz x1)), some (.ref x2), some (.int (iz 0)), some (.int (iz x4))]) rfl (Nat.le_of_ble_eq_true rfl) rfl ?_
        refine s_iinc (pc := 178) (L' := [some (.ref 4), some (.int (iz x1)), some (.ref x2), some (.int (iz 0)), some (.int (iz (x4 + 1)))]) rfl rfl (Nat.le_of_ble_eq_true rfl) rfl ?_
        refine s_goto (pc := 181) (tgt := 130) rfl rfl ?_
        exact hw
      · replace hw := hw.2 hc
        refine s_aload_n (pc := 158) rfl rfl ?_
        refine s_aload_n (pc := 159) rfl rfl ?_
        refine s_getA (pc := 160) rfl kx2 (pc_10_3 hp9 kx2) ?_
        refine s_iload (pc := 163) rfl rfl ?_
        obtain ⟨hb11, hw⟩ := hw
        refine s_aald (pc := 165) rfl (kc_10_3 kx2) (by decide) hb11 (pr hp9 kx2 hb11) ?_
        refine s_ci (pc := 166) (d := (d + 5)) (t := []) rfl rfl (am_ca_v (ps := [.ref (x2 + 5 + 6 * x4.toNat)]) rfl ko_4) (Nat.le_of_ble_eq_true rfl) (Ci.weak hw fun z15 m12 J13 P14 hw => ?_)
        obtain ⟨hp16, hw⟩ := hw
        obtain ⟨hz17, hw⟩ := hw
        refine s_if_eq (pc := 169) (tgt := 176) rfl rfl hz17 (fun hc => ?_) (fun hc => ?_)
        · replace hw := hw.1 hc
          refine s_iconst (pc := 176) rfl ?_
          refine s_istore_n (pc := 177) (L' := [some (.ref 4), some (.int (iz x1)), some (.ref x2), some (.int (iz 0)), some (.int (iz x4))]) rfl (Nat.le_of_ble_eq_true rfl) rfl ?_
          refine s_iinc (pc := 178) (L' := [some (.ref 4), some (.int (iz x1)), some (.ref x2), some (.int (iz 0)), some (.int (iz (x4 + 1)))]) rfl rfl (Nat.le_of_ble_eq_true rfl) rfl ?_
          refine s_goto (pc := 181) (tgt := 130) rfl rfl ?_
          exact hw
        · replace hw := hw.2 hc
          refine s_iconst (pc := 172) rfl ?_
          refine s_goto (pc := 173) (tgt := 177) rfl rfl ?_
          refine s_istore_n (pc := 177) (L' := [some (.ref 4), some (.int (iz x1)), some (.ref x2), some (.int (iz 1)), some (.int (iz x4))]) rfl (Nat.le_of_ble_eq_true rfl) rfl ?_
          refine s_iinc (pc := 178) (L' := [some (.ref 4), some (.int (iz x1)), some (.ref x2), some (.int (iz 1)), some (.int (iz (x4 + 1)))]) rfl rfl (Nat.le_of_ble_eq_true rfl) rfl ?_
          refine s_goto (pc := 181) (tgt := 130) rfl rfl ?_
          exact hw

set_option maxRecDepth 20000 in
set_option maxHeartbeats 4000000 in
theorem b_Reader_begin_0 {X : aX} {d : Nat} (x1 : Int)  (m : Mi) (J : Mj) (P : Mp) (hp : PP P) (post : Mi → Mj → Mp → Prop)
    (hw : Cv X (d + 3) 18 [.ref 2, .int (iz x1)] (mu (mu m 4 3 0) 4 4 ((-1))) J P (fun m1 J2 P3 => PP P3 ∧ post m1 J2 P3)) : Rn X (d + 4) 17 0 [some (.ref 4), some (.int (iz x1))] [] (SS m J P) (QV post) := by
  refine s_aload_n (pc := 0) rfl rfl ?_
  refine s_iconst (pc := 1) rfl ?_
  refine s_putI (pc := 2) rfl ko_4 ?_
  refine s_aload_n (pc := 5) rfl rfl ?_
  refine s_iconst (pc := 6) rfl ?_
  refine s_putI (pc := 7) rfl ko_4 ?_
  refine s_aload_n (pc := 10) rfl rfl ?_
  refine s_getA (pc := 11) rfl ko_4 (po_4_0 hp) ?_
  refine s_iload_n (pc := 14) rfl rfl ?_
  refine s_cv (pc := 15) (d := (d + 3)) (t := []) rfl rfl (am_ca_v (ps := [.int (iz x1)]) rfl ko_2) (Nat.le_of_ble_eq_true rfl) (Cv.weak hw fun m1 J2 P3 hw => ?_)
  obtain ⟨hp5, hw⟩ := hw
  exact s_retv (pc := 18) rfl rfl hw

set_option maxRecDepth 20000 in
set_option maxHeartbeats 4000000 in
theorem b_Text_begin_0 {X : aX} {d : Nat} (x1 : Int)  (m : Mi) (J : Mj) (P : Mp) (hp : PP P) (post : Mi → Mj → Mp → Prop)
    (hw : Cv X (d + 2) 19 [.ref 2] (mu (mu (mu m 2 2 x1) 2 1 0) 2 3 0) J P (fun m1 J2 P3 => PP P3 ∧ post m1 J2 P3)) : Rn X (d + 3) 18 0 [some (.ref 2), some (.int (iz x1))] [] (SS m J P) (QV post) := by
  refine s_aload_n (pc := 0) rfl rfl ?_
  refine s_iload_n (pc := 1) rfl rfl ?_
  refine s_putI (pc := 2) rfl ko_2 ?_
  refine s_aload_n (pc := 5) rfl rfl ?_
  refine s_iconst (pc := 6) rfl ?_
  refine s_putI (pc := 7) rfl ko_2 ?_
  refine s_aload_n (pc := 10) rfl rfl ?_
  refine s_iconst (pc := 11) rfl ?_
  refine s_putI (pc := 12) rfl ko_2 ?_
  refine s_aload_n (pc := 15) rfl rfl ?_
  refine s_cv (pc := 16) (d := (d + 2)) (t := []) rfl rfl (am_ca_v (ps := []) rfl ko_2) (Nat.le_of_ble_eq_true rfl) (Cv.weak hw fun m1 J2 P3 hw => ?_)
  obtain ⟨hp5, hw⟩ := hw
  exact s_retv (pc := 19) rfl rfl hw

set_option maxRecDepth 20000 in
set_option maxHeartbeats 4000000 in
theorem b_Text_advance_0 {X : aX} {d : Nat}   (m : Mi) (J : Mj) (P : Mp) (hp : PP P) (post : Mi → Mj → Mp → Prop)
    (hw : Zr (m 2 3) ∧ Zr (m 2 2) ∧ ((((m 2 2) ≤ (m 2 3)) → Zr ((mu m 2 5 (m 2 3)) 2 3) ∧ Zr ((mu m 2 5 (m 2 3)) 2 2) ∧ (((((mu m 2 5 (m 2 3)) 2 3) < ((mu m 2 5 (m 2 3)) 2 2)) → ((0 : Int) ≤ ((mu m 2 5 (m 2 3)) 2 3) ∧ (((mu m 2 5 (m 2 3)) 2 3) : Int) < 1600) ∧ Ci X (d + 1) 20 [.int (iz ((mu m 2 5 (m 2 3)) 3 ((mu m 2 5 (m 2 3)) 2 3).toNat))] (mu m 2 5 (m 2 3)) J P (fun z9 m6 J7 P8 => PP P8 ∧ Zr ((mu m6 2 4 z9) 2 4) ∧ (((((mu m6 2 4 z9) 2 4) = 1) → Cv X (d + 1) 21 [.ref 2] (mu m6 2 4 z9) J7 P8 (fun m12 J13 P14 => PP P14 ∧ post m12 J13 P14)) ∧ (¬ (((mu m6 2 4 z9) 2 4) = 1) → Zr ((mu m6 2 4 z9) 2 4) ∧ (((¬ ((mu m6 2 4 z9) 2 4) = 2) → ((0 : Int) ≤ ((mu m6 2 4 z9) 2 3) ∧ (((mu m6 2 4 z9) 2 3) : Int) < 1600) ∧ Zr ((mu (mu (mu m6 2 4 z9) 2 6 (((mu m6 2 4 z9) 3 ((mu m6 2 4 z9) 2 3).toNat) - 48)) 2 3 (((mu (mu m6 2 4 z9) 2 6 (((mu m6 2 4 z9) 3 ((mu m6 2 4 z9) 2 3).toNat) - 48)) 2 3) + 1)) 2 4) ∧ (((((mu (mu (mu m6 2 4 z9) 2 6 (((mu m6 2 4 z9) 3 ((mu m6 2 4 z9) 2 3).toNat) - 48)) 2 3 (((mu (mu m6 2 4 z9) 2 6 (((mu m6 2 4 z9) 3 ((mu m6 2 4 z9) 2 3).toNat) - 48)) 2 3) + 1)) 2 4) = 9) → Zr ((mu (mu (mu m6 2 4 z9) 2 6 (((mu m6 2 4 z9) 3 ((mu m6 2 4 z9) 2 3).toNat) - 48)) 2 3 (((mu (mu m6 2 4 z9) 2 6 (((mu m6 2 4 z9) 3 ((mu m6 2 4 z9) 2 3).toNat) - 48)) 2 3) + 1)) 2 3) ∧ Zr ((mu (mu (mu m6 2 4 z9) 2 6 (((mu m6 2 4 z9) 3 ((mu m6 2 4 z9) 2 3).toNat) - 48)) 2 3 (((mu (mu m6 2 4 z9) 2 6 (((mu m6 2 4 z9) 3 ((mu m6 2 4 z9) 2 3).toNat) - 48)) 2 3) + 1)) 2 2) ∧ (((((mu (mu (mu m6 2 4 z9) 2 6 (((mu m6 2 4 z9) 3 ((mu m6 2 4 z9) 2 3).toNat) - 48)) 2 3 (((mu (mu m6 2 4 z9) 2 6 (((mu m6 2 4 z9) 3 ((mu m6 2 4 z9) 2 3).toNat) - 48)) 2 3) + 1)) 2 2) ≤ ((mu (mu (mu m6 2 4 z9) 2 6 (((mu m6 2 4 z9) 3 ((mu m6 2 4 z9) 2 3).toNat) - 48)) 2 3 (((mu (mu m6 2 4 z9) 2 6 (((mu m6 2 4 z9) 3 ((mu m6 2 4 z9) 2 3).toNat) - 48)) 2 3) + 1)) 2 3)) → Rn X (d + 2) 19 194 [some (.ref 2)] [] (SS (mu (mu (mu (mu m6 2 4 z9) 2 6 (((mu m6 2 4 z9) 3 ((mu m6 2 4 z9) 2 3).toNat) - 48)) 2 3 (((mu (mu m6 2 4 z9) 2 6 (((mu m6 2 4 z9) 3 ((mu m6 2 4 z9) 2 3).toNat) - 48)) 2 3) + 1)) 2 4 12) J7 P8) (QV post)) ∧ (¬ (((mu (mu (mu m6 2 4 z9) 2 6 (((mu m6 2 4 z9) 3 ((mu m6 2 4 z9) 2 3).toNat) - 48)) 2 3 (((mu (mu m6 2 4 z9) 2 6 (((mu m6 2 4 z9) 3 ((mu m6 2 4 z9) 2 3).toNat) - 48)) 2 3) + 1)) 2 2) ≤ ((mu (mu (mu m6 2 4 z9) 2 6 (((mu m6 2 4 z9) 3 ((mu m6 2 4 z9) 2 3).toNat) - 48)) 2 3 (((mu (mu m6 2 4 z9) 2 6 (((mu m6 2 4 z9) 3 ((mu m6 2 4 z9) 2 3).toNat) - 48)) 2 3) + 1)) 2 3)) → ((0 : Int) ≤ ((mu (mu (mu m6 2 4 z9) 2 6 (((mu m6 2 4 z9) 3 ((mu m6 2 4 z9) 2 3).toNat) - 48)) 2 3 (((mu (mu m6 2 4 z9) 2 6 (((mu m6 2 4 z9) 3 ((mu m6 2 4 z9) 2 3).toNat) - 48)) 2 3) + 1)) 2 3) ∧ (((mu (mu (mu m6 2 4 z9) 2 6 (((mu m6 2 4 z9) 3 ((mu m6 2 4 z9) 2 3).toNat) - 48)) 2 3 (((mu (mu m6 2 4 z9) 2 6 (((mu m6 2 4 z9) 3 ((mu m6 2 4 z9) 2 3).toNat) - 48)) 2 3) + 1)) 2 3) : Int) < 1600) ∧ Zr ((mu (mu (mu m6 2 4 z9) 2 6 (((mu m6 2 4 z9) 3 ((mu m6 2 4 z9) 2 3).toNat) - 48)) 2 3 (((mu (mu m6 2 4 z9) 2 6 (((mu m6 2 4 z9) 3 ((mu m6 2 4 z9) 2 3).toNat) - 48)) 2 3) + 1)) 3 ((mu (mu (mu m6 2 4 z9) 2 6 (((mu m6 2 4 z9) 3 ((mu m6 2 4 z9) 2 3).toNat) - 48)) 2 3 (((mu (mu m6 2 4 z9) 2 6 (((mu m6 2 4 z9) 3 ((mu m6 2 4 z9) 2 3).toNat) - 48)) 2 3) + 1)) 2 3).toNat) ∧ (((¬ ((mu (mu (mu m6 2 4 z9) 2 6 (((mu m6 2 4 z9) 3 ((mu m6 2 4 z9) 2 3).toNat) - 48)) 2 3 (((mu (mu m6 2 4 z9) 2 6 (((mu m6 2 4 z9) 3 ((mu m6 2 4 z9) 2 3).toNat) - 48)) 2 3) + 1)) 3 ((mu (mu (mu m6 2 4 z9) 2 6 (((mu m6 2 4 z9) 3 ((mu m6 2 4 z9) 2 3).toNat) - 48)) 2 3 (((mu (mu m6 2 4 z9) 2 6 (((mu m6 2 4 z9) 3 ((mu m6 2 4 z9) 2 3).toNat) - 48)) 2 3) + 1)) 2 3).toNat) = 62) → Rn X (d + 2) 19 194 [some (.ref 2)] [] (SS (mu (mu (mu (mu m6 2 4 z9) 2 6 (((mu m6 2 4 z9) 3 ((mu m6 2 4 z9) 2 3).toNat) - 48)) 2 3 (((mu (mu m6 2 4 z9) 2 6 (((mu m6 2 4 z9) 3 ((mu m6 2 4 z9) 2 3).toNat) - 48)) 2 3) + 1)) 2 4 12) J7 P8) (QV post)) ∧ (¬ (¬ ((mu (mu (mu m6 2 4 z9) 2 6 (((mu m6 2 4 z9) 3 ((mu m6 2 4 z9) 2 3).toNat) - 48)) 2 3 (((mu (mu m6 2 4 z9) 2 6 (((mu m6 2 4 z9) 3 ((mu m6 2 4 z9) 2 3).toNat) - 48)) 2 3) + 1)) 3 ((mu (mu (mu m6 2 4 z9) 2 6 (((mu m6 2 4 z9) 3 ((mu m6 2 4 z9) 2 3).toNat) - 48)) 2 3 (((mu (mu m6 2 4 z9) 2 6 (((mu m6 2 4 z9) 3 ((mu m6 2 4 z9) 2 3).toNat) - 48)) 2 3) + 1)) 2 3).toNat) = 62) → Rn X (d + 2) 19 194 [some (.ref 2)] [] (SS (mu (mu (mu (mu m6 2 4 z9) 2 6 (((mu m6 2 4 z9) 3 ((mu m6 2 4 z9) 2 3).toNat) - 48)) 2 3 (((mu (mu m6 2 4 z9) 2 6 (((mu m6 2 4 z9) 3 ((mu m6 2 4 z9) 2 3).toNat) - 48)) 2 3) + 1)) 2 3 (((mu (mu (mu m6 2 4 z9) 2 6 (((mu m6 2 4 z9) 3 ((mu m6 2 4 z9) 2 3).toNat) - 48)) 2 3 (((mu (mu m6 2 4 z9) 2 6 (((mu m6 2 4 z9) 3 ((mu m6 2 4 z9) 2 3).toNat) - 48)) 2 3) + 1)) 2 3) + 1)) J7 P8) (QV post)))))) ∧ (¬ (((mu (mu (mu m6 2 4 z9) 2 6 (((mu m6 2 4 z9) 3 ((mu m6 2 4 z9) 2 3).toNat) - 48)) 2 3 (((mu (mu m6 2 4 z9) 2 6 (((mu m6 2 4 z9) 3 ((mu m6 2 4 z9) 2 3).toNat) - 48)) 2 3) + 1)) 2 4) = 9) → post (mu (mu (mu m6 2 4 z9) 2 6 (((mu m6 2 4 z9) 3 ((mu m6 2 4 z9) 2 3).toNat) - 48)) 2 3 (((mu (mu m6 2 4 z9) 2 6 (((mu m6 2 4 z9) 3 ((mu m6 2 4 z9) 2 3).toNat) - 48)) 2 3) + 1)) J7 P8))) ∧ (¬ (¬ ((mu m6 2 4 z9) 2 4) = 2) → Cv X (d + 1) 21 [.ref 2] (mu m6 2 4 z9) J7 P8 (fun m24 J25 P26 => PP P26 ∧ post m24 J25 P26))))))) ∧ (¬ (((mu m 2 5 (m 2 3)) 2 3) < ((mu m 2 5 (m 2 3)) 2 2)) → post (mu (mu m 2 5 (m 2 3)) 2 4 0) J P))) ∧ (¬ ((m 2 2) ≤ (m 2 3)) → ((0 : Int) ≤ (m 2 3) ∧ ((m 2 3) : Int) < 1600) ∧ Zr (m 3 (m 2 3).toNat) ∧ ((((m 3 (m 2 3).toNat) = 32) → Rn X (d + 2) 19 0 [some (.ref 2)] [] (SS (mu m 2 3 ((m 2 3) + 1)) J P) (QV post)) ∧ (¬ ((m 3 (m 2 3).toNat) = 32) → ((0 : Int) ≤ (m 2 3) ∧ ((m 2 3) : Int) < 1600) ∧ Zr (m 3 (m 2 3).toNat) ∧ (((¬ (m 3 (m 2 3).toNat) = 10) → Zr ((mu m 2 5 (m 2 3)) 2 3) ∧ Zr ((mu m 2 5 (m 2 3)) 2 2) ∧ (((((mu m 2 5 (m 2 3)) 2 3) < ((mu m 2 5 (m 2 3)) 2 2)) → ((0 : Int) ≤ ((mu m 2 5 (m 2 3)) 2 3) ∧ (((mu m 2 5 (m 2 3)) 2 3) : Int) < 1600) ∧ Ci X (d + 1) 20 [.int (iz ((mu m 2 5 (m 2 3)) 3 ((mu m 2 5 (m 2 3)) 2 3).toNat))] (mu m 2 5 (m 2 3)) J P (fun z39 m36 J37 P38 => PP P38 ∧ Zr ((mu m36 2 4 z39) 2 4) ∧ (((((mu m36 2 4 z39) 2 4) = 1) → Cv X (d + 1) 21 [.ref 2] (mu m36 2 4 z39) J37 P38 (fun m42 J43 P44 => PP P44 ∧ post m42 J43 P44)) ∧ (¬ (((mu m36 2 4 z39) 2 4) = 1) → Zr ((mu m36 2 4 z39) 2 4) ∧ (((¬ ((mu m36 2 4 z39) 2 4) = 2) → ((0 : Int) ≤ ((mu m36 2 4 z39) 2 3) ∧ (((mu m36 2 4 z39) 2 3) : Int) < 1600) ∧ Zr ((mu (mu (mu m36 2 4 z39) 2 6 (((mu m36 2 4 z39) 3 ((mu m36 2 4 z39) 2 3).toNat) - 48)) 2 3 (((mu (mu m36 2 4 z39) 2 6 (((mu m36 2 4 z39) 3 ((mu m36 2 4 z39) 2 3).toNat) - 48)) 2 3) + 1)) 2 4) ∧ (((((mu (mu (mu m36 2 4 z39) 2 6 (((mu m36 2 4 z39) 3 ((mu m36 2 4 z39) 2 3).toNat) - 48)) 2 3 (((mu (mu m36 2 4 z39) 2 6 (((mu m36 2 4 z39) 3 ((mu m36 2 4 z39) 2 3).toNat) - 48)) 2 3) + 1)) 2 4) = 9) → Zr ((mu (mu (mu m36 2 4 z39) 2 6 (((mu m36 2 4 z39) 3 ((mu m36 2 4 z39) 2 3).toNat) - 48)) 2 3 (((mu (mu m36 2 4 z39) 2 6 (((mu m36 2 4 z39) 3 ((mu m36 2 4 z39) 2 3).toNat) - 48)) 2 3) + 1)) 2 3) ∧ Zr ((mu (mu (mu m36 2 4 z39) 2 6 (((mu m36 2 4 z39) 3 ((mu m36 2 4 z39) 2 3).toNat) - 48)) 2 3 (((mu (mu m36 2 4 z39) 2 6 (((mu m36 2 4 z39) 3 ((mu m36 2 4 z39) 2 3).toNat) - 48)) 2 3) + 1)) 2 2) ∧ (((((mu (mu (mu m36 2 4 z39) 2 6 (((mu m36 2 4 z39) 3 ((mu m36 2 4 z39) 2 3).toNat) - 48)) 2 3 (((mu (mu m36 2 4 z39) 2 6 (((mu m36 2 4 z39) 3 ((mu m36 2 4 z39) 2 3).toNat) - 48)) 2 3) + 1)) 2 2) ≤ ((mu (mu (mu m36 2 4 z39) 2 6 (((mu m36 2 4 z39) 3 ((mu m36 2 4 z39) 2 3).toNat) - 48)) 2 3 (((mu (mu m36 2 4 z39) 2 6 (((mu m36 2 4 z39) 3 ((mu m36 2 4 z39) 2 3).toNat) - 48)) 2 3) + 1)) 2 3)) → Rn X (d + 2) 19 194 [some (.ref 2)] [] (SS (mu (mu (mu (mu m36 2 4 z39) 2 6 (((mu m36 2 4 z39) 3 ((mu m36 2 4 z39) 2 3).toNat) - 48)) 2 3 (((mu (mu m36 2 4 z39) 2 6 (((mu m36 2 4 z39) 3 ((mu m36 2 4 z39) 2 3).toNat) - 48)) 2 3) + 1)) 2 4 12) J37 P38) (QV post)) ∧ (¬ (((mu (mu (mu m36 2 4 z39) 2 6 (((mu m36 2 4 z39) 3 ((mu m36 2 4 z39) 2 3).toNat) - 48)) 2 3 (((mu (mu m36 2 4 z39) 2 6 (((mu m36 2 4 z39) 3 ((mu m36 2 4 z39) 2 3).toNat) - 48)) 2 3) + 1)) 2 2) ≤ ((mu (mu (mu m36 2 4 z39) 2 6 (((mu m36 2 4 z39) 3 ((mu m36 2 4 z39) 2 3).toNat) - 48)) 2 3 (((mu (mu m36 2 4 z39) 2 6 (((mu m36 2 4 z39) 3 ((mu m36 2 4 z39) 2 3).toNat) - 48)) 2 3) + 1)) 2 3)) → ((0 : Int) ≤ ((mu (mu (mu m36 2 4 z39) 2 6 (((mu m36 2 4 z39) 3 ((mu m36 2 4 z39) 2 3).toNat) - 48)) 2 3 (((mu (mu m36 2 4 z39) 2 6 (((mu m36 2 4 z39) 3 ((mu m36 2 4 z39) 2 3).toNat) - 48)) 2 3) + 1)) 2 3) ∧ (((mu (mu (mu m36 2 4 z39) 2 6 (((mu m36 2 4 z39) 3 ((mu m36 2 4 z39) 2 3).toNat) - 48)) 2 3 (((mu (mu m36 2 4 z39) 2 6 (((mu m36 2 4 z39) 3 ((mu m36 2 4 z39) 2 3).toNat) - 48)) 2 3) + 1)) 2 3) : Int) < 1600) ∧ Zr ((mu (mu (mu m36 2 4 z39) 2 6 (((mu m36 2 4 z39) 3 ((mu m36 2 4 z39) 2 3).toNat) - 48)) 2 3 (((mu (mu m36 2 4 z39) 2 6 (((mu m36 2 4 z39) 3 ((mu m36 2 4 z39) 2 3).toNat) - 48)) 2 3) + 1)) 3 ((mu (mu (mu m36 2 4 z39) 2 6 (((mu m36 2 4 z39) 3 ((mu m36 2 4 z39) 2 3).toNat) - 48)) 2 3 (((mu (mu m36 2 4 z39) 2 6 (((mu m36 2 4 z39) 3 ((mu m36 2 4 z39) 2 3).toNat) - 48)) 2 3) + 1)) 2 3).toNat) ∧ (((¬ ((mu (mu (mu m36 2 4 z39) 2 6 (((mu m36 2 4 z39) 3 ((mu m36 2 4 z39) 2 3).toNat) - 48)) 2 3 (((mu (mu m36 2 4 z39) 2 6 (((mu m36 2 4 z39) 3 ((mu m36 2 4 z39) 2 3).toNat) - 48)) 2 3) + 1)) 3 ((mu (mu (mu m36 2 4 z39) 2 6 (((mu m36 2 4 z39) 3 ((mu m36 2 4 z39) 2 3).toNat) - 48)) 2 3 (((mu (mu m36 2 4 z39) 2 6 (((mu m36 2 4 z39) 3 ((mu m36 2 4 z39) 2 3).toNat) - 48)) 2 3) + 1)) 2 3).toNat) = 62) → Rn X (d + 2) 19 194 [some (.ref 2)] [] (SS (mu (mu (mu (mu m36 2 4 z39) 2 6 (((mu m36 2 4 z39) 3 ((mu m36 2 4 z39) 2 3).toNat) - 48)) 2 3 (((mu (mu m36 2 4 z39) 2 6 (((mu m36 2 4 z39) 3 ((mu m36 2 4 z39) 2 3).toNat) - 48)) 2 3) + 1)) 2 4 12) J37 P38) (QV post)) ∧ (¬ (¬ ((mu (mu (mu m36 2 4 z39) 2 6 (((mu m36 2 4 z39) 3 ((mu m36 2 4 z39) 2 3).toNat) - 48)) 2 3 (((mu (mu m36 2 4 z39) 2 6 (((mu m36 2 4 z39) 3 ((mu m36 2 4 z39) 2 3).toNat) - 48)) 2 3) + 1)) 3 ((mu (mu (mu m36 2 4 z39) 2 6 (((mu m36 2 4 z39) 3 ((mu m36 2 4 z39) 2 3).toNat) - 48)) 2 3 (((mu (mu m36 2 4 z39) 2 6 (((mu m36 2 4 z39) 3 ((mu m36 2 4 z39) 2 3).toNat) - 48)) 2 3) + 1)) 2 3).toNat) = 62) → Rn X (d + 2) 19 194 [some (.ref 2)] [] (SS (mu (mu (mu (mu m36 2 4 z39) 2 6 (((mu m36 2 4 z39) 3 ((mu m36 2 4 z39) 2 3).toNat) - 48)) 2 3 (((mu (mu m36 2 4 z39) 2 6 (((mu m36 2 4 z39) 3 ((mu m36 2 4 z39) 2 3).toNat) - 48)) 2 3) + 1)) 2 3 (((mu (mu (mu m36 2 4 z39) 2 6 (((mu m36 2 4 z39) 3 ((mu m36 2 4 z39) 2 3).toNat) - 48)) 2 3 (((mu (mu m36 2 4 z39) 2 6 (((mu m36 2 4 z39) 3 ((mu m36 2 4 z39) 2 3).toNat) - 48)) 2 3) + 1)) 2 3) + 1)) J37 P38) (QV post)))))) ∧ (¬ (((mu (mu (mu m36 2 4 z39) 2 6 (((mu m36 2 4 z39) 3 ((mu m36 2 4 z39) 2 3).toNat) - 48)) 2 3 (((mu (mu m36 2 4 z39) 2 6 (((mu m36 2 4 z39) 3 ((mu m36 2 4 z39) 2 3).toNat) - 48)) 2 3) + 1)) 2 4) = 9) → post (mu (mu (mu m36 2 4 z39) 2 6 (((mu m36 2 4 z39) 3 ((mu m36 2 4 z39) 2 3).toNat) - 48)) 2 3 (((mu (mu m36 2 4 z39) 2 6 (((mu m36 2 4 z39) 3 ((mu m36 2 4 z39) 2 3).toNat) - 48)) 2 3) + 1)) J37 P38))) ∧ (¬ (¬ ((mu m36 2 4 z39) 2 4) = 2) → Cv X (d + 1) 21 [.ref 2] (mu m36 2 4 z39) J37 P38 (fun m54 J55 P56 => PP P56 ∧ post m54 J55 P56))))))) ∧ (¬ (((mu m 2 5 (m 2 3)) 2 3) < ((mu m 2 5 (m 2 3)) 2 2)) → post (mu (mu m 2 5 (m 2 3)) 2 4 0) J P))) ∧ (¬ (¬ (m 3 (m 2 3).toNat) = 10) → Rn X (d + 2) 19 0 [some (.ref 2)] [] (SS (mu m 2 3 ((m 2 3) + 1)) J P) (QV post)))))))) : Rn X (d + 2) 19 0 [some (.ref 2)] [] (SS m J P) (QV post) := by
  refine s_aload_n (pc := 0) rfl rfl ?_
  refine s_getI (pc := 1) rfl ko_2 ?_
  refine s_aload_n (pc := 4) rfl rfl ?_
  refine s_getI (pc := 5) rfl ko_2 ?_
  obtain ⟨hz1, hw⟩ := hw
  obtain ⟨hz2, hw⟩ := hw
  refine s_ic_ge (pc := 8) (tgt := 52) rfl rfl hz1 hz2 (fun hc => ?_) (fun hc => ?_)
  · replace hw := hw.1 hc
    refine s_aload_n (pc := 52) rfl rfl ?_
    refine s_aload_n (pc := 53) rfl rfl ?_
    refine s_getI (pc := 54) rfl ko_2 ?_
    refine s_putI (pc := 57) rfl ko_2 ?_
    refine s_aload_n (pc := 60) rfl rfl ?_
    refine s_getI (pc := 61) rfl ko_2 ?_
    refine s_aload_n (pc := 64) rfl rfl ?_
    refine s_getI (pc := 65) rfl ko_2 ?_
    obtain ⟨hz3, hw⟩ := hw
    obtain ⟨hz4, hw⟩ := hw
    refine s_ic_lt (pc := 68) (tgt := 77) rfl rfl hz3 hz4 (fun hc => ?_) (fun hc => ?_)
    · replace hw := hw.1 hc
      refine s_aload_n (pc := 77) rfl rfl ?_
      refine s_aload_n (pc := 78) rfl rfl ?_
      refine s_getA (pc := 79) rfl ko_2 (po_2_0 hp) ?_
      refine s_aload_n (pc := 82) rfl rfl ?_
      refine s_getI (pc := 83) rfl ko_2 ?_
      obtain ⟨hb5, hw⟩ := hw
      refine s_iald (pc := 86) rfl ka_3 (by decide) hb5 ?_
      refine s_ci (pc := 87) (d := (d + 1)) (t := [.ref 2]) rfl rfl (am_ca_s (ps := [.int (iz ((mu m 2 5 (m 2 3)) 3 ((mu m 2 5 (m 2 3)) 2 3).toNat))]) rfl) (Nat.le_of_ble_eq_true rfl) (Ci.weak hw fun z9 m6 J7 P8 hw => ?_)
      obtain ⟨hp10, hw⟩ := hw
      refine s_putI (pc := 90) rfl ko_2 ?_
      refine s_aload_n (pc := 93) rfl rfl ?_
      refine s_getI (pc := 94) rfl ko_2 ?_
      refine s_iconst (pc := 97) rfl ?_
      obtain ⟨hz11, hw⟩ := hw
      refine s_ic_eq (pc := 98) (tgt := 109) rfl rfl hz11 (by decide) (fun hc => ?_) (fun hc => ?_)
      · replace hw := hw.1 hc
        refine s_aload_n (pc := 109) rfl rfl ?_
        refine s_cv (pc := 110) (d := (d + 1)) (t := []) rfl rfl (am_ca_v (ps := []) rfl ko_2) (Nat.le_of_ble_eq_true rfl) (Cv.weak hw fun m12 J13 P14 hw => ?_)
        obtain ⟨hp16, hw⟩ := hw
        exact s_retv (pc := 113) rfl rfl hw
      · replace hw := hw.2 hc
        refine s_aload_n (pc := 101) rfl rfl ?_
        refine s_getI (pc := 102) rfl ko_2 ?_
        refine s_iconst (pc := 105) rfl ?_
        obtain ⟨hz17, hw⟩ := hw
        refine s_ic_ne (pc := 106) (tgt := 114) rfl rfl hz17 (by decide) (fun hc => ?_) (fun hc => ?_)
        · replace hw := hw.1 hc
          refine s_aload_n (pc := 114) rfl rfl ?_
          refine s_aload_n (pc := 115) rfl rfl ?_
          refine s_getA (pc := 116) rfl ko_2 (po_2_0 hp10) ?_
          refine s_aload_n (pc := 119) rfl rfl ?_
          refine s_getI (pc := 120) rfl ko_2 ?_
          obtain ⟨hb18, hw⟩ := hw
          refine s_iald (pc := 123) rfl ka_3 (by decide) hb18 ?_
          refine s_bipush (pc := 124) rfl (by decide) ?_
          refine s_isub (pc := 126) rfl ?_
          refine s_putI (pc := 127) rfl ko_2 ?_
          refine s_aload_n (pc := 130) rfl rfl ?_
          refine s_dup (pc := 131) rfl rfl ?_
          refine s_getI (pc := 132) rfl ko_2 ?_
          refine s_iconst (pc := 135) rfl ?_
          refine s_iadd (pc := 136) rfl ?_
          refine s_putI (pc := 137) rfl ko_2 ?_
          refine s_aload_n (pc := 140) rfl rfl ?_
          refine s_getI (pc := 141) rfl ko_2 ?_
          refine s_bipush (pc := 144) rfl (by decide) ?_
          obtain ⟨hz19, hw⟩ := hw
          refine s_ic_eq (pc := 146) (tgt := 150) rfl rfl hz19 (by decide) (fun hc => ?_) (fun hc => ?_)
          · replace hw := hw.1 hc
            refine s_aload_n (pc := 150) rfl rfl ?_
            refine s_getI (pc := 151) rfl ko_2 ?_
            refine s_aload_n (pc := 154) rfl rfl ?_
            refine s_getI (pc := 155) rfl ko_2 ?_
            obtain ⟨hz20, hw⟩ := hw
            obtain ⟨hz21, hw⟩ := hw
            refine s_ic_ge (pc := 158) (tgt := 188) rfl rfl hz20 hz21 (fun hc => ?_) (fun hc => ?_)
            · replace hw := hw.1 hc
              refine s_aload_n (pc := 188) rfl rfl ?_
              refine s_bipush (pc := 189) rfl (by decide) ?_
              refine s_putI (pc := 191) rfl ko_2 ?_
              exact hw
            · replace hw := hw.2 hc
              refine s_aload_n (pc := 161) rfl rfl ?_
              refine s_getA (pc := 162) rfl ko_2 (po_2_0 hp10) ?_
              refine s_aload_n (pc := 165) rfl rfl ?_
              refine s_getI (pc := 166) rfl ko_2 ?_
              obtain ⟨hb22, hw⟩ := hw
              refine s_iald (pc := 169) rfl ka_3 (by decide) hb22 ?_
              refine s_bipush (pc := 170) rfl (by decide) ?_
              obtain ⟨hz23, hw⟩ := hw
              refine s_ic_ne (pc := 172) (tgt := 188) rfl rfl hz23 (by decide) (fun hc => ?_) (fun hc => ?_)
              · replace hw := hw.1 hc
                refine s_aload_n (pc := 188) rfl rfl ?_
                refine s_bipush (pc := 189) rfl (by decide) ?_
                refine s_putI (pc := 191) rfl ko_2 ?_
                exact hw
              · replace hw := hw.2 hc
                refine s_aload_n (pc := 175) rfl rfl ?_
                refine s_dup (pc := 176) rfl rfl ?_
                refine s_getI (pc := 177) rfl ko_2 ?_
                refine s_iconst (pc := 180) rfl ?_
                refine s_iadd (pc := 181) rfl ?_
                refine s_putI (pc := 182) rfl ko_2 ?_
                refine s_goto (pc := 185) (tgt := 194) rfl rfl ?_
                exact hw
          · replace hw := hw.2 hc
            exact s_retv (pc := 149) rfl rfl hw
        · replace hw := hw.2 hc
          refine s_aload_n (pc := 109) rfl rfl ?_
          refine s_cv (pc := 110) (d := (d + 1)) (t := []) rfl rfl (am_ca_v (ps := []) rfl ko_2) (Nat.le_of_ble_eq_true rfl) (Cv.weak hw fun m24 J25 P26 hw => ?_)
          obtain ⟨hp28, hw⟩ := hw
          exact s_retv (pc := 113) rfl rfl hw
    · replace hw := hw.2 hc
      refine s_aload_n (pc := 71) rfl rfl ?_
      refine s_iconst (pc := 72) rfl ?_
      refine s_putI (pc := 73) rfl ko_2 ?_
      exact s_retv (pc := 76) rfl rfl hw
  · replace hw := hw.2 hc
    refine s_aload_n (pc := 11) rfl rfl ?_
    refine s_getA (pc := 12) rfl ko_2 (po_2_0 hp) ?_
    refine s_aload_n (pc := 15) rfl rfl ?_
    refine s_getI (pc := 16) rfl ko_2 ?_
    obtain ⟨hb29, hw⟩ := hw
    refine s_iald (pc := 19) rfl ka_3 (by decide) hb29 ?_
    refine s_bipush (pc := 20) rfl (by decide) ?_
    obtain ⟨hz30, hw⟩ := hw
    refine s_ic_eq (pc := 22) (tgt := 39) rfl rfl hz30 (by decide) (fun hc => ?_) (fun hc => ?_)
    · replace hw := hw.1 hc
      refine s_aload_n (pc := 39) rfl rfl ?_
      refine s_dup (pc := 40) rfl rfl ?_
      refine s_getI (pc := 41) rfl ko_2 ?_
      refine s_iconst (pc := 44) rfl ?_
      refine s_iadd (pc := 45) rfl ?_
      refine s_putI (pc := 46) rfl ko_2 ?_
      refine s_goto (pc := 49) (tgt := 0) rfl rfl ?_
      exact hw
    · replace hw := hw.2 hc
      refine s_aload_n (pc := 25) rfl rfl ?_
      refine s_getA (pc := 26) rfl ko_2 (po_2_0 hp) ?_
      refine s_aload_n (pc := 29) rfl rfl ?_
      refine s_getI (pc := 30) rfl ko_2 ?_
      obtain ⟨hb31, hw⟩ := hw
      refine s_iald (pc := 33) rfl ka_3 (by decide) hb31 ?_
      refine s_bipush (pc := 34) rfl (by decide) ?_
      obtain ⟨hz32, hw⟩ := hw
      refine s_ic_ne (pc := 36) (tgt := 52) rfl rfl hz32 (by decide) (fun hc => ?_) (fun hc => ?_)
      · replace hw := hw.1 hc
        refine s_aload_n (pc := 52) rfl rfl ?_
        refine s_aload_n (pc := 53) rfl rfl ?_
        refine s_getI (pc := 54) rfl ko_2 ?_
        refine s_putI (pc := 57) rfl ko_2 ?_
        refine s_aload_n (pc := 60) rfl rfl ?_
        refine s_getI (pc := 61) rfl ko_2 ?_
        refine s_aload_n (pc := 64) rfl rfl ?_
        refine s_getI (pc := 65) rfl ko_2 ?_
        obtain ⟨hz33, hw⟩ := hw
        obtain ⟨hz34, hw⟩ := hw
        refine s_ic_lt (pc := 68) (tgt := 77) rfl rfl hz33 hz34 (fun hc => ?_) (fun hc => ?_)
        · replace hw := hw.1 hc
          refine s_aload_n (pc := 77) rfl rfl ?_
          refine s_aload_n (pc := 78) rfl rfl ?_
          refine s_getA (pc := 79) rfl ko_2 (po_2_0 hp) ?_
          refine s_aload_n (pc := 82) rfl rfl ?_
          refine s_getI (pc := 83) rfl ko_2 ?_
          obtain ⟨hb35, hw⟩ := hw
          refine s_iald (pc := 86) rfl ka_3 (by decide) hb35 ?_
          refine s_ci (pc := 87) (d := (d + 1)) (t := [.ref 2]) rfl rfl (am_ca_s (ps := [.int (iz ((mu m 2 5 (m 2 3)) 3 ((mu m 2 5 (m 2 3)) 2 3).toNat))]) rfl) (Nat.le_of_ble_eq_true rfl) (Ci.weak hw fun z39 m36 J37 P38 hw => ?_)
          obtain ⟨hp40, hw⟩ := hw
          refine s_putI (pc := 90) rfl ko_2 ?_
          refine s_aload_n (pc := 93) rfl rfl ?_
          refine s_getI (pc := 94) rfl ko_2 ?_
          refine s_iconst (pc := 97) rfl ?_
          obtain ⟨hz41, hw⟩ := hw
          refine s_ic_eq (pc := 98) (tgt := 109) rfl rfl hz41 (by decide) (fun hc => ?_) (fun hc => ?_)
          · replace hw := hw.1 hc
            refine s_aload_n (pc := 109) rfl rfl ?_
            refine s_cv (pc := 110) (d := (d + 1)) (t := []) rfl rfl (am_ca_v (ps := []) rfl ko_2) (Nat.le_of_ble_eq_true rfl) (Cv.weak hw fun m42 J43 P44 hw => ?_)
            obtain ⟨hp46, hw⟩ := hw
            exact s_retv (pc := 113) rfl rfl hw
          · replace hw := hw.2 hc
            refine s_aload_n (pc := 101) rfl rfl ?_
            refine s_getI (pc := 102) rfl ko_2 ?_
            refine s_iconst (pc := 105) rfl ?_
            obtain ⟨hz47, hw⟩ := hw
            refine s_ic_ne (pc := 106) (tgt := 114) rfl rfl hz47 (by decide) (fun hc => ?_) (fun hc => ?_)
            · replace hw := hw.1 hc
              refine s_aload_n (pc := 114) rfl rfl ?_
              refine s_aload_n (pc := 115) rfl rfl ?_
              refine s_getA (pc := 116) rfl ko_2 (po_2_0 hp40) ?_
              refine s_aload_n (pc := 119) rfl rfl ?_
              refine s_getI (pc := 120) rfl ko_2 ?_
              obtain ⟨hb48, hw⟩ := hw
              refine s_iald (pc := 123) rfl ka_3 (by decide) hb48 ?_
              refine s_bipush (pc := 124) rfl (by decide) ?_
              refine s_isub (pc := 126) rfl ?_
              refine s_putI (pc := 127) rfl ko_2 ?_
              refine s_aload_n (pc := 130) rfl rfl ?_
              refine s_dup (pc := 131) rfl rfl ?_
              refine s_getI (pc := 132) rfl ko_2 ?_
              refine s_iconst (pc := 135) rfl ?_
              refine s_iadd (pc := 136) rfl ?_
              refine s_putI (pc := 137) rfl ko_2 ?_
              refine s_aload_n (pc := 140) rfl rfl ?_
              refine s_getI (pc := 141) rfl ko_2 ?_
              refine s_bipush (pc := 144) rfl (by decide) ?_
              obtain ⟨hz49, hw⟩ := hw
              refine s_ic_eq (pc := 146) (tgt := 150) rfl rfl hz49 (by decide) (fun hc => ?_) (fun hc => ?_)
              · replace hw := hw.1 hc
                refine s_aload_n (pc := 150) rfl rfl ?_
                refine s_getI (pc := 151) rfl ko_2 ?_
                refine s_aload_n (pc := 154) rfl rfl ?_
                refine s_getI (pc := 155) rfl ko_2 ?_
                obtain ⟨hz50, hw⟩ := hw
                obtain ⟨hz51, hw⟩ := hw
                refine s_ic_ge (pc := 158) (tgt := 188) rfl rfl hz50 hz51 (fun hc => ?_) (fun hc => ?_)
                · replace hw := hw.1 hc
                  refine s_aload_n (pc := 188) rfl rfl ?_
                  refine s_bipush (pc := 189) rfl (by decide) ?_
                  refine s_putI (pc := 191) rfl ko_2 ?_
                  exact hw
                · replace hw := hw.2 hc
                  refine s_aload_n (pc := 161) rfl rfl ?_
                  refine s_getA (pc := 162) rfl ko_2 (po_2_0 hp40) ?_
                  refine s_aload_n (pc := 165) rfl rfl ?_
                  refine s_getI (pc := 166) rfl ko_2 ?_
                  obtain ⟨hb52, hw⟩ := hw
                  refine s_iald (pc := 169) rfl ka_3 (by decide) hb52 ?_
                  refine s_bipush (pc := 170) rfl (by decide) ?_
                  obtain ⟨hz53, hw⟩ := hw
                  refine s_ic_ne (pc := 172) (tgt := 188) rfl rfl hz53 (by decide) (fun hc => ?_) (fun hc => ?_)
                  · replace hw := hw.1 hc
                    refine s_aload_n (pc := 188) rfl rfl ?_
                    refine s_bipush (pc := 189) rfl (by decide) ?_
                    refine s_putI (pc := 191) rfl ko_2 ?_
                    exact hw
                  · replace hw := hw.2 hc
                    refine s_aload_n (pc := 175) rfl rfl ?_
                    refine s_dup (pc := 176) rfl rfl ?_
                    refine s_getI (pc := 177) rfl ko_2 ?_
                    refine s_iconst (pc := 180) rfl ?_
                    refine s_iadd (pc := 181) rfl ?_
                    refine s_putI (pc := 182) rfl ko_2 ?_
                    refine s_goto (pc := 185) (tgt := 194) rfl rfl ?_
                    exact hw
              · replace hw := hw.2 hc
                exact s_retv (pc := 149) rfl rfl hw
            · replace hw := hw.2 hc
              refine s_aload_n (pc := 109) rfl rfl ?_
              refine s_cv (pc := 110) (d := (d + 1)) (t := []) rfl rfl (am_ca_v (ps := []) rfl ko_2) (Nat.le_of_ble_eq_true rfl) (Cv.weak hw fun m54 J55 P56 hw => ?_)
              obtain ⟨hp58, hw⟩ := hw
              exact s_retv (pc := 113) rfl rfl hw
        · replace hw := hw.2 hc
          refine s_aload_n (pc := 71) rfl rfl ?_
          refine s_iconst (pc := 72) rfl ?_
          refine s_putI (pc := 73) rfl ko_2 ?_
          exact s_retv (pc := 76) rfl rfl hw
      · replace hw := hw.2 hc
        refine s_aload_n (pc := 39) rfl rfl ?_
        refine s_dup (pc := 40) rfl rfl ?_
        refine s_getI (pc := 41) rfl ko_2 ?_
        refine s_iconst (pc := 44) rfl ?_
        refine s_iadd (pc := 45) rfl ?_
        refine s_putI (pc := 46) rfl ko_2 ?_
        refine s_goto (pc := 49) (tgt := 0) rfl rfl ?_
        exact hw

set_option maxRecDepth 20000 in
set_option maxHeartbeats 4000000 in
theorem b_Text_advance_194 {X : aX} {d : Nat}   (m : Mi) (J : Mj) (P : Mp) (hp : PP P) (post : Mi → Mj → Mp → Prop)
    (hw : post m J P) : Rn X (d + 2) 19 194 [some (.ref 2)] [] (SS m J P) (QV post) := by
  exact s_retv (pc := 194) rfl rfl hw

set_option maxRecDepth 20000 in
set_option maxHeartbeats 4000000 in
theorem b_Text_kindOf_0 {X : aX} {d : Nat} (x0 : Int)  (m : Mi) (J : Mj) (P : Mp) (hp : PP P) (post : Int → Mi → Mj → Mp → Prop)
    (hw : Zr (x0) ∧ (((x0 < 97) → Zr (x0) ∧ (((x0 < 65) → Zr (x0) ∧ (((x0 < 48) → Rn X d 20 42 [some (.int (iz x0))] [] (SS m J P) (QI post)) ∧ (¬ (x0 < 48) → Zr (x0) ∧ (((57 < x0) → Rn X d 20 42 [some (.int (iz x0))] [] (SS m J P) (QI post)) ∧ (¬ (57 < x0) → post 3 m J P))))) ∧ (¬ (x0 < 65) → Zr (x0) ∧ (((90 < x0) → Zr (x0) ∧ (((x0 < 48) → Rn X d 20 42 [some (.int (iz x0))] [] (SS m J P) (QI post)) ∧ (¬ (x0 < 48) → Zr (x0) ∧ (((57 < x0) → Rn X d 20 42 [some (.int (iz x0))] [] (SS m J P) (QI post)) ∧ (¬ (57 < x0) → post 3 m J P))))) ∧ (¬ (90 < x0) → post 2 m J P))))) ∧ (¬ (x0 < 97) → Zr (x0) ∧ (((122 < x0) → Zr (x0) ∧ (((x0 < 65) → Zr (x0) ∧ (((x0 < 48) → Rn X d 20 42 [some (.int (iz x0))] [] (SS m J P) (QI post)) ∧ (¬ (x0 < 48) → Zr (x0) ∧ (((57 < x0) → Rn X d 20 42 [some (.int (iz x0))] [] (SS m J P) (QI post)) ∧ (¬ (57 < x0) → post 3 m J P))))) ∧ (¬ (x0 < 65) → Zr (x0) ∧ (((90 < x0) → Zr (x0) ∧ (((x0 < 48) → Rn X d 20 42 [some (.int (iz x0))] [] (SS m J P) (QI post)) ∧ (¬ (x0 < 48) → Zr (x0) ∧ (((57 < x0) → Rn X d 20 42 [some (.int (iz x0))] [] (SS m J P) (QI post)) ∧ (¬ (57 < x0) → post 3 m J P))))) ∧ (¬ (90 < x0) → post 2 m J P))))) ∧ (¬ (122 < x0) → post 1 m J P))))) : Rn X d 20 0 [some (.int (iz x0))] [] (SS m J P) (QI post) := by
  refine s_iload_n (pc := 0) rfl rfl ?_
  refine s_bipush (pc := 1) rfl (by decide) ?_
  obtain ⟨hz1, hw⟩ := hw
  refine s_ic_lt (pc := 3) (tgt := 14) rfl rfl hz1 (by decide) (fun hc => ?_) (fun hc => ?_)
  · replace hw := hw.1 hc
    refine s_iload_n (pc := 14) rfl rfl ?_
    refine s_bipush (pc := 15) rfl (by decide) ?_
    obtain ⟨hz2, hw⟩ := hw
    refine s_ic_lt (pc := 17) (tgt := 28) rfl rfl hz2 (by decide) (fun hc => ?_) (fun hc => ?_)
    · replace hw := hw.1 hc
      refine s_iload_n (pc := 28) rfl rfl ?_
      refine s_bipush (pc := 29) rfl (by decide) ?_
      obtain ⟨hz3, hw⟩ := hw
      refine s_ic_lt (pc := 31) (tgt := 42) rfl rfl hz3 (by decide) (fun hc => ?_) (fun hc => ?_)
      · replace hw := hw.1 hc
        exact hw
      · replace hw := hw.2 hc
        refine s_iload_n (pc := 34) rfl rfl ?_
        refine s_bipush (pc := 35) rfl (by decide) ?_
        obtain ⟨hz4, hw⟩ := hw
        refine s_ic_gt (pc := 37) (tgt := 42) rfl rfl hz4 (by decide) (fun hc => ?_) (fun hc => ?_)
        · replace hw := hw.1 hc
          exact hw
        · replace hw := hw.2 hc
          refine s_iconst (pc := 40) rfl ?_
          exact s_reti (pc := 41) rfl rfl hw
    · replace hw := hw.2 hc
      refine s_iload_n (pc := 20) rfl rfl ?_
      refine s_bipush (pc := 21) rfl (by decide) ?_
      obtain ⟨hz5, hw⟩ := hw
      refine s_ic_gt (pc := 23) (tgt := 28) rfl rfl hz5 (by decide) (fun hc => ?_) (fun hc => ?_)
      · replace hw := hw.1 hc
        refine s_iload_n (pc := 28) rfl rfl ?_
        refine s_bipush (pc := 29) rfl (by decide) ?_
        obtain ⟨hz6, hw⟩ := hw
        refine s_ic_lt (pc := 31) (tgt := 42) rfl rfl hz6 (by decide) (fun hc => ?_) (fun hc => ?_)
        · replace hw := hw.1 hc
          exact hw
        · replace hw := hw.2 hc
          refine s_iload_n (pc := 34) rfl rfl ?_
          refine s_bipush (pc := 35) rfl (by decide) ?_
          obtain ⟨hz7, hw⟩ := hw
          refine s_ic_gt (pc := 37) (tgt := 42) rfl rfl hz7 (by decide) (fun hc => ?_) (fun hc => ?_)
          · replace hw := hw.1 hc
            exact hw
          · replace hw := hw.2 hc
            refine s_iconst (pc := 40) rfl ?_
            exact s_reti (pc := 41) rfl rfl hw
      · replace hw := hw.2 hc
        refine s_iconst (pc := 26) rfl ?_
        exact s_reti (pc := 27) rfl rfl hw
  · replace hw := hw.2 hc
    refine s_iload_n (pc := 6) rfl rfl ?_
    refine s_bipush (pc := 7) rfl (by decide) ?_
    obtain ⟨hz8, hw⟩ := hw
    refine s_ic_gt (pc := 9) (tgt := 14) rfl rfl hz8 (by decide) (fun hc => ?_) (fun hc => ?_)
    · replace hw := hw.1 hc
      refine s_iload_n (pc := 14) rfl rfl ?_
      refine s_bipush (pc := 15) rfl (by decide) ?_
      obtain ⟨hz9, hw⟩ := hw
      refine s_ic_lt (pc := 17) (tgt := 28) rfl rfl hz9 (by decide) (fun hc => ?_) (fun hc => ?_)
      · replace hw := hw.1 hc
        refine s_iload_n (pc := 28) rfl rfl ?_
        refine s_bipush (pc := 29) rfl (by decide) ?_
        obtain ⟨hz10, hw⟩ := hw
        refine s_ic_lt (pc := 31) (tgt := 42) rfl rfl hz10 (by decide) (fun hc => ?_) (fun hc => ?_)
        · replace hw := hw.1 hc
          exact hw
        · replace hw := hw.2 hc
          refine s_iload_n (pc := 34) rfl rfl ?_
          refine s_bipush (pc := 35) rfl (by decide) ?_
          obtain ⟨hz11, hw⟩ := hw
          refine s_ic_gt (pc := 37) (tgt := 42) rfl rfl hz11 (by decide) (fun hc => ?_) (fun hc => ?_)
          · replace hw := hw.1 hc
            exact hw
          · replace hw := hw.2 hc
            refine s_iconst (pc := 40) rfl ?_
            exact s_reti (pc := 41) rfl rfl hw
      · replace hw := hw.2 hc
        refine s_iload_n (pc := 20) rfl rfl ?_
        refine s_bipush (pc := 21) rfl (by decide) ?_
        obtain ⟨hz12, hw⟩ := hw
        refine s_ic_gt (pc := 23) (tgt := 28) rfl rfl hz12 (by decide) (fun hc => ?_) (fun hc => ?_)
        · replace hw := hw.1 hc
          refine s_iload_n (pc := 28) rfl rfl ?_
          refine s_bipush (pc := 29) rfl (by decide) ?_
          obtain ⟨hz13, hw⟩ := hw
          refine s_ic_lt (pc := 31) (tgt := 42) rfl rfl hz13 (by decide) (fun hc => ?_) (fun hc => ?_)
          · replace hw := hw.1 hc
            exact hw
          · replace hw := hw.2 hc
            refine s_iload_n (pc := 34) rfl rfl ?_
            refine s_bipush (pc := 35) rfl (by decide) ?_
            obtain ⟨hz14, hw⟩ := hw
            refine s_ic_gt (pc := 37) (tgt := 42) rfl rfl hz14 (by decide) (fun hc => ?_) (fun hc => ?_)
            · replace hw := hw.1 hc
              exact hw
            · replace hw := hw.2 hc
              refine s_iconst (pc := 40) rfl ?_
              exact s_reti (pc := 41) rfl rfl hw
        · replace hw := hw.2 hc
          refine s_iconst (pc := 26) rfl ?_
          exact s_reti (pc := 27) rfl rfl hw
    · replace hw := hw.2 hc
      refine s_iconst (pc := 12) rfl ?_
      exact s_reti (pc := 13) rfl rfl hw

set_option maxRecDepth 20000 in
set_option maxHeartbeats 4000000 in
theorem b_Text_kindOf_42 {X : aX} {d : Nat} (x0 : Int)  (m : Mi) (J : Mj) (P : Mp) (hp : PP P) (post : Int → Mi → Mj → Mp → Prop)
    (hw : Zr (x0) ∧ (((x0 = 40) → post 4 m J P) ∧ ((x0 = 41) → post 5 m J P) ∧ ((x0 = 44) → post 6 m J P) ∧ ((x0 = 45) → post 9 m J P) ∧ ((x0 = 59) → post 7 m J P) ∧ ((x0 = 61) → post 8 m J P) ∧ ((¬ x0 = 40 ∧ ¬ x0 = 41 ∧ ¬ x0 = 44 ∧ ¬ x0 = 45 ∧ ¬ x0 = 59 ∧ ¬ x0 = 61) → post 12 m J P))) : Rn X d 20 42 [some (.int (iz x0))] [] (SS m J P) (QI post) := by
  refine s_iload_n (pc := 42) rfl rfl ?_
  obtain ⟨hz1, hw⟩ := hw
  by_cases hs40 : x0 = 40
  · replace hw := hw.1 hs40
    refine s_lsw (pc := 43) (off := 57) (tgt := 100) rfl (by decide) hz1 (by rw [hs40]; decide) rfl ?_
    refine s_iconst (pc := 100) rfl ?_
    exact s_reti (pc := 101) rfl rfl hw
  replace hw := hw.2
  by_cases hs41 : x0 = 41
  · replace hw := hw.1 hs41
    refine s_lsw (pc := 43) (off := 59) (tgt := 102) rfl (by decide) hz1 (by rw [hs41]; decide) rfl ?_
    refine s_iconst (pc := 102) rfl ?_
    exact s_reti (pc := 103) rfl rfl hw
  replace hw := hw.2
  by_cases hs44 : x0 = 44
  · replace hw := hw.1 hs44
    refine s_lsw (pc := 43) (off := 61) (tgt := 104) rfl (by decide) hz1 (by rw [hs44]; decide) rfl ?_
    refine s_bipush (pc := 104) rfl (by decide) ?_
    exact s_reti (pc := 106) rfl rfl hw
  replace hw := hw.2
  by_cases hs45 : x0 = 45
  · replace hw := hw.1 hs45
    refine s_lsw (pc := 43) (off := 70) (tgt := 113) rfl (by decide) hz1 (by rw [hs45]; decide) rfl ?_
    refine s_bipush (pc := 113) rfl (by decide) ?_
    exact s_reti (pc := 115) rfl rfl hw
  replace hw := hw.2
  by_cases hs59 : x0 = 59
  · replace hw := hw.1 hs59
    refine s_lsw (pc := 43) (off := 64) (tgt := 107) rfl (by decide) hz1 (by rw [hs59]; decide) rfl ?_
    refine s_bipush (pc := 107) rfl (by decide) ?_
    exact s_reti (pc := 109) rfl rfl hw
  replace hw := hw.2
  by_cases hs61 : x0 = 61
  · replace hw := hw.1 hs61
    refine s_lsw (pc := 43) (off := 67) (tgt := 110) rfl (by decide) hz1 (by rw [hs61]; decide) rfl ?_
    refine s_bipush (pc := 110) rfl (by decide) ?_
    exact s_reti (pc := 112) rfl rfl hw
  replace hw := hw.2
  replace hw := hw ⟨hs40, hs41, hs44, hs45, hs59, hs61⟩
  refine s_lsw (pc := 43) (off := 73) (tgt := 116) rfl (by decide) hz1 (by simp [Op.lookupswitch.offset, Ne.symm hs40, Ne.symm hs41, Ne.symm hs44, Ne.symm hs45, Ne.symm hs59, Ne.symm hs61]) rfl ?_
  refine s_bipush (pc := 116) rfl (by decide) ?_
  exact s_reti (pc := 118) rfl rfl hw

set_option maxRecDepth 20000 in
set_option maxHeartbeats 4000000 in
theorem b_Text_readWord_0 {X : aX} {d : Nat}   (m : Mi) (J : Mj) (P : Mp) (hp : PP P) (post : Mi → Mj → Mp → Prop)
    (hw : Rn X (d + 1) 21 5 [some (.ref 2)] [] (SS m (mju J 2 7 (Int64.ofNat 0)) P) (QV post)) : Rn X (d + 1) 21 0 [some (.ref 2)] [] (SS m J P) (QV post) := by
  refine s_aload_n (pc := 0) rfl rfl ?_
  refine s_lconst (pc := 1) rfl ?_
  refine s_putJ (pc := 2) rfl ko_2 ?_
  exact hw

set_option maxRecDepth 20000 in
set_option maxHeartbeats 4000000 in
theorem b_Text_readWord_5 {X : aX} {d : Nat}   (m : Mi) (J : Mj) (P : Mp) (hp : PP P) (post : Mi → Mj → Mp → Prop)
    (hw : Zr (m 2 3) ∧ Zr (m 2 2) ∧ ((((m 2 2) ≤ (m 2 3)) → Zr ((m 2 3) - (m 2 5)) ∧ (((((m 2 3) - (m 2 5)) ≤ 8) → Zr (zcmp (J 2 7) (Int64.ofNat 7567725)) ∧ (((¬ (zcmp (J 2 7) (Int64.ofNat 7567725)) = 0) → Zr (zcmp (J 2 7) (Int64.ofNat 1920298085)) ∧ (((¬ (zcmp (J 2 7) (Int64.ofNat 1920298085)) = 0) → Rn X (d + 1) 21 129 [some (.ref 2)] [] (SS m J P) (QV post)) ∧ (¬ (¬ (zcmp (J 2 7) (Int64.ofNat 1920298085)) = 0) → Rn X (d + 1) 21 129 [some (.ref 2)] [] (SS (mu m 2 4 11) J P) (QV post)))) ∧ (¬ (¬ (zcmp (J 2 7) (Int64.ofNat 7567725)) = 0) → Rn X (d + 1) 21 129 [some (.ref 2)] [] (SS (mu m 2 4 10) J P) (QV post)))) ∧ (¬ (((m 2 3) - (m 2 5)) ≤ 8) → Rn X (d + 1) 21 129 [some (.ref 2)] [] (SS (mu m 2 4 12) J P) (QV post)))) ∧ (¬ ((m 2 2) ≤ (m 2 3)) → ((0 : Int) ≤ (m 2 3) ∧ ((m 2 3) : Int) < 1600) ∧ Ci X d 20 [.int (iz (m 3 (m 2 3).toNat))] m J P (fun z10 m7 J8 P9 => PP P9 ∧ Ci X d 22 [.int (iz z10)] m7 J8 P9 (fun z15 m12 J13 P14 => PP P14 ∧ Zr (z15) ∧ (((z15 = 0) → Zr ((m12 2 3) - (m12 2 5)) ∧ (((((m12 2 3) - (m12 2 5)) ≤ 8) → Zr (zcmp (J13 2 7) (Int64.ofNat 7567725)) ∧ (((¬ (zcmp (J13 2 7) (Int64.ofNat 7567725)) = 0) → Zr (zcmp (J13 2 7) (Int64.ofNat 1920298085)) ∧ (((¬ (zcmp (J13 2 7) (Int64.ofNat 1920298085)) = 0) → Rn X (d + 1) 21 129 [some (.ref 2)] [] (SS m12 J13 P14) (QV post)) ∧ (¬ (¬ (zcmp (J13 2 7) (Int64.ofNat 1920298085)) = 0) → Rn X (d + 1) 21 129 [some (.ref 2)] [] (SS (mu m12 2 4 11) J13 P14) (QV post)))) ∧ (¬ (¬ (zcmp (J13 2 7) (Int64.ofNat 7567725)) = 0) → Rn X (d + 1) 21 129 [some (.ref 2)] [] (SS (mu m12 2 4 10) J13 P14) (QV post)))) ∧ (¬ (((m12 2 3) - (m12 2 5)) ≤ 8) → Rn X (d + 1) 21 129 [some (.ref 2)] [] (SS (mu m12 2 4 12) J13 P14) (QV post)))) ∧ (¬ (z15 = 0) → ((0 : Int) ≤ (m12 2 3) ∧ ((m12 2 3) : Int) < 1600) ∧ Rn X (d + 1) 21 5 [some (.ref 2)] [] (SS (mu m12 2 3 ((m12 2 3) + 1)) (mju J13 2 7 (((J13 2 7) <<< ((iz 8).toInt64 &&& 63)) ||| (zi2l (m12 3 (m12 2 3).toNat)))) P14) (QV post)))))))) : Rn X (d + 1) 21 5 [some (.ref 2)] [] (SS m J P) (QV post) := by
  refine s_aload_n (pc := 5) rfl rfl ?_
  refine s_getI (pc := 6) rfl ko_2 ?_
  refine s_aload_n (pc := 9) rfl rfl ?_
  refine s_getI (pc := 10) rfl ko_2 ?_
  obtain ⟨hz1, hw⟩ := hw
  obtain ⟨hz2, hw⟩ := hw
  refine s_ic_ge (pc := 13) (tgt := 69) rfl rfl hz1 hz2 (fun hc => ?_) (fun hc => ?_)
  · replace hw := hw.1 hc
    refine s_aload_n (pc := 69) rfl rfl ?_
    refine s_getI (pc := 70) rfl ko_2 ?_
    refine s_aload_n (pc := 73) rfl rfl ?_
    refine s_getI (pc := 74) rfl ko_2 ?_
    refine s_isub (pc := 77) rfl ?_
    refine s_bipush (pc := 78) rfl (by decide) ?_
    obtain ⟨hz3, hw⟩ := hw
    refine s_ic_le (pc := 80) (tgt := 92) rfl rfl hz3 (by decide) (fun hc => ?_) (fun hc => ?_)
    · replace hw := hw.1 hc
      refine s_aload_n (pc := 92) rfl rfl ?_
      refine s_getJ (pc := 93) rfl ko_2 ?_
      refine s_ldc2 (pc := 96) rfl ?_
      refine s_lcmp (pc := 99) rfl ?_
      obtain ⟨hz4, hw⟩ := hw
      refine s_if_ne (pc := 100) (tgt := 112) rfl rfl hz4 (fun hc => ?_) (fun hc => ?_)
      · replace hw := hw.1 hc
        refine s_aload_n (pc := 112) rfl rfl ?_
        refine s_getJ (pc := 113) rfl ko_2 ?_
        refine s_ldc2 (pc := 116) rfl ?_
        refine s_lcmp (pc := 119) rfl ?_
        obtain ⟨hz5, hw⟩ := hw
        refine s_if_ne (pc := 120) (tgt := 129) rfl rfl hz5 (fun hc => ?_) (fun hc => ?_)
        · replace hw := hw.1 hc
          exact hw
        · replace hw := hw.2 hc
          refine s_aload_n (pc := 123) rfl rfl ?_
          refine s_bipush (pc := 124) rfl (by decide) ?_
          refine s_putI (pc := 126) rfl ko_2 ?_
          exact hw
      · replace hw := hw.2 hc
        refine s_aload_n (pc := 103) rfl rfl ?_
        refine s_bipush (pc := 104) rfl (by decide) ?_
        refine s_putI (pc := 106) rfl ko_2 ?_
        refine s_goto (pc := 109) (tgt := 129) rfl rfl ?_
        exact hw
    · replace hw := hw.2 hc
      refine s_aload_n (pc := 83) rfl rfl ?_
      refine s_bipush (pc := 84) rfl (by decide) ?_
      refine s_putI (pc := 86) rfl ko_2 ?_
      refine s_goto (pc := 89) (tgt := 129) rfl rfl ?_
      exact hw
  · replace hw := hw.2 hc
    refine s_aload_n (pc := 16) rfl rfl ?_
    refine s_getA (pc := 17) rfl ko_2 (po_2_0 hp) ?_
    refine s_aload_n (pc := 20) rfl rfl ?_
    refine s_getI (pc := 21) rfl ko_2 ?_
    obtain ⟨hb6, hw⟩ := hw
    refine s_iald (pc := 24) rfl ka_3 (by decide) hb6 ?_
    refine s_ci (pc := 25) (d := d) (t := []) rfl rfl (am_ca_s (ps := [.int (iz (m 3 (m 2 3).toNat))]) rfl) (Nat.le_of_ble_eq_true rfl) (Ci.weak hw fun z10 m7 J8 P9 hw => ?_)
    obtain ⟨hp11, hw⟩ := hw
    refine s_ci (pc := 28) (d := d) (t := []) rfl rfl (am_ca_s (ps := [.int (iz z10)]) rfl) (Nat.le_of_ble_eq_true rfl) (Ci.weak hw fun z15 m12 J13 P14 hw => ?_)
    obtain ⟨hp16, hw⟩ := hw
    obtain ⟨hz17, hw⟩ := hw
    refine s_if_eq (pc := 31) (tgt := 69) rfl rfl hz17 (fun hc => ?_) (fun hc => ?_)
    · replace hw := hw.1 hc
      refine s_aload_n (pc := 69) rfl rfl ?_
      refine s_getI (pc := 70) rfl ko_2 ?_
      refine s_aload_n (pc := 73) rfl rfl ?_
      refine s_getI (pc := 74) rfl ko_2 ?_
      refine s_isub (pc := 77) rfl ?_
      refine s_bipush (pc := 78) rfl (by decide) ?_
      obtain ⟨hz18, hw⟩ := hw
      refine s_ic_le (pc := 80) (tgt := 92) rfl rfl hz18 (by decide) (fun hc => ?_) (fun hc => ?_)
      · replace hw := hw.1 hc
        refine s_aload_n (pc := 92) rfl rfl ?_
        refine s_getJ (pc := 93) rfl ko_2 ?_
        refine s_ldc2 (pc := 96) rfl ?_
        refine s_lcmp (pc := 99) rfl ?_
        obtain ⟨hz19, hw⟩ := hw
        refine s_if_ne (pc := 100) (tgt := 112) rfl rfl hz19 (fun hc => ?_) (fun hc => ?_)
        · replace hw := hw.1 hc
          refine s_aload_n (pc := 112) rfl rfl ?_
          refine s_getJ (pc := 113) rfl ko_2 ?_
          refine s_ldc2 (pc := 116) rfl ?_
          refine s_lcmp (pc := 119) rfl ?_
          obtain ⟨hz20, hw⟩ := hw
          refine s_if_ne (pc := 120) (tgt := 129) rfl rfl hz20 (fun hc => ?_) (fun hc => ?_)
          · replace hw := hw.1 hc
            exact hw
          · replace hw := hw.2 hc
            refine s_aload_n (pc := 123) rfl rfl ?_
            refine s_bipush (pc := 124) rfl (by decide) ?_
            refine s_putI (pc := 126) rfl ko_2 ?_
            exact hw
        · replace hw := hw.2 hc
          refine s_aload_n (pc := 103) rfl rfl ?_
          refine s_bipush (pc := 104) rfl (by decide) ?_
          refine s_putI (pc := 106) rfl ko_2 ?_
          refine s_goto (pc := 109) (tgt := 129) rfl rfl ?_
          exact hw
      · replace hw := hw.2 hc
        refine s_aload_n (pc := 83) rfl rfl ?_
        refine s_bipush (pc := 84) rfl (by decide) ?_
        refine s_putI (pc := 86) rfl ko_2 ?_
        refine s_goto (pc := 89) (tgt := 129) rfl rfl ?_
        exact hw
    · replace hw := hw.2 hc
      refine s_aload_n (pc := 34) rfl rfl ?_
      refine s_aload_n (pc := 35) rfl rfl ?_
      refine s_getJ (pc := 36) rfl ko_2 ?_
      refine s_bipush (pc := 39) rfl (by decide) ?_
      refine s_lshl (pc := 41) rfl ?_
      refine s_aload_n (pc := 42) rfl rfl ?_
      refine s_getA (pc := 43) rfl ko_2 (po_2_0 hp16) ?_
      refine s_aload_n (pc := 46) rfl rfl ?_
      refine s_getI (pc := 47) rfl ko_2 ?_
      obtain ⟨hb21, hw⟩ := hw
      refine s_iald (pc := 50) rfl ka_3 (by decide) hb21 ?_
      refine s_i2l (pc := 51) rfl ?_
      refine s_lor (pc := 52) rfl ?_
      refine s_putJ (pc := 53) rfl ko_2 ?_
      refine s_aload_n (pc := 56) rfl rfl ?_
      refine s_dup (pc := 57) rfl rfl ?_
      refine s_getI (pc := 58) rfl ko_2 ?_
      refine s_iconst (pc := 61) rfl ?_
      refine s_iadd (pc := 62) rfl ?_
      refine s_putI (pc := 63) rfl ko_2 ?_
      refine s_goto (pc := 66) (tgt := 5) rfl rfl ?_
      exact hw

set_option maxRecDepth 20000 in
set_option maxHeartbeats 4000000 in
theorem b_Text_readWord_129 {X : aX} {d : Nat}   (m : Mi) (J : Mj) (P : Mp) (hp : PP P) (post : Mi → Mj → Mp → Prop)
    (hw : post m J P) : Rn X (d + 1) 21 129 [some (.ref 2)] [] (SS m J P) (QV post) := by
  exact s_retv (pc := 129) rfl rfl hw

set_option maxRecDepth 20000 in
set_option maxHeartbeats 4000000 in
theorem b_Text_isWordKind_0 {X : aX} {d : Nat} (x0 : Int)  (m : Mi) (J : Mj) (P : Mp) (hp : PP P) (post : Int → Mi → Mj → Mp → Prop)
    (hw : Zr (x0) ∧ (((x0 = 1) → post 1 m J P) ∧ (¬ (x0 = 1) → Zr (x0) ∧ (((x0 = 2) → post 1 m J P) ∧ (¬ (x0 = 2) → Zr (x0) ∧ (((¬ x0 = 3) → post 0 m J P) ∧ (¬ (¬ x0 = 3) → post 1 m J P))))))) : Rn X d 22 0 [some (.int (iz x0))] [] (SS m J P) (QI post) := by
  refine s_iload_n (pc := 0) rfl rfl ?_
  refine s_iconst (pc := 1) rfl ?_
  obtain ⟨hz1, hw⟩ := hw
  refine s_ic_eq (pc := 2) (tgt := 15) rfl rfl hz1 (by decide) (fun hc => ?_) (fun hc => ?_)
  · replace hw := hw.1 hc
    refine s_iconst (pc := 15) rfl ?_
    refine s_goto (pc := 16) (tgt := 20) rfl rfl ?_
    exact s_retz (pc := 20) rfl rfl (by decide) hw
  · replace hw := hw.2 hc
    refine s_iload_n (pc := 5) rfl rfl ?_
    refine s_iconst (pc := 6) rfl ?_
    obtain ⟨hz2, hw⟩ := hw
    refine s_ic_eq (pc := 7) (tgt := 15) rfl rfl hz2 (by decide) (fun hc => ?_) (fun hc => ?_)
    · replace hw := hw.1 hc
      refine s_iconst (pc := 15) rfl ?_
      refine s_goto (pc := 16) (tgt := 20) rfl rfl ?_
      exact s_retz (pc := 20) rfl rfl (by decide) hw
    · replace hw := hw.2 hc
      refine s_iload_n (pc := 10) rfl rfl ?_
      refine s_iconst (pc := 11) rfl ?_
      obtain ⟨hz3, hw⟩ := hw
      refine s_ic_ne (pc := 12) (tgt := 19) rfl rfl hz3 (by decide) (fun hc => ?_) (fun hc => ?_)
      · replace hw := hw.1 hc
        refine s_iconst (pc := 19) rfl ?_
        exact s_retz (pc := 20) rfl rfl (by decide) hw
      · replace hw := hw.2 hc
        refine s_iconst (pc := 15) rfl ?_
        refine s_goto (pc := 16) (tgt := 20) rfl rfl ?_
        exact s_retz (pc := 20) rfl rfl (by decide) hw

set_option maxRecDepth 20000 in
set_option maxHeartbeats 4000000 in
theorem b_Reader_readSymbols_0 {X : aX} {d : Nat} (x1 : Nat) (kx1 : am_kd an_K x1 = some (.inl 10)) (m : Mi) (J : Mj) (P : Mp) (hp : PP P) (post : Int → Mi → Mj → Mp → Prop)
    (hw : Ci X (d + 3) 24 [.ref 4, .int (iz 10)] m J P (fun z4 m1 J2 P3 => PP P3 ∧ Zr (z4) ∧ (((¬ z4 = 0) → Rn X (d + 4) 23 13 [some (.ref 4), some (.ref x1), some (.int (iz 0))] [] (SS m1 J2 P3) (QI post)) ∧ (¬ (¬ z4 = 0) → post 0 m1 J2 P3)))) : Rn X (d + 4) 23 0 [some (.ref 4), some (.ref x1), none] [] (SS m J P) (QI post) := by
  refine s_aload_n (pc := 0) rfl rfl ?_
  refine s_bipush (pc := 1) rfl (by decide) ?_
  refine s_ci (pc := 3) (d := (d + 3)) (t := []) rfl rfl (am_ca_v (ps := [.int (iz 10)]) rfl ko_4) (Nat.le_of_ble_eq_true rfl) (Ci.weak hw fun z4 m1 J2 P3 hw => ?_)
  obtain ⟨hp5, hw⟩ := hw
  obtain ⟨hz6, hw⟩ := hw
  refine s_if_ne (pc := 6) (tgt := 11) rfl rfl hz6 (fun hc => ?_) (fun hc => ?_)
  · replace hw := hw.1 hc
    refine s_iconst (pc := 11) rfl ?_
    refine s_istore_n (pc := 12) (L' := [some (.ref 4), some (.ref x1), some (.int (iz 0))]) rfl (Nat.le_of_ble_eq_true rfl) rfl ?_
    exact hw
  · replace hw := hw.2 hc
    refine s_iconst (pc := 9) rfl ?_
    exact s_retz (pc := 10) rfl rfl (by decide) hw

set_option maxRecDepth 20000 in
set_option maxHeartbeats 4000000 in
theorem b_Reader_readSymbols_13 {X : aX} {d : Nat} (x1 : Nat) (x2 : Int) (kx1 : am_kd an_K x1 = some (.inl 10)) (m : Mi) (J : Mj) (P : Mp) (hp : PP P) (post : Int → Mi → Mj → Mp → Prop)
    (hw : Zr (x2) ∧ (((16 < x2) → Ci X (d + 3) 24 [.ref 4, .int (iz 7)] m J P (fun z5 m2 J3 P4 => PP P4 ∧ (z5 = 0 ∨ z5 = 1) ∧ post z5 m2 J3 P4)) ∧ (¬ (16 < x2) → Ci X (d + 3) 27 [.ref 4, .ref x1] m J P (fun z10 m7 J8 P9 => PP P9 ∧ Zr (z10) ∧ (((¬ z10 = 0) → Zr (m7 2 4) ∧ ((((m7 2 4) = 6) → Cv X (d + 3) 19 [.ref 2] m7 J8 P9 (fun m14 J15 P16 => PP P16 ∧ Rn X (d + 4) 23 13 [some (.ref 4), some (.ref x1), some (.int (iz (x2 + 1)))] [] (SS m14 J15 P16) (QI post))) ∧ (¬ ((m7 2 4) = 6) → Ci X (d + 3) 24 [.ref 4, .int (iz 7)] m7 J8 P9 (fun z22 m19 J20 P21 => PP P21 ∧ (z22 = 0 ∨ z22 = 1) ∧ post z22 m19 J20 P21)))) ∧ (¬ (¬ z10 = 0) → post 0 m7 J8 P9)))))) : Rn X (d + 4) 23 13 [some (.ref 4), some (.ref x1), some (.int (iz x2))] [] (SS m J P) (QI post) := by
  refine s_iload_n (pc := 13) rfl rfl ?_
  refine s_bipush (pc := 14) rfl (by decide) ?_
  obtain ⟨hz1, hw⟩ := hw
  refine s_ic_gt (pc := 16) (tgt := 57) rfl rfl hz1 (by decide) (fun hc => ?_) (fun hc => ?_)
  · replace hw := hw.1 hc
    refine s_aload_n (pc := 57) rfl rfl ?_
    refine s_bipush (pc := 58) rfl (by decide) ?_
    refine s_ci (pc := 60) (d := (d + 3)) (t := []) rfl rfl (am_ca_v (ps := [.int (iz 7)]) rfl ko_4) (Nat.le_of_ble_eq_true rfl) (Ci.weak hw fun z5 m2 J3 P4 hw => ?_)
    obtain ⟨hp6, hw⟩ := hw
    exact s_retz (pc := 63) rfl rfl hw.1 hw.2
  · replace hw := hw.2 hc
    refine s_aload_n (pc := 19) rfl rfl ?_
    refine s_aload_n (pc := 20) rfl rfl ?_
    refine s_ci (pc := 21) (d := (d + 3)) (t := []) rfl rfl (am_ca_v (ps := [.ref x1]) rfl ko_4) (Nat.le_of_ble_eq_true rfl) (Ci.weak hw fun z10 m7 J8 P9 hw => ?_)
    obtain ⟨hp11, hw⟩ := hw
    obtain ⟨hz12, hw⟩ := hw
    refine s_if_ne (pc := 24) (tgt := 29) rfl rfl hz12 (fun hc => ?_) (fun hc => ?_)
    · replace hw := hw.1 hc
      refine s_aload_n (pc := 29) rfl rfl ?_
      refine s_getA (pc := 30) rfl ko_4 (po_4_0 hp11) ?_
      refine s_getI (pc := 33) rfl ko_2 ?_
      refine s_bipush (pc := 36) rfl (by decide) ?_
      obtain ⟨hz13, hw⟩ := hw
      refine s_ic_eq (pc := 38) (tgt := 44) rfl rfl hz13 (by decide) (fun hc => ?_) (fun hc => ?_)
      · replace hw := hw.1 hc
        refine s_aload_n (pc := 44) rfl rfl ?_
        refine s_getA (pc := 45) rfl ko_4 (po_4_0 hp11) ?_
        refine s_cv (pc := 48) (d := (d + 3)) (t := []) rfl rfl (am_ca_v (ps := []) rfl ko_2) (Nat.le_of_ble_eq_true rfl) (Cv.weak hw fun m14 J15 P16 hw => ?_)
        obtain ⟨hp18, hw⟩ := hw
        refine s_iinc (pc := 51) (L' := [some (.ref 4), some (.ref x1), some (.int (iz (x2 + 1)))]) rfl rfl (Nat.le_of_ble_eq_true rfl) rfl ?_
        refine s_goto (pc := 54) (tgt := 13) rfl rfl ?_
        exact hw
      · replace hw := hw.2 hc
        refine s_goto (pc := 41) (tgt := 57) rfl rfl ?_
        refine s_aload_n (pc := 57) rfl rfl ?_
        refine s_bipush (pc := 58) rfl (by decide) ?_
        refine s_ci (pc := 60) (d := (d + 3)) (t := []) rfl rfl (am_ca_v (ps := [.int (iz 7)]) rfl ko_4) (Nat.le_of_ble_eq_true rfl) (Ci.weak hw fun z22 m19 J20 P21 hw => ?_)
        obtain ⟨hp23, hw⟩ := hw
        exact s_retz (pc := 63) rfl rfl hw.1 hw.2
    · replace hw := hw.2 hc
      refine s_iconst (pc := 27) rfl ?_
      exact s_retz (pc := 28) rfl rfl (by decide) hw

set_option maxRecDepth 20000 in
set_option maxHeartbeats 4000000 in
theorem b_Reader_take_0 {X : aX} {d : Nat} (x1 : Int)  (m : Mi) (J : Mj) (P : Mp) (hp : PP P) (post : Int → Mi → Mj → Mp → Prop)
    (hw : Ci X (d + 2) 25 [.ref 4, .int (iz x1)] m J P (fun z4 m1 J2 P3 => PP P3 ∧ Zr (z4) ∧ (((¬ z4 = 0) → Cv X (d + 2) 19 [.ref 2] m1 J2 P3 (fun m7 J8 P9 => PP P9 ∧ post 1 m7 J8 P9)) ∧ (¬ (¬ z4 = 0) → post 0 m1 J2 P3)))) : Rn X (d + 3) 24 0 [some (.ref 4), some (.int (iz x1))] [] (SS m J P) (QI post) := by
  refine s_aload_n (pc := 0) rfl rfl ?_
  refine s_iload_n (pc := 1) rfl rfl ?_
  refine s_ci (pc := 2) (d := (d + 2)) (t := []) rfl rfl (am_ca_v (ps := [.int (iz x1)]) rfl ko_4) (Nat.le_of_ble_eq_true rfl) (Ci.weak hw fun z4 m1 J2 P3 hw => ?_)
  obtain ⟨hp5, hw⟩ := hw
  obtain ⟨hz6, hw⟩ := hw
  refine s_if_ne (pc := 5) (tgt := 10) rfl rfl hz6 (fun hc => ?_) (fun hc => ?_)
  · replace hw := hw.1 hc
    refine s_aload_n (pc := 10) rfl rfl ?_
    refine s_getA (pc := 11) rfl ko_4 (po_4_0 hp5) ?_
    refine s_cv (pc := 14) (d := (d + 2)) (t := []) rfl rfl (am_ca_v (ps := []) rfl ko_2) (Nat.le_of_ble_eq_true rfl) (Cv.weak hw fun m7 J8 P9 hw => ?_)
    obtain ⟨hp11, hw⟩ := hw
    refine s_iconst (pc := 17) rfl ?_
    exact s_retz (pc := 18) rfl rfl (by decide) hw
  · replace hw := hw.2 hc
    refine s_iconst (pc := 8) rfl ?_
    exact s_retz (pc := 9) rfl rfl (by decide) hw

set_option maxRecDepth 20000 in
set_option maxHeartbeats 4000000 in
theorem b_Reader_isLast_0 {X : aX} {d : Nat} (x1 : Int)  (m : Mi) (J : Mj) (P : Mp) (hp : PP P) (post : Int → Mi → Mj → Mp → Prop)
    (hw : Zr (m 2 4) ∧ Zr (x1) ∧ (((¬ (m 2 4) = x1) → Zr (m 2 4) ∧ (((¬ (m 2 4) = 12) → Ci X d 26 [.ref 4, .int (iz 2), .int (iz (m 2 5))] m J P (fun z7 m4 J5 P6 => PP P6 ∧ (z7 = 0 ∨ z7 = 1) ∧ post z7 m4 J5 P6)) ∧ (¬ (¬ (m 2 4) = 12) → Ci X d 26 [.ref 4, .int (iz 1), .int (iz (m 2 5))] m J P (fun z12 m9 J10 P11 => PP P11 ∧ (z12 = 0 ∨ z12 = 1) ∧ post z12 m9 J10 P11)))) ∧ (¬ (¬ (m 2 4) = x1) → post 1 m J P))) : Rn X (d + 1) 25 0 [some (.ref 4), some (.int (iz x1))] [] (SS m J P) (QI post) := by
  refine s_aload_n (pc := 0) rfl rfl ?_
  refine s_getA (pc := 1) rfl ko_4 (po_4_0 hp) ?_
  refine s_getI (pc := 4) rfl ko_2 ?_
  refine s_iload_n (pc := 7) rfl rfl ?_
  obtain ⟨hz1, hw⟩ := hw
  obtain ⟨hz2, hw⟩ := hw
  refine s_ic_ne (pc := 8) (tgt := 13) rfl rfl hz1 hz2 (fun hc => ?_) (fun hc => ?_)
  · replace hw := hw.1 hc
    refine s_aload_n (pc := 13) rfl rfl ?_
    refine s_aload_n (pc := 14) rfl rfl ?_
    refine s_getA (pc := 15) rfl ko_4 (po_4_0 hp) ?_
    refine s_getI (pc := 18) rfl ko_2 ?_
    refine s_bipush (pc := 21) rfl (by decide) ?_
    obtain ⟨hz3, hw⟩ := hw
    refine s_ic_ne (pc := 23) (tgt := 30) rfl rfl hz3 (by decide) (fun hc => ?_) (fun hc => ?_)
    · replace hw := hw.1 hc
      refine s_iconst (pc := 30) rfl ?_
      refine s_aload_n (pc := 31) rfl rfl ?_
      refine s_getA (pc := 32) rfl ko_4 (po_4_0 hp) ?_
      refine s_getI (pc := 35) rfl ko_2 ?_
      refine s_ci (pc := 38) (d := d) (t := []) rfl rfl (am_ca_v (ps := [.int (iz (m 2 5)), .int (iz 2)]) rfl ko_4) (Nat.le_of_ble_eq_true rfl) (Ci.weak hw fun z7 m4 J5 P6 hw => ?_)
      obtain ⟨hp8, hw⟩ := hw
      exact s_retz (pc := 41) rfl rfl hw.1 hw.2
    · replace hw := hw.2 hc
      refine s_iconst (pc := 26) rfl ?_
      refine s_goto (pc := 27) (tgt := 31) rfl rfl ?_
      refine s_aload_n (pc := 31) rfl rfl ?_
      refine s_getA (pc := 32) rfl ko_4 (po_4_0 hp) ?_
      refine s_getI (pc := 35) rfl ko_2 ?_
      refine s_ci (pc := 38) (d := d) (t := []) rfl rfl (am_ca_v (ps := [.int (iz (m 2 5)), .int (iz 1)]) rfl ko_4) (Nat.le_of_ble_eq_true rfl) (Ci.weak hw fun z12 m9 J10 P11 hw => ?_)
      obtain ⟨hp13, hw⟩ := hw
      exact s_retz (pc := 41) rfl rfl hw.1 hw.2
  · replace hw := hw.2 hc
    refine s_iconst (pc := 11) rfl ?_
    exact s_retz (pc := 12) rfl rfl (by decide) hw

set_option maxRecDepth 20000 in
set_option maxHeartbeats 4000000 in
theorem b_Reader_refuse_0 {X : aX} {d : Nat} (x1 : Int) (x2 : Int)  (m : Mi) (J : Mj) (P : Mp) (hp : PP P) (post : Int → Mi → Mj → Mp → Prop)
    (hw : post 0 (mu (mu m 4 3 x1) 4 4 x2) J P) : Rn X d 26 0 [some (.ref 4), some (.int (iz x1)), some (.int (iz x2))] [] (SS m J P) (QI post) := by
  refine s_aload_n (pc := 0) rfl rfl ?_
  refine s_iload_n (pc := 1) rfl rfl ?_
  refine s_putI (pc := 2) rfl ko_4 ?_
  refine s_aload_n (pc := 5) rfl rfl ?_
  refine s_iload_n (pc := 6) rfl rfl ?_
  refine s_putI (pc := 7) rfl ko_4 ?_
  refine s_iconst (pc := 10) rfl ?_
  exact s_retz (pc := 11) rfl rfl (by decide) hw

set_option maxRecDepth 20000 in
set_option maxHeartbeats 4000000 in
theorem b_Reader_readTold_0 {X : aX} {d : Nat} (x1 : Nat) (kx1 : am_kd an_K x1 = some (.inl 10)) (m : Mi) (J : Mj) (P : Mp) (hp : PP P) (post : Int → Mi → Mj → Mp → Prop)
    (hw : Ci X (d + 2) 25 [.ref 4, .int (iz 1)] m J P (fun z4 m1 J2 P3 => PP P3 ∧ Zr (z4) ∧ (((¬ z4 = 0) → Zr (m1 x1 4) ∧ ((((m1 x1 4) < 16) → ((0 : Int) ≤ (m1 x1 4) ∧ ((m1 x1 4) : Int) < 16) ∧ ((0 : Int) ≤ (m1 x1 4) ∧ ((m1 x1 4) : Int) < 16) ∧ Cv X (d + 2) 19 [.ref 2] (mu (mu m1 (x1 + 3) (m1 x1 4).toNat (m1 2 5)) x1 4 (((mu m1 (x1 + 3) (m1 x1 4).toNat (m1 2 5)) x1 4) + 1)) (mju J2 (x1 + 1) (m1 x1 4).toNat (J2 2 7)) P3 (fun m10 J11 P12 => PP P12 ∧ Ci X (d + 2) 25 [.ref 4, .int (iz 3)] m10 J11 P12 (fun z18 m15 J16 P17 => PP P17 ∧ Zr (z18) ∧ (((¬ z18 = 0) → Zr (m15 2 6) ∧ ((((m15 2 6) ≤ 4) → ((0 : Int) ≤ (m1 x1 4) ∧ ((m1 x1 4) : Int) < 16) ∧ Cv X (d + 2) 19 [.ref 2] (mu m15 (x1 + 2) (m1 x1 4).toNat (m15 2 6)) J16 P17 (fun m23 J24 P25 => PP P25 ∧ post 1 m23 J24 P25)) ∧ (¬ ((m15 2 6) ≤ 4) → Ci X (d + 2) 26 [.ref 4, .int (iz 2), .int (iz (m15 2 5))] m15 J16 P17 (fun z31 m28 J29 P30 => PP P30 ∧ (z31 = 0 ∨ z31 = 1) ∧ post z31 m28 J29 P30)))) ∧ (¬ (¬ z18 = 0) → post 0 m15 J16 P17))))) ∧ (¬ ((m1 x1 4) < 16) → Ci X (d + 2) 26 [.ref 4, .int (iz 3), .int (iz (m1 2 5))] m1 J2 P3 (fun z36 m33 J34 P35 => PP P35 ∧ (z36 = 0 ∨ z36 = 1) ∧ post z36 m33 J34 P35)))) ∧ (¬ (¬ z4 = 0) → post 0 m1 J2 P3)))) : Rn X (d + 3) 27 0 [some (.ref 4), some (.ref x1), none] [] (SS m J P) (QI post) := by
  refine s_aload_n (pc := 0) rfl rfl ?_
  refine s_iconst (pc := 1) rfl ?_
  refine s_ci (pc := 2) (d := (d + 2)) (t := []) rfl rfl (am_ca_v (ps := [.int (iz 1)]) rfl ko_4) (Nat.le_of_ble_eq_true rfl) (Ci.weak hw fun z4 m1 J2 P3 hw => ?_)
  obtain ⟨hp5, hw⟩ := hw
  obtain ⟨hz6, hw⟩ := hw
  refine s_if_ne (pc := 5) (tgt := 10) rfl rfl hz6 (fun hc => ?_) (fun hc => ?_)
  · replace hw := hw.1 hc
    refine s_aload_n (pc := 10) rfl rfl ?_
    refine s_getI (pc := 11) rfl kx1 ?_
    refine s_istore_n (pc := 14) (L' := [some (.ref 4), some (.ref x1), some (.int (iz (m1 x1 4)))]) rfl (Nat.le_of_ble_eq_true rfl) rfl ?_
    refine s_iload_n (pc := 15) rfl rfl ?_
    refine s_bipush (pc := 16) rfl (by decide) ?_
    obtain ⟨hz7, hw⟩ := hw
    refine s_ic_lt (pc := 18) (tgt := 34) rfl rfl hz7 (by decide) (fun hc => ?_) (fun hc => ?_)
    · replace hw := hw.1 hc
      refine s_aload_n (pc := 34) rfl rfl ?_
      refine s_getA (pc := 35) rfl kx1 (pc_10_0 hp5 kx1) ?_
      refine s_iload_n (pc := 38) rfl rfl ?_
      refine s_aload_n (pc := 39) rfl rfl ?_
      refine s_getA (pc := 40) rfl ko_4 (po_4_0 hp5) ?_
      refine s_getJ (pc := 43) rfl ko_2 ?_
      obtain ⟨hb8, hw⟩ := hw
      refine s_last (pc := 46) rfl (kc_10_0 kx1) (by decide) hb8 ?_
      refine s_aload_n (pc := 47) rfl rfl ?_
      refine s_getA (pc := 48) rfl kx1 (pc_10_2 hp5 kx1) ?_
      refine s_iload_n (pc := 51) rfl rfl ?_
      refine s_aload_n (pc := 52) rfl rfl ?_
      refine s_getA (pc := 53) rfl ko_4 (po_4_0 hp5) ?_
      refine s_getI (pc := 56) rfl ko_2 ?_
      obtain ⟨hb9, hw⟩ := hw
      refine s_iast (pc := 59) rfl (kc_10_2 kx1) (by decide) hb9 ?_
      refine s_aload_n (pc := 60) rfl rfl ?_
      refine s_dup (pc := 61) rfl rfl ?_
      refine s_getI (pc := 62) rfl kx1 ?_
      refine s_iconst (pc := 65) rfl ?_
      refine s_iadd (pc := 66) rfl ?_
      refine s_putI (pc := 67) rfl kx1 ?_
      refine s_aload_n (pc := 70) rfl rfl ?_
      refine s_getA (pc := 71) rfl ko_4 (po_4_0 hp5) ?_
      refine s_cv (pc := 74) (d := (d + 2)) (t := []) rfl rfl (am_ca_v (ps := []) rfl ko_2) (Nat.le_of_ble_eq_true rfl) (Cv.weak hw fun m10 J11 P12 hw => ?_)
      obtain ⟨hp14, hw⟩ := hw
      refine s_aload_n (pc := 77) rfl rfl ?_
      refine s_iconst (pc := 78) rfl ?_
      refine s_ci (pc := 79) (d := (d + 2)) (t := []) rfl rfl (am_ca_v (ps := [.int (iz 3)]) rfl ko_4) (Nat.le_of_ble_eq_true rfl) (Ci.weak hw fun z18 m15 J16 P17 hw => ?_)
      obtain ⟨hp19, hw⟩ := hw
      obtain ⟨hz20, hw⟩ := hw
      refine s_if_ne (pc := 82) (tgt := 87) rfl rfl hz20 (fun hc => ?_) (fun hc => ?_)
      · replace hw := hw.1 hc
        refine s_aload_n (pc := 87) rfl rfl ?_
        refine s_getA (pc := 88) rfl ko_4 (po_4_0 hp19) ?_
        refine s_getI (pc := 91) rfl ko_2 ?_
        refine s_iconst (pc := 94) rfl ?_
        obtain ⟨hz21, hw⟩ := hw
        refine s_ic_le (pc := 95) (tgt := 111) rfl rfl hz21 (by decide) (fun hc => ?_) (fun hc => ?_)
        · replace hw := hw.1 hc
          refine s_aload_n (pc := 111) rfl rfl ?_
          refine s_getA (pc := 112) rfl kx1 (pc_10_1 hp19 kx1) ?_
          refine s_iload_n (pc := 115) rfl rfl ?_
          refine s_aload_n (pc := 116) rfl rfl ?_
          refine s_getA (pc := 117) rfl ko_4 (po_4_0 hp19) ?_
          refine s_getI (pc := 120) rfl ko_2 ?_
          obtain ⟨hb22, hw⟩ := hw
          refine s_iast (pc := 123) rfl (kc_10_1 kx1) (by decide) hb22 ?_
          refine s_aload_n (pc := 124) rfl rfl ?_
          refine s_getA (pc := 125) rfl ko_4 (po_4_0 hp19) ?_
          refine s_cv (pc := 128) (d := (d + 2)) (t := []) rfl rfl (am_ca_v (ps := []) rfl ko_2) (Nat.le_of_ble_eq_true rfl) (Cv.weak hw fun m23 J24 P25 hw => ?_)
          obtain ⟨hp27, hw⟩ := hw
          refine s_iconst (pc := 131) rfl ?_
          exact s_retz (pc := 132) rfl rfl (by decide) hw
        · replace hw := hw.2 hc
          refine s_aload_n (pc := 98) rfl rfl ?_
          refine s_iconst (pc := 99) rfl ?_
          refine s_aload_n (pc := 100) rfl rfl ?_
          refine s_getA (pc := 101) rfl ko_4 (po_4_0 hp19) ?_
          refine s_getI (pc := 104) rfl ko_2 ?_
          refine s_ci (pc := 107) (d := (d + 2)) (t := []) rfl rfl (am_ca_v (ps := [.int (iz (m15 2 5)), .int (iz 2)]) rfl ko_4) (Nat.le_of_ble_eq_true rfl) (Ci.weak hw fun z31 m28 J29 P30 hw => ?_)
          obtain ⟨hp32, hw⟩ := hw
          exact s_retz (pc := 110) rfl rfl hw.1 hw.2
      · replace hw := hw.2 hc
        refine s_iconst (pc := 85) rfl ?_
        exact s_retz (pc := 86) rfl rfl (by decide) hw
    · replace hw := hw.2 hc
      refine s_aload_n (pc := 21) rfl rfl ?_
      refine s_iconst (pc := 22) rfl ?_
      refine s_aload_n (pc := 23) rfl rfl ?_
      refine s_getA (pc := 24) rfl ko_4 (po_4_0 hp5) ?_
      refine s_getI (pc := 27) rfl ko_2 ?_
      refine s_ci (pc := 30) (d := (d + 2)) (t := []) rfl rfl (am_ca_v (ps := [.int (iz (m1 2 5)), .int (iz 3)]) rfl ko_4) (Nat.le_of_ble_eq_true rfl) (Ci.weak hw fun z36 m33 J34 P35 hw => ?_)
      obtain ⟨hp37, hw⟩ := hw
      exact s_retz (pc := 33) rfl rfl hw.1 hw.2
  · replace hw := hw.2 hc
    refine s_iconst (pc := 8) rfl ?_
    exact s_retz (pc := 9) rfl rfl (by decide) hw

set_option maxRecDepth 20000 in
set_option maxHeartbeats 4000000 in
theorem b_Reader_readTwo_0 {X : aX} {d : Nat} (x1 : Nat) (x2 : Nat) (x3 : Int) (x4 : Int) (kx1 : am_kd an_K x1 = some (.inl 10)) (kx2 : am_kd an_K x2 = some (.inl 8)) (m : Mi) (J : Mj) (P : Mp) (hp : PP P) (post : Int → Mi → Mj → Mp → Prop)
    (hw : Cv X (d + 4) 29 [.ref x2] m J P (fun m1 J2 P3 => PP P3 ∧ Ci X (d + 4) 30 [.ref 4, .ref x1, .ref x2, .int (iz x4)] m1 J2 P3 (fun z9 m6 J7 P8 => PP P8 ∧ Zr (z9) ∧ (((¬ z9 = 0) → Cv X (d + 4) 35 [.ref x2, .int (iz (m6 2 5))] m6 J7 P8 (fun m12 J13 P14 => PP P14 ∧ Ci X (d + 4) 24 [.ref 4, .int (iz x3)] m12 J13 P14 (fun z20 m17 J18 P19 => PP P19 ∧ Zr (z20) ∧ (((z20 = 0) → post 0 m17 J18 P19) ∧ (¬ (z20 = 0) → Ci X (d + 4) 30 [.ref 4, .ref x1, .ref x2, .int (iz x4)] m17 J18 P19 (fun z26 m23 J24 P25 => PP P25 ∧ Zr (z26) ∧ (((z26 = 0) → post 0 m23 J24 P25) ∧ (¬ (z26 = 0) → post 1 m23 J24 P25)))))))) ∧ (¬ (¬ z9 = 0) → post 0 m6 J7 P8))))) : Rn X (d + 5) 28 0 [some (.ref 4), some (.ref x1), some (.ref x2), some (.int (iz x3)), some (.int (iz x4))] [] (SS m J P) (QI post) := by
  refine s_aload_n (pc := 0) rfl rfl ?_
  refine s_cv (pc := 1) (d := (d + 4)) (t := []) rfl rfl (am_ca_v (ps := []) rfl kx2) (Nat.le_of_ble_eq_true rfl) (Cv.weak hw fun m1 J2 P3 hw => ?_)
  obtain ⟨hp5, hw⟩ := hw
  refine s_aload_n (pc := 4) rfl rfl ?_
  refine s_aload_n (pc := 5) rfl rfl ?_
  refine s_aload_n (pc := 6) rfl rfl ?_
  refine s_iload (pc := 7) rfl rfl ?_
  refine s_ci (pc := 9) (d := (d + 4)) (t := []) rfl rfl (am_ca_v (ps := [.int (iz x4), .ref x2, .ref x1]) rfl ko_4) (Nat.le_of_ble_eq_true rfl) (Ci.weak hw fun z9 m6 J7 P8 hw => ?_)
  obtain ⟨hp10, hw⟩ := hw
  obtain ⟨hz11, hw⟩ := hw
  refine s_if_ne (pc := 12) (tgt := 17) rfl rfl hz11 (fun hc => ?_) (fun hc => ?_)
  · replace hw := hw.1 hc
    refine s_aload_n (pc := 17) rfl rfl ?_
    refine s_aload_n (pc := 18) rfl rfl ?_
    refine s_getA (pc := 19) rfl ko_4 (po_4_0 hp10) ?_
    refine s_getI (pc := 22) rfl ko_2 ?_
    refine s_cv (pc := 25) (d := (d + 4)) (t := []) rfl rfl (am_ca_v (ps := [.int (iz (m6 2 5))]) rfl kx2) (Nat.le_of_ble_eq_true rfl) (Cv.weak hw fun m12 J13 P14 hw => ?_)
    obtain ⟨hp16, hw⟩ := hw
    refine s_aload_n (pc := 28) rfl rfl ?_
    refine s_iload_n (pc := 29) rfl rfl ?_
    refine s_ci (pc := 30) (d := (d + 4)) (t := []) rfl rfl (am_ca_v (ps := [.int (iz x3)]) rfl ko_4) (Nat.le_of_ble_eq_true rfl) (Ci.weak hw fun z20 m17 J18 P19 hw => ?_)
    obtain ⟨hp21, hw⟩ := hw
    obtain ⟨hz22, hw⟩ := hw
    refine s_if_eq (pc := 33) (tgt := 51) rfl rfl hz22 (fun hc => ?_) (fun hc => ?_)
    · replace hw := hw.1 hc
      refine s_iconst (pc := 51) rfl ?_
      exact s_retz (pc := 52) rfl rfl (by decide) hw
    · replace hw := hw.2 hc
      refine s_aload_n (pc := 36) rfl rfl ?_
      refine s_aload_n (pc := 37) rfl rfl ?_
      refine s_aload_n (pc := 38) rfl rfl ?_
      refine s_iload (pc := 39) rfl rfl ?_
      refine s_ci (pc := 41) (d := (d + 4)) (t := []) rfl rfl (am_ca_v (ps := [.int (iz x4), .ref x2, .ref x1]) rfl ko_4) (Nat.le_of_ble_eq_true rfl) (Ci.weak hw fun z26 m23 J24 P25 hw => ?_)
      obtain ⟨hp27, hw⟩ := hw
      obtain ⟨hz28, hw⟩ := hw
      refine s_if_eq (pc := 44) (tgt := 51) rfl rfl hz28 (fun hc => ?_) (fun hc => ?_)
      · replace hw := hw.1 hc
        refine s_iconst (pc := 51) rfl ?_
        exact s_retz (pc := 52) rfl rfl (by decide) hw
      · replace hw := hw.2 hc
        refine s_iconst (pc := 47) rfl ?_
        refine s_goto (pc := 48) (tgt := 52) rfl rfl ?_
        exact s_retz (pc := 52) rfl rfl (by decide) hw
  · replace hw := hw.2 hc
    refine s_iconst (pc := 15) rfl ?_
    exact s_retz (pc := 16) rfl rfl (by decide) hw

set_option maxRecDepth 20000 in
set_option maxHeartbeats 4000000 in
theorem b_Equation_clear_0 {X : aX} {d : Nat} (x0 : Nat) (kx0 : am_kd an_K x0 = some (.inl 8)) (m : Mi) (J : Mj) (P : Mp) (hp : PP P) (post : Mi → Mj → Mp → Prop)
    (hw : post (mu (mu (mu (mu (mu m x0 5 0) x0 6 0) x0 7 0) x0 8 0) x0 9 ((-1))) J P) : Rn X d 29 0 [some (.ref x0)] [] (SS m J P) (QV post) := by
  refine s_aload_n (pc := 0) rfl rfl ?_
  refine s_iconst (pc := 1) rfl ?_
  refine s_putI (pc := 2) rfl kx0 ?_
  refine s_aload_n (pc := 5) rfl rfl ?_
  refine s_iconst (pc := 6) rfl ?_
  refine s_putI (pc := 7) rfl kx0 ?_
  refine s_aload_n (pc := 10) rfl rfl ?_
  refine s_iconst (pc := 11) rfl ?_
  refine s_putI (pc := 12) rfl kx0 ?_
  refine s_aload_n (pc := 15) rfl rfl ?_
  refine s_iconst (pc := 16) rfl ?_
  refine s_putI (pc := 17) rfl kx0 ?_
  refine s_aload_n (pc := 20) rfl rfl ?_
  refine s_iconst (pc := 21) rfl ?_
  refine s_putI (pc := 22) rfl kx0 ?_
  exact s_retv (pc := 25) rfl rfl hw

set_option maxRecDepth 20000 in
set_option maxHeartbeats 4000000 in
theorem b_Reader_readSide_0 {X : aX} {d : Nat} (x1 : Nat) (x2 : Nat) (x3 : Int) (kx1 : am_kd an_K x1 = some (.inl 10)) (kx2 : am_kd an_K x2 = some (.inl 8)) (m : Mi) (J : Mj) (P : Mp) (hp : PP P) (post : Int → Mi → Mj → Mp → Prop)
    (hw : Rn X (d + 4) 30 15 [some (.ref 4), some (.ref x1), some (.ref x2), some (.int (iz x3)), some (.int (iz (m x2 6))), some (.int (iz 0)), some (.int (iz 1)), some (.int (iz 0)), none, none] [] (SS m J P) (QI post)) : Rn X (d + 4) 30 0 [some (.ref 4), some (.ref x1), some (.ref x2), some (.int (iz x3)), none, none, none, none, none, none] [] (SS m J P) (QI post) := by
  refine s_aload_n (pc := 0) rfl rfl ?_
  refine s_getI (pc := 1) rfl kx2 ?_
  refine s_istore (pc := 4) (L' := [some (.ref 4), some (.ref x1), some (.ref x2), some (.int (iz x3)), some (.int (iz (m x2 6))), none, none, none, none, none]) rfl (Nat.le_of_ble_eq_true rfl) rfl ?_
  refine s_iconst (pc := 6) rfl ?_
  refine s_istore (pc := 7) (L' := [some (.ref 4), some (.ref x1), some (.ref x2), some (.int (iz x3)), some (.int (iz (m x2 6))), some (.int (iz 0)), none, none, none, none]) rfl (Nat.le_of_ble_eq_true rfl) rfl ?_
  refine s_iconst (pc := 9) rfl ?_
  refine s_istore (pc := 10) (L' := [some (.ref 4), some (.ref x1), some (.ref x2), some (.int (iz x3)), some (.int (iz (m x2 6))), some (.int (iz 0)), some (.int (iz 1)), none, none, none]) rfl (Nat.le_of_ble_eq_true rfl) rfl ?_
  refine s_iconst (pc := 12) rfl ?_
  refine s_istore (pc := 13) (L' := [some (.ref 4), some (.ref x1), some (.ref x2), some (.int (iz x3)), some (.int (iz (m x2 6))), some (.int (iz 0)), some (.int (iz 1)), some (.int (iz 0)), none, none]) rfl (Nat.le_of_ble_eq_true rfl) rfl ?_
  exact hw

set_option maxRecDepth 20000 in
set_option maxHeartbeats 4000000 in
theorem b_Reader_readSide_15 {X : aX} {d : Nat} (x1 : Nat) (x2 : Nat) (x3 : Int) (x4 : Int) (x5 : Int) (x6 : Int) (x7 : Int) (kx1 : am_kd an_K x1 = some (.inl 10)) (kx2 : am_kd an_K x2 = some (.inl 8)) (m : Mi) (J : Mj) (P : Mp) (hp : PP P) (post : Int → Mi → Mj → Mp → Prop)
    (hw : Zr (x7) ∧ (((1600 < x7) → post 1 m J P) ∧ (¬ (1600 < x7) → Zr (x6) ∧ (((¬ x6 = 0) → Zr (x6) ∧ (((x6 = 0) → Zr (m 2 4) ∧ (((¬ (m 2 4) = 6) → Ci X (d + 3) 24 [.ref 4, .int (iz 5)] m J P (fun z8 m5 J6 P7 => PP P7 ∧ Zr (z8) ∧ (((¬ z8 = 0) → ((0 : Int) ≤ (x5 + (-1)) ∧ ((x5 + (-1)) : Int) < 40) ∧ ((0 : Int) ≤ (m5 7 (x5 + (-1)).toNat) ∧ ((m5 7 (x5 + (-1)).toNat) : Int) < 80) ∧ Rn X (d + 4) 30 187 [some (.ref 4), some (.ref x1), some (.ref x2), some (.int (iz x3)), some (.int (iz x4)), some (.int (iz (x5 + (-1)))), some (.int (iz x6)), some (.int (iz x7)), none, none] [] (SS (mu m5 (x2 + 2) (m5 7 (x5 + (-1)).toNat).toNat (m5 x2 6)) J6 P7) (QI post)) ∧ (¬ (¬ z8 = 0) → post 0 m5 J6 P7)))) ∧ (¬ (¬ (m 2 4) = 6) → Cv X (d + 3) 19 [.ref 2] m J P (fun m13 J14 P15 => PP P15 ∧ Rn X (d + 4) 30 187 [some (.ref 4), some (.ref x1), some (.ref x2), some (.int (iz x3)), some (.int (iz x4)), some (.int (iz x5)), some (.int (iz 1)), some (.int (iz x7)), none, none] [] (SS m13 J14 P15) (QI post))))) ∧ (¬ (x6 = 0) → Zr (m 2 4) ∧ (((¬ (m 2 4) = 1) → Ci X (d + 3) 31 [.ref 4, .ref x1, .ref x2, .int (iz x4), .int (iz x3)] m J P (fun z22 m19 J20 P21 => PP P21 ∧ Zr (z22) ∧ (((¬ z22 = 0) → Rn X (d + 4) 30 103 [some (.ref 4), some (.ref x1), some (.ref x2), some (.int (iz x3)), some (.int (iz x4)), some (.int (iz x5)), some (.int (iz x6)), some (.int (iz x7)), some (.int (iz (m x2 6))), some (.int (iz 0))] [] (SS m19 J20 P21) (QI post)) ∧ (¬ (¬ z22 = 0) → post 0 m19 J20 P21)))) ∧ (¬ (¬ (m 2 4) = 1) → Ci X (d + 3) 31 [.ref 4, .ref x1, .ref x2, .int (iz x4), .int (iz x3)] m J P (fun z28 m25 J26 P27 => PP P27 ∧ Zr (z28) ∧ (((¬ z28 = 0) → Zr (m25 2 4) ∧ (((¬ (m25 2 4) = 4) → Rn X (d + 4) 30 103 [some (.ref 4), some (.ref x1), some (.ref x2), some (.int (iz x3)), some (.int (iz x4)), some (.int (iz x5)), some (.int (iz x6)), some (.int (iz x7)), some (.int (iz (m x2 6))), some (.int (iz 1))] [] (SS m25 J26 P27) (QI post)) ∧ (¬ (¬ (m25 2 4) = 4) → Zr (x5) ∧ (((40 ≤ x5) → Rn X (d + 4) 30 103 [some (.ref 4), some (.ref x1), some (.ref x2), some (.int (iz x3)), some (.int (iz x4)), some (.int (iz x5)), some (.int (iz x6)), some (.int (iz x7)), some (.int (iz (m x2 6))), some (.int (iz 1))] [] (SS m25 J26 P27) (QI post)) ∧ (¬ (40 ≤ x5) → ((0 : Int) ≤ x5 ∧ (x5 : Int) < 40) ∧ Cv X (d + 3) 19 [.ref 2] (mu m25 7 x5.toNat (m x2 6)) J26 P27 (fun m34 J35 P36 => PP P36 ∧ Rn X (d + 4) 30 130 [some (.ref 4), some (.ref x1), some (.ref x2), some (.int (iz x3)), some (.int (iz x4)), some (.int (iz (x5 + 1))), some (.int (iz 1)), some (.int (iz x7)), some (.int (iz (m x2 6))), some (.int (iz 1))] [] (SS m34 J35 P36) (QI post))))))) ∧ (¬ (¬ z28 = 0) → post 0 m25 J26 P27)))))))) ∧ (¬ (¬ x6 = 0) → Zr (x5) ∧ (((x5 ≤ 0) → post 1 m J P) ∧ (¬ (x5 ≤ 0) → Zr (x6) ∧ (((x6 = 0) → Zr (m 2 4) ∧ (((¬ (m 2 4) = 6) → Ci X (d + 3) 24 [.ref 4, .int (iz 5)] m J P (fun z45 m42 J43 P44 => PP P44 ∧ Zr (z45) ∧ (((¬ z45 = 0) → ((0 : Int) ≤ (x5 + (-1)) ∧ ((x5 + (-1)) : Int) < 40) ∧ ((0 : Int) ≤ (m42 7 (x5 + (-1)).toNat) ∧ ((m42 7 (x5 + (-1)).toNat) : Int) < 80) ∧ Rn X (d + 4) 30 187 [some (.ref 4), some (.ref x1), some (.ref x2), some (.int (iz x3)), some (.int (iz x4)), some (.int (iz (x5 + (-1)))), some (.int (iz x6)), some (.int (iz x7)), none, none] [] (SS (mu m42 (x2 + 2) (m42 7 (x5 + (-1)).toNat).toNat (m42 x2 6)) J43 P44) (QI post)) ∧ (¬ (¬ z45 = 0) → post 0 m42 J43 P44)))) ∧ (¬ (¬ (m 2 4) = 6) → Cv X (d + 3) 19 [.ref 2] m J P (fun m50 J51 P52 => PP P52 ∧ Rn X (d + 4) 30 187 [some (.ref 4), some (.ref x1), some (.ref x2), some (.int (iz x3)), some (.int (iz x4)), some (.int (iz x5)), some (.int (iz 1)), some (.int (iz x7)), none, none] [] (SS m50 J51 P52) (QI post))))) ∧ (¬ (x6 = 0) → Zr (m 2 4) ∧ (((¬ (m 2 4) = 1) → Ci X (d + 3) 31 [.ref 4, .ref x1, .ref x2, .int (iz x4), .int (iz x3)] m J P (fun z59 m56 J57 P58 => PP P58 ∧ Zr (z59) ∧ (((¬ z59 = 0) → Rn X (d + 4) 30 103 [some (.ref 4), some (.ref x1), some (.ref x2), some (.int (iz x3)), some (.int (iz x4)), some (.int (iz x5)), some (.int (iz x6)), some (.int (iz x7)), some (.int (iz (m x2 6))), some (.int (iz 0))] [] (SS m56 J57 P58) (QI post)) ∧ (¬ (¬ z59 = 0) → post 0 m56 J57 P58)))) ∧ (¬ (¬ (m 2 4) = 1) → Ci X (d + 3) 31 [.ref 4, .ref x1, .ref x2, .int (iz x4), .int (iz x3)] m J P (fun z65 m62 J63 P64 => PP P64 ∧ Zr (z65) ∧ (((¬ z65 = 0) → Zr (m62 2 4) ∧ (((¬ (m62 2 4) = 4) → Rn X (d + 4) 30 103 [some (.ref 4), some (.ref x1), some (.ref x2), some (.int (iz x3)), some (.int (iz x4)), some (.int (iz x5)), some (.int (iz x6)), some (.int (iz x7)), some (.int (iz (m x2 6))), some (.int (iz 1))] [] (SS m62 J63 P64) (QI post)) ∧ (¬ (¬ (m62 2 4) = 4) → Zr (x5) ∧ (((40 ≤ x5) → Rn X (d + 4) 30 103 [some (.ref 4), some (.ref x1), some (.ref x2), some (.int (iz x3)), some (.int (iz x4)), some (.int (iz x5)), some (.int (iz x6)), some (.int (iz x7)), some (.int (iz (m x2 6))), some (.int (iz 1))] [] (SS m62 J63 P64) (QI post)) ∧ (¬ (40 ≤ x5) → ((0 : Int) ≤ x5 ∧ (x5 : Int) < 40) ∧ Cv X (d + 3) 19 [.ref 2] (mu m62 7 x5.toNat (m x2 6)) J63 P64 (fun m71 J72 P73 => PP P73 ∧ Rn X (d + 4) 30 130 [some (.ref 4), some (.ref x1), some (.ref x2), some (.int (iz x3)), some (.int (iz x4)), some (.int (iz (x5 + 1))), some (.int (iz 1)), some (.int (iz x7)), some (.int (iz (m x2 6))), some (.int (iz 1))] [] (SS m71 J72 P73) (QI post))))))) ∧ (¬ (¬ z65 = 0) → post 0 m62 J63 P64)))))))))))))) : Rn X (d + 4) 30 15 [some (.ref 4), some (.ref x1), some (.ref x2), some (.int (iz x3)), some (.int (iz x4)), some (.int (iz x5)), some (.int (iz x6)), some (.int (iz x7)), none, none] [] (SS m J P) (QI post) := by
  refine s_iload (pc := 15) rfl rfl ?_
  refine s_sipush (pc := 17) rfl (by decide) ?_
  obtain ⟨hz1, hw⟩ := hw
  refine s_ic_gt (pc := 20) (tgt := 193) rfl rfl hz1 (by decide) (fun hc => ?_) (fun hc => ?_)
  · replace hw := hw.1 hc
    refine s_iconst (pc := 193) rfl ?_
    exact s_retz (pc := 194) rfl rfl (by decide) hw
  · replace hw := hw.2 hc
    refine s_iload (pc := 23) rfl rfl ?_
    obtain ⟨hz2, hw⟩ := hw
    refine s_if_ne (pc := 25) (tgt := 33) rfl rfl hz2 (fun hc => ?_) (fun hc => ?_)
    · replace hw := hw.1 hc
      refine s_iload (pc := 33) rfl rfl ?_
      obtain ⟨hz3, hw⟩ := hw
      refine s_if_eq (pc := 35) (tgt := 133) rfl rfl hz3 (fun hc => ?_) (fun hc => ?_)
      · replace hw := hw.1 hc
        refine s_aload_n (pc := 133) rfl rfl ?_
        refine s_getA (pc := 134) rfl ko_4 (po_4_0 hp) ?_
        refine s_getI (pc := 137) rfl ko_2 ?_
        refine s_bipush (pc := 140) rfl (by decide) ?_
        obtain ⟨hz4, hw⟩ := hw
        refine s_ic_ne (pc := 142) (tgt := 158) rfl rfl hz4 (by decide) (fun hc => ?_) (fun hc => ?_)
        · replace hw := hw.1 hc
          refine s_aload_n (pc := 158) rfl rfl ?_
          refine s_iconst (pc := 159) rfl ?_
          refine s_ci (pc := 160) (d := (d + 3)) (t := []) rfl rfl (am_ca_v (ps := [.int (iz 5)]) rfl ko_4) (Nat.le_of_ble_eq_true rfl) (Ci.weak hw fun z8 m5 J6 P7 hw => ?_)
          obtain ⟨hp9, hw⟩ := hw
          obtain ⟨hz10, hw⟩ := hw
          refine s_if_ne (pc := 163) (tgt := 168) rfl rfl hz10 (fun hc => ?_) (fun hc => ?_)
          · replace hw := hw.1 hc
            refine s_iinc (pc := 168) (L' := [some (.ref 4), some (.ref x1), some (.ref x2), some (.int (iz x3)), some (.int (iz x4)), some (.int (iz (x5 + (-1)))), some (.int (iz x6)), some (.int (iz x7)), none, none]) rfl rfl (Nat.le_of_ble_eq_true rfl) rfl ?_
            refine s_aload_n (pc := 171) rfl rfl ?_
            refine s_getA (pc := 172) rfl kx2 (pc_8_1 hp9 kx2) ?_
            refine s_aload_n (pc := 175) rfl rfl ?_
            refine s_getA (pc := 176) rfl ko_4 (po_4_2 hp9) ?_
            refine s_iload (pc := 179) rfl rfl ?_
            obtain ⟨hb11, hw⟩ := hw
            refine s_iald (pc := 181) rfl ka_7 (by decide) hb11 ?_
            refine s_aload_n (pc := 182) rfl rfl ?_
            refine s_getI (pc := 183) rfl kx2 ?_
            obtain ⟨hb12, hw⟩ := hw
            refine s_iast (pc := 186) rfl (kc_8_1 kx2) (by decide) hb12 ?_
            exact hw
          · replace hw := hw.2 hc
            refine s_iconst (pc := 166) rfl ?_
            exact s_retz (pc := 167) rfl rfl (by decide) hw
        · replace hw := hw.2 hc
          refine s_iconst (pc := 145) rfl ?_
          refine s_istore (pc := 146) (L' := [some (.ref 4), some (.ref x1), some (.ref x2), some (.int (iz x3)), some (.int (iz x4)), some (.int (iz x5)), some (.int (iz 1)), some (.int (iz x7)), none, none]) rfl (Nat.le_of_ble_eq_true rfl) rfl ?_
          refine s_aload_n (pc := 148) rfl rfl ?_
          refine s_getA (pc := 149) rfl ko_4 (po_4_0 hp) ?_
          refine s_cv (pc := 152) (d := (d + 3)) (t := []) rfl rfl (am_ca_v (ps := []) rfl ko_2) (Nat.le_of_ble_eq_true rfl) (Cv.weak hw fun m13 J14 P15 hw => ?_)
          obtain ⟨hp17, hw⟩ := hw
          refine s_goto (pc := 155) (tgt := 187) rfl rfl ?_
          exact hw
      · replace hw := hw.2 hc
        refine s_aload_n (pc := 38) rfl rfl ?_
        refine s_getI (pc := 39) rfl kx2 ?_
        refine s_istore (pc := 42) (L' := [some (.ref 4), some (.ref x1), some (.ref x2), some (.int (iz x3)), some (.int (iz x4)), some (.int (iz x5)), some (.int (iz x6)), some (.int (iz x7)), some (.int (iz (m x2 6))), none]) rfl (Nat.le_of_ble_eq_true rfl) rfl ?_
        refine s_aload_n (pc := 44) rfl rfl ?_
        refine s_getA (pc := 45) rfl ko_4 (po_4_0 hp) ?_
        refine s_getI (pc := 48) rfl ko_2 ?_
        refine s_iconst (pc := 51) rfl ?_
        obtain ⟨hz18, hw⟩ := hw
        refine s_ic_ne (pc := 52) (tgt := 59) rfl rfl hz18 (by decide) (fun hc => ?_) (fun hc => ?_)
        · replace hw := hw.1 hc
          refine s_iconst (pc := 59) rfl ?_
          refine s_istore (pc := 60) (L' := [some (.ref 4), some (.ref x1), some (.ref x2), some (.int (iz x3)), some (.int (iz x4)), some (.int (iz x5)), some (.int (iz x6)), some (.int (iz x7)), some (.int (iz (m x2 6))), some (.int (iz 0))]) rfl (Nat.le_of_ble_eq_true rfl) rfl ?_
          refine s_aload_n (pc := 62) rfl rfl ?_
          refine s_aload_n (pc := 63) rfl rfl ?_
          refine s_aload_n (pc := 64) rfl rfl ?_
          refine s_iload (pc := 65) rfl rfl ?_
          refine s_iload_n (pc := 67) rfl rfl ?_
          refine s_ci (pc := 68) (d := (d + 3)) (t := []) rfl rfl (am_ca_v (ps := [.int (iz x3), .int (iz x4), .ref x2, .ref x1]) rfl ko_4) (Nat.le_of_ble_eq_true rfl) (Ci.weak hw fun z22 m19 J20 P21 hw => ?_)
          obtain ⟨hp23, hw⟩ := hw
          obtain ⟨hz24, hw⟩ := hw
          refine s_if_ne (pc := 71) (tgt := 76) rfl rfl hz24 (fun hc => ?_) (fun hc => ?_)
          · replace hw := hw.1 hc
            refine s_iload (pc := 76) rfl rfl ?_
            refine s_if_eq (pc := 78) (tgt := 103) rfl rfl (by decide) (fun hc => ?_) (fun hc => ?_)
            rotate_left
            · exact absurd hc (by decide)
            exact hw
          · replace hw := hw.2 hc
            refine s_iconst (pc := 74) rfl ?_
            exact s_retz (pc := 75) rfl rfl (by decide) hw
        · replace hw := hw.2 hc
          refine s_iconst (pc := 55) rfl ?_
          refine s_goto (pc := 56) (tgt := 60) rfl rfl ?_
          refine s_istore (pc := 60) (L' := [some (.ref 4), some (.ref x1), some (.ref x2), some (.int (iz x3)), some (.int (iz x4)), some (.int (iz x5)), some (.int (iz x6)), some (.int (iz x7)), some (.int (iz (m x2 6))), some (.int (iz 1))]) rfl (Nat.le_of_ble_eq_true rfl) rfl ?_
          refine s_aload_n (pc := 62) rfl rfl ?_
          refine s_aload_n (pc := 63) rfl rfl ?_
          refine s_aload_n (pc := 64) rfl rfl ?_
          refine s_iload (pc := 65) rfl rfl ?_
          refine s_iload_n (pc := 67) rfl rfl ?_
          refine s_ci (pc := 68) (d := (d + 3)) (t := []) rfl rfl (am_ca_v (ps := [.int (iz x3), .int (iz x4), .ref x2, .ref x1]) rfl ko_4) (Nat.le_of_ble_eq_true rfl) (Ci.weak hw fun z28 m25 J26 P27 hw => ?_)
          obtain ⟨hp29, hw⟩ := hw
          obtain ⟨hz30, hw⟩ := hw
          refine s_if_ne (pc := 71) (tgt := 76) rfl rfl hz30 (fun hc => ?_) (fun hc => ?_)
          · replace hw := hw.1 hc
            refine s_iload (pc := 76) rfl rfl ?_
            refine s_if_eq (pc := 78) (tgt := 103) rfl rfl (by decide) (fun hc => ?_) (fun hc => ?_)
            · exact absurd hc (by decide)
            refine s_aload_n (pc := 81) rfl rfl ?_
            refine s_getA (pc := 82) rfl ko_4 (po_4_0 hp29) ?_
            refine s_getI (pc := 85) rfl ko_2 ?_
            refine s_iconst (pc := 88) rfl ?_
            obtain ⟨hz31, hw⟩ := hw
            refine s_ic_ne (pc := 89) (tgt := 103) rfl rfl hz31 (by decide) (fun hc => ?_) (fun hc => ?_)
            · replace hw := hw.1 hc
              exact hw
            · replace hw := hw.2 hc
              refine s_iload (pc := 92) rfl rfl ?_
              refine s_bipush (pc := 94) rfl (by decide) ?_
              obtain ⟨hz32, hw⟩ := hw
              refine s_ic_ge (pc := 96) (tgt := 103) rfl rfl hz32 (by decide) (fun hc => ?_) (fun hc => ?_)
              · replace hw := hw.1 hc
                exact hw
              · replace hw := hw.2 hc
                refine s_iconst (pc := 99) rfl ?_
                refine s_goto (pc := 100) (tgt := 104) rfl rfl ?_
                refine s_istore (pc := 104) (L' := [some (.ref 4), some (.ref x1), some (.ref x2), some (.int (iz x3)), some (.int (iz x4)), some (.int (iz x5)), some (.int (iz 1)), some (.int (iz x7)), some (.int (iz (m x2 6))), some (.int (iz 1))]) rfl (Nat.le_of_ble_eq_true rfl) rfl ?_
                refine s_iload (pc := 106) rfl rfl ?_
                refine s_if_eq (pc := 108) (tgt := 130) rfl rfl (by decide) (fun hc => ?_) (fun hc => ?_)
                · exact absurd hc (by decide)
                refine s_aload_n (pc := 111) rfl rfl ?_
                refine s_getA (pc := 112) rfl ko_4 (po_4_2 hp29) ?_
                refine s_iload (pc := 115) rfl rfl ?_
                refine s_iload (pc := 117) rfl rfl ?_
                obtain ⟨hb33, hw⟩ := hw
                refine s_iast (pc := 119) rfl ka_7 (by decide) hb33 ?_
                refine s_iinc (pc := 120) (L' := [some (.ref 4), some (.ref x1), some (.ref x2), some (.int (iz x3)), some (.int (iz x4)), some (.int (iz (x5 + 1))), some (.int (iz 1)), some (.int (iz x7)), some (.int (iz (m x2 6))), some (.int (iz 1))]) rfl rfl (Nat.le_of_ble_eq_true rfl) rfl ?_
                refine s_aload_n (pc := 123) rfl rfl ?_
                refine s_getA (pc := 124) rfl ko_4 (po_4_0 hp29) ?_
                refine s_cv (pc := 127) (d := (d + 3)) (t := []) rfl rfl (am_ca_v (ps := []) rfl ko_2) (Nat.le_of_ble_eq_true rfl) (Cv.weak hw fun m34 J35 P36 hw => ?_)
                obtain ⟨hp38, hw⟩ := hw
                exact hw
          · replace hw := hw.2 hc
            refine s_iconst (pc := 74) rfl ?_
            exact s_retz (pc := 75) rfl rfl (by decide) hw
    · replace hw := hw.2 hc
      refine s_iload (pc := 28) rfl rfl ?_
      obtain ⟨hz39, hw⟩ := hw
      refine s_if_le (pc := 30) (tgt := 193) rfl rfl hz39 (fun hc => ?_) (fun hc => ?_)
      · replace hw := hw.1 hc
        refine s_iconst (pc := 193) rfl ?_
        exact s_retz (pc := 194) rfl rfl (by decide) hw
      · replace hw := hw.2 hc
        refine s_iload (pc := 33) rfl rfl ?_
        obtain ⟨hz40, hw⟩ := hw
        refine s_if_eq (pc := 35) (tgt := 133) rfl rfl hz40 (fun hc => ?_) (fun hc => ?_)
        · replace hw := hw.1 hc
          refine s_aload_n (pc := 133) rfl rfl ?_
          refine s_getA (pc := 134) rfl ko_4 (po_4_0 hp) ?_
          refine s_getI (pc := 137) rfl ko_2 ?_
          refine s_bipush (pc := 140) rfl (by decide) ?_
          obtain ⟨hz41, hw⟩ := hw
          refine s_ic_ne (pc := 142) (tgt := 158) rfl rfl hz41 (by decide) (fun hc => ?_) (fun hc => ?_)
          · replace hw := hw.1 hc
            refine s_aload_n (pc := 158) rfl rfl ?_
            refine s_iconst (pc := 159) rfl ?_
            refine s_ci (pc := 160) (d := (d + 3)) (t := []) rfl rfl (am_ca_v (ps := [.int (iz 5)]) rfl ko_4) (Nat.le_of_ble_eq_true rfl) (Ci.weak hw fun z45 m42 J43 P44 hw => ?_)
            obtain ⟨hp46, hw⟩ := hw
            obtain ⟨hz47, hw⟩ := hw
            refine s_if_ne (pc := 163) (tgt := 168) rfl rfl hz47 (fun hc => ?_) (fun hc => ?_)
            · replace hw := hw.1 hc
              refine s_iinc (pc := 168) (L' := [some (.ref 4), some (.ref x1), some (.ref x2), some (.int (iz x3)), some (.int (iz x4)), some (.int (iz (x5 + (-1)))), some (.int (iz x6)), some (.int (iz x7)), none, none]) rfl rfl (Nat.le_of_ble_eq_true rfl) rfl ?_
              refine s_aload_n (pc := 171) rfl rfl ?_
              refine s_getA (pc := 172) rfl kx2 (pc_8_1 hp46 kx2) ?_
              refine s_aload_n (pc := 175) rfl rfl ?_
              refine s_getA (pc := 176) rfl ko_4 (po_4_2 hp46) ?_
              refine s_iload (pc := 179) rfl rfl ?_
              obtain ⟨hb48, hw⟩ := hw
              refine s_iald (pc := 181) rfl ka_7 (by decide) hb48 ?_
              refine s_aload_n (pc := 182) rfl rfl ?_
              refine s_getI (pc := 183) rfl kx2 ?_
              obtain ⟨hb49, hw⟩ := hw
              refine s_iast (pc := 186) rfl (kc_8_1 kx2) (by decide) hb49 ?_
              exact hw
            · replace hw := hw.2 hc
              refine s_iconst (pc := 166) rfl ?_
              exact s_retz (pc := 167) rfl rfl (by decide) hw
          · replace hw := hw.2 hc
            refine s_iconst (pc := 145) rfl ?_
            refine s_istore (pc := 146) (L' := [some (.ref 4), some (.ref x1), some (.ref x2), some (.int (iz x3)), some (.int (iz x4)), some (.int (iz x5)), some (.int (iz 1)), some (.int (iz x7)), none, none]) rfl (Nat.le_of_ble_eq_true rfl) rfl ?_
            refine s_aload_n (pc := 148) rfl rfl ?_
            refine s_getA (pc := 149) rfl ko_4 (po_4_0 hp) ?_
            refine s_cv (pc := 152) (d := (d + 3)) (t := []) rfl rfl (am_ca_v (ps := []) rfl ko_2) (Nat.le_of_ble_eq_true rfl) (Cv.weak hw fun m50 J51 P52 hw => ?_)
            obtain ⟨hp54, hw⟩ := hw
            refine s_goto (pc := 155) (tgt := 187) rfl rfl ?_
            exact hw
        · replace hw := hw.2 hc
          refine s_aload_n (pc := 38) rfl rfl ?_
          refine s_getI (pc := 39) rfl kx2 ?_
          refine s_istore (pc := 42) (L' := [some (.ref 4), some (.ref x1), some (.ref x2), some (.int (iz x3)), some (.int (iz x4)), some (.int (iz x5)), some (.int (iz x6)), some (.int (iz x7)), some (.int (iz (m x2 6))), none]) rfl (Nat.le_of_ble_eq_true rfl) rfl ?_
          refine s_aload_n (pc := 44) rfl rfl ?_
          refine s_getA (pc := 45) rfl ko_4 (po_4_0 hp) ?_
          refine s_getI (pc := 48) rfl ko_2 ?_
          refine s_iconst (pc := 51) rfl ?_
          obtain ⟨hz55, hw⟩ := hw
          refine s_ic_ne (pc := 52) (tgt := 59) rfl rfl hz55 (by decide) (fun hc => ?_) (fun hc => ?_)
          · replace hw := hw.1 hc
            refine s_iconst (pc := 59) rfl ?_
            refine s_istore (pc := 60) (L' := [some (.ref 4), some (.ref x1), some (.ref x2), some (.int (iz x3)), some (.int (iz x4)), some (.int (iz x5)), some (.int (iz x6)), some (.int (iz x7)), some (.int (iz (m x2 6))), some (.int (iz 0))]) rfl (Nat.le_of_ble_eq_true rfl) rfl ?_
            refine s_aload_n (pc := 62) rfl rfl ?_
            refine s_aload_n (pc := 63) rfl rfl ?_
            refine s_aload_n (pc := 64) rfl rfl ?_
            refine s_iload (pc := 65) rfl rfl ?_
            refine s_iload_n (pc := 67) rfl rfl ?_
            refine s_ci (pc := 68) (d := (d + 3)) (t := []) rfl rfl (am_ca_v (ps := [.int (iz x3), .int (iz x4), .ref x2, .ref x1]) rfl ko_4) (Nat.le_of_ble_eq_true rfl) (Ci.weak hw fun z59 m56 J57 P58 hw => ?_)
            obtain ⟨hp60, hw⟩ := hw
            obtain ⟨hz61, hw⟩ := hw
            refine s_if_ne (pc := 71) (tgt := 76) rfl rfl hz61 (fun hc => ?_) (fun hc => ?_)
            · replace hw := hw.1 hc
              refine s_iload (pc := 76) rfl rfl ?_
              refine s_if_eq (pc := 78) (tgt := 103) rfl rfl (by decide) (fun hc => ?_) (fun hc => ?_)
              rotate_left
              · exact absurd hc (by decide)
              exact hw
            · replace hw := hw.2 hc
              refine s_iconst (pc := 74) rfl ?_
              exact s_retz (pc := 75) rfl rfl (by decide) hw
          · replace hw := hw.2 hc
            refine s_iconst (pc := 55) rfl ?_
            refine s_goto (pc := 56) (tgt := 60) rfl rfl ?_
            refine s_istore (pc := 60) (L' := [some (.ref 4), some (.ref x1), some (.ref x2), some (.int (iz x3)), some (.int (iz x4)), some (.int (iz x5)), some (.int (iz x6)), some (.int (iz x7)), some (.int (iz (m x2 6))), some (.int (iz 1))]) rfl (Nat.le_of_ble_eq_true rfl) rfl ?_
            refine s_aload_n (pc := 62) rfl rfl ?_
            refine s_aload_n (pc := 63) rfl rfl ?_
            refine s_aload_n (pc := 64) rfl rfl ?_
            refine s_iload (pc := 65) rfl rfl ?_
            refine s_iload_n (pc := 67) rfl rfl ?_
            refine s_ci (pc := 68) (d := (d + 3)) (t := []) rfl rfl (am_ca_v (ps := [.int (iz x3), .int (iz x4), .ref x2, .ref x1]) rfl ko_4) (Nat.le_of_ble_eq_true rfl) (Ci.weak hw fun z65 m62 J63 P64 hw => ?_)
            obtain ⟨hp66, hw⟩ := hw
            obtain ⟨hz67, hw⟩ := hw
            refine s_if_ne (pc := 71) (tgt := 76) rfl rfl hz67 (fun hc => ?_) (fun hc => ?_)
            · replace hw := hw.1 hc
              refine s_iload (pc := 76) rfl rfl ?_
              refine s_if_eq (pc := 78) (tgt := 103) rfl rfl (by decide) (fun hc => ?_) (fun hc => ?_)
              · exact absurd hc (by decide)
              refine s_aload_n (pc := 81) rfl rfl ?_
              refine s_getA (pc := 82) rfl ko_4 (po_4_0 hp66) ?_
              refine s_getI (pc := 85) rfl ko_2 ?_
              refine s_iconst (pc := 88) rfl ?_
              obtain ⟨hz68, hw⟩ := hw
              refine s_ic_ne (pc := 89) (tgt := 103) rfl rfl hz68 (by decide) (fun hc => ?_) (fun hc => ?_)
              · replace hw := hw.1 hc
                exact hw
              · replace hw := hw.2 hc
                refine s_iload (pc := 92) rfl rfl ?_
                refine s_bipush (pc := 94) rfl (by decide) ?_
                obtain ⟨hz69, hw⟩ := hw
                refine s_ic_ge (pc := 96) (tgt := 103) rfl rfl hz69 (by decide) (fun hc => ?_) (fun hc => ?_)
                · replace hw := hw.1 hc
                  exact hw
                · replace hw := hw.2 hc
                  refine s_iconst (pc := 99) rfl ?_
                  refine s_goto (pc := 100) (tgt := 104) rfl rfl ?_
                  refine s_istore (pc := 104) (L' := [some (.ref 4), some (.ref x1), some (.ref x2), some (.int (iz x3)), some (.int (iz x4)), some (.int (iz x5)), some (.int (iz 1)), some (.int (iz x7)), some (.int (iz (m x2 6))), some (.int (iz 1))]) rfl (Nat.le_of_ble_eq_true rfl) rfl ?_
                  refine s_iload (pc := 106) rfl rfl ?_
                  refine s_if_eq (pc := 108) (tgt := 130) rfl rfl (by decide) (fun hc => ?_) (fun hc => ?_)
                  · exact absurd hc (by decide)
                  refine s_aload_n (pc := 111) rfl rfl ?_
                  refine s_getA (pc := 112) rfl ko_4 (po_4_2 hp66) ?_
                  refine s_iload (pc := 115) rfl rfl ?_
                  refine s_iload (pc := 117) rfl rfl ?_
                  obtain ⟨hb70, hw⟩ := hw
                  refine s_iast (pc := 119) rfl ka_7 (by decide) hb70 ?_
                  refine s_iinc (pc := 120) (L' := [some (.ref 4), some (.ref x1), some (.ref x2), some (.int (iz x3)), some (.int (iz x4)), some (.int (iz (x5 + 1))), some (.int (iz 1)), some (.int (iz x7)), some (.int (iz (m x2 6))), some (.int (iz 1))]) rfl rfl (Nat.le_of_ble_eq_true rfl) rfl ?_
                  refine s_aload_n (pc := 123) rfl rfl ?_
                  refine s_getA (pc := 124) rfl ko_4 (po_4_0 hp66) ?_
                  refine s_cv (pc := 127) (d := (d + 3)) (t := []) rfl rfl (am_ca_v (ps := []) rfl ko_2) (Nat.le_of_ble_eq_true rfl) (Cv.weak hw fun m71 J72 P73 hw => ?_)
                  obtain ⟨hp75, hw⟩ := hw
                  exact hw
            · replace hw := hw.2 hc
              refine s_iconst (pc := 74) rfl ?_
              exact s_retz (pc := 75) rfl rfl (by decide) hw

set_option maxRecDepth 20000 in
set_option maxHeartbeats 4000000 in
theorem b_Reader_readSide_103 {X : aX} {d : Nat} (x1 : Nat) (x2 : Nat) (x3 : Int) (x4 : Int) (x5 : Int) (x6 : Int) (x7 : Int) (x8 : Int) (x9 : Int) (kx1 : am_kd an_K x1 = some (.inl 10)) (kx2 : am_kd an_K x2 = some (.inl 8)) (m : Mi) (J : Mj) (P : Mp) (hp : PP P) (post : Int → Mi → Mj → Mp → Prop)
    (hw : Rn X (d + 4) 30 130 [some (.ref 4), some (.ref x1), some (.ref x2), some (.int (iz x3)), some (.int (iz x4)), some (.int (iz x5)), some (.int (iz 0)), some (.int (iz x7)), some (.int (iz x8)), some (.int (iz x9))] [] (SS m J P) (QI post)) : Rn X (d + 4) 30 103 [some (.ref 4), some (.ref x1), some (.ref x2), some (.int (iz x3)), some (.int (iz x4)), some (.int (iz x5)), some (.int (iz x6)), some (.int (iz x7)), some (.int (iz x8)), some (.int (iz x9))] [] (SS m J P) (QI post) := by
  refine s_iconst (pc := 103) rfl ?_
  refine s_istore (pc := 104) (L' := [some (.ref 4), some (.ref x1), some (.ref x2), some (.int (iz x3)), some (.int (iz x4)), some (.int (iz x5)), some (.int (iz 0)), some (.int (iz x7)), some (.int (iz x8)), some (.int (iz x9))]) rfl (Nat.le_of_ble_eq_true rfl) rfl ?_
  refine s_iload (pc := 106) rfl rfl ?_
  refine s_if_eq (pc := 108) (tgt := 130) rfl rfl (by decide) (fun hc => ?_) (fun hc => ?_)
  rotate_left
  · exact absurd hc (by decide)
  exact hw

set_option maxRecDepth 20000 in
set_option maxHeartbeats 4000000 in
theorem b_Reader_readSide_130 {X : aX} {d : Nat} (x1 : Nat) (x2 : Nat) (x3 : Int) (x4 : Int) (x5 : Int) (x6 : Int) (x7 : Int) (x8 : Int) (x9 : Int) (kx1 : am_kd an_K x1 = some (.inl 10)) (kx2 : am_kd an_K x2 = some (.inl 8)) (m : Mi) (J : Mj) (P : Mp) (hp : PP P) (post : Int → Mi → Mj → Mp → Prop)
    (hw : Rn X (d + 4) 30 187 [some (.ref 4), some (.ref x1), some (.ref x2), some (.int (iz x3)), some (.int (iz x4)), some (.int (iz x5)), some (.int (iz x6)), some (.int (iz x7)), none, none] [] (SS m J P) (QI post)) : Rn X (d + 4) 30 130 [some (.ref 4), some (.ref x1), some (.ref x2), some (.int (iz x3)), some (.int (iz x4)), some (.int (iz x5)), some (.int (iz x6)), some (.int (iz x7)), some (.int (iz x8)), some (.int (iz x9))] [] (SS m J P) (QI post) := by
  refine s_goto (pc := 130) (tgt := 187) rfl rfl ?_
  exact Rn.weakL hw (LLe.keep _ (LLe.keep _ (LLe.keep _ (LLe.keep _ (LLe.keep _ (LLe.keep _ (LLe.keep _ (LLe.keep _ (LLe.drop _ (LLe.drop _ (LLe.nil)))))))))))

set_option maxRecDepth 20000 in
set_option maxHeartbeats 4000000 in
theorem b_Reader_readSide_187 {X : aX} {d : Nat} (x1 : Nat) (x2 : Nat) (x3 : Int) (x4 : Int) (x5 : Int) (x6 : Int) (x7 : Int) (kx1 : am_kd an_K x1 = some (.inl 10)) (kx2 : am_kd an_K x2 = some (.inl 8)) (m : Mi) (J : Mj) (P : Mp) (hp : PP P) (post : Int → Mi → Mj → Mp → Prop)
    (hw : Rn X (d + 4) 30 15 [some (.ref 4), some (.ref x1), some (.ref x2), some (.int (iz x3)), some (.int (iz x4)), some (.int (iz x5)), some (.int (iz x6)), some (.int (iz (x7 + 1))), none, none] [] (SS m J P) (QI post)) : Rn X (d + 4) 30 187 [some (.ref 4), some (.ref x1), some (.ref x2), some (.int (iz x3)), some (.int (iz x4)), some (.int (iz x5)), some (.int (iz x6)), some (.int (iz x7)), none, none] [] (SS m J P) (QI post) := by
  refine s_iinc (pc := 187) (L' := [some (.ref 4), some (.ref x1), some (.ref x2), some (.int (iz x3)), some (.int (iz x4)), some (.int (iz x5)), some (.int (iz x6)), some (.int (iz (x7 + 1))), none, none]) rfl rfl (Nat.le_of_ble_eq_true rfl) rfl ?_
  refine s_goto (pc := 190) (tgt := 15) rfl rfl ?_
  exact hw

set_option maxRecDepth 20000 in
set_option maxHeartbeats 4000000 in
theorem b_Reader_readHead_0 {X : aX} {d : Nat} (x1 : Nat) (x2 : Nat) (x3 : Int) (x4 : Int) (kx1 : am_kd an_K x1 = some (.inl 10)) (kx2 : am_kd an_K x2 = some (.inl 8)) (m : Mi) (J : Mj) (P : Mp) (hp : PP P) (post : Int → Mi → Mj → Mp → Prop)
    (hw : Zr (m 2 4) ∧ ((((m 2 4) = 2) → Zr ((m x2 6) - x3) ∧ (((((m x2 6) - x3) < 40) → Zr (m 2 4) ∧ (((¬ (m 2 4) = 1) → Ci X (d + 2) 33 [.ref x2, .long (J 2 7), .int (iz x4)] m J P (fun z7 m4 J5 P6 => PP P6 ∧ Zr (z7) ∧ (((¬ z7 = ((-1))) → Cv X (d + 2) 34 [.ref x2, .int (iz (((-1)) - z7)), .int (iz (m4 2 5))] m4 J5 P6 (fun m10 J11 P12 => PP P12 ∧ Cv X (d + 2) 19 [.ref 2] m10 J11 P12 (fun m15 J16 P17 => PP P17 ∧ post 1 m15 J16 P17))) ∧ (¬ (¬ z7 = ((-1))) → Ci X (d + 2) 26 [.ref 4, .int (iz 3), .int (iz (m4 2 5))] m4 J5 P6 (fun z23 m20 J21 P22 => PP P22 ∧ (z23 = 0 ∨ z23 = 1) ∧ post z23 m20 J21 P22))))) ∧ (¬ (¬ (m 2 4) = 1) → Ci X (d + 2) 32 [.ref x1, .long (J 2 7)] m J P (fun z28 m25 J26 P27 => PP P27 ∧ Cv X (d + 2) 34 [.ref x2, .int (iz z28), .int (iz (m25 2 5))] m25 J26 P27 (fun m30 J31 P32 => PP P32 ∧ Cv X (d + 2) 19 [.ref 2] m30 J31 P32 (fun m35 J36 P37 => PP P37 ∧ post 1 m35 J36 P37)))))) ∧ (¬ (((m x2 6) - x3) < 40) → Ci X (d + 2) 26 [.ref 4, .int (iz 3), .int (iz (m 2 5))] m J P (fun z43 m40 J41 P42 => PP P42 ∧ (z43 = 0 ∨ z43 = 1) ∧ post z43 m40 J41 P42)))) ∧ (¬ ((m 2 4) = 2) → Ci X (d + 2) 25 [.ref 4, .int (iz 1)] m J P (fun z48 m45 J46 P47 => PP P47 ∧ Zr (z48) ∧ (((¬ z48 = 0) → Zr ((m45 x2 6) - x3) ∧ (((((m45 x2 6) - x3) < 40) → Zr (m45 2 4) ∧ (((¬ (m45 2 4) = 1) → Ci X (d + 2) 33 [.ref x2, .long (J46 2 7), .int (iz x4)] m45 J46 P47 (fun z56 m53 J54 P55 => PP P55 ∧ Zr (z56) ∧ (((¬ z56 = ((-1))) → Cv X (d + 2) 34 [.ref x2, .int (iz (((-1)) - z56)), .int (iz (m53 2 5))] m53 J54 P55 (fun m59 J60 P61 => PP P61 ∧ Cv X (d + 2) 19 [.ref 2] m59 J60 P61 (fun m64 J65 P66 => PP P66 ∧ post 1 m64 J65 P66))) ∧ (¬ (¬ z56 = ((-1))) → Ci X (d + 2) 26 [.ref 4, .int (iz 3), .int (iz (m53 2 5))] m53 J54 P55 (fun z72 m69 J70 P71 => PP P71 ∧ (z72 = 0 ∨ z72 = 1) ∧ post z72 m69 J70 P71))))) ∧ (¬ (¬ (m45 2 4) = 1) → Ci X (d + 2) 32 [.ref x1, .long (J46 2 7)] m45 J46 P47 (fun z77 m74 J75 P76 => PP P76 ∧ Cv X (d + 2) 34 [.ref x2, .int (iz z77), .int (iz (m74 2 5))] m74 J75 P76 (fun m79 J80 P81 => PP P81 ∧ Cv X (d + 2) 19 [.ref 2] m79 J80 P81 (fun m84 J85 P86 => PP P86 ∧ post 1 m84 J85 P86)))))) ∧ (¬ (((m45 x2 6) - x3) < 40) → Ci X (d + 2) 26 [.ref 4, .int (iz 3), .int (iz (m45 2 5))] m45 J46 P47 (fun z92 m89 J90 P91 => PP P91 ∧ (z92 = 0 ∨ z92 = 1) ∧ post z92 m89 J90 P91)))) ∧ (¬ (¬ z48 = 0) → post 0 m45 J46 P47)))))) : Rn X (d + 3) 31 0 [some (.ref 4), some (.ref x1), some (.ref x2), some (.int (iz x3)), some (.int (iz x4)), none, none] [] (SS m J P) (QI post) := by
  refine s_aload_n (pc := 0) rfl rfl ?_
  refine s_getA (pc := 1) rfl ko_4 (po_4_0 hp) ?_
  refine s_getI (pc := 4) rfl ko_2 ?_
  refine s_iconst (pc := 7) rfl ?_
  obtain ⟨hz1, hw⟩ := hw
  refine s_ic_eq (pc := 8) (tgt := 21) rfl rfl hz1 (by decide) (fun hc => ?_) (fun hc => ?_)
  · replace hw := hw.1 hc
    refine s_aload_n (pc := 21) rfl rfl ?_
    refine s_getI (pc := 22) rfl kx2 ?_
    refine s_iload_n (pc := 25) rfl rfl ?_
    refine s_isub (pc := 26) rfl ?_
    refine s_bipush (pc := 27) rfl (by decide) ?_
    obtain ⟨hz2, hw⟩ := hw
    refine s_ic_lt (pc := 29) (tgt := 45) rfl rfl hz2 (by decide) (fun hc => ?_) (fun hc => ?_)
    · replace hw := hw.1 hc
      refine s_aload_n (pc := 45) rfl rfl ?_
      refine s_getA (pc := 46) rfl ko_4 (po_4_0 hp) ?_
      refine s_getI (pc := 49) rfl ko_2 ?_
      refine s_iconst (pc := 52) rfl ?_
      obtain ⟨hz3, hw⟩ := hw
      refine s_ic_ne (pc := 53) (tgt := 72) rfl rfl hz3 (by decide) (fun hc => ?_) (fun hc => ?_)
      · replace hw := hw.1 hc
        refine s_aload_n (pc := 72) rfl rfl ?_
        refine s_aload_n (pc := 73) rfl rfl ?_
        refine s_getA (pc := 74) rfl ko_4 (po_4_0 hp) ?_
        refine s_getJ (pc := 77) rfl ko_2 ?_
        refine s_iload (pc := 80) rfl rfl ?_
        refine s_ci (pc := 82) (d := (d + 2)) (t := []) rfl rfl (am_ca_v (ps := [.int (iz x4), .long (J 2 7)]) rfl kx2) (Nat.le_of_ble_eq_true rfl) (Ci.weak hw fun z7 m4 J5 P6 hw => ?_)
        obtain ⟨hp8, hw⟩ := hw
        refine s_istore (pc := 85) (L' := [some (.ref 4), some (.ref x1), some (.ref x2), some (.int (iz x3)), some (.int (iz x4)), none, some (.int (iz z7))]) rfl (Nat.le_of_ble_eq_true rfl) rfl ?_
        refine s_iload (pc := 87) rfl rfl ?_
        refine s_iconst (pc := 89) rfl ?_
        obtain ⟨hz9, hw⟩ := hw
        refine s_ic_ne (pc := 90) (tgt := 106) rfl rfl hz9 (by decide) (fun hc => ?_) (fun hc => ?_)
        · replace hw := hw.1 hc
          refine s_iconst (pc := 106) rfl ?_
          refine s_iload (pc := 107) rfl rfl ?_
          refine s_isub (pc := 109) rfl ?_
          refine s_istore (pc := 110) (L' := [some (.ref 4), some (.ref x1), some (.ref x2), some (.int (iz x3)), some (.int (iz x4)), some (.int (iz (((-1)) - z7))), some (.int (iz z7))]) rfl (Nat.le_of_ble_eq_true rfl) rfl ?_
          refine s_aload_n (pc := 112) rfl rfl ?_
          refine s_iload (pc := 113) rfl rfl ?_
          refine s_aload_n (pc := 115) rfl rfl ?_
          refine s_getA (pc := 116) rfl ko_4 (po_4_0 hp8) ?_
          refine s_getI (pc := 119) rfl ko_2 ?_
          refine s_cv (pc := 122) (d := (d + 2)) (t := []) rfl rfl (am_ca_v (ps := [.int (iz (m4 2 5)), .int (iz (((-1)) - z7))]) rfl kx2) (Nat.le_of_ble_eq_true rfl) (Cv.weak hw fun m10 J11 P12 hw => ?_)
          obtain ⟨hp14, hw⟩ := hw
          refine s_aload_n (pc := 125) rfl rfl ?_
          refine s_getA (pc := 126) rfl ko_4 (po_4_0 hp14) ?_
          refine s_cv (pc := 129) (d := (d + 2)) (t := []) rfl rfl (am_ca_v (ps := []) rfl ko_2) (Nat.le_of_ble_eq_true rfl) (Cv.weak hw fun m15 J16 P17 hw => ?_)
          obtain ⟨hp19, hw⟩ := hw
          refine s_iconst (pc := 132) rfl ?_
          exact s_retz (pc := 133) rfl rfl (by decide) hw
        · replace hw := hw.2 hc
          refine s_aload_n (pc := 93) rfl rfl ?_
          refine s_iconst (pc := 94) rfl ?_
          refine s_aload_n (pc := 95) rfl rfl ?_
          refine s_getA (pc := 96) rfl ko_4 (po_4_0 hp8) ?_
          refine s_getI (pc := 99) rfl ko_2 ?_
          refine s_ci (pc := 102) (d := (d + 2)) (t := []) rfl rfl (am_ca_v (ps := [.int (iz (m4 2 5)), .int (iz 3)]) rfl ko_4) (Nat.le_of_ble_eq_true rfl) (Ci.weak hw fun z23 m20 J21 P22 hw => ?_)
          obtain ⟨hp24, hw⟩ := hw
          exact s_retz (pc := 105) rfl rfl hw.1 hw.2
      · replace hw := hw.2 hc
        refine s_aload_n (pc := 56) rfl rfl ?_
        refine s_aload_n (pc := 57) rfl rfl ?_
        refine s_getA (pc := 58) rfl ko_4 (po_4_0 hp) ?_
        refine s_getJ (pc := 61) rfl ko_2 ?_
        refine s_ci (pc := 64) (d := (d + 2)) (t := []) rfl rfl (am_ca_v (ps := [.long (J 2 7)]) rfl kx1) (Nat.le_of_ble_eq_true rfl) (Ci.weak hw fun z28 m25 J26 P27 hw => ?_)
        obtain ⟨hp29, hw⟩ := hw
        refine s_istore (pc := 67) (L' := [some (.ref 4), some (.ref x1), some (.ref x2), some (.int (iz x3)), some (.int (iz x4)), some (.int (iz z28)), none]) rfl (Nat.le_of_ble_eq_true rfl) rfl ?_
        refine s_goto (pc := 69) (tgt := 112) rfl rfl ?_
        refine s_aload_n (pc := 112) rfl rfl ?_
        refine s_iload (pc := 113) rfl rfl ?_
        refine s_aload_n (pc := 115) rfl rfl ?_
        refine s_getA (pc := 116) rfl ko_4 (po_4_0 hp29) ?_
        refine s_getI (pc := 119) rfl ko_2 ?_
        refine s_cv (pc := 122) (d := (d + 2)) (t := []) rfl rfl (am_ca_v (ps := [.int (iz (m25 2 5)), .int (iz z28)]) rfl kx2) (Nat.le_of_ble_eq_true rfl) (Cv.weak hw fun m30 J31 P32 hw => ?_)
        obtain ⟨hp34, hw⟩ := hw
        refine s_aload_n (pc := 125) rfl rfl ?_
        refine s_getA (pc := 126) rfl ko_4 (po_4_0 hp34) ?_
        refine s_cv (pc := 129) (d := (d + 2)) (t := []) rfl rfl (am_ca_v (ps := []) rfl ko_2) (Nat.le_of_ble_eq_true rfl) (Cv.weak hw fun m35 J36 P37 hw => ?_)
        obtain ⟨hp39, hw⟩ := hw
        refine s_iconst (pc := 132) rfl ?_
        exact s_retz (pc := 133) rfl rfl (by decide) hw
    · replace hw := hw.2 hc
      refine s_aload_n (pc := 32) rfl rfl ?_
      refine s_iconst (pc := 33) rfl ?_
      refine s_aload_n (pc := 34) rfl rfl ?_
      refine s_getA (pc := 35) rfl ko_4 (po_4_0 hp) ?_
      refine s_getI (pc := 38) rfl ko_2 ?_
      refine s_ci (pc := 41) (d := (d + 2)) (t := []) rfl rfl (am_ca_v (ps := [.int (iz (m 2 5)), .int (iz 3)]) rfl ko_4) (Nat.le_of_ble_eq_true rfl) (Ci.weak hw fun z43 m40 J41 P42 hw => ?_)
      obtain ⟨hp44, hw⟩ := hw
      exact s_retz (pc := 44) rfl rfl hw.1 hw.2
  · replace hw := hw.2 hc
    refine s_aload_n (pc := 11) rfl rfl ?_
    refine s_iconst (pc := 12) rfl ?_
    refine s_ci (pc := 13) (d := (d + 2)) (t := []) rfl rfl (am_ca_v (ps := [.int (iz 1)]) rfl ko_4) (Nat.le_of_ble_eq_true rfl) (Ci.weak hw fun z48 m45 J46 P47 hw => ?_)
    obtain ⟨hp49, hw⟩ := hw
    obtain ⟨hz50, hw⟩ := hw
    refine s_if_ne (pc := 16) (tgt := 21) rfl rfl hz50 (fun hc => ?_) (fun hc => ?_)
    · replace hw := hw.1 hc
      refine s_aload_n (pc := 21) rfl rfl ?_
      refine s_getI (pc := 22) rfl kx2 ?_
      refine s_iload_n (pc := 25) rfl rfl ?_
      refine s_isub (pc := 26) rfl ?_
      refine s_bipush (pc := 27) rfl (by decide) ?_
      obtain ⟨hz51, hw⟩ := hw
      refine s_ic_lt (pc := 29) (tgt := 45) rfl rfl hz51 (by decide) (fun hc => ?_) (fun hc => ?_)
      · replace hw := hw.1 hc
        refine s_aload_n (pc := 45) rfl rfl ?_
        refine s_getA (pc := 46) rfl ko_4 (po_4_0 hp49) ?_
        refine s_getI (pc := 49) rfl ko_2 ?_
        refine s_iconst (pc := 52) rfl ?_
        obtain ⟨hz52, hw⟩ := hw
        refine s_ic_ne (pc := 53) (tgt := 72) rfl rfl hz52 (by decide) (fun hc => ?_) (fun hc => ?_)
        · replace hw := hw.1 hc
          refine s_aload_n (pc := 72) rfl rfl ?_
          refine s_aload_n (pc := 73) rfl rfl ?_
          refine s_getA (pc := 74) rfl ko_4 (po_4_0 hp49) ?_
          refine s_getJ (pc := 77) rfl ko_2 ?_
          refine s_iload (pc := 80) rfl rfl ?_
          refine s_ci (pc := 82) (d := (d + 2)) (t := []) rfl rfl (am_ca_v (ps := [.int (iz x4), .long (J46 2 7)]) rfl kx2) (Nat.le_of_ble_eq_true rfl) (Ci.weak hw fun z56 m53 J54 P55 hw => ?_)
          obtain ⟨hp57, hw⟩ := hw
          refine s_istore (pc := 85) (L' := [some (.ref 4), some (.ref x1), some (.ref x2), some (.int (iz x3)), some (.int (iz x4)), none, some (.int (iz z56))]) rfl (Nat.le_of_ble_eq_true rfl) rfl ?_
          refine s_iload (pc := 87) rfl rfl ?_
          refine s_iconst (pc := 89) rfl ?_
          obtain ⟨hz58, hw⟩ := hw
          refine s_ic_ne (pc := 90) (tgt := 106) rfl rfl hz58 (by decide) (fun hc => ?_) (fun hc => ?_)
          · replace hw := hw.1 hc
            refine s_iconst (pc := 106) rfl ?_
            refine s_iload (pc := 107) rfl rfl ?_
            refine s_isub (pc := 109) rfl ?_
            refine s_istore (pc := 110) (L' := [some (.ref 4), some (.ref x1), some (.ref x2), some (.int (iz x3)), some (.int (iz x4)), some (.int (iz (((-1)) - z56))), some (.int (iz z56))]) rfl (Nat.le_of_ble_eq_true rfl) rfl ?_
            refine s_aload_n (pc := 112) rfl rfl ?_
            refine s_iload (pc := 113) rfl rfl ?_
            refine s_aload_n (pc := 115) rfl rfl ?_
            refine s_getA (pc := 116) rfl ko_4 (po_4_0 hp57) ?_
            refine s_getI (pc := 119) rfl ko_2 ?_
            refine s_cv (pc := 122) (d := (d + 2)) (t := []) rfl rfl (am_ca_v (ps := [.int (iz (m53 2 5)), .int (iz (((-1)) - z56))]) rfl kx2) (Nat.le_of_ble_eq_true rfl) (Cv.weak hw fun m59 J60 P61 hw => ?_)
            obtain ⟨hp63, hw⟩ := hw
            refine s_aload_n (pc := 125) rfl rfl ?_
            refine s_getA (pc := 126) rfl ko_4 (po_4_0 hp63) ?_
            refine s_cv (pc := 129) (d := (d + 2)) (t := []) rfl rfl (am_ca_v (ps := []) rfl ko_2) (Nat.le_of_ble_eq_true rfl) (Cv.weak hw fun m64 J65 P66 hw => ?_)
            obtain ⟨hp68, hw⟩ := hw
            refine s_iconst (pc := 132) rfl ?_
            exact s_retz (pc := 133) rfl rfl (by decide) hw
          · replace hw := hw.2 hc
            refine s_aload_n (pc := 93) rfl rfl ?_
            refine s_iconst (pc := 94) rfl ?_
            refine s_aload_n (pc := 95) rfl rfl ?_
            refine s_getA (pc := 96) rfl ko_4 (po_4_0 hp57) ?_
            refine s_getI (pc := 99) rfl ko_2 ?_
            refine s_ci (pc := 102) (d := (d + 2)) (t := []) rfl rfl (am_ca_v (ps := [.int (iz (m53 2 5)), .int (iz 3)]) rfl ko_4) (Nat.le_of_ble_eq_true rfl) (Ci.weak hw fun z72 m69 J70 P71 hw => ?_)
            obtain ⟨hp73, hw⟩ := hw
            exact s_retz (pc := 105) rfl rfl hw.1 hw.2
        · replace hw := hw.2 hc
          refine s_aload_n (pc := 56) rfl rfl ?_
          refine s_aload_n (pc := 57) rfl rfl ?_
          refine s_getA (pc := 58) rfl ko_4 (po_4_0 hp49) ?_
          refine s_getJ (pc := 61) rfl ko_2 ?_
          refine s_ci (pc := 64) (d := (d + 2)) (t := []) rfl rfl (am_ca_v (ps := [.long (J46 2 7)]) rfl kx1) (Nat.le_of_ble_eq_true rfl) (Ci.weak hw fun z77 m74 J75 P76 hw => ?_)
          obtain ⟨hp78, hw⟩ := hw
          refine s_istore (pc := 67) (L' := [some (.ref 4), some (.ref x1), some (.ref x2), some (.int (iz x3)), some (.int (iz x4)), some (.int (iz z77)), none]) rfl (Nat.le_of_ble_eq_true rfl) rfl ?_
          refine s_goto (pc := 69) (tgt := 112) rfl rfl ?_
          refine s_aload_n (pc := 112) rfl rfl ?_
          refine s_iload (pc := 113) rfl rfl ?_
          refine s_aload_n (pc := 115) rfl rfl ?_
          refine s_getA (pc := 116) rfl ko_4 (po_4_0 hp78) ?_
          refine s_getI (pc := 119) rfl ko_2 ?_
          refine s_cv (pc := 122) (d := (d + 2)) (t := []) rfl rfl (am_ca_v (ps := [.int (iz (m74 2 5)), .int (iz z77)]) rfl kx2) (Nat.le_of_ble_eq_true rfl) (Cv.weak hw fun m79 J80 P81 hw => ?_)
          obtain ⟨hp83, hw⟩ := hw
          refine s_aload_n (pc := 125) rfl rfl ?_
          refine s_getA (pc := 126) rfl ko_4 (po_4_0 hp83) ?_
          refine s_cv (pc := 129) (d := (d + 2)) (t := []) rfl rfl (am_ca_v (ps := []) rfl ko_2) (Nat.le_of_ble_eq_true rfl) (Cv.weak hw fun m84 J85 P86 hw => ?_)
          obtain ⟨hp88, hw⟩ := hw
          refine s_iconst (pc := 132) rfl ?_
          exact s_retz (pc := 133) rfl rfl (by decide) hw
      · replace hw := hw.2 hc
        refine s_aload_n (pc := 32) rfl rfl ?_
        refine s_iconst (pc := 33) rfl ?_
        refine s_aload_n (pc := 34) rfl rfl ?_
        refine s_getA (pc := 35) rfl ko_4 (po_4_0 hp49) ?_
        refine s_getI (pc := 38) rfl ko_2 ?_
        refine s_ci (pc := 41) (d := (d + 2)) (t := []) rfl rfl (am_ca_v (ps := [.int (iz (m45 2 5)), .int (iz 3)]) rfl ko_4) (Nat.le_of_ble_eq_true rfl) (Ci.weak hw fun z92 m89 J90 P91 hw => ?_)
        obtain ⟨hp93, hw⟩ := hw
        exact s_retz (pc := 44) rfl rfl hw.1 hw.2
    · replace hw := hw.2 hc
      refine s_iconst (pc := 19) rfl ?_
      exact s_retz (pc := 20) rfl rfl (by decide) hw

set_option maxRecDepth 20000 in
set_option maxHeartbeats 4000000 in
theorem b_Book_symbolOf_0 {X : aX} {d : Nat} (x0 : Nat) (x1 : Int64) (kx0 : am_kd an_K x0 = some (.inl 10)) (m : Mi) (J : Mj) (P : Mp) (hp : PP P) (post : Int → Mi → Mj → Mp → Prop)
    (hw : Rn X d 32 2 [some (.ref x0), some (.long x1), none, some (.int (iz 0))] [] (SS m J P) (QI post)) : Rn X d 32 0 [some (.ref x0), some (.long x1), none, none] [] (SS m J P) (QI post) := by
  refine s_iconst (pc := 0) rfl ?_
  refine s_istore_n (pc := 1) (L' := [some (.ref x0), some (.long x1), none, some (.int (iz 0))]) rfl (Nat.le_of_ble_eq_true rfl) rfl ?_
  exact hw

set_option maxRecDepth 20000 in
set_option maxHeartbeats 4000000 in
theorem b_Book_symbolOf_2 {X : aX} {d : Nat} (x0 : Nat) (x1 : Int64) (x3 : Int) (kx0 : am_kd an_K x0 = some (.inl 10)) (m : Mi) (J : Mj) (P : Mp) (hp : PP P) (post : Int → Mi → Mj → Mp → Prop)
    (hw : Zr (x3) ∧ Zr (m x0 4) ∧ ((((m x0 4) ≤ x3) → post 16 m J P) ∧ (¬ ((m x0 4) ≤ x3) → ((0 : Int) ≤ x3 ∧ (x3 : Int) < 16) ∧ Zr (zcmp (J (x0 + 1) x3.toNat) x1) ∧ (((¬ (zcmp (J (x0 + 1) x3.toNat) x1) = 0) → Rn X d 32 2 [some (.ref x0), some (.long x1), none, some (.int (iz (x3 + 1)))] [] (SS m J P) (QI post)) ∧ (¬ (¬ (zcmp (J (x0 + 1) x3.toNat) x1) = 0) → post x3 m J P))))) : Rn X d 32 2 [some (.ref x0), some (.long x1), none, some (.int (iz x3))] [] (SS m J P) (QI post) := by
  refine s_iload_n (pc := 2) rfl rfl ?_
  refine s_aload_n (pc := 3) rfl rfl ?_
  refine s_getI (pc := 4) rfl kx0 ?_
  obtain ⟨hz1, hw⟩ := hw
  obtain ⟨hz2, hw⟩ := hw
  refine s_ic_ge (pc := 7) (tgt := 29) rfl rfl hz1 hz2 (fun hc => ?_) (fun hc => ?_)
  · replace hw := hw.1 hc
    refine s_bipush (pc := 29) rfl (by decide) ?_
    exact s_reti (pc := 31) rfl rfl hw
  · replace hw := hw.2 hc
    refine s_aload_n (pc := 10) rfl rfl ?_
    refine s_getA (pc := 11) rfl kx0 (pc_10_0 hp kx0) ?_
    refine s_iload_n (pc := 14) rfl rfl ?_
    obtain ⟨hb3, hw⟩ := hw
    refine s_lald (pc := 15) rfl (kc_10_0 kx0) (by decide) hb3 ?_
    refine s_lload_n (pc := 16) rfl rfl ?_
    refine s_lcmp (pc := 17) rfl ?_
    obtain ⟨hz4, hw⟩ := hw
    refine s_if_ne (pc := 18) (tgt := 23) rfl rfl hz4 (fun hc => ?_) (fun hc => ?_)
    · replace hw := hw.1 hc
      refine s_iinc (pc := 23) (L' := [some (.ref x0), some (.long x1), none, some (.int (iz (x3 + 1)))]) rfl rfl (Nat.le_of_ble_eq_true rfl) rfl ?_
      refine s_goto (pc := 26) (tgt := 2) rfl rfl ?_
      exact hw
    · replace hw := hw.2 hc
      refine s_iload_n (pc := 21) rfl rfl ?_
      exact s_reti (pc := 22) rfl rfl hw

set_option maxRecDepth 20000 in
set_option maxHeartbeats 4000000 in
theorem b_Equation_variable_0 {X : aX} {d : Nat} (x0 : Nat) (x1 : Int64) (x3 : Int) (kx0 : am_kd an_K x0 = some (.inl 8)) (m : Mi) (J : Mj) (P : Mp) (hp : PP P) (post : Int → Mi → Mj → Mp → Prop)
    (hw : Rn X d 33 3 [some (.ref x0), some (.long x1), none, some (.int (iz x3)), some (.int (iz 0))] [] (SS m J P) (QI post)) : Rn X d 33 0 [some (.ref x0), some (.long x1), none, some (.int (iz x3)), none] [] (SS m J P) (QI post) := by
  refine s_iconst (pc := 0) rfl ?_
  refine s_istore (pc := 1) (L' := [some (.ref x0), some (.long x1), none, some (.int (iz x3)), some (.int (iz 0))]) rfl (Nat.le_of_ble_eq_true rfl) rfl ?_
  exact hw

set_option maxRecDepth 20000 in
set_option maxHeartbeats 4000000 in
theorem b_Equation_variable_3 {X : aX} {d : Nat} (x0 : Nat) (x1 : Int64) (x3 : Int) (x4 : Int) (kx0 : am_kd an_K x0 = some (.inl 8)) (m : Mi) (J : Mj) (P : Mp) (hp : PP P) (post : Int → Mi → Mj → Mp → Prop)
    (hw : Zr (x4) ∧ Zr (m x0 7) ∧ ((((m x0 7) ≤ x4) → Zr (m x0 7) ∧ Zr (x3) ∧ (((x3 ≤ (m x0 7)) → post ((-1)) m J P) ∧ (¬ (x3 ≤ (m x0 7)) → Zr (m x0 7) ∧ ((((m x0 7) < 8) → ((0 : Int) ≤ (m x0 7) ∧ ((m x0 7) : Int) < 8) ∧ post (((mu m x0 7 ((m x0 7) + 1)) x0 7) - 1) (mu m x0 7 ((m x0 7) + 1)) (mju J (x0 + 5) (m x0 7).toNat x1) P) ∧ (¬ ((m x0 7) < 8) → post ((-1)) m J P))))) ∧ (¬ ((m x0 7) ≤ x4) → ((0 : Int) ≤ x4 ∧ (x4 : Int) < 8) ∧ Zr (zcmp (J (x0 + 5) x4.toNat) x1) ∧ (((¬ (zcmp (J (x0 + 5) x4.toNat) x1) = 0) → Rn X d 33 3 [some (.ref x0), some (.long x1), none, some (.int (iz x3)), some (.int (iz (x4 + 1)))] [] (SS m J P) (QI post)) ∧ (¬ (¬ (zcmp (J (x0 + 5) x4.toNat) x1) = 0) → post x4 m J P))))) : Rn X d 33 3 [some (.ref x0), some (.long x1), none, some (.int (iz x3)), some (.int (iz x4))] [] (SS m J P) (QI post) := by
  refine s_iload (pc := 3) rfl rfl ?_
  refine s_aload_n (pc := 5) rfl rfl ?_
  refine s_getI (pc := 6) rfl kx0 ?_
  obtain ⟨hz1, hw⟩ := hw
  obtain ⟨hz2, hw⟩ := hw
  refine s_ic_ge (pc := 9) (tgt := 33) rfl rfl hz1 hz2 (fun hc => ?_) (fun hc => ?_)
  · replace hw := hw.1 hc
    refine s_aload_n (pc := 33) rfl rfl ?_
    refine s_getI (pc := 34) rfl kx0 ?_
    refine s_iload_n (pc := 37) rfl rfl ?_
    obtain ⟨hz3, hw⟩ := hw
    obtain ⟨hz4, hw⟩ := hw
    refine s_ic_ge (pc := 38) (tgt := 50) rfl rfl hz3 hz4 (fun hc => ?_) (fun hc => ?_)
    · replace hw := hw.1 hc
      refine s_iconst (pc := 50) rfl ?_
      exact s_reti (pc := 51) rfl rfl hw
    · replace hw := hw.2 hc
      refine s_aload_n (pc := 41) rfl rfl ?_
      refine s_getI (pc := 42) rfl kx0 ?_
      refine s_bipush (pc := 45) rfl (by decide) ?_
      obtain ⟨hz5, hw⟩ := hw
      refine s_ic_lt (pc := 47) (tgt := 52) rfl rfl hz5 (by decide) (fun hc => ?_) (fun hc => ?_)
      · replace hw := hw.1 hc
        refine s_aload_n (pc := 52) rfl rfl ?_
        refine s_getA (pc := 53) rfl kx0 (pc_8_4 hp kx0) ?_
        refine s_aload_n (pc := 56) rfl rfl ?_
        refine s_getI (pc := 57) rfl kx0 ?_
        refine s_lload_n (pc := 60) rfl rfl ?_
        obtain ⟨hb6, hw⟩ := hw
        refine s_last (pc := 61) rfl (kc_8_4 kx0) (by decide) hb6 ?_
        refine s_aload_n (pc := 62) rfl rfl ?_
        refine s_dup (pc := 63) rfl rfl ?_
        refine s_getI (pc := 64) rfl kx0 ?_
        refine s_iconst (pc := 67) rfl ?_
        refine s_iadd (pc := 68) rfl ?_
        refine s_putI (pc := 69) rfl kx0 ?_
        refine s_aload_n (pc := 72) rfl rfl ?_
        refine s_getI (pc := 73) rfl kx0 ?_
        refine s_iconst (pc := 76) rfl ?_
        refine s_isub (pc := 77) rfl ?_
        exact s_reti (pc := 78) rfl rfl hw
      · replace hw := hw.2 hc
        refine s_iconst (pc := 50) rfl ?_
        exact s_reti (pc := 51) rfl rfl hw
  · replace hw := hw.2 hc
    refine s_aload_n (pc := 12) rfl rfl ?_
    refine s_getA (pc := 13) rfl kx0 (pc_8_4 hp kx0) ?_
    refine s_iload (pc := 16) rfl rfl ?_
    obtain ⟨hb7, hw⟩ := hw
    refine s_lald (pc := 18) rfl (kc_8_4 kx0) (by decide) hb7 ?_
    refine s_lload_n (pc := 19) rfl rfl ?_
    refine s_lcmp (pc := 20) rfl ?_
    obtain ⟨hz8, hw⟩ := hw
    refine s_if_ne (pc := 21) (tgt := 27) rfl rfl hz8 (fun hc => ?_) (fun hc => ?_)
    · replace hw := hw.1 hc
      refine s_iinc (pc := 27) (L' := [some (.ref x0), some (.long x1), none, some (.int (iz x3)), some (.int (iz (x4 + 1)))]) rfl rfl (Nat.le_of_ble_eq_true rfl) rfl ?_
      refine s_goto (pc := 30) (tgt := 3) rfl rfl ?_
      exact hw
    · replace hw := hw.2 hc
      refine s_iload (pc := 24) rfl rfl ?_
      exact s_reti (pc := 26) rfl rfl hw

set_option maxRecDepth 20000 in
set_option maxHeartbeats 4000000 in
theorem b_Equation_add_0 {X : aX} {d : Nat} (x0 : Nat) (x1 : Int) (x2 : Int) (kx0 : am_kd an_K x0 = some (.inl 8)) (m : Mi) (J : Mj) (P : Mp) (hp : PP P) (post : Mi → Mj → Mp → Prop)
    (hw : Zr (m x0 6) ∧ ((((m x0 6) < 80) → ((0 : Int) ≤ (m x0 6) ∧ ((m x0 6) : Int) < 80) ∧ ((0 : Int) ≤ ((mu m (x0 + 1) (m x0 6).toNat x1) x0 6) ∧ (((mu m (x0 + 1) (m x0 6).toNat x1) x0 6) : Int) < 80) ∧ ((0 : Int) ≤ (((mu (mu (mu m (x0 + 1) (m x0 6).toNat x1) (x0 + 3) ((mu m (x0 + 1) (m x0 6).toNat x1) x0 6).toNat x2) x0 6 (((mu (mu m (x0 + 1) (m x0 6).toNat x1) (x0 + 3) ((mu m (x0 + 1) (m x0 6).toNat x1) x0 6).toNat x2) x0 6) + 1)) x0 6) - 1) ∧ ((((mu (mu (mu m (x0 + 1) (m x0 6).toNat x1) (x0 + 3) ((mu m (x0 + 1) (m x0 6).toNat x1) x0 6).toNat x2) x0 6 (((mu (mu m (x0 + 1) (m x0 6).toNat x1) (x0 + 3) ((mu m (x0 + 1) (m x0 6).toNat x1) x0 6).toNat x2) x0 6) + 1)) x0 6) - 1) : Int) < 80) ∧ post (mu (mu (mu (mu m (x0 + 1) (m x0 6).toNat x1) (x0 + 3) ((mu m (x0 + 1) (m x0 6).toNat x1) x0 6).toNat x2) x0 6 (((mu (mu m (x0 + 1) (m x0 6).toNat x1) (x0 + 3) ((mu m (x0 + 1) (m x0 6).toNat x1) x0 6).toNat x2) x0 6) + 1)) (x0 + 2) (((mu (mu (mu m (x0 + 1) (m x0 6).toNat x1) (x0 + 3) ((mu m (x0 + 1) (m x0 6).toNat x1) x0 6).toNat x2) x0 6 (((mu (mu m (x0 + 1) (m x0 6).toNat x1) (x0 + 3) ((mu m (x0 + 1) (m x0 6).toNat x1) x0 6).toNat x2) x0 6) + 1)) x0 6) - 1).toNat ((mu (mu (mu m (x0 + 1) (m x0 6).toNat x1) (x0 + 3) ((mu m (x0 + 1) (m x0 6).toNat x1) x0 6).toNat x2) x0 6 (((mu (mu m (x0 + 1) (m x0 6).toNat x1) (x0 + 3) ((mu m (x0 + 1) (m x0 6).toNat x1) x0 6).toNat x2) x0 6) + 1)) x0 6)) J P) ∧ (¬ ((m x0 6) < 80) → post m J P))) : Rn X d 34 0 [some (.ref x0), some (.int (iz x1)), some (.int (iz x2))] [] (SS m J P) (QV post) := by
  refine s_aload_n (pc := 0) rfl rfl ?_
  refine s_getI (pc := 1) rfl kx0 ?_
  refine s_aload_n (pc := 4) rfl rfl ?_
  refine s_getA (pc := 5) rfl kx0 (pc_8_0 hp kx0) ?_
  refine s_alen (pc := 8) rfl (kc_8_0 kx0) (by decide) ?_
  obtain ⟨hz1, hw⟩ := hw
  refine s_ic_lt (pc := 9) (tgt := 13) rfl rfl hz1 (by decide) (fun hc => ?_) (fun hc => ?_)
  · replace hw := hw.1 hc
    refine s_aload_n (pc := 13) rfl rfl ?_
    refine s_getA (pc := 14) rfl kx0 (pc_8_0 hp kx0) ?_
    refine s_aload_n (pc := 17) rfl rfl ?_
    refine s_getI (pc := 18) rfl kx0 ?_
    refine s_iload_n (pc := 21) rfl rfl ?_
    obtain ⟨hb2, hw⟩ := hw
    refine s_iast (pc := 22) rfl (kc_8_0 kx0) (by decide) hb2 ?_
    refine s_aload_n (pc := 23) rfl rfl ?_
    refine s_getA (pc := 24) rfl kx0 (pc_8_2 hp kx0) ?_
    refine s_aload_n (pc := 27) rfl rfl ?_
    refine s_getI (pc := 28) rfl kx0 ?_
    refine s_iload_n (pc := 31) rfl rfl ?_
    obtain ⟨hb3, hw⟩ := hw
    refine s_iast (pc := 32) rfl (kc_8_2 kx0) (by decide) hb3 ?_
    refine s_aload_n (pc := 33) rfl rfl ?_
    refine s_dup (pc := 34) rfl rfl ?_
    refine s_getI (pc := 35) rfl kx0 ?_
    refine s_iconst (pc := 38) rfl ?_
    refine s_iadd (pc := 39) rfl ?_
    refine s_putI (pc := 40) rfl kx0 ?_
    refine s_aload_n (pc := 43) rfl rfl ?_
    refine s_getA (pc := 44) rfl kx0 (pc_8_1 hp kx0) ?_
    refine s_aload_n (pc := 47) rfl rfl ?_
    refine s_getI (pc := 48) rfl kx0 ?_
    refine s_iconst (pc := 51) rfl ?_
    refine s_isub (pc := 52) rfl ?_
    refine s_aload_n (pc := 53) rfl rfl ?_
    refine s_getI (pc := 54) rfl kx0 ?_
    obtain ⟨hb4, hw⟩ := hw
    refine s_iast (pc := 57) rfl (kc_8_1 kx0) (by decide) hb4 ?_
    exact s_retv (pc := 58) rfl rfl hw
  · replace hw := hw.2 hc
    exact s_retv (pc := 12) rfl rfl hw

set_option maxRecDepth 20000 in
set_option maxHeartbeats 4000000 in
theorem b_Equation_closeLeft_0 {X : aX} {d : Nat} (x0 : Nat) (x1 : Int) (kx0 : am_kd an_K x0 = some (.inl 8)) (m : Mi) (J : Mj) (P : Mp) (hp : PP P) (post : Mi → Mj → Mp → Prop)
    (hw : post (mu (mu (mu m x0 5 (m x0 6)) x0 8 ((mu m x0 5 (m x0 6)) x0 7)) x0 9 x1) J P) : Rn X d 35 0 [some (.ref x0), some (.int (iz x1))] [] (SS m J P) (QV post) := by
  refine s_aload_n (pc := 0) rfl rfl ?_
  refine s_aload_n (pc := 1) rfl rfl ?_
  refine s_getI (pc := 2) rfl kx0 ?_
  refine s_putI (pc := 5) rfl kx0 ?_
  refine s_aload_n (pc := 8) rfl rfl ?_
  refine s_aload_n (pc := 9) rfl rfl ?_
  refine s_getI (pc := 10) rfl kx0 ?_
  refine s_putI (pc := 13) rfl kx0 ?_
  refine s_aload_n (pc := 16) rfl rfl ?_
  refine s_iload_n (pc := 17) rfl rfl ?_
  refine s_putI (pc := 18) rfl kx0 ?_
  exact s_retv (pc := 21) rfl rfl hw

set_option maxRecDepth 20000 in
set_option maxHeartbeats 4000000 in
theorem b_Reader_hasNoMoreRules_0 {X : aX} {d : Nat}   (m : Mi) (J : Mj) (P : Mp) (hp : PP P) (post : Int → Mi → Mj → Mp → Prop)
    (hw : Zr (m 2 4) ∧ (((¬ (m 2 4) = 11) → Ci X (d + 1) 25 [.ref 4, .int (iz 0)] m J P (fun z5 m2 J3 P4 => PP P4 ∧ (z5 = 0 ∨ z5 = 1) ∧ post z5 m2 J3 P4)) ∧ (¬ (¬ (m 2 4) = 11) → Ci X (d + 1) 26 [.ref 4, .int (iz 3), .int (iz (m 2 5))] m J P (fun z10 m7 J8 P9 => PP P9 ∧ (z10 = 0 ∨ z10 = 1) ∧ post z10 m7 J8 P9)))) : Rn X (d + 2) 36 0 [some (.ref 4)] [] (SS m J P) (QI post) := by
  refine s_aload_n (pc := 0) rfl rfl ?_
  refine s_getA (pc := 1) rfl ko_4 (po_4_0 hp) ?_
  refine s_getI (pc := 4) rfl ko_2 ?_
  refine s_bipush (pc := 7) rfl (by decide) ?_
  obtain ⟨hz1, hw⟩ := hw
  refine s_ic_ne (pc := 9) (tgt := 27) rfl rfl hz1 (by decide) (fun hc => ?_) (fun hc => ?_)
  · replace hw := hw.1 hc
    refine s_aload_n (pc := 27) rfl rfl ?_
    refine s_iconst (pc := 28) rfl ?_
    refine s_ci (pc := 29) (d := (d + 1)) (t := []) rfl rfl (am_ca_v (ps := [.int (iz 0)]) rfl ko_4) (Nat.le_of_ble_eq_true rfl) (Ci.weak hw fun z5 m2 J3 P4 hw => ?_)
    obtain ⟨hp6, hw⟩ := hw
    exact s_retz (pc := 32) rfl rfl hw.1 hw.2
  · replace hw := hw.2 hc
    refine s_aload_n (pc := 12) rfl rfl ?_
    refine s_iconst (pc := 13) rfl ?_
    refine s_aload_n (pc := 14) rfl rfl ?_
    refine s_getA (pc := 15) rfl ko_4 (po_4_0 hp) ?_
    refine s_getI (pc := 18) rfl ko_2 ?_
    refine s_ci (pc := 21) (d := (d + 1)) (t := []) rfl rfl (am_ca_v (ps := [.int (iz (m 2 5)), .int (iz 3)]) rfl ko_4) (Nat.le_of_ble_eq_true rfl) (Ci.weak hw fun z10 m7 J8 P9 hw => ?_)
    obtain ⟨hp11, hw⟩ := hw
    refine s_goto (pc := 24) (tgt := 32) rfl rfl ?_
    exact s_retz (pc := 32) rfl rfl hw.1 hw.2

set_option maxRecDepth 20000 in
set_option maxHeartbeats 4000000 in
theorem b_Reader_checkSymbols_0 {X : aX} {d : Nat} (x1 : Nat) (kx1 : am_kd an_K x1 = some (.inl 10)) (m : Mi) (J : Mj) (P : Mp) (hp : PP P) (post : Int → Mi → Mj → Mp → Prop)
    (hw : Rn X (d + 1) 37 2 [some (.ref 4), some (.ref x1), some (.int (iz 0))] [] (SS m J P) (QI post)) : Rn X (d + 1) 37 0 [some (.ref 4), some (.ref x1), none] [] (SS m J P) (QI post) := by
  refine s_iconst (pc := 0) rfl ?_
  refine s_istore_n (pc := 1) (L' := [some (.ref 4), some (.ref x1), some (.int (iz 0))]) rfl (Nat.le_of_ble_eq_true rfl) rfl ?_
  exact hw

set_option maxRecDepth 20000 in
set_option maxHeartbeats 4000000 in
theorem b_Reader_checkSymbols_2 {X : aX} {d : Nat} (x1 : Nat) (x2 : Int) (kx1 : am_kd an_K x1 = some (.inl 10)) (m : Mi) (J : Mj) (P : Mp) (hp : PP P) (post : Int → Mi → Mj → Mp → Prop)
    (hw : Zr (x2) ∧ Zr (m x1 4) ∧ ((((m x1 4) ≤ x2) → post 1 m J P) ∧ (¬ ((m x1 4) ≤ x2) → ((0 : Int) ≤ x2 ∧ (x2 : Int) < 16) ∧ Ci X d 32 [.ref x1, .long (J (x1 + 1) x2.toNat)] m J P (fun z7 m4 J5 P6 => PP P6 ∧ Zr (z7) ∧ Zr (x2) ∧ (((x2 ≤ z7) → Rn X (d + 1) 37 2 [some (.ref 4), some (.ref x1), some (.int (iz (x2 + 1)))] [] (SS m4 J5 P6) (QI post)) ∧ (¬ (x2 ≤ z7) → ((0 : Int) ≤ x2 ∧ (x2 : Int) < 16) ∧ Ci X d 26 [.ref 4, .int (iz 4), .int (iz (m4 (x1 + 3) x2.toNat))] m4 J5 P6 (fun z15 m12 J13 P14 => PP P14 ∧ (z15 = 0 ∨ z15 = 1) ∧ post z15 m12 J13 P14))))))) : Rn X (d + 1) 37 2 [some (.ref 4), some (.ref x1), some (.int (iz x2))] [] (SS m J P) (QI post) := by
  refine s_iload_n (pc := 2) rfl rfl ?_
  refine s_aload_n (pc := 3) rfl rfl ?_
  refine s_getI (pc := 4) rfl kx1 ?_
  obtain ⟨hz1, hw⟩ := hw
  obtain ⟨hz2, hw⟩ := hw
  refine s_ic_ge (pc := 7) (tgt := 42) rfl rfl hz1 hz2 (fun hc => ?_) (fun hc => ?_)
  · replace hw := hw.1 hc
    refine s_iconst (pc := 42) rfl ?_
    exact s_retz (pc := 43) rfl rfl (by decide) hw
  · replace hw := hw.2 hc
    refine s_aload_n (pc := 10) rfl rfl ?_
    refine s_aload_n (pc := 11) rfl rfl ?_
    refine s_getA (pc := 12) rfl kx1 (pc_10_0 hp kx1) ?_
    refine s_iload_n (pc := 15) rfl rfl ?_
    obtain ⟨hb3, hw⟩ := hw
    refine s_lald (pc := 16) rfl (kc_10_0 kx1) (by decide) hb3 ?_
    refine s_ci (pc := 17) (d := d) (t := []) rfl rfl (am_ca_v (ps := [.long (J (x1 + 1) x2.toNat)]) rfl kx1) (Nat.le_of_ble_eq_true rfl) (Ci.weak hw fun z7 m4 J5 P6 hw => ?_)
    obtain ⟨hp8, hw⟩ := hw
    refine s_iload_n (pc := 20) rfl rfl ?_
    obtain ⟨hz9, hw⟩ := hw
    obtain ⟨hz10, hw⟩ := hw
    refine s_ic_ge (pc := 21) (tgt := 36) rfl rfl hz9 hz10 (fun hc => ?_) (fun hc => ?_)
    · replace hw := hw.1 hc
      refine s_iinc (pc := 36) (L' := [some (.ref 4), some (.ref x1), some (.int (iz (x2 + 1)))]) rfl rfl (Nat.le_of_ble_eq_true rfl) rfl ?_
      refine s_goto (pc := 39) (tgt := 2) rfl rfl ?_
      exact hw
    · replace hw := hw.2 hc
      refine s_aload_n (pc := 24) rfl rfl ?_
      refine s_iconst (pc := 25) rfl ?_
      refine s_aload_n (pc := 26) rfl rfl ?_
      refine s_getA (pc := 27) rfl kx1 (pc_10_2 hp8 kx1) ?_
      refine s_iload_n (pc := 30) rfl rfl ?_
      obtain ⟨hb11, hw⟩ := hw
      refine s_iald (pc := 31) rfl (kc_10_2 kx1) (by decide) hb11 ?_
      refine s_ci (pc := 32) (d := d) (t := []) rfl rfl (am_ca_v (ps := [.int (iz (m4 (x1 + 3) x2.toNat)), .int (iz 4)]) rfl ko_4) (Nat.le_of_ble_eq_true rfl) (Ci.weak hw fun z15 m12 J13 P14 hw => ?_)
      obtain ⟨hp16, hw⟩ := hw
      exact s_retz (pc := 35) rfl rfl hw.1 hw.2

set_option maxRecDepth 20000 in
set_option maxHeartbeats 4000000 in
theorem b_Reader_checkNames_0 {X : aX} {d : Nat} (x1 : Nat) (x2 : Nat) (kx1 : am_kd an_K x1 = some (.inl 10)) (kx2 : am_kd an_K x2 = some (.inl 8)) (m : Mi) (J : Mj) (P : Mp) (hp : PP P) (post : Int → Mi → Mj → Mp → Prop)
    (hw : Rn X (d + 1) 38 2 [some (.ref 4), some (.ref x1), some (.ref x2), some (.int (iz 0)), none] [] (SS m J P) (QI post)) : Rn X (d + 1) 38 0 [some (.ref 4), some (.ref x1), some (.ref x2), none, none] [] (SS m J P) (QI post) := by
  refine s_iconst (pc := 0) rfl ?_
  refine s_istore_n (pc := 1) (L' := [some (.ref 4), some (.ref x1), some (.ref x2), some (.int (iz 0)), none]) rfl (Nat.le_of_ble_eq_true rfl) rfl ?_
  exact hw

set_option maxRecDepth 20000 in
set_option maxHeartbeats 4000000 in
theorem b_Reader_checkNames_2 {X : aX} {d : Nat} (x1 : Nat) (x2 : Nat) (x3 : Int) (kx1 : am_kd an_K x1 = some (.inl 10)) (kx2 : am_kd an_K x2 = some (.inl 8)) (m : Mi) (J : Mj) (P : Mp) (hp : PP P) (post : Int → Mi → Mj → Mp → Prop)
    (hw : Zr (x3) ∧ Zr (m x2 6) ∧ ((((m x2 6) ≤ x3) → post 1 m J P) ∧ (¬ ((m x2 6) ≤ x3) → ((0 : Int) ≤ x3 ∧ (x3 : Int) < 80) ∧ Zr (m (x2 + 1) x3.toNat) ∧ (((¬ (m (x2 + 1) x3.toNat) = 16) → Ci X d 39 [.ref x2, .int (iz x3)] m J P (fun z8 m5 J6 P7 => PP P7 ∧ Ci X d 40 [.ref x1, .int (iz (m (x2 + 1) x3.toNat))] m5 J6 P7 (fun z13 m10 J11 P12 => PP P12 ∧ Zr (z8) ∧ Zr (z13) ∧ (((z8 = z13) → Rn X (d + 1) 38 2 [some (.ref 4), some (.ref x1), some (.ref x2), some (.int (iz (x3 + 1))), none] [] (SS m10 J11 P12) (QI post)) ∧ (¬ (z8 = z13) → ((0 : Int) ≤ x3 ∧ (x3 : Int) < 80) ∧ Ci X d 26 [.ref 4, .int (iz 6), .int (iz (m10 (x2 + 3) x3.toNat))] m10 J11 P12 (fun z21 m18 J19 P20 => PP P20 ∧ (z21 = 0 ∨ z21 = 1) ∧ post z21 m18 J19 P20)))))) ∧ (¬ (¬ (m (x2 + 1) x3.toNat) = 16) → ((0 : Int) ≤ x3 ∧ (x3 : Int) < 80) ∧ Ci X d 26 [.ref 4, .int (iz 5), .int (iz (m (x2 + 3) x3.toNat))] m J P (fun z27 m24 J25 P26 => PP P26 ∧ (z27 = 0 ∨ z27 = 1) ∧ post z27 m24 J25 P26)))))) : Rn X (d + 1) 38 2 [some (.ref 4), some (.ref x1), some (.ref x2), some (.int (iz x3)), none] [] (SS m J P) (QI post) := by
  refine s_iload_n (pc := 2) rfl rfl ?_
  refine s_aload_n (pc := 3) rfl rfl ?_
  refine s_getI (pc := 4) rfl kx2 ?_
  obtain ⟨hz1, hw⟩ := hw
  obtain ⟨hz2, hw⟩ := hw
  refine s_ic_ge (pc := 7) (tgt := 70) rfl rfl hz1 hz2 (fun hc => ?_) (fun hc => ?_)
  · replace hw := hw.1 hc
    refine s_iconst (pc := 70) rfl ?_
    exact s_retz (pc := 71) rfl rfl (by decide) hw
  · replace hw := hw.2 hc
    refine s_aload_n (pc := 10) rfl rfl ?_
    refine s_getA (pc := 11) rfl kx2 (pc_8_0 hp kx2) ?_
    refine s_iload_n (pc := 14) rfl rfl ?_
    obtain ⟨hb3, hw⟩ := hw
    refine s_iald (pc := 15) rfl (kc_8_0 kx2) (by decide) hb3 ?_
    refine s_istore (pc := 16) (L' := [some (.ref 4), some (.ref x1), some (.ref x2), some (.int (iz x3)), some (.int (iz (m (x2 + 1) x3.toNat)))]) rfl (Nat.le_of_ble_eq_true rfl) rfl ?_
    refine s_iload (pc := 18) rfl rfl ?_
    refine s_bipush (pc := 20) rfl (by decide) ?_
    obtain ⟨hz4, hw⟩ := hw
    refine s_ic_ne (pc := 22) (tgt := 37) rfl rfl hz4 (by decide) (fun hc => ?_) (fun hc => ?_)
    · replace hw := hw.1 hc
      refine s_aload_n (pc := 37) rfl rfl ?_
      refine s_iload_n (pc := 38) rfl rfl ?_
      refine s_ci (pc := 39) (d := d) (t := []) rfl rfl (am_ca_v (ps := [.int (iz x3)]) rfl kx2) (Nat.le_of_ble_eq_true rfl) (Ci.weak hw fun z8 m5 J6 P7 hw => ?_)
      obtain ⟨hp9, hw⟩ := hw
      refine s_aload_n (pc := 42) rfl rfl ?_
      refine s_iload (pc := 43) rfl rfl ?_
      refine s_ci (pc := 45) (d := d) (t := [.int (iz z8)]) rfl rfl (am_ca_v (ps := [.int (iz (m (x2 + 1) x3.toNat))]) rfl kx1) (Nat.le_of_ble_eq_true rfl) (Ci.weak hw fun z13 m10 J11 P12 hw => ?_)
      obtain ⟨hp14, hw⟩ := hw
      obtain ⟨hz15, hw⟩ := hw
      obtain ⟨hz16, hw⟩ := hw
      refine s_ic_eq (pc := 48) (tgt := 64) rfl rfl hz15 hz16 (fun hc => ?_) (fun hc => ?_)
      · replace hw := hw.1 hc
        refine s_iinc (pc := 64) (L' := [some (.ref 4), some (.ref x1), some (.ref x2), some (.int (iz (x3 + 1))), some (.int (iz (m (x2 + 1) x3.toNat)))]) rfl rfl (Nat.le_of_ble_eq_true rfl) rfl ?_
        refine s_goto (pc := 67) (tgt := 2) rfl rfl ?_
        exact Rn.weakL hw (LLe.keep _ (LLe.keep _ (LLe.keep _ (LLe.keep _ (LLe.drop _ (LLe.nil))))))
      · replace hw := hw.2 hc
        refine s_aload_n (pc := 51) rfl rfl ?_
        refine s_bipush (pc := 52) rfl (by decide) ?_
        refine s_aload_n (pc := 54) rfl rfl ?_
        refine s_getA (pc := 55) rfl kx2 (pc_8_2 hp14 kx2) ?_
        refine s_iload_n (pc := 58) rfl rfl ?_
        obtain ⟨hb17, hw⟩ := hw
        refine s_iald (pc := 59) rfl (kc_8_2 kx2) (by decide) hb17 ?_
        refine s_ci (pc := 60) (d := d) (t := []) rfl rfl (am_ca_v (ps := [.int (iz (m10 (x2 + 3) x3.toNat)), .int (iz 6)]) rfl ko_4) (Nat.le_of_ble_eq_true rfl) (Ci.weak hw fun z21 m18 J19 P20 hw => ?_)
        obtain ⟨hp22, hw⟩ := hw
        exact s_retz (pc := 63) rfl rfl hw.1 hw.2
    · replace hw := hw.2 hc
      refine s_aload_n (pc := 25) rfl rfl ?_
      refine s_iconst (pc := 26) rfl ?_
      refine s_aload_n (pc := 27) rfl rfl ?_
      refine s_getA (pc := 28) rfl kx2 (pc_8_2 hp kx2) ?_
      refine s_iload_n (pc := 31) rfl rfl ?_
      obtain ⟨hb23, hw⟩ := hw
      refine s_iald (pc := 32) rfl (kc_8_2 kx2) (by decide) hb23 ?_
      refine s_ci (pc := 33) (d := d) (t := []) rfl rfl (am_ca_v (ps := [.int (iz (m (x2 + 3) x3.toNat)), .int (iz 5)]) rfl ko_4) (Nat.le_of_ble_eq_true rfl) (Ci.weak hw fun z27 m24 J25 P26 hw => ?_)
      obtain ⟨hp28, hw⟩ := hw
      exact s_retz (pc := 36) rfl rfl hw.1 hw.2

set_option maxRecDepth 20000 in
set_option maxHeartbeats 4000000 in
theorem b_Equation_argumentsGiven_0 {X : aX} {d : Nat} (x0 : Nat) (x1 : Int) (kx0 : am_kd an_K x0 = some (.inl 8)) (m : Mi) (J : Mj) (P : Mp) (hp : PP P) (post : Int → Mi → Mj → Mp → Prop)
    (hw : Rn X d 39 6 [some (.ref x0), some (.int (iz x1)), some (.int (iz 0)), some (.int (iz (x1 + 1)))] [] (SS m J P) (QI post)) : Rn X d 39 0 [some (.ref x0), some (.int (iz x1)), none, none] [] (SS m J P) (QI post) := by
  refine s_iconst (pc := 0) rfl ?_
  refine s_istore_n (pc := 1) (L' := [some (.ref x0), some (.int (iz x1)), some (.int (iz 0)), none]) rfl (Nat.le_of_ble_eq_true rfl) rfl ?_
  refine s_iload_n (pc := 2) rfl rfl ?_
  refine s_iconst (pc := 3) rfl ?_
  refine s_iadd (pc := 4) rfl ?_
  refine s_istore_n (pc := 5) (L' := [some (.ref x0), some (.int (iz x1)), some (.int (iz 0)), some (.int (iz (x1 + 1)))]) rfl (Nat.le_of_ble_eq_true rfl) rfl ?_
  exact hw

set_option maxRecDepth 20000 in
set_option maxHeartbeats 4000000 in
theorem b_Equation_argumentsGiven_6 {X : aX} {d : Nat} (x0 : Nat) (x1 : Int) (x2 : Int) (x3 : Int) (kx0 : am_kd an_K x0 = some (.inl 8)) (m : Mi) (J : Mj) (P : Mp) (hp : PP P) (post : Int → Mi → Mj → Mp → Prop)
    (hw : Zr (x2) ∧ (((40 ≤ x2) → post x2 m J P) ∧ (¬ (40 ≤ x2) → ((0 : Int) ≤ x1 ∧ (x1 : Int) < 80) ∧ Zr (x3) ∧ Zr (m (x0 + 2) x1.toNat) ∧ ((((m (x0 + 2) x1.toNat) ≤ x3) → post x2 m J P) ∧ (¬ ((m (x0 + 2) x1.toNat) ≤ x3) → ((0 : Int) ≤ x3 ∧ (x3 : Int) < 80) ∧ Rn X d 39 6 [some (.ref x0), some (.int (iz x1)), some (.int (iz (x2 + 1))), some (.int (iz (m (x0 + 2) x3.toNat)))] [] (SS m J P) (QI post)))))) : Rn X d 39 6 [some (.ref x0), some (.int (iz x1)), some (.int (iz x2)), some (.int (iz x3))] [] (SS m J P) (QI post) := by
  refine s_iload_n (pc := 6) rfl rfl ?_
  refine s_bipush (pc := 7) rfl (by decide) ?_
  obtain ⟨hz1, hw⟩ := hw
  refine s_ic_ge (pc := 9) (tgt := 35) rfl rfl hz1 (by decide) (fun hc => ?_) (fun hc => ?_)
  · replace hw := hw.1 hc
    refine s_iload_n (pc := 35) rfl rfl ?_
    exact s_reti (pc := 36) rfl rfl hw
  · replace hw := hw.2 hc
    refine s_iload_n (pc := 12) rfl rfl ?_
    refine s_aload_n (pc := 13) rfl rfl ?_
    refine s_getA (pc := 14) rfl kx0 (pc_8_1 hp kx0) ?_
    refine s_iload_n (pc := 17) rfl rfl ?_
    obtain ⟨hb2, hw⟩ := hw
    refine s_iald (pc := 18) rfl (kc_8_1 kx0) (by decide) hb2 ?_
    obtain ⟨hz3, hw⟩ := hw
    obtain ⟨hz4, hw⟩ := hw
    refine s_ic_ge (pc := 19) (tgt := 35) rfl rfl hz3 hz4 (fun hc => ?_) (fun hc => ?_)
    · replace hw := hw.1 hc
      refine s_iload_n (pc := 35) rfl rfl ?_
      exact s_reti (pc := 36) rfl rfl hw
    · replace hw := hw.2 hc
      refine s_aload_n (pc := 22) rfl rfl ?_
      refine s_getA (pc := 23) rfl kx0 (pc_8_1 hp kx0) ?_
      refine s_iload_n (pc := 26) rfl rfl ?_
      obtain ⟨hb5, hw⟩ := hw
      refine s_iald (pc := 27) rfl (kc_8_1 kx0) (by decide) hb5 ?_
      refine s_istore_n (pc := 28) (L' := [some (.ref x0), some (.int (iz x1)), some (.int (iz x2)), some (.int (iz (m (x0 + 2) x3.toNat)))]) rfl (Nat.le_of_ble_eq_true rfl) rfl ?_
      refine s_iinc (pc := 29) (L' := [some (.ref x0), some (.int (iz x1)), some (.int (iz (x2 + 1))), some (.int (iz (m (x0 + 2) x3.toNat)))]) rfl rfl (Nat.le_of_ble_eq_true rfl) rfl ?_
      refine s_goto (pc := 32) (tgt := 6) rfl rfl ?_
      exact hw

set_option maxRecDepth 20000 in
set_option maxHeartbeats 4000000 in
theorem b_Book_argumentsOf_0 {X : aX} {d : Nat} (x0 : Nat) (x1 : Int) (kx0 : am_kd an_K x0 = some (.inl 10)) (m : Mi) (J : Mj) (P : Mp) (hp : PP P) (post : Int → Mi → Mj → Mp → Prop)
    (hw : Zr (x1) ∧ (((x1 < 0) → post 0 m J P) ∧ (¬ (x1 < 0) → Zr (zand x1 31) ∧ ((((zand x1 31) < 16) → ((0 : Int) ≤ (zand x1 31) ∧ ((zand x1 31) : Int) < 16) ∧ post (m (x0 + 2) (zand x1 31).toNat) m J P) ∧ (¬ ((zand x1 31) < 16) → post 0 m J P))))) : Rn X d 40 0 [some (.ref x0), some (.int (iz x1)), none] [] (SS m J P) (QI post) := by
  refine s_iload_n (pc := 0) rfl rfl ?_
  refine s_bipush (pc := 1) rfl (by decide) ?_
  refine s_iand (pc := 3) rfl ?_
  refine s_istore_n (pc := 4) (L' := [some (.ref x0), some (.int (iz x1)), some (.int (iz (zand x1 31)))]) rfl (Nat.le_of_ble_eq_true rfl) rfl ?_
  refine s_iload_n (pc := 5) rfl rfl ?_
  obtain ⟨hz1, hw⟩ := hw
  refine s_if_lt (pc := 6) (tgt := 15) rfl rfl hz1 (fun hc => ?_) (fun hc => ?_)
  · replace hw := hw.1 hc
    refine s_iconst (pc := 15) rfl ?_
    refine s_goto (pc := 16) (tgt := 25) rfl rfl ?_
    exact s_reti (pc := 25) rfl rfl hw
  · replace hw := hw.2 hc
    refine s_iload_n (pc := 9) rfl rfl ?_
    refine s_bipush (pc := 10) rfl (by decide) ?_
    obtain ⟨hz2, hw⟩ := hw
    refine s_ic_lt (pc := 12) (tgt := 19) rfl rfl hz2 (by decide) (fun hc => ?_) (fun hc => ?_)
    · replace hw := hw.1 hc
      refine s_aload_n (pc := 19) rfl rfl ?_
      refine s_getA (pc := 20) rfl kx0 (pc_10_1 hp kx0) ?_
      refine s_iload_n (pc := 23) rfl rfl ?_
      obtain ⟨hb3, hw⟩ := hw
      refine s_iald (pc := 24) rfl (kc_10_1 kx0) (by decide) hb3 ?_
      exact s_reti (pc := 25) rfl rfl hw
    · replace hw := hw.2 hc
      refine s_iconst (pc := 15) rfl ?_
      refine s_goto (pc := 16) (tgt := 25) rfl rfl ?_
      exact s_reti (pc := 25) rfl rfl hw

set_option maxRecDepth 20000 in
set_option maxHeartbeats 4000000 in
theorem b_Reader_checkRule_0 {X : aX} {d : Nat} (x1 : Nat) (kx1 : am_kd an_K x1 = some (.inl 8)) (m : Mi) (J : Mj) (P : Mp) (hp : PP P) (post : Int → Mi → Mj → Mp → Prop)
    (hw : ((0 : Int) ≤ 0 ∧ (0 : Int) < 80) ∧ Zr (m (x1 + 1) (0 : Int).toNat) ∧ (((0 ≤ (m (x1 + 1) (0 : Int).toNat)) → Rn X (d + 4) 41 27 [some (.ref 4), some (.ref x1), some (.int (iz (m x1 5)))] [] (SS m J P) (QI post)) ∧ (¬ (0 ≤ (m (x1 + 1) (0 : Int).toNat)) → ((0 : Int) ≤ 0 ∧ (0 : Int) < 80) ∧ Ci X (d + 3) 26 [.ref 4, .int (iz 7), .int (iz (m (x1 + 3) (0 : Int).toNat))] m J P (fun z7 m4 J5 P6 => PP P6 ∧ (z7 = 0 ∨ z7 = 1) ∧ post z7 m4 J5 P6)))) : Rn X (d + 4) 41 0 [some (.ref 4), some (.ref x1), none] [] (SS m J P) (QI post) := by
  refine s_aload_n (pc := 0) rfl rfl ?_
  refine s_getA (pc := 1) rfl kx1 (pc_8_0 hp kx1) ?_
  refine s_iconst (pc := 4) rfl ?_
  obtain ⟨hb1, hw⟩ := hw
  refine s_iald (pc := 5) rfl (kc_8_0 kx1) (by decide) hb1 ?_
  obtain ⟨hz2, hw⟩ := hw
  refine s_if_ge (pc := 6) (tgt := 22) rfl rfl hz2 (fun hc => ?_) (fun hc => ?_)
  · replace hw := hw.1 hc
    refine s_aload_n (pc := 22) rfl rfl ?_
    refine s_getI (pc := 23) rfl kx1 ?_
    refine s_istore_n (pc := 26) (L' := [some (.ref 4), some (.ref x1), some (.int (iz (m x1 5)))]) rfl (Nat.le_of_ble_eq_true rfl) rfl ?_
    exact hw
  · replace hw := hw.2 hc
    refine s_aload_n (pc := 9) rfl rfl ?_
    refine s_bipush (pc := 10) rfl (by decide) ?_
    refine s_aload_n (pc := 12) rfl rfl ?_
    refine s_getA (pc := 13) rfl kx1 (pc_8_2 hp kx1) ?_
    refine s_iconst (pc := 16) rfl ?_
    obtain ⟨hb3, hw⟩ := hw
    refine s_iald (pc := 17) rfl (kc_8_2 kx1) (by decide) hb3 ?_
    refine s_ci (pc := 18) (d := (d + 3)) (t := []) rfl rfl (am_ca_v (ps := [.int (iz (m (x1 + 3) (0 : Int).toNat)), .int (iz 7)]) rfl ko_4) (Nat.le_of_ble_eq_true rfl) (Ci.weak hw fun z7 m4 J5 P6 hw => ?_)
    obtain ⟨hp8, hw⟩ := hw
    exact s_retz (pc := 21) rfl rfl hw.1 hw.2

set_option maxRecDepth 20000 in
set_option maxHeartbeats 4000000 in
theorem b_Reader_checkRule_27 {X : aX} {d : Nat} (x1 : Nat) (x2 : Int) (kx1 : am_kd an_K x1 = some (.inl 8)) (m : Mi) (J : Mj) (P : Mp) (hp : PP P) (post : Int → Mi → Mj → Mp → Prop)
    (hw : Zr (x2) ∧ Zr (m x1 6) ∧ ((((m x1 6) ≤ x2) → Ci X (d + 3) 42 [.ref 5, .ref x1] m J P (fun z6 m3 J4 P5 => PP P5 ∧ Zr (z6) ∧ (((¬ z6 = 0) → post 1 m3 J4 P5) ∧ (¬ (¬ z6 = 0) → Ci X (d + 3) 26 [.ref 4, .int (iz 7), .int (iz (m3 x1 9))] m3 J4 P5 (fun z12 m9 J10 P11 => PP P11 ∧ Zr (z12) ∧ (((z12 = 0) → post 0 m9 J10 P11) ∧ (¬ (z12 = 0) → post 1 m9 J10 P11))))))) ∧ (¬ ((m x1 6) ≤ x2) → ((0 : Int) ≤ x2 ∧ (x2 : Int) < 80) ∧ Zr (((-1)) - (m (x1 + 1) x2.toNat)) ∧ Zr (m x1 8) ∧ ((((((-1)) - (m (x1 + 1) x2.toNat)) < (m x1 8)) → Rn X (d + 4) 41 27 [some (.ref 4), some (.ref x1), some (.int (iz (x2 + 1)))] [] (SS m J P) (QI post)) ∧ (¬ ((((-1)) - (m (x1 + 1) x2.toNat)) < (m x1 8)) → ((0 : Int) ≤ x2 ∧ (x2 : Int) < 80) ∧ Ci X (d + 3) 26 [.ref 4, .int (iz 7), .int (iz (m (x1 + 3) x2.toNat))] m J P (fun z22 m19 J20 P21 => PP P21 ∧ (z22 = 0 ∨ z22 = 1) ∧ post z22 m19 J20 P21)))))) : Rn X (d + 4) 41 27 [some (.ref 4), some (.ref x1), some (.int (iz x2))] [] (SS m J P) (QI post) := by
  refine s_iload_n (pc := 27) rfl rfl ?_
  refine s_aload_n (pc := 28) rfl rfl ?_
  refine s_getI (pc := 29) rfl kx1 ?_
  obtain ⟨hz1, hw⟩ := hw
  obtain ⟨hz2, hw⟩ := hw
  refine s_ic_ge (pc := 32) (tgt := 69) rfl rfl hz1 hz2 (fun hc => ?_) (fun hc => ?_)
  · replace hw := hw.1 hc
    refine s_aload_n (pc := 69) rfl rfl ?_
    refine s_getA (pc := 70) rfl ko_4 (po_4_1 hp) ?_
    refine s_aload_n (pc := 73) rfl rfl ?_
    refine s_ci (pc := 74) (d := (d + 3)) (t := []) rfl rfl (am_ca_v (ps := [.ref x1]) rfl ko_5) (Nat.le_of_ble_eq_true rfl) (Ci.weak hw fun z6 m3 J4 P5 hw => ?_)
    obtain ⟨hp7, hw⟩ := hw
    obtain ⟨hz8, hw⟩ := hw
    refine s_if_ne (pc := 77) (tgt := 93) rfl rfl hz8 (fun hc => ?_) (fun hc => ?_)
    · replace hw := hw.1 hc
      refine s_iconst (pc := 93) rfl ?_
      refine s_goto (pc := 94) (tgt := 98) rfl rfl ?_
      exact s_retz (pc := 98) rfl rfl (by decide) hw
    · replace hw := hw.2 hc
      refine s_aload_n (pc := 80) rfl rfl ?_
      refine s_bipush (pc := 81) rfl (by decide) ?_
      refine s_aload_n (pc := 83) rfl rfl ?_
      refine s_getI (pc := 84) rfl kx1 ?_
      refine s_ci (pc := 87) (d := (d + 3)) (t := []) rfl rfl (am_ca_v (ps := [.int (iz (m3 x1 9)), .int (iz 7)]) rfl ko_4) (Nat.le_of_ble_eq_true rfl) (Ci.weak hw fun z12 m9 J10 P11 hw => ?_)
      obtain ⟨hp13, hw⟩ := hw
      obtain ⟨hz14, hw⟩ := hw
      refine s_if_eq (pc := 90) (tgt := 97) rfl rfl hz14 (fun hc => ?_) (fun hc => ?_)
      · replace hw := hw.1 hc
        refine s_iconst (pc := 97) rfl ?_
        exact s_retz (pc := 98) rfl rfl (by decide) hw
      · replace hw := hw.2 hc
        refine s_iconst (pc := 93) rfl ?_
        refine s_goto (pc := 94) (tgt := 98) rfl rfl ?_
        exact s_retz (pc := 98) rfl rfl (by decide) hw
  · replace hw := hw.2 hc
    refine s_iconst (pc := 35) rfl ?_
    refine s_aload_n (pc := 36) rfl rfl ?_
    refine s_getA (pc := 37) rfl kx1 (pc_8_0 hp kx1) ?_
    refine s_iload_n (pc := 40) rfl rfl ?_
    obtain ⟨hb15, hw⟩ := hw
    refine s_iald (pc := 41) rfl (kc_8_0 kx1) (by decide) hb15 ?_
    refine s_isub (pc := 42) rfl ?_
    refine s_aload_n (pc := 43) rfl rfl ?_
    refine s_getI (pc := 44) rfl kx1 ?_
    obtain ⟨hz16, hw⟩ := hw
    obtain ⟨hz17, hw⟩ := hw
    refine s_ic_lt (pc := 47) (tgt := 63) rfl rfl hz16 hz17 (fun hc => ?_) (fun hc => ?_)
    · replace hw := hw.1 hc
      refine s_iinc (pc := 63) (L' := [some (.ref 4), some (.ref x1), some (.int (iz (x2 + 1)))]) rfl rfl (Nat.le_of_ble_eq_true rfl) rfl ?_
      refine s_goto (pc := 66) (tgt := 27) rfl rfl ?_
      exact hw
    · replace hw := hw.2 hc
      refine s_aload_n (pc := 50) rfl rfl ?_
      refine s_bipush (pc := 51) rfl (by decide) ?_
      refine s_aload_n (pc := 53) rfl rfl ?_
      refine s_getA (pc := 54) rfl kx1 (pc_8_2 hp kx1) ?_
      refine s_iload_n (pc := 57) rfl rfl ?_
      obtain ⟨hb18, hw⟩ := hw
      refine s_iald (pc := 58) rfl (kc_8_2 kx1) (by decide) hb18 ?_
      refine s_ci (pc := 59) (d := (d + 3)) (t := []) rfl rfl (am_ca_v (ps := [.int (iz (m (x1 + 3) x2.toNat)), .int (iz 7)]) rfl ko_4) (Nat.le_of_ble_eq_true rfl) (Ci.weak hw fun z22 m19 J20 P21 hw => ?_)
      obtain ⟨hp23, hw⟩ := hw
      exact s_retz (pc := 62) rfl rfl hw.1 hw.2

set_option maxRecDepth 20000 in
set_option maxHeartbeats 4000000 in
theorem b_Order_isAbove_0 {X : aX} {d : Nat} (x1 : Nat) (kx1 : am_kd an_K x1 = some (.inl 8)) (m : Mi) (J : Mj) (P : Mp) (hp : PP P) (post : Int → Mi → Mj → Mp → Prop)
    (hw : Rn X (d + 3) 42 7 [some (.ref 5), some (.ref x1), some (.int (iz ((m x1 5) - 1))), none] [] (SS m J P) (QI post)) : Rn X (d + 3) 42 0 [some (.ref 5), some (.ref x1), none, none] [] (SS m J P) (QI post) := by
  refine s_aload_n (pc := 0) rfl rfl ?_
  refine s_getI (pc := 1) rfl kx1 ?_
  refine s_iconst (pc := 4) rfl ?_
  refine s_isub (pc := 5) rfl ?_
  refine s_istore_n (pc := 6) (L' := [some (.ref 5), some (.ref x1), some (.int (iz ((m x1 5) - 1))), none]) rfl (Nat.le_of_ble_eq_true rfl) rfl ?_
  exact hw

set_option maxRecDepth 20000 in
set_option maxHeartbeats 4000000 in
theorem b_Order_isAbove_7 {X : aX} {d : Nat} (x1 : Nat) (x2 : Int) (kx1 : am_kd an_K x1 = some (.inl 8)) (m : Mi) (J : Mj) (P : Mp) (hp : PP P) (post : Int → Mi → Mj → Mp → Prop)
    (hw : Zr (x2) ∧ (((x2 < 0) → ((0 : Int) ≤ 0 ∧ (0 : Int) < 1600) ∧ ((m 6 (0 : Int).toNat) = 0 ∨ (m 6 (0 : Int).toNat) = 1) ∧ post (m 6 (0 : Int).toNat) m J P) ∧ (¬ (x2 < 0) → Rn X (d + 3) 42 18 [some (.ref 5), some (.ref x1), some (.int (iz x2)), some (.int (iz ((m x1 6) - 1)))] [] (SS m J P) (QI post)))) : Rn X (d + 3) 42 7 [some (.ref 5), some (.ref x1), some (.int (iz x2)), none] [] (SS m J P) (QI post) := by
  refine s_iload_n (pc := 7) rfl rfl ?_
  obtain ⟨hz1, hw⟩ := hw
  refine s_if_lt (pc := 8) (tgt := 61) rfl rfl hz1 (fun hc => ?_) (fun hc => ?_)
  · replace hw := hw.1 hc
    refine s_aload_n (pc := 61) rfl rfl ?_
    refine s_getA (pc := 62) rfl ko_5 (po_5_0 hp) ?_
    refine s_iconst (pc := 65) rfl ?_
    obtain ⟨hb2, hw⟩ := hw
    refine s_bald (pc := 66) rfl ka_6 (by decide) (by decide) hb2 ?_
    exact s_retz (pc := 67) rfl rfl hw.1 hw.2
  · replace hw := hw.2 hc
    refine s_aload_n (pc := 11) rfl rfl ?_
    refine s_getI (pc := 12) rfl kx1 ?_
    refine s_iconst (pc := 15) rfl ?_
    refine s_isub (pc := 16) rfl ?_
    refine s_istore_n (pc := 17) (L' := [some (.ref 5), some (.ref x1), some (.int (iz x2)), some (.int (iz ((m x1 6) - 1)))]) rfl (Nat.le_of_ble_eq_true rfl) rfl ?_
    exact hw

set_option maxRecDepth 20000 in
set_option maxHeartbeats 4000000 in
theorem b_Order_isAbove_18 {X : aX} {d : Nat} (x1 : Nat) (x2 : Int) (x3 : Int) (kx1 : am_kd an_K x1 = some (.inl 8)) (m : Mi) (J : Mj) (P : Mp) (hp : PP P) (post : Int → Mi → Mj → Mp → Prop)
    (hw : Zr (x3) ∧ Zr (m x1 5) ∧ (((x3 < (m x1 5)) → Rn X (d + 3) 42 7 [some (.ref 5), some (.ref x1), some (.int (iz (x2 + (-1)))), none] [] (SS m J P) (QI post)) ∧ (¬ (x3 < (m x1 5)) → Ci X (d + 2) 43 [.ref 5, .ref x1, .int (iz x2), .int (iz x3)] m J P (fun z6 m3 J4 P5 => PP P5 ∧ ((0 : Int) ≤ (((x2 * 40) + x3) - (m x1 5)) ∧ ((((x2 * 40) + x3) - (m x1 5)) : Int) < 1600) ∧ (z6 = 0 ∨ z6 = 1) ∧ Rn X (d + 3) 42 18 [some (.ref 5), some (.ref x1), some (.int (iz x2)), some (.int (iz (x3 + (-1))))] [] (SS (mu m3 6 (((x2 * 40) + x3) - (m x1 5)).toNat z6) J4 P5) (QI post))))) : Rn X (d + 3) 42 18 [some (.ref 5), some (.ref x1), some (.int (iz x2)), some (.int (iz x3))] [] (SS m J P) (QI post) := by
  refine s_iload_n (pc := 18) rfl rfl ?_
  refine s_aload_n (pc := 19) rfl rfl ?_
  refine s_getI (pc := 20) rfl kx1 ?_
  obtain ⟨hz1, hw⟩ := hw
  obtain ⟨hz2, hw⟩ := hw
  refine s_ic_lt (pc := 23) (tgt := 55) rfl rfl hz1 hz2 (fun hc => ?_) (fun hc => ?_)
  · replace hw := hw.1 hc
    refine s_iinc (pc := 55) (L' := [some (.ref 5), some (.ref x1), some (.int (iz (x2 + (-1)))), some (.int (iz x3))]) rfl rfl (Nat.le_of_ble_eq_true rfl) rfl ?_
    refine s_goto (pc := 58) (tgt := 7) rfl rfl ?_
    exact Rn.weakL hw (LLe.keep _ (LLe.keep _ (LLe.keep _ (LLe.drop _ (LLe.nil)))))
  · replace hw := hw.2 hc
    refine s_aload_n (pc := 26) rfl rfl ?_
    refine s_getA (pc := 27) rfl ko_5 (po_5_0 hp) ?_
    refine s_iload_n (pc := 30) rfl rfl ?_
    refine s_bipush (pc := 31) rfl (by decide) ?_
    refine s_imul (pc := 33) rfl ?_
    refine s_iload_n (pc := 34) rfl rfl ?_
    refine s_iadd (pc := 35) rfl ?_
    refine s_aload_n (pc := 36) rfl rfl ?_
    refine s_getI (pc := 37) rfl kx1 ?_
    refine s_isub (pc := 40) rfl ?_
    refine s_aload_n (pc := 41) rfl rfl ?_
    refine s_aload_n (pc := 42) rfl rfl ?_
    refine s_iload_n (pc := 43) rfl rfl ?_
    refine s_iload_n (pc := 44) rfl rfl ?_
    refine s_ci (pc := 45) (d := (d + 2)) (t := [.int (iz (((x2 * 40) + x3) - (m x1 5))), .ref 6]) rfl rfl (am_ca_v (ps := [.int (iz x3), .int (iz x2), .ref x1]) rfl ko_5) (Nat.le_of_ble_eq_true rfl) (Ci.weak hw fun z6 m3 J4 P5 hw => ?_)
    obtain ⟨hp7, hw⟩ := hw
    obtain ⟨hb8, hw⟩ := hw
    obtain ⟨hv9, hw⟩ := hw
    refine s_bast (pc := 48) rfl ka_6 (Or.inr ⟨rfl, hv9⟩) (by decide) hb8 ?_
    refine s_iinc (pc := 49) (L' := [some (.ref 5), some (.ref x1), some (.int (iz x2)), some (.int (iz (x3 + (-1))))]) rfl rfl (Nat.le_of_ble_eq_true rfl) rfl ?_
    refine s_goto (pc := 52) (tgt := 18) rfl rfl ?_
    exact hw

set_option maxRecDepth 20000 in
set_option maxHeartbeats 4000000 in
theorem b_Order_settles_0 {X : aX} {d : Nat} (x1 : Nat) (x2 : Int) (x3 : Int) (kx1 : am_kd an_K x1 = some (.inl 8)) (m : Mi) (J : Mj) (P : Mp) (hp : PP P) (post : Int → Mi → Mj → Mp → Prop)
    (hw : ((0 : Int) ≤ x2 ∧ (x2 : Int) < 80) ∧ Zr (m (x1 + 1) x2.toNat) ∧ (((0 ≤ (m (x1 + 1) x2.toNat)) → Rn X (d + 2) 43 19 [some (.ref 5), some (.ref x1), some (.int (iz x2)), some (.int (iz x3)), some (.int (iz (x2 + 1))), some (.int (iz 0)), none] [] (SS m J P) (QI post)) ∧ (¬ (0 ≤ (m (x1 + 1) x2.toNat)) → post 0 m J P))) : Rn X (d + 2) 43 0 [some (.ref 5), some (.ref x1), some (.int (iz x2)), some (.int (iz x3)), none, none, none] [] (SS m J P) (QI post) := by
  refine s_aload_n (pc := 0) rfl rfl ?_
  refine s_getA (pc := 1) rfl kx1 (pc_8_0 hp kx1) ?_
  refine s_iload_n (pc := 4) rfl rfl ?_
  obtain ⟨hb1, hw⟩ := hw
  refine s_iald (pc := 5) rfl (kc_8_0 kx1) (by decide) hb1 ?_
  obtain ⟨hz2, hw⟩ := hw
  refine s_if_ge (pc := 6) (tgt := 11) rfl rfl hz2 (fun hc => ?_) (fun hc => ?_)
  · replace hw := hw.1 hc
    refine s_iload_n (pc := 11) rfl rfl ?_
    refine s_iconst (pc := 12) rfl ?_
    refine s_iadd (pc := 13) rfl ?_
    refine s_istore (pc := 14) (L' := [some (.ref 5), some (.ref x1), some (.int (iz x2)), some (.int (iz x3)), some (.int (iz (x2 + 1))), none, none]) rfl (Nat.le_of_ble_eq_true rfl) rfl ?_
    refine s_iconst (pc := 16) rfl ?_
    refine s_istore (pc := 17) (L' := [some (.ref 5), some (.ref x1), some (.int (iz x2)), some (.int (iz x3)), some (.int (iz (x2 + 1))), some (.int (iz 0)), none]) rfl (Nat.le_of_ble_eq_true rfl) rfl ?_
    exact hw
  · replace hw := hw.2 hc
    refine s_iconst (pc := 9) rfl ?_
    exact s_retz (pc := 10) rfl rfl (by decide) hw

set_option maxRecDepth 20000 in
set_option maxHeartbeats 4000000 in
theorem b_Order_settles_19 {X : aX} {d : Nat} (x1 : Nat) (x2 : Int) (x3 : Int) (x4 : Int) (x5 : Int) (kx1 : am_kd an_K x1 = some (.inl 8)) (m : Mi) (J : Mj) (P : Mp) (hp : PP P) (post : Int → Mi → Mj → Mp → Prop)
    (hw : Zr (x5) ∧ (((4 ≤ x5) → ((0 : Int) ≤ x3 ∧ (x3 : Int) < 80) ∧ Zr (m (x1 + 1) x3.toNat) ∧ ((((m (x1 + 1) x3.toNat) < 0) → post 0 m J P) ∧ (¬ ((m (x1 + 1) x3.toNat) < 0) → ((0 : Int) ≤ x2 ∧ (x2 : Int) < 80) ∧ ((0 : Int) ≤ x3 ∧ (x3 : Int) < 80) ∧ Zr (m (x1 + 1) x2.toNat) ∧ Zr (m (x1 + 1) x3.toNat) ∧ ((((m (x1 + 1) x3.toNat) ≤ (m (x1 + 1) x2.toNat)) → Rn X (d + 2) 43 109 [some (.ref 5), some (.ref x1), some (.int (iz x2)), some (.int (iz x3)), some (.int (iz x4)), some (.int (iz (x3 + 1))), some (.int (iz 0))] [] (SS m J P) (QI post)) ∧ (¬ ((m (x1 + 1) x3.toNat) ≤ (m (x1 + 1) x2.toNat)) → post 0 m J P))))) ∧ (¬ (4 ≤ x5) → ((0 : Int) ≤ x2 ∧ (x2 : Int) < 80) ∧ Zr (x4) ∧ Zr (m (x1 + 2) x2.toNat) ∧ ((((m (x1 + 2) x2.toNat) ≤ x4) → ((0 : Int) ≤ x3 ∧ (x3 : Int) < 80) ∧ Zr (m (x1 + 1) x3.toNat) ∧ ((((m (x1 + 1) x3.toNat) < 0) → post 0 m J P) ∧ (¬ ((m (x1 + 1) x3.toNat) < 0) → ((0 : Int) ≤ x2 ∧ (x2 : Int) < 80) ∧ ((0 : Int) ≤ x3 ∧ (x3 : Int) < 80) ∧ Zr (m (x1 + 1) x2.toNat) ∧ Zr (m (x1 + 1) x3.toNat) ∧ ((((m (x1 + 1) x3.toNat) ≤ (m (x1 + 1) x2.toNat)) → Rn X (d + 2) 43 109 [some (.ref 5), some (.ref x1), some (.int (iz x2)), some (.int (iz x3)), some (.int (iz x4)), some (.int (iz (x3 + 1))), some (.int (iz 0))] [] (SS m J P) (QI post)) ∧ (¬ ((m (x1 + 1) x3.toNat) ≤ (m (x1 + 1) x2.toNat)) → post 0 m J P))))) ∧ (¬ ((m (x1 + 2) x2.toNat) ≤ x4) → Ci X (d + 1) 44 [.ref 5, .ref x1, .int (iz x4), .int (iz x3)] m J P (fun z20 m17 J18 P19 => PP P19 ∧ Zr (z20) ∧ (((¬ z20 = 0) → post 1 m17 J18 P19) ∧ (¬ (¬ z20 = 0) → Ci X (d + 1) 45 [.ref 5, .ref x1, .int (iz x4), .int (iz x3)] m17 J18 P19 (fun z26 m23 J24 P25 => PP P25 ∧ Zr (z26) ∧ (((z26 = 0) → ((0 : Int) ≤ x4 ∧ (x4 : Int) < 80) ∧ Rn X (d + 2) 43 19 [some (.ref 5), some (.ref x1), some (.int (iz x2)), some (.int (iz x3)), some (.int (iz (m23 (x1 + 2) x4.toNat))), some (.int (iz (x5 + 1))), none] [] (SS m23 J24 P25) (QI post)) ∧ (¬ (z26 = 0) → post 1 m23 J24 P25))))))))))) : Rn X (d + 2) 43 19 [some (.ref 5), some (.ref x1), some (.int (iz x2)), some (.int (iz x3)), some (.int (iz x4)), some (.int (iz x5)), none] [] (SS m J P) (QI post) := by
  refine s_iload (pc := 19) rfl rfl ?_
  refine s_iconst (pc := 21) rfl ?_
  obtain ⟨hz1, hw⟩ := hw
  refine s_ic_ge (pc := 22) (tgt := 75) rfl rfl hz1 (by decide) (fun hc => ?_) (fun hc => ?_)
  · replace hw := hw.1 hc
    refine s_aload_n (pc := 75) rfl rfl ?_
    refine s_getA (pc := 76) rfl kx1 (pc_8_0 hp kx1) ?_
    refine s_iload_n (pc := 79) rfl rfl ?_
    obtain ⟨hb2, hw⟩ := hw
    refine s_iald (pc := 80) rfl (kc_8_0 kx1) (by decide) hb2 ?_
    obtain ⟨hz3, hw⟩ := hw
    refine s_if_lt (pc := 81) (tgt := 99) rfl rfl hz3 (fun hc => ?_) (fun hc => ?_)
    · replace hw := hw.1 hc
      refine s_iconst (pc := 99) rfl ?_
      exact s_retz (pc := 100) rfl rfl (by decide) hw
    · replace hw := hw.2 hc
      refine s_aload_n (pc := 84) rfl rfl ?_
      refine s_getA (pc := 85) rfl kx1 (pc_8_0 hp kx1) ?_
      refine s_iload_n (pc := 88) rfl rfl ?_
      obtain ⟨hb4, hw⟩ := hw
      refine s_iald (pc := 89) rfl (kc_8_0 kx1) (by decide) hb4 ?_
      refine s_aload_n (pc := 90) rfl rfl ?_
      refine s_getA (pc := 91) rfl kx1 (pc_8_0 hp kx1) ?_
      refine s_iload_n (pc := 94) rfl rfl ?_
      obtain ⟨hb5, hw⟩ := hw
      refine s_iald (pc := 95) rfl (kc_8_0 kx1) (by decide) hb5 ?_
      obtain ⟨hz6, hw⟩ := hw
      obtain ⟨hz7, hw⟩ := hw
      refine s_ic_ge (pc := 96) (tgt := 101) rfl rfl hz6 hz7 (fun hc => ?_) (fun hc => ?_)
      · replace hw := hw.1 hc
        refine s_iload_n (pc := 101) rfl rfl ?_
        refine s_iconst (pc := 102) rfl ?_
        refine s_iadd (pc := 103) rfl ?_
        refine s_istore (pc := 104) (L' := [some (.ref 5), some (.ref x1), some (.int (iz x2)), some (.int (iz x3)), some (.int (iz x4)), some (.int (iz (x3 + 1))), none]) rfl (Nat.le_of_ble_eq_true rfl) rfl ?_
        refine s_iconst (pc := 106) rfl ?_
        refine s_istore (pc := 107) (L' := [some (.ref 5), some (.ref x1), some (.int (iz x2)), some (.int (iz x3)), some (.int (iz x4)), some (.int (iz (x3 + 1))), some (.int (iz 0))]) rfl (Nat.le_of_ble_eq_true rfl) rfl ?_
        exact hw
      · replace hw := hw.2 hc
        refine s_iconst (pc := 99) rfl ?_
        exact s_retz (pc := 100) rfl rfl (by decide) hw
  · replace hw := hw.2 hc
    refine s_iload (pc := 25) rfl rfl ?_
    refine s_aload_n (pc := 27) rfl rfl ?_
    refine s_getA (pc := 28) rfl kx1 (pc_8_1 hp kx1) ?_
    refine s_iload_n (pc := 31) rfl rfl ?_
    obtain ⟨hb8, hw⟩ := hw
    refine s_iald (pc := 32) rfl (kc_8_1 kx1) (by decide) hb8 ?_
    obtain ⟨hz9, hw⟩ := hw
    obtain ⟨hz10, hw⟩ := hw
    refine s_ic_ge (pc := 33) (tgt := 75) rfl rfl hz9 hz10 (fun hc => ?_) (fun hc => ?_)
    · replace hw := hw.1 hc
      refine s_aload_n (pc := 75) rfl rfl ?_
      refine s_getA (pc := 76) rfl kx1 (pc_8_0 hp kx1) ?_
      refine s_iload_n (pc := 79) rfl rfl ?_
      obtain ⟨hb11, hw⟩ := hw
      refine s_iald (pc := 80) rfl (kc_8_0 kx1) (by decide) hb11 ?_
      obtain ⟨hz12, hw⟩ := hw
      refine s_if_lt (pc := 81) (tgt := 99) rfl rfl hz12 (fun hc => ?_) (fun hc => ?_)
      · replace hw := hw.1 hc
        refine s_iconst (pc := 99) rfl ?_
        exact s_retz (pc := 100) rfl rfl (by decide) hw
      · replace hw := hw.2 hc
        refine s_aload_n (pc := 84) rfl rfl ?_
        refine s_getA (pc := 85) rfl kx1 (pc_8_0 hp kx1) ?_
        refine s_iload_n (pc := 88) rfl rfl ?_
        obtain ⟨hb13, hw⟩ := hw
        refine s_iald (pc := 89) rfl (kc_8_0 kx1) (by decide) hb13 ?_
        refine s_aload_n (pc := 90) rfl rfl ?_
        refine s_getA (pc := 91) rfl kx1 (pc_8_0 hp kx1) ?_
        refine s_iload_n (pc := 94) rfl rfl ?_
        obtain ⟨hb14, hw⟩ := hw
        refine s_iald (pc := 95) rfl (kc_8_0 kx1) (by decide) hb14 ?_
        obtain ⟨hz15, hw⟩ := hw
        obtain ⟨hz16, hw⟩ := hw
        refine s_ic_ge (pc := 96) (tgt := 101) rfl rfl hz15 hz16 (fun hc => ?_) (fun hc => ?_)
        · replace hw := hw.1 hc
          refine s_iload_n (pc := 101) rfl rfl ?_
          refine s_iconst (pc := 102) rfl ?_
          refine s_iadd (pc := 103) rfl ?_
          refine s_istore (pc := 104) (L' := [some (.ref 5), some (.ref x1), some (.int (iz x2)), some (.int (iz x3)), some (.int (iz x4)), some (.int (iz (x3 + 1))), none]) rfl (Nat.le_of_ble_eq_true rfl) rfl ?_
          refine s_iconst (pc := 106) rfl ?_
          refine s_istore (pc := 107) (L' := [some (.ref 5), some (.ref x1), some (.int (iz x2)), some (.int (iz x3)), some (.int (iz x4)), some (.int (iz (x3 + 1))), some (.int (iz 0))]) rfl (Nat.le_of_ble_eq_true rfl) rfl ?_
          exact hw
        · replace hw := hw.2 hc
          refine s_iconst (pc := 99) rfl ?_
          exact s_retz (pc := 100) rfl rfl (by decide) hw
    · replace hw := hw.2 hc
      refine s_aload_n (pc := 36) rfl rfl ?_
      refine s_aload_n (pc := 37) rfl rfl ?_
      refine s_iload (pc := 38) rfl rfl ?_
      refine s_iload_n (pc := 40) rfl rfl ?_
      refine s_ci (pc := 41) (d := (d + 1)) (t := []) rfl rfl (am_ca_v (ps := [.int (iz x3), .int (iz x4), .ref x1]) rfl ko_5) (Nat.le_of_ble_eq_true rfl) (Ci.weak hw fun z20 m17 J18 P19 hw => ?_)
      obtain ⟨hp21, hw⟩ := hw
      obtain ⟨hz22, hw⟩ := hw
      refine s_if_ne (pc := 44) (tgt := 58) rfl rfl hz22 (fun hc => ?_) (fun hc => ?_)
      · replace hw := hw.1 hc
        refine s_iconst (pc := 58) rfl ?_
        exact s_retz (pc := 59) rfl rfl (by decide) hw
      · replace hw := hw.2 hc
        refine s_aload_n (pc := 47) rfl rfl ?_
        refine s_aload_n (pc := 48) rfl rfl ?_
        refine s_iload (pc := 49) rfl rfl ?_
        refine s_iload_n (pc := 51) rfl rfl ?_
        refine s_ci (pc := 52) (d := (d + 1)) (t := []) rfl rfl (am_ca_v (ps := [.int (iz x3), .int (iz x4), .ref x1]) rfl ko_5) (Nat.le_of_ble_eq_true rfl) (Ci.weak hw fun z26 m23 J24 P25 hw => ?_)
        obtain ⟨hp27, hw⟩ := hw
        obtain ⟨hz28, hw⟩ := hw
        refine s_if_eq (pc := 55) (tgt := 60) rfl rfl hz28 (fun hc => ?_) (fun hc => ?_)
        · replace hw := hw.1 hc
          refine s_aload_n (pc := 60) rfl rfl ?_
          refine s_getA (pc := 61) rfl kx1 (pc_8_1 hp27 kx1) ?_
          refine s_iload (pc := 64) rfl rfl ?_
          obtain ⟨hb29, hw⟩ := hw
          refine s_iald (pc := 66) rfl (kc_8_1 kx1) (by decide) hb29 ?_
          refine s_istore (pc := 67) (L' := [some (.ref 5), some (.ref x1), some (.int (iz x2)), some (.int (iz x3)), some (.int (iz (m23 (x1 + 2) x4.toNat))), some (.int (iz x5)), none]) rfl (Nat.le_of_ble_eq_true rfl) rfl ?_
          refine s_iinc (pc := 69) (L' := [some (.ref 5), some (.ref x1), some (.int (iz x2)), some (.int (iz x3)), some (.int (iz (m23 (x1 + 2) x4.toNat))), some (.int (iz (x5 + 1))), none]) rfl rfl (Nat.le_of_ble_eq_true rfl) rfl ?_
          refine s_goto (pc := 72) (tgt := 19) rfl rfl ?_
          exact hw
        · replace hw := hw.2 hc
          refine s_iconst (pc := 58) rfl ?_
          exact s_retz (pc := 59) rfl rfl (by decide) hw

set_option maxRecDepth 20000 in
set_option maxHeartbeats 4000000 in
theorem b_Order_settles_109 {X : aX} {d : Nat} (x1 : Nat) (x2 : Int) (x3 : Int) (x4 : Int) (x5 : Int) (x6 : Int) (kx1 : am_kd an_K x1 = some (.inl 8)) (m : Mi) (J : Mj) (P : Mp) (hp : PP P) (post : Int → Mi → Mj → Mp → Prop)
    (hw : Zr (x6) ∧ (((4 ≤ x6) → ((0 : Int) ≤ x2 ∧ (x2 : Int) < 80) ∧ ((0 : Int) ≤ x3 ∧ (x3 : Int) < 80) ∧ Zr (m (x1 + 1) x2.toNat) ∧ Zr (m (x1 + 1) x3.toNat) ∧ ((((m (x1 + 1) x3.toNat) < (m (x1 + 1) x2.toNat)) → post 1 m J P) ∧ (¬ ((m (x1 + 1) x3.toNat) < (m (x1 + 1) x2.toNat)) → Ci X (d + 1) 46 [.ref 5, .ref x1, .int (iz x2), .int (iz x3)] m J P (fun z9 m6 J7 P8 => PP P8 ∧ Zr (z9) ∧ (((z9 = 0) → post 0 m6 J7 P8) ∧ (¬ (z9 = 0) → post 1 m6 J7 P8)))))) ∧ (¬ (4 ≤ x6) → ((0 : Int) ≤ x3 ∧ (x3 : Int) < 80) ∧ Zr (x5) ∧ Zr (m (x1 + 2) x3.toNat) ∧ ((((m (x1 + 2) x3.toNat) ≤ x5) → ((0 : Int) ≤ x2 ∧ (x2 : Int) < 80) ∧ ((0 : Int) ≤ x3 ∧ (x3 : Int) < 80) ∧ Zr (m (x1 + 1) x2.toNat) ∧ Zr (m (x1 + 1) x3.toNat) ∧ ((((m (x1 + 1) x3.toNat) < (m (x1 + 1) x2.toNat)) → post 1 m J P) ∧ (¬ ((m (x1 + 1) x3.toNat) < (m (x1 + 1) x2.toNat)) → Ci X (d + 1) 46 [.ref 5, .ref x1, .int (iz x2), .int (iz x3)] m J P (fun z22 m19 J20 P21 => PP P21 ∧ Zr (z22) ∧ (((z22 = 0) → post 0 m19 J20 P21) ∧ (¬ (z22 = 0) → post 1 m19 J20 P21)))))) ∧ (¬ ((m (x1 + 2) x3.toNat) ≤ x5) → Ci X (d + 1) 45 [.ref 5, .ref x1, .int (iz x2), .int (iz x5)] m J P (fun z28 m25 J26 P27 => PP P27 ∧ Zr (z28) ∧ (((¬ z28 = 0) → ((0 : Int) ≤ x5 ∧ (x5 : Int) < 80) ∧ Rn X (d + 2) 43 109 [some (.ref 5), some (.ref x1), some (.int (iz x2)), some (.int (iz x3)), some (.int (iz x4)), some (.int (iz (m25 (x1 + 2) x5.toNat))), some (.int (iz (x6 + 1)))] [] (SS m25 J26 P27) (QI post)) ∧ (¬ (¬ z28 = 0) → post 0 m25 J26 P27)))))))) : Rn X (d + 2) 43 109 [some (.ref 5), some (.ref x1), some (.int (iz x2)), some (.int (iz x3)), some (.int (iz x4)), some (.int (iz x5)), some (.int (iz x6))] [] (SS m J P) (QI post) := by
  refine s_iload (pc := 109) rfl rfl ?_
  refine s_iconst (pc := 111) rfl ?_
  obtain ⟨hz1, hw⟩ := hw
  refine s_ic_ge (pc := 112) (tgt := 154) rfl rfl hz1 (by decide) (fun hc => ?_) (fun hc => ?_)
  · replace hw := hw.1 hc
    refine s_aload_n (pc := 154) rfl rfl ?_
    refine s_getA (pc := 155) rfl kx1 (pc_8_0 hp kx1) ?_
    refine s_iload_n (pc := 158) rfl rfl ?_
    obtain ⟨hb2, hw⟩ := hw
    refine s_iald (pc := 159) rfl (kc_8_0 kx1) (by decide) hb2 ?_
    refine s_aload_n (pc := 160) rfl rfl ?_
    refine s_getA (pc := 161) rfl kx1 (pc_8_0 hp kx1) ?_
    refine s_iload_n (pc := 164) rfl rfl ?_
    obtain ⟨hb3, hw⟩ := hw
    refine s_iald (pc := 165) rfl (kc_8_0 kx1) (by decide) hb3 ?_
    obtain ⟨hz4, hw⟩ := hw
    obtain ⟨hz5, hw⟩ := hw
    refine s_ic_gt (pc := 166) (tgt := 179) rfl rfl hz4 hz5 (fun hc => ?_) (fun hc => ?_)
    · replace hw := hw.1 hc
      refine s_iconst (pc := 179) rfl ?_
      refine s_goto (pc := 180) (tgt := 184) rfl rfl ?_
      exact s_retz (pc := 184) rfl rfl (by decide) hw
    · replace hw := hw.2 hc
      refine s_aload_n (pc := 169) rfl rfl ?_
      refine s_aload_n (pc := 170) rfl rfl ?_
      refine s_iload_n (pc := 171) rfl rfl ?_
      refine s_iload_n (pc := 172) rfl rfl ?_
      refine s_ci (pc := 173) (d := (d + 1)) (t := []) rfl rfl (am_ca_v (ps := [.int (iz x3), .int (iz x2), .ref x1]) rfl ko_5) (Nat.le_of_ble_eq_true rfl) (Ci.weak hw fun z9 m6 J7 P8 hw => ?_)
      obtain ⟨hp10, hw⟩ := hw
      obtain ⟨hz11, hw⟩ := hw
      refine s_if_eq (pc := 176) (tgt := 183) rfl rfl hz11 (fun hc => ?_) (fun hc => ?_)
      · replace hw := hw.1 hc
        refine s_iconst (pc := 183) rfl ?_
        exact s_retz (pc := 184) rfl rfl (by decide) hw
      · replace hw := hw.2 hc
        refine s_iconst (pc := 179) rfl ?_
        refine s_goto (pc := 180) (tgt := 184) rfl rfl ?_
        exact s_retz (pc := 184) rfl rfl (by decide) hw
  · replace hw := hw.2 hc
    refine s_iload (pc := 115) rfl rfl ?_
    refine s_aload_n (pc := 117) rfl rfl ?_
    refine s_getA (pc := 118) rfl kx1 (pc_8_1 hp kx1) ?_
    refine s_iload_n (pc := 121) rfl rfl ?_
    obtain ⟨hb12, hw⟩ := hw
    refine s_iald (pc := 122) rfl (kc_8_1 kx1) (by decide) hb12 ?_
    obtain ⟨hz13, hw⟩ := hw
    obtain ⟨hz14, hw⟩ := hw
    refine s_ic_ge (pc := 123) (tgt := 154) rfl rfl hz13 hz14 (fun hc => ?_) (fun hc => ?_)
    · replace hw := hw.1 hc
      refine s_aload_n (pc := 154) rfl rfl ?_
      refine s_getA (pc := 155) rfl kx1 (pc_8_0 hp kx1) ?_
      refine s_iload_n (pc := 158) rfl rfl ?_
      obtain ⟨hb15, hw⟩ := hw
      refine s_iald (pc := 159) rfl (kc_8_0 kx1) (by decide) hb15 ?_
      refine s_aload_n (pc := 160) rfl rfl ?_
      refine s_getA (pc := 161) rfl kx1 (pc_8_0 hp kx1) ?_
      refine s_iload_n (pc := 164) rfl rfl ?_
      obtain ⟨hb16, hw⟩ := hw
      refine s_iald (pc := 165) rfl (kc_8_0 kx1) (by decide) hb16 ?_
      obtain ⟨hz17, hw⟩ := hw
      obtain ⟨hz18, hw⟩ := hw
      refine s_ic_gt (pc := 166) (tgt := 179) rfl rfl hz17 hz18 (fun hc => ?_) (fun hc => ?_)
      · replace hw := hw.1 hc
        refine s_iconst (pc := 179) rfl ?_
        refine s_goto (pc := 180) (tgt := 184) rfl rfl ?_
        exact s_retz (pc := 184) rfl rfl (by decide) hw
      · replace hw := hw.2 hc
        refine s_aload_n (pc := 169) rfl rfl ?_
        refine s_aload_n (pc := 170) rfl rfl ?_
        refine s_iload_n (pc := 171) rfl rfl ?_
        refine s_iload_n (pc := 172) rfl rfl ?_
        refine s_ci (pc := 173) (d := (d + 1)) (t := []) rfl rfl (am_ca_v (ps := [.int (iz x3), .int (iz x2), .ref x1]) rfl ko_5) (Nat.le_of_ble_eq_true rfl) (Ci.weak hw fun z22 m19 J20 P21 hw => ?_)
        obtain ⟨hp23, hw⟩ := hw
        obtain ⟨hz24, hw⟩ := hw
        refine s_if_eq (pc := 176) (tgt := 183) rfl rfl hz24 (fun hc => ?_) (fun hc => ?_)
        · replace hw := hw.1 hc
          refine s_iconst (pc := 183) rfl ?_
          exact s_retz (pc := 184) rfl rfl (by decide) hw
        · replace hw := hw.2 hc
          refine s_iconst (pc := 179) rfl ?_
          refine s_goto (pc := 180) (tgt := 184) rfl rfl ?_
          exact s_retz (pc := 184) rfl rfl (by decide) hw
    · replace hw := hw.2 hc
      refine s_aload_n (pc := 126) rfl rfl ?_
      refine s_aload_n (pc := 127) rfl rfl ?_
      refine s_iload_n (pc := 128) rfl rfl ?_
      refine s_iload (pc := 129) rfl rfl ?_
      refine s_ci (pc := 131) (d := (d + 1)) (t := []) rfl rfl (am_ca_v (ps := [.int (iz x5), .int (iz x2), .ref x1]) rfl ko_5) (Nat.le_of_ble_eq_true rfl) (Ci.weak hw fun z28 m25 J26 P27 hw => ?_)
      obtain ⟨hp29, hw⟩ := hw
      obtain ⟨hz30, hw⟩ := hw
      refine s_if_ne (pc := 134) (tgt := 139) rfl rfl hz30 (fun hc => ?_) (fun hc => ?_)
      · replace hw := hw.1 hc
        refine s_aload_n (pc := 139) rfl rfl ?_
        refine s_getA (pc := 140) rfl kx1 (pc_8_1 hp29 kx1) ?_
        refine s_iload (pc := 143) rfl rfl ?_
        obtain ⟨hb31, hw⟩ := hw
        refine s_iald (pc := 145) rfl (kc_8_1 kx1) (by decide) hb31 ?_
        refine s_istore (pc := 146) (L' := [some (.ref 5), some (.ref x1), some (.int (iz x2)), some (.int (iz x3)), some (.int (iz x4)), some (.int (iz (m25 (x1 + 2) x5.toNat))), some (.int (iz x6))]) rfl (Nat.le_of_ble_eq_true rfl) rfl ?_
        refine s_iinc (pc := 148) (L' := [some (.ref 5), some (.ref x1), some (.int (iz x2)), some (.int (iz x3)), some (.int (iz x4)), some (.int (iz (m25 (x1 + 2) x5.toNat))), some (.int (iz (x6 + 1)))]) rfl rfl (Nat.le_of_ble_eq_true rfl) rfl ?_
        refine s_goto (pc := 151) (tgt := 109) rfl rfl ?_
        exact hw
      · replace hw := hw.2 hc
        refine s_iconst (pc := 137) rfl ?_
        exact s_retz (pc := 138) rfl rfl (by decide) hw

set_option maxRecDepth 20000 in
set_option maxHeartbeats 4000000 in
theorem b_Order_isSame_0 {X : aX} {d : Nat} (x1 : Nat) (x2 : Int) (x3 : Int) (kx1 : am_kd an_K x1 = some (.inl 8)) (m : Mi) (J : Mj) (P : Mp) (hp : PP P) (post : Int → Mi → Mj → Mp → Prop)
    (hw : ((0 : Int) ≤ x2 ∧ (x2 : Int) < 80) ∧ ((0 : Int) ≤ x3 ∧ (x3 : Int) < 80) ∧ Zr ((m (x1 + 2) x2.toNat) - x2) ∧ Zr ((m (x1 + 2) x3.toNat) - x3) ∧ (((((m (x1 + 2) x2.toNat) - x2) = ((m (x1 + 2) x3.toNat) - x3)) → Rn X d 44 28 [some (.ref 5), some (.ref x1), some (.int (iz x2)), some (.int (iz x3)), some (.int (iz ((m (x1 + 2) x2.toNat) - x2))), some (.int (iz 0))] [] (SS m J P) (QI post)) ∧ (¬ (((m (x1 + 2) x2.toNat) - x2) = ((m (x1 + 2) x3.toNat) - x3)) → post 0 m J P))) : Rn X d 44 0 [some (.ref 5), some (.ref x1), some (.int (iz x2)), some (.int (iz x3)), none, none] [] (SS m J P) (QI post) := by
  refine s_aload_n (pc := 0) rfl rfl ?_
  refine s_getA (pc := 1) rfl kx1 (pc_8_1 hp kx1) ?_
  refine s_iload_n (pc := 4) rfl rfl ?_
  obtain ⟨hb1, hw⟩ := hw
  refine s_iald (pc := 5) rfl (kc_8_1 kx1) (by decide) hb1 ?_
  refine s_iload_n (pc := 6) rfl rfl ?_
  refine s_isub (pc := 7) rfl ?_
  refine s_istore (pc := 8) (L' := [some (.ref 5), some (.ref x1), some (.int (iz x2)), some (.int (iz x3)), some (.int (iz ((m (x1 + 2) x2.toNat) - x2))), none]) rfl (Nat.le_of_ble_eq_true rfl) rfl ?_
  refine s_iload (pc := 10) rfl rfl ?_
  refine s_aload_n (pc := 12) rfl rfl ?_
  refine s_getA (pc := 13) rfl kx1 (pc_8_1 hp kx1) ?_
  refine s_iload_n (pc := 16) rfl rfl ?_
  obtain ⟨hb2, hw⟩ := hw
  refine s_iald (pc := 17) rfl (kc_8_1 kx1) (by decide) hb2 ?_
  refine s_iload_n (pc := 18) rfl rfl ?_
  refine s_isub (pc := 19) rfl ?_
  obtain ⟨hz3, hw⟩ := hw
  obtain ⟨hz4, hw⟩ := hw
  refine s_ic_eq (pc := 20) (tgt := 25) rfl rfl hz3 hz4 (fun hc => ?_) (fun hc => ?_)
  · replace hw := hw.1 hc
    refine s_iconst (pc := 25) rfl ?_
    refine s_istore (pc := 26) (L' := [some (.ref 5), some (.ref x1), some (.int (iz x2)), some (.int (iz x3)), some (.int (iz ((m (x1 + 2) x2.toNat) - x2))), some (.int (iz 0))]) rfl (Nat.le_of_ble_eq_true rfl) rfl ?_
    exact hw
  · replace hw := hw.2 hc
    refine s_iconst (pc := 23) rfl ?_
    exact s_retz (pc := 24) rfl rfl (by decide) hw

set_option maxRecDepth 20000 in
set_option maxHeartbeats 4000000 in
theorem b_Order_isSame_28 {X : aX} {d : Nat} (x1 : Nat) (x2 : Int) (x3 : Int) (x4 : Int) (x5 : Int) (kx1 : am_kd an_K x1 = some (.inl 8)) (m : Mi) (J : Mj) (P : Mp) (hp : PP P) (post : Int → Mi → Mj → Mp → Prop)
    (hw : Zr (x5) ∧ Zr (x4) ∧ (((x4 ≤ x5) → post 1 m J P) ∧ (¬ (x4 ≤ x5) → ((0 : Int) ≤ (x2 + x5) ∧ ((x2 + x5) : Int) < 80) ∧ ((0 : Int) ≤ (x3 + x5) ∧ ((x3 + x5) : Int) < 80) ∧ Zr (m (x1 + 1) (x2 + x5).toNat) ∧ Zr (m (x1 + 1) (x3 + x5).toNat) ∧ ((((m (x1 + 1) (x2 + x5).toNat) = (m (x1 + 1) (x3 + x5).toNat)) → Rn X d 44 28 [some (.ref 5), some (.ref x1), some (.int (iz x2)), some (.int (iz x3)), some (.int (iz x4)), some (.int (iz (x5 + 1)))] [] (SS m J P) (QI post)) ∧ (¬ ((m (x1 + 1) (x2 + x5).toNat) = (m (x1 + 1) (x3 + x5).toNat)) → post 0 m J P))))) : Rn X d 44 28 [some (.ref 5), some (.ref x1), some (.int (iz x2)), some (.int (iz x3)), some (.int (iz x4)), some (.int (iz x5))] [] (SS m J P) (QI post) := by
  refine s_iload (pc := 28) rfl rfl ?_
  refine s_iload (pc := 30) rfl rfl ?_
  obtain ⟨hz1, hw⟩ := hw
  obtain ⟨hz2, hw⟩ := hw
  refine s_ic_ge (pc := 32) (tgt := 64) rfl rfl hz1 hz2 (fun hc => ?_) (fun hc => ?_)
  · replace hw := hw.1 hc
    refine s_iconst (pc := 64) rfl ?_
    exact s_retz (pc := 65) rfl rfl (by decide) hw
  · replace hw := hw.2 hc
    refine s_aload_n (pc := 35) rfl rfl ?_
    refine s_getA (pc := 36) rfl kx1 (pc_8_0 hp kx1) ?_
    refine s_iload_n (pc := 39) rfl rfl ?_
    refine s_iload (pc := 40) rfl rfl ?_
    refine s_iadd (pc := 42) rfl ?_
    obtain ⟨hb3, hw⟩ := hw
    refine s_iald (pc := 43) rfl (kc_8_0 kx1) (by decide) hb3 ?_
    refine s_aload_n (pc := 44) rfl rfl ?_
    refine s_getA (pc := 45) rfl kx1 (pc_8_0 hp kx1) ?_
    refine s_iload_n (pc := 48) rfl rfl ?_
    refine s_iload (pc := 49) rfl rfl ?_
    refine s_iadd (pc := 51) rfl ?_
    obtain ⟨hb4, hw⟩ := hw
    refine s_iald (pc := 52) rfl (kc_8_0 kx1) (by decide) hb4 ?_
    obtain ⟨hz5, hw⟩ := hw
    obtain ⟨hz6, hw⟩ := hw
    refine s_ic_eq (pc := 53) (tgt := 58) rfl rfl hz5 hz6 (fun hc => ?_) (fun hc => ?_)
    · replace hw := hw.1 hc
      refine s_iinc (pc := 58) (L' := [some (.ref 5), some (.ref x1), some (.int (iz x2)), some (.int (iz x3)), some (.int (iz x4)), some (.int (iz (x5 + 1)))]) rfl rfl (Nat.le_of_ble_eq_true rfl) rfl ?_
      refine s_goto (pc := 61) (tgt := 28) rfl rfl ?_
      exact hw
    · replace hw := hw.2 hc
      refine s_iconst (pc := 56) rfl ?_
      exact s_retz (pc := 57) rfl rfl (by decide) hw

set_option maxRecDepth 20000 in
set_option maxHeartbeats 4000000 in
theorem b_Order_isAboveAt_0 {X : aX} {d : Nat} (x1 : Nat) (x2 : Int) (x3 : Int) (kx1 : am_kd an_K x1 = some (.inl 8)) (m : Mi) (J : Mj) (P : Mp) (hp : PP P) (post : Int → Mi → Mj → Mp → Prop)
    (hw : ((0 : Int) ≤ (((x2 * 40) + x3) - (m x1 5)) ∧ ((((x2 * 40) + x3) - (m x1 5)) : Int) < 1600) ∧ ((m 6 (((x2 * 40) + x3) - (m x1 5)).toNat) = 0 ∨ (m 6 (((x2 * 40) + x3) - (m x1 5)).toNat) = 1) ∧ post (m 6 (((x2 * 40) + x3) - (m x1 5)).toNat) m J P) : Rn X d 45 0 [some (.ref 5), some (.ref x1), some (.int (iz x2)), some (.int (iz x3))] [] (SS m J P) (QI post) := by
  refine s_aload_n (pc := 0) rfl rfl ?_
  refine s_getA (pc := 1) rfl ko_5 (po_5_0 hp) ?_
  refine s_iload_n (pc := 4) rfl rfl ?_
  refine s_bipush (pc := 5) rfl (by decide) ?_
  refine s_imul (pc := 7) rfl ?_
  refine s_iload_n (pc := 8) rfl rfl ?_
  refine s_iadd (pc := 9) rfl ?_
  refine s_aload_n (pc := 10) rfl rfl ?_
  refine s_getI (pc := 11) rfl kx1 ?_
  refine s_isub (pc := 14) rfl ?_
  obtain ⟨hb1, hw⟩ := hw
  refine s_bald (pc := 15) rfl ka_6 (by decide) (by decide) hb1 ?_
  exact s_retz (pc := 16) rfl rfl hw.1 hw.2

set_option maxRecDepth 20000 in
set_option maxHeartbeats 4000000 in
theorem b_Order_isAboveInArguments_0 {X : aX} {d : Nat} (x1 : Nat) (x2 : Int) (x3 : Int) (kx1 : am_kd an_K x1 = some (.inl 8)) (m : Mi) (J : Mj) (P : Mp) (hp : PP P) (post : Int → Mi → Mj → Mp → Prop)
    (hw : Rn X (d + 1) 46 13 [some (.ref 5), some (.ref x1), some (.int (iz x2)), some (.int (iz x3)), some (.int (iz (x2 + 1))), some (.int (iz (x3 + 1))), some (.int (iz 0))] [] (SS m J P) (QI post)) : Rn X (d + 1) 46 0 [some (.ref 5), some (.ref x1), some (.int (iz x2)), some (.int (iz x3)), none, none, none] [] (SS m J P) (QI post) := by
  refine s_iload_n (pc := 0) rfl rfl ?_
  refine s_iconst (pc := 1) rfl ?_
  refine s_iadd (pc := 2) rfl ?_
  refine s_istore (pc := 3) (L' := [some (.ref 5), some (.ref x1), some (.int (iz x2)), some (.int (iz x3)), some (.int (iz (x2 + 1))), none, none]) rfl (Nat.le_of_ble_eq_true rfl) rfl ?_
  refine s_iload_n (pc := 5) rfl rfl ?_
  refine s_iconst (pc := 6) rfl ?_
  refine s_iadd (pc := 7) rfl ?_
  refine s_istore (pc := 8) (L' := [some (.ref 5), some (.ref x1), some (.int (iz x2)), some (.int (iz x3)), some (.int (iz (x2 + 1))), some (.int (iz (x3 + 1))), none]) rfl (Nat.le_of_ble_eq_true rfl) rfl ?_
  refine s_iconst (pc := 10) rfl ?_
  refine s_istore (pc := 11) (L' := [some (.ref 5), some (.ref x1), some (.int (iz x2)), some (.int (iz x3)), some (.int (iz (x2 + 1))), some (.int (iz (x3 + 1))), some (.int (iz 0))]) rfl (Nat.le_of_ble_eq_true rfl) rfl ?_
  exact hw

set_option maxRecDepth 20000 in
set_option maxHeartbeats 4000000 in
theorem b_Order_isAboveInArguments_13 {X : aX} {d : Nat} (x1 : Nat) (x2 : Int) (x3 : Int) (x4 : Int) (x5 : Int) (x6 : Int) (kx1 : am_kd an_K x1 = some (.inl 8)) (m : Mi) (J : Mj) (P : Mp) (hp : PP P) (post : Int → Mi → Mj → Mp → Prop)
    (hw : Zr (x6) ∧ (((4 ≤ x6) → post 0 m J P) ∧ (¬ (4 ≤ x6) → ((0 : Int) ≤ x2 ∧ (x2 : Int) < 80) ∧ Zr (x4) ∧ Zr (m (x1 + 2) x2.toNat) ∧ ((((m (x1 + 2) x2.toNat) ≤ x4) → post 0 m J P) ∧ (¬ ((m (x1 + 2) x2.toNat) ≤ x4) → ((0 : Int) ≤ x3 ∧ (x3 : Int) < 80) ∧ Zr (x5) ∧ Zr (m (x1 + 2) x3.toNat) ∧ ((((m (x1 + 2) x3.toNat) ≤ x5) → post 0 m J P) ∧ (¬ ((m (x1 + 2) x3.toNat) ≤ x5) → Ci X d 44 [.ref 5, .ref x1, .int (iz x4), .int (iz x5)] m J P (fun z11 m8 J9 P10 => PP P10 ∧ Zr (z11) ∧ (((¬ z11 = 0) → ((0 : Int) ≤ x4 ∧ (x4 : Int) < 80) ∧ ((0 : Int) ≤ x5 ∧ (x5 : Int) < 80) ∧ Rn X (d + 1) 46 13 [some (.ref 5), some (.ref x1), some (.int (iz x2)), some (.int (iz x3)), some (.int (iz (m8 (x1 + 2) x4.toNat))), some (.int (iz (m8 (x1 + 2) x5.toNat))), some (.int (iz (x6 + 1)))] [] (SS m8 J9 P10) (QI post)) ∧ (¬ (¬ z11 = 0) → Ci X d 45 [.ref 5, .ref x1, .int (iz x4), .int (iz x5)] m8 J9 P10 (fun z19 m16 J17 P18 => PP P18 ∧ (z19 = 0 ∨ z19 = 1) ∧ post z19 m16 J17 P18))))))))))) : Rn X (d + 1) 46 13 [some (.ref 5), some (.ref x1), some (.int (iz x2)), some (.int (iz x3)), some (.int (iz x4)), some (.int (iz x5)), some (.int (iz x6))] [] (SS m J P) (QI post) := by
  refine s_iload (pc := 13) rfl rfl ?_
  refine s_iconst (pc := 15) rfl ?_
  obtain ⟨hz1, hw⟩ := hw
  refine s_ic_ge (pc := 16) (tgt := 87) rfl rfl hz1 (by decide) (fun hc => ?_) (fun hc => ?_)
  · replace hw := hw.1 hc
    refine s_iconst (pc := 87) rfl ?_
    exact s_retz (pc := 88) rfl rfl (by decide) hw
  · replace hw := hw.2 hc
    refine s_iload (pc := 19) rfl rfl ?_
    refine s_aload_n (pc := 21) rfl rfl ?_
    refine s_getA (pc := 22) rfl kx1 (pc_8_1 hp kx1) ?_
    refine s_iload_n (pc := 25) rfl rfl ?_
    obtain ⟨hb2, hw⟩ := hw
    refine s_iald (pc := 26) rfl (kc_8_1 kx1) (by decide) hb2 ?_
    obtain ⟨hz3, hw⟩ := hw
    obtain ⟨hz4, hw⟩ := hw
    refine s_ic_ge (pc := 27) (tgt := 87) rfl rfl hz3 hz4 (fun hc => ?_) (fun hc => ?_)
    · replace hw := hw.1 hc
      refine s_iconst (pc := 87) rfl ?_
      exact s_retz (pc := 88) rfl rfl (by decide) hw
    · replace hw := hw.2 hc
      refine s_iload (pc := 30) rfl rfl ?_
      refine s_aload_n (pc := 32) rfl rfl ?_
      refine s_getA (pc := 33) rfl kx1 (pc_8_1 hp kx1) ?_
      refine s_iload_n (pc := 36) rfl rfl ?_
      obtain ⟨hb5, hw⟩ := hw
      refine s_iald (pc := 37) rfl (kc_8_1 kx1) (by decide) hb5 ?_
      obtain ⟨hz6, hw⟩ := hw
      obtain ⟨hz7, hw⟩ := hw
      refine s_ic_ge (pc := 38) (tgt := 87) rfl rfl hz6 hz7 (fun hc => ?_) (fun hc => ?_)
      · replace hw := hw.1 hc
        refine s_iconst (pc := 87) rfl ?_
        exact s_retz (pc := 88) rfl rfl (by decide) hw
      · replace hw := hw.2 hc
        refine s_aload_n (pc := 41) rfl rfl ?_
        refine s_aload_n (pc := 42) rfl rfl ?_
        refine s_iload (pc := 43) rfl rfl ?_
        refine s_iload (pc := 45) rfl rfl ?_
        refine s_ci (pc := 47) (d := d) (t := []) rfl rfl (am_ca_v (ps := [.int (iz x5), .int (iz x4), .ref x1]) rfl ko_5) (Nat.le_of_ble_eq_true rfl) (Ci.weak hw fun z11 m8 J9 P10 hw => ?_)
        obtain ⟨hp12, hw⟩ := hw
        obtain ⟨hz13, hw⟩ := hw
        refine s_if_ne (pc := 50) (tgt := 63) rfl rfl hz13 (fun hc => ?_) (fun hc => ?_)
        · replace hw := hw.1 hc
          refine s_aload_n (pc := 63) rfl rfl ?_
          refine s_getA (pc := 64) rfl kx1 (pc_8_1 hp12 kx1) ?_
          refine s_iload (pc := 67) rfl rfl ?_
          obtain ⟨hb14, hw⟩ := hw
          refine s_iald (pc := 69) rfl (kc_8_1 kx1) (by decide) hb14 ?_
          refine s_istore (pc := 70) (L' := [some (.ref 5), some (.ref x1), some (.int (iz x2)), some (.int (iz x3)), some (.int (iz (m8 (x1 + 2) x4.toNat))), some (.int (iz x5)), some (.int (iz x6))]) rfl (Nat.le_of_ble_eq_true rfl) rfl ?_
          refine s_aload_n (pc := 72) rfl rfl ?_
          refine s_getA (pc := 73) rfl kx1 (pc_8_1 hp12 kx1) ?_
          refine s_iload (pc := 76) rfl rfl ?_
          obtain ⟨hb15, hw⟩ := hw
          refine s_iald (pc := 78) rfl (kc_8_1 kx1) (by decide) hb15 ?_
          refine s_istore (pc := 79) (L' := [some (.ref 5), some (.ref x1), some (.int (iz x2)), some (.int (iz x3)), some (.int (iz (m8 (x1 + 2) x4.toNat))), some (.int (iz (m8 (x1 + 2) x5.toNat))), some (.int (iz x6))]) rfl (Nat.le_of_ble_eq_true rfl) rfl ?_
          refine s_iinc (pc := 81) (L' := [some (.ref 5), some (.ref x1), some (.int (iz x2)), some (.int (iz x3)), some (.int (iz (m8 (x1 + 2) x4.toNat))), some (.int (iz (m8 (x1 + 2) x5.toNat))), some (.int (iz (x6 + 1)))]) rfl rfl (Nat.le_of_ble_eq_true rfl) rfl ?_
          refine s_goto (pc := 84) (tgt := 13) rfl rfl ?_
          exact hw
        · replace hw := hw.2 hc
          refine s_aload_n (pc := 53) rfl rfl ?_
          refine s_aload_n (pc := 54) rfl rfl ?_
          refine s_iload (pc := 55) rfl rfl ?_
          refine s_iload (pc := 57) rfl rfl ?_
          refine s_ci (pc := 59) (d := d) (t := []) rfl rfl (am_ca_v (ps := [.int (iz x5), .int (iz x4), .ref x1]) rfl ko_5) (Nat.le_of_ble_eq_true rfl) (Ci.weak hw fun z19 m16 J17 P18 hw => ?_)
          obtain ⟨hp20, hw⟩ := hw
          exact s_retz (pc := 62) rfl rfl hw.1 hw.2

set_option maxRecDepth 20000 in
set_option maxHeartbeats 4000000 in
theorem b_Reducer_prepare_0 {X : aX} {d : Nat} (x1 : Nat) (kx1 : am_kd an_K x1 = some (.inl 10)) (m : Mi) (J : Mj) (P : Mp) (hp : PP P) (post : Mi → Mj → Mp → Prop)
    (hw : Rn X (d + 2) 47 2 [some (.ref 28), some (.ref x1), some (.int (iz 0)), none] [] (SS m J P) (QV post)) : Rn X (d + 2) 47 0 [some (.ref 28), some (.ref x1), none, none] [] (SS m J P) (QV post) := by
  refine s_iconst (pc := 0) rfl ?_
  refine s_istore_n (pc := 1) (L' := [some (.ref 28), some (.ref x1), some (.int (iz 0)), none]) rfl (Nat.le_of_ble_eq_true rfl) rfl ?_
  exact hw

set_option maxRecDepth 20000 in
set_option maxHeartbeats 4000000 in
theorem b_Reducer_prepare_2 {X : aX} {d : Nat} (x1 : Nat) (x2 : Int) (kx1 : am_kd an_K x1 = some (.inl 10)) (m : Mi) (J : Mj) (P : Mp) (hp : PP P) (post : Mi → Mj → Mp → Prop)
    (hw : Zr (x2) ∧ Zr (m x1 5) ∧ ((((m x1 5) ≤ x2) → post m J P) ∧ (¬ ((m x1 5) ≤ x2) → ((0 : Int) ≤ x2 ∧ (x2 : Int) < 16) ∧ Cv X (d + 1) 48 [.ref 28, .ref (x1 + 5 + 6 * x2.toNat + 1), .int (iz 0), .int (iz (m (x1 + 5 + 6 * x2.toNat) 5)), .ref (x1 + 5 + 6 * x2.toNat + 4), .int (iz 0), .ref x1] m J P (fun m4 J5 P6 => PP P6 ∧ Cv X (d + 1) 48 [.ref 28, .ref (x1 + 5 + 6 * x2.toNat + 1), .int (iz (m4 (x1 + 5 + 6 * x2.toNat) 5)), .int (iz ((m4 (x1 + 5 + 6 * x2.toNat) 6) - (m4 (x1 + 5 + 6 * x2.toNat) 5))), .ref (x1 + 5 + 6 * x2.toNat + 4), .int (iz (m4 (x1 + 5 + 6 * x2.toNat) 5)), .ref x1] m4 J5 P6 (fun m9 J10 P11 => PP P11 ∧ Rn X (d + 2) 47 2 [some (.ref 28), some (.ref x1), some (.int (iz (x2 + 1))), none] [] (SS m9 J10 P11) (QV post)))))) : Rn X (d + 2) 47 2 [some (.ref 28), some (.ref x1), some (.int (iz x2)), none] [] (SS m J P) (QV post) := by
  refine s_iload_n (pc := 2) rfl rfl ?_
  refine s_aload_n (pc := 3) rfl rfl ?_
  refine s_getI (pc := 4) rfl kx1 ?_
  obtain ⟨hz1, hw⟩ := hw
  obtain ⟨hz2, hw⟩ := hw
  refine s_ic_ge (pc := 7) (tgt := 72) rfl rfl hz1 hz2 (fun hc => ?_) (fun hc => ?_)
  · replace hw := hw.1 hc
    exact s_retv (pc := 72) rfl rfl hw
  · replace hw := hw.2 hc
    refine s_aload_n (pc := 10) rfl rfl ?_
    refine s_getA (pc := 11) rfl kx1 (pc_10_3 hp kx1) ?_
    refine s_iload_n (pc := 14) rfl rfl ?_
    obtain ⟨hb3, hw⟩ := hw
    refine s_aald (pc := 15) rfl (kc_10_3 kx1) (by decide) hb3 (pr hp kx1 hb3) ?_
    refine s_astore_n (pc := 16) (L' := [some (.ref 28), some (.ref x1), some (.int (iz x2)), some (.ref (x1 + 5 + 6 * x2.toNat))]) rfl (Nat.le_of_ble_eq_true rfl) rfl ?_
    refine s_aload_n (pc := 17) rfl rfl ?_
    refine s_aload_n (pc := 18) rfl rfl ?_
    refine s_getA (pc := 19) rfl (kr kx1 hb3) (pc_8_0 hp (kr kx1 hb3)) ?_
    refine s_iconst (pc := 22) rfl ?_
    refine s_aload_n (pc := 23) rfl rfl ?_
    refine s_getI (pc := 24) rfl (kr kx1 hb3) ?_
    refine s_aload_n (pc := 27) rfl rfl ?_
    refine s_getA (pc := 28) rfl (kr kx1 hb3) (pc_8_3 hp (kr kx1 hb3)) ?_
    refine s_iconst (pc := 31) rfl ?_
    refine s_aload_n (pc := 32) rfl rfl ?_
    refine s_cv (pc := 33) (d := (d + 1)) (t := []) rfl rfl (am_ca_v (ps := [.ref x1, .int (iz 0), .ref (x1 + 5 + 6 * x2.toNat + 4), .int (iz (m (x1 + 5 + 6 * x2.toNat) 5)), .int (iz 0), .ref (x1 + 5 + 6 * x2.toNat + 1)]) rfl ko_28) (Nat.le_of_ble_eq_true rfl) (Cv.weak hw fun m4 J5 P6 hw => ?_)
    obtain ⟨hp8, hw⟩ := hw
    refine s_aload_n (pc := 36) rfl rfl ?_
    refine s_aload_n (pc := 37) rfl rfl ?_
    refine s_getA (pc := 38) rfl (kr kx1 hb3) (pc_8_0 hp8 (kr kx1 hb3)) ?_
    refine s_aload_n (pc := 41) rfl rfl ?_
    refine s_getI (pc := 42) rfl (kr kx1 hb3) ?_
    refine s_aload_n (pc := 45) rfl rfl ?_
    refine s_getI (pc := 46) rfl (kr kx1 hb3) ?_
    refine s_aload_n (pc := 49) rfl rfl ?_
    refine s_getI (pc := 50) rfl (kr kx1 hb3) ?_
    refine s_isub (pc := 53) rfl ?_
    refine s_aload_n (pc := 54) rfl rfl ?_
    refine s_getA (pc := 55) rfl (kr kx1 hb3) (pc_8_3 hp8 (kr kx1 hb3)) ?_
    refine s_aload_n (pc := 58) rfl rfl ?_
    refine s_getI (pc := 59) rfl (kr kx1 hb3) ?_
    refine s_aload_n (pc := 62) rfl rfl ?_
    refine s_cv (pc := 63) (d := (d + 1)) (t := []) rfl rfl (am_ca_v (ps := [.ref x1, .int (iz (m4 (x1 + 5 + 6 * x2.toNat) 5)), .ref (x1 + 5 + 6 * x2.toNat + 4), .int (iz ((m4 (x1 + 5 + 6 * x2.toNat) 6) - (m4 (x1 + 5 + 6 * x2.toNat) 5))), .int (iz (m4 (x1 + 5 + 6 * x2.toNat) 5)), .ref (x1 + 5 + 6 * x2.toNat + 1)]) rfl ko_28) (Nat.le_of_ble_eq_true rfl) (Cv.weak hw fun m9 J10 P11 hw => ?_)
    obtain ⟨hp13, hw⟩ := hw
    refine s_iinc (pc := 66) (L' := [some (.ref 28), some (.ref x1), some (.int (iz (x2 + 1))), some (.ref (x1 + 5 + 6 * x2.toNat))]) rfl rfl (Nat.le_of_ble_eq_true rfl) rfl ?_
    refine s_goto (pc := 69) (tgt := 2) rfl rfl ?_
    exact Rn.weakL hw (LLe.keep _ (LLe.keep _ (LLe.keep _ (LLe.drop _ (LLe.nil)))))

set_option maxRecDepth 20000 in
set_option maxHeartbeats 4000000 in
theorem b_Reducer_mirror_0 {X : aX} {d : Nat} (x1 nx1 : Nat) (x2 : Int) (x3 : Int) (x4 nx4 : Nat) (x5 : Int) (x6 : Nat) (kx1 : am_kd an_K x1 = some (.inr (0, nx1))) (bx1 : nx1 ≤ 100000) (kx4 : am_kd an_K x4 = some (.inr (0, nx4))) (bx4 : nx4 ≤ 100000) (kx6 : am_kd an_K x6 = some (.inl 10)) (m : Mi) (J : Mj) (P : Mp) (hp : PP P) (post : Mi → Mj → Mp → Prop)
    (hw : Zr (x3) ∧ (((200 < x3) → post m J P) ∧ (¬ (200 < x3) → Zr (x2 + x3) ∧ Zr ((nx1 : Int)) ∧ (((((nx1 : Int)) < (x2 + x3)) → post m J P) ∧ (¬ (((nx1 : Int)) < (x2 + x3)) → Zr (x5 + x3) ∧ Zr ((nx4 : Int)) ∧ ((((x5 + x3) ≤ ((nx4 : Int))) → Rn X (d + 1) 48 31 [some (.ref 28), some (.ref x1), some (.int (iz x2)), some (.int (iz x3)), some (.ref x4), some (.int (iz x5)), some (.ref x6), some (.int (iz (x3 - 1))), none, none, none] [] (SS m J P) (QV post)) ∧ (¬ ((x5 + x3) ≤ ((nx4 : Int))) → post m J P))))))) : Rn X (d + 1) 48 0 [some (.ref 28), some (.ref x1), some (.int (iz x2)), some (.int (iz x3)), some (.ref x4), some (.int (iz x5)), some (.ref x6), none, none, none, none] [] (SS m J P) (QV post) := by
  refine s_iload_n (pc := 0) rfl rfl ?_
  refine s_sipush (pc := 1) rfl (by decide) ?_
  obtain ⟨hz1, hw⟩ := hw
  refine s_ic_gt (pc := 4) (tgt := 25) rfl rfl hz1 (by decide) (fun hc => ?_) (fun hc => ?_)
  · replace hw := hw.1 hc
    exact s_retv (pc := 25) rfl rfl hw
  · replace hw := hw.2 hc
    refine s_iload_n (pc := 7) rfl rfl ?_
    refine s_iload_n (pc := 8) rfl rfl ?_
    refine s_iadd (pc := 9) rfl ?_
    refine s_aload_n (pc := 10) rfl rfl ?_
    refine s_alen (pc := 11) rfl kx1 (by decide) ?_
    obtain ⟨hz2, hw⟩ := hw
    obtain ⟨hz3, hw⟩ := hw
    refine s_ic_gt (pc := 12) (tgt := 25) rfl rfl hz2 hz3 (fun hc => ?_) (fun hc => ?_)
    · replace hw := hw.1 hc
      exact s_retv (pc := 25) rfl rfl hw
    · replace hw := hw.2 hc
      refine s_iload (pc := 15) rfl rfl ?_
      refine s_iload_n (pc := 17) rfl rfl ?_
      refine s_iadd (pc := 18) rfl ?_
      refine s_aload (pc := 19) rfl rfl ?_
      refine s_alen (pc := 21) rfl kx4 (by decide) ?_
      obtain ⟨hz4, hw⟩ := hw
      obtain ⟨hz5, hw⟩ := hw
      refine s_ic_le (pc := 22) (tgt := 26) rfl rfl hz4 hz5 (fun hc => ?_) (fun hc => ?_)
      · replace hw := hw.1 hc
        refine s_iload_n (pc := 26) rfl rfl ?_
        refine s_iconst (pc := 27) rfl ?_
        refine s_isub (pc := 28) rfl ?_
        refine s_istore (pc := 29) (L' := [some (.ref 28), some (.ref x1), some (.int (iz x2)), some (.int (iz x3)), some (.ref x4), some (.int (iz x5)), some (.ref x6), some (.int (iz (x3 - 1))), none, none, none]) rfl (Nat.le_of_ble_eq_true rfl) rfl ?_
        exact hw
      · replace hw := hw.2 hc
        exact s_retv (pc := 25) rfl rfl hw

set_option maxRecDepth 20000 in
set_option maxHeartbeats 4000000 in
theorem b_Reducer_mirror_31 {X : aX} {d : Nat} (x1 nx1 : Nat) (x2 : Int) (x3 : Int) (x4 nx4 : Nat) (x5 : Int) (x6 : Nat) (x7 : Int) (kx1 : am_kd an_K x1 = some (.inr (0, nx1))) (bx1 : nx1 ≤ 100000) (kx4 : am_kd an_K x4 = some (.inr (0, nx4))) (bx4 : nx4 ≤ 100000) (kx6 : am_kd an_K x6 = some (.inl 10)) (m : Mi) (J : Mj) (P : Mp) (hp : PP P) (post : Mi → Mj → Mp → Prop)
    (hw : Zr (x7) ∧ (((x7 < 0) → ((0 : Int) ≤ 0 ∧ (0 : Int) < 200) ∧ Rn X (d + 1) 48 106 [some (.ref 28), some (.ref x1), some (.int (iz x2)), some (.int (iz x3)), some (.ref x4), some (.int (iz x5)), some (.ref x6), some (.int (iz 0)), none, none, none] [] (SS (mu m 35 (0 : Int).toNat 0) J P) (QV post)) ∧ (¬ (x7 < 0) → ((0 : Int) ≤ (x2 + x7) ∧ ((x2 + x7) : Int) < nx1) ∧ Ci X d 40 [.ref x6, .int (iz (m x1 (x2 + x7).toNat))] m J P (fun z7 m4 J5 P6 => PP P6 ∧ Rn X (d + 1) 48 55 [some (.ref 28), some (.ref x1), some (.int (iz x2)), some (.int (iz x3)), some (.ref x4), some (.int (iz x5)), some (.ref x6), some (.int (iz x7)), some (.int (iz (x7 + 1))), some (.int (iz z7)), none] [] (SS m4 J5 P6) (QV post))))) : Rn X (d + 1) 48 31 [some (.ref 28), some (.ref x1), some (.int (iz x2)), some (.int (iz x3)), some (.ref x4), some (.int (iz x5)), some (.ref x6), some (.int (iz x7)), none, none, none] [] (SS m J P) (QV post) := by
  refine s_iload (pc := 31) rfl rfl ?_
  obtain ⟨hz1, hw⟩ := hw
  refine s_if_lt (pc := 33) (tgt := 96) rfl rfl hz1 (fun hc => ?_) (fun hc => ?_)
  · replace hw := hw.1 hc
    refine s_aload_n (pc := 96) rfl rfl ?_
    refine s_getA (pc := 97) rfl ko_28 (po_28_10 hp) ?_
    refine s_iconst (pc := 100) rfl ?_
    refine s_iconst (pc := 101) rfl ?_
    obtain ⟨hb2, hw⟩ := hw
    refine s_iast (pc := 102) rfl ka_35 (by decide) hb2 ?_
    refine s_iconst (pc := 103) rfl ?_
    refine s_istore (pc := 104) (L' := [some (.ref 28), some (.ref x1), some (.int (iz x2)), some (.int (iz x3)), some (.ref x4), some (.int (iz x5)), some (.ref x6), some (.int (iz 0)), none, none, none]) rfl (Nat.le_of_ble_eq_true rfl) rfl ?_
    exact hw
  · replace hw := hw.2 hc
    refine s_iload (pc := 36) rfl rfl ?_
    refine s_iconst (pc := 38) rfl ?_
    refine s_iadd (pc := 39) rfl ?_
    refine s_istore (pc := 40) (L' := [some (.ref 28), some (.ref x1), some (.int (iz x2)), some (.int (iz x3)), some (.ref x4), some (.int (iz x5)), some (.ref x6), some (.int (iz x7)), some (.int (iz (x7 + 1))), none, none]) rfl (Nat.le_of_ble_eq_true rfl) rfl ?_
    refine s_aload (pc := 42) rfl rfl ?_
    refine s_aload_n (pc := 44) rfl rfl ?_
    refine s_iload_n (pc := 45) rfl rfl ?_
    refine s_iload (pc := 46) rfl rfl ?_
    refine s_iadd (pc := 48) rfl ?_
    obtain ⟨hb3, hw⟩ := hw
    refine s_iald (pc := 49) rfl kx1 bx1 hb3 ?_
    refine s_ci (pc := 50) (d := d) (t := []) rfl rfl (am_ca_v (ps := [.int (iz (m x1 (x2 + x7).toNat))]) rfl kx6) (Nat.le_of_ble_eq_true rfl) (Ci.weak hw fun z7 m4 J5 P6 hw => ?_)
    obtain ⟨hp8, hw⟩ := hw
    refine s_istore (pc := 53) (L' := [some (.ref 28), some (.ref x1), some (.int (iz x2)), some (.int (iz x3)), some (.ref x4), some (.int (iz x5)), some (.ref x6), some (.int (iz x7)), some (.int (iz (x7 + 1))), some (.int (iz z7)), none]) rfl (Nat.le_of_ble_eq_true rfl) rfl ?_
    exact hw

set_option maxRecDepth 20000 in
set_option maxHeartbeats 4000000 in
theorem b_Reducer_mirror_55 {X : aX} {d : Nat} (x1 nx1 : Nat) (x2 : Int) (x3 : Int) (x4 nx4 : Nat) (x5 : Int) (x6 : Nat) (x7 : Int) (x8 : Int) (x9 : Int) (kx1 : am_kd an_K x1 = some (.inr (0, nx1))) (bx1 : nx1 ≤ 100000) (kx4 : am_kd an_K x4 = some (.inr (0, nx4))) (bx4 : nx4 ≤ 100000) (kx6 : am_kd an_K x6 = some (.inl 10)) (m : Mi) (J : Mj) (P : Mp) (hp : PP P) (post : Mi → Mj → Mp → Prop)
    (hw : Zr (x9) ∧ (((x9 ≤ 0) → ((0 : Int) ≤ x7 ∧ (x7 : Int) < 200) ∧ Rn X (d + 1) 48 31 [some (.ref 28), some (.ref x1), some (.int (iz x2)), some (.int (iz x3)), some (.ref x4), some (.int (iz x5)), some (.ref x6), some (.int (iz (x7 + (-1)))), none, none, none] [] (SS (mu m 34 x7.toNat x8) J P) (QV post)) ∧ (¬ (x9 ≤ 0) → Zr (x8) ∧ Zr (x3) ∧ (((x3 ≤ x8) → ((0 : Int) ≤ x7 ∧ (x7 : Int) < 200) ∧ Rn X (d + 1) 48 31 [some (.ref 28), some (.ref x1), some (.int (iz x2)), some (.int (iz x3)), some (.ref x4), some (.int (iz x5)), some (.ref x6), some (.int (iz (x7 + (-1)))), none, none, none] [] (SS (mu m 34 x7.toNat x8) J P) (QV post)) ∧ (¬ (x3 ≤ x8) → ((0 : Int) ≤ x8 ∧ (x8 : Int) < 200) ∧ Rn X (d + 1) 48 55 [some (.ref 28), some (.ref x1), some (.int (iz x2)), some (.int (iz x3)), some (.ref x4), some (.int (iz x5)), some (.ref x6), some (.int (iz x7)), some (.int (iz (m 34 x8.toNat))), some (.int (iz (x9 + (-1)))), none] [] (SS m J P) (QV post)))))) : Rn X (d + 1) 48 55 [some (.ref 28), some (.ref x1), some (.int (iz x2)), some (.int (iz x3)), some (.ref x4), some (.int (iz x5)), some (.ref x6), some (.int (iz x7)), some (.int (iz x8)), some (.int (iz x9)), none] [] (SS m J P) (QV post) := by
  refine s_iload (pc := 55) rfl rfl ?_
  obtain ⟨hz1, hw⟩ := hw
  refine s_if_le (pc := 57) (tgt := 81) rfl rfl hz1 (fun hc => ?_) (fun hc => ?_)
  · replace hw := hw.1 hc
    refine s_aload_n (pc := 81) rfl rfl ?_
    refine s_getA (pc := 82) rfl ko_28 (po_28_9 hp) ?_
    refine s_iload (pc := 85) rfl rfl ?_
    refine s_iload (pc := 87) rfl rfl ?_
    obtain ⟨hb2, hw⟩ := hw
    refine s_iast (pc := 89) rfl ka_34 (by decide) hb2 ?_
    refine s_iinc (pc := 90) (L' := [some (.ref 28), some (.ref x1), some (.int (iz x2)), some (.int (iz x3)), some (.ref x4), some (.int (iz x5)), some (.ref x6), some (.int (iz (x7 + (-1)))), some (.int (iz x8)), some (.int (iz x9)), none]) rfl rfl (Nat.le_of_ble_eq_true rfl) rfl ?_
    refine s_goto (pc := 93) (tgt := 31) rfl rfl ?_
    exact Rn.weakL hw (LLe.keep _ (LLe.keep _ (LLe.keep _ (LLe.keep _ (LLe.keep _ (LLe.keep _ (LLe.keep _ (LLe.keep _ (LLe.drop _ (LLe.drop _ (LLe.keep _ (LLe.nil))))))))))))
  · replace hw := hw.2 hc
    refine s_iload (pc := 60) rfl rfl ?_
    refine s_iload_n (pc := 62) rfl rfl ?_
    obtain ⟨hz3, hw⟩ := hw
    obtain ⟨hz4, hw⟩ := hw
    refine s_ic_ge (pc := 63) (tgt := 81) rfl rfl hz3 hz4 (fun hc => ?_) (fun hc => ?_)
    · replace hw := hw.1 hc
      refine s_aload_n (pc := 81) rfl rfl ?_
      refine s_getA (pc := 82) rfl ko_28 (po_28_9 hp) ?_
      refine s_iload (pc := 85) rfl rfl ?_
      refine s_iload (pc := 87) rfl rfl ?_
      obtain ⟨hb5, hw⟩ := hw
      refine s_iast (pc := 89) rfl ka_34 (by decide) hb5 ?_
      refine s_iinc (pc := 90) (L' := [some (.ref 28), some (.ref x1), some (.int (iz x2)), some (.int (iz x3)), some (.ref x4), some (.int (iz x5)), some (.ref x6), some (.int (iz (x7 + (-1)))), some (.int (iz x8)), some (.int (iz x9)), none]) rfl rfl (Nat.le_of_ble_eq_true rfl) rfl ?_
      refine s_goto (pc := 93) (tgt := 31) rfl rfl ?_
      exact Rn.weakL hw (LLe.keep _ (LLe.keep _ (LLe.keep _ (LLe.keep _ (LLe.keep _ (LLe.keep _ (LLe.keep _ (LLe.keep _ (LLe.drop _ (LLe.drop _ (LLe.keep _ (LLe.nil))))))))))))
    · replace hw := hw.2 hc
      refine s_aload_n (pc := 66) rfl rfl ?_
      refine s_getA (pc := 67) rfl ko_28 (po_28_9 hp) ?_
      refine s_iload (pc := 70) rfl rfl ?_
      obtain ⟨hb6, hw⟩ := hw
      refine s_iald (pc := 72) rfl ka_34 (by decide) hb6 ?_
      refine s_istore (pc := 73) (L' := [some (.ref 28), some (.ref x1), some (.int (iz x2)), some (.int (iz x3)), some (.ref x4), some (.int (iz x5)), some (.ref x6), some (.int (iz x7)), some (.int (iz (m 34 x8.toNat))), some (.int (iz x9)), none]) rfl (Nat.le_of_ble_eq_true rfl) rfl ?_
      refine s_iinc (pc := 75) (L' := [some (.ref 28), some (.ref x1), some (.int (iz x2)), some (.int (iz x3)), some (.ref x4), some (.int (iz x5)), some (.ref x6), some (.int (iz x7)), some (.int (iz (m 34 x8.toNat))), some (.int (iz (x9 + (-1)))), none]) rfl rfl (Nat.le_of_ble_eq_true rfl) rfl ?_
      refine s_goto (pc := 78) (tgt := 55) rfl rfl ?_
      exact hw

set_option maxRecDepth 20000 in
set_option maxHeartbeats 4000000 in
theorem b_Reducer_mirror_106 {X : aX} {d : Nat} (x1 nx1 : Nat) (x2 : Int) (x3 : Int) (x4 nx4 : Nat) (x5 : Int) (x6 : Nat) (x7 : Int) (kx1 : am_kd an_K x1 = some (.inr (0, nx1))) (bx1 : nx1 ≤ 100000) (kx4 : am_kd an_K x4 = some (.inr (0, nx4))) (bx4 : nx4 ≤ 100000) (kx6 : am_kd an_K x6 = some (.inl 10)) (m : Mi) (J : Mj) (P : Mp) (hp : PP P) (post : Mi → Mj → Mp → Prop)
    (hw : Zr (x7) ∧ Zr (x3) ∧ (((x3 ≤ x7) → post m J P) ∧ (¬ (x3 ≤ x7) → ((0 : Int) ≤ x7 ∧ (x7 : Int) < 200) ∧ ((0 : Int) ≤ (x2 + x7) ∧ ((x2 + x7) : Int) < nx1) ∧ ((0 : Int) ≤ (x5 + (m 35 x7.toNat)) ∧ ((x5 + (m 35 x7.toNat)) : Int) < nx4) ∧ ((0 : Int) ≤ x7 ∧ (x7 : Int) < 200) ∧ ((0 : Int) ≤ x7 ∧ (x7 : Int) < 200) ∧ Rn X (d + 1) 48 160 [some (.ref 28), some (.ref x1), some (.int (iz x2)), some (.int (iz x3)), some (.ref x4), some (.int (iz x5)), some (.ref x6), some (.int (iz x7)), some (.int (iz ((((mu m x4 (x5 + (m 35 x7.toNat)).toNat (m x1 (x2 + x7).toNat)) 35 x7.toNat) + ((mu m x4 (x5 + (m 35 x7.toNat)).toNat (m x1 (x2 + x7).toNat)) 34 x7.toNat)) - x7))), some (.int (iz (x7 + 1))), some (.int (iz 0))] [] (SS (mu m x4 (x5 + (m 35 x7.toNat)).toNat (m x1 (x2 + x7).toNat)) J P) (QV post)))) : Rn X (d + 1) 48 106 [some (.ref 28), some (.ref x1), some (.int (iz x2)), some (.int (iz x3)), some (.ref x4), some (.int (iz x5)), some (.ref x6), some (.int (iz x7)), none, none, none] [] (SS m J P) (QV post) := by
  refine s_iload (pc := 106) rfl rfl ?_
  refine s_iload_n (pc := 108) rfl rfl ?_
  obtain ⟨hz1, hw⟩ := hw
  obtain ⟨hz2, hw⟩ := hw
  refine s_ic_ge (pc := 109) (tgt := 223) rfl rfl hz1 hz2 (fun hc => ?_) (fun hc => ?_)
  · replace hw := hw.1 hc
    exact s_retv (pc := 223) rfl rfl hw
  · replace hw := hw.2 hc
    refine s_aload (pc := 112) rfl rfl ?_
    refine s_iload (pc := 114) rfl rfl ?_
    refine s_aload_n (pc := 116) rfl rfl ?_
    refine s_getA (pc := 117) rfl ko_28 (po_28_10 hp) ?_
    refine s_iload (pc := 120) rfl rfl ?_
    obtain ⟨hb3, hw⟩ := hw
    refine s_iald (pc := 122) rfl ka_35 (by decide) hb3 ?_
    refine s_iadd (pc := 123) rfl ?_
    refine s_aload_n (pc := 124) rfl rfl ?_
    refine s_iload_n (pc := 125) rfl rfl ?_
    refine s_iload (pc := 126) rfl rfl ?_
    refine s_iadd (pc := 128) rfl ?_
    obtain ⟨hb4, hw⟩ := hw
    refine s_iald (pc := 129) rfl kx1 bx1 hb4 ?_
    obtain ⟨hb5, hw⟩ := hw
    refine s_iast (pc := 130) rfl kx4 bx4 hb5 ?_
    refine s_aload_n (pc := 131) rfl rfl ?_
    refine s_getA (pc := 132) rfl ko_28 (po_28_10 hp) ?_
    refine s_iload (pc := 135) rfl rfl ?_
    obtain ⟨hb6, hw⟩ := hw
    refine s_iald (pc := 137) rfl ka_35 (by decide) hb6 ?_
    refine s_aload_n (pc := 138) rfl rfl ?_
    refine s_getA (pc := 139) rfl ko_28 (po_28_9 hp) ?_
    refine s_iload (pc := 142) rfl rfl ?_
    obtain ⟨hb7, hw⟩ := hw
    refine s_iald (pc := 144) rfl ka_34 (by decide) hb7 ?_
    refine s_iadd (pc := 145) rfl ?_
    refine s_iload (pc := 146) rfl rfl ?_
    refine s_isub (pc := 148) rfl ?_
    refine s_istore (pc := 149) (L' := [some (.ref 28), some (.ref x1), some (.int (iz x2)), some (.int (iz x3)), some (.ref x4), some (.int (iz x5)), some (.ref x6), some (.int (iz x7)), some (.int (iz ((((mu m x4 (x5 + (m 35 x7.toNat)).toNat (m x1 (x2 + x7).toNat)) 35 x7.toNat) + ((mu m x4 (x5 + (m 35 x7.toNat)).toNat (m x1 (x2 + x7).toNat)) 34 x7.toNat)) - x7))), none, none]) rfl (Nat.le_of_ble_eq_true rfl) rfl ?_
    refine s_iload (pc := 151) rfl rfl ?_
    refine s_iconst (pc := 153) rfl ?_
    refine s_iadd (pc := 154) rfl ?_
    refine s_istore (pc := 155) (L' := [some (.ref 28), some (.ref x1), some (.int (iz x2)), some (.int (iz x3)), some (.ref x4), some (.int (iz x5)), some (.ref x6), some (.int (iz x7)), some (.int (iz ((((mu m x4 (x5 + (m 35 x7.toNat)).toNat (m x1 (x2 + x7).toNat)) 35 x7.toNat) + ((mu m x4 (x5 + (m 35 x7.toNat)).toNat (m x1 (x2 + x7).toNat)) 34 x7.toNat)) - x7))), some (.int (iz (x7 + 1))), none]) rfl (Nat.le_of_ble_eq_true rfl) rfl ?_
    refine s_iconst (pc := 157) rfl ?_
    refine s_istore (pc := 158) (L' := [some (.ref 28), some (.ref x1), some (.int (iz x2)), some (.int (iz x3)), some (.ref x4), some (.int (iz x5)), some (.ref x6), some (.int (iz x7)), some (.int (iz ((((mu m x4 (x5 + (m 35 x7.toNat)).toNat (m x1 (x2 + x7).toNat)) 35 x7.toNat) + ((mu m x4 (x5 + (m 35 x7.toNat)).toNat (m x1 (x2 + x7).toNat)) 34 x7.toNat)) - x7))), some (.int (iz (x7 + 1))), some (.int (iz 0))]) rfl (Nat.le_of_ble_eq_true rfl) rfl ?_
    exact hw

set_option maxRecDepth 20000 in
set_option maxHeartbeats 4000000 in
theorem b_Reducer_mirror_160 {X : aX} {d : Nat} (x1 nx1 : Nat) (x2 : Int) (x3 : Int) (x4 nx4 : Nat) (x5 : Int) (x6 : Nat) (x7 : Int) (x8 : Int) (x9 : Int) (x10 : Int) (kx1 : am_kd an_K x1 = some (.inr (0, nx1))) (bx1 : nx1 ≤ 100000) (kx4 : am_kd an_K x4 = some (.inr (0, nx4))) (bx4 : nx4 ≤ 100000) (kx6 : am_kd an_K x6 = some (.inl 10)) (m : Mi) (J : Mj) (P : Mp) (hp : PP P) (post : Mi → Mj → Mp → Prop)
    (hw : Zr (x10) ∧ (((4 ≤ x10) → Rn X (d + 1) 48 106 [some (.ref 28), some (.ref x1), some (.int (iz x2)), some (.int (iz x3)), some (.ref x4), some (.int (iz x5)), some (.ref x6), some (.int (iz (x7 + 1))), none, none, none] [] (SS m J P) (QV post)) ∧ (¬ (4 ≤ x10) → ((0 : Int) ≤ x7 ∧ (x7 : Int) < 200) ∧ Zr (x9) ∧ Zr (m 34 x7.toNat) ∧ ((((m 34 x7.toNat) ≤ x9) → Rn X (d + 1) 48 106 [some (.ref 28), some (.ref x1), some (.int (iz x2)), some (.int (iz x3)), some (.ref x4), some (.int (iz x5)), some (.ref x6), some (.int (iz (x7 + 1))), none, none, none] [] (SS m J P) (QV post)) ∧ (¬ ((m 34 x7.toNat) ≤ x9) → ((0 : Int) ≤ x9 ∧ (x9 : Int) < 200) ∧ ((0 : Int) ≤ x9 ∧ (x9 : Int) < 200) ∧ ((0 : Int) ≤ x9 ∧ (x9 : Int) < 200) ∧ Rn X (d + 1) 48 160 [some (.ref 28), some (.ref x1), some (.int (iz x2)), some (.int (iz x3)), some (.ref x4), some (.int (iz x5)), some (.ref x6), some (.int (iz x7)), some (.int (iz (x8 - ((m 34 x9.toNat) - x9)))), some (.int (iz ((mu m 35 x9.toNat (x8 - ((m 34 x9.toNat) - x9))) 34 x9.toNat))), some (.int (iz (x10 + 1)))] [] (SS (mu m 35 x9.toNat (x8 - ((m 34 x9.toNat) - x9))) J P) (QV post)))))) : Rn X (d + 1) 48 160 [some (.ref 28), some (.ref x1), some (.int (iz x2)), some (.int (iz x3)), some (.ref x4), some (.int (iz x5)), some (.ref x6), some (.int (iz x7)), some (.int (iz x8)), some (.int (iz x9)), some (.int (iz x10))] [] (SS m J P) (QV post) := by
  refine s_iload (pc := 160) rfl rfl ?_
  refine s_iconst (pc := 162) rfl ?_
  obtain ⟨hz1, hw⟩ := hw
  refine s_ic_ge (pc := 163) (tgt := 217) rfl rfl hz1 (by decide) (fun hc => ?_) (fun hc => ?_)
  · replace hw := hw.1 hc
    refine s_iinc (pc := 217) (L' := [some (.ref 28), some (.ref x1), some (.int (iz x2)), some (.int (iz x3)), some (.ref x4), some (.int (iz x5)), some (.ref x6), some (.int (iz (x7 + 1))), some (.int (iz x8)), some (.int (iz x9)), some (.int (iz x10))]) rfl rfl (Nat.le_of_ble_eq_true rfl) rfl ?_
    refine s_goto (pc := 220) (tgt := 106) rfl rfl ?_
    exact Rn.weakL hw (LLe.keep _ (LLe.keep _ (LLe.keep _ (LLe.keep _ (LLe.keep _ (LLe.keep _ (LLe.keep _ (LLe.keep _ (LLe.drop _ (LLe.drop _ (LLe.drop _ (LLe.nil))))))))))))
  · replace hw := hw.2 hc
    refine s_iload (pc := 166) rfl rfl ?_
    refine s_aload_n (pc := 168) rfl rfl ?_
    refine s_getA (pc := 169) rfl ko_28 (po_28_9 hp) ?_
    refine s_iload (pc := 172) rfl rfl ?_
    obtain ⟨hb2, hw⟩ := hw
    refine s_iald (pc := 174) rfl ka_34 (by decide) hb2 ?_
    obtain ⟨hz3, hw⟩ := hw
    obtain ⟨hz4, hw⟩ := hw
    refine s_ic_ge (pc := 175) (tgt := 217) rfl rfl hz3 hz4 (fun hc => ?_) (fun hc => ?_)
    · replace hw := hw.1 hc
      refine s_iinc (pc := 217) (L' := [some (.ref 28), some (.ref x1), some (.int (iz x2)), some (.int (iz x3)), some (.ref x4), some (.int (iz x5)), some (.ref x6), some (.int (iz (x7 + 1))), some (.int (iz x8)), some (.int (iz x9)), some (.int (iz x10))]) rfl rfl (Nat.le_of_ble_eq_true rfl) rfl ?_
      refine s_goto (pc := 220) (tgt := 106) rfl rfl ?_
      exact Rn.weakL hw (LLe.keep _ (LLe.keep _ (LLe.keep _ (LLe.keep _ (LLe.keep _ (LLe.keep _ (LLe.keep _ (LLe.keep _ (LLe.drop _ (LLe.drop _ (LLe.drop _ (LLe.nil))))))))))))
    · replace hw := hw.2 hc
      refine s_iload (pc := 178) rfl rfl ?_
      refine s_aload_n (pc := 180) rfl rfl ?_
      refine s_getA (pc := 181) rfl ko_28 (po_28_9 hp) ?_
      refine s_iload (pc := 184) rfl rfl ?_
      obtain ⟨hb5, hw⟩ := hw
      refine s_iald (pc := 186) rfl ka_34 (by decide) hb5 ?_
      refine s_iload (pc := 187) rfl rfl ?_
      refine s_isub (pc := 189) rfl ?_
      refine s_isub (pc := 190) rfl ?_
      refine s_istore (pc := 191) (L' := [some (.ref 28), some (.ref x1), some (.int (iz x2)), some (.int (iz x3)), some (.ref x4), some (.int (iz x5)), some (.ref x6), some (.int (iz x7)), some (.int (iz (x8 - ((m 34 x9.toNat) - x9)))), some (.int (iz x9)), some (.int (iz x10))]) rfl (Nat.le_of_ble_eq_true rfl) rfl ?_
      refine s_aload_n (pc := 193) rfl rfl ?_
      refine s_getA (pc := 194) rfl ko_28 (po_28_10 hp) ?_
      refine s_iload (pc := 197) rfl rfl ?_
      refine s_iload (pc := 199) rfl rfl ?_
      obtain ⟨hb6, hw⟩ := hw
      refine s_iast (pc := 201) rfl ka_35 (by decide) hb6 ?_
      refine s_aload_n (pc := 202) rfl rfl ?_
      refine s_getA (pc := 203) rfl ko_28 (po_28_9 hp) ?_
      refine s_iload (pc := 206) rfl rfl ?_
      obtain ⟨hb7, hw⟩ := hw
      refine s_iald (pc := 208) rfl ka_34 (by decide) hb7 ?_
      refine s_istore (pc := 209) (L' := [some (.ref 28), some (.ref x1), some (.int (iz x2)), some (.int (iz x3)), some (.ref x4), some (.int (iz x5)), some (.ref x6), some (.int (iz x7)), some (.int (iz (x8 - ((m 34 x9.toNat) - x9)))), some (.int (iz ((mu m 35 x9.toNat (x8 - ((m 34 x9.toNat) - x9))) 34 x9.toNat))), some (.int (iz x10))]) rfl (Nat.le_of_ble_eq_true rfl) rfl ?_
      refine s_iinc (pc := 211) (L' := [some (.ref 28), some (.ref x1), some (.int (iz x2)), some (.int (iz x3)), some (.ref x4), some (.int (iz x5)), some (.ref x6), some (.int (iz x7)), some (.int (iz (x8 - ((m 34 x9.toNat) - x9)))), some (.int (iz ((mu m 35 x9.toNat (x8 - ((m 34 x9.toNat) - x9))) 34 x9.toNat))), some (.int (iz (x10 + 1)))]) rfl rfl (Nat.le_of_ble_eq_true rfl) rfl ?_
      refine s_goto (pc := 214) (tgt := 160) rfl rfl ?_
      exact hw

set_option maxRecDepth 20000 in
set_option maxHeartbeats 4000000 in
theorem b_Pairs_search_0 {X : aX} {d : Nat} (x1 : Nat) (kx1 : am_kd an_K x1 = some (.inl 10)) (m : Mi) (J : Mj) (P : Mp) (hp : PP P) (post : Mi → Mj → Mp → Prop)
    (hw : Rn X (d + 5) 49 17 [some (.ref 36), some (.ref x1), some (.int (iz 0)), none, none] [] (SS (mu (mu (mu m 36 3 0) 36 4 0) 36 5 0) J P) (QV post)) : Rn X (d + 5) 49 0 [some (.ref 36), some (.ref x1), none, none, none] [] (SS m J P) (QV post) := by
  refine s_aload_n (pc := 0) rfl rfl ?_
  refine s_iconst (pc := 1) rfl ?_
  refine s_putI (pc := 2) rfl ko_36 ?_
  refine s_aload_n (pc := 5) rfl rfl ?_
  refine s_iconst (pc := 6) rfl ?_
  refine s_putI (pc := 7) rfl ko_36 ?_
  refine s_aload_n (pc := 10) rfl rfl ?_
  refine s_iconst (pc := 11) rfl ?_
  refine s_putI (pc := 12) rfl ko_36 ?_
  refine s_iconst (pc := 15) rfl ?_
  refine s_istore_n (pc := 16) (L' := [some (.ref 36), some (.ref x1), some (.int (iz 0)), none, none]) rfl (Nat.le_of_ble_eq_true rfl) rfl ?_
  exact hw

set_option maxRecDepth 20000 in
set_option maxHeartbeats 4000000 in
theorem b_Pairs_search_17 {X : aX} {d : Nat} (x1 : Nat) (x2 : Int) (kx1 : am_kd an_K x1 = some (.inl 10)) (m : Mi) (J : Mj) (P : Mp) (hp : PP P) (post : Mi → Mj → Mp → Prop)
    (hw : Zr (x2) ∧ Zr (m x1 5) ∧ ((((m x1 5) ≤ x2) → post m J P) ∧ (¬ ((m x1 5) ≤ x2) → Rn X (d + 5) 49 27 [some (.ref 36), some (.ref x1), some (.int (iz x2)), some (.int (iz 0)), none] [] (SS m J P) (QV post)))) : Rn X (d + 5) 49 17 [some (.ref 36), some (.ref x1), some (.int (iz x2)), none, none] [] (SS m J P) (QV post) := by
  refine s_iload_n (pc := 17) rfl rfl ?_
  refine s_aload_n (pc := 18) rfl rfl ?_
  refine s_getI (pc := 19) rfl kx1 ?_
  obtain ⟨hz1, hw⟩ := hw
  obtain ⟨hz2, hw⟩ := hw
  refine s_ic_ge (pc := 22) (tgt := 124) rfl rfl hz1 hz2 (fun hc => ?_) (fun hc => ?_)
  · replace hw := hw.1 hc
    exact s_retv (pc := 124) rfl rfl hw
  · replace hw := hw.2 hc
    refine s_iconst (pc := 25) rfl ?_
    refine s_istore_n (pc := 26) (L' := [some (.ref 36), some (.ref x1), some (.int (iz x2)), some (.int (iz 0)), none]) rfl (Nat.le_of_ble_eq_true rfl) rfl ?_
    exact hw

set_option maxRecDepth 20000 in
set_option maxHeartbeats 4000000 in
theorem b_Pairs_search_27 {X : aX} {d : Nat} (x1 : Nat) (x2 : Int) (x3 : Int) (kx1 : am_kd an_K x1 = some (.inl 10)) (m : Mi) (J : Mj) (P : Mp) (hp : PP P) (post : Mi → Mj → Mp → Prop)
    (hw : ((0 : Int) ≤ x2 ∧ (x2 : Int) < 16) ∧ Zr (x3) ∧ Zr (m (x1 + 5 + 6 * x2.toNat) 5) ∧ ((((m (x1 + 5 + 6 * x2.toNat) 5) ≤ x3) → Rn X (d + 5) 49 17 [some (.ref 36), some (.ref x1), some (.int (iz (x2 + 1))), none, none] [] (SS m J P) (QV post)) ∧ (¬ ((m (x1 + 5 + 6 * x2.toNat) 5) ≤ x3) → Rn X (d + 5) 49 43 [some (.ref 36), some (.ref x1), some (.int (iz x2)), some (.int (iz x3)), some (.int (iz 0))] [] (SS m J P) (QV post)))) : Rn X (d + 5) 49 27 [some (.ref 36), some (.ref x1), some (.int (iz x2)), some (.int (iz x3)), none] [] (SS m J P) (QV post) := by
  refine s_iload_n (pc := 27) rfl rfl ?_
  refine s_aload_n (pc := 28) rfl rfl ?_
  refine s_getA (pc := 29) rfl kx1 (pc_10_3 hp kx1) ?_
  refine s_iload_n (pc := 32) rfl rfl ?_
  obtain ⟨hb1, hw⟩ := hw
  refine s_aald (pc := 33) rfl (kc_10_3 kx1) (by decide) hb1 (pr hp kx1 hb1) ?_
  refine s_getI (pc := 34) rfl (kr kx1 hb1) ?_
  obtain ⟨hz2, hw⟩ := hw
  obtain ⟨hz3, hw⟩ := hw
  refine s_ic_ge (pc := 37) (tgt := 118) rfl rfl hz2 hz3 (fun hc => ?_) (fun hc => ?_)
  · replace hw := hw.1 hc
    refine s_iinc (pc := 118) (L' := [some (.ref 36), some (.ref x1), some (.int (iz (x2 + 1))), some (.int (iz x3)), none]) rfl rfl (Nat.le_of_ble_eq_true rfl) rfl ?_
    refine s_goto (pc := 121) (tgt := 17) rfl rfl ?_
    exact Rn.weakL hw (LLe.keep _ (LLe.keep _ (LLe.keep _ (LLe.drop _ (LLe.keep _ (LLe.nil))))))
  · replace hw := hw.2 hc
    refine s_iconst (pc := 40) rfl ?_
    refine s_istore (pc := 41) (L' := [some (.ref 36), some (.ref x1), some (.int (iz x2)), some (.int (iz x3)), some (.int (iz 0))]) rfl (Nat.le_of_ble_eq_true rfl) rfl ?_
    exact hw

set_option maxRecDepth 20000 in
set_option maxHeartbeats 4000000 in
theorem b_Pairs_search_43 {X : aX} {d : Nat} (x1 : Nat) (x2 : Int) (x3 : Int) (x4 : Int) (kx1 : am_kd an_K x1 = some (.inl 10)) (m : Mi) (J : Mj) (P : Mp) (hp : PP P) (post : Mi → Mj → Mp → Prop)
    (hw : Zr (x4) ∧ Zr (m x1 5) ∧ ((((m x1 5) ≤ x4) → Rn X (d + 5) 49 27 [some (.ref 36), some (.ref x1), some (.int (iz x2)), some (.int (iz (x3 + 1))), none] [] (SS m J P) (QV post)) ∧ (¬ ((m x1 5) ≤ x4) → Zr (x2) ∧ Zr (x4) ∧ (((¬ x2 = x4) → Ci X (d + 4) 50 [.ref 36, .int (iz x2), .int (iz x3), .int (iz x4), .ref x1] m J P (fun z8 m5 J6 P7 => PP P7 ∧ Zr (z8) ∧ (((¬ z8 = 0) → Zr (m5 36 3) ∧ (((200 ≤ (m5 36 3)) → Rn X (d + 5) 49 106 [some (.ref 36), some (.ref x1), some (.int (iz x2)), some (.int (iz x3)), some (.int (iz x4))] [] (SS (mu m5 36 3 ((m5 36 3) + 1)) J6 P7) (QV post)) ∧ (¬ (200 ≤ (m5 36 3)) → Cv X (d + 4) 58 [.ref 36, .int (iz x2), .int (iz x3), .int (iz x4), .ref x1] m5 J6 P7 (fun m12 J13 P14 => PP P14 ∧ Rn X (d + 5) 49 106 [some (.ref 36), some (.ref x1), some (.int (iz x2)), some (.int (iz x3)), some (.int (iz x4))] [] (SS (mu m12 36 3 ((m12 36 3) + 1)) J13 P14) (QV post))))) ∧ (¬ (¬ z8 = 0) → Rn X (d + 5) 49 106 [some (.ref 36), some (.ref x1), some (.int (iz x2)), some (.int (iz x3)), some (.int (iz x4))] [] (SS m5 J6 P7) (QV post))))) ∧ (¬ (¬ x2 = x4) → Zr (x3) ∧ (((x3 = 0) → Rn X (d + 5) 49 106 [some (.ref 36), some (.ref x1), some (.int (iz x2)), some (.int (iz x3)), some (.int (iz x4))] [] (SS m J P) (QV post)) ∧ (¬ (x3 = 0) → Ci X (d + 4) 50 [.ref 36, .int (iz x2), .int (iz x3), .int (iz x4), .ref x1] m J P (fun z21 m18 J19 P20 => PP P20 ∧ Zr (z21) ∧ (((¬ z21 = 0) → Zr (m18 36 3) ∧ (((200 ≤ (m18 36 3)) → Rn X (d + 5) 49 106 [some (.ref 36), some (.ref x1), some (.int (iz x2)), some (.int (iz x3)), some (.int (iz x4))] [] (SS (mu m18 36 3 ((m18 36 3) + 1)) J19 P20) (QV post)) ∧ (¬ (200 ≤ (m18 36 3)) → Cv X (d + 4) 58 [.ref 36, .int (iz x2), .int (iz x3), .int (iz x4), .ref x1] m18 J19 P20 (fun m25 J26 P27 => PP P27 ∧ Rn X (d + 5) 49 106 [some (.ref 36), some (.ref x1), some (.int (iz x2)), some (.int (iz x3)), some (.int (iz x4))] [] (SS (mu m25 36 3 ((m25 36 3) + 1)) J26 P27) (QV post))))) ∧ (¬ (¬ z21 = 0) → Rn X (d + 5) 49 106 [some (.ref 36), some (.ref x1), some (.int (iz x2)), some (.int (iz x3)), some (.int (iz x4))] [] (SS m18 J19 P20) (QV post))))))))))) : Rn X (d + 5) 49 43 [some (.ref 36), some (.ref x1), some (.int (iz x2)), some (.int (iz x3)), some (.int (iz x4))] [] (SS m J P) (QV post) := by
  refine s_iload (pc := 43) rfl rfl ?_
  refine s_aload_n (pc := 45) rfl rfl ?_
  refine s_getI (pc := 46) rfl kx1 ?_
  obtain ⟨hz1, hw⟩ := hw
  obtain ⟨hz2, hw⟩ := hw
  refine s_ic_ge (pc := 49) (tgt := 112) rfl rfl hz1 hz2 (fun hc => ?_) (fun hc => ?_)
  · replace hw := hw.1 hc
    refine s_iinc (pc := 112) (L' := [some (.ref 36), some (.ref x1), some (.int (iz x2)), some (.int (iz (x3 + 1))), some (.int (iz x4))]) rfl rfl (Nat.le_of_ble_eq_true rfl) rfl ?_
    refine s_goto (pc := 115) (tgt := 27) rfl rfl ?_
    exact Rn.weakL hw (LLe.keep _ (LLe.keep _ (LLe.keep _ (LLe.keep _ (LLe.drop _ (LLe.nil))))))
  · replace hw := hw.2 hc
    refine s_iload_n (pc := 52) rfl rfl ?_
    refine s_iload (pc := 53) rfl rfl ?_
    obtain ⟨hz3, hw⟩ := hw
    obtain ⟨hz4, hw⟩ := hw
    refine s_ic_ne (pc := 55) (tgt := 62) rfl rfl hz3 hz4 (fun hc => ?_) (fun hc => ?_)
    · replace hw := hw.1 hc
      refine s_aload_n (pc := 62) rfl rfl ?_
      refine s_iload_n (pc := 63) rfl rfl ?_
      refine s_iload_n (pc := 64) rfl rfl ?_
      refine s_iload (pc := 65) rfl rfl ?_
      refine s_aload_n (pc := 67) rfl rfl ?_
      refine s_ci (pc := 68) (d := (d + 4)) (t := []) rfl rfl (am_ca_v (ps := [.ref x1, .int (iz x4), .int (iz x3), .int (iz x2)]) rfl ko_36) (Nat.le_of_ble_eq_true rfl) (Ci.weak hw fun z8 m5 J6 P7 hw => ?_)
      obtain ⟨hp9, hw⟩ := hw
      obtain ⟨hz10, hw⟩ := hw
      refine s_if_ne (pc := 71) (tgt := 77) rfl rfl hz10 (fun hc => ?_) (fun hc => ?_)
      · replace hw := hw.1 hc
        refine s_aload_n (pc := 77) rfl rfl ?_
        refine s_getI (pc := 78) rfl ko_36 ?_
        refine s_sipush (pc := 81) rfl (by decide) ?_
        obtain ⟨hz11, hw⟩ := hw
        refine s_ic_ge (pc := 84) (tgt := 96) rfl rfl hz11 (by decide) (fun hc => ?_) (fun hc => ?_)
        · replace hw := hw.1 hc
          refine s_aload_n (pc := 96) rfl rfl ?_
          refine s_dup (pc := 97) rfl rfl ?_
          refine s_getI (pc := 98) rfl ko_36 ?_
          refine s_iconst (pc := 101) rfl ?_
          refine s_iadd (pc := 102) rfl ?_
          refine s_putI (pc := 103) rfl ko_36 ?_
          exact hw
        · replace hw := hw.2 hc
          refine s_aload_n (pc := 87) rfl rfl ?_
          refine s_iload_n (pc := 88) rfl rfl ?_
          refine s_iload_n (pc := 89) rfl rfl ?_
          refine s_iload (pc := 90) rfl rfl ?_
          refine s_aload_n (pc := 92) rfl rfl ?_
          refine s_cv (pc := 93) (d := (d + 4)) (t := []) rfl rfl (am_ca_v (ps := [.ref x1, .int (iz x4), .int (iz x3), .int (iz x2)]) rfl ko_36) (Nat.le_of_ble_eq_true rfl) (Cv.weak hw fun m12 J13 P14 hw => ?_)
          obtain ⟨hp16, hw⟩ := hw
          refine s_aload_n (pc := 96) rfl rfl ?_
          refine s_dup (pc := 97) rfl rfl ?_
          refine s_getI (pc := 98) rfl ko_36 ?_
          refine s_iconst (pc := 101) rfl ?_
          refine s_iadd (pc := 102) rfl ?_
          refine s_putI (pc := 103) rfl ko_36 ?_
          exact hw
      · replace hw := hw.2 hc
        refine s_goto (pc := 74) (tgt := 106) rfl rfl ?_
        exact hw
    · replace hw := hw.2 hc
      refine s_iload_n (pc := 58) rfl rfl ?_
      obtain ⟨hz17, hw⟩ := hw
      refine s_if_eq (pc := 59) (tgt := 106) rfl rfl hz17 (fun hc => ?_) (fun hc => ?_)
      · replace hw := hw.1 hc
        exact hw
      · replace hw := hw.2 hc
        refine s_aload_n (pc := 62) rfl rfl ?_
        refine s_iload_n (pc := 63) rfl rfl ?_
        refine s_iload_n (pc := 64) rfl rfl ?_
        refine s_iload (pc := 65) rfl rfl ?_
        refine s_aload_n (pc := 67) rfl rfl ?_
        refine s_ci (pc := 68) (d := (d + 4)) (t := []) rfl rfl (am_ca_v (ps := [.ref x1, .int (iz x4), .int (iz x3), .int (iz x2)]) rfl ko_36) (Nat.le_of_ble_eq_true rfl) (Ci.weak hw fun z21 m18 J19 P20 hw => ?_)
        obtain ⟨hp22, hw⟩ := hw
        obtain ⟨hz23, hw⟩ := hw
        refine s_if_ne (pc := 71) (tgt := 77) rfl rfl hz23 (fun hc => ?_) (fun hc => ?_)
        · replace hw := hw.1 hc
          refine s_aload_n (pc := 77) rfl rfl ?_
          refine s_getI (pc := 78) rfl ko_36 ?_
          refine s_sipush (pc := 81) rfl (by decide) ?_
          obtain ⟨hz24, hw⟩ := hw
          refine s_ic_ge (pc := 84) (tgt := 96) rfl rfl hz24 (by decide) (fun hc => ?_) (fun hc => ?_)
          · replace hw := hw.1 hc
            refine s_aload_n (pc := 96) rfl rfl ?_
            refine s_dup (pc := 97) rfl rfl ?_
            refine s_getI (pc := 98) rfl ko_36 ?_
            refine s_iconst (pc := 101) rfl ?_
            refine s_iadd (pc := 102) rfl ?_
            refine s_putI (pc := 103) rfl ko_36 ?_
            exact hw
          · replace hw := hw.2 hc
            refine s_aload_n (pc := 87) rfl rfl ?_
            refine s_iload_n (pc := 88) rfl rfl ?_
            refine s_iload_n (pc := 89) rfl rfl ?_
            refine s_iload (pc := 90) rfl rfl ?_
            refine s_aload_n (pc := 92) rfl rfl ?_
            refine s_cv (pc := 93) (d := (d + 4)) (t := []) rfl rfl (am_ca_v (ps := [.ref x1, .int (iz x4), .int (iz x3), .int (iz x2)]) rfl ko_36) (Nat.le_of_ble_eq_true rfl) (Cv.weak hw fun m25 J26 P27 hw => ?_)
            obtain ⟨hp29, hw⟩ := hw
            refine s_aload_n (pc := 96) rfl rfl ?_
            refine s_dup (pc := 97) rfl rfl ?_
            refine s_getI (pc := 98) rfl ko_36 ?_
            refine s_iconst (pc := 101) rfl ?_
            refine s_iadd (pc := 102) rfl ?_
            refine s_putI (pc := 103) rfl ko_36 ?_
            exact hw
        · replace hw := hw.2 hc
          refine s_goto (pc := 74) (tgt := 106) rfl rfl ?_
          exact hw

set_option maxRecDepth 20000 in
set_option maxHeartbeats 4000000 in
theorem b_Pairs_search_106 {X : aX} {d : Nat} (x1 : Nat) (x2 : Int) (x3 : Int) (x4 : Int) (kx1 : am_kd an_K x1 = some (.inl 10)) (m : Mi) (J : Mj) (P : Mp) (hp : PP P) (post : Mi → Mj → Mp → Prop)
    (hw : Rn X (d + 5) 49 43 [some (.ref 36), some (.ref x1), some (.int (iz x2)), some (.int (iz x3)), some (.int (iz (x4 + 1)))] [] (SS m J P) (QV post)) : Rn X (d + 5) 49 106 [some (.ref 36), some (.ref x1), some (.int (iz x2)), some (.int (iz x3)), some (.int (iz x4))] [] (SS m J P) (QV post) := by
  refine s_iinc (pc := 106) (L' := [some (.ref 36), some (.ref x1), some (.int (iz x2)), some (.int (iz x3)), some (.int (iz (x4 + 1)))]) rfl rfl (Nat.le_of_ble_eq_true rfl) rfl ?_
  refine s_goto (pc := 109) (tgt := 43) rfl rfl ?_
  exact hw
