/-! the methods, from place to place, by program (wip/whole/gen/blk.py) -/
set_option maxRecDepth 20000 in
set_option maxHeartbeats 4000000 in
theorem b_Pairs_overlap_0 {X : aX} {d : Nat} (x1 : Int) (x2 : Int) (x3 : Int) (x4 : Nat) (kx4 : am_kd an_K x4 = some (.inl 10)) (m : Mi) (J : Mj) (P : Mp) (hp : PP P) (post : Int → Mi → Mj → Mp → Prop)
    (hw : ((0 : Int) ≤ x1 ∧ (x1 : Int) < 16) ∧ ((0 : Int) ≤ x3 ∧ (x3 : Int) < 16) ∧ ((0 : Int) ≤ x2 ∧ (x2 : Int) < 80) ∧ ((0 : Int) ≤ 0 ∧ (0 : Int) < 80) ∧ Zr (m (x4 + 5 + 6 * x1.toNat + 1) x2.toNat) ∧ Zr (m (x4 + 5 + 6 * x3.toNat + 1) (0 : Int).toNat) ∧ ((((m (x4 + 5 + 6 * x1.toNat + 1) x2.toNat) = (m (x4 + 5 + 6 * x3.toNat + 1) (0 : Int).toNat)) → Cv X (d + 2) 51 [.ref 8, .ref (x4 + 5 + 6 * x1.toNat + 1), .int (iz 0), .int (iz (m (x4 + 5 + 6 * x1.toNat) 6)), .ref x4] m J P (fun m7 J8 P9 => PP P9 ∧ Cv X (d + 2) 52 [.ref 8, .ref (x4 + 5 + 6 * x3.toNat)] m7 J8 P9 (fun m12 J13 P14 => PP P14 ∧ Ci X (d + 2) 53 [.ref 8, .int (iz x2), .int (iz (m12 8 2))] m12 J13 P14 (fun z20 m17 J18 P19 => PP P19 ∧ (z20 = 0 ∨ z20 = 1) ∧ post z20 m17 J18 P19)))) ∧ (¬ ((m (x4 + 5 + 6 * x1.toNat + 1) x2.toNat) = (m (x4 + 5 + 6 * x3.toNat + 1) (0 : Int).toNat)) → post 0 m J P))) : Rn X (d + 3) 50 0 [some (.ref 36), some (.int (iz x1)), some (.int (iz x2)), some (.int (iz x3)), some (.ref x4), none, none] [] (SS m J P) (QI post) := by
  refine s_aload (pc := 0) rfl rfl ?_
  refine s_getA (pc := 2) rfl kx4 (pc_10_3 hp kx4) ?_
  refine s_iload_n (pc := 5) rfl rfl ?_
  obtain ⟨hb1, hw⟩ := hw
  refine s_aald (pc := 6) rfl (kc_10_3 kx4) (by decide) hb1 (pr hp kx4 hb1) ?_
  refine s_astore (pc := 7) (L' := [some (.ref 36), some (.int (iz x1)), some (.int (iz x2)), some (.int (iz x3)), some (.ref x4), some (.ref (x4 + 5 + 6 * x1.toNat)), none]) rfl (Nat.le_of_ble_eq_true rfl) rfl ?_
  refine s_aload (pc := 9) rfl rfl ?_
  refine s_getA (pc := 11) rfl kx4 (pc_10_3 hp kx4) ?_
  refine s_iload_n (pc := 14) rfl rfl ?_
  obtain ⟨hb2, hw⟩ := hw
  refine s_aald (pc := 15) rfl (kc_10_3 kx4) (by decide) hb2 (pr hp kx4 hb2) ?_
  refine s_astore (pc := 16) (L' := [some (.ref 36), some (.int (iz x1)), some (.int (iz x2)), some (.int (iz x3)), some (.ref x4), some (.ref (x4 + 5 + 6 * x1.toNat)), some (.ref (x4 + 5 + 6 * x3.toNat))]) rfl (Nat.le_of_ble_eq_true rfl) rfl ?_
  refine s_aload (pc := 18) rfl rfl ?_
  refine s_getA (pc := 20) rfl (kr kx4 hb1) (pc_8_0 hp (kr kx4 hb1)) ?_
  refine s_iload_n (pc := 23) rfl rfl ?_
  obtain ⟨hb3, hw⟩ := hw
  refine s_iald (pc := 24) rfl (kc_8_0 (kr kx4 hb1)) (by decide) hb3 ?_
  refine s_aload (pc := 25) rfl rfl ?_
  refine s_getA (pc := 27) rfl (kr kx4 hb2) (pc_8_0 hp (kr kx4 hb2)) ?_
  refine s_iconst (pc := 30) rfl ?_
  obtain ⟨hb4, hw⟩ := hw
  refine s_iald (pc := 31) rfl (kc_8_0 (kr kx4 hb2)) (by decide) hb4 ?_
  obtain ⟨hz5, hw⟩ := hw
  obtain ⟨hz6, hw⟩ := hw
  refine s_ic_eq (pc := 32) (tgt := 37) rfl rfl hz5 hz6 (fun hc => ?_) (fun hc => ?_)
  · replace hw := hw.1 hc
    refine s_aload_n (pc := 37) rfl rfl ?_
    refine s_getA (pc := 38) rfl ko_36 (po_36_0 hp) ?_
    refine s_aload (pc := 41) rfl rfl ?_
    refine s_getA (pc := 43) rfl (kr kx4 hb1) (pc_8_0 hp (kr kx4 hb1)) ?_
    refine s_iconst (pc := 46) rfl ?_
    refine s_aload (pc := 47) rfl rfl ?_
    refine s_getI (pc := 49) rfl (kr kx4 hb1) ?_
    refine s_aload (pc := 52) rfl rfl ?_
    refine s_cv (pc := 54) (d := (d + 2)) (t := []) rfl rfl (am_ca_v (ps := [.ref x4, .int (iz (m (x4 + 5 + 6 * x1.toNat) 6)), .int (iz 0), .ref (x4 + 5 + 6 * x1.toNat + 1)]) rfl (by decide +kernel)) (Nat.le_of_ble_eq_true rfl) (Cv.weak hw fun m7 J8 P9 hw => ?_)
    obtain ⟨hp11, hw⟩ := hw
    refine s_aload_n (pc := 57) rfl rfl ?_
    refine s_getA (pc := 58) rfl ko_36 (po_36_0 hp11) ?_
    refine s_aload (pc := 61) rfl rfl ?_
    refine s_cv (pc := 63) (d := (d + 2)) (t := []) rfl rfl (am_ca_v (ps := [.ref (x4 + 5 + 6 * x3.toNat)]) rfl (by decide +kernel)) (Nat.le_of_ble_eq_true rfl) (Cv.weak hw fun m12 J13 P14 hw => ?_)
    obtain ⟨hp16, hw⟩ := hw
    refine s_aload_n (pc := 66) rfl rfl ?_
    refine s_getA (pc := 67) rfl ko_36 (po_36_0 hp16) ?_
    refine s_iload_n (pc := 70) rfl rfl ?_
    refine s_aload_n (pc := 71) rfl rfl ?_
    refine s_getA (pc := 72) rfl ko_36 (po_36_0 hp16) ?_
    refine s_getI (pc := 75) rfl (by decide +kernel) ?_
    refine s_ci (pc := 78) (d := (d + 2)) (t := []) rfl rfl (am_ca_v (ps := [.int (iz (m12 8 2)), .int (iz x2)]) rfl (by decide +kernel)) (Nat.le_of_ble_eq_true rfl) (Ci.weak hw fun z20 m17 J18 P19 hw => ?_)
    obtain ⟨hp21, hw⟩ := hw
    exact s_retz (pc := 81) rfl rfl hw.1 hw.2
  · replace hw := hw.2 hc
    refine s_iconst (pc := 35) rfl ?_
    exact s_retz (pc := 36) rfl rfl (by decide) hw

set_option maxRecDepth 20000 in
set_option maxHeartbeats 4000000 in
theorem b_Bench_load_0 {X : aX} {d : Nat} (x0 : Nat) (x1 nx1 : Nat) (x2 : Int) (x3 : Int) (x4 : Nat) (kx0 : am_kd an_K x0 = some (.inl 4)) (kx1 : am_kd an_K x1 = some (.inr (0, nx1))) (bx1 : nx1 ≤ 100000) (kx4 : am_kd an_K x4 = some (.inl 10)) (m : Mi) (J : Mj) (P : Mp) (hp : PP P) (post : Mi → Mj → Mp → Prop)
    (hw : Zr (x2) ∧ (((x2 < 0) → post (mu (mu m x0 2 0) x0 3 0) J P) ∧ (¬ (x2 < 0) → Zr (x3) ∧ (((x3 < 0) → post (mu (mu m x0 2 0) x0 3 0) J P) ∧ (¬ (x3 < 0) → Zr (x3) ∧ (((800 < x3) → post (mu (mu m x0 2 0) x0 3 0) J P) ∧ (¬ (800 < x3) → Zr (x2) ∧ Zr (((nx1 : Int)) - x3) ∧ (((x2 ≤ (((nx1 : Int)) - x3)) → Rn X (d + 1) 51 44 [some (.ref x0), some (.ref x1), some (.int (iz x2)), some (.int (iz x3)), some (.ref x4), some (.int (iz (x3 - 1))), none, none] [] (SS (mu (mu (mu m x0 2 0) x0 3 0) x0 2 x3) J P) (QV post)) ∧ (¬ (x2 ≤ (((nx1 : Int)) - x3)) → post (mu (mu m x0 2 0) x0 3 0) J P))))))))) : Rn X (d + 1) 51 0 [some (.ref x0), some (.ref x1), some (.int (iz x2)), some (.int (iz x3)), some (.ref x4), none, none, none] [] (SS m J P) (QV post) := by
  refine s_aload_n (pc := 0) rfl rfl ?_
  refine s_iconst (pc := 1) rfl ?_
  refine s_putI (pc := 2) rfl kx0 ?_
  refine s_aload_n (pc := 5) rfl rfl ?_
  refine s_iconst (pc := 6) rfl ?_
  refine s_putI (pc := 7) rfl kx0 ?_
  refine s_iload_n (pc := 10) rfl rfl ?_
  obtain ⟨hz1, hw⟩ := hw
  refine s_if_lt (pc := 11) (tgt := 33) rfl rfl hz1 (fun hc => ?_) (fun hc => ?_)
  · replace hw := hw.1 hc
    exact s_retv (pc := 33) rfl rfl hw
  · replace hw := hw.2 hc
    refine s_iload_n (pc := 14) rfl rfl ?_
    obtain ⟨hz2, hw⟩ := hw
    refine s_if_lt (pc := 15) (tgt := 33) rfl rfl hz2 (fun hc => ?_) (fun hc => ?_)
    · replace hw := hw.1 hc
      exact s_retv (pc := 33) rfl rfl hw
    · replace hw := hw.2 hc
      refine s_iload_n (pc := 18) rfl rfl ?_
      refine s_sipush (pc := 19) rfl (by decide) ?_
      obtain ⟨hz3, hw⟩ := hw
      refine s_ic_gt (pc := 22) (tgt := 33) rfl rfl hz3 (by decide) (fun hc => ?_) (fun hc => ?_)
      · replace hw := hw.1 hc
        exact s_retv (pc := 33) rfl rfl hw
      · replace hw := hw.2 hc
        refine s_iload_n (pc := 25) rfl rfl ?_
        refine s_aload_n (pc := 26) rfl rfl ?_
        refine s_alen (pc := 27) rfl kx1 (by decide) ?_
        refine s_iload_n (pc := 28) rfl rfl ?_
        refine s_isub (pc := 29) rfl ?_
        obtain ⟨hz4, hw⟩ := hw
        obtain ⟨hz5, hw⟩ := hw
        refine s_ic_le (pc := 30) (tgt := 34) rfl rfl hz4 hz5 (fun hc => ?_) (fun hc => ?_)
        · replace hw := hw.1 hc
          refine s_aload_n (pc := 34) rfl rfl ?_
          refine s_iload_n (pc := 35) rfl rfl ?_
          refine s_putI (pc := 36) rfl kx0 ?_
          refine s_iload_n (pc := 39) rfl rfl ?_
          refine s_iconst (pc := 40) rfl ?_
          refine s_isub (pc := 41) rfl ?_
          refine s_istore (pc := 42) (L' := [some (.ref x0), some (.ref x1), some (.int (iz x2)), some (.int (iz x3)), some (.ref x4), some (.int (iz (x3 - 1))), none, none]) rfl (Nat.le_of_ble_eq_true rfl) rfl ?_
          exact hw
        · replace hw := hw.2 hc
          exact s_retv (pc := 33) rfl rfl hw

set_option maxRecDepth 20000 in
set_option maxHeartbeats 4000000 in
theorem b_Bench_load_44 {X : aX} {d : Nat} (x0 : Nat) (x1 nx1 : Nat) (x2 : Int) (x3 : Int) (x4 : Nat) (x5 : Int) (kx0 : am_kd an_K x0 = some (.inl 4)) (kx1 : am_kd an_K x1 = some (.inr (0, nx1))) (bx1 : nx1 ≤ 100000) (kx4 : am_kd an_K x4 = some (.inl 10)) (m : Mi) (J : Mj) (P : Mp) (hp : PP P) (post : Mi → Mj → Mp → Prop)
    (hw : Zr (x5) ∧ (((x5 < 0) → post m J P) ∧ (¬ (x5 < 0) → ((0 : Int) ≤ (x2 + x5) ∧ ((x2 + x5) : Int) < nx1) ∧ ((0 : Int) ≤ x5 ∧ (x5 : Int) < 880) ∧ ((0 : Int) ≤ x5 ∧ (x5 : Int) < 880) ∧ Zr ((mu m (x0 + 1) x5.toNat (m x1 (x2 + x5).toNat)) x0 3) ∧ Zr (-((mu m (x0 + 1) x5.toNat (m x1 (x2 + x5).toNat)) (x0 + 1) x5.toNat)) ∧ ((0 : Int) ≤ x5 ∧ (x5 : Int) < 880) ∧ Ci X d 40 [.ref x4, .int (iz ((mu (mu m (x0 + 1) x5.toNat (m x1 (x2 + x5).toNat)) x0 3 (if ((mu m (x0 + 1) x5.toNat (m x1 (x2 + x5).toNat)) x0 3) < (-((mu m (x0 + 1) x5.toNat (m x1 (x2 + x5).toNat)) (x0 + 1) x5.toNat)) then (-((mu m (x0 + 1) x5.toNat (m x1 (x2 + x5).toNat)) (x0 + 1) x5.toNat)) else ((mu m (x0 + 1) x5.toNat (m x1 (x2 + x5).toNat)) x0 3))) (x0 + 1) x5.toNat))] (mu (mu m (x0 + 1) x5.toNat (m x1 (x2 + x5).toNat)) x0 3 (if ((mu m (x0 + 1) x5.toNat (m x1 (x2 + x5).toNat)) x0 3) < (-((mu m (x0 + 1) x5.toNat (m x1 (x2 + x5).toNat)) (x0 + 1) x5.toNat)) then (-((mu m (x0 + 1) x5.toNat (m x1 (x2 + x5).toNat)) (x0 + 1) x5.toNat)) else ((mu m (x0 + 1) x5.toNat (m x1 (x2 + x5).toNat)) x0 3))) J P (fun z11 m8 J9 P10 => PP P10 ∧ Rn X (d + 1) 51 101 [some (.ref x0), some (.ref x1), some (.int (iz x2)), some (.int (iz x3)), some (.ref x4), some (.int (iz x5)), some (.int (iz (x5 + 1))), some (.int (iz z11))] [] (SS m8 J9 P10) (QV post))))) : Rn X (d + 1) 51 44 [some (.ref x0), some (.ref x1), some (.int (iz x2)), some (.int (iz x3)), some (.ref x4), some (.int (iz x5)), none, none] [] (SS m J P) (QV post) := by
  refine s_iload (pc := 44) rfl rfl ?_
  obtain ⟨hz1, hw⟩ := hw
  refine s_if_lt (pc := 46) (tgt := 142) rfl rfl hz1 (fun hc => ?_) (fun hc => ?_)
  · replace hw := hw.1 hc
    exact s_retv (pc := 142) rfl rfl hw
  · replace hw := hw.2 hc
    refine s_aload_n (pc := 49) rfl rfl ?_
    refine s_getA (pc := 50) rfl kx0 (pc_4_0 hp kx0) ?_
    refine s_iload (pc := 53) rfl rfl ?_
    refine s_aload_n (pc := 55) rfl rfl ?_
    refine s_iload_n (pc := 56) rfl rfl ?_
    refine s_iload (pc := 57) rfl rfl ?_
    refine s_iadd (pc := 59) rfl ?_
    obtain ⟨hb2, hw⟩ := hw
    refine s_iald (pc := 60) rfl kx1 bx1 hb2 ?_
    obtain ⟨hb3, hw⟩ := hw
    refine s_iast (pc := 61) rfl (kc_4_0 kx0) (by decide) hb3 ?_
    refine s_aload_n (pc := 62) rfl rfl ?_
    refine s_aload_n (pc := 63) rfl rfl ?_
    refine s_getI (pc := 64) rfl kx0 ?_
    refine s_aload_n (pc := 67) rfl rfl ?_
    refine s_getA (pc := 68) rfl kx0 (pc_4_0 hp kx0) ?_
    refine s_iload (pc := 71) rfl rfl ?_
    obtain ⟨hb4, hw⟩ := hw
    refine s_iald (pc := 73) rfl (kc_4_0 kx0) (by decide) hb4 ?_
    refine s_ineg (pc := 74) rfl ?_
    obtain ⟨hz5, hw⟩ := hw
    obtain ⟨hz6, hw⟩ := hw
    refine s_max (pc := 75) (d := d) rfl hz5 hz6 (Nat.le_of_ble_eq_true rfl) ?_
    refine s_putI (pc := 78) rfl kx0 ?_
    refine s_iload (pc := 81) rfl rfl ?_
    refine s_iconst (pc := 83) rfl ?_
    refine s_iadd (pc := 84) rfl ?_
    refine s_istore (pc := 85) (L' := [some (.ref x0), some (.ref x1), some (.int (iz x2)), some (.int (iz x3)), some (.ref x4), some (.int (iz x5)), some (.int (iz (x5 + 1))), none]) rfl (Nat.le_of_ble_eq_true rfl) rfl ?_
    refine s_aload (pc := 87) rfl rfl ?_
    refine s_aload_n (pc := 89) rfl rfl ?_
    refine s_getA (pc := 90) rfl kx0 (pc_4_0 hp kx0) ?_
    refine s_iload (pc := 93) rfl rfl ?_
    obtain ⟨hb7, hw⟩ := hw
    refine s_iald (pc := 95) rfl (kc_4_0 kx0) (by decide) hb7 ?_
    refine s_ci (pc := 96) (d := d) (t := []) rfl rfl (am_ca_v (ps := [.int (iz ((mu (mu m (x0 + 1) x5.toNat (m x1 (x2 + x5).toNat)) x0 3 (if ((mu m (x0 + 1) x5.toNat (m x1 (x2 + x5).toNat)) x0 3) < (-((mu m (x0 + 1) x5.toNat (m x1 (x2 + x5).toNat)) (x0 + 1) x5.toNat)) then (-((mu m (x0 + 1) x5.toNat (m x1 (x2 + x5).toNat)) (x0 + 1) x5.toNat)) else ((mu m (x0 + 1) x5.toNat (m x1 (x2 + x5).toNat)) x0 3))) (x0 + 1) x5.toNat))]) rfl kx4) (Nat.le_of_ble_eq_true rfl) (Ci.weak hw fun z11 m8 J9 P10 hw => ?_)
    obtain ⟨hp12, hw⟩ := hw
    refine s_istore (pc := 99) (L' := [some (.ref x0), some (.ref x1), some (.int (iz x2)), some (.int (iz x3)), some (.ref x4), some (.int (iz x5)), some (.int (iz (x5 + 1))), some (.int (iz z11))]) rfl (Nat.le_of_ble_eq_true rfl) rfl ?_
    exact hw

set_option maxRecDepth 20000 in
set_option maxHeartbeats 4000000 in
theorem b_Bench_load_101 {X : aX} {d : Nat} (x0 : Nat) (x1 nx1 : Nat) (x2 : Int) (x3 : Int) (x4 : Nat) (x5 : Int) (x6 : Int) (x7 : Int) (kx0 : am_kd an_K x0 = some (.inl 4)) (kx1 : am_kd an_K x1 = some (.inr (0, nx1))) (bx1 : nx1 ≤ 100000) (kx4 : am_kd an_K x4 = some (.inl 10)) (m : Mi) (J : Mj) (P : Mp) (hp : PP P) (post : Mi → Mj → Mp → Prop)
    (hw : Zr (x7) ∧ (((x7 ≤ 0) → ((0 : Int) ≤ x5 ∧ (x5 : Int) < 880) ∧ Rn X (d + 1) 51 44 [some (.ref x0), some (.ref x1), some (.int (iz x2)), some (.int (iz x3)), some (.ref x4), some (.int (iz (x5 + (-1)))), none, none] [] (SS (mu m (x0 + 2) x5.toNat x6) J P) (QV post)) ∧ (¬ (x7 ≤ 0) → Zr (x6) ∧ Zr (x3) ∧ (((x3 ≤ x6) → ((0 : Int) ≤ x5 ∧ (x5 : Int) < 880) ∧ Rn X (d + 1) 51 44 [some (.ref x0), some (.ref x1), some (.int (iz x2)), some (.int (iz x3)), some (.ref x4), some (.int (iz (x5 + (-1)))), none, none] [] (SS (mu m (x0 + 2) x5.toNat x6) J P) (QV post)) ∧ (¬ (x3 ≤ x6) → ((0 : Int) ≤ x6 ∧ (x6 : Int) < 880) ∧ Rn X (d + 1) 51 101 [some (.ref x0), some (.ref x1), some (.int (iz x2)), some (.int (iz x3)), some (.ref x4), some (.int (iz x5)), some (.int (iz (m (x0 + 2) x6.toNat))), some (.int (iz (x7 + (-1))))] [] (SS m J P) (QV post)))))) : Rn X (d + 1) 51 101 [some (.ref x0), some (.ref x1), some (.int (iz x2)), some (.int (iz x3)), some (.ref x4), some (.int (iz x5)), some (.int (iz x6)), some (.int (iz x7))] [] (SS m J P) (QV post) := by
  refine s_iload (pc := 101) rfl rfl ?_
  obtain ⟨hz1, hw⟩ := hw
  refine s_if_le (pc := 103) (tgt := 127) rfl rfl hz1 (fun hc => ?_) (fun hc => ?_)
  · replace hw := hw.1 hc
    refine s_aload_n (pc := 127) rfl rfl ?_
    refine s_getA (pc := 128) rfl kx0 (pc_4_1 hp kx0) ?_
    refine s_iload (pc := 131) rfl rfl ?_
    refine s_iload (pc := 133) rfl rfl ?_
    obtain ⟨hb2, hw⟩ := hw
    refine s_iast (pc := 135) rfl (kc_4_1 kx0) (by decide) hb2 ?_
    refine s_iinc (pc := 136) (L' := [some (.ref x0), some (.ref x1), some (.int (iz x2)), some (.int (iz x3)), some (.ref x4), some (.int (iz (x5 + (-1)))), some (.int (iz x6)), some (.int (iz x7))]) rfl rfl (Nat.le_of_ble_eq_true rfl) rfl ?_
    refine s_goto (pc := 139) (tgt := 44) rfl rfl ?_
    exact Rn.weakL hw (LLe.keep _ (LLe.keep _ (LLe.keep _ (LLe.keep _ (LLe.keep _ (LLe.keep _ (LLe.drop _ (LLe.drop _ (LLe.nil)))))))))
  · replace hw := hw.2 hc
    refine s_iload (pc := 106) rfl rfl ?_
    refine s_iload_n (pc := 108) rfl rfl ?_
    obtain ⟨hz3, hw⟩ := hw
    obtain ⟨hz4, hw⟩ := hw
    refine s_ic_ge (pc := 109) (tgt := 127) rfl rfl hz3 hz4 (fun hc => ?_) (fun hc => ?_)
    · replace hw := hw.1 hc
      refine s_aload_n (pc := 127) rfl rfl ?_
      refine s_getA (pc := 128) rfl kx0 (pc_4_1 hp kx0) ?_
      refine s_iload (pc := 131) rfl rfl ?_
      refine s_iload (pc := 133) rfl rfl ?_
      obtain ⟨hb5, hw⟩ := hw
      refine s_iast (pc := 135) rfl (kc_4_1 kx0) (by decide) hb5 ?_
      refine s_iinc (pc := 136) (L' := [some (.ref x0), some (.ref x1), some (.int (iz x2)), some (.int (iz x3)), some (.ref x4), some (.int (iz (x5 + (-1)))), some (.int (iz x6)), some (.int (iz x7))]) rfl rfl (Nat.le_of_ble_eq_true rfl) rfl ?_
      refine s_goto (pc := 139) (tgt := 44) rfl rfl ?_
      exact Rn.weakL hw (LLe.keep _ (LLe.keep _ (LLe.keep _ (LLe.keep _ (LLe.keep _ (LLe.keep _ (LLe.drop _ (LLe.drop _ (LLe.nil)))))))))
    · replace hw := hw.2 hc
      refine s_aload_n (pc := 112) rfl rfl ?_
      refine s_getA (pc := 113) rfl kx0 (pc_4_1 hp kx0) ?_
      refine s_iload (pc := 116) rfl rfl ?_
      obtain ⟨hb6, hw⟩ := hw
      refine s_iald (pc := 118) rfl (kc_4_1 kx0) (by decide) hb6 ?_
      refine s_istore (pc := 119) (L' := [some (.ref x0), some (.ref x1), some (.int (iz x2)), some (.int (iz x3)), some (.ref x4), some (.int (iz x5)), some (.int (iz (m (x0 + 2) x6.toNat))), some (.int (iz x7))]) rfl (Nat.le_of_ble_eq_true rfl) rfl ?_
      refine s_iinc (pc := 121) (L' := [some (.ref x0), some (.ref x1), some (.int (iz x2)), some (.int (iz x3)), some (.ref x4), some (.int (iz x5)), some (.int (iz (m (x0 + 2) x6.toNat))), some (.int (iz (x7 + (-1))))]) rfl rfl (Nat.le_of_ble_eq_true rfl) rfl ?_
      refine s_goto (pc := 124) (tgt := 101) rfl rfl ?_
      exact hw

set_option maxRecDepth 20000 in
set_option maxHeartbeats 4000000 in
theorem b_Bench_add_0 {X : aX} {d : Nat} (x0 : Nat) (x1 : Nat) (kx0 : am_kd an_K x0 = some (.inl 4)) (kx1 : am_kd an_K x1 = some (.inl 8)) (m : Mi) (J : Mj) (P : Mp) (hp : PP P) (post : Mi → Mj → Mp → Prop)
    (hw : Rn X d 52 2 [some (.ref x0), some (.ref x1), some (.int (iz 0)), none] [] (SS m J P) (QV post)) : Rn X d 52 0 [some (.ref x0), some (.ref x1), none, none] [] (SS m J P) (QV post) := by
  refine s_iconst (pc := 0) rfl ?_
  refine s_istore_n (pc := 1) (L' := [some (.ref x0), some (.ref x1), some (.int (iz 0)), none]) rfl (Nat.le_of_ble_eq_true rfl) rfl ?_
  exact hw

set_option maxRecDepth 20000 in
set_option maxHeartbeats 4000000 in
theorem b_Bench_add_2 {X : aX} {d : Nat} (x0 : Nat) (x1 : Nat) (x2 : Int) (kx0 : am_kd an_K x0 = some (.inl 4)) (kx1 : am_kd an_K x1 = some (.inl 8)) (m : Mi) (J : Mj) (P : Mp) (hp : PP P) (post : Mi → Mj → Mp → Prop)
    (hw : Zr (x2) ∧ Zr (m x1 6) ∧ ((((m x1 6) ≤ x2) → post m J P) ∧ (¬ ((m x1 6) ≤ x2) → Zr ((m x0 2) + x2) ∧ (((880 ≤ ((m x0 2) + x2)) → post m J P) ∧ (¬ (880 ≤ ((m x0 2) + x2)) → ((0 : Int) ≤ x2 ∧ (x2 : Int) < 80) ∧ Zr (m (x1 + 1) x2.toNat) ∧ (((0 ≤ (m (x1 + 1) x2.toNat)) → Zr (x2) ∧ Zr (m x1 5) ∧ ((((m x1 5) ≤ x2) → ((0 : Int) ≤ ((m x0 2) + x2) ∧ (((m x0 2) + x2) : Int) < 880) ∧ ((0 : Int) ≤ x2 ∧ (x2 : Int) < 80) ∧ ((0 : Int) ≤ (((mu m (x0 + 1) ((m x0 2) + x2).toNat (zor (m (x1 + 1) x2.toNat) 32)) x0 2) + x2) ∧ ((((mu m (x0 + 1) ((m x0 2) + x2).toNat (zor (m (x1 + 1) x2.toNat) 32)) x0 2) + x2) : Int) < 880) ∧ Rn X d 52 2 [some (.ref x0), some (.ref x1), some (.int (iz (x2 + 1))), none] [] (SS (mu (mu m (x0 + 1) ((m x0 2) + x2).toNat (zor (m (x1 + 1) x2.toNat) 32)) (x0 + 2) (((mu m (x0 + 1) ((m x0 2) + x2).toNat (zor (m (x1 + 1) x2.toNat) 32)) x0 2) + x2).toNat (((mu m (x0 + 1) ((m x0 2) + x2).toNat (zor (m (x1 + 1) x2.toNat) 32)) x0 2) + ((mu m (x0 + 1) ((m x0 2) + x2).toNat (zor (m (x1 + 1) x2.toNat) 32)) (x1 + 2) x2.toNat))) J P) (QV post)) ∧ (¬ ((m x1 5) ≤ x2) → ((0 : Int) ≤ ((m x0 2) + x2) ∧ (((m x0 2) + x2) : Int) < 880) ∧ ((0 : Int) ≤ x2 ∧ (x2 : Int) < 80) ∧ ((0 : Int) ≤ (((mu m (x0 + 1) ((m x0 2) + x2).toNat (m (x1 + 1) x2.toNat)) x0 2) + x2) ∧ ((((mu m (x0 + 1) ((m x0 2) + x2).toNat (m (x1 + 1) x2.toNat)) x0 2) + x2) : Int) < 880) ∧ Rn X d 52 2 [some (.ref x0), some (.ref x1), some (.int (iz (x2 + 1))), none] [] (SS (mu (mu m (x0 + 1) ((m x0 2) + x2).toNat (m (x1 + 1) x2.toNat)) (x0 + 2) (((mu m (x0 + 1) ((m x0 2) + x2).toNat (m (x1 + 1) x2.toNat)) x0 2) + x2).toNat (((mu m (x0 + 1) ((m x0 2) + x2).toNat (m (x1 + 1) x2.toNat)) x0 2) + ((mu m (x0 + 1) ((m x0 2) + x2).toNat (m (x1 + 1) x2.toNat)) (x1 + 2) x2.toNat))) J P) (QV post)))) ∧ (¬ (0 ≤ (m (x1 + 1) x2.toNat)) → ((0 : Int) ≤ ((m x0 2) + x2) ∧ (((m x0 2) + x2) : Int) < 880) ∧ ((0 : Int) ≤ x2 ∧ (x2 : Int) < 80) ∧ ((0 : Int) ≤ (((mu m (x0 + 1) ((m x0 2) + x2).toNat ((m (x1 + 1) x2.toNat) - (m x0 3))) x0 2) + x2) ∧ ((((mu m (x0 + 1) ((m x0 2) + x2).toNat ((m (x1 + 1) x2.toNat) - (m x0 3))) x0 2) + x2) : Int) < 880) ∧ Rn X d 52 2 [some (.ref x0), some (.ref x1), some (.int (iz (x2 + 1))), none] [] (SS (mu (mu m (x0 + 1) ((m x0 2) + x2).toNat ((m (x1 + 1) x2.toNat) - (m x0 3))) (x0 + 2) (((mu m (x0 + 1) ((m x0 2) + x2).toNat ((m (x1 + 1) x2.toNat) - (m x0 3))) x0 2) + x2).toNat (((mu m (x0 + 1) ((m x0 2) + x2).toNat ((m (x1 + 1) x2.toNat) - (m x0 3))) x0 2) + ((mu m (x0 + 1) ((m x0 2) + x2).toNat ((m (x1 + 1) x2.toNat) - (m x0 3))) (x1 + 2) x2.toNat))) J P) (QV post)))))))) : Rn X d 52 2 [some (.ref x0), some (.ref x1), some (.int (iz x2)), none] [] (SS m J P) (QV post) := by
  refine s_iload_n (pc := 2) rfl rfl ?_
  refine s_aload_n (pc := 3) rfl rfl ?_
  refine s_getI (pc := 4) rfl kx1 ?_
  obtain ⟨hz1, hw⟩ := hw
  obtain ⟨hz2, hw⟩ := hw
  refine s_ic_ge (pc := 7) (tgt := 108) rfl rfl hz1 hz2 (fun hc => ?_) (fun hc => ?_)
  · replace hw := hw.1 hc
    exact s_retv (pc := 108) rfl rfl hw
  · replace hw := hw.2 hc
    refine s_aload_n (pc := 10) rfl rfl ?_
    refine s_getI (pc := 11) rfl kx0 ?_
    refine s_iload_n (pc := 14) rfl rfl ?_
    refine s_iadd (pc := 15) rfl ?_
    refine s_sipush (pc := 16) rfl (by decide) ?_
    obtain ⟨hz3, hw⟩ := hw
    refine s_ic_ge (pc := 19) (tgt := 108) rfl rfl hz3 (by decide) (fun hc => ?_) (fun hc => ?_)
    · replace hw := hw.1 hc
      exact s_retv (pc := 108) rfl rfl hw
    · replace hw := hw.2 hc
      refine s_aload_n (pc := 22) rfl rfl ?_
      refine s_getA (pc := 23) rfl kx1 (pc_8_0 hp kx1) ?_
      refine s_iload_n (pc := 26) rfl rfl ?_
      obtain ⟨hb4, hw⟩ := hw
      refine s_iald (pc := 27) rfl (kc_8_0 kx1) (by decide) hb4 ?_
      refine s_istore_n (pc := 28) (L' := [some (.ref x0), some (.ref x1), some (.int (iz x2)), some (.int (iz (m (x1 + 1) x2.toNat)))]) rfl (Nat.le_of_ble_eq_true rfl) rfl ?_
      refine s_iload_n (pc := 29) rfl rfl ?_
      obtain ⟨hz5, hw⟩ := hw
      refine s_if_ge (pc := 30) (tgt := 53) rfl rfl hz5 (fun hc => ?_) (fun hc => ?_)
      · replace hw := hw.1 hc
        refine s_aload_n (pc := 53) rfl rfl ?_
        refine s_getA (pc := 54) rfl kx0 (pc_4_0 hp kx0) ?_
        refine s_aload_n (pc := 57) rfl rfl ?_
        refine s_getI (pc := 58) rfl kx0 ?_
        refine s_iload_n (pc := 61) rfl rfl ?_
        refine s_iadd (pc := 62) rfl ?_
        refine s_iload_n (pc := 63) rfl rfl ?_
        refine s_aload_n (pc := 64) rfl rfl ?_
        refine s_getI (pc := 65) rfl kx1 ?_
        obtain ⟨hz6, hw⟩ := hw
        obtain ⟨hz7, hw⟩ := hw
        refine s_ic_ge (pc := 68) (tgt := 75) rfl rfl hz6 hz7 (fun hc => ?_) (fun hc => ?_)
        · replace hw := hw.1 hc
          refine s_iload_n (pc := 75) rfl rfl ?_
          refine s_bipush (pc := 76) rfl (by decide) ?_
          refine s_ior (pc := 78) rfl ?_
          obtain ⟨hb8, hw⟩ := hw
          refine s_iast (pc := 79) rfl (kc_4_0 kx0) (by decide) hb8 ?_
          refine s_aload_n (pc := 80) rfl rfl ?_
          refine s_getA (pc := 81) rfl kx0 (pc_4_1 hp kx0) ?_
          refine s_aload_n (pc := 84) rfl rfl ?_
          refine s_getI (pc := 85) rfl kx0 ?_
          refine s_iload_n (pc := 88) rfl rfl ?_
          refine s_iadd (pc := 89) rfl ?_
          refine s_aload_n (pc := 90) rfl rfl ?_
          refine s_getI (pc := 91) rfl kx0 ?_
          refine s_aload_n (pc := 94) rfl rfl ?_
          refine s_getA (pc := 95) rfl kx1 (pc_8_1 hp kx1) ?_
          refine s_iload_n (pc := 98) rfl rfl ?_
          obtain ⟨hb9, hw⟩ := hw
          refine s_iald (pc := 99) rfl (kc_8_1 kx1) (by decide) hb9 ?_
          refine s_iadd (pc := 100) rfl ?_
          obtain ⟨hb10, hw⟩ := hw
          refine s_iast (pc := 101) rfl (kc_4_1 kx0) (by decide) hb10 ?_
          refine s_iinc (pc := 102) (L' := [some (.ref x0), some (.ref x1), some (.int (iz (x2 + 1))), some (.int (iz (m (x1 + 1) x2.toNat)))]) rfl rfl (Nat.le_of_ble_eq_true rfl) rfl ?_
          refine s_goto (pc := 105) (tgt := 2) rfl rfl ?_
          exact Rn.weakL hw (LLe.keep _ (LLe.keep _ (LLe.keep _ (LLe.drop _ (LLe.nil)))))
        · replace hw := hw.2 hc
          refine s_iload_n (pc := 71) rfl rfl ?_
          refine s_goto (pc := 72) (tgt := 79) rfl rfl ?_
          obtain ⟨hb11, hw⟩ := hw
          refine s_iast (pc := 79) rfl (kc_4_0 kx0) (by decide) hb11 ?_
          refine s_aload_n (pc := 80) rfl rfl ?_
          refine s_getA (pc := 81) rfl kx0 (pc_4_1 hp kx0) ?_
          refine s_aload_n (pc := 84) rfl rfl ?_
          refine s_getI (pc := 85) rfl kx0 ?_
          refine s_iload_n (pc := 88) rfl rfl ?_
          refine s_iadd (pc := 89) rfl ?_
          refine s_aload_n (pc := 90) rfl rfl ?_
          refine s_getI (pc := 91) rfl kx0 ?_
          refine s_aload_n (pc := 94) rfl rfl ?_
          refine s_getA (pc := 95) rfl kx1 (pc_8_1 hp kx1) ?_
          refine s_iload_n (pc := 98) rfl rfl ?_
          obtain ⟨hb12, hw⟩ := hw
          refine s_iald (pc := 99) rfl (kc_8_1 kx1) (by decide) hb12 ?_
          refine s_iadd (pc := 100) rfl ?_
          obtain ⟨hb13, hw⟩ := hw
          refine s_iast (pc := 101) rfl (kc_4_1 kx0) (by decide) hb13 ?_
          refine s_iinc (pc := 102) (L' := [some (.ref x0), some (.ref x1), some (.int (iz (x2 + 1))), some (.int (iz (m (x1 + 1) x2.toNat)))]) rfl rfl (Nat.le_of_ble_eq_true rfl) rfl ?_
          refine s_goto (pc := 105) (tgt := 2) rfl rfl ?_
          exact Rn.weakL hw (LLe.keep _ (LLe.keep _ (LLe.keep _ (LLe.drop _ (LLe.nil)))))
      · replace hw := hw.2 hc
        refine s_aload_n (pc := 33) rfl rfl ?_
        refine s_getA (pc := 34) rfl kx0 (pc_4_0 hp kx0) ?_
        refine s_aload_n (pc := 37) rfl rfl ?_
        refine s_getI (pc := 38) rfl kx0 ?_
        refine s_iload_n (pc := 41) rfl rfl ?_
        refine s_iadd (pc := 42) rfl ?_
        refine s_iload_n (pc := 43) rfl rfl ?_
        refine s_aload_n (pc := 44) rfl rfl ?_
        refine s_getI (pc := 45) rfl kx0 ?_
        refine s_isub (pc := 48) rfl ?_
        obtain ⟨hb14, hw⟩ := hw
        refine s_iast (pc := 49) rfl (kc_4_0 kx0) (by decide) hb14 ?_
        refine s_goto (pc := 50) (tgt := 80) rfl rfl ?_
        refine s_aload_n (pc := 80) rfl rfl ?_
        refine s_getA (pc := 81) rfl kx0 (pc_4_1 hp kx0) ?_
        refine s_aload_n (pc := 84) rfl rfl ?_
        refine s_getI (pc := 85) rfl kx0 ?_
        refine s_iload_n (pc := 88) rfl rfl ?_
        refine s_iadd (pc := 89) rfl ?_
        refine s_aload_n (pc := 90) rfl rfl ?_
        refine s_getI (pc := 91) rfl kx0 ?_
        refine s_aload_n (pc := 94) rfl rfl ?_
        refine s_getA (pc := 95) rfl kx1 (pc_8_1 hp kx1) ?_
        refine s_iload_n (pc := 98) rfl rfl ?_
        obtain ⟨hb15, hw⟩ := hw
        refine s_iald (pc := 99) rfl (kc_8_1 kx1) (by decide) hb15 ?_
        refine s_iadd (pc := 100) rfl ?_
        obtain ⟨hb16, hw⟩ := hw
        refine s_iast (pc := 101) rfl (kc_4_1 kx0) (by decide) hb16 ?_
        refine s_iinc (pc := 102) (L' := [some (.ref x0), some (.ref x1), some (.int (iz (x2 + 1))), some (.int (iz (m (x1 + 1) x2.toNat)))]) rfl rfl (Nat.le_of_ble_eq_true rfl) rfl ?_
        refine s_goto (pc := 105) (tgt := 2) rfl rfl ?_
        exact Rn.weakL hw (LLe.keep _ (LLe.keep _ (LLe.keep _ (LLe.drop _ (LLe.nil)))))

set_option maxRecDepth 20000 in
set_option maxHeartbeats 4000000 in
theorem b_Bench_unifies_0 {X : aX} {d : Nat} (x0 : Nat) (x1 : Int) (x2 : Int) (kx0 : am_kd an_K x0 = some (.inl 4)) (m : Mi) (J : Mj) (P : Mp) (hp : PP P) (post : Int → Mi → Mj → Mp → Prop)
    (hw : ((0 : Int) ≤ 0 ∧ (0 : Int) < 2048) ∧ ((0 : Int) ≤ 1 ∧ (1 : Int) < 2048) ∧ Rn X (d + 2) 53 29 [some (.ref x0), some (.int (iz x1)), some (.int (iz x2)), some (.int (iz 2)), some (.int (iz 0)), none, none, none, none] [] (SS (mu (mu (mu m x0 8 ((m x0 8) + 1)) (x0 + 7) (0 : Int).toNat x1) (x0 + 7) (1 : Int).toNat x2) J P) (QI post)) : Rn X (d + 2) 53 0 [some (.ref x0), some (.int (iz x1)), some (.int (iz x2)), none, none, none, none, none, none] [] (SS m J P) (QI post) := by
  refine s_aload_n (pc := 0) rfl rfl ?_
  refine s_dup (pc := 1) rfl rfl ?_
  refine s_getI (pc := 2) rfl kx0 ?_
  refine s_iconst (pc := 5) rfl ?_
  refine s_iadd (pc := 6) rfl ?_
  refine s_putI (pc := 7) rfl kx0 ?_
  refine s_aload_n (pc := 10) rfl rfl ?_
  refine s_getA (pc := 11) rfl kx0 (pc_4_9 hp kx0) ?_
  refine s_iconst (pc := 14) rfl ?_
  refine s_iload_n (pc := 15) rfl rfl ?_
  obtain ⟨hb1, hw⟩ := hw
  refine s_iast (pc := 16) rfl (kc_4_9 kx0) (by decide) hb1 ?_
  refine s_aload_n (pc := 17) rfl rfl ?_
  refine s_getA (pc := 18) rfl kx0 (pc_4_9 hp kx0) ?_
  refine s_iconst (pc := 21) rfl ?_
  refine s_iload_n (pc := 22) rfl rfl ?_
  obtain ⟨hb2, hw⟩ := hw
  refine s_iast (pc := 23) rfl (kc_4_9 kx0) (by decide) hb2 ?_
  refine s_iconst (pc := 24) rfl ?_
  refine s_istore_n (pc := 25) (L' := [some (.ref x0), some (.int (iz x1)), some (.int (iz x2)), some (.int (iz 2)), none, none, none, none, none]) rfl (Nat.le_of_ble_eq_true rfl) rfl ?_
  refine s_iconst (pc := 26) rfl ?_
  refine s_istore (pc := 27) (L' := [some (.ref x0), some (.int (iz x1)), some (.int (iz x2)), some (.int (iz 2)), some (.int (iz 0)), none, none, none, none]) rfl (Nat.le_of_ble_eq_true rfl) rfl ?_
  exact hw

set_option maxRecDepth 20000 in
set_option maxHeartbeats 4000000 in
theorem b_Bench_unifies_29 {X : aX} {d : Nat} (x0 : Nat) (x1 : Int) (x2 : Int) (x3 : Int) (x4 : Int) (kx0 : am_kd an_K x0 = some (.inl 4)) (m : Mi) (J : Mj) (P : Mp) (hp : PP P) (post : Int → Mi → Mj → Mp → Prop)
    (hw : Zr (x4) ∧ (((1000000 ≤ x4) → Ci X (d + 1) 56 [.ref x0, .int (iz x1)] m J P (fun z5 m2 J3 P4 => PP P4 ∧ (z5 = 0 ∨ z5 = 1) ∧ post z5 m2 J3 P4)) ∧ (¬ (1000000 ≤ x4) → Zr (x3) ∧ (((x3 < 2) → Ci X (d + 1) 56 [.ref x0, .int (iz x1)] m J P (fun z11 m8 J9 P10 => PP P10 ∧ (z11 = 0 ∨ z11 = 1) ∧ post z11 m8 J9 P10)) ∧ (¬ (x3 < 2) → ((0 : Int) ≤ (x3 + (-2)) ∧ ((x3 + (-2)) : Int) < 2048) ∧ Ci X (d + 1) 54 [.ref x0, .int (iz (m (x0 + 7) (x3 + (-2)).toNat))] m J P (fun z17 m14 J15 P16 => PP P16 ∧ ((0 : Int) ≤ ((x3 + (-2)) + 1) ∧ (((x3 + (-2)) + 1) : Int) < 2048) ∧ Ci X (d + 1) 54 [.ref x0, .int (iz (m14 (x0 + 7) ((x3 + (-2)) + 1).toNat))] m14 J15 P16 (fun z23 m20 J21 P22 => PP P22 ∧ Zr (z17) ∧ Zr (z23) ∧ (((¬ z17 = z23) → ((0 : Int) ≤ z17 ∧ (z17 : Int) < 1688) ∧ ((0 : Int) ≤ z23 ∧ (z23 : Int) < 1688) ∧ ((0 : Int) ≤ z17 ∧ (z17 : Int) < 1688) ∧ Zr (m20 (x0 + 4) z23.toNat) ∧ (((¬ (m20 (x0 + 4) z23.toNat) = ((-1))) → Zr (m20 (x0 + 4) z17.toNat) ∧ ((((m20 (x0 + 4) z17.toNat) = ((-1))) → Rn X (d + 2) 53 172 [some (.ref x0), some (.int (iz x1)), some (.int (iz x2)), some (.int (iz (x3 + (-2)))), some (.int (iz x4)), some (.int (iz z17)), some (.int (iz z23)), none, none] [] (SS (mu m20 (x0 + 3) z17.toNat z23) J21 P22) (QI post)) ∧ (¬ ((m20 (x0 + 4) z17.toNat) = ((-1))) → Zr (m20 (x0 + 4) z23.toNat) ∧ (((¬ (m20 (x0 + 4) z23.toNat) = ((-1))) → ((0 : Int) ≤ (m20 (x0 + 4) z17.toNat) ∧ ((m20 (x0 + 4) z17.toNat) : Int) < 880) ∧ ((0 : Int) ≤ (m20 (x0 + 4) z23.toNat) ∧ ((m20 (x0 + 4) z23.toNat) : Int) < 880) ∧ Zr (zand ((mu m20 (x0 + 3) z17.toNat z23) (x0 + 1) (m20 (x0 + 4) z17.toNat).toNat) 31) ∧ Zr (zand ((mu m20 (x0 + 3) z17.toNat z23) (x0 + 1) (m20 (x0 + 4) z23.toNat).toNat) 31) ∧ ((((zand ((mu m20 (x0 + 3) z17.toNat z23) (x0 + 1) (m20 (x0 + 4) z17.toNat).toNat) 31) = (zand ((mu m20 (x0 + 3) z17.toNat z23) (x0 + 1) (m20 (x0 + 4) z23.toNat).toNat) 31)) → Ci X (d + 1) 55 [.ref x0, .int (iz (m20 (x0 + 4) z17.toNat)), .int (iz (m20 (x0 + 4) z23.toNat)), .int (iz (x3 + (-2)))] (mu m20 (x0 + 3) z17.toNat z23) J21 P22 (fun z40 m37 J38 P39 => PP P39 ∧ Rn X (d + 2) 53 172 [some (.ref x0), some (.int (iz x1)), some (.int (iz x2)), some (.int (iz z40)), some (.int (iz x4)), some (.int (iz z17)), some (.int (iz z23)), none, none] [] (SS m37 J38 P39) (QI post))) ∧ (¬ ((zand ((mu m20 (x0 + 3) z17.toNat z23) (x0 + 1) (m20 (x0 + 4) z17.toNat).toNat) 31) = (zand ((mu m20 (x0 + 3) z17.toNat z23) (x0 + 1) (m20 (x0 + 4) z23.toNat).toNat) 31)) → post 0 (mu m20 (x0 + 3) z17.toNat z23) J21 P22))) ∧ (¬ (¬ (m20 (x0 + 4) z23.toNat) = ((-1))) → Rn X (d + 2) 53 172 [some (.ref x0), some (.int (iz x1)), some (.int (iz x2)), some (.int (iz (x3 + (-2)))), some (.int (iz x4)), some (.int (iz z17)), some (.int (iz z23)), none, none] [] (SS (mu m20 (x0 + 3) z17.toNat z23) J21 P22) (QI post)))))) ∧ (¬ (¬ (m20 (x0 + 4) z23.toNat) = ((-1))) → ((0 : Int) ≤ z23 ∧ (z23 : Int) < 1688) ∧ Zr (m20 (x0 + 4) z17.toNat) ∧ ((((m20 (x0 + 4) z17.toNat) = ((-1))) → Rn X (d + 2) 53 172 [some (.ref x0), some (.int (iz x1)), some (.int (iz x2)), some (.int (iz (x3 + (-2)))), some (.int (iz x4)), some (.int (iz z17)), some (.int (iz z23)), none, none] [] (SS (mu (mu m20 (x0 + 3) z17.toNat z23) (x0 + 4) z23.toNat (m20 (x0 + 4) z17.toNat)) J21 P22) (QI post)) ∧ (¬ ((m20 (x0 + 4) z17.toNat) = ((-1))) → Zr (m20 (x0 + 4) z23.toNat) ∧ (((¬ (m20 (x0 + 4) z23.toNat) = ((-1))) → ((0 : Int) ≤ (m20 (x0 + 4) z17.toNat) ∧ ((m20 (x0 + 4) z17.toNat) : Int) < 880) ∧ ((0 : Int) ≤ (m20 (x0 + 4) z23.toNat) ∧ ((m20 (x0 + 4) z23.toNat) : Int) < 880) ∧ Zr (zand ((mu (mu m20 (x0 + 3) z17.toNat z23) (x0 + 4) z23.toNat (m20 (x0 + 4) z17.toNat)) (x0 + 1) (m20 (x0 + 4) z17.toNat).toNat) 31) ∧ Zr (zand ((mu (mu m20 (x0 + 3) z17.toNat z23) (x0 + 4) z23.toNat (m20 (x0 + 4) z17.toNat)) (x0 + 1) (m20 (x0 + 4) z23.toNat).toNat) 31) ∧ ((((zand ((mu (mu m20 (x0 + 3) z17.toNat z23) (x0 + 4) z23.toNat (m20 (x0 + 4) z17.toNat)) (x0 + 1) (m20 (x0 + 4) z17.toNat).toNat) 31) = (zand ((mu (mu m20 (x0 + 3) z17.toNat z23) (x0 + 4) z23.toNat (m20 (x0 + 4) z17.toNat)) (x0 + 1) (m20 (x0 + 4) z23.toNat).toNat) 31)) → Ci X (d + 1) 55 [.ref x0, .int (iz (m20 (x0 + 4) z17.toNat)), .int (iz (m20 (x0 + 4) z23.toNat)), .int (iz (x3 + (-2)))] (mu (mu m20 (x0 + 3) z17.toNat z23) (x0 + 4) z23.toNat (m20 (x0 + 4) z17.toNat)) J21 P22 (fun z52 m49 J50 P51 => PP P51 ∧ Rn X (d + 2) 53 172 [some (.ref x0), some (.int (iz x1)), some (.int (iz x2)), some (.int (iz z52)), some (.int (iz x4)), some (.int (iz z17)), some (.int (iz z23)), none, none] [] (SS m49 J50 P51) (QI post))) ∧ (¬ ((zand ((mu (mu m20 (x0 + 3) z17.toNat z23) (x0 + 4) z23.toNat (m20 (x0 + 4) z17.toNat)) (x0 + 1) (m20 (x0 + 4) z17.toNat).toNat) 31) = (zand ((mu (mu m20 (x0 + 3) z17.toNat z23) (x0 + 4) z23.toNat (m20 (x0 + 4) z17.toNat)) (x0 + 1) (m20 (x0 + 4) z23.toNat).toNat) 31)) → post 0 (mu (mu m20 (x0 + 3) z17.toNat z23) (x0 + 4) z23.toNat (m20 (x0 + 4) z17.toNat)) J21 P22))) ∧ (¬ (¬ (m20 (x0 + 4) z23.toNat) = ((-1))) → Rn X (d + 2) 53 172 [some (.ref x0), some (.int (iz x1)), some (.int (iz x2)), some (.int (iz (x3 + (-2)))), some (.int (iz x4)), some (.int (iz z17)), some (.int (iz z23)), none, none] [] (SS (mu (mu m20 (x0 + 3) z17.toNat z23) (x0 + 4) z23.toNat (m20 (x0 + 4) z17.toNat)) J21 P22) (QI post)))))))) ∧ (¬ (¬ z17 = z23) → Rn X (d + 2) 53 172 [some (.ref x0), some (.int (iz x1)), some (.int (iz x2)), some (.int (iz (x3 + (-2)))), some (.int (iz x4)), some (.int (iz z17)), some (.int (iz z23)), none, none] [] (SS m20 J21 P22) (QI post)))))))))) : Rn X (d + 2) 53 29 [some (.ref x0), some (.int (iz x1)), some (.int (iz x2)), some (.int (iz x3)), some (.int (iz x4)), none, none, none, none] [] (SS m J P) (QI post) := by
  refine s_iload (pc := 29) rfl rfl ?_
  refine s_ldc (pc := 31) rfl ?_
  obtain ⟨hz1, hw⟩ := hw
  refine s_ic_ge (pc := 33) (tgt := 178) rfl rfl hz1 (by decide) (fun hc => ?_) (fun hc => ?_)
  · replace hw := hw.1 hc
    refine s_aload_n (pc := 178) rfl rfl ?_
    refine s_iload_n (pc := 179) rfl rfl ?_
    refine s_ci (pc := 180) (d := (d + 1)) (t := []) rfl rfl (am_ca_v (ps := [.int (iz x1)]) rfl kx0) (Nat.le_of_ble_eq_true rfl) (Ci.weak hw fun z5 m2 J3 P4 hw => ?_)
    obtain ⟨hp6, hw⟩ := hw
    exact s_retz (pc := 183) rfl rfl hw.1 hw.2
  · replace hw := hw.2 hc
    refine s_iload_n (pc := 36) rfl rfl ?_
    refine s_iconst (pc := 37) rfl ?_
    obtain ⟨hz7, hw⟩ := hw
    refine s_ic_lt (pc := 38) (tgt := 178) rfl rfl hz7 (by decide) (fun hc => ?_) (fun hc => ?_)
    · replace hw := hw.1 hc
      refine s_aload_n (pc := 178) rfl rfl ?_
      refine s_iload_n (pc := 179) rfl rfl ?_
      refine s_ci (pc := 180) (d := (d + 1)) (t := []) rfl rfl (am_ca_v (ps := [.int (iz x1)]) rfl kx0) (Nat.le_of_ble_eq_true rfl) (Ci.weak hw fun z11 m8 J9 P10 hw => ?_)
      obtain ⟨hp12, hw⟩ := hw
      exact s_retz (pc := 183) rfl rfl hw.1 hw.2
    · replace hw := hw.2 hc
      refine s_iinc (pc := 41) (L' := [some (.ref x0), some (.int (iz x1)), some (.int (iz x2)), some (.int (iz (x3 + (-2)))), some (.int (iz x4)), none, none, none, none]) rfl rfl (Nat.le_of_ble_eq_true rfl) rfl ?_
      refine s_aload_n (pc := 44) rfl rfl ?_
      refine s_aload_n (pc := 45) rfl rfl ?_
      refine s_getA (pc := 46) rfl kx0 (pc_4_9 hp kx0) ?_
      refine s_iload_n (pc := 49) rfl rfl ?_
      obtain ⟨hb13, hw⟩ := hw
      refine s_iald (pc := 50) rfl (kc_4_9 kx0) (by decide) hb13 ?_
      refine s_ci (pc := 51) (d := (d + 1)) (t := []) rfl rfl (am_ca_v (ps := [.int (iz (m (x0 + 7) (x3 + (-2)).toNat))]) rfl kx0) (Nat.le_of_ble_eq_true rfl) (Ci.weak hw fun z17 m14 J15 P16 hw => ?_)
      obtain ⟨hp18, hw⟩ := hw
      refine s_istore (pc := 54) (L' := [some (.ref x0), some (.int (iz x1)), some (.int (iz x2)), some (.int (iz (x3 + (-2)))), some (.int (iz x4)), some (.int (iz z17)), none, none, none]) rfl (Nat.le_of_ble_eq_true rfl) rfl ?_
      refine s_aload_n (pc := 56) rfl rfl ?_
      refine s_aload_n (pc := 57) rfl rfl ?_
      refine s_getA (pc := 58) rfl kx0 (pc_4_9 hp18 kx0) ?_
      refine s_iload_n (pc := 61) rfl rfl ?_
      refine s_iconst (pc := 62) rfl ?_
      refine s_iadd (pc := 63) rfl ?_
      obtain ⟨hb19, hw⟩ := hw
      refine s_iald (pc := 64) rfl (kc_4_9 kx0) (by decide) hb19 ?_
      refine s_ci (pc := 65) (d := (d + 1)) (t := []) rfl rfl (am_ca_v (ps := [.int (iz (m14 (x0 + 7) ((x3 + (-2)) + 1).toNat))]) rfl kx0) (Nat.le_of_ble_eq_true rfl) (Ci.weak hw fun z23 m20 J21 P22 hw => ?_)
      obtain ⟨hp24, hw⟩ := hw
      refine s_istore (pc := 68) (L' := [some (.ref x0), some (.int (iz x1)), some (.int (iz x2)), some (.int (iz (x3 + (-2)))), some (.int (iz x4)), some (.int (iz z17)), some (.int (iz z23)), none, none]) rfl (Nat.le_of_ble_eq_true rfl) rfl ?_
      refine s_iload (pc := 70) rfl rfl ?_
      refine s_iload (pc := 72) rfl rfl ?_
      obtain ⟨hz25, hw⟩ := hw
      obtain ⟨hz26, hw⟩ := hw
      refine s_ic_ne (pc := 74) (tgt := 80) rfl rfl hz25 hz26 (fun hc => ?_) (fun hc => ?_)
      · replace hw := hw.1 hc
        refine s_aload_n (pc := 80) rfl rfl ?_
        refine s_getA (pc := 81) rfl kx0 (pc_4_5 hp24 kx0) ?_
        refine s_iload (pc := 84) rfl rfl ?_
        obtain ⟨hb27, hw⟩ := hw
        refine s_iald (pc := 86) rfl (kc_4_5 kx0) (by decide) hb27 ?_
        refine s_istore (pc := 87) (L' := [some (.ref x0), some (.int (iz x1)), some (.int (iz x2)), some (.int (iz (x3 + (-2)))), some (.int (iz x4)), some (.int (iz z17)), some (.int (iz z23)), some (.int (iz (m20 (x0 + 4) z17.toNat))), none]) rfl (Nat.le_of_ble_eq_true rfl) rfl ?_
        refine s_aload_n (pc := 89) rfl rfl ?_
        refine s_getA (pc := 90) rfl kx0 (pc_4_5 hp24 kx0) ?_
        refine s_iload (pc := 93) rfl rfl ?_
        obtain ⟨hb28, hw⟩ := hw
        refine s_iald (pc := 95) rfl (kc_4_5 kx0) (by decide) hb28 ?_
        refine s_istore (pc := 96) (L' := [some (.ref x0), some (.int (iz x1)), some (.int (iz x2)), some (.int (iz (x3 + (-2)))), some (.int (iz x4)), some (.int (iz z17)), some (.int (iz z23)), some (.int (iz (m20 (x0 + 4) z17.toNat))), some (.int (iz (m20 (x0 + 4) z23.toNat)))]) rfl (Nat.le_of_ble_eq_true rfl) rfl ?_
        refine s_aload_n (pc := 98) rfl rfl ?_
        refine s_getA (pc := 99) rfl kx0 (pc_4_4 hp24 kx0) ?_
        refine s_iload (pc := 102) rfl rfl ?_
        refine s_iload (pc := 104) rfl rfl ?_
        obtain ⟨hb29, hw⟩ := hw
        refine s_iast (pc := 106) rfl (kc_4_4 kx0) (by decide) hb29 ?_
        refine s_iload (pc := 107) rfl rfl ?_
        refine s_iconst (pc := 109) rfl ?_
        obtain ⟨hz30, hw⟩ := hw
        refine s_ic_ne (pc := 110) (tgt := 122) rfl rfl hz30 (by decide) (fun hc => ?_) (fun hc => ?_)
        · replace hw := hw.1 hc
          refine s_iload (pc := 122) rfl rfl ?_
          refine s_iconst (pc := 124) rfl ?_
          obtain ⟨hz31, hw⟩ := hw
          refine s_ic_eq (pc := 125) (tgt := 172) rfl rfl hz31 (by decide) (fun hc => ?_) (fun hc => ?_)
          · replace hw := hw.1 hc
            exact Rn.weakL hw (LLe.keep _ (LLe.keep _ (LLe.keep _ (LLe.keep _ (LLe.keep _ (LLe.keep _ (LLe.keep _ (LLe.drop _ (LLe.drop _ (LLe.nil))))))))))
          · replace hw := hw.2 hc
            refine s_iload (pc := 128) rfl rfl ?_
            refine s_iconst (pc := 130) rfl ?_
            obtain ⟨hz32, hw⟩ := hw
            refine s_ic_ne (pc := 131) (tgt := 137) rfl rfl hz32 (by decide) (fun hc => ?_) (fun hc => ?_)
            · replace hw := hw.1 hc
              refine s_aload_n (pc := 137) rfl rfl ?_
              refine s_getA (pc := 138) rfl kx0 (pc_4_0 hp24 kx0) ?_
              refine s_iload (pc := 141) rfl rfl ?_
              obtain ⟨hb33, hw⟩ := hw
              refine s_iald (pc := 143) rfl (kc_4_0 kx0) (by decide) hb33 ?_
              refine s_bipush (pc := 144) rfl (by decide) ?_
              refine s_iand (pc := 146) rfl ?_
              refine s_aload_n (pc := 147) rfl rfl ?_
              refine s_getA (pc := 148) rfl kx0 (pc_4_0 hp24 kx0) ?_
              refine s_iload (pc := 151) rfl rfl ?_
              obtain ⟨hb34, hw⟩ := hw
              refine s_iald (pc := 153) rfl (kc_4_0 kx0) (by decide) hb34 ?_
              refine s_bipush (pc := 154) rfl (by decide) ?_
              refine s_iand (pc := 156) rfl ?_
              obtain ⟨hz35, hw⟩ := hw
              obtain ⟨hz36, hw⟩ := hw
              refine s_ic_eq (pc := 157) (tgt := 162) rfl rfl hz35 hz36 (fun hc => ?_) (fun hc => ?_)
              · replace hw := hw.1 hc
                refine s_aload_n (pc := 162) rfl rfl ?_
                refine s_iload (pc := 163) rfl rfl ?_
                refine s_iload (pc := 165) rfl rfl ?_
                refine s_iload_n (pc := 167) rfl rfl ?_
                refine s_ci (pc := 168) (d := (d + 1)) (t := []) rfl rfl (am_ca_v (ps := [.int (iz (x3 + (-2))), .int (iz (m20 (x0 + 4) z23.toNat)), .int (iz (m20 (x0 + 4) z17.toNat))]) rfl kx0) (Nat.le_of_ble_eq_true rfl) (Ci.weak hw fun z40 m37 J38 P39 hw => ?_)
                obtain ⟨hp41, hw⟩ := hw
                refine s_istore_n (pc := 171) (L' := [some (.ref x0), some (.int (iz x1)), some (.int (iz x2)), some (.int (iz z40)), some (.int (iz x4)), some (.int (iz z17)), some (.int (iz z23)), some (.int (iz (m20 (x0 + 4) z17.toNat))), some (.int (iz (m20 (x0 + 4) z23.toNat)))]) rfl (Nat.le_of_ble_eq_true rfl) rfl ?_
                exact Rn.weakL hw (LLe.keep _ (LLe.keep _ (LLe.keep _ (LLe.keep _ (LLe.keep _ (LLe.keep _ (LLe.keep _ (LLe.drop _ (LLe.drop _ (LLe.nil))))))))))
              · replace hw := hw.2 hc
                refine s_iconst (pc := 160) rfl ?_
                exact s_retz (pc := 161) rfl rfl (by decide) hw
            · replace hw := hw.2 hc
              refine s_goto (pc := 134) (tgt := 172) rfl rfl ?_
              exact Rn.weakL hw (LLe.keep _ (LLe.keep _ (LLe.keep _ (LLe.keep _ (LLe.keep _ (LLe.keep _ (LLe.keep _ (LLe.drop _ (LLe.drop _ (LLe.nil))))))))))
        · replace hw := hw.2 hc
          refine s_aload_n (pc := 113) rfl rfl ?_
          refine s_getA (pc := 114) rfl kx0 (pc_4_5 hp24 kx0) ?_
          refine s_iload (pc := 117) rfl rfl ?_
          refine s_iload (pc := 119) rfl rfl ?_
          obtain ⟨hb42, hw⟩ := hw
          refine s_iast (pc := 121) rfl (kc_4_5 kx0) (by decide) hb42 ?_
          refine s_iload (pc := 122) rfl rfl ?_
          refine s_iconst (pc := 124) rfl ?_
          obtain ⟨hz43, hw⟩ := hw
          refine s_ic_eq (pc := 125) (tgt := 172) rfl rfl hz43 (by decide) (fun hc => ?_) (fun hc => ?_)
          · replace hw := hw.1 hc
            exact Rn.weakL hw (LLe.keep _ (LLe.keep _ (LLe.keep _ (LLe.keep _ (LLe.keep _ (LLe.keep _ (LLe.keep _ (LLe.drop _ (LLe.drop _ (LLe.nil))))))))))
          · replace hw := hw.2 hc
            refine s_iload (pc := 128) rfl rfl ?_
            refine s_iconst (pc := 130) rfl ?_
            obtain ⟨hz44, hw⟩ := hw
            refine s_ic_ne (pc := 131) (tgt := 137) rfl rfl hz44 (by decide) (fun hc => ?_) (fun hc => ?_)
            · replace hw := hw.1 hc
              refine s_aload_n (pc := 137) rfl rfl ?_
              refine s_getA (pc := 138) rfl kx0 (pc_4_0 hp24 kx0) ?_
              refine s_iload (pc := 141) rfl rfl ?_
              obtain ⟨hb45, hw⟩ := hw
              refine s_iald (pc := 143) rfl (kc_4_0 kx0) (by decide) hb45 ?_
              refine s_bipush (pc := 144) rfl (by decide) ?_
              refine s_iand (pc := 146) rfl ?_
              refine s_aload_n (pc := 147) rfl rfl ?_
              refine s_getA (pc := 148) rfl kx0 (pc_4_0 hp24 kx0) ?_
              refine s_iload (pc := 151) rfl rfl ?_
              obtain ⟨hb46, hw⟩ := hw
              refine s_iald (pc := 153) rfl (kc_4_0 kx0) (by decide) hb46 ?_
              refine s_bipush (pc := 154) rfl (by decide) ?_
              refine s_iand (pc := 156) rfl ?_
              obtain ⟨hz47, hw⟩ := hw
              obtain ⟨hz48, hw⟩ := hw
              refine s_ic_eq (pc := 157) (tgt := 162) rfl rfl hz47 hz48 (fun hc => ?_) (fun hc => ?_)
              · replace hw := hw.1 hc
                refine s_aload_n (pc := 162) rfl rfl ?_
                refine s_iload (pc := 163) rfl rfl ?_
                refine s_iload (pc := 165) rfl rfl ?_
                refine s_iload_n (pc := 167) rfl rfl ?_
                refine s_ci (pc := 168) (d := (d + 1)) (t := []) rfl rfl (am_ca_v (ps := [.int (iz (x3 + (-2))), .int (iz (m20 (x0 + 4) z23.toNat)), .int (iz (m20 (x0 + 4) z17.toNat))]) rfl kx0) (Nat.le_of_ble_eq_true rfl) (Ci.weak hw fun z52 m49 J50 P51 hw => ?_)
                obtain ⟨hp53, hw⟩ := hw
                refine s_istore_n (pc := 171) (L' := [some (.ref x0), some (.int (iz x1)), some (.int (iz x2)), some (.int (iz z52)), some (.int (iz x4)), some (.int (iz z17)), some (.int (iz z23)), some (.int (iz (m20 (x0 + 4) z17.toNat))), some (.int (iz (m20 (x0 + 4) z23.toNat)))]) rfl (Nat.le_of_ble_eq_true rfl) rfl ?_
                exact Rn.weakL hw (LLe.keep _ (LLe.keep _ (LLe.keep _ (LLe.keep _ (LLe.keep _ (LLe.keep _ (LLe.keep _ (LLe.drop _ (LLe.drop _ (LLe.nil))))))))))
              · replace hw := hw.2 hc
                refine s_iconst (pc := 160) rfl ?_
                exact s_retz (pc := 161) rfl rfl (by decide) hw
            · replace hw := hw.2 hc
              refine s_goto (pc := 134) (tgt := 172) rfl rfl ?_
              exact Rn.weakL hw (LLe.keep _ (LLe.keep _ (LLe.keep _ (LLe.keep _ (LLe.keep _ (LLe.keep _ (LLe.keep _ (LLe.drop _ (LLe.drop _ (LLe.nil))))))))))
      · replace hw := hw.2 hc
        refine s_goto (pc := 77) (tgt := 172) rfl rfl ?_
        exact hw

set_option maxRecDepth 20000 in
set_option maxHeartbeats 4000000 in
theorem b_Bench_unifies_172 {X : aX} {d : Nat} (x0 : Nat) (x1 : Int) (x2 : Int) (x3 : Int) (x4 : Int) (x5 : Int) (x6 : Int) (kx0 : am_kd an_K x0 = some (.inl 4)) (m : Mi) (J : Mj) (P : Mp) (hp : PP P) (post : Int → Mi → Mj → Mp → Prop)
    (hw : Rn X (d + 2) 53 29 [some (.ref x0), some (.int (iz x1)), some (.int (iz x2)), some (.int (iz x3)), some (.int (iz (x4 + 1))), none, none, none, none] [] (SS m J P) (QI post)) : Rn X (d + 2) 53 172 [some (.ref x0), some (.int (iz x1)), some (.int (iz x2)), some (.int (iz x3)), some (.int (iz x4)), some (.int (iz x5)), some (.int (iz x6)), none, none] [] (SS m J P) (QI post) := by
  refine s_iinc (pc := 172) (L' := [some (.ref x0), some (.int (iz x1)), some (.int (iz x2)), some (.int (iz x3)), some (.int (iz (x4 + 1))), some (.int (iz x5)), some (.int (iz x6)), none, none]) rfl rfl (Nat.le_of_ble_eq_true rfl) rfl ?_
  refine s_goto (pc := 175) (tgt := 29) rfl rfl ?_
  exact Rn.weakL hw (LLe.keep _ (LLe.keep _ (LLe.keep _ (LLe.keep _ (LLe.keep _ (LLe.drop _ (LLe.drop _ (LLe.keep _ (LLe.keep _ (LLe.nil))))))))))

set_option maxRecDepth 20000 in
set_option maxHeartbeats 4000000 in
theorem b_Bench_classOf_0 {X : aX} {d : Nat} (x0 : Nat) (x1 : Int) (kx0 : am_kd an_K x0 = some (.inl 4)) (m : Mi) (J : Mj) (P : Mp) (hp : PP P) (post : Int → Mi → Mj → Mp → Prop)
    (hw : ((0 : Int) ≤ x1 ∧ (x1 : Int) < 880) ∧ Zr (m (x0 + 1) x1.toNat) ∧ (((0 ≤ (m (x0 + 1) x1.toNat)) → ((0 : Int) ≤ x1 ∧ (x1 : Int) < 1688) ∧ Zr (m (x0 + 6) x1.toNat) ∧ Zr (m x0 8) ∧ ((((m (x0 + 6) x1.toNat) = (m x0 8)) → Rn X d 54 86 [some (.ref x0), some (.int (iz x1)), some (.int (iz x1)), some (.int (iz x1)), some (.int (iz 0))] [] (SS m J P) (QI post)) ∧ (¬ ((m (x0 + 6) x1.toNat) = (m x0 8)) → ((0 : Int) ≤ x1 ∧ (x1 : Int) < 1688) ∧ ((0 : Int) ≤ x1 ∧ (x1 : Int) < 1688) ∧ Zr (x1) ∧ (((880 ≤ x1) → ((0 : Int) ≤ x1 ∧ (x1 : Int) < 1688) ∧ ((0 : Int) ≤ x1 ∧ (x1 : Int) < 1688) ∧ post x1 (mu (mu (mu (mu m (x0 + 6) x1.toNat (m x0 8)) (x0 + 3) x1.toNat x1) (x0 + 4) x1.toNat ((-1))) (x0 + 5) x1.toNat 0) J P) ∧ (¬ (880 ≤ x1) → ((0 : Int) ≤ x1 ∧ (x1 : Int) < 1688) ∧ ((0 : Int) ≤ x1 ∧ (x1 : Int) < 1688) ∧ post x1 (mu (mu (mu (mu m (x0 + 6) x1.toNat (m x0 8)) (x0 + 3) x1.toNat x1) (x0 + 4) x1.toNat x1) (x0 + 5) x1.toNat 0) J P))))) ∧ (¬ (0 ≤ (m (x0 + 1) x1.toNat)) → ((0 : Int) ≤ x1 ∧ (x1 : Int) < 880) ∧ ((0 : Int) ≤ (879 - (m (x0 + 1) x1.toNat)) ∧ ((879 - (m (x0 + 1) x1.toNat)) : Int) < 1688) ∧ Zr (m (x0 + 6) (879 - (m (x0 + 1) x1.toNat)).toNat) ∧ Zr (m x0 8) ∧ ((((m (x0 + 6) (879 - (m (x0 + 1) x1.toNat)).toNat) = (m x0 8)) → Rn X d 54 86 [some (.ref x0), some (.int (iz x1)), some (.int (iz (879 - (m (x0 + 1) x1.toNat)))), some (.int (iz (879 - (m (x0 + 1) x1.toNat)))), some (.int (iz 0))] [] (SS m J P) (QI post)) ∧ (¬ ((m (x0 + 6) (879 - (m (x0 + 1) x1.toNat)).toNat) = (m x0 8)) → ((0 : Int) ≤ (879 - (m (x0 + 1) x1.toNat)) ∧ ((879 - (m (x0 + 1) x1.toNat)) : Int) < 1688) ∧ ((0 : Int) ≤ (879 - (m (x0 + 1) x1.toNat)) ∧ ((879 - (m (x0 + 1) x1.toNat)) : Int) < 1688) ∧ Zr (879 - (m (x0 + 1) x1.toNat)) ∧ (((880 ≤ (879 - (m (x0 + 1) x1.toNat))) → ((0 : Int) ≤ (879 - (m (x0 + 1) x1.toNat)) ∧ ((879 - (m (x0 + 1) x1.toNat)) : Int) < 1688) ∧ ((0 : Int) ≤ (879 - (m (x0 + 1) x1.toNat)) ∧ ((879 - (m (x0 + 1) x1.toNat)) : Int) < 1688) ∧ post (879 - (m (x0 + 1) x1.toNat)) (mu (mu (mu (mu m (x0 + 6) (879 - (m (x0 + 1) x1.toNat)).toNat (m x0 8)) (x0 + 3) (879 - (m (x0 + 1) x1.toNat)).toNat (879 - (m (x0 + 1) x1.toNat))) (x0 + 4) (879 - (m (x0 + 1) x1.toNat)).toNat ((-1))) (x0 + 5) (879 - (m (x0 + 1) x1.toNat)).toNat 0) J P) ∧ (¬ (880 ≤ (879 - (m (x0 + 1) x1.toNat))) → ((0 : Int) ≤ (879 - (m (x0 + 1) x1.toNat)) ∧ ((879 - (m (x0 + 1) x1.toNat)) : Int) < 1688) ∧ ((0 : Int) ≤ (879 - (m (x0 + 1) x1.toNat)) ∧ ((879 - (m (x0 + 1) x1.toNat)) : Int) < 1688) ∧ post (879 - (m (x0 + 1) x1.toNat)) (mu (mu (mu (mu m (x0 + 6) (879 - (m (x0 + 1) x1.toNat)).toNat (m x0 8)) (x0 + 3) (879 - (m (x0 + 1) x1.toNat)).toNat (879 - (m (x0 + 1) x1.toNat))) (x0 + 4) (879 - (m (x0 + 1) x1.toNat)).toNat (879 - (m (x0 + 1) x1.toNat))) (x0 + 5) (879 - (m (x0 + 1) x1.toNat)).toNat 0) J P))))))) : Rn X d 54 0 [some (.ref x0), some (.int (iz x1)), none, none, none] [] (SS m J P) (QI post) := by
  refine s_aload_n (pc := 0) rfl rfl ?_
  refine s_getA (pc := 1) rfl kx0 (pc_4_0 hp kx0) ?_
  refine s_iload_n (pc := 4) rfl rfl ?_
  obtain ⟨hb1, hw⟩ := hw
  refine s_iald (pc := 5) rfl (kc_4_0 kx0) (by decide) hb1 ?_
  obtain ⟨hz2, hw⟩ := hw
  refine s_if_ge (pc := 6) (tgt := 22) rfl rfl hz2 (fun hc => ?_) (fun hc => ?_)
  · replace hw := hw.1 hc
    refine s_iload_n (pc := 22) rfl rfl ?_
    refine s_istore_n (pc := 23) (L' := [some (.ref x0), some (.int (iz x1)), some (.int (iz x1)), none, none]) rfl (Nat.le_of_ble_eq_true rfl) rfl ?_
    refine s_aload_n (pc := 24) rfl rfl ?_
    refine s_getA (pc := 25) rfl kx0 (pc_4_7 hp kx0) ?_
    refine s_iload_n (pc := 28) rfl rfl ?_
    obtain ⟨hb3, hw⟩ := hw
    refine s_iald (pc := 29) rfl (kc_4_7 kx0) (by decide) hb3 ?_
    refine s_aload_n (pc := 30) rfl rfl ?_
    refine s_getI (pc := 31) rfl kx0 ?_
    obtain ⟨hz4, hw⟩ := hw
    obtain ⟨hz5, hw⟩ := hw
    refine s_ic_eq (pc := 34) (tgt := 81) rfl rfl hz4 hz5 (fun hc => ?_) (fun hc => ?_)
    · replace hw := hw.1 hc
      refine s_iload_n (pc := 81) rfl rfl ?_
      refine s_istore_n (pc := 82) (L' := [some (.ref x0), some (.int (iz x1)), some (.int (iz x1)), some (.int (iz x1)), none]) rfl (Nat.le_of_ble_eq_true rfl) rfl ?_
      refine s_iconst (pc := 83) rfl ?_
      refine s_istore (pc := 84) (L' := [some (.ref x0), some (.int (iz x1)), some (.int (iz x1)), some (.int (iz x1)), some (.int (iz 0))]) rfl (Nat.le_of_ble_eq_true rfl) rfl ?_
      exact hw
    · replace hw := hw.2 hc
      refine s_aload_n (pc := 37) rfl rfl ?_
      refine s_getA (pc := 38) rfl kx0 (pc_4_7 hp kx0) ?_
      refine s_iload_n (pc := 41) rfl rfl ?_
      refine s_aload_n (pc := 42) rfl rfl ?_
      refine s_getI (pc := 43) rfl kx0 ?_
      obtain ⟨hb6, hw⟩ := hw
      refine s_iast (pc := 46) rfl (kc_4_7 kx0) (by decide) hb6 ?_
      refine s_aload_n (pc := 47) rfl rfl ?_
      refine s_getA (pc := 48) rfl kx0 (pc_4_4 hp kx0) ?_
      refine s_iload_n (pc := 51) rfl rfl ?_
      refine s_iload_n (pc := 52) rfl rfl ?_
      obtain ⟨hb7, hw⟩ := hw
      refine s_iast (pc := 53) rfl (kc_4_4 kx0) (by decide) hb7 ?_
      refine s_aload_n (pc := 54) rfl rfl ?_
      refine s_getA (pc := 55) rfl kx0 (pc_4_5 hp kx0) ?_
      refine s_iload_n (pc := 58) rfl rfl ?_
      refine s_iload_n (pc := 59) rfl rfl ?_
      refine s_sipush (pc := 60) rfl (by decide) ?_
      obtain ⟨hz8, hw⟩ := hw
      refine s_ic_ge (pc := 63) (tgt := 70) rfl rfl hz8 (by decide) (fun hc => ?_) (fun hc => ?_)
      · replace hw := hw.1 hc
        refine s_iconst (pc := 70) rfl ?_
        obtain ⟨hb9, hw⟩ := hw
        refine s_iast (pc := 71) rfl (kc_4_5 kx0) (by decide) hb9 ?_
        refine s_aload_n (pc := 72) rfl rfl ?_
        refine s_getA (pc := 73) rfl kx0 (pc_4_6 hp kx0) ?_
        refine s_iload_n (pc := 76) rfl rfl ?_
        refine s_iconst (pc := 77) rfl ?_
        obtain ⟨hb10, hw⟩ := hw
        refine s_iast (pc := 78) rfl (kc_4_6 kx0) (by decide) hb10 ?_
        refine s_iload_n (pc := 79) rfl rfl ?_
        exact s_reti (pc := 80) rfl rfl hw
      · replace hw := hw.2 hc
        refine s_iload_n (pc := 66) rfl rfl ?_
        refine s_goto (pc := 67) (tgt := 71) rfl rfl ?_
        obtain ⟨hb11, hw⟩ := hw
        refine s_iast (pc := 71) rfl (kc_4_5 kx0) (by decide) hb11 ?_
        refine s_aload_n (pc := 72) rfl rfl ?_
        refine s_getA (pc := 73) rfl kx0 (pc_4_6 hp kx0) ?_
        refine s_iload_n (pc := 76) rfl rfl ?_
        refine s_iconst (pc := 77) rfl ?_
        obtain ⟨hb12, hw⟩ := hw
        refine s_iast (pc := 78) rfl (kc_4_6 kx0) (by decide) hb12 ?_
        refine s_iload_n (pc := 79) rfl rfl ?_
        exact s_reti (pc := 80) rfl rfl hw
  · replace hw := hw.2 hc
    refine s_sipush (pc := 9) rfl (by decide) ?_
    refine s_aload_n (pc := 12) rfl rfl ?_
    refine s_getA (pc := 13) rfl kx0 (pc_4_0 hp kx0) ?_
    refine s_iload_n (pc := 16) rfl rfl ?_
    obtain ⟨hb13, hw⟩ := hw
    refine s_iald (pc := 17) rfl (kc_4_0 kx0) (by decide) hb13 ?_
    refine s_isub (pc := 18) rfl ?_
    refine s_goto (pc := 19) (tgt := 23) rfl rfl ?_
    refine s_istore_n (pc := 23) (L' := [some (.ref x0), some (.int (iz x1)), some (.int (iz (879 - (m (x0 + 1) x1.toNat)))), none, none]) rfl (Nat.le_of_ble_eq_true rfl) rfl ?_
    refine s_aload_n (pc := 24) rfl rfl ?_
    refine s_getA (pc := 25) rfl kx0 (pc_4_7 hp kx0) ?_
    refine s_iload_n (pc := 28) rfl rfl ?_
    obtain ⟨hb14, hw⟩ := hw
    refine s_iald (pc := 29) rfl (kc_4_7 kx0) (by decide) hb14 ?_
    refine s_aload_n (pc := 30) rfl rfl ?_
    refine s_getI (pc := 31) rfl kx0 ?_
    obtain ⟨hz15, hw⟩ := hw
    obtain ⟨hz16, hw⟩ := hw
    refine s_ic_eq (pc := 34) (tgt := 81) rfl rfl hz15 hz16 (fun hc => ?_) (fun hc => ?_)
    · replace hw := hw.1 hc
      refine s_iload_n (pc := 81) rfl rfl ?_
      refine s_istore_n (pc := 82) (L' := [some (.ref x0), some (.int (iz x1)), some (.int (iz (879 - (m (x0 + 1) x1.toNat)))), some (.int (iz (879 - (m (x0 + 1) x1.toNat)))), none]) rfl (Nat.le_of_ble_eq_true rfl) rfl ?_
      refine s_iconst (pc := 83) rfl ?_
      refine s_istore (pc := 84) (L' := [some (.ref x0), some (.int (iz x1)), some (.int (iz (879 - (m (x0 + 1) x1.toNat)))), some (.int (iz (879 - (m (x0 + 1) x1.toNat)))), some (.int (iz 0))]) rfl (Nat.le_of_ble_eq_true rfl) rfl ?_
      exact hw
    · replace hw := hw.2 hc
      refine s_aload_n (pc := 37) rfl rfl ?_
      refine s_getA (pc := 38) rfl kx0 (pc_4_7 hp kx0) ?_
      refine s_iload_n (pc := 41) rfl rfl ?_
      refine s_aload_n (pc := 42) rfl rfl ?_
      refine s_getI (pc := 43) rfl kx0 ?_
      obtain ⟨hb17, hw⟩ := hw
      refine s_iast (pc := 46) rfl (kc_4_7 kx0) (by decide) hb17 ?_
      refine s_aload_n (pc := 47) rfl rfl ?_
      refine s_getA (pc := 48) rfl kx0 (pc_4_4 hp kx0) ?_
      refine s_iload_n (pc := 51) rfl rfl ?_
      refine s_iload_n (pc := 52) rfl rfl ?_
      obtain ⟨hb18, hw⟩ := hw
      refine s_iast (pc := 53) rfl (kc_4_4 kx0) (by decide) hb18 ?_
      refine s_aload_n (pc := 54) rfl rfl ?_
      refine s_getA (pc := 55) rfl kx0 (pc_4_5 hp kx0) ?_
      refine s_iload_n (pc := 58) rfl rfl ?_
      refine s_iload_n (pc := 59) rfl rfl ?_
      refine s_sipush (pc := 60) rfl (by decide) ?_
      obtain ⟨hz19, hw⟩ := hw
      refine s_ic_ge (pc := 63) (tgt := 70) rfl rfl hz19 (by decide) (fun hc => ?_) (fun hc => ?_)
      · replace hw := hw.1 hc
        refine s_iconst (pc := 70) rfl ?_
        obtain ⟨hb20, hw⟩ := hw
        refine s_iast (pc := 71) rfl (kc_4_5 kx0) (by decide) hb20 ?_
        refine s_aload_n (pc := 72) rfl rfl ?_
        refine s_getA (pc := 73) rfl kx0 (pc_4_6 hp kx0) ?_
        refine s_iload_n (pc := 76) rfl rfl ?_
        refine s_iconst (pc := 77) rfl ?_
        obtain ⟨hb21, hw⟩ := hw
        refine s_iast (pc := 78) rfl (kc_4_6 kx0) (by decide) hb21 ?_
        refine s_iload_n (pc := 79) rfl rfl ?_
        exact s_reti (pc := 80) rfl rfl hw
      · replace hw := hw.2 hc
        refine s_iload_n (pc := 66) rfl rfl ?_
        refine s_goto (pc := 67) (tgt := 71) rfl rfl ?_
        obtain ⟨hb22, hw⟩ := hw
        refine s_iast (pc := 71) rfl (kc_4_5 kx0) (by decide) hb22 ?_
        refine s_aload_n (pc := 72) rfl rfl ?_
        refine s_getA (pc := 73) rfl kx0 (pc_4_6 hp kx0) ?_
        refine s_iload_n (pc := 76) rfl rfl ?_
        refine s_iconst (pc := 77) rfl ?_
        obtain ⟨hb23, hw⟩ := hw
        refine s_iast (pc := 78) rfl (kc_4_6 kx0) (by decide) hb23 ?_
        refine s_iload_n (pc := 79) rfl rfl ?_
        exact s_reti (pc := 80) rfl rfl hw

set_option maxRecDepth 20000 in
set_option maxHeartbeats 4000000 in
theorem b_Bench_classOf_86 {X : aX} {d : Nat} (x0 : Nat) (x1 : Int) (x2 : Int) (x3 : Int) (x4 : Int) (kx0 : am_kd an_K x0 = some (.inl 4)) (m : Mi) (J : Mj) (P : Mp) (hp : PP P) (post : Int → Mi → Mj → Mp → Prop)
    (hw : Zr (x4) ∧ (((1000000 ≤ x4) → ((0 : Int) ≤ x2 ∧ (x2 : Int) < 1688) ∧ post x3 (mu m (x0 + 3) x2.toNat x3) J P) ∧ (¬ (1000000 ≤ x4) → ((0 : Int) ≤ x3 ∧ (x3 : Int) < 1688) ∧ Zr (m (x0 + 3) x3.toNat) ∧ Zr (x3) ∧ ((((m (x0 + 3) x3.toNat) = x3) → ((0 : Int) ≤ x2 ∧ (x2 : Int) < 1688) ∧ post x3 (mu m (x0 + 3) x2.toNat x3) J P) ∧ (¬ ((m (x0 + 3) x3.toNat) = x3) → ((0 : Int) ≤ x3 ∧ (x3 : Int) < 1688) ∧ Rn X d 54 86 [some (.ref x0), some (.int (iz x1)), some (.int (iz x2)), some (.int (iz (m (x0 + 3) x3.toNat))), some (.int (iz (x4 + 1)))] [] (SS m J P) (QI post)))))) : Rn X d 54 86 [some (.ref x0), some (.int (iz x1)), some (.int (iz x2)), some (.int (iz x3)), some (.int (iz x4))] [] (SS m J P) (QI post) := by
  refine s_iload (pc := 86) rfl rfl ?_
  refine s_ldc (pc := 88) rfl ?_
  obtain ⟨hz1, hw⟩ := hw
  refine s_ic_ge (pc := 90) (tgt := 116) rfl rfl hz1 (by decide) (fun hc => ?_) (fun hc => ?_)
  · replace hw := hw.1 hc
    refine s_aload_n (pc := 116) rfl rfl ?_
    refine s_getA (pc := 117) rfl kx0 (pc_4_4 hp kx0) ?_
    refine s_iload_n (pc := 120) rfl rfl ?_
    refine s_iload_n (pc := 121) rfl rfl ?_
    obtain ⟨hb2, hw⟩ := hw
    refine s_iast (pc := 122) rfl (kc_4_4 kx0) (by decide) hb2 ?_
    refine s_iload_n (pc := 123) rfl rfl ?_
    exact s_reti (pc := 124) rfl rfl hw
  · replace hw := hw.2 hc
    refine s_aload_n (pc := 93) rfl rfl ?_
    refine s_getA (pc := 94) rfl kx0 (pc_4_4 hp kx0) ?_
    refine s_iload_n (pc := 97) rfl rfl ?_
    obtain ⟨hb3, hw⟩ := hw
    refine s_iald (pc := 98) rfl (kc_4_4 kx0) (by decide) hb3 ?_
    refine s_iload_n (pc := 99) rfl rfl ?_
    obtain ⟨hz4, hw⟩ := hw
    obtain ⟨hz5, hw⟩ := hw
    refine s_ic_eq (pc := 100) (tgt := 116) rfl rfl hz4 hz5 (fun hc => ?_) (fun hc => ?_)
    · replace hw := hw.1 hc
      refine s_aload_n (pc := 116) rfl rfl ?_
      refine s_getA (pc := 117) rfl kx0 (pc_4_4 hp kx0) ?_
      refine s_iload_n (pc := 120) rfl rfl ?_
      refine s_iload_n (pc := 121) rfl rfl ?_
      obtain ⟨hb6, hw⟩ := hw
      refine s_iast (pc := 122) rfl (kc_4_4 kx0) (by decide) hb6 ?_
      refine s_iload_n (pc := 123) rfl rfl ?_
      exact s_reti (pc := 124) rfl rfl hw
    · replace hw := hw.2 hc
      refine s_aload_n (pc := 103) rfl rfl ?_
      refine s_getA (pc := 104) rfl kx0 (pc_4_4 hp kx0) ?_
      refine s_iload_n (pc := 107) rfl rfl ?_
      obtain ⟨hb7, hw⟩ := hw
      refine s_iald (pc := 108) rfl (kc_4_4 kx0) (by decide) hb7 ?_
      refine s_istore_n (pc := 109) (L' := [some (.ref x0), some (.int (iz x1)), some (.int (iz x2)), some (.int (iz (m (x0 + 3) x3.toNat))), some (.int (iz x4))]) rfl (Nat.le_of_ble_eq_true rfl) rfl ?_
      refine s_iinc (pc := 110) (L' := [some (.ref x0), some (.int (iz x1)), some (.int (iz x2)), some (.int (iz (m (x0 + 3) x3.toNat))), some (.int (iz (x4 + 1)))]) rfl rfl (Nat.le_of_ble_eq_true rfl) rfl ?_
      refine s_goto (pc := 113) (tgt := 86) rfl rfl ?_
      exact hw

set_option maxRecDepth 20000 in
set_option maxHeartbeats 4000000 in
theorem b_Bench_pushArguments_0 {X : aX} {d : Nat} (x0 : Nat) (x1 : Int) (x2 : Int) (x3 : Int) (kx0 : am_kd an_K x0 = some (.inl 4)) (m : Mi) (J : Mj) (P : Mp) (hp : PP P) (post : Int → Mi → Mj → Mp → Prop)
    (hw : Rn X d 55 16 [some (.ref x0), some (.int (iz x1)), some (.int (iz x2)), some (.int (iz x3)), some (.int (iz (x1 + 1))), some (.int (iz (x2 + 1))), some (.int (iz x3)), some (.int (iz 0))] [] (SS m J P) (QI post)) : Rn X d 55 0 [some (.ref x0), some (.int (iz x1)), some (.int (iz x2)), some (.int (iz x3)), none, none, none, none] [] (SS m J P) (QI post) := by
  refine s_iload_n (pc := 0) rfl rfl ?_
  refine s_iconst (pc := 1) rfl ?_
  refine s_iadd (pc := 2) rfl ?_
  refine s_istore (pc := 3) (L' := [some (.ref x0), some (.int (iz x1)), some (.int (iz x2)), some (.int (iz x3)), some (.int (iz (x1 + 1))), none, none, none]) rfl (Nat.le_of_ble_eq_true rfl) rfl ?_
  refine s_iload_n (pc := 5) rfl rfl ?_
  refine s_iconst (pc := 6) rfl ?_
  refine s_iadd (pc := 7) rfl ?_
  refine s_istore (pc := 8) (L' := [some (.ref x0), some (.int (iz x1)), some (.int (iz x2)), some (.int (iz x3)), some (.int (iz (x1 + 1))), some (.int (iz (x2 + 1))), none, none]) rfl (Nat.le_of_ble_eq_true rfl) rfl ?_
  refine s_iload_n (pc := 10) rfl rfl ?_
  refine s_istore (pc := 11) (L' := [some (.ref x0), some (.int (iz x1)), some (.int (iz x2)), some (.int (iz x3)), some (.int (iz (x1 + 1))), some (.int (iz (x2 + 1))), some (.int (iz x3)), none]) rfl (Nat.le_of_ble_eq_true rfl) rfl ?_
  refine s_iconst (pc := 13) rfl ?_
  refine s_istore (pc := 14) (L' := [some (.ref x0), some (.int (iz x1)), some (.int (iz x2)), some (.int (iz x3)), some (.int (iz (x1 + 1))), some (.int (iz (x2 + 1))), some (.int (iz x3)), some (.int (iz 0))]) rfl (Nat.le_of_ble_eq_true rfl) rfl ?_
  exact hw

set_option maxRecDepth 20000 in
set_option maxHeartbeats 4000000 in
theorem b_Bench_pushArguments_16 {X : aX} {d : Nat} (x0 : Nat) (x1 : Int) (x2 : Int) (x3 : Int) (x4 : Int) (x5 : Int) (x6 : Int) (x7 : Int) (kx0 : am_kd an_K x0 = some (.inl 4)) (m : Mi) (J : Mj) (P : Mp) (hp : PP P) (post : Int → Mi → Mj → Mp → Prop)
    (hw : Zr (x7) ∧ (((4 ≤ x7) → post x6 m J P) ∧ (¬ (4 ≤ x7) → ((0 : Int) ≤ x1 ∧ (x1 : Int) < 880) ∧ Zr (x4) ∧ Zr (m (x0 + 2) x1.toNat) ∧ ((((m (x0 + 2) x1.toNat) ≤ x4) → post x6 m J P) ∧ (¬ ((m (x0 + 2) x1.toNat) ≤ x4) → ((0 : Int) ≤ x2 ∧ (x2 : Int) < 880) ∧ Zr (x5) ∧ Zr (m (x0 + 2) x2.toNat) ∧ ((((m (x0 + 2) x2.toNat) ≤ x5) → post x6 m J P) ∧ (¬ ((m (x0 + 2) x2.toNat) ≤ x5) → Zr (x6 + 2) ∧ (((2048 < (x6 + 2)) → post x6 m J P) ∧ (¬ (2048 < (x6 + 2)) → ((0 : Int) ≤ x6 ∧ (x6 : Int) < 2048) ∧ ((0 : Int) ≤ (x6 + 1) ∧ ((x6 + 1) : Int) < 2048) ∧ ((0 : Int) ≤ x4 ∧ (x4 : Int) < 880) ∧ ((0 : Int) ≤ x5 ∧ (x5 : Int) < 880) ∧ Rn X d 55 16 [some (.ref x0), some (.int (iz x1)), some (.int (iz x2)), some (.int (iz x3)), some (.int (iz ((mu (mu m (x0 + 7) x6.toNat x4) (x0 + 7) (x6 + 1).toNat x5) (x0 + 2) x4.toNat))), some (.int (iz ((mu (mu m (x0 + 7) x6.toNat x4) (x0 + 7) (x6 + 1).toNat x5) (x0 + 2) x5.toNat))), some (.int (iz (x6 + 2))), some (.int (iz (x7 + 1)))] [] (SS (mu (mu m (x0 + 7) x6.toNat x4) (x0 + 7) (x6 + 1).toNat x5) J P) (QI post)))))))))) : Rn X d 55 16 [some (.ref x0), some (.int (iz x1)), some (.int (iz x2)), some (.int (iz x3)), some (.int (iz x4)), some (.int (iz x5)), some (.int (iz x6)), some (.int (iz x7))] [] (SS m J P) (QI post) := by
  refine s_iload (pc := 16) rfl rfl ?_
  refine s_iconst (pc := 18) rfl ?_
  obtain ⟨hz1, hw⟩ := hw
  refine s_ic_ge (pc := 19) (tgt := 101) rfl rfl hz1 (by decide) (fun hc => ?_) (fun hc => ?_)
  · replace hw := hw.1 hc
    refine s_iload (pc := 101) rfl rfl ?_
    exact s_reti (pc := 103) rfl rfl hw
  · replace hw := hw.2 hc
    refine s_iload (pc := 22) rfl rfl ?_
    refine s_aload_n (pc := 24) rfl rfl ?_
    refine s_getA (pc := 25) rfl kx0 (pc_4_1 hp kx0) ?_
    refine s_iload_n (pc := 28) rfl rfl ?_
    obtain ⟨hb2, hw⟩ := hw
    refine s_iald (pc := 29) rfl (kc_4_1 kx0) (by decide) hb2 ?_
    obtain ⟨hz3, hw⟩ := hw
    obtain ⟨hz4, hw⟩ := hw
    refine s_ic_ge (pc := 30) (tgt := 101) rfl rfl hz3 hz4 (fun hc => ?_) (fun hc => ?_)
    · replace hw := hw.1 hc
      refine s_iload (pc := 101) rfl rfl ?_
      exact s_reti (pc := 103) rfl rfl hw
    · replace hw := hw.2 hc
      refine s_iload (pc := 33) rfl rfl ?_
      refine s_aload_n (pc := 35) rfl rfl ?_
      refine s_getA (pc := 36) rfl kx0 (pc_4_1 hp kx0) ?_
      refine s_iload_n (pc := 39) rfl rfl ?_
      obtain ⟨hb5, hw⟩ := hw
      refine s_iald (pc := 40) rfl (kc_4_1 kx0) (by decide) hb5 ?_
      obtain ⟨hz6, hw⟩ := hw
      obtain ⟨hz7, hw⟩ := hw
      refine s_ic_ge (pc := 41) (tgt := 101) rfl rfl hz6 hz7 (fun hc => ?_) (fun hc => ?_)
      · replace hw := hw.1 hc
        refine s_iload (pc := 101) rfl rfl ?_
        exact s_reti (pc := 103) rfl rfl hw
      · replace hw := hw.2 hc
        refine s_iload (pc := 44) rfl rfl ?_
        refine s_iconst (pc := 46) rfl ?_
        refine s_iadd (pc := 47) rfl ?_
        refine s_sipush (pc := 48) rfl (by decide) ?_
        obtain ⟨hz8, hw⟩ := hw
        refine s_ic_gt (pc := 51) (tgt := 101) rfl rfl hz8 (by decide) (fun hc => ?_) (fun hc => ?_)
        · replace hw := hw.1 hc
          refine s_iload (pc := 101) rfl rfl ?_
          exact s_reti (pc := 103) rfl rfl hw
        · replace hw := hw.2 hc
          refine s_aload_n (pc := 54) rfl rfl ?_
          refine s_getA (pc := 55) rfl kx0 (pc_4_9 hp kx0) ?_
          refine s_iload (pc := 58) rfl rfl ?_
          refine s_iload (pc := 60) rfl rfl ?_
          obtain ⟨hb9, hw⟩ := hw
          refine s_iast (pc := 62) rfl (kc_4_9 kx0) (by decide) hb9 ?_
          refine s_aload_n (pc := 63) rfl rfl ?_
          refine s_getA (pc := 64) rfl kx0 (pc_4_9 hp kx0) ?_
          refine s_iload (pc := 67) rfl rfl ?_
          refine s_iconst (pc := 69) rfl ?_
          refine s_iadd (pc := 70) rfl ?_
          refine s_iload (pc := 71) rfl rfl ?_
          obtain ⟨hb10, hw⟩ := hw
          refine s_iast (pc := 73) rfl (kc_4_9 kx0) (by decide) hb10 ?_
          refine s_iinc (pc := 74) (L' := [some (.ref x0), some (.int (iz x1)), some (.int (iz x2)), some (.int (iz x3)), some (.int (iz x4)), some (.int (iz x5)), some (.int (iz (x6 + 2))), some (.int (iz x7))]) rfl rfl (Nat.le_of_ble_eq_true rfl) rfl ?_
          refine s_aload_n (pc := 77) rfl rfl ?_
          refine s_getA (pc := 78) rfl kx0 (pc_4_1 hp kx0) ?_
          refine s_iload (pc := 81) rfl rfl ?_
          obtain ⟨hb11, hw⟩ := hw
          refine s_iald (pc := 83) rfl (kc_4_1 kx0) (by decide) hb11 ?_
          refine s_istore (pc := 84) (L' := [some (.ref x0), some (.int (iz x1)), some (.int (iz x2)), some (.int (iz x3)), some (.int (iz ((mu (mu m (x0 + 7) x6.toNat x4) (x0 + 7) (x6 + 1).toNat x5) (x0 + 2) x4.toNat))), some (.int (iz x5)), some (.int (iz (x6 + 2))), some (.int (iz x7))]) rfl (Nat.le_of_ble_eq_true rfl) rfl ?_
          refine s_aload_n (pc := 86) rfl rfl ?_
          refine s_getA (pc := 87) rfl kx0 (pc_4_1 hp kx0) ?_
          refine s_iload (pc := 90) rfl rfl ?_
          obtain ⟨hb12, hw⟩ := hw
          refine s_iald (pc := 92) rfl (kc_4_1 kx0) (by decide) hb12 ?_
          refine s_istore (pc := 93) (L' := [some (.ref x0), some (.int (iz x1)), some (.int (iz x2)), some (.int (iz x3)), some (.int (iz ((mu (mu m (x0 + 7) x6.toNat x4) (x0 + 7) (x6 + 1).toNat x5) (x0 + 2) x4.toNat))), some (.int (iz ((mu (mu m (x0 + 7) x6.toNat x4) (x0 + 7) (x6 + 1).toNat x5) (x0 + 2) x5.toNat))), some (.int (iz (x6 + 2))), some (.int (iz x7))]) rfl (Nat.le_of_ble_eq_true rfl) rfl ?_
          refine s_iinc (pc := 95) (L' := [some (.ref x0), some (.int (iz x1)), some (.int (iz x2)), some (.int (iz x3)), some (.int (iz ((mu (mu m (x0 + 7) x6.toNat x4) (x0 + 7) (x6 + 1).toNat x5) (x0 + 2) x4.toNat))), some (.int (iz ((mu (mu m (x0 + 7) x6.toNat x4) (x0 + 7) (x6 + 1).toNat x5) (x0 + 2) x5.toNat))), some (.int (iz (x6 + 2))), some (.int (iz (x7 + 1)))]) rfl rfl (Nat.le_of_ble_eq_true rfl) rfl ?_
          refine s_goto (pc := 98) (tgt := 16) rfl rfl ?_
          exact hw

set_option maxRecDepth 20000 in
set_option maxHeartbeats 4000000 in
theorem b_Bench_isFinite_0 {X : aX} {d : Nat} (x0 : Nat) (x1 : Int) (kx0 : am_kd an_K x0 = some (.inl 4)) (m : Mi) (J : Mj) (P : Mp) (hp : PP P) (post : Int → Mi → Mj → Mp → Prop)
    (hw : Ci X d 54 [.ref x0, .int (iz x1)] m J P (fun z4 m1 J2 P3 => PP P3 ∧ Ci X d 57 [.ref x0, .int (iz z4), .int (iz 0)] m1 J2 P3 (fun z9 m6 J7 P8 => PP P8 ∧ Rn X (d + 1) 56 13 [some (.ref x0), some (.int (iz x1)), some (.int (iz z9)), some (.int (iz 0)), none, none, none] [] (SS m6 J7 P8) (QI post)))) : Rn X (d + 1) 56 0 [some (.ref x0), some (.int (iz x1)), none, none, none, none, none] [] (SS m J P) (QI post) := by
  refine s_aload_n (pc := 0) rfl rfl ?_
  refine s_aload_n (pc := 1) rfl rfl ?_
  refine s_iload_n (pc := 2) rfl rfl ?_
  refine s_ci (pc := 3) (d := d) (t := [.ref x0]) rfl rfl (am_ca_v (ps := [.int (iz x1)]) rfl kx0) (Nat.le_of_ble_eq_true rfl) (Ci.weak hw fun z4 m1 J2 P3 hw => ?_)
  obtain ⟨hp5, hw⟩ := hw
  refine s_iconst (pc := 6) rfl ?_
  refine s_ci (pc := 7) (d := d) (t := []) rfl rfl (am_ca_v (ps := [.int (iz 0), .int (iz z4)]) rfl kx0) (Nat.le_of_ble_eq_true rfl) (Ci.weak hw fun z9 m6 J7 P8 hw => ?_)
  obtain ⟨hp10, hw⟩ := hw
  refine s_istore_n (pc := 10) (L' := [some (.ref x0), some (.int (iz x1)), some (.int (iz z9)), none, none, none, none]) rfl (Nat.le_of_ble_eq_true rfl) rfl ?_
  refine s_iconst (pc := 11) rfl ?_
  refine s_istore_n (pc := 12) (L' := [some (.ref x0), some (.int (iz x1)), some (.int (iz z9)), some (.int (iz 0)), none, none, none]) rfl (Nat.le_of_ble_eq_true rfl) rfl ?_
  exact hw

set_option maxRecDepth 20000 in
set_option maxHeartbeats 4000000 in
theorem b_Bench_isFinite_13 {X : aX} {d : Nat} (x0 : Nat) (x1 : Int) (x2 : Int) (x3 : Int) (kx0 : am_kd an_K x0 = some (.inl 4)) (m : Mi) (J : Mj) (P : Mp) (hp : PP P) (post : Int → Mi → Mj → Mp → Prop)
    (hw : Zr (x3) ∧ (((1000000 ≤ x3) → post 1 m J P) ∧ (¬ (1000000 ≤ x3) → Zr (x2) ∧ (((x2 < 2) → post 1 m J P) ∧ (¬ (x2 < 2) → ((0 : Int) ≤ (x2 - 2) ∧ ((x2 - 2) : Int) < 2048) ∧ ((0 : Int) ≤ (x2 - 1) ∧ ((x2 - 1) : Int) < 2048) ∧ ((0 : Int) ≤ (m (x0 + 7) (x2 - 2).toNat) ∧ ((m (x0 + 7) (x2 - 2).toNat) : Int) < 880) ∧ Zr (m (x0 + 7) (x2 - 1).toNat) ∧ Zr (m (x0 + 2) (m (x0 + 7) (x2 - 2).toNat).toNat) ∧ ((((m (x0 + 7) (x2 - 1).toNat) < (m (x0 + 2) (m (x0 + 7) (x2 - 2).toNat).toNat)) → ((0 : Int) ≤ (m (x0 + 7) (x2 - 1).toNat) ∧ ((m (x0 + 7) (x2 - 1).toNat) : Int) < 880) ∧ ((0 : Int) ≤ (x2 - 1) ∧ ((x2 - 1) : Int) < 2048) ∧ Ci X d 54 [.ref x0, .int (iz (m (x0 + 7) (x2 - 1).toNat))] (mu m (x0 + 7) (x2 - 1).toNat (m (x0 + 2) (m (x0 + 7) (x2 - 1).toNat).toNat)) J P (fun z13 m10 J11 P12 => PP P12 ∧ ((0 : Int) ≤ z13 ∧ (z13 : Int) < 1688) ∧ Zr (m10 (x0 + 5) z13.toNat) ∧ (((¬ (m10 (x0 + 5) z13.toNat) = 1) → ((0 : Int) ≤ z13 ∧ (z13 : Int) < 1688) ∧ Zr (m10 (x0 + 5) z13.toNat) ∧ (((¬ (m10 (x0 + 5) z13.toNat) = 0) → Rn X (d + 1) 56 13 [some (.ref x0), some (.int (iz x1)), some (.int (iz x2)), some (.int (iz (x3 + 1))), none, none, none] [] (SS m10 J11 P12) (QI post)) ∧ (¬ (¬ (m10 (x0 + 5) z13.toNat) = 0) → Ci X d 57 [.ref x0, .int (iz z13), .int (iz x2)] m10 J11 P12 (fun z22 m19 J20 P21 => PP P21 ∧ Rn X (d + 1) 56 13 [some (.ref x0), some (.int (iz x1)), some (.int (iz z22)), some (.int (iz (x3 + 1))), none, none, none] [] (SS m19 J20 P21) (QI post))))) ∧ (¬ (¬ (m10 (x0 + 5) z13.toNat) = 1) → post 0 m10 J11 P12)))) ∧ (¬ ((m (x0 + 7) (x2 - 1).toNat) < (m (x0 + 2) (m (x0 + 7) (x2 - 2).toNat).toNat)) → Ci X d 54 [.ref x0, .int (iz (m (x0 + 7) (x2 - 2).toNat))] m J P (fun z27 m24 J25 P26 => PP P26 ∧ ((0 : Int) ≤ z27 ∧ (z27 : Int) < 1688) ∧ Rn X (d + 1) 56 13 [some (.ref x0), some (.int (iz x1)), some (.int (iz (x2 + (-2)))), some (.int (iz (x3 + 1))), none, none, none] [] (SS (mu m24 (x0 + 5) z27.toNat 2) J25 P26) (QI post))))))))) : Rn X (d + 1) 56 13 [some (.ref x0), some (.int (iz x1)), some (.int (iz x2)), some (.int (iz x3)), none, none, none] [] (SS m J P) (QI post) := by
  refine s_iload_n (pc := 13) rfl rfl ?_
  refine s_ldc (pc := 14) rfl ?_
  obtain ⟨hz1, hw⟩ := hw
  refine s_ic_ge (pc := 16) (tgt := 134) rfl rfl hz1 (by decide) (fun hc => ?_) (fun hc => ?_)
  · replace hw := hw.1 hc
    refine s_iconst (pc := 134) rfl ?_
    exact s_retz (pc := 135) rfl rfl (by decide) hw
  · replace hw := hw.2 hc
    refine s_iload_n (pc := 19) rfl rfl ?_
    refine s_iconst (pc := 20) rfl ?_
    obtain ⟨hz2, hw⟩ := hw
    refine s_ic_lt (pc := 21) (tgt := 134) rfl rfl hz2 (by decide) (fun hc => ?_) (fun hc => ?_)
    · replace hw := hw.1 hc
      refine s_iconst (pc := 134) rfl ?_
      exact s_retz (pc := 135) rfl rfl (by decide) hw
    · replace hw := hw.2 hc
      refine s_aload_n (pc := 24) rfl rfl ?_
      refine s_getA (pc := 25) rfl kx0 (pc_4_9 hp kx0) ?_
      refine s_iload_n (pc := 28) rfl rfl ?_
      refine s_iconst (pc := 29) rfl ?_
      refine s_isub (pc := 30) rfl ?_
      obtain ⟨hb3, hw⟩ := hw
      refine s_iald (pc := 31) rfl (kc_4_9 kx0) (by decide) hb3 ?_
      refine s_istore (pc := 32) (L' := [some (.ref x0), some (.int (iz x1)), some (.int (iz x2)), some (.int (iz x3)), some (.int (iz (m (x0 + 7) (x2 - 2).toNat))), none, none]) rfl (Nat.le_of_ble_eq_true rfl) rfl ?_
      refine s_aload_n (pc := 34) rfl rfl ?_
      refine s_getA (pc := 35) rfl kx0 (pc_4_9 hp kx0) ?_
      refine s_iload_n (pc := 38) rfl rfl ?_
      refine s_iconst (pc := 39) rfl ?_
      refine s_isub (pc := 40) rfl ?_
      obtain ⟨hb4, hw⟩ := hw
      refine s_iald (pc := 41) rfl (kc_4_9 kx0) (by decide) hb4 ?_
      refine s_istore (pc := 42) (L' := [some (.ref x0), some (.int (iz x1)), some (.int (iz x2)), some (.int (iz x3)), some (.int (iz (m (x0 + 7) (x2 - 2).toNat))), some (.int (iz (m (x0 + 7) (x2 - 1).toNat))), none]) rfl (Nat.le_of_ble_eq_true rfl) rfl ?_
      refine s_iload (pc := 44) rfl rfl ?_
      refine s_aload_n (pc := 46) rfl rfl ?_
      refine s_getA (pc := 47) rfl kx0 (pc_4_1 hp kx0) ?_
      refine s_iload (pc := 50) rfl rfl ?_
      obtain ⟨hb5, hw⟩ := hw
      refine s_iald (pc := 52) rfl (kc_4_1 kx0) (by decide) hb5 ?_
      obtain ⟨hz6, hw⟩ := hw
      obtain ⟨hz7, hw⟩ := hw
      refine s_ic_lt (pc := 53) (tgt := 74) rfl rfl hz6 hz7 (fun hc => ?_) (fun hc => ?_)
      · replace hw := hw.1 hc
        refine s_aload_n (pc := 74) rfl rfl ?_
        refine s_getA (pc := 75) rfl kx0 (pc_4_9 hp kx0) ?_
        refine s_iload_n (pc := 78) rfl rfl ?_
        refine s_iconst (pc := 79) rfl ?_
        refine s_isub (pc := 80) rfl ?_
        refine s_aload_n (pc := 81) rfl rfl ?_
        refine s_getA (pc := 82) rfl kx0 (pc_4_1 hp kx0) ?_
        refine s_iload (pc := 85) rfl rfl ?_
        obtain ⟨hb8, hw⟩ := hw
        refine s_iald (pc := 87) rfl (kc_4_1 kx0) (by decide) hb8 ?_
        obtain ⟨hb9, hw⟩ := hw
        refine s_iast (pc := 88) rfl (kc_4_9 kx0) (by decide) hb9 ?_
        refine s_aload_n (pc := 89) rfl rfl ?_
        refine s_iload (pc := 90) rfl rfl ?_
        refine s_ci (pc := 92) (d := d) (t := []) rfl rfl (am_ca_v (ps := [.int (iz (m (x0 + 7) (x2 - 1).toNat))]) rfl kx0) (Nat.le_of_ble_eq_true rfl) (Ci.weak hw fun z13 m10 J11 P12 hw => ?_)
        obtain ⟨hp14, hw⟩ := hw
        refine s_istore (pc := 95) (L' := [some (.ref x0), some (.int (iz x1)), some (.int (iz x2)), some (.int (iz x3)), some (.int (iz (m (x0 + 7) (x2 - 2).toNat))), some (.int (iz (m (x0 + 7) (x2 - 1).toNat))), some (.int (iz z13))]) rfl (Nat.le_of_ble_eq_true rfl) rfl ?_
        refine s_aload_n (pc := 97) rfl rfl ?_
        refine s_getA (pc := 98) rfl kx0 (pc_4_6 hp14 kx0) ?_
        refine s_iload (pc := 101) rfl rfl ?_
        obtain ⟨hb15, hw⟩ := hw
        refine s_iald (pc := 103) rfl (kc_4_6 kx0) (by decide) hb15 ?_
        refine s_iconst (pc := 104) rfl ?_
        obtain ⟨hz16, hw⟩ := hw
        refine s_ic_ne (pc := 105) (tgt := 110) rfl rfl hz16 (by decide) (fun hc => ?_) (fun hc => ?_)
        · replace hw := hw.1 hc
          refine s_aload_n (pc := 110) rfl rfl ?_
          refine s_getA (pc := 111) rfl kx0 (pc_4_6 hp14 kx0) ?_
          refine s_iload (pc := 114) rfl rfl ?_
          obtain ⟨hb17, hw⟩ := hw
          refine s_iald (pc := 116) rfl (kc_4_6 kx0) (by decide) hb17 ?_
          obtain ⟨hz18, hw⟩ := hw
          refine s_if_ne (pc := 117) (tgt := 128) rfl rfl hz18 (fun hc => ?_) (fun hc => ?_)
          · replace hw := hw.1 hc
            refine s_iinc (pc := 128) (L' := [some (.ref x0), some (.int (iz x1)), some (.int (iz x2)), some (.int (iz (x3 + 1))), some (.int (iz (m (x0 + 7) (x2 - 2).toNat))), some (.int (iz (m (x0 + 7) (x2 - 1).toNat))), some (.int (iz z13))]) rfl rfl (Nat.le_of_ble_eq_true rfl) rfl ?_
            refine s_goto (pc := 131) (tgt := 13) rfl rfl ?_
            exact Rn.weakL hw (LLe.keep _ (LLe.keep _ (LLe.keep _ (LLe.keep _ (LLe.drop _ (LLe.drop _ (LLe.drop _ (LLe.nil))))))))
          · replace hw := hw.2 hc
            refine s_aload_n (pc := 120) rfl rfl ?_
            refine s_iload (pc := 121) rfl rfl ?_
            refine s_iload_n (pc := 123) rfl rfl ?_
            refine s_ci (pc := 124) (d := d) (t := []) rfl rfl (am_ca_v (ps := [.int (iz x2), .int (iz z13)]) rfl kx0) (Nat.le_of_ble_eq_true rfl) (Ci.weak hw fun z22 m19 J20 P21 hw => ?_)
            obtain ⟨hp23, hw⟩ := hw
            refine s_istore_n (pc := 127) (L' := [some (.ref x0), some (.int (iz x1)), some (.int (iz z22)), some (.int (iz x3)), some (.int (iz (m (x0 + 7) (x2 - 2).toNat))), some (.int (iz (m (x0 + 7) (x2 - 1).toNat))), some (.int (iz z13))]) rfl (Nat.le_of_ble_eq_true rfl) rfl ?_
            refine s_iinc (pc := 128) (L' := [some (.ref x0), some (.int (iz x1)), some (.int (iz z22)), some (.int (iz (x3 + 1))), some (.int (iz (m (x0 + 7) (x2 - 2).toNat))), some (.int (iz (m (x0 + 7) (x2 - 1).toNat))), some (.int (iz z13))]) rfl rfl (Nat.le_of_ble_eq_true rfl) rfl ?_
            refine s_goto (pc := 131) (tgt := 13) rfl rfl ?_
            exact Rn.weakL hw (LLe.keep _ (LLe.keep _ (LLe.keep _ (LLe.keep _ (LLe.drop _ (LLe.drop _ (LLe.drop _ (LLe.nil))))))))
        · replace hw := hw.2 hc
          refine s_iconst (pc := 108) rfl ?_
          exact s_retz (pc := 109) rfl rfl (by decide) hw
      · replace hw := hw.2 hc
        refine s_aload_n (pc := 56) rfl rfl ?_
        refine s_getA (pc := 57) rfl kx0 (pc_4_6 hp kx0) ?_
        refine s_aload_n (pc := 60) rfl rfl ?_
        refine s_iload (pc := 61) rfl rfl ?_
        refine s_ci (pc := 63) (d := d) (t := [.ref (x0 + 5)]) rfl rfl (am_ca_v (ps := [.int (iz (m (x0 + 7) (x2 - 2).toNat))]) rfl kx0) (Nat.le_of_ble_eq_true rfl) (Ci.weak hw fun z27 m24 J25 P26 hw => ?_)
        obtain ⟨hp28, hw⟩ := hw
        refine s_iconst (pc := 66) rfl ?_
        obtain ⟨hb29, hw⟩ := hw
        refine s_iast (pc := 67) rfl (kc_4_6 kx0) (by decide) hb29 ?_
        refine s_iinc (pc := 68) (L' := [some (.ref x0), some (.int (iz x1)), some (.int (iz (x2 + (-2)))), some (.int (iz x3)), some (.int (iz (m (x0 + 7) (x2 - 2).toNat))), some (.int (iz (m (x0 + 7) (x2 - 1).toNat))), none]) rfl rfl (Nat.le_of_ble_eq_true rfl) rfl ?_
        refine s_goto (pc := 71) (tgt := 128) rfl rfl ?_
        refine s_iinc (pc := 128) (L' := [some (.ref x0), some (.int (iz x1)), some (.int (iz (x2 + (-2)))), some (.int (iz (x3 + 1))), some (.int (iz (m (x0 + 7) (x2 - 2).toNat))), some (.int (iz (m (x0 + 7) (x2 - 1).toNat))), none]) rfl rfl (Nat.le_of_ble_eq_true rfl) rfl ?_
        refine s_goto (pc := 131) (tgt := 13) rfl rfl ?_
        exact Rn.weakL hw (LLe.keep _ (LLe.keep _ (LLe.keep _ (LLe.keep _ (LLe.drop _ (LLe.drop _ (LLe.keep _ (LLe.nil))))))))

set_option maxRecDepth 20000 in
set_option maxHeartbeats 4000000 in
theorem b_Bench_pushClass_0 {X : aX} {d : Nat} (x0 : Nat) (x1 : Int) (x2 : Int) (kx0 : am_kd an_K x0 = some (.inl 4)) (m : Mi) (J : Mj) (P : Mp) (hp : PP P) (post : Int → Mi → Mj → Mp → Prop)
    (hw : ((0 : Int) ≤ x1 ∧ (x1 : Int) < 1688) ∧ Zr (m (x0 + 4) x1.toNat) ∧ ((((m (x0 + 4) x1.toNat) = ((-1))) → post x2 m J P) ∧ (¬ ((m (x0 + 4) x1.toNat) = ((-1))) → Zr (x2 + 2) ∧ ((((x2 + 2) ≤ 2048) → ((0 : Int) ≤ x1 ∧ (x1 : Int) < 1688) ∧ ((0 : Int) ≤ x2 ∧ (x2 : Int) < 2048) ∧ ((0 : Int) ≤ (x2 + 1) ∧ ((x2 + 1) : Int) < 2048) ∧ post (x2 + 2) (mu (mu (mu m (x0 + 5) x1.toNat 1) (x0 + 7) x2.toNat (m (x0 + 4) x1.toNat)) (x0 + 7) (x2 + 1).toNat ((m (x0 + 4) x1.toNat) + 1)) J P) ∧ (¬ ((x2 + 2) ≤ 2048) → post x2 m J P))))) : Rn X d 57 0 [some (.ref x0), some (.int (iz x1)), some (.int (iz x2)), none] [] (SS m J P) (QI post) := by
  refine s_aload_n (pc := 0) rfl rfl ?_
  refine s_getA (pc := 1) rfl kx0 (pc_4_5 hp kx0) ?_
  refine s_iload_n (pc := 4) rfl rfl ?_
  obtain ⟨hb1, hw⟩ := hw
  refine s_iald (pc := 5) rfl (kc_4_5 kx0) (by decide) hb1 ?_
  refine s_istore_n (pc := 6) (L' := [some (.ref x0), some (.int (iz x1)), some (.int (iz x2)), some (.int (iz (m (x0 + 4) x1.toNat)))]) rfl (Nat.le_of_ble_eq_true rfl) rfl ?_
  refine s_iload_n (pc := 7) rfl rfl ?_
  refine s_iconst (pc := 8) rfl ?_
  obtain ⟨hz2, hw⟩ := hw
  refine s_ic_eq (pc := 9) (tgt := 21) rfl rfl hz2 (by decide) (fun hc => ?_) (fun hc => ?_)
  · replace hw := hw.1 hc
    refine s_iload_n (pc := 21) rfl rfl ?_
    exact s_reti (pc := 22) rfl rfl hw
  · replace hw := hw.2 hc
    refine s_iload_n (pc := 12) rfl rfl ?_
    refine s_iconst (pc := 13) rfl ?_
    refine s_iadd (pc := 14) rfl ?_
    refine s_sipush (pc := 15) rfl (by decide) ?_
    obtain ⟨hz3, hw⟩ := hw
    refine s_ic_le (pc := 18) (tgt := 23) rfl rfl hz3 (by decide) (fun hc => ?_) (fun hc => ?_)
    · replace hw := hw.1 hc
      refine s_aload_n (pc := 23) rfl rfl ?_
      refine s_getA (pc := 24) rfl kx0 (pc_4_6 hp kx0) ?_
      refine s_iload_n (pc := 27) rfl rfl ?_
      refine s_iconst (pc := 28) rfl ?_
      obtain ⟨hb4, hw⟩ := hw
      refine s_iast (pc := 29) rfl (kc_4_6 kx0) (by decide) hb4 ?_
      refine s_aload_n (pc := 30) rfl rfl ?_
      refine s_getA (pc := 31) rfl kx0 (pc_4_9 hp kx0) ?_
      refine s_iload_n (pc := 34) rfl rfl ?_
      refine s_iload_n (pc := 35) rfl rfl ?_
      obtain ⟨hb5, hw⟩ := hw
      refine s_iast (pc := 36) rfl (kc_4_9 kx0) (by decide) hb5 ?_
      refine s_aload_n (pc := 37) rfl rfl ?_
      refine s_getA (pc := 38) rfl kx0 (pc_4_9 hp kx0) ?_
      refine s_iload_n (pc := 41) rfl rfl ?_
      refine s_iconst (pc := 42) rfl ?_
      refine s_iadd (pc := 43) rfl ?_
      refine s_iload_n (pc := 44) rfl rfl ?_
      refine s_iconst (pc := 45) rfl ?_
      refine s_iadd (pc := 46) rfl ?_
      obtain ⟨hb6, hw⟩ := hw
      refine s_iast (pc := 47) rfl (kc_4_9 kx0) (by decide) hb6 ?_
      refine s_iload_n (pc := 48) rfl rfl ?_
      refine s_iconst (pc := 49) rfl ?_
      refine s_iadd (pc := 50) rfl ?_
      exact s_reti (pc := 51) rfl rfl hw
    · replace hw := hw.2 hc
      refine s_iload_n (pc := 21) rfl rfl ?_
      exact s_reti (pc := 22) rfl rfl hw

set_option maxRecDepth 20000 in
set_option maxHeartbeats 4000000 in
theorem b_Pairs_keep_0 {X : aX} {d : Nat} (x1 : Int) (x2 : Int) (x3 : Int) (x4 : Nat) (kx4 : am_kd an_K x4 = some (.inl 10)) (m : Mi) (J : Mj) (P : Mp) (hp : PP P) (post : Mi → Mj → Mp → Prop)
    (hw : ((0 : Int) ≤ ((m 36 3) * 4) ∧ (((m 36 3) * 4) : Int) < 800) ∧ ((0 : Int) ≤ (((m 36 3) * 4) + 1) ∧ ((((m 36 3) * 4) + 1) : Int) < 800) ∧ ((0 : Int) ≤ (((m 36 3) * 4) + 2) ∧ ((((m 36 3) * 4) + 2) : Int) < 800) ∧ Ci X (d + 3) 59 [.ref 36, .int (iz x1), .int (iz x2), .int (iz x3), .ref x4] (mu (mu (mu m 37 ((m 36 3) * 4).toNat x1) 37 (((m 36 3) * 4) + 1).toNat x2) 37 (((m 36 3) * 4) + 2).toNat x3) J P (fun z7 m4 J5 P6 => PP P6 ∧ Zr (z7) ∧ (((z7 = 0) → ((0 : Int) ≤ (((m 36 3) * 4) + 3) ∧ ((((m 36 3) * 4) + 3) : Int) < 800) ∧ Rn X (d + 4) 58 124 [some (.ref 36), some (.int (iz x1)), some (.int (iz x2)), some (.int (iz x3)), some (.ref x4), some (.int (iz ((m 36 3) * 4))), some (.int (iz 2))] [] (SS (mu (mu m4 37 (((m 36 3) * 4) + 3).toNat 2) 36 5 (((mu m4 37 (((m 36 3) * 4) + 3).toNat 2) 36 5) + 1)) J5 P6) (QV post)) ∧ (¬ (z7 = 0) → Ci X (d + 3) 66 [.ref 28, .ref (8 + 8), .int (iz (m4 36 6)), .int (iz (m4 8 12)), .ref x4] m4 J5 P6 (fun z14 m11 J12 P13 => PP P13 ∧ ((0 : Int) ≤ (((m 36 3) * 4) + 3) ∧ ((((m 36 3) * 4) + 3) : Int) < 800) ∧ Zr (z14) ∧ (((¬ z14 = 1) → Zr (z14) ∧ (((¬ z14 = 2) → Rn X (d + 4) 58 124 [some (.ref 36), some (.int (iz x1)), some (.int (iz x2)), some (.int (iz x3)), some (.ref x4), some (.int (iz ((m 36 3) * 4))), some (.int (iz z14))] [] (SS (mu m11 37 (((m 36 3) * 4) + 3).toNat z14) J12 P13) (QV post)) ∧ (¬ (¬ z14 = 2) → Rn X (d + 4) 58 124 [some (.ref 36), some (.int (iz x1)), some (.int (iz x2)), some (.int (iz x3)), some (.ref x4), some (.int (iz ((m 36 3) * 4))), some (.int (iz z14))] [] (SS (mu (mu m11 37 (((m 36 3) * 4) + 3).toNat z14) 36 5 (((mu m11 37 (((m 36 3) * 4) + 3).toNat z14) 36 5) + 1)) J12 P13) (QV post)))) ∧ (¬ (¬ z14 = 1) → Zr (z14) ∧ (((¬ z14 = 2) → Rn X (d + 4) 58 124 [some (.ref 36), some (.int (iz x1)), some (.int (iz x2)), some (.int (iz x3)), some (.ref x4), some (.int (iz ((m 36 3) * 4))), some (.int (iz z14))] [] (SS (mu (mu m11 37 (((m 36 3) * 4) + 3).toNat z14) 36 4 (((mu m11 37 (((m 36 3) * 4) + 3).toNat z14) 36 4) + 1)) J12 P13) (QV post)) ∧ (¬ (¬ z14 = 2) → Rn X (d + 4) 58 124 [some (.ref 36), some (.int (iz x1)), some (.int (iz x2)), some (.int (iz x3)), some (.ref x4), some (.int (iz ((m 36 3) * 4))), some (.int (iz z14))] [] (SS (mu (mu (mu m11 37 (((m 36 3) * 4) + 3).toNat z14) 36 4 (((mu m11 37 (((m 36 3) * 4) + 3).toNat z14) 36 4) + 1)) 36 5 (((mu (mu m11 37 (((m 36 3) * 4) + 3).toNat z14) 36 4 (((mu m11 37 (((m 36 3) * 4) + 3).toNat z14) 36 4) + 1)) 36 5) + 1)) J12 P13) (QV post)))))))))) : Rn X (d + 4) 58 0 [some (.ref 36), some (.int (iz x1)), some (.int (iz x2)), some (.int (iz x3)), some (.ref x4), none, none] [] (SS m J P) (QV post) := by
  refine s_aload_n (pc := 0) rfl rfl ?_
  refine s_getI (pc := 1) rfl ko_36 ?_
  refine s_iconst (pc := 4) rfl ?_
  refine s_imul (pc := 5) rfl ?_
  refine s_istore (pc := 6) (L' := [some (.ref 36), some (.int (iz x1)), some (.int (iz x2)), some (.int (iz x3)), some (.ref x4), some (.int (iz ((m 36 3) * 4))), none]) rfl (Nat.le_of_ble_eq_true rfl) rfl ?_
  refine s_aload_n (pc := 8) rfl rfl ?_
  refine s_getA (pc := 9) rfl ko_36 (po_36_2 hp) ?_
  refine s_iload (pc := 12) rfl rfl ?_
  refine s_iload_n (pc := 14) rfl rfl ?_
  obtain ⟨hb1, hw⟩ := hw
  refine s_iast (pc := 15) rfl ka_37 (by decide) hb1 ?_
  refine s_aload_n (pc := 16) rfl rfl ?_
  refine s_getA (pc := 17) rfl ko_36 (po_36_2 hp) ?_
  refine s_iload (pc := 20) rfl rfl ?_
  refine s_iconst (pc := 22) rfl ?_
  refine s_iadd (pc := 23) rfl ?_
  refine s_iload_n (pc := 24) rfl rfl ?_
  obtain ⟨hb2, hw⟩ := hw
  refine s_iast (pc := 25) rfl ka_37 (by decide) hb2 ?_
  refine s_aload_n (pc := 26) rfl rfl ?_
  refine s_getA (pc := 27) rfl ko_36 (po_36_2 hp) ?_
  refine s_iload (pc := 30) rfl rfl ?_
  refine s_iconst (pc := 32) rfl ?_
  refine s_iadd (pc := 33) rfl ?_
  refine s_iload_n (pc := 34) rfl rfl ?_
  obtain ⟨hb3, hw⟩ := hw
  refine s_iast (pc := 35) rfl ka_37 (by decide) hb3 ?_
  refine s_aload_n (pc := 36) rfl rfl ?_
  refine s_iload_n (pc := 37) rfl rfl ?_
  refine s_iload_n (pc := 38) rfl rfl ?_
  refine s_iload_n (pc := 39) rfl rfl ?_
  refine s_aload (pc := 40) rfl rfl ?_
  refine s_ci (pc := 42) (d := (d + 3)) (t := []) rfl rfl (am_ca_v (ps := [.ref x4, .int (iz x3), .int (iz x2), .int (iz x1)]) rfl ko_36) (Nat.le_of_ble_eq_true rfl) (Ci.weak hw fun z7 m4 J5 P6 hw => ?_)
  obtain ⟨hp8, hw⟩ := hw
  obtain ⟨hz9, hw⟩ := hw
  refine s_if_eq (pc := 45) (tgt := 78) rfl rfl hz9 (fun hc => ?_) (fun hc => ?_)
  · replace hw := hw.1 hc
    refine s_iconst (pc := 78) rfl ?_
    refine s_istore (pc := 79) (L' := [some (.ref 36), some (.int (iz x1)), some (.int (iz x2)), some (.int (iz x3)), some (.ref x4), some (.int (iz ((m 36 3) * 4))), some (.int (iz 2))]) rfl (Nat.le_of_ble_eq_true rfl) rfl ?_
    refine s_aload_n (pc := 81) rfl rfl ?_
    refine s_getA (pc := 82) rfl ko_36 (po_36_2 hp8) ?_
    refine s_iload (pc := 85) rfl rfl ?_
    refine s_iconst (pc := 87) rfl ?_
    refine s_iadd (pc := 88) rfl ?_
    refine s_iload (pc := 89) rfl rfl ?_
    obtain ⟨hb10, hw⟩ := hw
    refine s_iast (pc := 91) rfl ka_37 (by decide) hb10 ?_
    refine s_iload (pc := 92) rfl rfl ?_
    refine s_iconst (pc := 94) rfl ?_
    refine s_ic_ne (pc := 95) (tgt := 108) rfl rfl (by decide) (by decide) (fun hc => ?_) (fun hc => ?_)
    rotate_left
    · exact absurd hc (by decide)
    refine s_iload (pc := 108) rfl rfl ?_
    refine s_iconst (pc := 110) rfl ?_
    refine s_ic_ne (pc := 111) (tgt := 124) rfl rfl (by decide) (by decide) (fun hc => ?_) (fun hc => ?_)
    · exact absurd hc (by decide)
    refine s_aload_n (pc := 114) rfl rfl ?_
    refine s_dup (pc := 115) rfl rfl ?_
    refine s_getI (pc := 116) rfl ko_36 ?_
    refine s_iconst (pc := 119) rfl ?_
    refine s_iadd (pc := 120) rfl ?_
    refine s_putI (pc := 121) rfl ko_36 ?_
    exact hw
  · replace hw := hw.2 hc
    refine s_aload_n (pc := 48) rfl rfl ?_
    refine s_getA (pc := 49) rfl ko_36 (po_36_1 hp8) ?_
    refine s_aload_n (pc := 52) rfl rfl ?_
    refine s_getA (pc := 53) rfl ko_36 (po_36_0 hp8) ?_
    refine s_getA (pc := 56) rfl (by decide +kernel) (pc_4_10 hp8 (by decide +kernel)) ?_
    refine s_aload_n (pc := 59) rfl rfl ?_
    refine s_getI (pc := 60) rfl ko_36 ?_
    refine s_aload_n (pc := 63) rfl rfl ?_
    refine s_getA (pc := 64) rfl ko_36 (po_36_0 hp8) ?_
    refine s_getI (pc := 67) rfl (by decide +kernel) ?_
    refine s_aload (pc := 70) rfl rfl ?_
    refine s_ci (pc := 72) (d := (d + 3)) (t := []) rfl rfl (am_ca_v (ps := [.ref x4, .int (iz (m4 8 12)), .int (iz (m4 36 6)), .ref (8 + 8)]) rfl ko_28) (Nat.le_of_ble_eq_true rfl) (Ci.weak hw fun z14 m11 J12 P13 hw => ?_)
    obtain ⟨hp15, hw⟩ := hw
    refine s_goto (pc := 75) (tgt := 79) rfl rfl ?_
    refine s_istore (pc := 79) (L' := [some (.ref 36), some (.int (iz x1)), some (.int (iz x2)), some (.int (iz x3)), some (.ref x4), some (.int (iz ((m 36 3) * 4))), some (.int (iz z14))]) rfl (Nat.le_of_ble_eq_true rfl) rfl ?_
    refine s_aload_n (pc := 81) rfl rfl ?_
    refine s_getA (pc := 82) rfl ko_36 (po_36_2 hp15) ?_
    refine s_iload (pc := 85) rfl rfl ?_
    refine s_iconst (pc := 87) rfl ?_
    refine s_iadd (pc := 88) rfl ?_
    refine s_iload (pc := 89) rfl rfl ?_
    obtain ⟨hb16, hw⟩ := hw
    refine s_iast (pc := 91) rfl ka_37 (by decide) hb16 ?_
    refine s_iload (pc := 92) rfl rfl ?_
    refine s_iconst (pc := 94) rfl ?_
    obtain ⟨hz17, hw⟩ := hw
    refine s_ic_ne (pc := 95) (tgt := 108) rfl rfl hz17 (by decide) (fun hc => ?_) (fun hc => ?_)
    · replace hw := hw.1 hc
      refine s_iload (pc := 108) rfl rfl ?_
      refine s_iconst (pc := 110) rfl ?_
      obtain ⟨hz18, hw⟩ := hw
      refine s_ic_ne (pc := 111) (tgt := 124) rfl rfl hz18 (by decide) (fun hc => ?_) (fun hc => ?_)
      · replace hw := hw.1 hc
        exact hw
      · replace hw := hw.2 hc
        refine s_aload_n (pc := 114) rfl rfl ?_
        refine s_dup (pc := 115) rfl rfl ?_
        refine s_getI (pc := 116) rfl ko_36 ?_
        refine s_iconst (pc := 119) rfl ?_
        refine s_iadd (pc := 120) rfl ?_
        refine s_putI (pc := 121) rfl ko_36 ?_
        exact hw
    · replace hw := hw.2 hc
      refine s_aload_n (pc := 98) rfl rfl ?_
      refine s_dup (pc := 99) rfl rfl ?_
      refine s_getI (pc := 100) rfl ko_36 ?_
      refine s_iconst (pc := 103) rfl ?_
      refine s_iadd (pc := 104) rfl ?_
      refine s_putI (pc := 105) rfl ko_36 ?_
      refine s_iload (pc := 108) rfl rfl ?_
      refine s_iconst (pc := 110) rfl ?_
      obtain ⟨hz19, hw⟩ := hw
      refine s_ic_ne (pc := 111) (tgt := 124) rfl rfl hz19 (by decide) (fun hc => ?_) (fun hc => ?_)
      · replace hw := hw.1 hc
        exact hw
      · replace hw := hw.2 hc
        refine s_aload_n (pc := 114) rfl rfl ?_
        refine s_dup (pc := 115) rfl rfl ?_
        refine s_getI (pc := 116) rfl ko_36 ?_
        refine s_iconst (pc := 119) rfl ?_
        refine s_iadd (pc := 120) rfl ?_
        refine s_putI (pc := 121) rfl ko_36 ?_
        exact hw

set_option maxRecDepth 20000 in
set_option maxHeartbeats 4000000 in
theorem b_Pairs_keep_124 {X : aX} {d : Nat} (x1 : Int) (x2 : Int) (x3 : Int) (x4 : Nat) (x5 : Int) (x6 : Int) (kx4 : am_kd an_K x4 = some (.inl 10)) (m : Mi) (J : Mj) (P : Mp) (hp : PP P) (post : Mi → Mj → Mp → Prop)
    (hw : post m J P) : Rn X (d + 4) 58 124 [some (.ref 36), some (.int (iz x1)), some (.int (iz x2)), some (.int (iz x3)), some (.ref x4), some (.int (iz x5)), some (.int (iz x6))] [] (SS m J P) (QV post) := by
  exact s_retv (pc := 124) rfl rfl hw

set_option maxRecDepth 20000 in
set_option maxHeartbeats 4000000 in
theorem b_Pairs_write_0 {X : aX} {d : Nat} (x1 : Int) (x2 : Int) (x3 : Int) (x4 : Nat) (kx4 : am_kd an_K x4 = some (.inl 10)) (m : Mi) (J : Mj) (P : Mp) (hp : PP P) (post : Int → Mi → Mj → Mp → Prop)
    (hw : ((0 : Int) ≤ x3 ∧ (x3 : Int) < 16) ∧ Cv X (d + 1) 60 [.ref 8, .int (iz x2), .int (iz ((m 8 2) + (m (x4 + 5 + 6 * x3.toNat) 5)))] m J P (fun m2 J3 P4 => PP P4 ∧ ((0 : Int) ≤ x1 ∧ (x1 : Int) < 16) ∧ Ci X (d + 1) 61 [.ref 8, .int (iz (m2 (x4 + 5 + 6 * x1.toNat) 5)), .int (iz 200), .int (iz 0)] m2 J3 P4 (fun z11 m8 J9 P10 => PP P10 ∧ Zr ((mu m8 36 6 z11) 36 6) ∧ (((((mu m8 36 6 z11) 36 6) = ((-1))) → post 0 (mu m8 36 6 z11) J9 P10) ∧ (¬ (((mu m8 36 6 z11) 36 6) = ((-1))) → Ci X (d + 1) 61 [.ref 8, .int (iz 0), .int (iz 200), .int (iz 0)] (mu m8 36 6 z11) J9 P10 (fun z17 m14 J15 P16 => PP P16 ∧ Zr (z17) ∧ (((¬ z17 = ((-1))) → Cv X (d + 1) 65 [.ref 8] m14 J15 P16 (fun m20 J21 P22 => PP P22 ∧ post 1 m20 J21 P22)) ∧ (¬ (¬ z17 = ((-1))) → post 0 m14 J15 P16)))))))) : Rn X (d + 2) 59 0 [some (.ref 36), some (.int (iz x1)), some (.int (iz x2)), some (.int (iz x3)), some (.ref x4)] [] (SS m J P) (QI post) := by
  refine s_aload_n (pc := 0) rfl rfl ?_
  refine s_getA (pc := 1) rfl ko_36 (po_36_0 hp) ?_
  refine s_iload_n (pc := 4) rfl rfl ?_
  refine s_aload_n (pc := 5) rfl rfl ?_
  refine s_getA (pc := 6) rfl ko_36 (po_36_0 hp) ?_
  refine s_getI (pc := 9) rfl (by decide +kernel) ?_
  refine s_aload (pc := 12) rfl rfl ?_
  refine s_getA (pc := 14) rfl kx4 (pc_10_3 hp kx4) ?_
  refine s_iload_n (pc := 17) rfl rfl ?_
  obtain ⟨hb1, hw⟩ := hw
  refine s_aald (pc := 18) rfl (kc_10_3 kx4) (by decide) hb1 (pr hp kx4 hb1) ?_
  refine s_getI (pc := 19) rfl (kr kx4 hb1) ?_
  refine s_iadd (pc := 22) rfl ?_
  refine s_cv (pc := 23) (d := (d + 1)) (t := []) rfl rfl (am_ca_v (ps := [.int (iz ((m 8 2) + (m (x4 + 5 + 6 * x3.toNat) 5))), .int (iz x2)]) rfl (by decide +kernel)) (Nat.le_of_ble_eq_true rfl) (Cv.weak hw fun m2 J3 P4 hw => ?_)
  obtain ⟨hp6, hw⟩ := hw
  refine s_aload_n (pc := 26) rfl rfl ?_
  refine s_aload_n (pc := 27) rfl rfl ?_
  refine s_getA (pc := 28) rfl ko_36 (po_36_0 hp6) ?_
  refine s_aload (pc := 31) rfl rfl ?_
  refine s_getA (pc := 33) rfl kx4 (pc_10_3 hp6 kx4) ?_
  refine s_iload_n (pc := 36) rfl rfl ?_
  obtain ⟨hb7, hw⟩ := hw
  refine s_aald (pc := 37) rfl (kc_10_3 kx4) (by decide) hb7 (pr hp6 kx4 hb7) ?_
  refine s_getI (pc := 38) rfl (kr kx4 hb7) ?_
  refine s_sipush (pc := 41) rfl (by decide) ?_
  refine s_iconst (pc := 44) rfl ?_
  refine s_ci (pc := 45) (d := (d + 1)) (t := [.ref 36]) rfl rfl (am_ca_v (ps := [.int (iz 0), .int (iz 200), .int (iz (m2 (x4 + 5 + 6 * x1.toNat) 5))]) rfl (by decide +kernel)) (Nat.le_of_ble_eq_true rfl) (Ci.weak hw fun z11 m8 J9 P10 hw => ?_)
  obtain ⟨hp12, hw⟩ := hw
  refine s_putI (pc := 48) rfl ko_36 ?_
  refine s_aload_n (pc := 51) rfl rfl ?_
  refine s_getI (pc := 52) rfl ko_36 ?_
  refine s_iconst (pc := 55) rfl ?_
  obtain ⟨hz13, hw⟩ := hw
  refine s_ic_eq (pc := 56) (tgt := 75) rfl rfl hz13 (by decide) (fun hc => ?_) (fun hc => ?_)
  · replace hw := hw.1 hc
    refine s_iconst (pc := 75) rfl ?_
    exact s_retz (pc := 76) rfl rfl (by decide) hw
  · replace hw := hw.2 hc
    refine s_aload_n (pc := 59) rfl rfl ?_
    refine s_getA (pc := 60) rfl ko_36 (po_36_0 hp12) ?_
    refine s_iconst (pc := 63) rfl ?_
    refine s_sipush (pc := 64) rfl (by decide) ?_
    refine s_iconst (pc := 67) rfl ?_
    refine s_ci (pc := 68) (d := (d + 1)) (t := []) rfl rfl (am_ca_v (ps := [.int (iz 0), .int (iz 200), .int (iz 0)]) rfl (by decide +kernel)) (Nat.le_of_ble_eq_true rfl) (Ci.weak hw fun z17 m14 J15 P16 hw => ?_)
    obtain ⟨hp18, hw⟩ := hw
    refine s_iconst (pc := 71) rfl ?_
    obtain ⟨hz19, hw⟩ := hw
    refine s_ic_ne (pc := 72) (tgt := 77) rfl rfl hz19 (by decide) (fun hc => ?_) (fun hc => ?_)
    · replace hw := hw.1 hc
      refine s_aload_n (pc := 77) rfl rfl ?_
      refine s_getA (pc := 78) rfl ko_36 (po_36_0 hp18) ?_
      refine s_cv (pc := 81) (d := (d + 1)) (t := []) rfl rfl (am_ca_v (ps := []) rfl (by decide +kernel)) (Nat.le_of_ble_eq_true rfl) (Cv.weak hw fun m20 J21 P22 hw => ?_)
      obtain ⟨hp24, hw⟩ := hw
      refine s_iconst (pc := 84) rfl ?_
      exact s_retz (pc := 85) rfl rfl (by decide) hw
    · replace hw := hw.2 hc
      refine s_iconst (pc := 75) rfl ?_
      exact s_retz (pc := 76) rfl rfl (by decide) hw

set_option maxRecDepth 20000 in
set_option maxHeartbeats 4000000 in
theorem b_Bench_begin_0 {X : aX} {d : Nat} (x0 : Nat) (x1 : Int) (x2 : Int) (kx0 : am_kd an_K x0 = some (.inl 4)) (m : Mi) (J : Mj) (P : Mp) (hp : PP P) (post : Mi → Mj → Mp → Prop)
    (hw : post (mu (mu (mu m x0 12 0) x0 13 x1) x0 14 x2) J P) : Rn X d 60 0 [some (.ref x0), some (.int (iz x1)), some (.int (iz x2))] [] (SS m J P) (QV post) := by
  refine s_aload_n (pc := 0) rfl rfl ?_
  refine s_iconst (pc := 1) rfl ?_
  refine s_putI (pc := 2) rfl kx0 ?_
  refine s_aload_n (pc := 5) rfl rfl ?_
  refine s_iload_n (pc := 6) rfl rfl ?_
  refine s_putI (pc := 7) rfl kx0 ?_
  refine s_aload_n (pc := 10) rfl rfl ?_
  refine s_iload_n (pc := 11) rfl rfl ?_
  refine s_putI (pc := 12) rfl kx0 ?_
  exact s_retv (pc := 15) rfl rfl hw

set_option maxRecDepth 20000 in
set_option maxHeartbeats 4000000 in
theorem b_Bench_put_0 {X : aX} {d : Nat} (x0 : Nat) (x1 : Int) (x2 : Int) (x3 : Int) (kx0 : am_kd an_K x0 = some (.inl 4)) (m : Mi) (J : Mj) (P : Mp) (hp : PP P) (post : Int → Mi → Mj → Mp → Prop)
    (hw : ((0 : Int) ≤ 0 ∧ (0 : Int) < 2048) ∧ Rn X (d + 1) 61 19 [some (.ref x0), some (.int (iz x1)), some (.int (iz x2)), some (.int (iz x3)), some (.int (iz (m x0 12))), some (.int (iz 1)), some (.int (iz 0)), none, none, none] [] (SS (mu m (x0 + 7) (0 : Int).toNat x1) J P) (QI post)) : Rn X (d + 1) 61 0 [some (.ref x0), some (.int (iz x1)), some (.int (iz x2)), some (.int (iz x3)), none, none, none, none, none, none] [] (SS m J P) (QI post) := by
  refine s_aload_n (pc := 0) rfl rfl ?_
  refine s_getI (pc := 1) rfl kx0 ?_
  refine s_istore (pc := 4) (L' := [some (.ref x0), some (.int (iz x1)), some (.int (iz x2)), some (.int (iz x3)), some (.int (iz (m x0 12))), none, none, none, none, none]) rfl (Nat.le_of_ble_eq_true rfl) rfl ?_
  refine s_aload_n (pc := 6) rfl rfl ?_
  refine s_getA (pc := 7) rfl kx0 (pc_4_9 hp kx0) ?_
  refine s_iconst (pc := 10) rfl ?_
  refine s_iload_n (pc := 11) rfl rfl ?_
  obtain ⟨hb1, hw⟩ := hw
  refine s_iast (pc := 12) rfl (kc_4_9 kx0) (by decide) hb1 ?_
  refine s_iconst (pc := 13) rfl ?_
  refine s_istore (pc := 14) (L' := [some (.ref x0), some (.int (iz x1)), some (.int (iz x2)), some (.int (iz x3)), some (.int (iz (m x0 12))), some (.int (iz 1)), none, none, none, none]) rfl (Nat.le_of_ble_eq_true rfl) rfl ?_
  refine s_iconst (pc := 16) rfl ?_
  refine s_istore (pc := 17) (L' := [some (.ref x0), some (.int (iz x1)), some (.int (iz x2)), some (.int (iz x3)), some (.int (iz (m x0 12))), some (.int (iz 1)), some (.int (iz 0)), none, none, none]) rfl (Nat.le_of_ble_eq_true rfl) rfl ?_
  exact hw

set_option maxRecDepth 20000 in
set_option maxHeartbeats 4000000 in
theorem b_Bench_put_19 {X : aX} {d : Nat} (x0 : Nat) (x1 : Int) (x2 : Int) (x3 : Int) (x4 : Int) (x5 : Int) (x6 : Int) (kx0 : am_kd an_K x0 = some (.inl 4)) (m : Mi) (J : Mj) (P : Mp) (hp : PP P) (post : Int → Mi → Mj → Mp → Prop)
    (hw : Zr (x6) ∧ (((1000000 ≤ x6) → post ((m x0 12) - x4) m J P) ∧ (¬ (1000000 ≤ x6) → Zr (x5) ∧ (((x5 ≤ 0) → post ((m x0 12) - x4) m J P) ∧ (¬ (x5 ≤ 0) → ((0 : Int) ≤ (x5 + (-1)) ∧ ((x5 + (-1)) : Int) < 2048) ∧ Zr (m (x0 + 7) (x5 + (-1)).toNat) ∧ (((0 ≤ (m (x0 + 7) (x5 + (-1)).toNat)) → Zr (m (x0 + 7) (x5 + (-1)).toNat) ∧ Zr (m x0 13) ∧ (((¬ (m (x0 + 7) (x5 + (-1)).toNat) = (m x0 13)) → Rn X (d + 1) 61 84 [some (.ref x0), some (.int (iz x1)), some (.int (iz x2)), some (.int (iz x3)), some (.int (iz x4)), some (.int (iz (x5 + (-1)))), some (.int (iz x6)), some (.int (iz (m (x0 + 7) (x5 + (-1)).toNat))), some (.int (iz 0)), none] [] (SS m J P) (QI post)) ∧ (¬ (¬ (m (x0 + 7) (x5 + (-1)).toNat) = (m x0 13)) → Rn X (d + 1) 61 84 [some (.ref x0), some (.int (iz x1)), some (.int (iz x2)), some (.int (iz x3)), some (.int (iz x4)), some (.int (iz (x5 + (-1)))), some (.int (iz x6)), some (.int (iz (m x0 14))), some (.int (iz 0)), none] [] (SS m J P) (QI post)))) ∧ (¬ (0 ≤ (m (x0 + 7) (x5 + (-1)).toNat)) → Rn X (d + 1) 61 84 [some (.ref x0), some (.int (iz x1)), some (.int (iz x2)), some (.int (iz x3)), some (.int (iz x4)), some (.int (iz (x5 + (-1)))), some (.int (iz x6)), some (.int (iz (zxor (m (x0 + 7) (x5 + (-1)).toNat) ((-1))))), some (.int (iz 1)), none] [] (SS m J P) (QI post)))))))) : Rn X (d + 1) 61 19 [some (.ref x0), some (.int (iz x1)), some (.int (iz x2)), some (.int (iz x3)), some (.int (iz x4)), some (.int (iz x5)), some (.int (iz x6)), none, none, none] [] (SS m J P) (QI post) := by
  refine s_iload (pc := 19) rfl rfl ?_
  refine s_ldc (pc := 21) rfl ?_
  obtain ⟨hz1, hw⟩ := hw
  refine s_ic_ge (pc := 23) (tgt := 186) rfl rfl hz1 (by decide) (fun hc => ?_) (fun hc => ?_)
  · replace hw := hw.1 hc
    refine s_aload_n (pc := 186) rfl rfl ?_
    refine s_getI (pc := 187) rfl kx0 ?_
    refine s_iload (pc := 190) rfl rfl ?_
    refine s_isub (pc := 192) rfl ?_
    exact s_reti (pc := 193) rfl rfl hw
  · replace hw := hw.2 hc
    refine s_iload (pc := 26) rfl rfl ?_
    obtain ⟨hz2, hw⟩ := hw
    refine s_if_le (pc := 28) (tgt := 186) rfl rfl hz2 (fun hc => ?_) (fun hc => ?_)
    · replace hw := hw.1 hc
      refine s_aload_n (pc := 186) rfl rfl ?_
      refine s_getI (pc := 187) rfl kx0 ?_
      refine s_iload (pc := 190) rfl rfl ?_
      refine s_isub (pc := 192) rfl ?_
      exact s_reti (pc := 193) rfl rfl hw
    · replace hw := hw.2 hc
      refine s_iinc (pc := 31) (L' := [some (.ref x0), some (.int (iz x1)), some (.int (iz x2)), some (.int (iz x3)), some (.int (iz x4)), some (.int (iz (x5 + (-1)))), some (.int (iz x6)), none, none, none]) rfl rfl (Nat.le_of_ble_eq_true rfl) rfl ?_
      refine s_aload_n (pc := 34) rfl rfl ?_
      refine s_getA (pc := 35) rfl kx0 (pc_4_9 hp kx0) ?_
      refine s_iload (pc := 38) rfl rfl ?_
      obtain ⟨hb3, hw⟩ := hw
      refine s_iald (pc := 40) rfl (kc_4_9 kx0) (by decide) hb3 ?_
      refine s_istore (pc := 41) (L' := [some (.ref x0), some (.int (iz x1)), some (.int (iz x2)), some (.int (iz x3)), some (.int (iz x4)), some (.int (iz (x5 + (-1)))), some (.int (iz x6)), some (.int (iz (m (x0 + 7) (x5 + (-1)).toNat))), none, none]) rfl (Nat.le_of_ble_eq_true rfl) rfl ?_
      refine s_iload (pc := 43) rfl rfl ?_
      obtain ⟨hz4, hw⟩ := hw
      refine s_if_ge (pc := 45) (tgt := 52) rfl rfl hz4 (fun hc => ?_) (fun hc => ?_)
      · replace hw := hw.1 hc
        refine s_iconst (pc := 52) rfl ?_
        refine s_istore (pc := 53) (L' := [some (.ref x0), some (.int (iz x1)), some (.int (iz x2)), some (.int (iz x3)), some (.int (iz x4)), some (.int (iz (x5 + (-1)))), some (.int (iz x6)), some (.int (iz (m (x0 + 7) (x5 + (-1)).toNat))), some (.int (iz 0)), none]) rfl (Nat.le_of_ble_eq_true rfl) rfl ?_
        refine s_iload (pc := 55) rfl rfl ?_
        refine s_if_eq (pc := 57) (tgt := 69) rfl rfl (by decide) (fun hc => ?_) (fun hc => ?_)
        rotate_left
        · exact absurd hc (by decide)
        refine s_iload (pc := 69) rfl rfl ?_
        refine s_aload_n (pc := 71) rfl rfl ?_
        refine s_getI (pc := 72) rfl kx0 ?_
        obtain ⟨hz5, hw⟩ := hw
        obtain ⟨hz6, hw⟩ := hw
        refine s_ic_ne (pc := 75) (tgt := 84) rfl rfl hz5 hz6 (fun hc => ?_) (fun hc => ?_)
        · replace hw := hw.1 hc
          exact hw
        · replace hw := hw.2 hc
          refine s_aload_n (pc := 78) rfl rfl ?_
          refine s_getI (pc := 79) rfl kx0 ?_
          refine s_istore (pc := 82) (L' := [some (.ref x0), some (.int (iz x1)), some (.int (iz x2)), some (.int (iz x3)), some (.int (iz x4)), some (.int (iz (x5 + (-1)))), some (.int (iz x6)), some (.int (iz (m x0 14))), some (.int (iz 0)), none]) rfl (Nat.le_of_ble_eq_true rfl) rfl ?_
          exact hw
      · replace hw := hw.2 hc
        refine s_iconst (pc := 48) rfl ?_
        refine s_goto (pc := 49) (tgt := 53) rfl rfl ?_
        refine s_istore (pc := 53) (L' := [some (.ref x0), some (.int (iz x1)), some (.int (iz x2)), some (.int (iz x3)), some (.int (iz x4)), some (.int (iz (x5 + (-1)))), some (.int (iz x6)), some (.int (iz (m (x0 + 7) (x5 + (-1)).toNat))), some (.int (iz 1)), none]) rfl (Nat.le_of_ble_eq_true rfl) rfl ?_
        refine s_iload (pc := 55) rfl rfl ?_
        refine s_if_eq (pc := 57) (tgt := 69) rfl rfl (by decide) (fun hc => ?_) (fun hc => ?_)
        · exact absurd hc (by decide)
        refine s_iload (pc := 60) rfl rfl ?_
        refine s_iconst (pc := 62) rfl ?_
        refine s_ixor (pc := 63) rfl ?_
        refine s_istore (pc := 64) (L' := [some (.ref x0), some (.int (iz x1)), some (.int (iz x2)), some (.int (iz x3)), some (.int (iz x4)), some (.int (iz (x5 + (-1)))), some (.int (iz x6)), some (.int (iz (zxor (m (x0 + 7) (x5 + (-1)).toNat) ((-1))))), some (.int (iz 1)), none]) rfl (Nat.le_of_ble_eq_true rfl) rfl ?_
        refine s_goto (pc := 66) (tgt := 84) rfl rfl ?_
        exact hw

set_option maxRecDepth 20000 in
set_option maxHeartbeats 4000000 in
theorem b_Bench_put_84 {X : aX} {d : Nat} (x0 : Nat) (x1 : Int) (x2 : Int) (x3 : Int) (x4 : Int) (x5 : Int) (x6 : Int) (x7 : Int) (x8 : Int) (kx0 : am_kd an_K x0 = some (.inl 4)) (m : Mi) (J : Mj) (P : Mp) (hp : PP P) (post : Int → Mi → Mj → Mp → Prop)
    (hw : Zr ((m x0 12) - x4) ∧ Zr (x2) ∧ (((((m x0 12) - x4) < x2) → ((0 : Int) ≤ x7 ∧ (x7 : Int) < 880) ∧ Zr (m (x0 + 1) x7.toNat) ∧ (((0 ≤ (m (x0 + 1) x7.toNat)) → ((0 : Int) ≤ x7 ∧ (x7 : Int) < 880) ∧ Ci X d 63 [.int (iz (m (x0 + 1) x7.toNat)), .int (iz x8), .int (iz x3)] m J P (fun z9 m6 J7 P8 => PP P8 ∧ Cv X d 62 [.ref x0, .int (iz z9)] m6 J7 P8 (fun m11 J12 P13 => PP P13 ∧ Ci X d 64 [.ref x0, .int (iz x7), .int (iz x8), .int (iz x5)] m11 J12 P13 (fun z19 m16 J17 P18 => PP P18 ∧ Rn X (d + 1) 61 19 [some (.ref x0), some (.int (iz x1)), some (.int (iz x2)), some (.int (iz x3)), some (.int (iz x4)), some (.int (iz z19)), some (.int (iz (x6 + 1))), none, none, none] [] (SS m16 J17 P18) (QI post))))) ∧ (¬ (0 ≤ (m (x0 + 1) x7.toNat)) → Ci X d 54 [.ref x0, .int (iz x7)] m J P (fun z24 m21 J22 P23 => PP P23 ∧ ((0 : Int) ≤ z24 ∧ (z24 : Int) < 1688) ∧ Zr (m21 (x0 + 4) z24.toNat) ∧ (((¬ (m21 (x0 + 4) z24.toNat) = ((-1))) → ((0 : Int) ≤ z24 ∧ (z24 : Int) < 1688) ∧ ((0 : Int) ≤ (m21 (x0 + 4) z24.toNat) ∧ ((m21 (x0 + 4) z24.toNat) : Int) < 880) ∧ Ci X d 63 [.int (iz (m21 (x0 + 1) (m21 (x0 + 4) z24.toNat).toNat)), .int (iz 1), .int (iz x3)] m21 J22 P23 (fun z33 m30 J31 P32 => PP P32 ∧ Cv X d 62 [.ref x0, .int (iz z33)] m30 J31 P32 (fun m35 J36 P37 => PP P37 ∧ Ci X d 64 [.ref x0, .int (iz (m21 (x0 + 4) z24.toNat)), .int (iz 1), .int (iz x5)] m35 J36 P37 (fun z43 m40 J41 P42 => PP P42 ∧ Rn X (d + 1) 61 19 [some (.ref x0), some (.int (iz x1)), some (.int (iz x2)), some (.int (iz x3)), some (.int (iz x4)), some (.int (iz z43)), some (.int (iz (x6 + 1))), none, none, none] [] (SS m40 J41 P42) (QI post))))) ∧ (¬ (¬ (m21 (x0 + 4) z24.toNat) = ((-1))) → Cv X d 62 [.ref x0, .int (iz (879 - z24))] m21 J22 P23 (fun m45 J46 P47 => PP P47 ∧ Rn X (d + 1) 61 19 [some (.ref x0), some (.int (iz x1)), some (.int (iz x2)), some (.int (iz x3)), some (.int (iz x4)), some (.int (iz x5)), some (.int (iz (x6 + 1))), none, none, none] [] (SS m45 J46 P47) (QI post)))))))) ∧ (¬ (((m x0 12) - x4) < x2) → post ((-1)) m J P))) : Rn X (d + 1) 61 84 [some (.ref x0), some (.int (iz x1)), some (.int (iz x2)), some (.int (iz x3)), some (.int (iz x4)), some (.int (iz x5)), some (.int (iz x6)), some (.int (iz x7)), some (.int (iz x8)), none] [] (SS m J P) (QI post) := by
  refine s_aload_n (pc := 84) rfl rfl ?_
  refine s_getI (pc := 85) rfl kx0 ?_
  refine s_iload (pc := 88) rfl rfl ?_
  refine s_isub (pc := 90) rfl ?_
  refine s_iload_n (pc := 91) rfl rfl ?_
  obtain ⟨hz1, hw⟩ := hw
  obtain ⟨hz2, hw⟩ := hw
  refine s_ic_lt (pc := 92) (tgt := 97) rfl rfl hz1 hz2 (fun hc => ?_) (fun hc => ?_)
  · replace hw := hw.1 hc
    refine s_aload_n (pc := 97) rfl rfl ?_
    refine s_getA (pc := 98) rfl kx0 (pc_4_0 hp kx0) ?_
    refine s_iload (pc := 101) rfl rfl ?_
    obtain ⟨hb3, hw⟩ := hw
    refine s_iald (pc := 103) rfl (kc_4_0 kx0) (by decide) hb3 ?_
    obtain ⟨hz4, hw⟩ := hw
    refine s_if_ge (pc := 104) (tgt := 151) rfl rfl hz4 (fun hc => ?_) (fun hc => ?_)
    · replace hw := hw.1 hc
      refine s_aload_n (pc := 151) rfl rfl ?_
      refine s_aload_n (pc := 152) rfl rfl ?_
      refine s_getA (pc := 153) rfl kx0 (pc_4_0 hp kx0) ?_
      refine s_iload (pc := 156) rfl rfl ?_
      obtain ⟨hb5, hw⟩ := hw
      refine s_iald (pc := 158) rfl (kc_4_0 kx0) (by decide) hb5 ?_
      refine s_iload (pc := 159) rfl rfl ?_
      refine s_iload_n (pc := 161) rfl rfl ?_
      refine s_ci (pc := 162) (d := d) (t := [.ref x0]) rfl rfl (am_ca_s (ps := [.int (iz x3), .int (iz x8), .int (iz (m (x0 + 1) x7.toNat))]) rfl) (Nat.le_of_ble_eq_true rfl) (Ci.weak hw fun z9 m6 J7 P8 hw => ?_)
      obtain ⟨hp10, hw⟩ := hw
      refine s_cv (pc := 165) (d := d) (t := []) rfl rfl (am_ca_v (ps := [.int (iz z9)]) rfl kx0) (Nat.le_of_ble_eq_true rfl) (Cv.weak hw fun m11 J12 P13 hw => ?_)
      obtain ⟨hp15, hw⟩ := hw
      refine s_aload_n (pc := 168) rfl rfl ?_
      refine s_iload (pc := 169) rfl rfl ?_
      refine s_iload (pc := 171) rfl rfl ?_
      refine s_iload (pc := 173) rfl rfl ?_
      refine s_ci (pc := 175) (d := d) (t := []) rfl rfl (am_ca_v (ps := [.int (iz x5), .int (iz x8), .int (iz x7)]) rfl kx0) (Nat.le_of_ble_eq_true rfl) (Ci.weak hw fun z19 m16 J17 P18 hw => ?_)
      obtain ⟨hp20, hw⟩ := hw
      refine s_istore (pc := 178) (L' := [some (.ref x0), some (.int (iz x1)), some (.int (iz x2)), some (.int (iz x3)), some (.int (iz x4)), some (.int (iz z19)), some (.int (iz x6)), some (.int (iz x7)), some (.int (iz x8)), none]) rfl (Nat.le_of_ble_eq_true rfl) rfl ?_
      refine s_iinc (pc := 180) (L' := [some (.ref x0), some (.int (iz x1)), some (.int (iz x2)), some (.int (iz x3)), some (.int (iz x4)), some (.int (iz z19)), some (.int (iz (x6 + 1))), some (.int (iz x7)), some (.int (iz x8)), none]) rfl rfl (Nat.le_of_ble_eq_true rfl) rfl ?_
      refine s_goto (pc := 183) (tgt := 19) rfl rfl ?_
      exact Rn.weakL hw (LLe.keep _ (LLe.keep _ (LLe.keep _ (LLe.keep _ (LLe.keep _ (LLe.keep _ (LLe.keep _ (LLe.drop _ (LLe.drop _ (LLe.keep _ (LLe.nil)))))))))))
    · replace hw := hw.2 hc
      refine s_aload_n (pc := 107) rfl rfl ?_
      refine s_iload (pc := 108) rfl rfl ?_
      refine s_ci (pc := 110) (d := d) (t := []) rfl rfl (am_ca_v (ps := [.int (iz x7)]) rfl kx0) (Nat.le_of_ble_eq_true rfl) (Ci.weak hw fun z24 m21 J22 P23 hw => ?_)
      obtain ⟨hp25, hw⟩ := hw
      refine s_istore (pc := 113) (L' := [some (.ref x0), some (.int (iz x1)), some (.int (iz x2)), some (.int (iz x3)), some (.int (iz x4)), some (.int (iz x5)), some (.int (iz x6)), some (.int (iz x7)), some (.int (iz x8)), some (.int (iz z24))]) rfl (Nat.le_of_ble_eq_true rfl) rfl ?_
      refine s_aload_n (pc := 115) rfl rfl ?_
      refine s_getA (pc := 116) rfl kx0 (pc_4_5 hp25 kx0) ?_
      refine s_iload (pc := 119) rfl rfl ?_
      obtain ⟨hb26, hw⟩ := hw
      refine s_iald (pc := 121) rfl (kc_4_5 kx0) (by decide) hb26 ?_
      refine s_iconst (pc := 122) rfl ?_
      obtain ⟨hz27, hw⟩ := hw
      refine s_ic_ne (pc := 123) (tgt := 139) rfl rfl hz27 (by decide) (fun hc => ?_) (fun hc => ?_)
      · replace hw := hw.1 hc
        refine s_aload_n (pc := 139) rfl rfl ?_
        refine s_getA (pc := 140) rfl kx0 (pc_4_5 hp25 kx0) ?_
        refine s_iload (pc := 143) rfl rfl ?_
        obtain ⟨hb28, hw⟩ := hw
        refine s_iald (pc := 145) rfl (kc_4_5 kx0) (by decide) hb28 ?_
        refine s_istore (pc := 146) (L' := [some (.ref x0), some (.int (iz x1)), some (.int (iz x2)), some (.int (iz x3)), some (.int (iz x4)), some (.int (iz x5)), some (.int (iz x6)), some (.int (iz (m21 (x0 + 4) z24.toNat))), some (.int (iz x8)), some (.int (iz z24))]) rfl (Nat.le_of_ble_eq_true rfl) rfl ?_
        refine s_iconst (pc := 148) rfl ?_
        refine s_istore (pc := 149) (L' := [some (.ref x0), some (.int (iz x1)), some (.int (iz x2)), some (.int (iz x3)), some (.int (iz x4)), some (.int (iz x5)), some (.int (iz x6)), some (.int (iz (m21 (x0 + 4) z24.toNat))), some (.int (iz 1)), some (.int (iz z24))]) rfl (Nat.le_of_ble_eq_true rfl) rfl ?_
        refine s_aload_n (pc := 151) rfl rfl ?_
        refine s_aload_n (pc := 152) rfl rfl ?_
        refine s_getA (pc := 153) rfl kx0 (pc_4_0 hp25 kx0) ?_
        refine s_iload (pc := 156) rfl rfl ?_
        obtain ⟨hb29, hw⟩ := hw
        refine s_iald (pc := 158) rfl (kc_4_0 kx0) (by decide) hb29 ?_
        refine s_iload (pc := 159) rfl rfl ?_
        refine s_iload_n (pc := 161) rfl rfl ?_
        refine s_ci (pc := 162) (d := d) (t := [.ref x0]) rfl rfl (am_ca_s (ps := [.int (iz x3), .int (iz 1), .int (iz (m21 (x0 + 1) (m21 (x0 + 4) z24.toNat).toNat))]) rfl) (Nat.le_of_ble_eq_true rfl) (Ci.weak hw fun z33 m30 J31 P32 hw => ?_)
        obtain ⟨hp34, hw⟩ := hw
        refine s_cv (pc := 165) (d := d) (t := []) rfl rfl (am_ca_v (ps := [.int (iz z33)]) rfl kx0) (Nat.le_of_ble_eq_true rfl) (Cv.weak hw fun m35 J36 P37 hw => ?_)
        obtain ⟨hp39, hw⟩ := hw
        refine s_aload_n (pc := 168) rfl rfl ?_
        refine s_iload (pc := 169) rfl rfl ?_
        refine s_iload (pc := 171) rfl rfl ?_
        refine s_iload (pc := 173) rfl rfl ?_
        refine s_ci (pc := 175) (d := d) (t := []) rfl rfl (am_ca_v (ps := [.int (iz x5), .int (iz 1), .int (iz (m21 (x0 + 4) z24.toNat))]) rfl kx0) (Nat.le_of_ble_eq_true rfl) (Ci.weak hw fun z43 m40 J41 P42 hw => ?_)
        obtain ⟨hp44, hw⟩ := hw
        refine s_istore (pc := 178) (L' := [some (.ref x0), some (.int (iz x1)), some (.int (iz x2)), some (.int (iz x3)), some (.int (iz x4)), some (.int (iz z43)), some (.int (iz x6)), some (.int (iz (m21 (x0 + 4) z24.toNat))), some (.int (iz 1)), some (.int (iz z24))]) rfl (Nat.le_of_ble_eq_true rfl) rfl ?_
        refine s_iinc (pc := 180) (L' := [some (.ref x0), some (.int (iz x1)), some (.int (iz x2)), some (.int (iz x3)), some (.int (iz x4)), some (.int (iz z43)), some (.int (iz (x6 + 1))), some (.int (iz (m21 (x0 + 4) z24.toNat))), some (.int (iz 1)), some (.int (iz z24))]) rfl rfl (Nat.le_of_ble_eq_true rfl) rfl ?_
        refine s_goto (pc := 183) (tgt := 19) rfl rfl ?_
        exact Rn.weakL hw (LLe.keep _ (LLe.keep _ (LLe.keep _ (LLe.keep _ (LLe.keep _ (LLe.keep _ (LLe.keep _ (LLe.drop _ (LLe.drop _ (LLe.drop _ (LLe.nil)))))))))))
      · replace hw := hw.2 hc
        refine s_aload_n (pc := 126) rfl rfl ?_
        refine s_sipush (pc := 127) rfl (by decide) ?_
        refine s_iload (pc := 130) rfl rfl ?_
        refine s_isub (pc := 132) rfl ?_
        refine s_cv (pc := 133) (d := d) (t := []) rfl rfl (am_ca_v (ps := [.int (iz (879 - z24))]) rfl kx0) (Nat.le_of_ble_eq_true rfl) (Cv.weak hw fun m45 J46 P47 hw => ?_)
        obtain ⟨hp49, hw⟩ := hw
        refine s_goto (pc := 136) (tgt := 180) rfl rfl ?_
        refine s_iinc (pc := 180) (L' := [some (.ref x0), some (.int (iz x1)), some (.int (iz x2)), some (.int (iz x3)), some (.int (iz x4)), some (.int (iz x5)), some (.int (iz (x6 + 1))), some (.int (iz x7)), some (.int (iz x8)), some (.int (iz z24))]) rfl rfl (Nat.le_of_ble_eq_true rfl) rfl ?_
        refine s_goto (pc := 183) (tgt := 19) rfl rfl ?_
        exact Rn.weakL hw (LLe.keep _ (LLe.keep _ (LLe.keep _ (LLe.keep _ (LLe.keep _ (LLe.keep _ (LLe.keep _ (LLe.drop _ (LLe.drop _ (LLe.drop _ (LLe.nil)))))))))))
  · replace hw := hw.2 hc
    refine s_iconst (pc := 95) rfl ?_
    exact s_reti (pc := 96) rfl rfl hw

set_option maxRecDepth 20000 in
set_option maxHeartbeats 4000000 in
theorem b_Bench_write_0 {X : aX} {d : Nat} (x0 : Nat) (x1 : Int) (kx0 : am_kd an_K x0 = some (.inl 4)) (m : Mi) (J : Mj) (P : Mp) (hp : PP P) (post : Mi → Mj → Mp → Prop)
    (hw : Zr (m x0 12) ∧ ((((m x0 12) < 800) → ((0 : Int) ≤ (m x0 12) ∧ ((m x0 12) : Int) < 800) ∧ post (mu (mu m (x0 + 8) (m x0 12).toNat x1) x0 12 (((mu m (x0 + 8) (m x0 12).toNat x1) x0 12) + 1)) J P) ∧ (¬ ((m x0 12) < 800) → post m J P))) : Rn X d 62 0 [some (.ref x0), some (.int (iz x1))] [] (SS m J P) (QV post) := by
  refine s_aload_n (pc := 0) rfl rfl ?_
  refine s_getI (pc := 1) rfl kx0 ?_
  refine s_aload_n (pc := 4) rfl rfl ?_
  refine s_getA (pc := 5) rfl kx0 (pc_4_10 hp kx0) ?_
  refine s_alen (pc := 8) rfl (kc_4_10 kx0) (by decide) ?_
  obtain ⟨hz1, hw⟩ := hw
  refine s_ic_lt (pc := 9) (tgt := 13) rfl rfl hz1 (by decide) (fun hc => ?_) (fun hc => ?_)
  · replace hw := hw.1 hc
    refine s_aload_n (pc := 13) rfl rfl ?_
    refine s_getA (pc := 14) rfl kx0 (pc_4_10 hp kx0) ?_
    refine s_aload_n (pc := 17) rfl rfl ?_
    refine s_getI (pc := 18) rfl kx0 ?_
    refine s_iload_n (pc := 21) rfl rfl ?_
    obtain ⟨hb2, hw⟩ := hw
    refine s_iast (pc := 22) rfl (kc_4_10 kx0) (by decide) hb2 ?_
    refine s_aload_n (pc := 23) rfl rfl ?_
    refine s_dup (pc := 24) rfl rfl ?_
    refine s_getI (pc := 25) rfl kx0 ?_
    refine s_iconst (pc := 28) rfl ?_
    refine s_iadd (pc := 29) rfl ?_
    refine s_putI (pc := 30) rfl kx0 ?_
    exact s_retv (pc := 33) rfl rfl hw
  · replace hw := hw.2 hc
    exact s_retv (pc := 12) rfl rfl hw

set_option maxRecDepth 20000 in
set_option maxHeartbeats 4000000 in
theorem b_Bench_marked_0 {X : aX} {d : Nat} (x0 : Int) (x1 : Int) (x2 : Int)  (m : Mi) (J : Mj) (P : Mp) (hp : PP P) (post : Int → Mi → Mj → Mp → Prop)
    (hw : Zr (x2) ∧ (((¬ x2 = 2) → Zr (x1) ∧ (((¬ x1 = 0) → post (zand x0 31) m J P) ∧ (¬ (¬ x1 = 0) → Zr (x2) ∧ (((¬ x2 = 0) → post x0 m J P) ∧ (¬ (¬ x2 = 0) → post (zand x0 31) m J P))))) ∧ (¬ (¬ x2 = 2) → post (zor x0 32) m J P))) : Rn X d 63 0 [some (.int (iz x0)), some (.int (iz x1)), some (.int (iz x2))] [] (SS m J P) (QI post) := by
  refine s_iload_n (pc := 0) rfl rfl ?_
  refine s_iconst (pc := 1) rfl ?_
  obtain ⟨hz1, hw⟩ := hw
  refine s_ic_ne (pc := 2) (tgt := 10) rfl rfl hz1 (by decide) (fun hc => ?_) (fun hc => ?_)
  · replace hw := hw.1 hc
    refine s_iload_n (pc := 10) rfl rfl ?_
    obtain ⟨hz2, hw⟩ := hw
    refine s_if_ne (pc := 11) (tgt := 18) rfl rfl hz2 (fun hc => ?_) (fun hc => ?_)
    · replace hw := hw.1 hc
      refine s_iload_n (pc := 18) rfl rfl ?_
      refine s_bipush (pc := 19) rfl (by decide) ?_
      refine s_iand (pc := 21) rfl ?_
      refine s_goto (pc := 22) (tgt := 26) rfl rfl ?_
      exact s_reti (pc := 26) rfl rfl hw
    · replace hw := hw.2 hc
      refine s_iload_n (pc := 14) rfl rfl ?_
      obtain ⟨hz3, hw⟩ := hw
      refine s_if_ne (pc := 15) (tgt := 25) rfl rfl hz3 (fun hc => ?_) (fun hc => ?_)
      · replace hw := hw.1 hc
        refine s_iload_n (pc := 25) rfl rfl ?_
        exact s_reti (pc := 26) rfl rfl hw
      · replace hw := hw.2 hc
        refine s_iload_n (pc := 18) rfl rfl ?_
        refine s_bipush (pc := 19) rfl (by decide) ?_
        refine s_iand (pc := 21) rfl ?_
        refine s_goto (pc := 22) (tgt := 26) rfl rfl ?_
        exact s_reti (pc := 26) rfl rfl hw
  · replace hw := hw.2 hc
    refine s_iload_n (pc := 5) rfl rfl ?_
    refine s_bipush (pc := 6) rfl (by decide) ?_
    refine s_ior (pc := 8) rfl ?_
    exact s_reti (pc := 9) rfl rfl hw

set_option maxRecDepth 20000 in
set_option maxHeartbeats 4000000 in
theorem b_Bench_pushParts_0 {X : aX} {d : Nat} (x0 : Nat) (x1 : Int) (x2 : Int) (x3 : Int) (kx0 : am_kd an_K x0 = some (.inl 4)) (m : Mi) (J : Mj) (P : Mp) (hp : PP P) (post : Int → Mi → Mj → Mp → Prop)
    (hw : Rn X d 64 11 [some (.ref x0), some (.int (iz x1)), some (.int (iz x2)), some (.int (iz x3)), some (.int (iz x3)), some (.int (iz (x1 + 1))), some (.int (iz 0)), none, none] [] (SS m J P) (QI post)) : Rn X d 64 0 [some (.ref x0), some (.int (iz x1)), some (.int (iz x2)), some (.int (iz x3)), none, none, none, none, none] [] (SS m J P) (QI post) := by
  refine s_iload_n (pc := 0) rfl rfl ?_
  refine s_istore (pc := 1) (L' := [some (.ref x0), some (.int (iz x1)), some (.int (iz x2)), some (.int (iz x3)), some (.int (iz x3)), none, none, none, none]) rfl (Nat.le_of_ble_eq_true rfl) rfl ?_
  refine s_iload_n (pc := 3) rfl rfl ?_
  refine s_iconst (pc := 4) rfl ?_
  refine s_iadd (pc := 5) rfl ?_
  refine s_istore (pc := 6) (L' := [some (.ref x0), some (.int (iz x1)), some (.int (iz x2)), some (.int (iz x3)), some (.int (iz x3)), some (.int (iz (x1 + 1))), none, none, none]) rfl (Nat.le_of_ble_eq_true rfl) rfl ?_
  refine s_iconst (pc := 8) rfl ?_
  refine s_istore (pc := 9) (L' := [some (.ref x0), some (.int (iz x1)), some (.int (iz x2)), some (.int (iz x3)), some (.int (iz x3)), some (.int (iz (x1 + 1))), some (.int (iz 0)), none, none]) rfl (Nat.le_of_ble_eq_true rfl) rfl ?_
  exact hw

set_option maxRecDepth 20000 in
set_option maxHeartbeats 4000000 in
theorem b_Bench_pushParts_11 {X : aX} {d : Nat} (x0 : Nat) (x1 : Int) (x2 : Int) (x3 : Int) (x4 : Int) (x5 : Int) (x6 : Int) (kx0 : am_kd an_K x0 = some (.inl 4)) (m : Mi) (J : Mj) (P : Mp) (hp : PP P) (post : Int → Mi → Mj → Mp → Prop)
    (hw : Zr (x6) ∧ (((4 ≤ x6) → Rn X d 64 83 [some (.ref x0), some (.int (iz x1)), some (.int (iz x2)), some (.int (iz x3)), some (.int (iz x4)), some (.int (iz x5)), some (.int (iz x3)), some (.int (iz (x4 - 1))), none] [] (SS m J P) (QI post)) ∧ (¬ (4 ≤ x6) → ((0 : Int) ≤ x1 ∧ (x1 : Int) < 880) ∧ Zr (x5) ∧ Zr (m (x0 + 2) x1.toNat) ∧ ((((m (x0 + 2) x1.toNat) ≤ x5) → Rn X d 64 83 [some (.ref x0), some (.int (iz x1)), some (.int (iz x2)), some (.int (iz x3)), some (.int (iz x4)), some (.int (iz x5)), some (.int (iz x3)), some (.int (iz (x4 - 1))), none] [] (SS m J P) (QI post)) ∧ (¬ ((m (x0 + 2) x1.toNat) ≤ x5) → Zr (x4) ∧ (((2048 ≤ x4) → Rn X d 64 83 [some (.ref x0), some (.int (iz x1)), some (.int (iz x2)), some (.int (iz x3)), some (.int (iz x4)), some (.int (iz x5)), some (.int (iz x3)), some (.int (iz (x4 - 1))), none] [] (SS m J P) (QI post)) ∧ (¬ (2048 ≤ x4) → Zr (x2) ∧ (((x2 = 0) → ((0 : Int) ≤ x4 ∧ (x4 : Int) < 2048) ∧ ((0 : Int) ≤ x5 ∧ (x5 : Int) < 880) ∧ Rn X d 64 11 [some (.ref x0), some (.int (iz x1)), some (.int (iz x2)), some (.int (iz x3)), some (.int (iz (x4 + 1))), some (.int (iz ((mu m (x0 + 7) x4.toNat x5) (x0 + 2) x5.toNat))), some (.int (iz (x6 + 1))), none, none] [] (SS (mu m (x0 + 7) x4.toNat x5) J P) (QI post)) ∧ (¬ (x2 = 0) → ((0 : Int) ≤ x4 ∧ (x4 : Int) < 2048) ∧ ((0 : Int) ≤ x5 ∧ (x5 : Int) < 880) ∧ Rn X d 64 11 [some (.ref x0), some (.int (iz x1)), some (.int (iz x2)), some (.int (iz x3)), some (.int (iz (x4 + 1))), some (.int (iz ((mu m (x0 + 7) x4.toNat (zxor x5 ((-1)))) (x0 + 2) x5.toNat))), some (.int (iz (x6 + 1))), none, none] [] (SS (mu m (x0 + 7) x4.toNat (zxor x5 ((-1)))) J P) (QI post)))))))))) : Rn X d 64 11 [some (.ref x0), some (.int (iz x1)), some (.int (iz x2)), some (.int (iz x3)), some (.int (iz x4)), some (.int (iz x5)), some (.int (iz x6)), none, none] [] (SS m J P) (QI post) := by
  refine s_iload (pc := 11) rfl rfl ?_
  refine s_iconst (pc := 13) rfl ?_
  obtain ⟨hz1, hw⟩ := hw
  refine s_ic_ge (pc := 14) (tgt := 74) rfl rfl hz1 (by decide) (fun hc => ?_) (fun hc => ?_)
  · replace hw := hw.1 hc
    refine s_iload_n (pc := 74) rfl rfl ?_
    refine s_istore (pc := 75) (L' := [some (.ref x0), some (.int (iz x1)), some (.int (iz x2)), some (.int (iz x3)), some (.int (iz x4)), some (.int (iz x5)), some (.int (iz x3)), none, none]) rfl (Nat.le_of_ble_eq_true rfl) rfl ?_
    refine s_iload (pc := 77) rfl rfl ?_
    refine s_iconst (pc := 79) rfl ?_
    refine s_isub (pc := 80) rfl ?_
    refine s_istore (pc := 81) (L' := [some (.ref x0), some (.int (iz x1)), some (.int (iz x2)), some (.int (iz x3)), some (.int (iz x4)), some (.int (iz x5)), some (.int (iz x3)), some (.int (iz (x4 - 1))), none]) rfl (Nat.le_of_ble_eq_true rfl) rfl ?_
    exact hw
  · replace hw := hw.2 hc
    refine s_iload (pc := 17) rfl rfl ?_
    refine s_aload_n (pc := 19) rfl rfl ?_
    refine s_getA (pc := 20) rfl kx0 (pc_4_1 hp kx0) ?_
    refine s_iload_n (pc := 23) rfl rfl ?_
    obtain ⟨hb2, hw⟩ := hw
    refine s_iald (pc := 24) rfl (kc_4_1 kx0) (by decide) hb2 ?_
    obtain ⟨hz3, hw⟩ := hw
    obtain ⟨hz4, hw⟩ := hw
    refine s_ic_ge (pc := 25) (tgt := 74) rfl rfl hz3 hz4 (fun hc => ?_) (fun hc => ?_)
    · replace hw := hw.1 hc
      refine s_iload_n (pc := 74) rfl rfl ?_
      refine s_istore (pc := 75) (L' := [some (.ref x0), some (.int (iz x1)), some (.int (iz x2)), some (.int (iz x3)), some (.int (iz x4)), some (.int (iz x5)), some (.int (iz x3)), none, none]) rfl (Nat.le_of_ble_eq_true rfl) rfl ?_
      refine s_iload (pc := 77) rfl rfl ?_
      refine s_iconst (pc := 79) rfl ?_
      refine s_isub (pc := 80) rfl ?_
      refine s_istore (pc := 81) (L' := [some (.ref x0), some (.int (iz x1)), some (.int (iz x2)), some (.int (iz x3)), some (.int (iz x4)), some (.int (iz x5)), some (.int (iz x3)), some (.int (iz (x4 - 1))), none]) rfl (Nat.le_of_ble_eq_true rfl) rfl ?_
      exact hw
    · replace hw := hw.2 hc
      refine s_iload (pc := 28) rfl rfl ?_
      refine s_sipush (pc := 30) rfl (by decide) ?_
      obtain ⟨hz5, hw⟩ := hw
      refine s_ic_ge (pc := 33) (tgt := 74) rfl rfl hz5 (by decide) (fun hc => ?_) (fun hc => ?_)
      · replace hw := hw.1 hc
        refine s_iload_n (pc := 74) rfl rfl ?_
        refine s_istore (pc := 75) (L' := [some (.ref x0), some (.int (iz x1)), some (.int (iz x2)), some (.int (iz x3)), some (.int (iz x4)), some (.int (iz x5)), some (.int (iz x3)), none, none]) rfl (Nat.le_of_ble_eq_true rfl) rfl ?_
        refine s_iload (pc := 77) rfl rfl ?_
        refine s_iconst (pc := 79) rfl ?_
        refine s_isub (pc := 80) rfl ?_
        refine s_istore (pc := 81) (L' := [some (.ref x0), some (.int (iz x1)), some (.int (iz x2)), some (.int (iz x3)), some (.int (iz x4)), some (.int (iz x5)), some (.int (iz x3)), some (.int (iz (x4 - 1))), none]) rfl (Nat.le_of_ble_eq_true rfl) rfl ?_
        exact hw
      · replace hw := hw.2 hc
        refine s_aload_n (pc := 36) rfl rfl ?_
        refine s_getA (pc := 37) rfl kx0 (pc_4_9 hp kx0) ?_
        refine s_iload (pc := 40) rfl rfl ?_
        refine s_iload_n (pc := 42) rfl rfl ?_
        obtain ⟨hz6, hw⟩ := hw
        refine s_if_eq (pc := 43) (tgt := 53) rfl rfl hz6 (fun hc => ?_) (fun hc => ?_)
        · replace hw := hw.1 hc
          refine s_iload (pc := 53) rfl rfl ?_
          obtain ⟨hb7, hw⟩ := hw
          refine s_iast (pc := 55) rfl (kc_4_9 kx0) (by decide) hb7 ?_
          refine s_iinc (pc := 56) (L' := [some (.ref x0), some (.int (iz x1)), some (.int (iz x2)), some (.int (iz x3)), some (.int (iz (x4 + 1))), some (.int (iz x5)), some (.int (iz x6)), none, none]) rfl rfl (Nat.le_of_ble_eq_true rfl) rfl ?_
          refine s_aload_n (pc := 59) rfl rfl ?_
          refine s_getA (pc := 60) rfl kx0 (pc_4_1 hp kx0) ?_
          refine s_iload (pc := 63) rfl rfl ?_
          obtain ⟨hb8, hw⟩ := hw
          refine s_iald (pc := 65) rfl (kc_4_1 kx0) (by decide) hb8 ?_
          refine s_istore (pc := 66) (L' := [some (.ref x0), some (.int (iz x1)), some (.int (iz x2)), some (.int (iz x3)), some (.int (iz (x4 + 1))), some (.int (iz ((mu m (x0 + 7) x4.toNat x5) (x0 + 2) x5.toNat))), some (.int (iz x6)), none, none]) rfl (Nat.le_of_ble_eq_true rfl) rfl ?_
          refine s_iinc (pc := 68) (L' := [some (.ref x0), some (.int (iz x1)), some (.int (iz x2)), some (.int (iz x3)), some (.int (iz (x4 + 1))), some (.int (iz ((mu m (x0 + 7) x4.toNat x5) (x0 + 2) x5.toNat))), some (.int (iz (x6 + 1))), none, none]) rfl rfl (Nat.le_of_ble_eq_true rfl) rfl ?_
          refine s_goto (pc := 71) (tgt := 11) rfl rfl ?_
          exact hw
        · replace hw := hw.2 hc
          refine s_iload (pc := 46) rfl rfl ?_
          refine s_iconst (pc := 48) rfl ?_
          refine s_ixor (pc := 49) rfl ?_
          refine s_goto (pc := 50) (tgt := 55) rfl rfl ?_
          obtain ⟨hb9, hw⟩ := hw
          refine s_iast (pc := 55) rfl (kc_4_9 kx0) (by decide) hb9 ?_
          refine s_iinc (pc := 56) (L' := [some (.ref x0), some (.int (iz x1)), some (.int (iz x2)), some (.int (iz x3)), some (.int (iz (x4 + 1))), some (.int (iz x5)), some (.int (iz x6)), none, none]) rfl rfl (Nat.le_of_ble_eq_true rfl) rfl ?_
          refine s_aload_n (pc := 59) rfl rfl ?_
          refine s_getA (pc := 60) rfl kx0 (pc_4_1 hp kx0) ?_
          refine s_iload (pc := 63) rfl rfl ?_
          obtain ⟨hb10, hw⟩ := hw
          refine s_iald (pc := 65) rfl (kc_4_1 kx0) (by decide) hb10 ?_
          refine s_istore (pc := 66) (L' := [some (.ref x0), some (.int (iz x1)), some (.int (iz x2)), some (.int (iz x3)), some (.int (iz (x4 + 1))), some (.int (iz ((mu m (x0 + 7) x4.toNat (zxor x5 ((-1)))) (x0 + 2) x5.toNat))), some (.int (iz x6)), none, none]) rfl (Nat.le_of_ble_eq_true rfl) rfl ?_
          refine s_iinc (pc := 68) (L' := [some (.ref x0), some (.int (iz x1)), some (.int (iz x2)), some (.int (iz x3)), some (.int (iz (x4 + 1))), some (.int (iz ((mu m (x0 + 7) x4.toNat (zxor x5 ((-1)))) (x0 + 2) x5.toNat))), some (.int (iz (x6 + 1))), none, none]) rfl rfl (Nat.le_of_ble_eq_true rfl) rfl ?_
          refine s_goto (pc := 71) (tgt := 11) rfl rfl ?_
          exact hw

set_option maxRecDepth 20000 in
set_option maxHeartbeats 4000000 in
theorem b_Bench_pushParts_83 {X : aX} {d : Nat} (x0 : Nat) (x1 : Int) (x2 : Int) (x3 : Int) (x4 : Int) (x5 : Int) (x6 : Int) (x7 : Int) (kx0 : am_kd an_K x0 = some (.inl 4)) (m : Mi) (J : Mj) (P : Mp) (hp : PP P) (post : Int → Mi → Mj → Mp → Prop)
    (hw : Zr (x6) ∧ Zr (x7) ∧ (((x7 ≤ x6) → post x4 m J P) ∧ (¬ (x7 ≤ x6) → ((0 : Int) ≤ x6 ∧ (x6 : Int) < 2048) ∧ ((0 : Int) ≤ x7 ∧ (x7 : Int) < 2048) ∧ ((0 : Int) ≤ x6 ∧ (x6 : Int) < 2048) ∧ ((0 : Int) ≤ x7 ∧ (x7 : Int) < 2048) ∧ Rn X d 64 83 [some (.ref x0), some (.int (iz x1)), some (.int (iz x2)), some (.int (iz x3)), some (.int (iz x4)), some (.int (iz x5)), some (.int (iz (x6 + 1))), some (.int (iz (x7 + (-1)))), none] [] (SS (mu (mu m (x0 + 7) x6.toNat (m (x0 + 7) x7.toNat)) (x0 + 7) x7.toNat (m (x0 + 7) x6.toNat)) J P) (QI post)))) : Rn X d 64 83 [some (.ref x0), some (.int (iz x1)), some (.int (iz x2)), some (.int (iz x3)), some (.int (iz x4)), some (.int (iz x5)), some (.int (iz x6)), some (.int (iz x7)), none] [] (SS m J P) (QI post) := by
  refine s_iload (pc := 83) rfl rfl ?_
  refine s_iload (pc := 85) rfl rfl ?_
  obtain ⟨hz1, hw⟩ := hw
  obtain ⟨hz2, hw⟩ := hw
  refine s_ic_ge (pc := 87) (tgt := 131) rfl rfl hz1 hz2 (fun hc => ?_) (fun hc => ?_)
  · replace hw := hw.1 hc
    refine s_iload (pc := 131) rfl rfl ?_
    exact s_reti (pc := 133) rfl rfl hw
  · replace hw := hw.2 hc
    refine s_aload_n (pc := 90) rfl rfl ?_
    refine s_getA (pc := 91) rfl kx0 (pc_4_9 hp kx0) ?_
    refine s_iload (pc := 94) rfl rfl ?_
    obtain ⟨hb3, hw⟩ := hw
    refine s_iald (pc := 96) rfl (kc_4_9 kx0) (by decide) hb3 ?_
    refine s_istore (pc := 97) (L' := [some (.ref x0), some (.int (iz x1)), some (.int (iz x2)), some (.int (iz x3)), some (.int (iz x4)), some (.int (iz x5)), some (.int (iz x6)), some (.int (iz x7)), some (.int (iz (m (x0 + 7) x6.toNat)))]) rfl (Nat.le_of_ble_eq_true rfl) rfl ?_
    refine s_aload_n (pc := 99) rfl rfl ?_
    refine s_getA (pc := 100) rfl kx0 (pc_4_9 hp kx0) ?_
    refine s_iload (pc := 103) rfl rfl ?_
    refine s_aload_n (pc := 105) rfl rfl ?_
    refine s_getA (pc := 106) rfl kx0 (pc_4_9 hp kx0) ?_
    refine s_iload (pc := 109) rfl rfl ?_
    obtain ⟨hb4, hw⟩ := hw
    refine s_iald (pc := 111) rfl (kc_4_9 kx0) (by decide) hb4 ?_
    obtain ⟨hb5, hw⟩ := hw
    refine s_iast (pc := 112) rfl (kc_4_9 kx0) (by decide) hb5 ?_
    refine s_aload_n (pc := 113) rfl rfl ?_
    refine s_getA (pc := 114) rfl kx0 (pc_4_9 hp kx0) ?_
    refine s_iload (pc := 117) rfl rfl ?_
    refine s_iload (pc := 119) rfl rfl ?_
    obtain ⟨hb6, hw⟩ := hw
    refine s_iast (pc := 121) rfl (kc_4_9 kx0) (by decide) hb6 ?_
    refine s_iinc (pc := 122) (L' := [some (.ref x0), some (.int (iz x1)), some (.int (iz x2)), some (.int (iz x3)), some (.int (iz x4)), some (.int (iz x5)), some (.int (iz (x6 + 1))), some (.int (iz x7)), some (.int (iz (m (x0 + 7) x6.toNat)))]) rfl rfl (Nat.le_of_ble_eq_true rfl) rfl ?_
    refine s_iinc (pc := 125) (L' := [some (.ref x0), some (.int (iz x1)), some (.int (iz x2)), some (.int (iz x3)), some (.int (iz x4)), some (.int (iz x5)), some (.int (iz (x6 + 1))), some (.int (iz (x7 + (-1)))), some (.int (iz (m (x0 + 7) x6.toNat)))]) rfl rfl (Nat.le_of_ble_eq_true rfl) rfl ?_
    refine s_goto (pc := 128) (tgt := 83) rfl rfl ?_
    exact Rn.weakL hw (LLe.keep _ (LLe.keep _ (LLe.keep _ (LLe.keep _ (LLe.keep _ (LLe.keep _ (LLe.keep _ (LLe.keep _ (LLe.drop _ (LLe.nil))))))))))

set_option maxRecDepth 20000 in
set_option maxHeartbeats 4000000 in
theorem b_Bench_rename_0 {X : aX} {d : Nat} (x0 : Nat) (kx0 : am_kd an_K x0 = some (.inl 4)) (m : Mi) (J : Mj) (P : Mp) (hp : PP P) (post : Mi → Mj → Mp → Prop)
    (hw : Rn X d 65 2 [some (.ref x0), some (.int (iz 0)), none, none] [] (SS m J P) (QV post)) : Rn X d 65 0 [some (.ref x0), none, none, none] [] (SS m J P) (QV post) := by
  refine s_iconst (pc := 0) rfl ?_
  refine s_istore_n (pc := 1) (L' := [some (.ref x0), some (.int (iz 0)), none, none]) rfl (Nat.le_of_ble_eq_true rfl) rfl ?_
  exact hw

set_option maxRecDepth 20000 in
set_option maxHeartbeats 4000000 in
theorem b_Bench_rename_2 {X : aX} {d : Nat} (x0 : Nat) (x1 : Int) (kx0 : am_kd an_K x0 = some (.inl 4)) (m : Mi) (J : Mj) (P : Mp) (hp : PP P) (post : Mi → Mj → Mp → Prop)
    (hw : Zr (x1) ∧ (((808 ≤ x1) → Rn X d 65 37 [some (.ref x0), some (.int (iz 0)), some (.int (iz 0)), none] [] (SS m J P) (QV post)) ∧ (¬ (808 ≤ x1) → Zr (x1) ∧ Zr ((m x0 3) + 8) ∧ (((((m x0 3) + 8) ≤ x1) → Rn X d 65 37 [some (.ref x0), some (.int (iz 0)), some (.int (iz 0)), none] [] (SS m J P) (QV post)) ∧ (¬ (((m x0 3) + 8) ≤ x1) → ((0 : Int) ≤ x1 ∧ (x1 : Int) < 808) ∧ Rn X d 65 2 [some (.ref x0), some (.int (iz (x1 + 1))), none, none] [] (SS (mu m (x0 + 9) x1.toNat ((-1))) J P) (QV post)))))) : Rn X d 65 2 [some (.ref x0), some (.int (iz x1)), none, none] [] (SS m J P) (QV post) := by
  refine s_iload_n (pc := 2) rfl rfl ?_
  refine s_sipush (pc := 3) rfl (by decide) ?_
  obtain ⟨hz1, hw⟩ := hw
  refine s_ic_ge (pc := 6) (tgt := 33) rfl rfl hz1 (by decide) (fun hc => ?_) (fun hc => ?_)
  · replace hw := hw.1 hc
    refine s_iconst (pc := 33) rfl ?_
    refine s_istore_n (pc := 34) (L' := [some (.ref x0), some (.int (iz 0)), none, none]) rfl (Nat.le_of_ble_eq_true rfl) rfl ?_
    refine s_iconst (pc := 35) rfl ?_
    refine s_istore_n (pc := 36) (L' := [some (.ref x0), some (.int (iz 0)), some (.int (iz 0)), none]) rfl (Nat.le_of_ble_eq_true rfl) rfl ?_
    exact hw
  · replace hw := hw.2 hc
    refine s_iload_n (pc := 9) rfl rfl ?_
    refine s_aload_n (pc := 10) rfl rfl ?_
    refine s_getI (pc := 11) rfl kx0 ?_
    refine s_bipush (pc := 14) rfl (by decide) ?_
    refine s_iadd (pc := 16) rfl ?_
    obtain ⟨hz2, hw⟩ := hw
    obtain ⟨hz3, hw⟩ := hw
    refine s_ic_ge (pc := 17) (tgt := 33) rfl rfl hz2 hz3 (fun hc => ?_) (fun hc => ?_)
    · replace hw := hw.1 hc
      refine s_iconst (pc := 33) rfl ?_
      refine s_istore_n (pc := 34) (L' := [some (.ref x0), some (.int (iz 0)), none, none]) rfl (Nat.le_of_ble_eq_true rfl) rfl ?_
      refine s_iconst (pc := 35) rfl ?_
      refine s_istore_n (pc := 36) (L' := [some (.ref x0), some (.int (iz 0)), some (.int (iz 0)), none]) rfl (Nat.le_of_ble_eq_true rfl) rfl ?_
      exact hw
    · replace hw := hw.2 hc
      refine s_aload_n (pc := 20) rfl rfl ?_
      refine s_getA (pc := 21) rfl kx0 (pc_4_11 hp kx0) ?_
      refine s_iload_n (pc := 24) rfl rfl ?_
      refine s_iconst (pc := 25) rfl ?_
      obtain ⟨hb4, hw⟩ := hw
      refine s_iast (pc := 26) rfl (kc_4_11 kx0) (by decide) hb4 ?_
      refine s_iinc (pc := 27) (L' := [some (.ref x0), some (.int (iz (x1 + 1))), none, none]) rfl rfl (Nat.le_of_ble_eq_true rfl) rfl ?_
      refine s_goto (pc := 30) (tgt := 2) rfl rfl ?_
      exact hw

set_option maxRecDepth 20000 in
set_option maxHeartbeats 4000000 in
theorem b_Bench_rename_37 {X : aX} {d : Nat} (x0 : Nat) (x1 : Int) (x2 : Int) (kx0 : am_kd an_K x0 = some (.inl 4)) (m : Mi) (J : Mj) (P : Mp) (hp : PP P) (post : Mi → Mj → Mp → Prop)
    (hw : Zr (x2) ∧ Zr (m x0 12) ∧ ((((m x0 12) ≤ x2) → post m J P) ∧ (¬ ((m x0 12) ≤ x2) → ((0 : Int) ≤ x2 ∧ (x2 : Int) < 800) ∧ Zr (((-1)) - (m (x0 + 8) x2.toNat)) ∧ (((0 ≤ (((-1)) - (m (x0 + 8) x2.toNat))) → ((0 : Int) ≤ (((-1)) - (m (x0 + 8) x2.toNat)) ∧ ((((-1)) - (m (x0 + 8) x2.toNat)) : Int) < 808) ∧ Zr (m (x0 + 9) (((-1)) - (m (x0 + 8) x2.toNat)).toNat) ∧ (((¬ (m (x0 + 9) (((-1)) - (m (x0 + 8) x2.toNat)).toNat) = ((-1))) → ((0 : Int) ≤ (((-1)) - (m (x0 + 8) x2.toNat)) ∧ ((((-1)) - (m (x0 + 8) x2.toNat)) : Int) < 808) ∧ ((0 : Int) ≤ x2 ∧ (x2 : Int) < 800) ∧ Rn X d 65 37 [some (.ref x0), some (.int (iz x1)), some (.int (iz (x2 + 1))), none] [] (SS (mu m (x0 + 8) x2.toNat (((-1)) - (m (x0 + 9) (((-1)) - (m (x0 + 8) x2.toNat)).toNat))) J P) (QV post)) ∧ (¬ (¬ (m (x0 + 9) (((-1)) - (m (x0 + 8) x2.toNat)).toNat) = ((-1))) → ((0 : Int) ≤ (((-1)) - (m (x0 + 8) x2.toNat)) ∧ ((((-1)) - (m (x0 + 8) x2.toNat)) : Int) < 808) ∧ ((0 : Int) ≤ (((-1)) - (m (x0 + 8) x2.toNat)) ∧ ((((-1)) - (m (x0 + 8) x2.toNat)) : Int) < 808) ∧ ((0 : Int) ≤ x2 ∧ (x2 : Int) < 800) ∧ Rn X d 65 37 [some (.ref x0), some (.int (iz (x1 + 1))), some (.int (iz (x2 + 1))), none] [] (SS (mu (mu m (x0 + 9) (((-1)) - (m (x0 + 8) x2.toNat)).toNat x1) (x0 + 8) x2.toNat (((-1)) - ((mu m (x0 + 9) (((-1)) - (m (x0 + 8) x2.toNat)).toNat x1) (x0 + 9) (((-1)) - (m (x0 + 8) x2.toNat)).toNat))) J P) (QV post)))) ∧ (¬ (0 ≤ (((-1)) - (m (x0 + 8) x2.toNat))) → Rn X d 65 37 [some (.ref x0), some (.int (iz x1)), some (.int (iz (x2 + 1))), none] [] (SS m J P) (QV post)))))) : Rn X d 65 37 [some (.ref x0), some (.int (iz x1)), some (.int (iz x2)), none] [] (SS m J P) (QV post) := by
  refine s_iload_n (pc := 37) rfl rfl ?_
  refine s_aload_n (pc := 38) rfl rfl ?_
  refine s_getI (pc := 39) rfl kx0 ?_
  obtain ⟨hz1, hw⟩ := hw
  obtain ⟨hz2, hw⟩ := hw
  refine s_ic_ge (pc := 42) (tgt := 101) rfl rfl hz1 hz2 (fun hc => ?_) (fun hc => ?_)
  · replace hw := hw.1 hc
    exact s_retv (pc := 101) rfl rfl hw
  · replace hw := hw.2 hc
    refine s_iconst (pc := 45) rfl ?_
    refine s_aload_n (pc := 46) rfl rfl ?_
    refine s_getA (pc := 47) rfl kx0 (pc_4_10 hp kx0) ?_
    refine s_iload_n (pc := 50) rfl rfl ?_
    obtain ⟨hb3, hw⟩ := hw
    refine s_iald (pc := 51) rfl (kc_4_10 kx0) (by decide) hb3 ?_
    refine s_isub (pc := 52) rfl ?_
    refine s_istore_n (pc := 53) (L' := [some (.ref x0), some (.int (iz x1)), some (.int (iz x2)), some (.int (iz (((-1)) - (m (x0 + 8) x2.toNat))))]) rfl (Nat.le_of_ble_eq_true rfl) rfl ?_
    refine s_iload_n (pc := 54) rfl rfl ?_
    obtain ⟨hz4, hw⟩ := hw
    refine s_if_ge (pc := 55) (tgt := 61) rfl rfl hz4 (fun hc => ?_) (fun hc => ?_)
    · replace hw := hw.1 hc
      refine s_aload_n (pc := 61) rfl rfl ?_
      refine s_getA (pc := 62) rfl kx0 (pc_4_11 hp kx0) ?_
      refine s_iload_n (pc := 65) rfl rfl ?_
      obtain ⟨hb5, hw⟩ := hw
      refine s_iald (pc := 66) rfl (kc_4_11 kx0) (by decide) hb5 ?_
      refine s_iconst (pc := 67) rfl ?_
      obtain ⟨hz6, hw⟩ := hw
      refine s_ic_ne (pc := 68) (tgt := 81) rfl rfl hz6 (by decide) (fun hc => ?_) (fun hc => ?_)
      · replace hw := hw.1 hc
        refine s_aload_n (pc := 81) rfl rfl ?_
        refine s_getA (pc := 82) rfl kx0 (pc_4_10 hp kx0) ?_
        refine s_iload_n (pc := 85) rfl rfl ?_
        refine s_iconst (pc := 86) rfl ?_
        refine s_aload_n (pc := 87) rfl rfl ?_
        refine s_getA (pc := 88) rfl kx0 (pc_4_11 hp kx0) ?_
        refine s_iload_n (pc := 91) rfl rfl ?_
        obtain ⟨hb7, hw⟩ := hw
        refine s_iald (pc := 92) rfl (kc_4_11 kx0) (by decide) hb7 ?_
        refine s_isub (pc := 93) rfl ?_
        obtain ⟨hb8, hw⟩ := hw
        refine s_iast (pc := 94) rfl (kc_4_10 kx0) (by decide) hb8 ?_
        refine s_iinc (pc := 95) (L' := [some (.ref x0), some (.int (iz x1)), some (.int (iz (x2 + 1))), some (.int (iz (((-1)) - (m (x0 + 8) x2.toNat))))]) rfl rfl (Nat.le_of_ble_eq_true rfl) rfl ?_
        refine s_goto (pc := 98) (tgt := 37) rfl rfl ?_
        exact Rn.weakL hw (LLe.keep _ (LLe.keep _ (LLe.keep _ (LLe.drop _ (LLe.nil)))))
      · replace hw := hw.2 hc
        refine s_aload_n (pc := 71) rfl rfl ?_
        refine s_getA (pc := 72) rfl kx0 (pc_4_11 hp kx0) ?_
        refine s_iload_n (pc := 75) rfl rfl ?_
        refine s_iload_n (pc := 76) rfl rfl ?_
        obtain ⟨hb9, hw⟩ := hw
        refine s_iast (pc := 77) rfl (kc_4_11 kx0) (by decide) hb9 ?_
        refine s_iinc (pc := 78) (L' := [some (.ref x0), some (.int (iz (x1 + 1))), some (.int (iz x2)), some (.int (iz (((-1)) - (m (x0 + 8) x2.toNat))))]) rfl rfl (Nat.le_of_ble_eq_true rfl) rfl ?_
        refine s_aload_n (pc := 81) rfl rfl ?_
        refine s_getA (pc := 82) rfl kx0 (pc_4_10 hp kx0) ?_
        refine s_iload_n (pc := 85) rfl rfl ?_
        refine s_iconst (pc := 86) rfl ?_
        refine s_aload_n (pc := 87) rfl rfl ?_
        refine s_getA (pc := 88) rfl kx0 (pc_4_11 hp kx0) ?_
        refine s_iload_n (pc := 91) rfl rfl ?_
        obtain ⟨hb10, hw⟩ := hw
        refine s_iald (pc := 92) rfl (kc_4_11 kx0) (by decide) hb10 ?_
        refine s_isub (pc := 93) rfl ?_
        obtain ⟨hb11, hw⟩ := hw
        refine s_iast (pc := 94) rfl (kc_4_10 kx0) (by decide) hb11 ?_
        refine s_iinc (pc := 95) (L' := [some (.ref x0), some (.int (iz (x1 + 1))), some (.int (iz (x2 + 1))), some (.int (iz (((-1)) - (m (x0 + 8) x2.toNat))))]) rfl rfl (Nat.le_of_ble_eq_true rfl) rfl ?_
        refine s_goto (pc := 98) (tgt := 37) rfl rfl ?_
        exact Rn.weakL hw (LLe.keep _ (LLe.keep _ (LLe.keep _ (LLe.drop _ (LLe.nil)))))
    · replace hw := hw.2 hc
      refine s_goto (pc := 58) (tgt := 95) rfl rfl ?_
      refine s_iinc (pc := 95) (L' := [some (.ref x0), some (.int (iz x1)), some (.int (iz (x2 + 1))), some (.int (iz (((-1)) - (m (x0 + 8) x2.toNat))))]) rfl rfl (Nat.le_of_ble_eq_true rfl) rfl ?_
      refine s_goto (pc := 98) (tgt := 37) rfl rfl ?_
      exact Rn.weakL hw (LLe.keep _ (LLe.keep _ (LLe.keep _ (LLe.drop _ (LLe.nil)))))

set_option maxRecDepth 20000 in
set_option maxHeartbeats 4000000 in
theorem b_Reducer_joins_0 {X : aX} {d : Nat} (x1 nx1 : Nat) (x2 : Int) (x3 : Int) (x4 : Nat) (kx1 : am_kd an_K x1 = some (.inr (0, nx1))) (bx1 : nx1 ≤ 100000) (kx4 : am_kd an_K x4 = some (.inl 10)) (m : Mi) (J : Mj) (P : Mp) (hp : PP P) (post : Int → Mi → Mj → Mp → Prop)
    (hw : Ci X (d + 2) 67 [.ref 28, .ref x1, .int (iz 0), .int (iz x2), .ref x4] m J P (fun z4 m1 J2 P3 => PP P3 ∧ Zr (z4) ∧ (((0 ≤ z4) → ((0 : Int) ≤ (m1 28 4) ∧ (0 : Int) ≤ 0 ∧ (0 : Int) ≤ (200 - (m1 28 4)) ∧ (m1 28 4) + (200 - (m1 28 4)) ≤ 200 ∧ 0 + (200 - (m1 28 4)) ≤ 200) ∧ Ci X (d + 2) 67 [.ref 28, .ref x1, .int (iz x2), .int (iz (x3 - x2)), .ref x4] (mcp m1 30 32 (m1 28 4).toNat (0 : Int).toNat (200 - (m1 28 4)).toNat) J2 P3 (fun z11 m8 J9 P10 => PP P10 ∧ Zr (z11) ∧ (((0 ≤ z11) → Zr (200 - (m8 28 4)) ∧ Zr (200 - (m1 28 4)) ∧ ((((200 - (m8 28 4)) = (200 - (m1 28 4))) → Rn X (d + 3) 66 76 [some (.ref 28), some (.ref x1), some (.int (iz x2)), some (.int (iz x3)), some (.ref x4), some (.int (iz (200 - (m1 28 4)))), some (.int (iz 0))] [] (SS m8 J9 P10) (QI post)) ∧ (¬ ((200 - (m8 28 4)) = (200 - (m1 28 4))) → post 0 m8 J9 P10))) ∧ (¬ (0 ≤ z11) → post 2 m8 J9 P10)))) ∧ (¬ (0 ≤ z4) → post 2 m1 J2 P3)))) : Rn X (d + 3) 66 0 [some (.ref 28), some (.ref x1), some (.int (iz x2)), some (.int (iz x3)), some (.ref x4), none, none] [] (SS m J P) (QI post) := by
  refine s_aload_n (pc := 0) rfl rfl ?_
  refine s_aload_n (pc := 1) rfl rfl ?_
  refine s_iconst (pc := 2) rfl ?_
  refine s_iload_n (pc := 3) rfl rfl ?_
  refine s_aload (pc := 4) rfl rfl ?_
  refine s_ci (pc := 6) (d := (d + 2)) (t := []) rfl rfl (am_ca_v (ps := [.ref x4, .int (iz x2), .int (iz 0), .ref x1]) rfl ko_28) (Nat.le_of_ble_eq_true rfl) (Ci.weak hw fun z4 m1 J2 P3 hw => ?_)
  obtain ⟨hp5, hw⟩ := hw
  obtain ⟨hz6, hw⟩ := hw
  refine s_if_ge (pc := 9) (tgt := 14) rfl rfl hz6 (fun hc => ?_) (fun hc => ?_)
  · replace hw := hw.1 hc
    refine s_sipush (pc := 14) rfl (by decide) ?_
    refine s_aload_n (pc := 17) rfl rfl ?_
    refine s_getI (pc := 18) rfl ko_28 ?_
    refine s_isub (pc := 21) rfl ?_
    refine s_istore (pc := 22) (L' := [some (.ref 28), some (.ref x1), some (.int (iz x2)), some (.int (iz x3)), some (.ref x4), some (.int (iz (200 - (m1 28 4)))), none]) rfl (Nat.le_of_ble_eq_true rfl) rfl ?_
    refine s_aload_n (pc := 24) rfl rfl ?_
    refine s_getA (pc := 25) rfl ko_28 (po_28_2 hp5) ?_
    refine s_aload_n (pc := 28) rfl rfl ?_
    refine s_getI (pc := 29) rfl ko_28 ?_
    refine s_aload_n (pc := 32) rfl rfl ?_
    refine s_getA (pc := 33) rfl ko_28 (po_28_7 hp5) ?_
    refine s_iconst (pc := 36) rfl ?_
    refine s_iload (pc := 37) rfl rfl ?_
    obtain ⟨hb7, hw⟩ := hw
    refine s_acpy (pc := 39) (d := d + 2) rfl ka_30 ka_32 (by decide) (by decide) (Nat.le_of_ble_eq_true rfl) hb7 ?_
    refine s_aload_n (pc := 42) rfl rfl ?_
    refine s_aload_n (pc := 43) rfl rfl ?_
    refine s_iload_n (pc := 44) rfl rfl ?_
    refine s_iload_n (pc := 45) rfl rfl ?_
    refine s_iload_n (pc := 46) rfl rfl ?_
    refine s_isub (pc := 47) rfl ?_
    refine s_aload (pc := 48) rfl rfl ?_
    refine s_ci (pc := 50) (d := (d + 2)) (t := []) rfl rfl (am_ca_v (ps := [.ref x4, .int (iz (x3 - x2)), .int (iz x2), .ref x1]) rfl ko_28) (Nat.le_of_ble_eq_true rfl) (Ci.weak hw fun z11 m8 J9 P10 hw => ?_)
    obtain ⟨hp12, hw⟩ := hw
    obtain ⟨hz13, hw⟩ := hw
    refine s_if_ge (pc := 53) (tgt := 58) rfl rfl hz13 (fun hc => ?_) (fun hc => ?_)
    · replace hw := hw.1 hc
      refine s_sipush (pc := 58) rfl (by decide) ?_
      refine s_aload_n (pc := 61) rfl rfl ?_
      refine s_getI (pc := 62) rfl ko_28 ?_
      refine s_isub (pc := 65) rfl ?_
      refine s_iload (pc := 66) rfl rfl ?_
      obtain ⟨hz14, hw⟩ := hw
      obtain ⟨hz15, hw⟩ := hw
      refine s_ic_eq (pc := 68) (tgt := 73) rfl rfl hz14 hz15 (fun hc => ?_) (fun hc => ?_)
      · replace hw := hw.1 hc
        refine s_iconst (pc := 73) rfl ?_
        refine s_istore (pc := 74) (L' := [some (.ref 28), some (.ref x1), some (.int (iz x2)), some (.int (iz x3)), some (.ref x4), some (.int (iz (200 - (m1 28 4)))), some (.int (iz 0))]) rfl (Nat.le_of_ble_eq_true rfl) rfl ?_
        exact hw
      · replace hw := hw.2 hc
        refine s_iconst (pc := 71) rfl ?_
        exact s_reti (pc := 72) rfl rfl hw
    · replace hw := hw.2 hc
      refine s_iconst (pc := 56) rfl ?_
      exact s_reti (pc := 57) rfl rfl hw
  · replace hw := hw.2 hc
    refine s_iconst (pc := 12) rfl ?_
    exact s_reti (pc := 13) rfl rfl hw

set_option maxRecDepth 20000 in
set_option maxHeartbeats 4000000 in
theorem b_Reducer_joins_76 {X : aX} {d : Nat} (x1 nx1 : Nat) (x2 : Int) (x3 : Int) (x4 : Nat) (x5 : Int) (x6 : Int) (kx1 : am_kd an_K x1 = some (.inr (0, nx1))) (bx1 : nx1 ≤ 100000) (kx4 : am_kd an_K x4 = some (.inl 10)) (m : Mi) (J : Mj) (P : Mp) (hp : PP P) (post : Int → Mi → Mj → Mp → Prop)
    (hw : Zr (x6) ∧ Zr (x5) ∧ (((x5 ≤ x6) → post 1 m J P) ∧ (¬ (x5 ≤ x6) → ((0 : Int) ≤ ((m 28 4) + x6) ∧ (((m 28 4) + x6) : Int) < 200) ∧ ((0 : Int) ≤ x6 ∧ (x6 : Int) < 200) ∧ Zr (m 30 ((m 28 4) + x6).toNat) ∧ Zr (m 32 x6.toNat) ∧ ((((m 30 ((m 28 4) + x6).toNat) = (m 32 x6.toNat)) → Rn X (d + 3) 66 76 [some (.ref 28), some (.ref x1), some (.int (iz x2)), some (.int (iz x3)), some (.ref x4), some (.int (iz x5)), some (.int (iz (x6 + 1)))] [] (SS m J P) (QI post)) ∧ (¬ ((m 30 ((m 28 4) + x6).toNat) = (m 32 x6.toNat)) → post 0 m J P))))) : Rn X (d + 3) 66 76 [some (.ref 28), some (.ref x1), some (.int (iz x2)), some (.int (iz x3)), some (.ref x4), some (.int (iz x5)), some (.int (iz x6))] [] (SS m J P) (QI post) := by
  refine s_iload (pc := 76) rfl rfl ?_
  refine s_iload (pc := 78) rfl rfl ?_
  obtain ⟨hz1, hw⟩ := hw
  obtain ⟨hz2, hw⟩ := hw
  refine s_ic_ge (pc := 80) (tgt := 113) rfl rfl hz1 hz2 (fun hc => ?_) (fun hc => ?_)
  · replace hw := hw.1 hc
    refine s_iconst (pc := 113) rfl ?_
    exact s_reti (pc := 114) rfl rfl hw
  · replace hw := hw.2 hc
    refine s_aload_n (pc := 83) rfl rfl ?_
    refine s_getA (pc := 84) rfl ko_28 (po_28_2 hp) ?_
    refine s_aload_n (pc := 87) rfl rfl ?_
    refine s_getI (pc := 88) rfl ko_28 ?_
    refine s_iload (pc := 91) rfl rfl ?_
    refine s_iadd (pc := 93) rfl ?_
    obtain ⟨hb3, hw⟩ := hw
    refine s_iald (pc := 94) rfl ka_30 (by decide) hb3 ?_
    refine s_aload_n (pc := 95) rfl rfl ?_
    refine s_getA (pc := 96) rfl ko_28 (po_28_7 hp) ?_
    refine s_iload (pc := 99) rfl rfl ?_
    obtain ⟨hb4, hw⟩ := hw
    refine s_iald (pc := 101) rfl ka_32 (by decide) hb4 ?_
    obtain ⟨hz5, hw⟩ := hw
    obtain ⟨hz6, hw⟩ := hw
    refine s_ic_eq (pc := 102) (tgt := 107) rfl rfl hz5 hz6 (fun hc => ?_) (fun hc => ?_)
    · replace hw := hw.1 hc
      refine s_iinc (pc := 107) (L' := [some (.ref 28), some (.ref x1), some (.int (iz x2)), some (.int (iz x3)), some (.ref x4), some (.int (iz x5)), some (.int (iz (x6 + 1)))]) rfl rfl (Nat.le_of_ble_eq_true rfl) rfl ?_
      refine s_goto (pc := 110) (tgt := 76) rfl rfl ?_
      exact hw
    · replace hw := hw.2 hc
      refine s_iconst (pc := 105) rfl ?_
      exact s_reti (pc := 106) rfl rfl hw

set_option maxRecDepth 20000 in
set_option maxHeartbeats 4000000 in
theorem b_Reducer_reduce_0 {X : aX} {d : Nat} (x1 nx1 : Nat) (x2 : Int) (x3 : Int) (x4 : Nat) (kx1 : am_kd an_K x1 = some (.inr (0, nx1))) (bx1 : nx1 ≤ 100000) (kx4 : am_kd an_K x4 = some (.inl 10)) (m : Mi) (J : Mj) (P : Mp) (hp : PP P) (post : Int → Mi → Mj → Mp → Prop)
    (hw : Cv X (d + 1) 48 [.ref 28, .ref x1, .int (iz x2), .int (iz x3), .ref 29, .int (iz 0), .ref x4] m J P (fun m1 J2 P3 => PP P3 ∧ Rn X (d + 2) 67 42 [some (.ref 28), some (.ref x1), some (.int (iz x2)), some (.int (iz x3)), some (.ref x4), some (.int (iz 0)), some (.int (iz 0)), none, none, none, none] [] (SS (mu (mu (mu (mu m1 28 1 x3) 28 4 200) 28 6 x3) 28 5 0) J2 P3) (QI post))) : Rn X (d + 2) 67 0 [some (.ref 28), some (.ref x1), some (.int (iz x2)), some (.int (iz x3)), some (.ref x4), none, none, none, none, none, none] [] (SS m J P) (QI post) := by
  refine s_aload_n (pc := 0) rfl rfl ?_
  refine s_aload_n (pc := 1) rfl rfl ?_
  refine s_iload_n (pc := 2) rfl rfl ?_
  refine s_iload_n (pc := 3) rfl rfl ?_
  refine s_aload_n (pc := 4) rfl rfl ?_
  refine s_getA (pc := 5) rfl ko_28 (po_28_0 hp) ?_
  refine s_iconst (pc := 8) rfl ?_
  refine s_aload (pc := 9) rfl rfl ?_
  refine s_cv (pc := 11) (d := (d + 1)) (t := []) rfl rfl (am_ca_v (ps := [.ref x4, .int (iz 0), .ref 29, .int (iz x3), .int (iz x2), .ref x1]) rfl ko_28) (Nat.le_of_ble_eq_true rfl) (Cv.weak hw fun m1 J2 P3 hw => ?_)
  obtain ⟨hp5, hw⟩ := hw
  refine s_aload_n (pc := 14) rfl rfl ?_
  refine s_iload_n (pc := 15) rfl rfl ?_
  refine s_putI (pc := 16) rfl ko_28 ?_
  refine s_aload_n (pc := 19) rfl rfl ?_
  refine s_sipush (pc := 20) rfl (by decide) ?_
  refine s_putI (pc := 23) rfl ko_28 ?_
  refine s_aload_n (pc := 26) rfl rfl ?_
  refine s_iload_n (pc := 27) rfl rfl ?_
  refine s_putI (pc := 28) rfl ko_28 ?_
  refine s_aload_n (pc := 31) rfl rfl ?_
  refine s_iconst (pc := 32) rfl ?_
  refine s_putI (pc := 33) rfl ko_28 ?_
  refine s_iconst (pc := 36) rfl ?_
  refine s_istore (pc := 37) (L' := [some (.ref 28), some (.ref x1), some (.int (iz x2)), some (.int (iz x3)), some (.ref x4), some (.int (iz 0)), none, none, none, none, none]) rfl (Nat.le_of_ble_eq_true rfl) rfl ?_
  refine s_iconst (pc := 39) rfl ?_
  refine s_istore (pc := 40) (L' := [some (.ref 28), some (.ref x1), some (.int (iz x2)), some (.int (iz x3)), some (.ref x4), some (.int (iz 0)), some (.int (iz 0)), none, none, none, none]) rfl (Nat.le_of_ble_eq_true rfl) rfl ?_
  exact hw

set_option maxRecDepth 20000 in
set_option maxHeartbeats 4000000 in
theorem b_Reducer_reduce_42 {X : aX} {d : Nat} (x1 nx1 : Nat) (x2 : Int) (x3 : Int) (x4 : Nat) (x5 : Int) (x6 : Int) (kx1 : am_kd an_K x1 = some (.inr (0, nx1))) (bx1 : nx1 ≤ 100000) (kx4 : am_kd an_K x4 = some (.inl 10)) (m : Mi) (J : Mj) (P : Mp) (hp : PP P) (post : Int → Mi → Mj → Mp → Prop)
    (hw : Zr (x6) ∧ (((1000000 ≤ x6) → Zr (x5) ∧ (((0 ≤ x5) → post (m 28 5) m J P) ∧ (¬ (0 ≤ x5) → post x5 m J P))) ∧ (¬ (1000000 ≤ x6) → Zr (m 28 1) ∧ ((((m 28 1) ≤ 0) → Zr (x5) ∧ (((0 ≤ x5) → post (m 28 5) m J P) ∧ (¬ (0 ≤ x5) → post x5 m J P))) ∧ (¬ ((m 28 1) ≤ 0) → Zr (x5) ∧ (((¬ x5 = 0) → Zr (x5) ∧ (((0 ≤ x5) → post (m 28 5) m J P) ∧ (¬ (0 ≤ x5) → post x5 m J P))) ∧ (¬ (¬ x5 = 0) → ((0 : Int) ≤ ((mu m 28 1 ((m 28 1) - 1)) 28 1) ∧ (((mu m 28 1 ((m 28 1) - 1)) 28 1) : Int) < 200) ∧ Zr ((mu m 28 1 ((m 28 1) - 1)) 29 ((mu m 28 1 ((m 28 1) - 1)) 28 1).toNat) ∧ (((((mu m 28 1 ((m 28 1) - 1)) 29 ((mu m 28 1 ((m 28 1) - 1)) 28 1).toNat) < 0) → Zr ((mu m 28 1 ((m 28 1) - 1)) 29 ((mu m 28 1 ((m 28 1) - 1)) 28 1).toNat) ∧ (((0 ≤ ((mu m 28 1 ((m 28 1) - 1)) 29 ((mu m 28 1 ((m 28 1) - 1)) 28 1).toNat)) → Cv X (d + 1) 68 [.ref 28, .int (iz (zand ((mu m 28 1 ((m 28 1) - 1)) 29 ((mu m 28 1 ((m 28 1) - 1)) 28 1).toNat) 31)), .ref x4] (mu m 28 1 ((m 28 1) - 1)) J P (fun m10 J11 P12 => PP P12 ∧ Rn X (d + 2) 67 128 [some (.ref 28), some (.ref x1), some (.int (iz x2)), some (.int (iz x3)), some (.ref x4), some (.int (iz x5)), some (.int (iz x6)), some (.int (iz ((mu m 28 1 ((m 28 1) - 1)) 29 ((mu m 28 1 ((m 28 1) - 1)) 28 1).toNat))), some (.int (iz 1)), some (.int (iz 0)), some (.int (iz 0))] [] (SS m10 J11 P12) (QI post))) ∧ (¬ (0 ≤ ((mu m 28 1 ((m 28 1) - 1)) 29 ((mu m 28 1 ((m 28 1) - 1)) 28 1).toNat)) → Cv X (d + 1) 68 [.ref 28, .int (iz ((mu m 28 1 ((m 28 1) - 1)) 29 ((mu m 28 1 ((m 28 1) - 1)) 28 1).toNat)), .ref x4] (mu m 28 1 ((m 28 1) - 1)) J P (fun m15 J16 P17 => PP P17 ∧ Rn X (d + 2) 67 128 [some (.ref 28), some (.ref x1), some (.int (iz x2)), some (.int (iz x3)), some (.ref x4), some (.int (iz x5)), some (.int (iz x6)), some (.int (iz ((mu m 28 1 ((m 28 1) - 1)) 29 ((mu m 28 1 ((m 28 1) - 1)) 28 1).toNat))), some (.int (iz 1)), some (.int (iz 0)), some (.int (iz 0))] [] (SS m15 J16 P17) (QI post))))) ∧ (¬ (((mu m 28 1 ((m 28 1) - 1)) 29 ((mu m 28 1 ((m 28 1) - 1)) 28 1).toNat) < 0) → Zr ((mu m 28 1 ((m 28 1) - 1)) 29 ((mu m 28 1 ((m 28 1) - 1)) 28 1).toNat) ∧ (((((mu m 28 1 ((m 28 1) - 1)) 29 ((mu m 28 1 ((m 28 1) - 1)) 28 1).toNat) < 64) → Zr ((mu m 28 1 ((m 28 1) - 1)) 29 ((mu m 28 1 ((m 28 1) - 1)) 28 1).toNat) ∧ (((0 ≤ ((mu m 28 1 ((m 28 1) - 1)) 29 ((mu m 28 1 ((m 28 1) - 1)) 28 1).toNat)) → Cv X (d + 1) 68 [.ref 28, .int (iz (zand ((mu m 28 1 ((m 28 1) - 1)) 29 ((mu m 28 1 ((m 28 1) - 1)) 28 1).toNat) 31)), .ref x4] (mu m 28 1 ((m 28 1) - 1)) J P (fun m22 J23 P24 => PP P24 ∧ Rn X (d + 2) 67 128 [some (.ref 28), some (.ref x1), some (.int (iz x2)), some (.int (iz x3)), some (.ref x4), some (.int (iz x5)), some (.int (iz x6)), some (.int (iz ((mu m 28 1 ((m 28 1) - 1)) 29 ((mu m 28 1 ((m 28 1) - 1)) 28 1).toNat))), some (.int (iz 0)), some (.int (iz 0)), some (.int (iz 0))] [] (SS m22 J23 P24) (QI post))) ∧ (¬ (0 ≤ ((mu m 28 1 ((m 28 1) - 1)) 29 ((mu m 28 1 ((m 28 1) - 1)) 28 1).toNat)) → Cv X (d + 1) 68 [.ref 28, .int (iz ((mu m 28 1 ((m 28 1) - 1)) 29 ((mu m 28 1 ((m 28 1) - 1)) 28 1).toNat)), .ref x4] (mu m 28 1 ((m 28 1) - 1)) J P (fun m27 J28 P29 => PP P29 ∧ Rn X (d + 2) 67 128 [some (.ref 28), some (.ref x1), some (.int (iz x2)), some (.int (iz x3)), some (.ref x4), some (.int (iz x5)), some (.int (iz x6)), some (.int (iz ((mu m 28 1 ((m 28 1) - 1)) 29 ((mu m 28 1 ((m 28 1) - 1)) 28 1).toNat))), some (.int (iz 0)), some (.int (iz 0)), some (.int (iz 0))] [] (SS m27 J28 P29) (QI post))))) ∧ (¬ (((mu m 28 1 ((m 28 1) - 1)) 29 ((mu m 28 1 ((m 28 1) - 1)) 28 1).toNat) < 64) → Zr ((mu m 28 1 ((m 28 1) - 1)) 29 ((mu m 28 1 ((m 28 1) - 1)) 28 1).toNat) ∧ (((0 ≤ ((mu m 28 1 ((m 28 1) - 1)) 29 ((mu m 28 1 ((m 28 1) - 1)) 28 1).toNat)) → Cv X (d + 1) 68 [.ref 28, .int (iz (zand ((mu m 28 1 ((m 28 1) - 1)) 29 ((mu m 28 1 ((m 28 1) - 1)) 28 1).toNat) 31)), .ref x4] (mu m 28 1 ((m 28 1) - 1)) J P (fun m33 J34 P35 => PP P35 ∧ Rn X (d + 2) 67 128 [some (.ref 28), some (.ref x1), some (.int (iz x2)), some (.int (iz x3)), some (.ref x4), some (.int (iz x5)), some (.int (iz x6)), some (.int (iz ((mu m 28 1 ((m 28 1) - 1)) 29 ((mu m 28 1 ((m 28 1) - 1)) 28 1).toNat))), some (.int (iz 1)), some (.int (iz 0)), some (.int (iz 0))] [] (SS m33 J34 P35) (QI post))) ∧ (¬ (0 ≤ ((mu m 28 1 ((m 28 1) - 1)) 29 ((mu m 28 1 ((m 28 1) - 1)) 28 1).toNat)) → Cv X (d + 1) 68 [.ref 28, .int (iz ((mu m 28 1 ((m 28 1) - 1)) 29 ((mu m 28 1 ((m 28 1) - 1)) 28 1).toNat)), .ref x4] (mu m 28 1 ((m 28 1) - 1)) J P (fun m38 J39 P40 => PP P40 ∧ Rn X (d + 2) 67 128 [some (.ref 28), some (.ref x1), some (.int (iz x2)), some (.int (iz x3)), some (.ref x4), some (.int (iz x5)), some (.int (iz x6)), some (.int (iz ((mu m 28 1 ((m 28 1) - 1)) 29 ((mu m 28 1 ((m 28 1) - 1)) 28 1).toNat))), some (.int (iz 1)), some (.int (iz 0)), some (.int (iz 0))] [] (SS m38 J39 P40) (QI post))))))))))))))) : Rn X (d + 2) 67 42 [some (.ref 28), some (.ref x1), some (.int (iz x2)), some (.int (iz x3)), some (.ref x4), some (.int (iz x5)), some (.int (iz x6)), none, none, none, none] [] (SS m J P) (QI post) := by
  refine s_iload (pc := 42) rfl rfl ?_
  refine s_ldc (pc := 44) rfl ?_
  obtain ⟨hz1, hw⟩ := hw
  refine s_ic_ge (pc := 46) (tgt := 193) rfl rfl hz1 (by decide) (fun hc => ?_) (fun hc => ?_)
  · replace hw := hw.1 hc
    refine s_iload (pc := 193) rfl rfl ?_
    obtain ⟨hz2, hw⟩ := hw
    refine s_if_ge (pc := 195) (tgt := 203) rfl rfl hz2 (fun hc => ?_) (fun hc => ?_)
    · replace hw := hw.1 hc
      refine s_aload_n (pc := 203) rfl rfl ?_
      refine s_getI (pc := 204) rfl ko_28 ?_
      exact s_reti (pc := 207) rfl rfl hw
    · replace hw := hw.2 hc
      refine s_iload (pc := 198) rfl rfl ?_
      refine s_goto (pc := 200) (tgt := 207) rfl rfl ?_
      exact s_reti (pc := 207) rfl rfl hw
  · replace hw := hw.2 hc
    refine s_aload_n (pc := 49) rfl rfl ?_
    refine s_getI (pc := 50) rfl ko_28 ?_
    obtain ⟨hz3, hw⟩ := hw
    refine s_if_le (pc := 53) (tgt := 193) rfl rfl hz3 (fun hc => ?_) (fun hc => ?_)
    · replace hw := hw.1 hc
      refine s_iload (pc := 193) rfl rfl ?_
      obtain ⟨hz4, hw⟩ := hw
      refine s_if_ge (pc := 195) (tgt := 203) rfl rfl hz4 (fun hc => ?_) (fun hc => ?_)
      · replace hw := hw.1 hc
        refine s_aload_n (pc := 203) rfl rfl ?_
        refine s_getI (pc := 204) rfl ko_28 ?_
        exact s_reti (pc := 207) rfl rfl hw
      · replace hw := hw.2 hc
        refine s_iload (pc := 198) rfl rfl ?_
        refine s_goto (pc := 200) (tgt := 207) rfl rfl ?_
        exact s_reti (pc := 207) rfl rfl hw
    · replace hw := hw.2 hc
      refine s_iload (pc := 56) rfl rfl ?_
      obtain ⟨hz5, hw⟩ := hw
      refine s_if_ne (pc := 58) (tgt := 193) rfl rfl hz5 (fun hc => ?_) (fun hc => ?_)
      · replace hw := hw.1 hc
        refine s_iload (pc := 193) rfl rfl ?_
        obtain ⟨hz6, hw⟩ := hw
        refine s_if_ge (pc := 195) (tgt := 203) rfl rfl hz6 (fun hc => ?_) (fun hc => ?_)
        · replace hw := hw.1 hc
          refine s_aload_n (pc := 203) rfl rfl ?_
          refine s_getI (pc := 204) rfl ko_28 ?_
          exact s_reti (pc := 207) rfl rfl hw
        · replace hw := hw.2 hc
          refine s_iload (pc := 198) rfl rfl ?_
          refine s_goto (pc := 200) (tgt := 207) rfl rfl ?_
          exact s_reti (pc := 207) rfl rfl hw
      · replace hw := hw.2 hc
        refine s_aload_n (pc := 61) rfl rfl ?_
        refine s_dup (pc := 62) rfl rfl ?_
        refine s_getI (pc := 63) rfl ko_28 ?_
        refine s_iconst (pc := 66) rfl ?_
        refine s_isub (pc := 67) rfl ?_
        refine s_putI (pc := 68) rfl ko_28 ?_
        refine s_aload_n (pc := 71) rfl rfl ?_
        refine s_getA (pc := 72) rfl ko_28 (po_28_0 hp) ?_
        refine s_aload_n (pc := 75) rfl rfl ?_
        refine s_getI (pc := 76) rfl ko_28 ?_
        obtain ⟨hb7, hw⟩ := hw
        refine s_iald (pc := 79) rfl ka_29 (by decide) hb7 ?_
        refine s_istore (pc := 80) (L' := [some (.ref 28), some (.ref x1), some (.int (iz x2)), some (.int (iz x3)), some (.ref x4), some (.int (iz x5)), some (.int (iz x6)), some (.int (iz ((mu m 28 1 ((m 28 1) - 1)) 29 ((mu m 28 1 ((m 28 1) - 1)) 28 1).toNat))), none, none, none]) rfl (Nat.le_of_ble_eq_true rfl) rfl ?_
        refine s_iload (pc := 82) rfl rfl ?_
        obtain ⟨hz8, hw⟩ := hw
        refine s_if_lt (pc := 84) (tgt := 94) rfl rfl hz8 (fun hc => ?_) (fun hc => ?_)
        · replace hw := hw.1 hc
          refine s_iconst (pc := 94) rfl ?_
          refine s_goto (pc := 95) (tgt := 99) rfl rfl ?_
          refine s_istore (pc := 99) (L' := [some (.ref 28), some (.ref x1), some (.int (iz x2)), some (.int (iz x3)), some (.ref x4), some (.int (iz x5)), some (.int (iz x6)), some (.int (iz ((mu m 28 1 ((m 28 1) - 1)) 29 ((mu m 28 1 ((m 28 1) - 1)) 28 1).toNat))), some (.int (iz 1)), none, none]) rfl (Nat.le_of_ble_eq_true rfl) rfl ?_
          refine s_aload_n (pc := 101) rfl rfl ?_
          refine s_iload (pc := 102) rfl rfl ?_
          obtain ⟨hz9, hw⟩ := hw
          refine s_if_ge (pc := 104) (tgt := 112) rfl rfl hz9 (fun hc => ?_) (fun hc => ?_)
          · replace hw := hw.1 hc
            refine s_iload (pc := 112) rfl rfl ?_
            refine s_bipush (pc := 114) rfl (by decide) ?_
            refine s_iand (pc := 116) rfl ?_
            refine s_aload (pc := 117) rfl rfl ?_
            refine s_cv (pc := 119) (d := (d + 1)) (t := []) rfl rfl (am_ca_v (ps := [.ref x4, .int (iz (zand ((mu m 28 1 ((m 28 1) - 1)) 29 ((mu m 28 1 ((m 28 1) - 1)) 28 1).toNat) 31))]) rfl ko_28) (Nat.le_of_ble_eq_true rfl) (Cv.weak hw fun m10 J11 P12 hw => ?_)
            obtain ⟨hp14, hw⟩ := hw
            refine s_iconst (pc := 122) rfl ?_
            refine s_istore (pc := 123) (L' := [some (.ref 28), some (.ref x1), some (.int (iz x2)), some (.int (iz x3)), some (.ref x4), some (.int (iz x5)), some (.int (iz x6)), some (.int (iz ((mu m 28 1 ((m 28 1) - 1)) 29 ((mu m 28 1 ((m 28 1) - 1)) 28 1).toNat))), some (.int (iz 1)), some (.int (iz 0)), none]) rfl (Nat.le_of_ble_eq_true rfl) rfl ?_
            refine s_iconst (pc := 125) rfl ?_
            refine s_istore (pc := 126) (L' := [some (.ref 28), some (.ref x1), some (.int (iz x2)), some (.int (iz x3)), some (.ref x4), some (.int (iz x5)), some (.int (iz x6)), some (.int (iz ((mu m 28 1 ((m 28 1) - 1)) 29 ((mu m 28 1 ((m 28 1) - 1)) 28 1).toNat))), some (.int (iz 1)), some (.int (iz 0)), some (.int (iz 0))]) rfl (Nat.le_of_ble_eq_true rfl) rfl ?_
            exact hw
          · replace hw := hw.2 hc
            refine s_iload (pc := 107) rfl rfl ?_
            refine s_goto (pc := 109) (tgt := 117) rfl rfl ?_
            refine s_aload (pc := 117) rfl rfl ?_
            refine s_cv (pc := 119) (d := (d + 1)) (t := []) rfl rfl (am_ca_v (ps := [.ref x4, .int (iz ((mu m 28 1 ((m 28 1) - 1)) 29 ((mu m 28 1 ((m 28 1) - 1)) 28 1).toNat))]) rfl ko_28) (Nat.le_of_ble_eq_true rfl) (Cv.weak hw fun m15 J16 P17 hw => ?_)
            obtain ⟨hp19, hw⟩ := hw
            refine s_iconst (pc := 122) rfl ?_
            refine s_istore (pc := 123) (L' := [some (.ref 28), some (.ref x1), some (.int (iz x2)), some (.int (iz x3)), some (.ref x4), some (.int (iz x5)), some (.int (iz x6)), some (.int (iz ((mu m 28 1 ((m 28 1) - 1)) 29 ((mu m 28 1 ((m 28 1) - 1)) 28 1).toNat))), some (.int (iz 1)), some (.int (iz 0)), none]) rfl (Nat.le_of_ble_eq_true rfl) rfl ?_
            refine s_iconst (pc := 125) rfl ?_
            refine s_istore (pc := 126) (L' := [some (.ref 28), some (.ref x1), some (.int (iz x2)), some (.int (iz x3)), some (.ref x4), some (.int (iz x5)), some (.int (iz x6)), some (.int (iz ((mu m 28 1 ((m 28 1) - 1)) 29 ((mu m 28 1 ((m 28 1) - 1)) 28 1).toNat))), some (.int (iz 1)), some (.int (iz 0)), some (.int (iz 0))]) rfl (Nat.le_of_ble_eq_true rfl) rfl ?_
            exact hw
        · replace hw := hw.2 hc
          refine s_iload (pc := 87) rfl rfl ?_
          refine s_bipush (pc := 89) rfl (by decide) ?_
          obtain ⟨hz20, hw⟩ := hw
          refine s_ic_lt (pc := 91) (tgt := 98) rfl rfl hz20 (by decide) (fun hc => ?_) (fun hc => ?_)
          · replace hw := hw.1 hc
            refine s_iconst (pc := 98) rfl ?_
            refine s_istore (pc := 99) (L' := [some (.ref 28), some (.ref x1), some (.int (iz x2)), some (.int (iz x3)), some (.ref x4), some (.int (iz x5)), some (.int (iz x6)), some (.int (iz ((mu m 28 1 ((m 28 1) - 1)) 29 ((mu m 28 1 ((m 28 1) - 1)) 28 1).toNat))), some (.int (iz 0)), none, none]) rfl (Nat.le_of_ble_eq_true rfl) rfl ?_
            refine s_aload_n (pc := 101) rfl rfl ?_
            refine s_iload (pc := 102) rfl rfl ?_
            obtain ⟨hz21, hw⟩ := hw
            refine s_if_ge (pc := 104) (tgt := 112) rfl rfl hz21 (fun hc => ?_) (fun hc => ?_)
            · replace hw := hw.1 hc
              refine s_iload (pc := 112) rfl rfl ?_
              refine s_bipush (pc := 114) rfl (by decide) ?_
              refine s_iand (pc := 116) rfl ?_
              refine s_aload (pc := 117) rfl rfl ?_
              refine s_cv (pc := 119) (d := (d + 1)) (t := []) rfl rfl (am_ca_v (ps := [.ref x4, .int (iz (zand ((mu m 28 1 ((m 28 1) - 1)) 29 ((mu m 28 1 ((m 28 1) - 1)) 28 1).toNat) 31))]) rfl ko_28) (Nat.le_of_ble_eq_true rfl) (Cv.weak hw fun m22 J23 P24 hw => ?_)
              obtain ⟨hp26, hw⟩ := hw
              refine s_iconst (pc := 122) rfl ?_
              refine s_istore (pc := 123) (L' := [some (.ref 28), some (.ref x1), some (.int (iz x2)), some (.int (iz x3)), some (.ref x4), some (.int (iz x5)), some (.int (iz x6)), some (.int (iz ((mu m 28 1 ((m 28 1) - 1)) 29 ((mu m 28 1 ((m 28 1) - 1)) 28 1).toNat))), some (.int (iz 0)), some (.int (iz 0)), none]) rfl (Nat.le_of_ble_eq_true rfl) rfl ?_
              refine s_iconst (pc := 125) rfl ?_
              refine s_istore (pc := 126) (L' := [some (.ref 28), some (.ref x1), some (.int (iz x2)), some (.int (iz x3)), some (.ref x4), some (.int (iz x5)), some (.int (iz x6)), some (.int (iz ((mu m 28 1 ((m 28 1) - 1)) 29 ((mu m 28 1 ((m 28 1) - 1)) 28 1).toNat))), some (.int (iz 0)), some (.int (iz 0)), some (.int (iz 0))]) rfl (Nat.le_of_ble_eq_true rfl) rfl ?_
              exact hw
            · replace hw := hw.2 hc
              refine s_iload (pc := 107) rfl rfl ?_
              refine s_goto (pc := 109) (tgt := 117) rfl rfl ?_
              refine s_aload (pc := 117) rfl rfl ?_
              refine s_cv (pc := 119) (d := (d + 1)) (t := []) rfl rfl (am_ca_v (ps := [.ref x4, .int (iz ((mu m 28 1 ((m 28 1) - 1)) 29 ((mu m 28 1 ((m 28 1) - 1)) 28 1).toNat))]) rfl ko_28) (Nat.le_of_ble_eq_true rfl) (Cv.weak hw fun m27 J28 P29 hw => ?_)
              obtain ⟨hp31, hw⟩ := hw
              refine s_iconst (pc := 122) rfl ?_
              refine s_istore (pc := 123) (L' := [some (.ref 28), some (.ref x1), some (.int (iz x2)), some (.int (iz x3)), some (.ref x4), some (.int (iz x5)), some (.int (iz x6)), some (.int (iz ((mu m 28 1 ((m 28 1) - 1)) 29 ((mu m 28 1 ((m 28 1) - 1)) 28 1).toNat))), some (.int (iz 0)), some (.int (iz 0)), none]) rfl (Nat.le_of_ble_eq_true rfl) rfl ?_
              refine s_iconst (pc := 125) rfl ?_
              refine s_istore (pc := 126) (L' := [some (.ref 28), some (.ref x1), some (.int (iz x2)), some (.int (iz x3)), some (.ref x4), some (.int (iz x5)), some (.int (iz x6)), some (.int (iz ((mu m 28 1 ((m 28 1) - 1)) 29 ((mu m 28 1 ((m 28 1) - 1)) 28 1).toNat))), some (.int (iz 0)), some (.int (iz 0)), some (.int (iz 0))]) rfl (Nat.le_of_ble_eq_true rfl) rfl ?_
              exact hw
          · replace hw := hw.2 hc
            refine s_iconst (pc := 94) rfl ?_
            refine s_goto (pc := 95) (tgt := 99) rfl rfl ?_
            refine s_istore (pc := 99) (L' := [some (.ref 28), some (.ref x1), some (.int (iz x2)), some (.int (iz x3)), some (.ref x4), some (.int (iz x5)), some (.int (iz x6)), some (.int (iz ((mu m 28 1 ((m 28 1) - 1)) 29 ((mu m 28 1 ((m 28 1) - 1)) 28 1).toNat))), some (.int (iz 1)), none, none]) rfl (Nat.le_of_ble_eq_true rfl) rfl ?_
            refine s_aload_n (pc := 101) rfl rfl ?_
            refine s_iload (pc := 102) rfl rfl ?_
            obtain ⟨hz32, hw⟩ := hw
            refine s_if_ge (pc := 104) (tgt := 112) rfl rfl hz32 (fun hc => ?_) (fun hc => ?_)
            · replace hw := hw.1 hc
              refine s_iload (pc := 112) rfl rfl ?_
              refine s_bipush (pc := 114) rfl (by decide) ?_
              refine s_iand (pc := 116) rfl ?_
              refine s_aload (pc := 117) rfl rfl ?_
              refine s_cv (pc := 119) (d := (d + 1)) (t := []) rfl rfl (am_ca_v (ps := [.ref x4, .int (iz (zand ((mu m 28 1 ((m 28 1) - 1)) 29 ((mu m 28 1 ((m 28 1) - 1)) 28 1).toNat) 31))]) rfl ko_28) (Nat.le_of_ble_eq_true rfl) (Cv.weak hw fun m33 J34 P35 hw => ?_)
              obtain ⟨hp37, hw⟩ := hw
              refine s_iconst (pc := 122) rfl ?_
              refine s_istore (pc := 123) (L' := [some (.ref 28), some (.ref x1), some (.int (iz x2)), some (.int (iz x3)), some (.ref x4), some (.int (iz x5)), some (.int (iz x6)), some (.int (iz ((mu m 28 1 ((m 28 1) - 1)) 29 ((mu m 28 1 ((m 28 1) - 1)) 28 1).toNat))), some (.int (iz 1)), some (.int (iz 0)), none]) rfl (Nat.le_of_ble_eq_true rfl) rfl ?_
              refine s_iconst (pc := 125) rfl ?_
              refine s_istore (pc := 126) (L' := [some (.ref 28), some (.ref x1), some (.int (iz x2)), some (.int (iz x3)), some (.ref x4), some (.int (iz x5)), some (.int (iz x6)), some (.int (iz ((mu m 28 1 ((m 28 1) - 1)) 29 ((mu m 28 1 ((m 28 1) - 1)) 28 1).toNat))), some (.int (iz 1)), some (.int (iz 0)), some (.int (iz 0))]) rfl (Nat.le_of_ble_eq_true rfl) rfl ?_
              exact hw
            · replace hw := hw.2 hc
              refine s_iload (pc := 107) rfl rfl ?_
              refine s_goto (pc := 109) (tgt := 117) rfl rfl ?_
              refine s_aload (pc := 117) rfl rfl ?_
              refine s_cv (pc := 119) (d := (d + 1)) (t := []) rfl rfl (am_ca_v (ps := [.ref x4, .int (iz ((mu m 28 1 ((m 28 1) - 1)) 29 ((mu m 28 1 ((m 28 1) - 1)) 28 1).toNat))]) rfl ko_28) (Nat.le_of_ble_eq_true rfl) (Cv.weak hw fun m38 J39 P40 hw => ?_)
              obtain ⟨hp42, hw⟩ := hw
              refine s_iconst (pc := 122) rfl ?_
              refine s_istore (pc := 123) (L' := [some (.ref 28), some (.ref x1), some (.int (iz x2)), some (.int (iz x3)), some (.ref x4), some (.int (iz x5)), some (.int (iz x6)), some (.int (iz ((mu m 28 1 ((m 28 1) - 1)) 29 ((mu m 28 1 ((m 28 1) - 1)) 28 1).toNat))), some (.int (iz 1)), some (.int (iz 0)), none]) rfl (Nat.le_of_ble_eq_true rfl) rfl ?_
              refine s_iconst (pc := 125) rfl ?_
              refine s_istore (pc := 126) (L' := [some (.ref 28), some (.ref x1), some (.int (iz x2)), some (.int (iz x3)), some (.ref x4), some (.int (iz x5)), some (.int (iz x6)), some (.int (iz ((mu m 28 1 ((m 28 1) - 1)) 29 ((mu m 28 1 ((m 28 1) - 1)) 28 1).toNat))), some (.int (iz 1)), some (.int (iz 0)), some (.int (iz 0))]) rfl (Nat.le_of_ble_eq_true rfl) rfl ?_
              exact hw

set_option maxRecDepth 20000 in
set_option maxHeartbeats 4000000 in
theorem b_Reducer_reduce_128 {X : aX} {d : Nat} (x1 nx1 : Nat) (x2 : Int) (x3 : Int) (x4 : Nat) (x5 : Int) (x6 : Int) (x7 : Int) (x8 : Int) (x9 : Int) (x10 : Int) (kx1 : am_kd an_K x1 = some (.inr (0, nx1))) (bx1 : nx1 ≤ 100000) (kx4 : am_kd an_K x4 = some (.inl 10)) (m : Mi) (J : Mj) (P : Mp) (hp : PP P) (post : Int → Mi → Mj → Mp → Prop)
    (hw : Zr (x10) ∧ Zr (m x4 5) ∧ ((((m x4 5) ≤ x10) → Rn X (d + 2) 67 42 [some (.ref 28), some (.ref x1), some (.int (iz x2)), some (.int (iz x3)), some (.ref x4), some (.int (iz x5)), some (.int (iz (x6 + 1))), none, none, none, none] [] (SS m J P) (QI post)) ∧ (¬ ((m x4 5) ≤ x10) → Zr (x8) ∧ (((¬ x8 = 0) → Rn X (d + 2) 67 42 [some (.ref 28), some (.ref x1), some (.int (iz x2)), some (.int (iz x3)), some (.ref x4), some (.int (iz x5)), some (.int (iz (x6 + 1))), none, none, none, none] [] (SS m J P) (QI post)) ∧ (¬ (¬ x8 = 0) → Zr (x9) ∧ (((¬ x9 = 0) → Rn X (d + 2) 67 42 [some (.ref 28), some (.ref x1), some (.int (iz x2)), some (.int (iz x3)), some (.ref x4), some (.int (iz x5)), some (.int (iz (x6 + 1))), none, none, none, none] [] (SS m J P) (QI post)) ∧ (¬ (¬ x9 = 0) → ((0 : Int) ≤ x10 ∧ (x10 : Int) < 16) ∧ Ci X (d + 1) 69 [.ref 28, .ref (x4 + 5 + 6 * x10.toNat)] m J P (fun z9 m6 J7 P8 => PP P8 ∧ Zr (z9) ∧ (((z9 = 0) → Rn X (d + 2) 67 128 [some (.ref 28), some (.ref x1), some (.int (iz x2)), some (.int (iz x3)), some (.ref x4), some (.int (iz x5)), some (.int (iz x6)), some (.int (iz x7)), some (.int (iz x8)), some (.int (iz z9)), some (.int (iz (x10 + 1)))] [] (SS m6 J7 P8) (QI post)) ∧ (¬ (z9 = 0) → ((0 : Int) ≤ x10 ∧ (x10 : Int) < 16) ∧ Ci X (d + 1) 71 [.ref 28, .ref (x4 + 5 + 6 * x10.toNat)] m6 J7 P8 (fun z16 m13 J14 P15 => PP P15 ∧ Rn X (d + 2) 67 128 [some (.ref 28), some (.ref x1), some (.int (iz x2)), some (.int (iz x3)), some (.ref x4), some (.int (iz z16)), some (.int (iz x6)), some (.int (iz x7)), some (.int (iz x8)), some (.int (iz z9)), some (.int (iz (x10 + 1)))] [] (SS m13 J14 P15) (QI post)))))))))))) : Rn X (d + 2) 67 128 [some (.ref 28), some (.ref x1), some (.int (iz x2)), some (.int (iz x3)), some (.ref x4), some (.int (iz x5)), some (.int (iz x6)), some (.int (iz x7)), some (.int (iz x8)), some (.int (iz x9)), some (.int (iz x10))] [] (SS m J P) (QI post) := by
  refine s_iload (pc := 128) rfl rfl ?_
  refine s_aload (pc := 130) rfl rfl ?_
  refine s_getI (pc := 132) rfl kx4 ?_
  obtain ⟨hz1, hw⟩ := hw
  obtain ⟨hz2, hw⟩ := hw
  refine s_ic_ge (pc := 135) (tgt := 187) rfl rfl hz1 hz2 (fun hc => ?_) (fun hc => ?_)
  · replace hw := hw.1 hc
    refine s_iinc (pc := 187) (L' := [some (.ref 28), some (.ref x1), some (.int (iz x2)), some (.int (iz x3)), some (.ref x4), some (.int (iz x5)), some (.int (iz (x6 + 1))), some (.int (iz x7)), some (.int (iz x8)), some (.int (iz x9)), some (.int (iz x10))]) rfl rfl (Nat.le_of_ble_eq_true rfl) rfl ?_
    refine s_goto (pc := 190) (tgt := 42) rfl rfl ?_
    exact Rn.weakL hw (LLe.keep _ (LLe.keep _ (LLe.keep _ (LLe.keep _ (LLe.keep _ (LLe.keep _ (LLe.keep _ (LLe.drop _ (LLe.drop _ (LLe.drop _ (LLe.drop _ (LLe.nil))))))))))))
  · replace hw := hw.2 hc
    refine s_iload (pc := 138) rfl rfl ?_
    obtain ⟨hz3, hw⟩ := hw
    refine s_if_ne (pc := 140) (tgt := 187) rfl rfl hz3 (fun hc => ?_) (fun hc => ?_)
    · replace hw := hw.1 hc
      refine s_iinc (pc := 187) (L' := [some (.ref 28), some (.ref x1), some (.int (iz x2)), some (.int (iz x3)), some (.ref x4), some (.int (iz x5)), some (.int (iz (x6 + 1))), some (.int (iz x7)), some (.int (iz x8)), some (.int (iz x9)), some (.int (iz x10))]) rfl rfl (Nat.le_of_ble_eq_true rfl) rfl ?_
      refine s_goto (pc := 190) (tgt := 42) rfl rfl ?_
      exact Rn.weakL hw (LLe.keep _ (LLe.keep _ (LLe.keep _ (LLe.keep _ (LLe.keep _ (LLe.keep _ (LLe.keep _ (LLe.drop _ (LLe.drop _ (LLe.drop _ (LLe.drop _ (LLe.nil))))))))))))
    · replace hw := hw.2 hc
      refine s_iload (pc := 143) rfl rfl ?_
      obtain ⟨hz4, hw⟩ := hw
      refine s_if_ne (pc := 145) (tgt := 187) rfl rfl hz4 (fun hc => ?_) (fun hc => ?_)
      · replace hw := hw.1 hc
        refine s_iinc (pc := 187) (L' := [some (.ref 28), some (.ref x1), some (.int (iz x2)), some (.int (iz x3)), some (.ref x4), some (.int (iz x5)), some (.int (iz (x6 + 1))), some (.int (iz x7)), some (.int (iz x8)), some (.int (iz x9)), some (.int (iz x10))]) rfl rfl (Nat.le_of_ble_eq_true rfl) rfl ?_
        refine s_goto (pc := 190) (tgt := 42) rfl rfl ?_
        exact Rn.weakL hw (LLe.keep _ (LLe.keep _ (LLe.keep _ (LLe.keep _ (LLe.keep _ (LLe.keep _ (LLe.keep _ (LLe.drop _ (LLe.drop _ (LLe.drop _ (LLe.drop _ (LLe.nil))))))))))))
      · replace hw := hw.2 hc
        refine s_aload_n (pc := 148) rfl rfl ?_
        refine s_aload (pc := 149) rfl rfl ?_
        refine s_getA (pc := 151) rfl kx4 (pc_10_3 hp kx4) ?_
        refine s_iload (pc := 154) rfl rfl ?_
        obtain ⟨hb5, hw⟩ := hw
        refine s_aald (pc := 156) rfl (kc_10_3 kx4) (by decide) hb5 (pr hp kx4 hb5) ?_
        refine s_ci (pc := 157) (d := (d + 1)) (t := []) rfl rfl (am_ca_v (ps := [.ref (x4 + 5 + 6 * x10.toNat)]) rfl ko_28) (Nat.le_of_ble_eq_true rfl) (Ci.weak hw fun z9 m6 J7 P8 hw => ?_)
        obtain ⟨hp10, hw⟩ := hw
        refine s_istore (pc := 160) (L' := [some (.ref 28), some (.ref x1), some (.int (iz x2)), some (.int (iz x3)), some (.ref x4), some (.int (iz x5)), some (.int (iz x6)), some (.int (iz x7)), some (.int (iz x8)), some (.int (iz z9)), some (.int (iz x10))]) rfl (Nat.le_of_ble_eq_true rfl) rfl ?_
        refine s_iload (pc := 162) rfl rfl ?_
        obtain ⟨hz11, hw⟩ := hw
        refine s_if_eq (pc := 164) (tgt := 181) rfl rfl hz11 (fun hc => ?_) (fun hc => ?_)
        · replace hw := hw.1 hc
          refine s_iinc (pc := 181) (L' := [some (.ref 28), some (.ref x1), some (.int (iz x2)), some (.int (iz x3)), some (.ref x4), some (.int (iz x5)), some (.int (iz x6)), some (.int (iz x7)), some (.int (iz x8)), some (.int (iz z9)), some (.int (iz (x10 + 1)))]) rfl rfl (Nat.le_of_ble_eq_true rfl) rfl ?_
          refine s_goto (pc := 184) (tgt := 128) rfl rfl ?_
          exact hw
        · replace hw := hw.2 hc
          refine s_aload_n (pc := 167) rfl rfl ?_
          refine s_aload (pc := 168) rfl rfl ?_
          refine s_getA (pc := 170) rfl kx4 (pc_10_3 hp10 kx4) ?_
          refine s_iload (pc := 173) rfl rfl ?_
          obtain ⟨hb12, hw⟩ := hw
          refine s_aald (pc := 175) rfl (kc_10_3 kx4) (by decide) hb12 (pr hp10 kx4 hb12) ?_
          refine s_ci (pc := 176) (d := (d + 1)) (t := []) rfl rfl (am_ca_v (ps := [.ref (x4 + 5 + 6 * x10.toNat)]) rfl ko_28) (Nat.le_of_ble_eq_true rfl) (Ci.weak hw fun z16 m13 J14 P15 hw => ?_)
          obtain ⟨hp17, hw⟩ := hw
          refine s_istore (pc := 179) (L' := [some (.ref 28), some (.ref x1), some (.int (iz x2)), some (.int (iz x3)), some (.ref x4), some (.int (iz z16)), some (.int (iz x6)), some (.int (iz x7)), some (.int (iz x8)), some (.int (iz z9)), some (.int (iz x10))]) rfl (Nat.le_of_ble_eq_true rfl) rfl ?_
          refine s_iinc (pc := 181) (L' := [some (.ref 28), some (.ref x1), some (.int (iz x2)), some (.int (iz x3)), some (.ref x4), some (.int (iz z16)), some (.int (iz x6)), some (.int (iz x7)), some (.int (iz x8)), some (.int (iz z9)), some (.int (iz (x10 + 1)))]) rfl rfl (Nat.le_of_ble_eq_true rfl) rfl ?_
          refine s_goto (pc := 184) (tgt := 128) rfl rfl ?_
          exact hw

set_option maxRecDepth 20000 in
set_option maxHeartbeats 4000000 in
theorem b_Reducer_settle_0 {X : aX} {d : Nat} (x1 : Int) (x2 : Nat) (kx2 : am_kd an_K x2 = some (.inl 10)) (m : Mi) (J : Mj) (P : Mp) (hp : PP P) (post : Mi → Mj → Mp → Prop)
    (hw : Ci X d 40 [.ref x2, .int (iz x1)] m J P (fun z4 m1 J2 P3 => PP P3 ∧ Rn X (d + 1) 68 12 [some (.ref 28), some (.int (iz x1)), some (.ref x2), some (.int (iz (m 28 4))), some (.int (iz z4))] [] (SS m1 J2 P3) (QV post))) : Rn X (d + 1) 68 0 [some (.ref 28), some (.int (iz x1)), some (.ref x2), none, none] [] (SS m J P) (QV post) := by
  refine s_aload_n (pc := 0) rfl rfl ?_
  refine s_getI (pc := 1) rfl ko_28 ?_
  refine s_istore_n (pc := 4) (L' := [some (.ref 28), some (.int (iz x1)), some (.ref x2), some (.int (iz (m 28 4))), none]) rfl (Nat.le_of_ble_eq_true rfl) rfl ?_
  refine s_aload_n (pc := 5) rfl rfl ?_
  refine s_iload_n (pc := 6) rfl rfl ?_
  refine s_ci (pc := 7) (d := d) (t := []) rfl rfl (am_ca_v (ps := [.int (iz x1)]) rfl kx2) (Nat.le_of_ble_eq_true rfl) (Ci.weak hw fun z4 m1 J2 P3 hw => ?_)
  obtain ⟨hp5, hw⟩ := hw
  refine s_istore (pc := 10) (L' := [some (.ref 28), some (.int (iz x1)), some (.ref x2), some (.int (iz (m 28 4))), some (.int (iz z4))]) rfl (Nat.le_of_ble_eq_true rfl) rfl ?_
  exact hw

set_option maxRecDepth 20000 in
set_option maxHeartbeats 4000000 in
theorem b_Reducer_settle_12 {X : aX} {d : Nat} (x1 : Int) (x2 : Nat) (x3 : Int) (x4 : Int) (kx2 : am_kd an_K x2 = some (.inl 10)) (m : Mi) (J : Mj) (P : Mp) (hp : PP P) (post : Mi → Mj → Mp → Prop)
    (hw : Zr (x4) ∧ (((x4 ≤ 0) → Zr (m 28 4) ∧ (((0 < (m 28 4)) → ((0 : Int) ≤ ((mu m 28 4 ((m 28 4) - 1)) 28 4) ∧ (((mu m 28 4 ((m 28 4) - 1)) 28 4) : Int) < 200) ∧ ((0 : Int) ≤ ((mu (mu m 28 4 ((m 28 4) - 1)) 30 ((mu m 28 4 ((m 28 4) - 1)) 28 4).toNat x1) 28 4) ∧ (((mu (mu m 28 4 ((m 28 4) - 1)) 30 ((mu m 28 4 ((m 28 4) - 1)) 28 4).toNat x1) 28 4) : Int) < 200) ∧ post (mu (mu (mu m 28 4 ((m 28 4) - 1)) 30 ((mu m 28 4 ((m 28 4) - 1)) 28 4).toNat x1) 31 ((mu (mu m 28 4 ((m 28 4) - 1)) 30 ((mu m 28 4 ((m 28 4) - 1)) 28 4).toNat x1) 28 4).toNat (x3 - ((mu (mu m 28 4 ((m 28 4) - 1)) 30 ((mu m 28 4 ((m 28 4) - 1)) 28 4).toNat x1) 28 4))) J P) ∧ (¬ (0 < (m 28 4)) → post m J P))) ∧ (¬ (x4 ≤ 0) → Zr (x3) ∧ (((200 ≤ x3) → Zr (m 28 4) ∧ (((0 < (m 28 4)) → ((0 : Int) ≤ ((mu m 28 4 ((m 28 4) - 1)) 28 4) ∧ (((mu m 28 4 ((m 28 4) - 1)) 28 4) : Int) < 200) ∧ ((0 : Int) ≤ ((mu (mu m 28 4 ((m 28 4) - 1)) 30 ((mu m 28 4 ((m 28 4) - 1)) 28 4).toNat x1) 28 4) ∧ (((mu (mu m 28 4 ((m 28 4) - 1)) 30 ((mu m 28 4 ((m 28 4) - 1)) 28 4).toNat x1) 28 4) : Int) < 200) ∧ post (mu (mu (mu m 28 4 ((m 28 4) - 1)) 30 ((mu m 28 4 ((m 28 4) - 1)) 28 4).toNat x1) 31 ((mu (mu m 28 4 ((m 28 4) - 1)) 30 ((mu m 28 4 ((m 28 4) - 1)) 28 4).toNat x1) 28 4).toNat (x3 - ((mu (mu m 28 4 ((m 28 4) - 1)) 30 ((mu m 28 4 ((m 28 4) - 1)) 28 4).toNat x1) 28 4))) J P) ∧ (¬ (0 < (m 28 4)) → post m J P))) ∧ (¬ (200 ≤ x3) → ((0 : Int) ≤ x3 ∧ (x3 : Int) < 200) ∧ Rn X (d + 1) 68 12 [some (.ref 28), some (.int (iz x1)), some (.ref x2), some (.int (iz (x3 + (m 31 x3.toNat)))), some (.int (iz (x4 + (-1))))] [] (SS m J P) (QV post)))))) : Rn X (d + 1) 68 12 [some (.ref 28), some (.int (iz x1)), some (.ref x2), some (.int (iz x3)), some (.int (iz x4))] [] (SS m J P) (QV post) := by
  refine s_iload (pc := 12) rfl rfl ?_
  obtain ⟨hz1, hw⟩ := hw
  refine s_if_le (pc := 14) (tgt := 39) rfl rfl hz1 (fun hc => ?_) (fun hc => ?_)
  · replace hw := hw.1 hc
    refine s_aload_n (pc := 39) rfl rfl ?_
    refine s_getI (pc := 40) rfl ko_28 ?_
    obtain ⟨hz2, hw⟩ := hw
    refine s_if_gt (pc := 43) (tgt := 47) rfl rfl hz2 (fun hc => ?_) (fun hc => ?_)
    · replace hw := hw.1 hc
      refine s_aload_n (pc := 47) rfl rfl ?_
      refine s_dup (pc := 48) rfl rfl ?_
      refine s_getI (pc := 49) rfl ko_28 ?_
      refine s_iconst (pc := 52) rfl ?_
      refine s_isub (pc := 53) rfl ?_
      refine s_putI (pc := 54) rfl ko_28 ?_
      refine s_aload_n (pc := 57) rfl rfl ?_
      refine s_getA (pc := 58) rfl ko_28 (po_28_2 hp) ?_
      refine s_aload_n (pc := 61) rfl rfl ?_
      refine s_getI (pc := 62) rfl ko_28 ?_
      refine s_iload_n (pc := 65) rfl rfl ?_
      obtain ⟨hb3, hw⟩ := hw
      refine s_iast (pc := 66) rfl ka_30 (by decide) hb3 ?_
      refine s_aload_n (pc := 67) rfl rfl ?_
      refine s_getA (pc := 68) rfl ko_28 (po_28_3 hp) ?_
      refine s_aload_n (pc := 71) rfl rfl ?_
      refine s_getI (pc := 72) rfl ko_28 ?_
      refine s_iload_n (pc := 75) rfl rfl ?_
      refine s_aload_n (pc := 76) rfl rfl ?_
      refine s_getI (pc := 77) rfl ko_28 ?_
      refine s_isub (pc := 80) rfl ?_
      obtain ⟨hb4, hw⟩ := hw
      refine s_iast (pc := 81) rfl ka_31 (by decide) hb4 ?_
      exact s_retv (pc := 82) rfl rfl hw
    · replace hw := hw.2 hc
      exact s_retv (pc := 46) rfl rfl hw
  · replace hw := hw.2 hc
    refine s_iload_n (pc := 17) rfl rfl ?_
    refine s_sipush (pc := 18) rfl (by decide) ?_
    obtain ⟨hz5, hw⟩ := hw
    refine s_ic_ge (pc := 21) (tgt := 39) rfl rfl hz5 (by decide) (fun hc => ?_) (fun hc => ?_)
    · replace hw := hw.1 hc
      refine s_aload_n (pc := 39) rfl rfl ?_
      refine s_getI (pc := 40) rfl ko_28 ?_
      obtain ⟨hz6, hw⟩ := hw
      refine s_if_gt (pc := 43) (tgt := 47) rfl rfl hz6 (fun hc => ?_) (fun hc => ?_)
      · replace hw := hw.1 hc
        refine s_aload_n (pc := 47) rfl rfl ?_
        refine s_dup (pc := 48) rfl rfl ?_
        refine s_getI (pc := 49) rfl ko_28 ?_
        refine s_iconst (pc := 52) rfl ?_
        refine s_isub (pc := 53) rfl ?_
        refine s_putI (pc := 54) rfl ko_28 ?_
        refine s_aload_n (pc := 57) rfl rfl ?_
        refine s_getA (pc := 58) rfl ko_28 (po_28_2 hp) ?_
        refine s_aload_n (pc := 61) rfl rfl ?_
        refine s_getI (pc := 62) rfl ko_28 ?_
        refine s_iload_n (pc := 65) rfl rfl ?_
        obtain ⟨hb7, hw⟩ := hw
        refine s_iast (pc := 66) rfl ka_30 (by decide) hb7 ?_
        refine s_aload_n (pc := 67) rfl rfl ?_
        refine s_getA (pc := 68) rfl ko_28 (po_28_3 hp) ?_
        refine s_aload_n (pc := 71) rfl rfl ?_
        refine s_getI (pc := 72) rfl ko_28 ?_
        refine s_iload_n (pc := 75) rfl rfl ?_
        refine s_aload_n (pc := 76) rfl rfl ?_
        refine s_getI (pc := 77) rfl ko_28 ?_
        refine s_isub (pc := 80) rfl ?_
        obtain ⟨hb8, hw⟩ := hw
        refine s_iast (pc := 81) rfl ka_31 (by decide) hb8 ?_
        exact s_retv (pc := 82) rfl rfl hw
      · replace hw := hw.2 hc
        exact s_retv (pc := 46) rfl rfl hw
    · replace hw := hw.2 hc
      refine s_iload_n (pc := 24) rfl rfl ?_
      refine s_aload_n (pc := 25) rfl rfl ?_
      refine s_getA (pc := 26) rfl ko_28 (po_28_3 hp) ?_
      refine s_iload_n (pc := 29) rfl rfl ?_
      obtain ⟨hb9, hw⟩ := hw
      refine s_iald (pc := 30) rfl ka_31 (by decide) hb9 ?_
      refine s_iadd (pc := 31) rfl ?_
      refine s_istore_n (pc := 32) (L' := [some (.ref 28), some (.int (iz x1)), some (.ref x2), some (.int (iz (x3 + (m 31 x3.toNat)))), some (.int (iz x4))]) rfl (Nat.le_of_ble_eq_true rfl) rfl ?_
      refine s_iinc (pc := 33) (L' := [some (.ref 28), some (.int (iz x1)), some (.ref x2), some (.int (iz (x3 + (m 31 x3.toNat)))), some (.int (iz (x4 + (-1))))]) rfl rfl (Nat.le_of_ble_eq_true rfl) rfl ?_
      refine s_goto (pc := 36) (tgt := 12) rfl rfl ?_
      exact hw

set_option maxRecDepth 20000 in
set_option maxHeartbeats 4000000 in
theorem b_Reducer_fits_0 {X : aX} {d : Nat} (x1 : Nat) (kx1 : am_kd an_K x1 = some (.inl 8)) (m : Mi) (J : Mj) (P : Mp) (hp : PP P) (post : Int → Mi → Mj → Mp → Prop)
    (hw : Rn X (d + 1) 69 2 [some (.ref 28), some (.ref x1), some (.int (iz 0)), none, none, none] [] (SS m J P) (QI post)) : Rn X (d + 1) 69 0 [some (.ref 28), some (.ref x1), none, none, none, none] [] (SS m J P) (QI post) := by
  refine s_iconst (pc := 0) rfl ?_
  refine s_istore_n (pc := 1) (L' := [some (.ref 28), some (.ref x1), some (.int (iz 0)), none, none, none]) rfl (Nat.le_of_ble_eq_true rfl) rfl ?_
  exact hw

set_option maxRecDepth 20000 in
set_option maxHeartbeats 4000000 in
theorem b_Reducer_fits_2 {X : aX} {d : Nat} (x1 : Nat) (x2 : Int) (kx1 : am_kd an_K x1 = some (.inl 8)) (m : Mi) (J : Mj) (P : Mp) (hp : PP P) (post : Int → Mi → Mj → Mp → Prop)
    (hw : Zr (x2) ∧ (((8 ≤ x2) → Rn X (d + 1) 69 28 [some (.ref 28), some (.ref x1), some (.int (iz (m 28 4))), some (.int (iz 0)), none, none] [] (SS m J P) (QI post)) ∧ (¬ (8 ≤ x2) → ((0 : Int) ≤ x2 ∧ (x2 : Int) < 8) ∧ Rn X (d + 1) 69 2 [some (.ref 28), some (.ref x1), some (.int (iz (x2 + 1))), none, none, none] [] (SS (mu m 33 x2.toNat ((-1))) J P) (QI post)))) : Rn X (d + 1) 69 2 [some (.ref 28), some (.ref x1), some (.int (iz x2)), none, none, none] [] (SS m J P) (QI post) := by
  refine s_iload_n (pc := 2) rfl rfl ?_
  refine s_bipush (pc := 3) rfl (by decide) ?_
  obtain ⟨hz1, hw⟩ := hw
  refine s_ic_ge (pc := 5) (tgt := 21) rfl rfl hz1 (by decide) (fun hc => ?_) (fun hc => ?_)
  · replace hw := hw.1 hc
    refine s_aload_n (pc := 21) rfl rfl ?_
    refine s_getI (pc := 22) rfl ko_28 ?_
    refine s_istore_n (pc := 25) (L' := [some (.ref 28), some (.ref x1), some (.int (iz (m 28 4))), none, none, none]) rfl (Nat.le_of_ble_eq_true rfl) rfl ?_
    refine s_iconst (pc := 26) rfl ?_
    refine s_istore_n (pc := 27) (L' := [some (.ref 28), some (.ref x1), some (.int (iz (m 28 4))), some (.int (iz 0)), none, none]) rfl (Nat.le_of_ble_eq_true rfl) rfl ?_
    exact hw
  · replace hw := hw.2 hc
    refine s_aload_n (pc := 8) rfl rfl ?_
    refine s_getA (pc := 9) rfl ko_28 (po_28_8 hp) ?_
    refine s_iload_n (pc := 12) rfl rfl ?_
    refine s_iconst (pc := 13) rfl ?_
    obtain ⟨hb2, hw⟩ := hw
    refine s_iast (pc := 14) rfl ka_33 (by decide) hb2 ?_
    refine s_iinc (pc := 15) (L' := [some (.ref 28), some (.ref x1), some (.int (iz (x2 + 1))), none, none, none]) rfl rfl (Nat.le_of_ble_eq_true rfl) rfl ?_
    refine s_goto (pc := 18) (tgt := 2) rfl rfl ?_
    exact hw

set_option maxRecDepth 20000 in
set_option maxHeartbeats 4000000 in
theorem b_Reducer_fits_28 {X : aX} {d : Nat} (x1 : Nat) (x2 : Int) (x3 : Int) (kx1 : am_kd an_K x1 = some (.inl 8)) (m : Mi) (J : Mj) (P : Mp) (hp : PP P) (post : Int → Mi → Mj → Mp → Prop)
    (hw : Zr (x3) ∧ Zr (m x1 5) ∧ ((((m x1 5) ≤ x3) → post 1 m J P) ∧ (¬ ((m x1 5) ≤ x3) → Zr (x2) ∧ (((x2 < 200) → ((0 : Int) ≤ x3 ∧ (x3 : Int) < 80) ∧ Zr (m (x1 + 4) x3.toNat) ∧ ((((m (x1 + 4) x3.toNat) < 0) → ((0 : Int) ≤ (((-1)) - (m (x1 + 4) x3.toNat)) ∧ ((((-1)) - (m (x1 + 4) x3.toNat)) : Int) < 8) ∧ Zr (m 33 (((-1)) - (m (x1 + 4) x3.toNat)).toNat) ∧ (((¬ (m 33 (((-1)) - (m (x1 + 4) x3.toNat)).toNat) = ((-1))) → ((0 : Int) ≤ (((-1)) - (m (x1 + 4) x3.toNat)) ∧ ((((-1)) - (m (x1 + 4) x3.toNat)) : Int) < 8) ∧ Ci X d 70 [.ref 28, .int (iz (m 33 (((-1)) - (m (x1 + 4) x3.toNat)).toNat)), .int (iz x2)] m J P (fun z12 m9 J10 P11 => PP P11 ∧ Zr (z12) ∧ (((¬ z12 = 0) → ((0 : Int) ≤ x2 ∧ (x2 : Int) < 200) ∧ Rn X (d + 1) 69 28 [some (.ref 28), some (.ref x1), some (.int (iz (x2 + (m9 31 x2.toNat)))), some (.int (iz (x3 + 1))), none, none] [] (SS m9 J10 P11) (QI post)) ∧ (¬ (¬ z12 = 0) → post 0 m9 J10 P11)))) ∧ (¬ (¬ (m 33 (((-1)) - (m (x1 + 4) x3.toNat)).toNat) = ((-1))) → ((0 : Int) ≤ (((-1)) - (m (x1 + 4) x3.toNat)) ∧ ((((-1)) - (m (x1 + 4) x3.toNat)) : Int) < 8) ∧ ((0 : Int) ≤ x2 ∧ (x2 : Int) < 200) ∧ Rn X (d + 1) 69 28 [some (.ref 28), some (.ref x1), some (.int (iz (x2 + ((mu m 33 (((-1)) - (m (x1 + 4) x3.toNat)).toNat x2) 31 x2.toNat)))), some (.int (iz (x3 + 1))), none, none] [] (SS (mu m 33 (((-1)) - (m (x1 + 4) x3.toNat)).toNat x2) J P) (QI post)))) ∧ (¬ ((m (x1 + 4) x3.toNat) < 0) → ((0 : Int) ≤ x2 ∧ (x2 : Int) < 200) ∧ Zr (m 30 x2.toNat) ∧ Zr (m (x1 + 4) x3.toNat) ∧ ((((m 30 x2.toNat) = (m (x1 + 4) x3.toNat)) → Rn X (d + 1) 69 28 [some (.ref 28), some (.ref x1), some (.int (iz (x2 + 1))), some (.int (iz (x3 + 1))), none, none] [] (SS m J P) (QI post)) ∧ (¬ ((m 30 x2.toNat) = (m (x1 + 4) x3.toNat)) → post 0 m J P))))) ∧ (¬ (x2 < 200) → post 0 m J P))))) : Rn X (d + 1) 69 28 [some (.ref 28), some (.ref x1), some (.int (iz x2)), some (.int (iz x3)), none, none] [] (SS m J P) (QI post) := by
  refine s_iload_n (pc := 28) rfl rfl ?_
  refine s_aload_n (pc := 29) rfl rfl ?_
  refine s_getI (pc := 30) rfl kx1 ?_
  obtain ⟨hz1, hw⟩ := hw
  obtain ⟨hz2, hw⟩ := hw
  refine s_ic_ge (pc := 33) (tgt := 137) rfl rfl hz1 hz2 (fun hc => ?_) (fun hc => ?_)
  · replace hw := hw.1 hc
    refine s_iconst (pc := 137) rfl ?_
    exact s_retz (pc := 138) rfl rfl (by decide) hw
  · replace hw := hw.2 hc
    refine s_iload_n (pc := 36) rfl rfl ?_
    refine s_sipush (pc := 37) rfl (by decide) ?_
    obtain ⟨hz3, hw⟩ := hw
    refine s_ic_lt (pc := 40) (tgt := 45) rfl rfl hz3 (by decide) (fun hc => ?_) (fun hc => ?_)
    · replace hw := hw.1 hc
      refine s_aload_n (pc := 45) rfl rfl ?_
      refine s_getA (pc := 46) rfl kx1 (pc_8_3 hp kx1) ?_
      refine s_iload_n (pc := 49) rfl rfl ?_
      obtain ⟨hb4, hw⟩ := hw
      refine s_iald (pc := 50) rfl (kc_8_3 kx1) (by decide) hb4 ?_
      refine s_istore (pc := 51) (L' := [some (.ref 28), some (.ref x1), some (.int (iz x2)), some (.int (iz x3)), some (.int (iz (m (x1 + 4) x3.toNat))), none]) rfl (Nat.le_of_ble_eq_true rfl) rfl ?_
      refine s_iload (pc := 53) rfl rfl ?_
      obtain ⟨hz5, hw⟩ := hw
      refine s_if_lt (pc := 55) (tgt := 77) rfl rfl hz5 (fun hc => ?_) (fun hc => ?_)
      · replace hw := hw.1 hc
        refine s_iconst (pc := 77) rfl ?_
        refine s_iload (pc := 78) rfl rfl ?_
        refine s_isub (pc := 80) rfl ?_
        refine s_istore (pc := 81) (L' := [some (.ref 28), some (.ref x1), some (.int (iz x2)), some (.int (iz x3)), some (.int (iz (m (x1 + 4) x3.toNat))), some (.int (iz (((-1)) - (m (x1 + 4) x3.toNat))))]) rfl (Nat.le_of_ble_eq_true rfl) rfl ?_
        refine s_aload_n (pc := 83) rfl rfl ?_
        refine s_getA (pc := 84) rfl ko_28 (po_28_8 hp) ?_
        refine s_iload (pc := 87) rfl rfl ?_
        obtain ⟨hb6, hw⟩ := hw
        refine s_iald (pc := 89) rfl ka_33 (by decide) hb6 ?_
        refine s_iconst (pc := 90) rfl ?_
        obtain ⟨hz7, hw⟩ := hw
        refine s_ic_ne (pc := 91) (tgt := 105) rfl rfl hz7 (by decide) (fun hc => ?_) (fun hc => ?_)
        · replace hw := hw.1 hc
          refine s_aload_n (pc := 105) rfl rfl ?_
          refine s_aload_n (pc := 106) rfl rfl ?_
          refine s_getA (pc := 107) rfl ko_28 (po_28_8 hp) ?_
          refine s_iload (pc := 110) rfl rfl ?_
          obtain ⟨hb8, hw⟩ := hw
          refine s_iald (pc := 112) rfl ka_33 (by decide) hb8 ?_
          refine s_iload_n (pc := 113) rfl rfl ?_
          refine s_ci (pc := 114) (d := d) (t := []) rfl rfl (am_ca_v (ps := [.int (iz x2), .int (iz (m 33 (((-1)) - (m (x1 + 4) x3.toNat)).toNat))]) rfl ko_28) (Nat.le_of_ble_eq_true rfl) (Ci.weak hw fun z12 m9 J10 P11 hw => ?_)
          obtain ⟨hp13, hw⟩ := hw
          obtain ⟨hz14, hw⟩ := hw
          refine s_if_ne (pc := 117) (tgt := 122) rfl rfl hz14 (fun hc => ?_) (fun hc => ?_)
          · replace hw := hw.1 hc
            refine s_iload_n (pc := 122) rfl rfl ?_
            refine s_aload_n (pc := 123) rfl rfl ?_
            refine s_getA (pc := 124) rfl ko_28 (po_28_3 hp13) ?_
            refine s_iload_n (pc := 127) rfl rfl ?_
            obtain ⟨hb15, hw⟩ := hw
            refine s_iald (pc := 128) rfl ka_31 (by decide) hb15 ?_
            refine s_iadd (pc := 129) rfl ?_
            refine s_istore_n (pc := 130) (L' := [some (.ref 28), some (.ref x1), some (.int (iz (x2 + (m9 31 x2.toNat)))), some (.int (iz x3)), some (.int (iz (m (x1 + 4) x3.toNat))), some (.int (iz (((-1)) - (m (x1 + 4) x3.toNat))))]) rfl (Nat.le_of_ble_eq_true rfl) rfl ?_
            refine s_iinc (pc := 131) (L' := [some (.ref 28), some (.ref x1), some (.int (iz (x2 + (m9 31 x2.toNat)))), some (.int (iz (x3 + 1))), some (.int (iz (m (x1 + 4) x3.toNat))), some (.int (iz (((-1)) - (m (x1 + 4) x3.toNat))))]) rfl rfl (Nat.le_of_ble_eq_true rfl) rfl ?_
            refine s_goto (pc := 134) (tgt := 28) rfl rfl ?_
            exact Rn.weakL hw (LLe.keep _ (LLe.keep _ (LLe.keep _ (LLe.keep _ (LLe.drop _ (LLe.drop _ (LLe.nil)))))))
          · replace hw := hw.2 hc
            refine s_iconst (pc := 120) rfl ?_
            exact s_retz (pc := 121) rfl rfl (by decide) hw
        · replace hw := hw.2 hc
          refine s_aload_n (pc := 94) rfl rfl ?_
          refine s_getA (pc := 95) rfl ko_28 (po_28_8 hp) ?_
          refine s_iload (pc := 98) rfl rfl ?_
          refine s_iload_n (pc := 100) rfl rfl ?_
          obtain ⟨hb16, hw⟩ := hw
          refine s_iast (pc := 101) rfl ka_33 (by decide) hb16 ?_
          refine s_goto (pc := 102) (tgt := 122) rfl rfl ?_
          refine s_iload_n (pc := 122) rfl rfl ?_
          refine s_aload_n (pc := 123) rfl rfl ?_
          refine s_getA (pc := 124) rfl ko_28 (po_28_3 hp) ?_
          refine s_iload_n (pc := 127) rfl rfl ?_
          obtain ⟨hb17, hw⟩ := hw
          refine s_iald (pc := 128) rfl ka_31 (by decide) hb17 ?_
          refine s_iadd (pc := 129) rfl ?_
          refine s_istore_n (pc := 130) (L' := [some (.ref 28), some (.ref x1), some (.int (iz (x2 + ((mu m 33 (((-1)) - (m (x1 + 4) x3.toNat)).toNat x2) 31 x2.toNat)))), some (.int (iz x3)), some (.int (iz (m (x1 + 4) x3.toNat))), some (.int (iz (((-1)) - (m (x1 + 4) x3.toNat))))]) rfl (Nat.le_of_ble_eq_true rfl) rfl ?_
          refine s_iinc (pc := 131) (L' := [some (.ref 28), some (.ref x1), some (.int (iz (x2 + ((mu m 33 (((-1)) - (m (x1 + 4) x3.toNat)).toNat x2) 31 x2.toNat)))), some (.int (iz (x3 + 1))), some (.int (iz (m (x1 + 4) x3.toNat))), some (.int (iz (((-1)) - (m (x1 + 4) x3.toNat))))]) rfl rfl (Nat.le_of_ble_eq_true rfl) rfl ?_
          refine s_goto (pc := 134) (tgt := 28) rfl rfl ?_
          exact Rn.weakL hw (LLe.keep _ (LLe.keep _ (LLe.keep _ (LLe.keep _ (LLe.drop _ (LLe.drop _ (LLe.nil)))))))
      · replace hw := hw.2 hc
        refine s_aload_n (pc := 58) rfl rfl ?_
        refine s_getA (pc := 59) rfl ko_28 (po_28_2 hp) ?_
        refine s_iload_n (pc := 62) rfl rfl ?_
        obtain ⟨hb18, hw⟩ := hw
        refine s_iald (pc := 63) rfl ka_30 (by decide) hb18 ?_
        refine s_iload (pc := 64) rfl rfl ?_
        obtain ⟨hz19, hw⟩ := hw
        obtain ⟨hz20, hw⟩ := hw
        refine s_ic_eq (pc := 66) (tgt := 71) rfl rfl hz19 hz20 (fun hc => ?_) (fun hc => ?_)
        · replace hw := hw.1 hc
          refine s_iinc (pc := 71) (L' := [some (.ref 28), some (.ref x1), some (.int (iz (x2 + 1))), some (.int (iz x3)), some (.int (iz (m (x1 + 4) x3.toNat))), none]) rfl rfl (Nat.le_of_ble_eq_true rfl) rfl ?_
          refine s_goto (pc := 74) (tgt := 131) rfl rfl ?_
          refine s_iinc (pc := 131) (L' := [some (.ref 28), some (.ref x1), some (.int (iz (x2 + 1))), some (.int (iz (x3 + 1))), some (.int (iz (m (x1 + 4) x3.toNat))), none]) rfl rfl (Nat.le_of_ble_eq_true rfl) rfl ?_
          refine s_goto (pc := 134) (tgt := 28) rfl rfl ?_
          exact Rn.weakL hw (LLe.keep _ (LLe.keep _ (LLe.keep _ (LLe.keep _ (LLe.drop _ (LLe.keep _ (LLe.nil)))))))
        · replace hw := hw.2 hc
          refine s_iconst (pc := 69) rfl ?_
          exact s_retz (pc := 70) rfl rfl (by decide) hw
    · replace hw := hw.2 hc
      refine s_iconst (pc := 43) rfl ?_
      exact s_retz (pc := 44) rfl rfl (by decide) hw

set_option maxRecDepth 20000 in
set_option maxHeartbeats 4000000 in
theorem b_Reducer_isSame_0 {X : aX} {d : Nat} (x1 : Int) (x2 : Int)  (m : Mi) (J : Mj) (P : Mp) (hp : PP P) (post : Int → Mi → Mj → Mp → Prop)
    (hw : ((0 : Int) ≤ x1 ∧ (x1 : Int) < 200) ∧ ((0 : Int) ≤ x2 ∧ (x2 : Int) < 200) ∧ Zr (m 31 x1.toNat) ∧ Zr (m 31 x2.toNat) ∧ ((((m 31 x1.toNat) = (m 31 x2.toNat)) → Rn X d 70 19 [some (.ref 28), some (.int (iz x1)), some (.int (iz x2)), some (.int (iz 0))] [] (SS m J P) (QI post)) ∧ (¬ ((m 31 x1.toNat) = (m 31 x2.toNat)) → post 0 m J P))) : Rn X d 70 0 [some (.ref 28), some (.int (iz x1)), some (.int (iz x2)), none] [] (SS m J P) (QI post) := by
  refine s_aload_n (pc := 0) rfl rfl ?_
  refine s_getA (pc := 1) rfl ko_28 (po_28_3 hp) ?_
  refine s_iload_n (pc := 4) rfl rfl ?_
  obtain ⟨hb1, hw⟩ := hw
  refine s_iald (pc := 5) rfl ka_31 (by decide) hb1 ?_
  refine s_aload_n (pc := 6) rfl rfl ?_
  refine s_getA (pc := 7) rfl ko_28 (po_28_3 hp) ?_
  refine s_iload_n (pc := 10) rfl rfl ?_
  obtain ⟨hb2, hw⟩ := hw
  refine s_iald (pc := 11) rfl ka_31 (by decide) hb2 ?_
  obtain ⟨hz3, hw⟩ := hw
  obtain ⟨hz4, hw⟩ := hw
  refine s_ic_eq (pc := 12) (tgt := 17) rfl rfl hz3 hz4 (fun hc => ?_) (fun hc => ?_)
  · replace hw := hw.1 hc
    refine s_iconst (pc := 17) rfl ?_
    refine s_istore_n (pc := 18) (L' := [some (.ref 28), some (.int (iz x1)), some (.int (iz x2)), some (.int (iz 0))]) rfl (Nat.le_of_ble_eq_true rfl) rfl ?_
    exact hw
  · replace hw := hw.2 hc
    refine s_iconst (pc := 15) rfl ?_
    exact s_retz (pc := 16) rfl rfl (by decide) hw

set_option maxRecDepth 20000 in
set_option maxHeartbeats 4000000 in
theorem b_Reducer_isSame_19 {X : aX} {d : Nat} (x1 : Int) (x2 : Int) (x3 : Int)  (m : Mi) (J : Mj) (P : Mp) (hp : PP P) (post : Int → Mi → Mj → Mp → Prop)
    (hw : ((0 : Int) ≤ x1 ∧ (x1 : Int) < 200) ∧ Zr (x3) ∧ Zr (m 31 x1.toNat) ∧ ((((m 31 x1.toNat) ≤ x3) → post 1 m J P) ∧ (¬ ((m 31 x1.toNat) ≤ x3) → ((0 : Int) ≤ (x1 + x3) ∧ ((x1 + x3) : Int) < 200) ∧ ((0 : Int) ≤ (x2 + x3) ∧ ((x2 + x3) : Int) < 200) ∧ Zr (m 30 (x1 + x3).toNat) ∧ Zr (m 30 (x2 + x3).toNat) ∧ ((((m 30 (x1 + x3).toNat) = (m 30 (x2 + x3).toNat)) → Rn X d 70 19 [some (.ref 28), some (.int (iz x1)), some (.int (iz x2)), some (.int (iz (x3 + 1)))] [] (SS m J P) (QI post)) ∧ (¬ ((m 30 (x1 + x3).toNat) = (m 30 (x2 + x3).toNat)) → post 0 m J P))))) : Rn X d 70 19 [some (.ref 28), some (.int (iz x1)), some (.int (iz x2)), some (.int (iz x3))] [] (SS m J P) (QI post) := by
  refine s_iload_n (pc := 19) rfl rfl ?_
  refine s_aload_n (pc := 20) rfl rfl ?_
  refine s_getA (pc := 21) rfl ko_28 (po_28_3 hp) ?_
  refine s_iload_n (pc := 24) rfl rfl ?_
  obtain ⟨hb1, hw⟩ := hw
  refine s_iald (pc := 25) rfl ka_31 (by decide) hb1 ?_
  obtain ⟨hz2, hw⟩ := hw
  obtain ⟨hz3, hw⟩ := hw
  refine s_ic_ge (pc := 26) (tgt := 56) rfl rfl hz2 hz3 (fun hc => ?_) (fun hc => ?_)
  · replace hw := hw.1 hc
    refine s_iconst (pc := 56) rfl ?_
    exact s_retz (pc := 57) rfl rfl (by decide) hw
  · replace hw := hw.2 hc
    refine s_aload_n (pc := 29) rfl rfl ?_
    refine s_getA (pc := 30) rfl ko_28 (po_28_2 hp) ?_
    refine s_iload_n (pc := 33) rfl rfl ?_
    refine s_iload_n (pc := 34) rfl rfl ?_
    refine s_iadd (pc := 35) rfl ?_
    obtain ⟨hb4, hw⟩ := hw
    refine s_iald (pc := 36) rfl ka_30 (by decide) hb4 ?_
    refine s_aload_n (pc := 37) rfl rfl ?_
    refine s_getA (pc := 38) rfl ko_28 (po_28_2 hp) ?_
    refine s_iload_n (pc := 41) rfl rfl ?_
    refine s_iload_n (pc := 42) rfl rfl ?_
    refine s_iadd (pc := 43) rfl ?_
    obtain ⟨hb5, hw⟩ := hw
    refine s_iald (pc := 44) rfl ka_30 (by decide) hb5 ?_
    obtain ⟨hz6, hw⟩ := hw
    obtain ⟨hz7, hw⟩ := hw
    refine s_ic_eq (pc := 45) (tgt := 50) rfl rfl hz6 hz7 (fun hc => ?_) (fun hc => ?_)
    · replace hw := hw.1 hc
      refine s_iinc (pc := 50) (L' := [some (.ref 28), some (.int (iz x1)), some (.int (iz x2)), some (.int (iz (x3 + 1)))]) rfl rfl (Nat.le_of_ble_eq_true rfl) rfl ?_
      refine s_goto (pc := 53) (tgt := 19) rfl rfl ?_
      exact hw
    · replace hw := hw.2 hc
      refine s_iconst (pc := 48) rfl ?_
      exact s_retz (pc := 49) rfl rfl (by decide) hw

set_option maxRecDepth 20000 in
set_option maxHeartbeats 4000000 in
theorem b_Reducer_contract_0 {X : aX} {d : Nat} (x1 : Nat) (kx1 : am_kd an_K x1 = some (.inl 8)) (m : Mi) (J : Mj) (P : Mp) (hp : PP P) (post : Int → Mi → Mj → Mp → Prop)
    (hw : Zr (m 28 5) ∧ ((((m 28 5) < 1000) → ((0 : Int) ≤ ((mu m 28 5 ((m 28 5) + 1)) 28 4) ∧ (((mu m 28 5 ((m 28 5) + 1)) 28 4) : Int) < 200) ∧ Rn X (d + 1) 71 48 [some (.ref 28), some (.ref x1), some (.int (iz ((mu m 28 5 ((m 28 5) + 1)) 31 ((mu m 28 5 ((m 28 5) + 1)) 28 4).toNat))), some (.int (iz ((mu (mu m 28 5 ((m 28 5) + 1)) 28 6 (((mu m 28 5 ((m 28 5) + 1)) 28 6) - ((mu m 28 5 ((m 28 5) + 1)) 31 ((mu m 28 5 ((m 28 5) + 1)) 28 4).toNat))) x1 5))), none] [] (SS (mu (mu m 28 5 ((m 28 5) + 1)) 28 6 (((mu m 28 5 ((m 28 5) + 1)) 28 6) - ((mu m 28 5 ((m 28 5) + 1)) 31 ((mu m 28 5 ((m 28 5) + 1)) 28 4).toNat))) J P) (QI post)) ∧ (¬ ((m 28 5) < 1000) → post ((-3)) m J P))) : Rn X (d + 1) 71 0 [some (.ref 28), some (.ref x1), none, none, none] [] (SS m J P) (QI post) := by
  refine s_aload_n (pc := 0) rfl rfl ?_
  refine s_getI (pc := 1) rfl ko_28 ?_
  refine s_sipush (pc := 4) rfl (by decide) ?_
  obtain ⟨hz1, hw⟩ := hw
  refine s_ic_lt (pc := 7) (tgt := 13) rfl rfl hz1 (by decide) (fun hc => ?_) (fun hc => ?_)
  · replace hw := hw.1 hc
    refine s_aload_n (pc := 13) rfl rfl ?_
    refine s_dup (pc := 14) rfl rfl ?_
    refine s_getI (pc := 15) rfl ko_28 ?_
    refine s_iconst (pc := 18) rfl ?_
    refine s_iadd (pc := 19) rfl ?_
    refine s_putI (pc := 20) rfl ko_28 ?_
    refine s_aload_n (pc := 23) rfl rfl ?_
    refine s_getA (pc := 24) rfl ko_28 (po_28_3 hp) ?_
    refine s_aload_n (pc := 27) rfl rfl ?_
    refine s_getI (pc := 28) rfl ko_28 ?_
    obtain ⟨hb2, hw⟩ := hw
    refine s_iald (pc := 31) rfl ka_31 (by decide) hb2 ?_
    refine s_istore_n (pc := 32) (L' := [some (.ref 28), some (.ref x1), some (.int (iz ((mu m 28 5 ((m 28 5) + 1)) 31 ((mu m 28 5 ((m 28 5) + 1)) 28 4).toNat))), none, none]) rfl (Nat.le_of_ble_eq_true rfl) rfl ?_
    refine s_aload_n (pc := 33) rfl rfl ?_
    refine s_dup (pc := 34) rfl rfl ?_
    refine s_getI (pc := 35) rfl ko_28 ?_
    refine s_iload_n (pc := 38) rfl rfl ?_
    refine s_isub (pc := 39) rfl ?_
    refine s_putI (pc := 40) rfl ko_28 ?_
    refine s_aload_n (pc := 43) rfl rfl ?_
    refine s_getI (pc := 44) rfl kx1 ?_
    refine s_istore_n (pc := 47) (L' := [some (.ref 28), some (.ref x1), some (.int (iz ((mu m 28 5 ((m 28 5) + 1)) 31 ((mu m 28 5 ((m 28 5) + 1)) 28 4).toNat))), some (.int (iz ((mu (mu m 28 5 ((m 28 5) + 1)) 28 6 (((mu m 28 5 ((m 28 5) + 1)) 28 6) - ((mu m 28 5 ((m 28 5) + 1)) 31 ((mu m 28 5 ((m 28 5) + 1)) 28 4).toNat))) x1 5))), none]) rfl (Nat.le_of_ble_eq_true rfl) rfl ?_
    exact hw
  · replace hw := hw.2 hc
    refine s_bipush (pc := 10) rfl (by decide) ?_
    exact s_reti (pc := 12) rfl rfl hw

set_option maxRecDepth 20000 in
set_option maxHeartbeats 4000000 in
theorem b_Reducer_contract_48 {X : aX} {d : Nat} (x1 : Nat) (x2 : Int) (x3 : Int) (kx1 : am_kd an_K x1 = some (.inl 8)) (m : Mi) (J : Mj) (P : Mp) (hp : PP P) (post : Int → Mi → Mj → Mp → Prop)
    (hw : Zr (x3) ∧ Zr (m x1 6) ∧ ((((m x1 6) ≤ x3) → Zr (m 28 6) ∧ ((((m 28 6) ≤ 200) → Rn X (d + 1) 71 120 [some (.ref 28), some (.ref x1), some (.int (iz x2)), some (.int (iz (m x1 5))), none] [] (SS m J P) (QI post)) ∧ (¬ ((m 28 6) ≤ 200) → post ((-2)) m J P))) ∧ (¬ ((m x1 6) ≤ x3) → ((0 : Int) ≤ x3 ∧ (x3 : Int) < 80) ∧ Zr (m (x1 + 4) x3.toNat) ∧ ((((m (x1 + 4) x3.toNat) < 0) → ((0 : Int) ≤ (((-1)) - (m (x1 + 4) x3.toNat)) ∧ ((((-1)) - (m (x1 + 4) x3.toNat)) : Int) < 8) ∧ ((0 : Int) ≤ (m 33 (((-1)) - (m (x1 + 4) x3.toNat)).toNat) ∧ ((m 33 (((-1)) - (m (x1 + 4) x3.toNat)).toNat) : Int) < 200) ∧ Rn X (d + 1) 71 48 [some (.ref 28), some (.ref x1), some (.int (iz x2)), some (.int (iz (x3 + 1))), none] [] (SS (mu m 28 6 ((m 28 6) + (m 31 (m 33 (((-1)) - (m (x1 + 4) x3.toNat)).toNat).toNat))) J P) (QI post)) ∧ (¬ ((m (x1 + 4) x3.toNat) < 0) → Rn X (d + 1) 71 48 [some (.ref 28), some (.ref x1), some (.int (iz x2)), some (.int (iz (x3 + 1))), none] [] (SS (mu m 28 6 ((m 28 6) + 1)) J P) (QI post)))))) : Rn X (d + 1) 71 48 [some (.ref 28), some (.ref x1), some (.int (iz x2)), some (.int (iz x3)), none] [] (SS m J P) (QI post) := by
  refine s_iload_n (pc := 48) rfl rfl ?_
  refine s_aload_n (pc := 49) rfl rfl ?_
  refine s_getI (pc := 50) rfl kx1 ?_
  obtain ⟨hz1, hw⟩ := hw
  obtain ⟨hz2, hw⟩ := hw
  refine s_ic_ge (pc := 53) (tgt := 102) rfl rfl hz1 hz2 (fun hc => ?_) (fun hc => ?_)
  · replace hw := hw.1 hc
    refine s_aload_n (pc := 102) rfl rfl ?_
    refine s_getI (pc := 103) rfl ko_28 ?_
    refine s_sipush (pc := 106) rfl (by decide) ?_
    obtain ⟨hz3, hw⟩ := hw
    refine s_ic_le (pc := 109) (tgt := 115) rfl rfl hz3 (by decide) (fun hc => ?_) (fun hc => ?_)
    · replace hw := hw.1 hc
      refine s_aload_n (pc := 115) rfl rfl ?_
      refine s_getI (pc := 116) rfl kx1 ?_
      refine s_istore_n (pc := 119) (L' := [some (.ref 28), some (.ref x1), some (.int (iz x2)), some (.int (iz (m x1 5))), none]) rfl (Nat.le_of_ble_eq_true rfl) rfl ?_
      exact hw
    · replace hw := hw.2 hc
      refine s_bipush (pc := 112) rfl (by decide) ?_
      exact s_reti (pc := 114) rfl rfl hw
  · replace hw := hw.2 hc
    refine s_aload_n (pc := 56) rfl rfl ?_
    refine s_getA (pc := 57) rfl kx1 (pc_8_3 hp kx1) ?_
    refine s_iload_n (pc := 60) rfl rfl ?_
    obtain ⟨hb4, hw⟩ := hw
    refine s_iald (pc := 61) rfl (kc_8_3 kx1) (by decide) hb4 ?_
    refine s_istore (pc := 62) (L' := [some (.ref 28), some (.ref x1), some (.int (iz x2)), some (.int (iz x3)), some (.int (iz (m (x1 + 4) x3.toNat)))]) rfl (Nat.le_of_ble_eq_true rfl) rfl ?_
    refine s_aload_n (pc := 64) rfl rfl ?_
    refine s_dup (pc := 65) rfl rfl ?_
    refine s_getI (pc := 66) rfl ko_28 ?_
    refine s_iload (pc := 69) rfl rfl ?_
    obtain ⟨hz5, hw⟩ := hw
    refine s_if_lt (pc := 71) (tgt := 78) rfl rfl hz5 (fun hc => ?_) (fun hc => ?_)
    · replace hw := hw.1 hc
      refine s_aload_n (pc := 78) rfl rfl ?_
      refine s_getA (pc := 79) rfl ko_28 (po_28_3 hp) ?_
      refine s_aload_n (pc := 82) rfl rfl ?_
      refine s_getA (pc := 83) rfl ko_28 (po_28_8 hp) ?_
      refine s_iconst (pc := 86) rfl ?_
      refine s_iload (pc := 87) rfl rfl ?_
      refine s_isub (pc := 89) rfl ?_
      obtain ⟨hb6, hw⟩ := hw
      refine s_iald (pc := 90) rfl ka_33 (by decide) hb6 ?_
      obtain ⟨hb7, hw⟩ := hw
      refine s_iald (pc := 91) rfl ka_31 (by decide) hb7 ?_
      refine s_iadd (pc := 92) rfl ?_
      refine s_putI (pc := 93) rfl ko_28 ?_
      refine s_iinc (pc := 96) (L' := [some (.ref 28), some (.ref x1), some (.int (iz x2)), some (.int (iz (x3 + 1))), some (.int (iz (m (x1 + 4) x3.toNat)))]) rfl rfl (Nat.le_of_ble_eq_true rfl) rfl ?_
      refine s_goto (pc := 99) (tgt := 48) rfl rfl ?_
      exact Rn.weakL hw (LLe.keep _ (LLe.keep _ (LLe.keep _ (LLe.keep _ (LLe.drop _ (LLe.nil))))))
    · replace hw := hw.2 hc
      refine s_iconst (pc := 74) rfl ?_
      refine s_goto (pc := 75) (tgt := 92) rfl rfl ?_
      refine s_iadd (pc := 92) rfl ?_
      refine s_putI (pc := 93) rfl ko_28 ?_
      refine s_iinc (pc := 96) (L' := [some (.ref 28), some (.ref x1), some (.int (iz x2)), some (.int (iz (x3 + 1))), some (.int (iz (m (x1 + 4) x3.toNat)))]) rfl rfl (Nat.le_of_ble_eq_true rfl) rfl ?_
      refine s_goto (pc := 99) (tgt := 48) rfl rfl ?_
      exact Rn.weakL hw (LLe.keep _ (LLe.keep _ (LLe.keep _ (LLe.keep _ (LLe.drop _ (LLe.nil))))))

set_option maxRecDepth 20000 in
set_option maxHeartbeats 4000000 in
theorem b_Reducer_contract_120 {X : aX} {d : Nat} (x1 : Nat) (x2 : Int) (x3 : Int) (kx1 : am_kd an_K x1 = some (.inl 8)) (m : Mi) (J : Mj) (P : Mp) (hp : PP P) (post : Int → Mi → Mj → Mp → Prop)
    (hw : Zr (x3) ∧ Zr (m x1 6) ∧ ((((m x1 6) ≤ x3) → post 0 (mu m 28 4 ((m 28 4) + x2)) J P) ∧ (¬ ((m x1 6) ≤ x3) → ((0 : Int) ≤ x3 ∧ (x3 : Int) < 80) ∧ Zr (m (x1 + 4) x3.toNat) ∧ (((0 ≤ (m (x1 + 4) x3.toNat)) → Zr (m 28 1) ∧ (((200 ≤ (m 28 1)) → Rn X (d + 1) 71 120 [some (.ref 28), some (.ref x1), some (.int (iz x2)), some (.int (iz (x3 + 1))), none] [] (SS m J P) (QI post)) ∧ (¬ (200 ≤ (m 28 1)) → ((0 : Int) ≤ (m 28 1) ∧ ((m 28 1) : Int) < 200) ∧ Rn X (d + 1) 71 120 [some (.ref 28), some (.ref x1), some (.int (iz x2)), some (.int (iz (x3 + 1))), none] [] (SS (mu (mu m 29 (m 28 1).toNat (m (x1 + 4) x3.toNat)) 28 1 (((mu m 29 (m 28 1).toNat (m (x1 + 4) x3.toNat)) 28 1) + 1)) J P) (QI post)))) ∧ (¬ (0 ≤ (m (x1 + 4) x3.toNat)) → ((0 : Int) ≤ (((-1)) - (m (x1 + 4) x3.toNat)) ∧ ((((-1)) - (m (x1 + 4) x3.toNat)) : Int) < 8) ∧ Cv X d 72 [.ref 28, .int (iz (m 33 (((-1)) - (m (x1 + 4) x3.toNat)).toNat))] m J P (fun m8 J9 P10 => PP P10 ∧ Rn X (d + 1) 71 120 [some (.ref 28), some (.ref x1), some (.int (iz x2)), some (.int (iz (x3 + 1))), none] [] (SS m8 J9 P10) (QI post))))))) : Rn X (d + 1) 71 120 [some (.ref 28), some (.ref x1), some (.int (iz x2)), some (.int (iz x3)), none] [] (SS m J P) (QI post) := by
  refine s_iload_n (pc := 120) rfl rfl ?_
  refine s_aload_n (pc := 121) rfl rfl ?_
  refine s_getI (pc := 122) rfl kx1 ?_
  obtain ⟨hz1, hw⟩ := hw
  obtain ⟨hz2, hw⟩ := hw
  refine s_ic_ge (pc := 125) (tgt := 194) rfl rfl hz1 hz2 (fun hc => ?_) (fun hc => ?_)
  · replace hw := hw.1 hc
    refine s_aload_n (pc := 194) rfl rfl ?_
    refine s_dup (pc := 195) rfl rfl ?_
    refine s_getI (pc := 196) rfl ko_28 ?_
    refine s_iload_n (pc := 199) rfl rfl ?_
    refine s_iadd (pc := 200) rfl ?_
    refine s_putI (pc := 201) rfl ko_28 ?_
    refine s_iconst (pc := 204) rfl ?_
    exact s_reti (pc := 205) rfl rfl hw
  · replace hw := hw.2 hc
    refine s_aload_n (pc := 128) rfl rfl ?_
    refine s_getA (pc := 129) rfl kx1 (pc_8_3 hp kx1) ?_
    refine s_iload_n (pc := 132) rfl rfl ?_
    obtain ⟨hb3, hw⟩ := hw
    refine s_iald (pc := 133) rfl (kc_8_3 kx1) (by decide) hb3 ?_
    refine s_istore (pc := 134) (L' := [some (.ref 28), some (.ref x1), some (.int (iz x2)), some (.int (iz x3)), some (.int (iz (m (x1 + 4) x3.toNat)))]) rfl (Nat.le_of_ble_eq_true rfl) rfl ?_
    refine s_iload (pc := 136) rfl rfl ?_
    obtain ⟨hz4, hw⟩ := hw
    refine s_if_ge (pc := 138) (tgt := 157) rfl rfl hz4 (fun hc => ?_) (fun hc => ?_)
    · replace hw := hw.1 hc
      refine s_aload_n (pc := 157) rfl rfl ?_
      refine s_getI (pc := 158) rfl ko_28 ?_
      refine s_sipush (pc := 161) rfl (by decide) ?_
      obtain ⟨hz5, hw⟩ := hw
      refine s_ic_ge (pc := 164) (tgt := 188) rfl rfl hz5 (by decide) (fun hc => ?_) (fun hc => ?_)
      · replace hw := hw.1 hc
        refine s_iinc (pc := 188) (L' := [some (.ref 28), some (.ref x1), some (.int (iz x2)), some (.int (iz (x3 + 1))), some (.int (iz (m (x1 + 4) x3.toNat)))]) rfl rfl (Nat.le_of_ble_eq_true rfl) rfl ?_
        refine s_goto (pc := 191) (tgt := 120) rfl rfl ?_
        exact Rn.weakL hw (LLe.keep _ (LLe.keep _ (LLe.keep _ (LLe.keep _ (LLe.drop _ (LLe.nil))))))
      · replace hw := hw.2 hc
        refine s_aload_n (pc := 167) rfl rfl ?_
        refine s_getA (pc := 168) rfl ko_28 (po_28_0 hp) ?_
        refine s_aload_n (pc := 171) rfl rfl ?_
        refine s_getI (pc := 172) rfl ko_28 ?_
        refine s_iload (pc := 175) rfl rfl ?_
        obtain ⟨hb6, hw⟩ := hw
        refine s_iast (pc := 177) rfl ka_29 (by decide) hb6 ?_
        refine s_aload_n (pc := 178) rfl rfl ?_
        refine s_dup (pc := 179) rfl rfl ?_
        refine s_getI (pc := 180) rfl ko_28 ?_
        refine s_iconst (pc := 183) rfl ?_
        refine s_iadd (pc := 184) rfl ?_
        refine s_putI (pc := 185) rfl ko_28 ?_
        refine s_iinc (pc := 188) (L' := [some (.ref 28), some (.ref x1), some (.int (iz x2)), some (.int (iz (x3 + 1))), some (.int (iz (m (x1 + 4) x3.toNat)))]) rfl rfl (Nat.le_of_ble_eq_true rfl) rfl ?_
        refine s_goto (pc := 191) (tgt := 120) rfl rfl ?_
        exact Rn.weakL hw (LLe.keep _ (LLe.keep _ (LLe.keep _ (LLe.keep _ (LLe.drop _ (LLe.nil))))))
    · replace hw := hw.2 hc
      refine s_aload_n (pc := 141) rfl rfl ?_
      refine s_aload_n (pc := 142) rfl rfl ?_
      refine s_getA (pc := 143) rfl ko_28 (po_28_8 hp) ?_
      refine s_iconst (pc := 146) rfl ?_
      refine s_iload (pc := 147) rfl rfl ?_
      refine s_isub (pc := 149) rfl ?_
      obtain ⟨hb7, hw⟩ := hw
      refine s_iald (pc := 150) rfl ka_33 (by decide) hb7 ?_
      refine s_cv (pc := 151) (d := d) (t := []) rfl rfl (am_ca_v (ps := [.int (iz (m 33 (((-1)) - (m (x1 + 4) x3.toNat)).toNat))]) rfl ko_28) (Nat.le_of_ble_eq_true rfl) (Cv.weak hw fun m8 J9 P10 hw => ?_)
      obtain ⟨hp12, hw⟩ := hw
      refine s_goto (pc := 154) (tgt := 188) rfl rfl ?_
      refine s_iinc (pc := 188) (L' := [some (.ref 28), some (.ref x1), some (.int (iz x2)), some (.int (iz (x3 + 1))), some (.int (iz (m (x1 + 4) x3.toNat)))]) rfl rfl (Nat.le_of_ble_eq_true rfl) rfl ?_
      refine s_goto (pc := 191) (tgt := 120) rfl rfl ?_
      exact Rn.weakL hw (LLe.keep _ (LLe.keep _ (LLe.keep _ (LLe.keep _ (LLe.drop _ (LLe.nil))))))

set_option maxRecDepth 20000 in
set_option maxHeartbeats 4000000 in
theorem b_Reducer_awaitSettled_0 {X : aX} {d : Nat} (x1 : Int)  (m : Mi) (J : Mj) (P : Mp) (hp : PP P) (post : Mi → Mj → Mp → Prop)
    (hw : Rn X d 72 2 [some (.ref 28), some (.int (iz x1)), some (.int (iz x1))] [] (SS m J P) (QV post)) : Rn X d 72 0 [some (.ref 28), some (.int (iz x1)), none] [] (SS m J P) (QV post) := by
  refine s_iload_n (pc := 0) rfl rfl ?_
  refine s_istore_n (pc := 1) (L' := [some (.ref 28), some (.int (iz x1)), some (.int (iz x1))]) rfl (Nat.le_of_ble_eq_true rfl) rfl ?_
  exact hw

set_option maxRecDepth 20000 in
set_option maxHeartbeats 4000000 in
theorem b_Reducer_awaitSettled_2 {X : aX} {d : Nat} (x1 : Int) (x2 : Int)  (m : Mi) (J : Mj) (P : Mp) (hp : PP P) (post : Mi → Mj → Mp → Prop)
    (hw : ((0 : Int) ≤ x1 ∧ (x1 : Int) < 200) ∧ Zr (x2) ∧ Zr (x1 + (m 31 x1.toNat)) ∧ ((((x1 + (m 31 x1.toNat)) ≤ x2) → post m J P) ∧ (¬ ((x1 + (m 31 x1.toNat)) ≤ x2) → Zr (m 28 1) ∧ (((200 ≤ (m 28 1)) → post m J P) ∧ (¬ (200 ≤ (m 28 1)) → ((0 : Int) ≤ x2 ∧ (x2 : Int) < 200) ∧ Zr (m 30 x2.toNat) ∧ (((0 ≤ (m 30 x2.toNat)) → ((0 : Int) ≤ x2 ∧ (x2 : Int) < 200) ∧ ((0 : Int) ≤ (m 28 1) ∧ ((m 28 1) : Int) < 200) ∧ Rn X d 72 2 [some (.ref 28), some (.int (iz x1)), some (.int (iz (x2 + 1)))] [] (SS (mu (mu m 29 (m 28 1).toNat (zor (m 30 x2.toNat) 64)) 28 1 (((mu m 29 (m 28 1).toNat (zor (m 30 x2.toNat) 64)) 28 1) + 1)) J P) (QV post)) ∧ (¬ (0 ≤ (m 30 x2.toNat)) → ((0 : Int) ≤ x2 ∧ (x2 : Int) < 200) ∧ ((0 : Int) ≤ (m 28 1) ∧ ((m 28 1) : Int) < 200) ∧ Rn X d 72 2 [some (.ref 28), some (.int (iz x1)), some (.int (iz (x2 + 1)))] [] (SS (mu (mu m 29 (m 28 1).toNat (m 30 x2.toNat)) 28 1 (((mu m 29 (m 28 1).toNat (m 30 x2.toNat)) 28 1) + 1)) J P) (QV post)))))))) : Rn X d 72 2 [some (.ref 28), some (.int (iz x1)), some (.int (iz x2))] [] (SS m J P) (QV post) := by
  refine s_iload_n (pc := 2) rfl rfl ?_
  refine s_iload_n (pc := 3) rfl rfl ?_
  refine s_aload_n (pc := 4) rfl rfl ?_
  refine s_getA (pc := 5) rfl ko_28 (po_28_3 hp) ?_
  refine s_iload_n (pc := 8) rfl rfl ?_
  obtain ⟨hb1, hw⟩ := hw
  refine s_iald (pc := 9) rfl ka_31 (by decide) hb1 ?_
  refine s_iadd (pc := 10) rfl ?_
  obtain ⟨hz2, hw⟩ := hw
  obtain ⟨hz3, hw⟩ := hw
  refine s_ic_ge (pc := 11) (tgt := 76) rfl rfl hz2 hz3 (fun hc => ?_) (fun hc => ?_)
  · replace hw := hw.1 hc
    exact s_retv (pc := 76) rfl rfl hw
  · replace hw := hw.2 hc
    refine s_aload_n (pc := 14) rfl rfl ?_
    refine s_getI (pc := 15) rfl ko_28 ?_
    refine s_sipush (pc := 18) rfl (by decide) ?_
    obtain ⟨hz4, hw⟩ := hw
    refine s_ic_ge (pc := 21) (tgt := 76) rfl rfl hz4 (by decide) (fun hc => ?_) (fun hc => ?_)
    · replace hw := hw.1 hc
      exact s_retv (pc := 76) rfl rfl hw
    · replace hw := hw.2 hc
      refine s_aload_n (pc := 24) rfl rfl ?_
      refine s_getA (pc := 25) rfl ko_28 (po_28_0 hp) ?_
      refine s_aload_n (pc := 28) rfl rfl ?_
      refine s_getI (pc := 29) rfl ko_28 ?_
      refine s_aload_n (pc := 32) rfl rfl ?_
      refine s_getA (pc := 33) rfl ko_28 (po_28_2 hp) ?_
      refine s_iload_n (pc := 36) rfl rfl ?_
      obtain ⟨hb5, hw⟩ := hw
      refine s_iald (pc := 37) rfl ka_30 (by decide) hb5 ?_
      obtain ⟨hz6, hw⟩ := hw
      refine s_if_ge (pc := 38) (tgt := 50) rfl rfl hz6 (fun hc => ?_) (fun hc => ?_)
      · replace hw := hw.1 hc
        refine s_aload_n (pc := 50) rfl rfl ?_
        refine s_getA (pc := 51) rfl ko_28 (po_28_2 hp) ?_
        refine s_iload_n (pc := 54) rfl rfl ?_
        obtain ⟨hb7, hw⟩ := hw
        refine s_iald (pc := 55) rfl ka_30 (by decide) hb7 ?_
        refine s_bipush (pc := 56) rfl (by decide) ?_
        refine s_ior (pc := 58) rfl ?_
        obtain ⟨hb8, hw⟩ := hw
        refine s_iast (pc := 59) rfl ka_29 (by decide) hb8 ?_
        refine s_aload_n (pc := 60) rfl rfl ?_
        refine s_dup (pc := 61) rfl rfl ?_
        refine s_getI (pc := 62) rfl ko_28 ?_
        refine s_iconst (pc := 65) rfl ?_
        refine s_iadd (pc := 66) rfl ?_
        refine s_putI (pc := 67) rfl ko_28 ?_
        refine s_iinc (pc := 70) (L' := [some (.ref 28), some (.int (iz x1)), some (.int (iz (x2 + 1)))]) rfl rfl (Nat.le_of_ble_eq_true rfl) rfl ?_
        refine s_goto (pc := 73) (tgt := 2) rfl rfl ?_
        exact hw
      · replace hw := hw.2 hc
        refine s_aload_n (pc := 41) rfl rfl ?_
        refine s_getA (pc := 42) rfl ko_28 (po_28_2 hp) ?_
        refine s_iload_n (pc := 45) rfl rfl ?_
        obtain ⟨hb9, hw⟩ := hw
        refine s_iald (pc := 46) rfl ka_30 (by decide) hb9 ?_
        refine s_goto (pc := 47) (tgt := 59) rfl rfl ?_
        obtain ⟨hb10, hw⟩ := hw
        refine s_iast (pc := 59) rfl ka_29 (by decide) hb10 ?_
        refine s_aload_n (pc := 60) rfl rfl ?_
        refine s_dup (pc := 61) rfl rfl ?_
        refine s_getI (pc := 62) rfl ko_28 ?_
        refine s_iconst (pc := 65) rfl ?_
        refine s_iadd (pc := 66) rfl ?_
        refine s_putI (pc := 67) rfl ko_28 ?_
        refine s_iinc (pc := 70) (L' := [some (.ref 28), some (.int (iz x1)), some (.int (iz (x2 + 1)))]) rfl rfl (Nat.le_of_ble_eq_true rfl) rfl ?_
        refine s_goto (pc := 73) (tgt := 2) rfl rfl ?_
        exact hw

set_option maxRecDepth 20000 in
set_option maxHeartbeats 4000000 in
theorem b_Nh_fault_0 {X : aX} {d : Nat} (x1 : Int)  (m : Mi) (J : Mj) (P : Mp) (hp : PP P) (post : Int → Mi → Mj → Mp → Prop)
    (hw : Zr (x1) ∧ (((¬ x1 = 0) → Zr (x1) ∧ (((¬ x1 = 1) → post ((-1)) m J P) ∧ (¬ (¬ x1 = 1) → post (m 4 4) m J P))) ∧ (¬ (¬ x1 = 0) → post (m 4 3) m J P))) : Rn X d 73 0 [some (.ref 1), some (.int (iz x1))] [] (SS m J P) (QI post) := by
  refine s_iload_n (pc := 0) rfl rfl ?_
  obtain ⟨hz1, hw⟩ := hw
  refine s_if_ne (pc := 1) (tgt := 12) rfl rfl hz1 (fun hc => ?_) (fun hc => ?_)
  · replace hw := hw.1 hc
    refine s_iload_n (pc := 12) rfl rfl ?_
    refine s_iconst (pc := 13) rfl ?_
    obtain ⟨hz2, hw⟩ := hw
    refine s_ic_ne (pc := 14) (tgt := 27) rfl rfl hz2 (by decide) (fun hc => ?_) (fun hc => ?_)
    · replace hw := hw.1 hc
      refine s_iconst (pc := 27) rfl ?_
      exact s_reti (pc := 28) rfl rfl hw
    · replace hw := hw.2 hc
      refine s_aload_n (pc := 17) rfl rfl ?_
      refine s_getA (pc := 18) rfl ko_1 (po_1_1 hp) ?_
      refine s_getI (pc := 21) rfl ko_4 ?_
      refine s_goto (pc := 24) (tgt := 28) rfl rfl ?_
      exact s_reti (pc := 28) rfl rfl hw
  · replace hw := hw.2 hc
    refine s_aload_n (pc := 4) rfl rfl ?_
    refine s_getA (pc := 5) rfl ko_1 (po_1_1 hp) ?_
    refine s_getI (pc := 8) rfl ko_4 ?_
    exact s_reti (pc := 11) rfl rfl hw

set_option maxRecDepth 20000 in
set_option maxHeartbeats 4000000 in
theorem b_Nh_count_0 {X : aX} {d : Nat} (x1 : Int)  (m : Mi) (J : Mj) (P : Mp) (hp : PP P) (post : Int → Mi → Mj → Mp → Prop)
    (hw : Zr (x1) ∧ (((x1 = 0) → (∃ q2, P 1 8 = some q2 ∧ am_kd an_K q2 = some (.inl 10) ∧ post (m q2 4) m J P)) ∧ ((x1 = 1) → (∃ q3, P 1 8 = some q3 ∧ am_kd an_K q3 = some (.inl 10) ∧ post (m q3 5) m J P)) ∧ ((x1 = 2) → post (m 36 3) m J P) ∧ ((x1 = 3) → post (m 36 4) m J P) ∧ ((x1 = 4) → post (m 36 5) m J P) ∧ ((x1 = 5) → Ci X (d + 1) 75 [.ref 50] m J P (fun z7 m4 J5 P6 => PP P6 ∧ post z7 m4 J5 P6)) ∧ ((x1 < 0 ∨ 5 < x1) → post ((-1)) m J P))) : Rn X (d + 2) 74 0 [some (.ref 1), some (.int (iz x1))] [] (SS m J P) (QI post) := by
  refine s_iload_n (pc := 0) rfl rfl ?_
  obtain ⟨hz1, hw⟩ := hw
  by_cases hs0 : x1 = 0
  · replace hw := hw.1 hs0
    refine s_tsw_at (pc := 1) (v := 0) (tgt := 40) rfl hz1 hs0 (by decide) rfl rfl ?_
    refine s_aload_n (pc := 40) rfl rfl ?_
    obtain ⟨q2, hq2, kq2, hw⟩ := hw
    refine s_getA (pc := 41) rfl ko_1 hq2 ?_
    refine s_getI (pc := 44) rfl kq2 ?_
    exact s_reti (pc := 47) rfl rfl hw
  replace hw := hw.2
  by_cases hs1 : x1 = 1
  · replace hw := hw.1 hs1
    refine s_tsw_at (pc := 1) (v := 1) (tgt := 48) rfl hz1 hs1 (by decide) rfl rfl ?_
    refine s_aload_n (pc := 48) rfl rfl ?_
    obtain ⟨q3, hq3, kq3, hw⟩ := hw
    refine s_getA (pc := 49) rfl ko_1 hq3 ?_
    refine s_getI (pc := 52) rfl kq3 ?_
    exact s_reti (pc := 55) rfl rfl hw
  replace hw := hw.2
  by_cases hs2 : x1 = 2
  · replace hw := hw.1 hs2
    refine s_tsw_at (pc := 1) (v := 2) (tgt := 56) rfl hz1 hs2 (by decide) rfl rfl ?_
    refine s_aload_n (pc := 56) rfl rfl ?_
    refine s_getA (pc := 57) rfl ko_1 (po_1_5 hp) ?_
    refine s_getI (pc := 60) rfl ko_36 ?_
    exact s_reti (pc := 63) rfl rfl hw
  replace hw := hw.2
  by_cases hs3 : x1 = 3
  · replace hw := hw.1 hs3
    refine s_tsw_at (pc := 1) (v := 3) (tgt := 64) rfl hz1 hs3 (by decide) rfl rfl ?_
    refine s_aload_n (pc := 64) rfl rfl ?_
    refine s_getA (pc := 65) rfl ko_1 (po_1_5 hp) ?_
    refine s_getI (pc := 68) rfl ko_36 ?_
    exact s_reti (pc := 71) rfl rfl hw
  replace hw := hw.2
  by_cases hs4 : x1 = 4
  · replace hw := hw.1 hs4
    refine s_tsw_at (pc := 1) (v := 4) (tgt := 72) rfl hz1 hs4 (by decide) rfl rfl ?_
    refine s_aload_n (pc := 72) rfl rfl ?_
    refine s_getA (pc := 73) rfl ko_1 (po_1_5 hp) ?_
    refine s_getI (pc := 76) rfl ko_36 ?_
    exact s_reti (pc := 79) rfl rfl hw
  replace hw := hw.2
  by_cases hs5 : x1 = 5
  · replace hw := hw.1 hs5
    refine s_tsw_at (pc := 1) (v := 5) (tgt := 80) rfl hz1 hs5 (by decide) rfl rfl ?_
    refine s_aload_n (pc := 80) rfl rfl ?_
    refine s_getA (pc := 81) rfl ko_1 (po_1_7 hp) ?_
    refine s_ci (pc := 84) (d := (d + 1)) (t := []) rfl rfl (am_ca_v (ps := []) rfl ko_50) (Nat.le_of_ble_eq_true rfl) (Ci.weak hw fun z7 m4 J5 P6 hw => ?_)
    obtain ⟨hp8, hw⟩ := hw
    exact s_reti (pc := 87) rfl rfl hw
  replace hw := hw.2
  have hs : x1 < 0 ∨ 5 < x1 := by omega
  replace hw := hw hs
  refine s_tsw_out (pc := 1) (tgt := 88) rfl hz1 hs rfl ?_
  refine s_iconst (pc := 88) rfl ?_
  exact s_reti (pc := 89) rfl rfl hw

set_option maxRecDepth 20000 in
set_option maxHeartbeats 4000000 in
theorem b_Page_kept_0 {X : aX} {d : Nat}   (m : Mi) (J : Mj) (P : Mp) (hp : PP P) (post : Int → Mi → Mj → Mp → Prop)
    (hw : Zr (m 50 1) ∧ post (if 1000 < (m 50 1) then 1000 else (m 50 1)) m J P) : Rn X (d + 1) 75 0 [some (.ref 50)] [] (SS m J P) (QI post) := by
  refine s_aload_n (pc := 0) rfl rfl ?_
  refine s_getI (pc := 1) rfl ko_50 ?_
  refine s_sipush (pc := 4) rfl (by decide) ?_
  obtain ⟨hz1, hw⟩ := hw
  refine s_min (pc := 7) (d := d) rfl hz1 (by decide) (Nat.le_of_ble_eq_true rfl) ?_
  exact s_reti (pc := 10) rfl rfl hw

set_option maxRecDepth 20000 in
set_option maxHeartbeats 4000000 in
theorem b_Nh_pair_0 {X : aX} {d : Nat} (x1 : Int) (x2 : Int)  (m : Mi) (J : Mj) (P : Mp) (hp : PP P) (post : Int → Mi → Mj → Mp → Prop)
    (hw : Ci X (d + 1) 77 [.ref 36, .int (iz x1), .int (iz x2)] m J P (fun z4 m1 J2 P3 => PP P3 ∧ post z4 m1 J2 P3)) : Rn X (d + 2) 76 0 [some (.ref 1), some (.int (iz x1)), some (.int (iz x2))] [] (SS m J P) (QI post) := by
  refine s_aload_n (pc := 0) rfl rfl ?_
  refine s_getA (pc := 1) rfl ko_1 (po_1_5 hp) ?_
  refine s_iload_n (pc := 4) rfl rfl ?_
  refine s_iload_n (pc := 5) rfl rfl ?_
  refine s_ci (pc := 6) (d := (d + 1)) (t := []) rfl rfl (am_ca_v (ps := [.int (iz x2), .int (iz x1)]) rfl ko_36) (Nat.le_of_ble_eq_true rfl) (Ci.weak hw fun z4 m1 J2 P3 hw => ?_)
  obtain ⟨hp5, hw⟩ := hw
  exact s_reti (pc := 9) rfl rfl hw

set_option maxRecDepth 20000 in
set_option maxHeartbeats 4000000 in
theorem b_Pairs_tell_0 {X : aX} {d : Nat} (x1 : Int) (x2 : Int)  (m : Mi) (J : Mj) (P : Mp) (hp : PP P) (post : Int → Mi → Mj → Mp → Prop)
    (hw : Ci X d 78 [.ref 36, .int (iz x1)] m J P (fun z4 m1 J2 P3 => PP P3 ∧ Zr (z4) ∧ (((z4 = 0) → post ((-1)) m1 J2 P3) ∧ (¬ (z4 = 0) → Zr (x2) ∧ (((x2 < 0) → post ((-1)) m1 J2 P3) ∧ (¬ (x2 < 0) → Zr (x2) ∧ (((4 ≤ x2) → post ((-1)) m1 J2 P3) ∧ (¬ (4 ≤ x2) → ((0 : Int) ≤ ((x1 * 4) + x2) ∧ (((x1 * 4) + x2) : Int) < 800) ∧ post (m1 37 ((x1 * 4) + x2).toNat) m1 J2 P3)))))))) : Rn X (d + 1) 77 0 [some (.ref 36), some (.int (iz x1)), some (.int (iz x2))] [] (SS m J P) (QI post) := by
  refine s_aload_n (pc := 0) rfl rfl ?_
  refine s_iload_n (pc := 1) rfl rfl ?_
  refine s_ci (pc := 2) (d := d) (t := []) rfl rfl (am_ca_v (ps := [.int (iz x1)]) rfl ko_36) (Nat.le_of_ble_eq_true rfl) (Ci.weak hw fun z4 m1 J2 P3 hw => ?_)
  obtain ⟨hp5, hw⟩ := hw
  obtain ⟨hz6, hw⟩ := hw
  refine s_if_eq (pc := 5) (tgt := 30) rfl rfl hz6 (fun hc => ?_) (fun hc => ?_)
  · replace hw := hw.1 hc
    refine s_iconst (pc := 30) rfl ?_
    exact s_reti (pc := 31) rfl rfl hw
  · replace hw := hw.2 hc
    refine s_iload_n (pc := 8) rfl rfl ?_
    obtain ⟨hz7, hw⟩ := hw
    refine s_if_lt (pc := 9) (tgt := 30) rfl rfl hz7 (fun hc => ?_) (fun hc => ?_)
    · replace hw := hw.1 hc
      refine s_iconst (pc := 30) rfl ?_
      exact s_reti (pc := 31) rfl rfl hw
    · replace hw := hw.2 hc
      refine s_iload_n (pc := 12) rfl rfl ?_
      refine s_iconst (pc := 13) rfl ?_
      obtain ⟨hz8, hw⟩ := hw
      refine s_ic_ge (pc := 14) (tgt := 30) rfl rfl hz8 (by decide) (fun hc => ?_) (fun hc => ?_)
      · replace hw := hw.1 hc
        refine s_iconst (pc := 30) rfl ?_
        exact s_reti (pc := 31) rfl rfl hw
      · replace hw := hw.2 hc
        refine s_aload_n (pc := 17) rfl rfl ?_
        refine s_getA (pc := 18) rfl ko_36 (po_36_2 hp5) ?_
        refine s_iload_n (pc := 21) rfl rfl ?_
        refine s_iconst (pc := 22) rfl ?_
        refine s_imul (pc := 23) rfl ?_
        refine s_iload_n (pc := 24) rfl rfl ?_
        refine s_iadd (pc := 25) rfl ?_
        obtain ⟨hb9, hw⟩ := hw
        refine s_iald (pc := 26) rfl ka_37 (by decide) hb9 ?_
        refine s_goto (pc := 27) (tgt := 31) rfl rfl ?_
        exact s_reti (pc := 31) rfl rfl hw

set_option maxRecDepth 20000 in
set_option maxHeartbeats 4000000 in
theorem b_Pairs_holds_0 {X : aX} {d : Nat} (x1 : Int)  (m : Mi) (J : Mj) (P : Mp) (hp : PP P) (post : Int → Mi → Mj → Mp → Prop)
    (hw : Zr (x1) ∧ (((x1 < 0) → post 0 m J P) ∧ (¬ (x1 < 0) → Zr (x1) ∧ (((200 ≤ x1) → post 0 m J P) ∧ (¬ (200 ≤ x1) → Zr (x1) ∧ Zr (m 36 3) ∧ ((((m 36 3) ≤ x1) → post 0 m J P) ∧ (¬ ((m 36 3) ≤ x1) → post 1 m J P))))))) : Rn X d 78 0 [some (.ref 36), some (.int (iz x1))] [] (SS m J P) (QI post) := by
  refine s_iload_n (pc := 0) rfl rfl ?_
  obtain ⟨hz1, hw⟩ := hw
  refine s_if_lt (pc := 1) (tgt := 23) rfl rfl hz1 (fun hc => ?_) (fun hc => ?_)
  · replace hw := hw.1 hc
    refine s_iconst (pc := 23) rfl ?_
    exact s_retz (pc := 24) rfl rfl (by decide) hw
  · replace hw := hw.2 hc
    refine s_iload_n (pc := 4) rfl rfl ?_
    refine s_sipush (pc := 5) rfl (by decide) ?_
    obtain ⟨hz2, hw⟩ := hw
    refine s_ic_ge (pc := 8) (tgt := 23) rfl rfl hz2 (by decide) (fun hc => ?_) (fun hc => ?_)
    · replace hw := hw.1 hc
      refine s_iconst (pc := 23) rfl ?_
      exact s_retz (pc := 24) rfl rfl (by decide) hw
    · replace hw := hw.2 hc
      refine s_iload_n (pc := 11) rfl rfl ?_
      refine s_aload_n (pc := 12) rfl rfl ?_
      refine s_getI (pc := 13) rfl ko_36 ?_
      obtain ⟨hz3, hw⟩ := hw
      obtain ⟨hz4, hw⟩ := hw
      refine s_ic_ge (pc := 16) (tgt := 23) rfl rfl hz3 hz4 (fun hc => ?_) (fun hc => ?_)
      · replace hw := hw.1 hc
        refine s_iconst (pc := 23) rfl ?_
        exact s_retz (pc := 24) rfl rfl (by decide) hw
      · replace hw := hw.2 hc
        refine s_iconst (pc := 19) rfl ?_
        refine s_goto (pc := 20) (tgt := 24) rfl rfl ?_
        exact s_retz (pc := 24) rfl rfl (by decide) hw

set_option maxRecDepth 20000 in
set_option maxHeartbeats 4000000 in
theorem b_Nh_normal_0 {X : aX} {d : Nat} (x1 : Int)  (m : Mi) (J : Mj) (P : Mp) (hp : PP P) (post : Int → Mi → Mj → Mp → Prop)
    (hw : Zr (m 1 11) ∧ ((((m 1 11) = 0) → post ((-1)) m J P) ∧ (¬ ((m 1 11) = 0) → Ci X (d + 5) 15 [.ref 2, .int (iz x1)] m J P (fun z5 m2 J3 P4 => PP P4 ∧ Zr (z5) ∧ (((z5 = 0) → (∃ q8, P4 1 8 = some q8 ∧ am_kd an_K q8 = some (.inl 10) ∧ (∃ q9, P4 1 10 = some q9 ∧ am_kd an_K q9 = some (.inl 8) ∧ Ci X (d + 5) 80 [.ref 4, .int (iz x1), .ref q8, .ref q9] m2 J3 P4 (fun z13 m10 J11 P12 => PP P12 ∧ Zr (z13) ∧ (((z13 = 0) → (∃ q16, P12 1 10 = some q16 ∧ am_kd an_K q16 = some (.inl 8) ∧ (∃ q17, P12 1 10 = some q17 ∧ am_kd an_K q17 = some (.inl 8) ∧ (∃ q18, P12 1 8 = some q18 ∧ am_kd an_K q18 = some (.inl 10) ∧ Ci X (d + 5) 67 [.ref 28, .ref (q16 + 1), .int (iz 0), .int (iz (m10 q17 6)), .ref q18] m10 J11 P12 (fun z22 m19 J20 P21 => PP P21 ∧ Zr (z22) ∧ (((0 ≤ z22) → (∃ q25, P21 1 8 = some q25 ∧ am_kd an_K q25 = some (.inl 10) ∧ Cv X (d + 5) 81 [.ref 28, .ref (18 + 8), .ref q25] m19 J20 P21 (fun m26 J27 P28 => PP P28 ∧ Cv X (d + 5) 82 [.ref 50] m26 J27 P28 (fun m31 J32 P33 => PP P33 ∧ (∃ q36, P33 1 10 = some q36 ∧ am_kd an_K q36 = some (.inl 8) ∧ Cv X (d + 5) 83 [.ref 50, .ref q36] m31 J32 P33 (fun m37 J38 P39 => PP P39 ∧ (∃ q42, P39 1 8 = some q42 ∧ am_kd an_K q42 = some (.inl 10) ∧ Ci X (d + 5) 84 [.ref 50, .ref (18 + 8), .int (iz 0), .ref q42] m37 J38 P39 (fun z46 m43 J44 P45 => PP P45 ∧ post z22 m43 J44 P45)))))))) ∧ (¬ (0 ≤ z22) → post z22 m19 J20 P21))))))) ∧ (¬ (z13 = 0) → post ((-4)) m10 J11 P12)))))) ∧ (¬ (z5 = 0) → post ((-1)) m2 J3 P4)))))) : Rn X (d + 6) 79 0 [some (.ref 1), some (.int (iz x1)), none, none] [] (SS m J P) (QI post) := by
  refine s_aload_n (pc := 0) rfl rfl ?_
  refine s_getZ (pc := 1) rfl ko_1 ?_
  obtain ⟨hz1, hw⟩ := hw
  refine s_if_eq (pc := 4) (tgt := 18) rfl rfl hz1 (fun hc => ?_) (fun hc => ?_)
  · replace hw := hw.1 hc
    refine s_iconst (pc := 18) rfl ?_
    exact s_reti (pc := 19) rfl rfl hw
  · replace hw := hw.2 hc
    refine s_aload_n (pc := 7) rfl rfl ?_
    refine s_getA (pc := 8) rfl ko_1 (po_1_0 hp) ?_
    refine s_iload_n (pc := 11) rfl rfl ?_
    refine s_ci (pc := 12) (d := (d + 5)) (t := []) rfl rfl (am_ca_v (ps := [.int (iz x1)]) rfl ko_2) (Nat.le_of_ble_eq_true rfl) (Ci.weak hw fun z5 m2 J3 P4 hw => ?_)
    obtain ⟨hp6, hw⟩ := hw
    obtain ⟨hz7, hw⟩ := hw
    refine s_if_eq (pc := 15) (tgt := 20) rfl rfl hz7 (fun hc => ?_) (fun hc => ?_)
    · replace hw := hw.1 hc
      refine s_aload_n (pc := 20) rfl rfl ?_
      refine s_getA (pc := 21) rfl ko_1 (po_1_1 hp6) ?_
      refine s_iload_n (pc := 24) rfl rfl ?_
      refine s_aload_n (pc := 25) rfl rfl ?_
      obtain ⟨q8, hq8, kq8, hw⟩ := hw
      refine s_getA (pc := 26) rfl ko_1 hq8 ?_
      refine s_aload_n (pc := 29) rfl rfl ?_
      obtain ⟨q9, hq9, kq9, hw⟩ := hw
      refine s_getA (pc := 30) rfl ko_1 hq9 ?_
      refine s_ci (pc := 33) (d := (d + 5)) (t := []) rfl rfl (am_ca_v (ps := [.ref q9, .ref q8, .int (iz x1)]) rfl ko_4) (Nat.le_of_ble_eq_true rfl) (Ci.weak hw fun z13 m10 J11 P12 hw => ?_)
      obtain ⟨hp14, hw⟩ := hw
      obtain ⟨hz15, hw⟩ := hw
      refine s_if_eq (pc := 36) (tgt := 42) rfl rfl hz15 (fun hc => ?_) (fun hc => ?_)
      · replace hw := hw.1 hc
        refine s_aload_n (pc := 42) rfl rfl ?_
        refine s_getA (pc := 43) rfl ko_1 (po_1_4 hp14) ?_
        refine s_aload_n (pc := 46) rfl rfl ?_
        obtain ⟨q16, hq16, kq16, hw⟩ := hw
        refine s_getA (pc := 47) rfl ko_1 hq16 ?_
        refine s_getA (pc := 50) rfl kq16 (pc_8_0 hp14 kq16) ?_
        refine s_iconst (pc := 53) rfl ?_
        refine s_aload_n (pc := 54) rfl rfl ?_
        obtain ⟨q17, hq17, kq17, hw⟩ := hw
        refine s_getA (pc := 55) rfl ko_1 hq17 ?_
        refine s_getI (pc := 58) rfl kq17 ?_
        refine s_aload_n (pc := 61) rfl rfl ?_
        obtain ⟨q18, hq18, kq18, hw⟩ := hw
        refine s_getA (pc := 62) rfl ko_1 hq18 ?_
        refine s_ci (pc := 65) (d := (d + 5)) (t := []) rfl rfl (am_ca_v (ps := [.ref q18, .int (iz (m10 q17 6)), .int (iz 0), .ref (q16 + 1)]) rfl ko_28) (Nat.le_of_ble_eq_true rfl) (Ci.weak hw fun z22 m19 J20 P21 hw => ?_)
        obtain ⟨hp23, hw⟩ := hw
        refine s_istore_n (pc := 68) (L' := [some (.ref 1), some (.int (iz x1)), some (.int (iz z22)), none]) rfl (Nat.le_of_ble_eq_true rfl) rfl ?_
        refine s_iload_n (pc := 69) rfl rfl ?_
        obtain ⟨hz24, hw⟩ := hw
        refine s_if_ge (pc := 70) (tgt := 75) rfl rfl hz24 (fun hc => ?_) (fun hc => ?_)
        · replace hw := hw.1 hc
          refine s_aload_n (pc := 75) rfl rfl ?_
          refine s_getA (pc := 76) rfl ko_1 (po_1_3 hp23) ?_
          refine s_getA (pc := 79) rfl (by decide +kernel) (pc_4_10 hp23 (by decide +kernel)) ?_
          refine s_astore_n (pc := 82) (L' := [some (.ref 1), some (.int (iz x1)), some (.int (iz z22)), some (.ref (18 + 8))]) rfl (Nat.le_of_ble_eq_true rfl) rfl ?_
          refine s_aload_n (pc := 83) rfl rfl ?_
          refine s_getA (pc := 84) rfl ko_1 (po_1_4 hp23) ?_
          refine s_aload_n (pc := 87) rfl rfl ?_
          refine s_aload_n (pc := 88) rfl rfl ?_
          obtain ⟨q25, hq25, kq25, hw⟩ := hw
          refine s_getA (pc := 89) rfl ko_1 hq25 ?_
          refine s_cv (pc := 92) (d := (d + 5)) (t := []) rfl rfl (am_ca_v (ps := [.ref q25, .ref (18 + 8)]) rfl ko_28) (Nat.le_of_ble_eq_true rfl) (Cv.weak hw fun m26 J27 P28 hw => ?_)
          obtain ⟨hp30, hw⟩ := hw
          refine s_aload_n (pc := 95) rfl rfl ?_
          refine s_getA (pc := 96) rfl ko_1 (po_1_7 hp30) ?_
          refine s_cv (pc := 99) (d := (d + 5)) (t := []) rfl rfl (am_ca_v (ps := []) rfl ko_50) (Nat.le_of_ble_eq_true rfl) (Cv.weak hw fun m31 J32 P33 hw => ?_)
          obtain ⟨hp35, hw⟩ := hw
          refine s_aload_n (pc := 102) rfl rfl ?_
          refine s_getA (pc := 103) rfl ko_1 (po_1_7 hp35) ?_
          refine s_aload_n (pc := 106) rfl rfl ?_
          obtain ⟨q36, hq36, kq36, hw⟩ := hw
          refine s_getA (pc := 107) rfl ko_1 hq36 ?_
          refine s_cv (pc := 110) (d := (d + 5)) (t := []) rfl rfl (am_ca_v (ps := [.ref q36]) rfl ko_50) (Nat.le_of_ble_eq_true rfl) (Cv.weak hw fun m37 J38 P39 hw => ?_)
          obtain ⟨hp41, hw⟩ := hw
          refine s_aload_n (pc := 113) rfl rfl ?_
          refine s_getA (pc := 114) rfl ko_1 (po_1_7 hp41) ?_
          refine s_aload_n (pc := 117) rfl rfl ?_
          refine s_iconst (pc := 118) rfl ?_
          refine s_aload_n (pc := 119) rfl rfl ?_
          obtain ⟨q42, hq42, kq42, hw⟩ := hw
          refine s_getA (pc := 120) rfl ko_1 hq42 ?_
          refine s_ci (pc := 123) (d := (d + 5)) (t := []) rfl rfl (am_ca_v (ps := [.ref q42, .int (iz 0), .ref (18 + 8)]) rfl ko_50) (Nat.le_of_ble_eq_true rfl) (Ci.weak hw fun z46 m43 J44 P45 hw => ?_)
          obtain ⟨hp47, hw⟩ := hw
          refine s_pop (pc := 126) rfl rfl ?_
          refine s_iload_n (pc := 127) rfl rfl ?_
          exact s_reti (pc := 128) rfl rfl hw
        · replace hw := hw.2 hc
          refine s_iload_n (pc := 73) rfl rfl ?_
          exact s_reti (pc := 74) rfl rfl hw
      · replace hw := hw.2 hc
        refine s_bipush (pc := 39) rfl (by decide) ?_
        exact s_reti (pc := 41) rfl rfl hw
    · replace hw := hw.2 hc
      refine s_iconst (pc := 18) rfl ?_
      exact s_reti (pc := 19) rfl rfl hw

set_option maxRecDepth 20000 in
set_option maxHeartbeats 4000000 in
theorem b_Reader_readTerm_0 {X : aX} {d : Nat} (x1 : Int) (x2 : Nat) (x3 : Nat) (kx2 : am_kd an_K x2 = some (.inl 10)) (kx3 : am_kd an_K x3 = some (.inl 8)) (m : Mi) (J : Mj) (P : Mp) (hp : PP P) (post : Int → Mi → Mj → Mp → Prop)
    (hw : Cv X (d + 4) 17 [.ref 4, .int (iz x1)] m J P (fun m1 J2 P3 => PP P3 ∧ Cv X (d + 4) 29 [.ref x3] m1 J2 P3 (fun m6 J7 P8 => PP P8 ∧ Ci X (d + 4) 30 [.ref 4, .ref x2, .ref x3, .int (iz 6)] m6 J7 P8 (fun z14 m11 J12 P13 => PP P13 ∧ Zr (z14) ∧ (((z14 = 0) → Cv X (d + 4) 35 [.ref x3, .int (iz ((-1)))] m11 J12 P13 (fun m17 J18 P19 => PP P19 ∧ Rn X (d + 5) 80 52 [some (.ref 4), some (.int (iz x1)), some (.ref x2), some (.ref x3), some (.int (iz 0))] [] (SS m17 J18 P19) (QI post))) ∧ (¬ (z14 = 0) → Ci X (d + 4) 25 [.ref 4, .int (iz 0)] m11 J12 P13 (fun z25 m22 J23 P24 => PP P24 ∧ Zr (z25) ∧ (((z25 = 0) → Cv X (d + 4) 35 [.ref x3, .int (iz ((-1)))] m22 J23 P24 (fun m28 J29 P30 => PP P30 ∧ Rn X (d + 5) 80 52 [some (.ref 4), some (.int (iz x1)), some (.ref x2), some (.ref x3), some (.int (iz 0))] [] (SS m28 J29 P30) (QI post))) ∧ (¬ (z25 = 0) → Cv X (d + 4) 35 [.ref x3, .int (iz ((-1)))] m22 J23 P24 (fun m33 J34 P35 => PP P35 ∧ Ci X (d + 4) 38 [.ref 4, .ref x2, .ref x3] m33 J34 P35 (fun z41 m38 J39 P40 => PP P40 ∧ Rn X (d + 5) 80 52 [some (.ref 4), some (.int (iz x1)), some (.ref x2), some (.ref x3), some (.int (iz 1))] [] (SS m38 J39 P40) (QI post)))))))))))) : Rn X (d + 5) 80 0 [some (.ref 4), some (.int (iz x1)), some (.ref x2), some (.ref x3), none] [] (SS m J P) (QI post) := by
  refine s_aload_n (pc := 0) rfl rfl ?_
  refine s_iload_n (pc := 1) rfl rfl ?_
  refine s_cv (pc := 2) (d := (d + 4)) (t := []) rfl rfl (am_ca_v (ps := [.int (iz x1)]) rfl ko_4) (Nat.le_of_ble_eq_true rfl) (Cv.weak hw fun m1 J2 P3 hw => ?_)
  obtain ⟨hp5, hw⟩ := hw
  refine s_aload_n (pc := 5) rfl rfl ?_
  refine s_cv (pc := 6) (d := (d + 4)) (t := []) rfl rfl (am_ca_v (ps := []) rfl kx3) (Nat.le_of_ble_eq_true rfl) (Cv.weak hw fun m6 J7 P8 hw => ?_)
  obtain ⟨hp10, hw⟩ := hw
  refine s_aload_n (pc := 9) rfl rfl ?_
  refine s_aload_n (pc := 10) rfl rfl ?_
  refine s_aload_n (pc := 11) rfl rfl ?_
  refine s_bipush (pc := 12) rfl (by decide) ?_
  refine s_ci (pc := 14) (d := (d + 4)) (t := []) rfl rfl (am_ca_v (ps := [.int (iz 6), .ref x3, .ref x2]) rfl ko_4) (Nat.le_of_ble_eq_true rfl) (Ci.weak hw fun z14 m11 J12 P13 hw => ?_)
  obtain ⟨hp15, hw⟩ := hw
  obtain ⟨hz16, hw⟩ := hw
  refine s_if_eq (pc := 17) (tgt := 32) rfl rfl hz16 (fun hc => ?_) (fun hc => ?_)
  · replace hw := hw.1 hc
    refine s_iconst (pc := 32) rfl ?_
    refine s_istore (pc := 33) (L' := [some (.ref 4), some (.int (iz x1)), some (.ref x2), some (.ref x3), some (.int (iz 0))]) rfl (Nat.le_of_ble_eq_true rfl) rfl ?_
    refine s_aload_n (pc := 35) rfl rfl ?_
    refine s_iconst (pc := 36) rfl ?_
    refine s_cv (pc := 37) (d := (d + 4)) (t := []) rfl rfl (am_ca_v (ps := [.int (iz ((-1)))]) rfl kx3) (Nat.le_of_ble_eq_true rfl) (Cv.weak hw fun m17 J18 P19 hw => ?_)
    obtain ⟨hp21, hw⟩ := hw
    refine s_iload (pc := 40) rfl rfl ?_
    refine s_if_eq (pc := 42) (tgt := 52) rfl rfl (by decide) (fun hc => ?_) (fun hc => ?_)
    rotate_left
    · exact absurd hc (by decide)
    exact hw
  · replace hw := hw.2 hc
    refine s_aload_n (pc := 20) rfl rfl ?_
    refine s_iconst (pc := 21) rfl ?_
    refine s_ci (pc := 22) (d := (d + 4)) (t := []) rfl rfl (am_ca_v (ps := [.int (iz 0)]) rfl ko_4) (Nat.le_of_ble_eq_true rfl) (Ci.weak hw fun z25 m22 J23 P24 hw => ?_)
    obtain ⟨hp26, hw⟩ := hw
    obtain ⟨hz27, hw⟩ := hw
    refine s_if_eq (pc := 25) (tgt := 32) rfl rfl hz27 (fun hc => ?_) (fun hc => ?_)
    · replace hw := hw.1 hc
      refine s_iconst (pc := 32) rfl ?_
      refine s_istore (pc := 33) (L' := [some (.ref 4), some (.int (iz x1)), some (.ref x2), some (.ref x3), some (.int (iz 0))]) rfl (Nat.le_of_ble_eq_true rfl) rfl ?_
      refine s_aload_n (pc := 35) rfl rfl ?_
      refine s_iconst (pc := 36) rfl ?_
      refine s_cv (pc := 37) (d := (d + 4)) (t := []) rfl rfl (am_ca_v (ps := [.int (iz ((-1)))]) rfl kx3) (Nat.le_of_ble_eq_true rfl) (Cv.weak hw fun m28 J29 P30 hw => ?_)
      obtain ⟨hp32, hw⟩ := hw
      refine s_iload (pc := 40) rfl rfl ?_
      refine s_if_eq (pc := 42) (tgt := 52) rfl rfl (by decide) (fun hc => ?_) (fun hc => ?_)
      rotate_left
      · exact absurd hc (by decide)
      exact hw
    · replace hw := hw.2 hc
      refine s_iconst (pc := 28) rfl ?_
      refine s_goto (pc := 29) (tgt := 33) rfl rfl ?_
      refine s_istore (pc := 33) (L' := [some (.ref 4), some (.int (iz x1)), some (.ref x2), some (.ref x3), some (.int (iz 1))]) rfl (Nat.le_of_ble_eq_true rfl) rfl ?_
      refine s_aload_n (pc := 35) rfl rfl ?_
      refine s_iconst (pc := 36) rfl ?_
      refine s_cv (pc := 37) (d := (d + 4)) (t := []) rfl rfl (am_ca_v (ps := [.int (iz ((-1)))]) rfl kx3) (Nat.le_of_ble_eq_true rfl) (Cv.weak hw fun m33 J34 P35 hw => ?_)
      obtain ⟨hp37, hw⟩ := hw
      refine s_iload (pc := 40) rfl rfl ?_
      refine s_if_eq (pc := 42) (tgt := 52) rfl rfl (by decide) (fun hc => ?_) (fun hc => ?_)
      · exact absurd hc (by decide)
      refine s_aload_n (pc := 45) rfl rfl ?_
      refine s_aload_n (pc := 46) rfl rfl ?_
      refine s_aload_n (pc := 47) rfl rfl ?_
      refine s_ci (pc := 48) (d := (d + 4)) (t := []) rfl rfl (am_ca_v (ps := [.ref x3, .ref x2]) rfl ko_4) (Nat.le_of_ble_eq_true rfl) (Ci.weak hw fun z41 m38 J39 P40 hw => ?_)
      obtain ⟨hp42, hw⟩ := hw
      refine s_pop (pc := 51) rfl rfl ?_
      exact hw

set_option maxRecDepth 20000 in
set_option maxHeartbeats 4000000 in
theorem b_Reader_readTerm_52 {X : aX} {d : Nat} (x1 : Int) (x2 : Nat) (x3 : Nat) (x4 : Int) (kx2 : am_kd an_K x2 = some (.inl 10)) (kx3 : am_kd an_K x3 = some (.inl 8)) (m : Mi) (J : Mj) (P : Mp) (hp : PP P) (post : Int → Mi → Mj → Mp → Prop)
    (hw : post (m 4 3) m J P) : Rn X (d + 5) 80 52 [some (.ref 4), some (.int (iz x1)), some (.ref x2), some (.ref x3), some (.int (iz x4))] [] (SS m J P) (QI post) := by
  refine s_aload_n (pc := 52) rfl rfl ?_
  refine s_getI (pc := 53) rfl ko_4 ?_
  exact s_reti (pc := 56) rfl rfl hw

set_option maxRecDepth 20000 in
set_option maxHeartbeats 4000000 in
theorem b_Reducer_takeForm_0 {X : aX} {d : Nat} (x1 nx1 : Nat) (x2 : Nat) (kx1 : am_kd an_K x1 = some (.inr (0, nx1))) (bx1 : nx1 ≤ 100000) (kx2 : am_kd an_K x2 = some (.inl 10)) (m : Mi) (J : Mj) (P : Mp) (hp : PP P) (post : Mi → Mj → Mp → Prop)
    (hw : Cv X (d + 1) 48 [.ref 28, .ref 30, .int (iz (m 28 4)), .int (iz (200 - (m 28 4))), .ref x1, .int (iz 0), .ref x2] m J P (fun m1 J2 P3 => PP P3 ∧ post m1 J2 P3)) : Rn X (d + 2) 81 0 [some (.ref 28), some (.ref x1), some (.ref x2)] [] (SS m J P) (QV post) := by
  refine s_aload_n (pc := 0) rfl rfl ?_
  refine s_aload_n (pc := 1) rfl rfl ?_
  refine s_getA (pc := 2) rfl ko_28 (po_28_2 hp) ?_
  refine s_aload_n (pc := 5) rfl rfl ?_
  refine s_getI (pc := 6) rfl ko_28 ?_
  refine s_sipush (pc := 9) rfl (by decide) ?_
  refine s_aload_n (pc := 12) rfl rfl ?_
  refine s_getI (pc := 13) rfl ko_28 ?_
  refine s_isub (pc := 16) rfl ?_
  refine s_aload_n (pc := 17) rfl rfl ?_
  refine s_iconst (pc := 18) rfl ?_
  refine s_aload_n (pc := 19) rfl rfl ?_
  refine s_cv (pc := 20) (d := (d + 1)) (t := []) rfl rfl (am_ca_v (ps := [.ref x2, .int (iz 0), .ref x1, .int (iz (200 - (m 28 4))), .int (iz (m 28 4)), .ref 30]) rfl ko_28) (Nat.le_of_ble_eq_true rfl) (Cv.weak hw fun m1 J2 P3 hw => ?_)
  obtain ⟨hp5, hw⟩ := hw
  exact s_retv (pc := 23) rfl rfl hw

set_option maxRecDepth 20000 in
set_option maxHeartbeats 4000000 in
theorem b_Page_begin_0 {X : aX} {d : Nat}   (m : Mi) (J : Mj) (P : Mp) (hp : PP P) (post : Mi → Mj → Mp → Prop)
    (hw : Rn X d 82 12 [some (.ref 50), some (.int (iz 0))] [] (SS (mu (mu m 50 1 0) 50 3 0) J P) (QV post)) : Rn X d 82 0 [some (.ref 50), none] [] (SS m J P) (QV post) := by
  refine s_aload_n (pc := 0) rfl rfl ?_
  refine s_iconst (pc := 1) rfl ?_
  refine s_putI (pc := 2) rfl ko_50 ?_
  refine s_aload_n (pc := 5) rfl rfl ?_
  refine s_iconst (pc := 6) rfl ?_
  refine s_putI (pc := 7) rfl ko_50 ?_
  refine s_iconst (pc := 10) rfl ?_
  refine s_istore_n (pc := 11) (L' := [some (.ref 50), some (.int (iz 0))]) rfl (Nat.le_of_ble_eq_true rfl) rfl ?_
  exact hw

set_option maxRecDepth 20000 in
set_option maxHeartbeats 4000000 in
theorem b_Page_begin_12 {X : aX} {d : Nat} (x1 : Int)  (m : Mi) (J : Mj) (P : Mp) (hp : PP P) (post : Mi → Mj → Mp → Prop)
    (hw : Zr (x1) ∧ (((808 ≤ x1) → post m J P) ∧ (¬ (808 ≤ x1) → ((0 : Int) ≤ x1 ∧ (x1 : Int) < 808) ∧ Rn X d 82 12 [some (.ref 50), some (.int (iz (x1 + 1)))] [] (SS m (mju J 52 x1.toNat (Int64.ofNat 0)) P) (QV post)))) : Rn X d 82 12 [some (.ref 50), some (.int (iz x1))] [] (SS m J P) (QV post) := by
  refine s_iload_n (pc := 12) rfl rfl ?_
  refine s_sipush (pc := 13) rfl (by decide) ?_
  obtain ⟨hz1, hw⟩ := hw
  refine s_ic_ge (pc := 16) (tgt := 32) rfl rfl hz1 (by decide) (fun hc => ?_) (fun hc => ?_)
  · replace hw := hw.1 hc
    exact s_retv (pc := 32) rfl rfl hw
  · replace hw := hw.2 hc
    refine s_aload_n (pc := 19) rfl rfl ?_
    refine s_getA (pc := 20) rfl ko_50 (po_50_2 hp) ?_
    refine s_iload_n (pc := 23) rfl rfl ?_
    refine s_lconst (pc := 24) rfl ?_
    obtain ⟨hb2, hw⟩ := hw
    refine s_last (pc := 25) rfl ka_52 (by decide) hb2 ?_
    refine s_iinc (pc := 26) (L' := [some (.ref 50), some (.int (iz (x1 + 1)))]) rfl rfl (Nat.le_of_ble_eq_true rfl) rfl ?_
    refine s_goto (pc := 29) (tgt := 12) rfl rfl ?_
    exact hw

set_option maxRecDepth 20000 in
set_option maxHeartbeats 4000000 in
theorem b_Page_nameAll_0 {X : aX} {d : Nat} (x1 : Nat) (kx1 : am_kd an_K x1 = some (.inl 8)) (m : Mi) (J : Mj) (P : Mp) (hp : PP P) (post : Mi → Mj → Mp → Prop)
    (hw : Rn X d 83 2 [some (.ref 50), some (.ref x1), some (.int (iz 0))] [] (SS m J P) (QV post)) : Rn X d 83 0 [some (.ref 50), some (.ref x1), none] [] (SS m J P) (QV post) := by
  refine s_iconst (pc := 0) rfl ?_
  refine s_istore_n (pc := 1) (L' := [some (.ref 50), some (.ref x1), some (.int (iz 0))]) rfl (Nat.le_of_ble_eq_true rfl) rfl ?_
  exact hw

set_option maxRecDepth 20000 in
set_option maxHeartbeats 4000000 in
theorem b_Page_nameAll_2 {X : aX} {d : Nat} (x1 : Nat) (x2 : Int) (kx1 : am_kd an_K x1 = some (.inl 8)) (m : Mi) (J : Mj) (P : Mp) (hp : PP P) (post : Mi → Mj → Mp → Prop)
    (hw : Zr (x2) ∧ Zr (m x1 7) ∧ ((((m x1 7) ≤ x2) → post m J P) ∧ (¬ ((m x1 7) ≤ x2) → ((0 : Int) ≤ x2 ∧ (x2 : Int) < 8) ∧ ((0 : Int) ≤ x2 ∧ (x2 : Int) < 808) ∧ Rn X d 83 2 [some (.ref 50), some (.ref x1), some (.int (iz (x2 + 1)))] [] (SS m (mju J 52 x2.toNat (J (x1 + 5) x2.toNat)) P) (QV post)))) : Rn X d 83 2 [some (.ref 50), some (.ref x1), some (.int (iz x2))] [] (SS m J P) (QV post) := by
  refine s_iload_n (pc := 2) rfl rfl ?_
  refine s_aload_n (pc := 3) rfl rfl ?_
  refine s_getI (pc := 4) rfl kx1 ?_
  obtain ⟨hz1, hw⟩ := hw
  obtain ⟨hz2, hw⟩ := hw
  refine s_ic_ge (pc := 7) (tgt := 28) rfl rfl hz1 hz2 (fun hc => ?_) (fun hc => ?_)
  · replace hw := hw.1 hc
    exact s_retv (pc := 28) rfl rfl hw
  · replace hw := hw.2 hc
    refine s_aload_n (pc := 10) rfl rfl ?_
    refine s_getA (pc := 11) rfl ko_50 (po_50_2 hp) ?_
    refine s_iload_n (pc := 14) rfl rfl ?_
    refine s_aload_n (pc := 15) rfl rfl ?_
    refine s_getA (pc := 16) rfl kx1 (pc_8_4 hp kx1) ?_
    refine s_iload_n (pc := 19) rfl rfl ?_
    obtain ⟨hb3, hw⟩ := hw
    refine s_lald (pc := 20) rfl (kc_8_4 kx1) (by decide) hb3 ?_
    obtain ⟨hb4, hw⟩ := hw
    refine s_last (pc := 21) rfl ka_52 (by decide) hb4 ?_
    refine s_iinc (pc := 22) (L' := [some (.ref 50), some (.ref x1), some (.int (iz (x2 + 1)))]) rfl rfl (Nat.le_of_ble_eq_true rfl) rfl ?_
    refine s_goto (pc := 25) (tgt := 2) rfl rfl ?_
    exact hw
