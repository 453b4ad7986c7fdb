/-! the methods, from place to place, by program (wip/whole/gen/blk.py) -/
set_option maxRecDepth 20000 in
set_option maxHeartbeats 4000000 in
theorem b_Page_writeTerm_0 {X : aX} {d : Nat} (x1 nx1 : Nat) (x2 : Int) (x3 : Nat) (kx1 : am_kd an_K x1 = some (.inr (0, nx1))) (bx1 : nx1 ≤ 100000) (kx3 : am_kd an_K x3 = some (.inl 10)) (m : Mi) (J : Mj) (P : Mp) (hp : PP P) (post : Int → Mi → Mj → Mp → Prop)
    (hw : Rn X (d + 3) 84 6 [some (.ref 50), some (.ref x1), some (.int (iz x2)), some (.ref x3), some (.int (iz 0)), some (.int (iz x2)), none] [] (SS m J P) (QI post)) : Rn X (d + 3) 84 0 [some (.ref 50), some (.ref x1), some (.int (iz x2)), some (.ref x3), none, none, none] [] (SS m J P) (QI post) := by
  refine s_iconst (pc := 0) rfl ?_
  refine s_istore (pc := 1) (L' := [some (.ref 50), some (.ref x1), some (.int (iz x2)), some (.ref x3), some (.int (iz 0)), none, none]) rfl (Nat.le_of_ble_eq_true rfl) rfl ?_
  refine s_iload_n (pc := 3) rfl rfl ?_
  refine s_istore (pc := 4) (L' := [some (.ref 50), some (.ref x1), some (.int (iz x2)), some (.ref x3), some (.int (iz 0)), some (.int (iz x2)), none]) rfl (Nat.le_of_ble_eq_true rfl) rfl ?_
  exact hw

set_option maxRecDepth 20000 in
set_option maxHeartbeats 4000000 in
theorem b_Page_writeTerm_6 {X : aX} {d : Nat} (x1 nx1 : Nat) (x2 : Int) (x3 : Nat) (x4 : Int) (x5 : Int) (kx1 : am_kd an_K x1 = some (.inr (0, nx1))) (bx1 : nx1 ≤ 100000) (kx3 : am_kd an_K x3 = some (.inl 10)) (m : Mi) (J : Mj) (P : Mp) (hp : PP P) (post : Int → Mi → Mj → Mp → Prop)
    (hw : Zr (x5) ∧ Zr ((nx1 : Int)) ∧ (((((nx1 : Int)) ≤ x5) → post ((nx1 : Int)) m J P) ∧ (¬ (((nx1 : Int)) ≤ x5) → ((0 : Int) ≤ x5 ∧ (x5 : Int) < nx1) ∧ Cv X (d + 2) 85 [.ref 50, .int (iz (m x1 x5.toNat)), .ref x3] m J P (fun m4 J5 P6 => PP P6 ∧ ((0 : Int) ≤ x5 ∧ (x5 : Int) < nx1) ∧ Ci X (d + 2) 40 [.ref x3, .int (iz (m4 x1 x5.toNat))] m4 J5 P6 (fun z13 m10 J11 P12 => PP P12 ∧ Zr (z13) ∧ (((z13 ≤ 0) → Ci X (d + 2) 89 [.ref 50, .int (iz x4)] m10 J11 P12 (fun z19 m16 J17 P18 => PP P18 ∧ Zr (z19) ∧ (((¬ z19 = 0) → Rn X (d + 3) 84 6 [some (.ref 50), some (.ref x1), some (.int (iz x2)), some (.ref x3), some (.int (iz z19)), some (.int (iz (x5 + 1))), none] [] (SS m16 J17 P18) (QI post)) ∧ (¬ (¬ z19 = 0) → post (x5 + 1) m16 J17 P18)))) ∧ (¬ (z13 ≤ 0) → Zr (x4) ∧ (((200 ≤ x4) → Ci X (d + 2) 89 [.ref 50, .int (iz x4)] m10 J11 P12 (fun z26 m23 J24 P25 => PP P25 ∧ Zr (z26) ∧ (((¬ z26 = 0) → Rn X (d + 3) 84 6 [some (.ref 50), some (.ref x1), some (.int (iz x2)), some (.ref x3), some (.int (iz z26)), some (.int (iz (x5 + 1))), none] [] (SS m23 J24 P25) (QI post)) ∧ (¬ (¬ z26 = 0) → post (x5 + 1) m23 J24 P25)))) ∧ (¬ (200 ≤ x4) → Cv X (d + 2) 87 [.ref 50, .int (iz 40)] m10 J11 P12 (fun m29 J30 P31 => PP P31 ∧ ((0 : Int) ≤ x4 ∧ (x4 : Int) < 200) ∧ Zr (x4 + 1) ∧ (((¬ (x4 + 1) = 0) → Rn X (d + 3) 84 6 [some (.ref 50), some (.ref x1), some (.int (iz x2)), some (.ref x3), some (.int (iz (x4 + 1))), some (.int (iz (x5 + 1))), none] [] (SS (mu m29 53 x4.toNat z13) J30 P31) (QI post)) ∧ (¬ (¬ (x4 + 1) = 0) → post (x5 + 1) (mu m29 53 x4.toNat z13) J30 P31)))))))))))) : Rn X (d + 3) 84 6 [some (.ref 50), some (.ref x1), some (.int (iz x2)), some (.ref x3), some (.int (iz x4)), some (.int (iz x5)), none] [] (SS m J P) (QI post) := by
  refine s_iload (pc := 6) rfl rfl ?_
  refine s_aload_n (pc := 8) rfl rfl ?_
  refine s_alen (pc := 9) rfl kx1 (by decide) ?_
  obtain ⟨hz1, hw⟩ := hw
  obtain ⟨hz2, hw⟩ := hw
  refine s_ic_ge (pc := 10) (tgt := 90) rfl rfl hz1 hz2 (fun hc => ?_) (fun hc => ?_)
  · replace hw := hw.1 hc
    refine s_aload_n (pc := 90) rfl rfl ?_
    refine s_alen (pc := 91) rfl kx1 (by decide) ?_
    exact s_reti (pc := 92) rfl rfl hw
  · replace hw := hw.2 hc
    refine s_aload_n (pc := 13) rfl rfl ?_
    refine s_aload_n (pc := 14) rfl rfl ?_
    refine s_iload (pc := 15) rfl rfl ?_
    obtain ⟨hb3, hw⟩ := hw
    refine s_iald (pc := 17) rfl kx1 bx1 hb3 ?_
    refine s_aload_n (pc := 18) rfl rfl ?_
    refine s_cv (pc := 19) (d := (d + 2)) (t := []) rfl rfl (am_ca_v (ps := [.ref x3, .int (iz (m x1 x5.toNat))]) rfl ko_50) (Nat.le_of_ble_eq_true rfl) (Cv.weak hw fun m4 J5 P6 hw => ?_)
    obtain ⟨hp8, hw⟩ := hw
    refine s_aload_n (pc := 22) rfl rfl ?_
    refine s_aload_n (pc := 23) rfl rfl ?_
    refine s_iload (pc := 24) rfl rfl ?_
    obtain ⟨hb9, hw⟩ := hw
    refine s_iald (pc := 26) rfl kx1 bx1 hb9 ?_
    refine s_ci (pc := 27) (d := (d + 2)) (t := []) rfl rfl (am_ca_v (ps := [.int (iz (m4 x1 x5.toNat))]) rfl kx3) (Nat.le_of_ble_eq_true rfl) (Ci.weak hw fun z13 m10 J11 P12 hw => ?_)
    obtain ⟨hp14, hw⟩ := hw
    refine s_istore (pc := 30) (L' := [some (.ref 50), some (.ref x1), some (.int (iz x2)), some (.ref x3), some (.int (iz x4)), some (.int (iz x5)), some (.int (iz z13))]) rfl (Nat.le_of_ble_eq_true rfl) rfl ?_
    refine s_iload (pc := 32) rfl rfl ?_
    obtain ⟨hz15, hw⟩ := hw
    refine s_if_le (pc := 34) (tgt := 66) rfl rfl hz15 (fun hc => ?_) (fun hc => ?_)
    · replace hw := hw.1 hc
      refine s_aload_n (pc := 66) rfl rfl ?_
      refine s_iload (pc := 67) rfl rfl ?_
      refine s_ci (pc := 69) (d := (d + 2)) (t := []) rfl rfl (am_ca_v (ps := [.int (iz x4)]) rfl ko_50) (Nat.le_of_ble_eq_true rfl) (Ci.weak hw fun z19 m16 J17 P18 hw => ?_)
      obtain ⟨hp20, hw⟩ := hw
      refine s_istore (pc := 72) (L' := [some (.ref 50), some (.ref x1), some (.int (iz x2)), some (.ref x3), some (.int (iz z19)), some (.int (iz x5)), some (.int (iz z13))]) rfl (Nat.le_of_ble_eq_true rfl) rfl ?_
      refine s_iload (pc := 74) rfl rfl ?_
      obtain ⟨hz21, hw⟩ := hw
      refine s_if_ne (pc := 76) (tgt := 84) rfl rfl hz21 (fun hc => ?_) (fun hc => ?_)
      · replace hw := hw.1 hc
        refine s_iinc (pc := 84) (L' := [some (.ref 50), some (.ref x1), some (.int (iz x2)), some (.ref x3), some (.int (iz z19)), some (.int (iz (x5 + 1))), some (.int (iz z13))]) rfl rfl (Nat.le_of_ble_eq_true rfl) rfl ?_
        refine s_goto (pc := 87) (tgt := 6) rfl rfl ?_
        exact Rn.weakL hw (LLe.keep _ (LLe.keep _ (LLe.keep _ (LLe.keep _ (LLe.keep _ (LLe.keep _ (LLe.drop _ (LLe.nil))))))))
      · replace hw := hw.2 hc
        refine s_iload (pc := 79) rfl rfl ?_
        refine s_iconst (pc := 81) rfl ?_
        refine s_iadd (pc := 82) rfl ?_
        exact s_reti (pc := 83) rfl rfl hw
    · replace hw := hw.2 hc
      refine s_iload (pc := 37) rfl rfl ?_
      refine s_sipush (pc := 39) rfl (by decide) ?_
      obtain ⟨hz22, hw⟩ := hw
      refine s_ic_ge (pc := 42) (tgt := 66) rfl rfl hz22 (by decide) (fun hc => ?_) (fun hc => ?_)
      · replace hw := hw.1 hc
        refine s_aload_n (pc := 66) rfl rfl ?_
        refine s_iload (pc := 67) rfl rfl ?_
        refine s_ci (pc := 69) (d := (d + 2)) (t := []) rfl rfl (am_ca_v (ps := [.int (iz x4)]) rfl ko_50) (Nat.le_of_ble_eq_true rfl) (Ci.weak hw fun z26 m23 J24 P25 hw => ?_)
        obtain ⟨hp27, hw⟩ := hw
        refine s_istore (pc := 72) (L' := [some (.ref 50), some (.ref x1), some (.int (iz x2)), some (.ref x3), some (.int (iz z26)), some (.int (iz x5)), some (.int (iz z13))]) rfl (Nat.le_of_ble_eq_true rfl) rfl ?_
        refine s_iload (pc := 74) rfl rfl ?_
        obtain ⟨hz28, hw⟩ := hw
        refine s_if_ne (pc := 76) (tgt := 84) rfl rfl hz28 (fun hc => ?_) (fun hc => ?_)
        · replace hw := hw.1 hc
          refine s_iinc (pc := 84) (L' := [some (.ref 50), some (.ref x1), some (.int (iz x2)), some (.ref x3), some (.int (iz z26)), some (.int (iz (x5 + 1))), some (.int (iz z13))]) rfl rfl (Nat.le_of_ble_eq_true rfl) rfl ?_
          refine s_goto (pc := 87) (tgt := 6) rfl rfl ?_
          exact Rn.weakL hw (LLe.keep _ (LLe.keep _ (LLe.keep _ (LLe.keep _ (LLe.keep _ (LLe.keep _ (LLe.drop _ (LLe.nil))))))))
        · replace hw := hw.2 hc
          refine s_iload (pc := 79) rfl rfl ?_
          refine s_iconst (pc := 81) rfl ?_
          refine s_iadd (pc := 82) rfl ?_
          exact s_reti (pc := 83) rfl rfl hw
      · replace hw := hw.2 hc
        refine s_aload_n (pc := 45) rfl rfl ?_
        refine s_bipush (pc := 46) rfl (by decide) ?_
        refine s_cv (pc := 48) (d := (d + 2)) (t := []) rfl rfl (am_ca_v (ps := [.int (iz 40)]) rfl ko_50) (Nat.le_of_ble_eq_true rfl) (Cv.weak hw fun m29 J30 P31 hw => ?_)
        obtain ⟨hp33, hw⟩ := hw
        refine s_aload_n (pc := 51) rfl rfl ?_
        refine s_getA (pc := 52) rfl ko_50 (po_50_4 hp33) ?_
        refine s_iload (pc := 55) rfl rfl ?_
        refine s_iload (pc := 57) rfl rfl ?_
        obtain ⟨hb34, hw⟩ := hw
        refine s_iast (pc := 59) rfl ka_53 (by decide) hb34 ?_
        refine s_iinc (pc := 60) (L' := [some (.ref 50), some (.ref x1), some (.int (iz x2)), some (.ref x3), some (.int (iz (x4 + 1))), some (.int (iz x5)), some (.int (iz z13))]) rfl rfl (Nat.le_of_ble_eq_true rfl) rfl ?_
        refine s_goto (pc := 63) (tgt := 74) rfl rfl ?_
        refine s_iload (pc := 74) rfl rfl ?_
        obtain ⟨hz35, hw⟩ := hw
        refine s_if_ne (pc := 76) (tgt := 84) rfl rfl hz35 (fun hc => ?_) (fun hc => ?_)
        · replace hw := hw.1 hc
          refine s_iinc (pc := 84) (L' := [some (.ref 50), some (.ref x1), some (.int (iz x2)), some (.ref x3), some (.int (iz (x4 + 1))), some (.int (iz (x5 + 1))), some (.int (iz z13))]) rfl rfl (Nat.le_of_ble_eq_true rfl) rfl ?_
          refine s_goto (pc := 87) (tgt := 6) rfl rfl ?_
          exact Rn.weakL hw (LLe.keep _ (LLe.keep _ (LLe.keep _ (LLe.keep _ (LLe.keep _ (LLe.keep _ (LLe.drop _ (LLe.nil))))))))
        · replace hw := hw.2 hc
          refine s_iload (pc := 79) rfl rfl ?_
          refine s_iconst (pc := 81) rfl ?_
          refine s_iadd (pc := 82) rfl ?_
          exact s_reti (pc := 83) rfl rfl hw

set_option maxRecDepth 20000 in
set_option maxHeartbeats 4000000 in
theorem b_Page_writeHead_0 {X : aX} {d : Nat} (x1 : Int) (x2 : Nat) (kx2 : am_kd an_K x2 = some (.inl 10)) (m : Mi) (J : Mj) (P : Mp) (hp : PP P) (post : Mi → Mj → Mp → Prop)
    (hw : Zr (x1) ∧ (((x1 < 0) → ((0 : Int) ≤ (((-1)) - x1) ∧ ((((-1)) - x1) : Int) < 808) ∧ Zr (zcmp (J 52 (((-1)) - x1).toNat) (Int64.ofNat 0)) ∧ (((¬ (zcmp (J 52 (((-1)) - x1).toNat) (Int64.ofNat 0)) = 0) → ((0 : Int) ≤ (((-1)) - x1) ∧ ((((-1)) - x1) : Int) < 808) ∧ Zr (zcmp (J 52 (((-1)) - x1).toNat) (Int64.ofNat 0)) ∧ ((((zcmp (J 52 (((-1)) - x1).toNat) (Int64.ofNat 0)) ≤ 0) → ((0 : Int) ≤ (((-1)) - x1) ∧ ((((-1)) - x1) : Int) < 808) ∧ Cv X (d + 1) 88 [.ref 50, .int (iz (zl2i (-(J 52 (((-1)) - x1).toNat))))] m J P (fun m7 J8 P9 => PP P9 ∧ post m7 J8 P9)) ∧ (¬ ((zcmp (J 52 (((-1)) - x1).toNat) (Int64.ofNat 0)) ≤ 0) → ((0 : Int) ≤ (((-1)) - x1) ∧ ((((-1)) - x1) : Int) < 808) ∧ Cv X (d + 1) 86 [.ref 50, .long (J 52 (((-1)) - x1).toNat)] m J P (fun m13 J14 P15 => PP P15 ∧ post m13 J14 P15)))) ∧ (¬ (¬ (zcmp (J 52 (((-1)) - x1).toNat) (Int64.ofNat 0)) = 0) → ((0 : Int) ≤ (((-1)) - x1) ∧ ((((-1)) - x1) : Int) < 808) ∧ ((0 : Int) ≤ (((-1)) - x1) ∧ ((((-1)) - x1) : Int) < 808) ∧ Zr (zcmp ((mju J 52 (((-1)) - x1).toNat (zi2l (-((mu m 50 3 ((m 50 3) + 1)) 50 3)))) 52 (((-1)) - x1).toNat) (Int64.ofNat 0)) ∧ ((((zcmp ((mju J 52 (((-1)) - x1).toNat (zi2l (-((mu m 50 3 ((m 50 3) + 1)) 50 3)))) 52 (((-1)) - x1).toNat) (Int64.ofNat 0)) ≤ 0) → ((0 : Int) ≤ (((-1)) - x1) ∧ ((((-1)) - x1) : Int) < 808) ∧ Cv X (d + 1) 88 [.ref 50, .int (iz (zl2i (-((mju J 52 (((-1)) - x1).toNat (zi2l (-((mu m 50 3 ((m 50 3) + 1)) 50 3)))) 52 (((-1)) - x1).toNat))))] (mu m 50 3 ((m 50 3) + 1)) (mju J 52 (((-1)) - x1).toNat (zi2l (-((mu m 50 3 ((m 50 3) + 1)) 50 3)))) P (fun m22 J23 P24 => PP P24 ∧ post m22 J23 P24)) ∧ (¬ ((zcmp ((mju J 52 (((-1)) - x1).toNat (zi2l (-((mu m 50 3 ((m 50 3) + 1)) 50 3)))) 52 (((-1)) - x1).toNat) (Int64.ofNat 0)) ≤ 0) → ((0 : Int) ≤ (((-1)) - x1) ∧ ((((-1)) - x1) : Int) < 808) ∧ Cv X (d + 1) 86 [.ref 50, .long ((mju J 52 (((-1)) - x1).toNat (zi2l (-((mu m 50 3 ((m 50 3) + 1)) 50 3)))) 52 (((-1)) - x1).toNat)] (mu m 50 3 ((m 50 3) + 1)) (mju J 52 (((-1)) - x1).toNat (zi2l (-((mu m 50 3 ((m 50 3) + 1)) 50 3)))) P (fun m28 J29 P30 => PP P30 ∧ post m28 J29 P30)))))) ∧ (¬ (x1 < 0) → Zr (zand x1 31) ∧ (((16 ≤ (zand x1 31)) → post m J P) ∧ (¬ (16 ≤ (zand x1 31)) → ((0 : Int) ≤ (zand x1 31) ∧ ((zand x1 31) : Int) < 16) ∧ Cv X (d + 1) 86 [.ref 50, .long (J (x2 + 1) (zand x1 31).toNat)] m J P (fun m35 J36 P37 => PP P37 ∧ post m35 J36 P37)))))) : Rn X (d + 2) 85 0 [some (.ref 50), some (.int (iz x1)), some (.ref x2), none] [] (SS m J P) (QV post) := by
  refine s_iload_n (pc := 0) rfl rfl ?_
  obtain ⟨hz1, hw⟩ := hw
  refine s_if_lt (pc := 1) (tgt := 26) rfl rfl hz1 (fun hc => ?_) (fun hc => ?_)
  · replace hw := hw.1 hc
    refine s_iconst (pc := 26) rfl ?_
    refine s_iload_n (pc := 27) rfl rfl ?_
    refine s_isub (pc := 28) rfl ?_
    refine s_istore_n (pc := 29) (L' := [some (.ref 50), some (.int (iz x1)), some (.ref x2), some (.int (iz (((-1)) - x1)))]) rfl (Nat.le_of_ble_eq_true rfl) rfl ?_
    refine s_aload_n (pc := 30) rfl rfl ?_
    refine s_getA (pc := 31) rfl ko_50 (po_50_2 hp) ?_
    refine s_iload_n (pc := 34) rfl rfl ?_
    obtain ⟨hb2, hw⟩ := hw
    refine s_lald (pc := 35) rfl ka_52 (by decide) hb2 ?_
    refine s_lconst (pc := 36) rfl ?_
    refine s_lcmp (pc := 37) rfl ?_
    obtain ⟨hz3, hw⟩ := hw
    refine s_if_ne (pc := 38) (tgt := 63) rfl rfl hz3 (fun hc => ?_) (fun hc => ?_)
    · replace hw := hw.1 hc
      refine s_aload_n (pc := 63) rfl rfl ?_
      refine s_getA (pc := 64) rfl ko_50 (po_50_2 hp) ?_
      refine s_iload_n (pc := 67) rfl rfl ?_
      obtain ⟨hb4, hw⟩ := hw
      refine s_lald (pc := 68) rfl ka_52 (by decide) hb4 ?_
      refine s_lconst (pc := 69) rfl ?_
      refine s_lcmp (pc := 70) rfl ?_
      obtain ⟨hz5, hw⟩ := hw
      refine s_if_le (pc := 71) (tgt := 87) rfl rfl hz5 (fun hc => ?_) (fun hc => ?_)
      · replace hw := hw.1 hc
        refine s_aload_n (pc := 87) rfl rfl ?_
        refine s_aload_n (pc := 88) rfl rfl ?_
        refine s_getA (pc := 89) rfl ko_50 (po_50_2 hp) ?_
        refine s_iload_n (pc := 92) rfl rfl ?_
        obtain ⟨hb6, hw⟩ := hw
        refine s_lald (pc := 93) rfl ka_52 (by decide) hb6 ?_
        refine s_lneg (pc := 94) rfl ?_
        refine s_l2i (pc := 95) rfl ?_
        refine s_cv (pc := 96) (d := (d + 1)) (t := []) rfl rfl (am_ca_v (ps := [.int (iz (zl2i (-(J 52 (((-1)) - x1).toNat))))]) rfl ko_50) (Nat.le_of_ble_eq_true rfl) (Cv.weak hw fun m7 J8 P9 hw => ?_)
        obtain ⟨hp11, hw⟩ := hw
        exact s_retv (pc := 99) rfl rfl hw
      · replace hw := hw.2 hc
        refine s_aload_n (pc := 74) rfl rfl ?_
        refine s_aload_n (pc := 75) rfl rfl ?_
        refine s_getA (pc := 76) rfl ko_50 (po_50_2 hp) ?_
        refine s_iload_n (pc := 79) rfl rfl ?_
        obtain ⟨hb12, hw⟩ := hw
        refine s_lald (pc := 80) rfl ka_52 (by decide) hb12 ?_
        refine s_cv (pc := 81) (d := (d + 1)) (t := []) rfl rfl (am_ca_v (ps := [.long (J 52 (((-1)) - x1).toNat)]) rfl ko_50) (Nat.le_of_ble_eq_true rfl) (Cv.weak hw fun m13 J14 P15 hw => ?_)
        obtain ⟨hp17, hw⟩ := hw
        refine s_goto (pc := 84) (tgt := 99) rfl rfl ?_
        exact s_retv (pc := 99) rfl rfl hw
    · replace hw := hw.2 hc
      refine s_aload_n (pc := 41) rfl rfl ?_
      refine s_dup (pc := 42) rfl rfl ?_
      refine s_getI (pc := 43) rfl ko_50 ?_
      refine s_iconst (pc := 46) rfl ?_
      refine s_iadd (pc := 47) rfl ?_
      refine s_putI (pc := 48) rfl ko_50 ?_
      refine s_aload_n (pc := 51) rfl rfl ?_
      refine s_getA (pc := 52) rfl ko_50 (po_50_2 hp) ?_
      refine s_iload_n (pc := 55) rfl rfl ?_
      refine s_aload_n (pc := 56) rfl rfl ?_
      refine s_getI (pc := 57) rfl ko_50 ?_
      refine s_ineg (pc := 60) rfl ?_
      refine s_i2l (pc := 61) rfl ?_
      obtain ⟨hb18, hw⟩ := hw
      refine s_last (pc := 62) rfl ka_52 (by decide) hb18 ?_
      refine s_aload_n (pc := 63) rfl rfl ?_
      refine s_getA (pc := 64) rfl ko_50 (po_50_2 hp) ?_
      refine s_iload_n (pc := 67) rfl rfl ?_
      obtain ⟨hb19, hw⟩ := hw
      refine s_lald (pc := 68) rfl ka_52 (by decide) hb19 ?_
      refine s_lconst (pc := 69) rfl ?_
      refine s_lcmp (pc := 70) rfl ?_
      obtain ⟨hz20, hw⟩ := hw
      refine s_if_le (pc := 71) (tgt := 87) rfl rfl hz20 (fun hc => ?_) (fun hc => ?_)
      · replace hw := hw.1 hc
        refine s_aload_n (pc := 87) rfl rfl ?_
        refine s_aload_n (pc := 88) rfl rfl ?_
        refine s_getA (pc := 89) rfl ko_50 (po_50_2 hp) ?_
        refine s_iload_n (pc := 92) rfl rfl ?_
        obtain ⟨hb21, hw⟩ := hw
        refine s_lald (pc := 93) rfl ka_52 (by decide) hb21 ?_
        refine s_lneg (pc := 94) rfl ?_
        refine s_l2i (pc := 95) rfl ?_
        refine s_cv (pc := 96) (d := (d + 1)) (t := []) rfl rfl (am_ca_v (ps := [.int (iz (zl2i (-((mju J 52 (((-1)) - x1).toNat (zi2l (-((mu m 50 3 ((m 50 3) + 1)) 50 3)))) 52 (((-1)) - x1).toNat))))]) rfl ko_50) (Nat.le_of_ble_eq_true rfl) (Cv.weak hw fun m22 J23 P24 hw => ?_)
        obtain ⟨hp26, hw⟩ := hw
        exact s_retv (pc := 99) rfl rfl hw
      · replace hw := hw.2 hc
        refine s_aload_n (pc := 74) rfl rfl ?_
        refine s_aload_n (pc := 75) rfl rfl ?_
        refine s_getA (pc := 76) rfl ko_50 (po_50_2 hp) ?_
        refine s_iload_n (pc := 79) rfl rfl ?_
        obtain ⟨hb27, hw⟩ := hw
        refine s_lald (pc := 80) rfl ka_52 (by decide) hb27 ?_
        refine s_cv (pc := 81) (d := (d + 1)) (t := []) rfl rfl (am_ca_v (ps := [.long ((mju J 52 (((-1)) - x1).toNat (zi2l (-((mu m 50 3 ((m 50 3) + 1)) 50 3)))) 52 (((-1)) - x1).toNat)]) rfl ko_50) (Nat.le_of_ble_eq_true rfl) (Cv.weak hw fun m28 J29 P30 hw => ?_)
        obtain ⟨hp32, hw⟩ := hw
        refine s_goto (pc := 84) (tgt := 99) rfl rfl ?_
        exact s_retv (pc := 99) rfl rfl hw
  · replace hw := hw.2 hc
    refine s_iload_n (pc := 4) rfl rfl ?_
    refine s_bipush (pc := 5) rfl (by decide) ?_
    refine s_iand (pc := 7) rfl ?_
    refine s_istore_n (pc := 8) (L' := [some (.ref 50), some (.int (iz x1)), some (.ref x2), some (.int (iz (zand x1 31)))]) rfl (Nat.le_of_ble_eq_true rfl) rfl ?_
    refine s_iload_n (pc := 9) rfl rfl ?_
    refine s_bipush (pc := 10) rfl (by decide) ?_
    obtain ⟨hz33, hw⟩ := hw
    refine s_ic_ge (pc := 12) (tgt := 25) rfl rfl hz33 (by decide) (fun hc => ?_) (fun hc => ?_)
    · replace hw := hw.1 hc
      exact s_retv (pc := 25) rfl rfl hw
    · replace hw := hw.2 hc
      refine s_aload_n (pc := 15) rfl rfl ?_
      refine s_aload_n (pc := 16) rfl rfl ?_
      refine s_getA (pc := 17) rfl kx2 (pc_10_0 hp kx2) ?_
      refine s_iload_n (pc := 20) rfl rfl ?_
      obtain ⟨hb34, hw⟩ := hw
      refine s_lald (pc := 21) rfl (kc_10_0 kx2) (by decide) hb34 ?_
      refine s_cv (pc := 22) (d := (d + 1)) (t := []) rfl rfl (am_ca_v (ps := [.long (J (x2 + 1) (zand x1 31).toNat)]) rfl ko_50) (Nat.le_of_ble_eq_true rfl) (Cv.weak hw fun m35 J36 P37 hw => ?_)
      obtain ⟨hp39, hw⟩ := hw
      exact s_retv (pc := 25) rfl rfl hw

set_option maxRecDepth 20000 in
set_option maxHeartbeats 4000000 in
theorem b_Page_writeName_0 {X : aX} {d : Nat} (x1 : Int64)  (m : Mi) (J : Mj) (P : Mp) (hp : PP P) (post : Mi → Mj → Mp → Prop)
    (hw : Rn X (d + 1) 86 3 [some (.ref 50), some (.long x1), none, some (.int (iz 56)), none] [] (SS m J P) (QV post)) : Rn X (d + 1) 86 0 [some (.ref 50), some (.long x1), none, none, none] [] (SS m J P) (QV post) := by
  refine s_bipush (pc := 0) rfl (by decide) ?_
  refine s_istore_n (pc := 2) (L' := [some (.ref 50), some (.long x1), none, some (.int (iz 56)), none]) rfl (Nat.le_of_ble_eq_true rfl) rfl ?_
  exact hw

set_option maxRecDepth 20000 in
set_option maxHeartbeats 4000000 in
theorem b_Page_writeName_3 {X : aX} {d : Nat} (x1 : Int64) (x3 : Int)  (m : Mi) (J : Mj) (P : Mp) (hp : PP P) (post : Mi → Mj → Mp → Prop)
    (hw : Zr (x3) ∧ (((x3 < 0) → post m J P) ∧ (¬ (x3 < 0) → Zr (zl2i (((x1.toUInt64 >>> ((iz x3).toInt64.toUInt64 &&& Int64.toUInt64 63)).toInt64) &&& (Int64.ofNat 255))) ∧ ((((zl2i (((x1.toUInt64 >>> ((iz x3).toInt64.toUInt64 &&& Int64.toUInt64 63)).toInt64) &&& (Int64.ofNat 255))) = 0) → Rn X (d + 1) 86 3 [some (.ref 50), some (.long x1), none, some (.int (iz (x3 + (-8)))), none] [] (SS m J P) (QV post)) ∧ (¬ ((zl2i (((x1.toUInt64 >>> ((iz x3).toInt64.toUInt64 &&& Int64.toUInt64 63)).toInt64) &&& (Int64.ofNat 255))) = 0) → Cv X d 87 [.ref 50, .int (iz (zl2i (((x1.toUInt64 >>> ((iz x3).toInt64.toUInt64 &&& Int64.toUInt64 63)).toInt64) &&& (Int64.ofNat 255))))] m J P (fun m3 J4 P5 => PP P5 ∧ Rn X (d + 1) 86 3 [some (.ref 50), some (.long x1), none, some (.int (iz (x3 + (-8)))), none] [] (SS m3 J4 P5) (QV post))))))) : Rn X (d + 1) 86 3 [some (.ref 50), some (.long x1), none, some (.int (iz x3)), none] [] (SS m J P) (QV post) := by
  refine s_iload_n (pc := 3) rfl rfl ?_
  obtain ⟨hz1, hw⟩ := hw
  refine s_if_lt (pc := 4) (tgt := 34) rfl rfl hz1 (fun hc => ?_) (fun hc => ?_)
  · replace hw := hw.1 hc
    exact s_retv (pc := 34) rfl rfl hw
  · replace hw := hw.2 hc
    refine s_lload_n (pc := 7) rfl rfl ?_
    refine s_iload_n (pc := 8) rfl rfl ?_
    refine s_lushr (pc := 9) rfl ?_
    refine s_ldc2 (pc := 10) rfl ?_
    refine s_land (pc := 13) rfl ?_
    refine s_l2i (pc := 14) rfl ?_
    refine s_istore (pc := 15) (L' := [some (.ref 50), some (.long x1), none, some (.int (iz x3)), some (.int (iz (zl2i (((x1.toUInt64 >>> ((iz x3).toInt64.toUInt64 &&& Int64.toUInt64 63)).toInt64) &&& (Int64.ofNat 255)))))]) rfl (Nat.le_of_ble_eq_true rfl) rfl ?_
    refine s_iload (pc := 17) rfl rfl ?_
    obtain ⟨hz2, hw⟩ := hw
    refine s_if_eq (pc := 19) (tgt := 28) rfl rfl hz2 (fun hc => ?_) (fun hc => ?_)
    · replace hw := hw.1 hc
      refine s_iinc (pc := 28) (L' := [some (.ref 50), some (.long x1), none, some (.int (iz (x3 + (-8)))), some (.int (iz (zl2i (((x1.toUInt64 >>> ((iz x3).toInt64.toUInt64 &&& Int64.toUInt64 63)).toInt64) &&& (Int64.ofNat 255)))))]) rfl rfl (Nat.le_of_ble_eq_true rfl) rfl ?_
      refine s_goto (pc := 31) (tgt := 3) rfl rfl ?_
      exact Rn.weakL hw (LLe.keep _ (LLe.keep _ (LLe.keep _ (LLe.keep _ (LLe.drop _ (LLe.nil))))))
    · replace hw := hw.2 hc
      refine s_aload_n (pc := 22) rfl rfl ?_
      refine s_iload (pc := 23) rfl rfl ?_
      refine s_cv (pc := 25) (d := d) (t := []) rfl rfl (am_ca_v (ps := [.int (iz (zl2i (((x1.toUInt64 >>> ((iz x3).toInt64.toUInt64 &&& Int64.toUInt64 63)).toInt64) &&& (Int64.ofNat 255))))]) rfl ko_50) (Nat.le_of_ble_eq_true rfl) (Cv.weak hw fun m3 J4 P5 hw => ?_)
      obtain ⟨hp7, hw⟩ := hw
      refine s_iinc (pc := 28) (L' := [some (.ref 50), some (.long x1), none, some (.int (iz (x3 + (-8)))), some (.int (iz (zl2i (((x1.toUInt64 >>> ((iz x3).toInt64.toUInt64 &&& Int64.toUInt64 63)).toInt64) &&& (Int64.ofNat 255)))))]) rfl rfl (Nat.le_of_ble_eq_true rfl) rfl ?_
      refine s_goto (pc := 31) (tgt := 3) rfl rfl ?_
      exact Rn.weakL hw (LLe.keep _ (LLe.keep _ (LLe.keep _ (LLe.keep _ (LLe.drop _ (LLe.nil))))))

set_option maxRecDepth 20000 in
set_option maxHeartbeats 4000000 in
theorem b_Page_write_0 {X : aX} {d : Nat} (x1 : Int)  (m : Mi) (J : Mj) (P : Mp) (hp : PP P) (post : Mi → Mj → Mp → Prop)
    (hw : Zr (m 50 1) ∧ (((1000 ≤ (m 50 1)) → post (mu m 50 1 ((m 50 1) + 1)) J P) ∧ (¬ (1000 ≤ (m 50 1)) → ((0 : Int) ≤ (m 50 1) ∧ ((m 50 1) : Int) < 1000) ∧ post (mu (mu m 51 (m 50 1).toNat x1) 50 1 (((mu m 51 (m 50 1).toNat x1) 50 1) + 1)) J P))) : Rn X d 87 0 [some (.ref 50), some (.int (iz x1))] [] (SS m J P) (QV post) := by
  refine s_aload_n (pc := 0) rfl rfl ?_
  refine s_getI (pc := 1) rfl ko_50 ?_
  refine s_sipush (pc := 4) rfl (by decide) ?_
  obtain ⟨hz1, hw⟩ := hw
  refine s_ic_ge (pc := 7) (tgt := 20) rfl rfl hz1 (by decide) (fun hc => ?_) (fun hc => ?_)
  · replace hw := hw.1 hc
    refine s_aload_n (pc := 20) rfl rfl ?_
    refine s_dup (pc := 21) rfl rfl ?_
    refine s_getI (pc := 22) rfl ko_50 ?_
    refine s_iconst (pc := 25) rfl ?_
    refine s_iadd (pc := 26) rfl ?_
    refine s_putI (pc := 27) rfl ko_50 ?_
    exact s_retv (pc := 30) rfl rfl hw
  · replace hw := hw.2 hc
    refine s_aload_n (pc := 10) rfl rfl ?_
    refine s_getA (pc := 11) rfl ko_50 (po_50_0 hp) ?_
    refine s_aload_n (pc := 14) rfl rfl ?_
    refine s_getI (pc := 15) rfl ko_50 ?_
    refine s_iload_n (pc := 18) rfl rfl ?_
    obtain ⟨hb2, hw⟩ := hw
    refine s_iast (pc := 19) rfl ka_51 (by decide) hb2 ?_
    refine s_aload_n (pc := 20) rfl rfl ?_
    refine s_dup (pc := 21) rfl rfl ?_
    refine s_getI (pc := 22) rfl ko_50 ?_
    refine s_iconst (pc := 25) rfl ?_
    refine s_iadd (pc := 26) rfl ?_
    refine s_putI (pc := 27) rfl ko_50 ?_
    exact s_retv (pc := 30) rfl rfl hw

set_option maxRecDepth 20000 in
set_option maxHeartbeats 4000000 in
theorem b_Page_writeNumber_0 {X : aX} {d : Nat} (x1 : Int)  (m : Mi) (J : Mj) (P : Mp) (hp : PP P) (post : Mi → Mj → Mp → Prop)
    (hw : Cv X d 87 [.ref 50, .int (iz 95)] m J P (fun m1 J2 P3 => PP P3 ∧ Rn X (d + 1) 88 10 [some (.ref 50), some (.int (iz x1)), some (.int (iz 1)), some (.int (iz 0))] [] (SS m1 J2 P3) (QV post))) : Rn X (d + 1) 88 0 [some (.ref 50), some (.int (iz x1)), none, none] [] (SS m J P) (QV post) := by
  refine s_aload_n (pc := 0) rfl rfl ?_
  refine s_bipush (pc := 1) rfl (by decide) ?_
  refine s_cv (pc := 3) (d := d) (t := []) rfl rfl (am_ca_v (ps := [.int (iz 95)]) rfl ko_50) (Nat.le_of_ble_eq_true rfl) (Cv.weak hw fun m1 J2 P3 hw => ?_)
  obtain ⟨hp5, hw⟩ := hw
  refine s_iconst (pc := 6) rfl ?_
  refine s_istore_n (pc := 7) (L' := [some (.ref 50), some (.int (iz x1)), some (.int (iz 1)), none]) rfl (Nat.le_of_ble_eq_true rfl) rfl ?_
  refine s_iconst (pc := 8) rfl ?_
  refine s_istore_n (pc := 9) (L' := [some (.ref 50), some (.int (iz x1)), some (.int (iz 1)), some (.int (iz 0))]) rfl (Nat.le_of_ble_eq_true rfl) rfl ?_
  exact hw

set_option maxRecDepth 20000 in
set_option maxHeartbeats 4000000 in
theorem b_Page_writeNumber_10 {X : aX} {d : Nat} (x1 : Int) (x2 : Int) (x3 : Int)  (m : Mi) (J : Mj) (P : Mp) (hp : PP P) (post : Mi → Mj → Mp → Prop)
    (hw : Zr (x3) ∧ (((9 ≤ x3) → Rn X (d + 1) 88 37 [some (.ref 50), some (.int (iz x1)), some (.int (iz x2)), some (.int (iz x2))] [] (SS m J P) (QV post)) ∧ (¬ (9 ≤ x3) → (¬ iz (x2) = 0) ∧ Zr (zdiv x1 x2) ∧ ((((zdiv x1 x2) < 10) → Rn X (d + 1) 88 37 [some (.ref 50), some (.int (iz x1)), some (.int (iz x2)), some (.int (iz x2))] [] (SS m J P) (QV post)) ∧ (¬ ((zdiv x1 x2) < 10) → Rn X (d + 1) 88 10 [some (.ref 50), some (.int (iz x1)), some (.int (iz (x2 * 10))), some (.int (iz (x3 + 1)))] [] (SS m J P) (QV post)))))) : Rn X (d + 1) 88 10 [some (.ref 50), some (.int (iz x1)), some (.int (iz x2)), some (.int (iz x3))] [] (SS m J P) (QV post) := by
  refine s_iload_n (pc := 10) rfl rfl ?_
  refine s_bipush (pc := 11) rfl (by decide) ?_
  obtain ⟨hz1, hw⟩ := hw
  refine s_ic_ge (pc := 13) (tgt := 35) rfl rfl hz1 (by decide) (fun hc => ?_) (fun hc => ?_)
  · replace hw := hw.1 hc
    refine s_iload_n (pc := 35) rfl rfl ?_
    refine s_istore_n (pc := 36) (L' := [some (.ref 50), some (.int (iz x1)), some (.int (iz x2)), some (.int (iz x2))]) rfl (Nat.le_of_ble_eq_true rfl) rfl ?_
    exact hw
  · replace hw := hw.2 hc
    refine s_iload_n (pc := 16) rfl rfl ?_
    refine s_iload_n (pc := 17) rfl rfl ?_
    obtain ⟨hd2, hw⟩ := hw
    refine s_idiv (pc := 18) rfl hd2 ?_
    refine s_bipush (pc := 19) rfl (by decide) ?_
    obtain ⟨hz3, hw⟩ := hw
    refine s_ic_lt (pc := 21) (tgt := 35) rfl rfl hz3 (by decide) (fun hc => ?_) (fun hc => ?_)
    · replace hw := hw.1 hc
      refine s_iload_n (pc := 35) rfl rfl ?_
      refine s_istore_n (pc := 36) (L' := [some (.ref 50), some (.int (iz x1)), some (.int (iz x2)), some (.int (iz x2))]) rfl (Nat.le_of_ble_eq_true rfl) rfl ?_
      exact hw
    · replace hw := hw.2 hc
      refine s_iload_n (pc := 24) rfl rfl ?_
      refine s_bipush (pc := 25) rfl (by decide) ?_
      refine s_imul (pc := 27) rfl ?_
      refine s_istore_n (pc := 28) (L' := [some (.ref 50), some (.int (iz x1)), some (.int (iz (x2 * 10))), some (.int (iz x3))]) rfl (Nat.le_of_ble_eq_true rfl) rfl ?_
      refine s_iinc (pc := 29) (L' := [some (.ref 50), some (.int (iz x1)), some (.int (iz (x2 * 10))), some (.int (iz (x3 + 1)))]) rfl rfl (Nat.le_of_ble_eq_true rfl) rfl ?_
      refine s_goto (pc := 32) (tgt := 10) rfl rfl ?_
      exact hw

set_option maxRecDepth 20000 in
set_option maxHeartbeats 4000000 in
theorem b_Page_writeNumber_37 {X : aX} {d : Nat} (x1 : Int) (x2 : Int) (x3 : Int)  (m : Mi) (J : Mj) (P : Mp) (hp : PP P) (post : Mi → Mj → Mp → Prop)
    (hw : Zr (x3) ∧ (((x3 ≤ 0) → post m J P) ∧ (¬ (x3 ≤ 0) → (¬ iz (x3) = 0) ∧ Cv X d 87 [.ref 50, .int (iz (48 + (zrem (zdiv x1 x3) 10)))] m J P (fun m3 J4 P5 => PP P5 ∧ Rn X (d + 1) 88 37 [some (.ref 50), some (.int (iz x1)), some (.int (iz x2)), some (.int (iz (zdiv x3 10)))] [] (SS m3 J4 P5) (QV post))))) : Rn X (d + 1) 88 37 [some (.ref 50), some (.int (iz x1)), some (.int (iz x2)), some (.int (iz x3))] [] (SS m J P) (QV post) := by
  refine s_iload_n (pc := 37) rfl rfl ?_
  obtain ⟨hz1, hw⟩ := hw
  refine s_if_le (pc := 38) (tgt := 62) rfl rfl hz1 (fun hc => ?_) (fun hc => ?_)
  · replace hw := hw.1 hc
    exact s_retv (pc := 62) rfl rfl hw
  · replace hw := hw.2 hc
    refine s_aload_n (pc := 41) rfl rfl ?_
    refine s_bipush (pc := 42) rfl (by decide) ?_
    refine s_iload_n (pc := 44) rfl rfl ?_
    refine s_iload_n (pc := 45) rfl rfl ?_
    obtain ⟨hd2, hw⟩ := hw
    refine s_idiv (pc := 46) rfl hd2 ?_
    refine s_bipush (pc := 47) rfl (by decide) ?_
    refine s_irem (pc := 49) rfl (by decide) ?_
    refine s_iadd (pc := 50) rfl ?_
    refine s_cv (pc := 51) (d := d) (t := []) rfl rfl (am_ca_v (ps := [.int (iz (48 + (zrem (zdiv x1 x3) 10)))]) rfl ko_50) (Nat.le_of_ble_eq_true rfl) (Cv.weak hw fun m3 J4 P5 hw => ?_)
    obtain ⟨hp7, hw⟩ := hw
    refine s_iload_n (pc := 54) rfl rfl ?_
    refine s_bipush (pc := 55) rfl (by decide) ?_
    refine s_idiv (pc := 57) rfl (by decide) ?_
    refine s_istore_n (pc := 58) (L' := [some (.ref 50), some (.int (iz x1)), some (.int (iz x2)), some (.int (iz (zdiv x3 10)))]) rfl (Nat.le_of_ble_eq_true rfl) rfl ?_
    refine s_goto (pc := 59) (tgt := 37) rfl rfl ?_
    exact hw

set_option maxRecDepth 20000 in
set_option maxHeartbeats 4000000 in
theorem b_Page_writeEnds_0 {X : aX} {d : Nat} (x1 : Int)  (m : Mi) (J : Mj) (P : Mp) (hp : PP P) (post : Int → Mi → Mj → Mp → Prop)
    (hw : Rn X (d + 1) 89 2 [some (.ref 50), some (.int (iz x1)), some (.int (iz x1))] [] (SS m J P) (QI post)) : Rn X (d + 1) 89 0 [some (.ref 50), some (.int (iz x1)), none] [] (SS m J P) (QI post) := by
  refine s_iload_n (pc := 0) rfl rfl ?_
  refine s_istore_n (pc := 1) (L' := [some (.ref 50), some (.int (iz x1)), some (.int (iz x1))]) rfl (Nat.le_of_ble_eq_true rfl) rfl ?_
  exact hw

set_option maxRecDepth 20000 in
set_option maxHeartbeats 4000000 in
theorem b_Page_writeEnds_2 {X : aX} {d : Nat} (x1 : Int) (x2 : Int)  (m : Mi) (J : Mj) (P : Mp) (hp : PP P) (post : Int → Mi → Mj → Mp → Prop)
    (hw : Zr (x2) ∧ (((x2 ≤ 0) → post 0 m J P) ∧ (¬ (x2 ≤ 0) → ((0 : Int) ≤ (x2 - 1) ∧ ((x2 - 1) : Int) < 200) ∧ ((0 : Int) ≤ (x2 - 1) ∧ ((x2 - 1) : Int) < 200) ∧ ((0 : Int) ≤ (x2 - 1) ∧ ((x2 - 1) : Int) < 200) ∧ Zr ((mu m 53 (x2 - 1).toNat ((m 53 (x2 - 1).toNat) - 1)) 53 (x2 - 1).toNat) ∧ (((((mu m 53 (x2 - 1).toNat ((m 53 (x2 - 1).toNat) - 1)) 53 (x2 - 1).toNat) ≤ 0) → Cv X d 87 [.ref 50, .int (iz 41)] (mu m 53 (x2 - 1).toNat ((m 53 (x2 - 1).toNat) - 1)) J P (fun m6 J7 P8 => PP P8 ∧ Rn X (d + 1) 89 2 [some (.ref 50), some (.int (iz x1)), some (.int (iz (x2 + (-1))))] [] (SS m6 J7 P8) (QI post))) ∧ (¬ (((mu m 53 (x2 - 1).toNat ((m 53 (x2 - 1).toNat) - 1)) 53 (x2 - 1).toNat) ≤ 0) → Cv X d 87 [.ref 50, .int (iz 44)] (mu m 53 (x2 - 1).toNat ((m 53 (x2 - 1).toNat) - 1)) J P (fun m11 J12 P13 => PP P13 ∧ post x2 m11 J12 P13)))))) : Rn X (d + 1) 89 2 [some (.ref 50), some (.int (iz x1)), some (.int (iz x2))] [] (SS m J P) (QI post) := by
  refine s_iload_n (pc := 2) rfl rfl ?_
  obtain ⟨hz1, hw⟩ := hw
  refine s_if_le (pc := 3) (tgt := 49) rfl rfl hz1 (fun hc => ?_) (fun hc => ?_)
  · replace hw := hw.1 hc
    refine s_iconst (pc := 49) rfl ?_
    exact s_reti (pc := 50) rfl rfl hw
  · replace hw := hw.2 hc
    refine s_aload_n (pc := 6) rfl rfl ?_
    refine s_getA (pc := 7) rfl ko_50 (po_50_4 hp) ?_
    refine s_iload_n (pc := 10) rfl rfl ?_
    refine s_iconst (pc := 11) rfl ?_
    refine s_isub (pc := 12) rfl ?_
    refine s_dup2 (pc := 13) rfl ⟨rfl, rfl⟩ ?_
    obtain ⟨hb2, hw⟩ := hw
    refine s_iald (pc := 14) rfl ka_53 (by decide) hb2 ?_
    refine s_iconst (pc := 15) rfl ?_
    refine s_isub (pc := 16) rfl ?_
    obtain ⟨hb3, hw⟩ := hw
    refine s_iast (pc := 17) rfl ka_53 (by decide) hb3 ?_
    refine s_aload_n (pc := 18) rfl rfl ?_
    refine s_getA (pc := 19) rfl ko_50 (po_50_4 hp) ?_
    refine s_iload_n (pc := 22) rfl rfl ?_
    refine s_iconst (pc := 23) rfl ?_
    refine s_isub (pc := 24) rfl ?_
    obtain ⟨hb4, hw⟩ := hw
    refine s_iald (pc := 25) rfl ka_53 (by decide) hb4 ?_
    obtain ⟨hz5, hw⟩ := hw
    refine s_if_le (pc := 26) (tgt := 37) rfl rfl hz5 (fun hc => ?_) (fun hc => ?_)
    · replace hw := hw.1 hc
      refine s_aload_n (pc := 37) rfl rfl ?_
      refine s_bipush (pc := 38) rfl (by decide) ?_
      refine s_cv (pc := 40) (d := d) (t := []) rfl rfl (am_ca_v (ps := [.int (iz 41)]) rfl ko_50) (Nat.le_of_ble_eq_true rfl) (Cv.weak hw fun m6 J7 P8 hw => ?_)
      obtain ⟨hp10, hw⟩ := hw
      refine s_iinc (pc := 43) (L' := [some (.ref 50), some (.int (iz x1)), some (.int (iz (x2 + (-1))))]) rfl rfl (Nat.le_of_ble_eq_true rfl) rfl ?_
      refine s_goto (pc := 46) (tgt := 2) rfl rfl ?_
      exact hw
    · replace hw := hw.2 hc
      refine s_aload_n (pc := 29) rfl rfl ?_
      refine s_bipush (pc := 30) rfl (by decide) ?_
      refine s_cv (pc := 32) (d := d) (t := []) rfl rfl (am_ca_v (ps := [.int (iz 44)]) rfl ko_50) (Nat.le_of_ble_eq_true rfl) (Cv.weak hw fun m11 J12 P13 hw => ?_)
      obtain ⟨hp15, hw⟩ := hw
      refine s_iload_n (pc := 35) rfl rfl ?_
      exact s_reti (pc := 36) rfl rfl hw

set_option maxRecDepth 20000 in
set_option maxHeartbeats 4000000 in
theorem b_Nh_unify_0 {X : aX} {d : Nat} (x1 : Int)  (m : Mi) (J : Mj) (P : Mp) (hp : PP P) (post : Int → Mi → Mj → Mp → Prop)
    (hw : Zr (m 1 11) ∧ ((((m 1 11) = 0) → post ((-1)) m J P) ∧ (¬ ((m 1 11) = 0) → Ci X (d + 6) 15 [.ref 2, .int (iz x1)] m J P (fun z5 m2 J3 P4 => PP P4 ∧ Zr (z5) ∧ (((z5 = 0) → (∃ q8, P4 1 8 = some q8 ∧ am_kd an_K q8 = some (.inl 10) ∧ (∃ q9, P4 1 10 = some q9 ∧ am_kd an_K q9 = some (.inl 8) ∧ Ci X (d + 6) 91 [.ref 4, .int (iz x1), .ref q8, .ref q9] m2 J3 P4 (fun z13 m10 J11 P12 => PP P12 ∧ Zr (z13) ∧ (((z13 = 0) → (∃ q16, P12 1 10 = some q16 ∧ am_kd an_K q16 = some (.inl 8) ∧ Cv X (d + 6) 92 [.ref 18, .ref q16, .int (iz 0)] m10 J11 P12 (fun m17 J18 P19 => PP P19 ∧ (∃ q22, P19 1 8 = some q22 ∧ am_kd an_K q22 = some (.inl 10) ∧ Cv X (d + 6) 51 [.ref 18, .ref (18 + 8), .int (iz 0), .int (iz (m17 18 12)), .ref q22] m17 J18 P19 (fun m23 J24 P25 => PP P25 ∧ (∃ q28, P25 1 10 = some q28 ∧ am_kd an_K q28 = some (.inl 8) ∧ Ci X (d + 6) 53 [.ref 18, .int (iz 0), .int (iz (m23 q28 5))] m23 J24 P25 (fun z32 m29 J30 P31 => PP P31 ∧ Zr (z32) ∧ (((¬ z32 = 0) → Cv X (d + 6) 60 [.ref 18, .int (iz ((-1))), .int (iz ((-1)))] m29 J30 P31 (fun m35 J36 P37 => PP P37 ∧ (∃ q40, P37 1 10 = some q40 ∧ am_kd an_K q40 = some (.inl 8) ∧ (∃ q41, P37 1 10 = some q41 ∧ am_kd an_K q41 = some (.inl 8) ∧ Ci X (d + 6) 93 [.ref 18, .int (iz (m35 q40 6)), .int (iz (m35 q41 7))] m35 J36 P37 (fun z45 m42 J43 P44 => PP P44 ∧ Zr (z45) ∧ (((¬ z45 = 0) → Cv X (d + 6) 65 [.ref 18] m42 J43 P44 (fun m48 J49 P50 => PP P50 ∧ (∃ q53, P50 1 10 = some q53 ∧ am_kd an_K q53 = some (.inl 8) ∧ Ci X (d + 6) 94 [.ref 1, .ref (18 + 8), .int (iz 0), .ref q53] m48 J49 P50 (fun z57 m54 J55 P56 => PP P56 ∧ post 1 m54 J55 P56)))) ∧ (¬ (¬ z45 = 0) → post 2 m42 J43 P44))))))) ∧ (¬ (¬ z32 = 0) → post 0 m29 J30 P31))))))))) ∧ (¬ (z13 = 0) → post ((-4)) m10 J11 P12)))))) ∧ (¬ (z5 = 0) → post ((-1)) m2 J3 P4)))))) : Rn X (d + 7) 90 0 [some (.ref 1), some (.int (iz x1))] [] (SS m J P) (QI post) := by
  refine s_aload_n (pc := 0) rfl rfl ?_
  refine s_getZ (pc := 1) rfl ko_1 ?_
  obtain ⟨hz1, hw⟩ := hw
  refine s_if_eq (pc := 4) (tgt := 18) rfl rfl hz1 (fun hc => ?_) (fun hc => ?_)
  · replace hw := hw.1 hc
    refine s_iconst (pc := 18) rfl ?_
    exact s_reti (pc := 19) rfl rfl hw
  · replace hw := hw.2 hc
    refine s_aload_n (pc := 7) rfl rfl ?_
    refine s_getA (pc := 8) rfl ko_1 (po_1_0 hp) ?_
    refine s_iload_n (pc := 11) rfl rfl ?_
    refine s_ci (pc := 12) (d := (d + 6)) (t := []) rfl rfl (am_ca_v (ps := [.int (iz x1)]) rfl ko_2) (Nat.le_of_ble_eq_true rfl) (Ci.weak hw fun z5 m2 J3 P4 hw => ?_)
    obtain ⟨hp6, hw⟩ := hw
    obtain ⟨hz7, hw⟩ := hw
    refine s_if_eq (pc := 15) (tgt := 20) rfl rfl hz7 (fun hc => ?_) (fun hc => ?_)
    · replace hw := hw.1 hc
      refine s_aload_n (pc := 20) rfl rfl ?_
      refine s_getA (pc := 21) rfl ko_1 (po_1_1 hp6) ?_
      refine s_iload_n (pc := 24) rfl rfl ?_
      refine s_aload_n (pc := 25) rfl rfl ?_
      obtain ⟨q8, hq8, kq8, hw⟩ := hw
      refine s_getA (pc := 26) rfl ko_1 hq8 ?_
      refine s_aload_n (pc := 29) rfl rfl ?_
      obtain ⟨q9, hq9, kq9, hw⟩ := hw
      refine s_getA (pc := 30) rfl ko_1 hq9 ?_
      refine s_ci (pc := 33) (d := (d + 6)) (t := []) rfl rfl (am_ca_v (ps := [.ref q9, .ref q8, .int (iz x1)]) rfl ko_4) (Nat.le_of_ble_eq_true rfl) (Ci.weak hw fun z13 m10 J11 P12 hw => ?_)
      obtain ⟨hp14, hw⟩ := hw
      obtain ⟨hz15, hw⟩ := hw
      refine s_if_eq (pc := 36) (tgt := 42) rfl rfl hz15 (fun hc => ?_) (fun hc => ?_)
      · replace hw := hw.1 hc
        refine s_aload_n (pc := 42) rfl rfl ?_
        refine s_getA (pc := 43) rfl ko_1 (po_1_3 hp14) ?_
        refine s_aload_n (pc := 46) rfl rfl ?_
        obtain ⟨q16, hq16, kq16, hw⟩ := hw
        refine s_getA (pc := 47) rfl ko_1 hq16 ?_
        refine s_iconst (pc := 50) rfl ?_
        refine s_cv (pc := 51) (d := (d + 6)) (t := []) rfl rfl (am_ca_v (ps := [.int (iz 0), .ref q16]) rfl (by decide +kernel)) (Nat.le_of_ble_eq_true rfl) (Cv.weak hw fun m17 J18 P19 hw => ?_)
        obtain ⟨hp21, hw⟩ := hw
        refine s_aload_n (pc := 54) rfl rfl ?_
        refine s_getA (pc := 55) rfl ko_1 (po_1_3 hp21) ?_
        refine s_aload_n (pc := 58) rfl rfl ?_
        refine s_getA (pc := 59) rfl ko_1 (po_1_3 hp21) ?_
        refine s_getA (pc := 62) rfl (by decide +kernel) (pc_4_10 hp21 (by decide +kernel)) ?_
        refine s_iconst (pc := 65) rfl ?_
        refine s_aload_n (pc := 66) rfl rfl ?_
        refine s_getA (pc := 67) rfl ko_1 (po_1_3 hp21) ?_
        refine s_getI (pc := 70) rfl (by decide +kernel) ?_
        refine s_aload_n (pc := 73) rfl rfl ?_
        obtain ⟨q22, hq22, kq22, hw⟩ := hw
        refine s_getA (pc := 74) rfl ko_1 hq22 ?_
        refine s_cv (pc := 77) (d := (d + 6)) (t := []) rfl rfl (am_ca_v (ps := [.ref q22, .int (iz (m17 18 12)), .int (iz 0), .ref (18 + 8)]) rfl (by decide +kernel)) (Nat.le_of_ble_eq_true rfl) (Cv.weak hw fun m23 J24 P25 hw => ?_)
        obtain ⟨hp27, hw⟩ := hw
        refine s_aload_n (pc := 80) rfl rfl ?_
        refine s_getA (pc := 81) rfl ko_1 (po_1_3 hp27) ?_
        refine s_iconst (pc := 84) rfl ?_
        refine s_aload_n (pc := 85) rfl rfl ?_
        obtain ⟨q28, hq28, kq28, hw⟩ := hw
        refine s_getA (pc := 86) rfl ko_1 hq28 ?_
        refine s_getI (pc := 89) rfl kq28 ?_
        refine s_ci (pc := 92) (d := (d + 6)) (t := []) rfl rfl (am_ca_v (ps := [.int (iz (m23 q28 5)), .int (iz 0)]) rfl (by decide +kernel)) (Nat.le_of_ble_eq_true rfl) (Ci.weak hw fun z32 m29 J30 P31 hw => ?_)
        obtain ⟨hp33, hw⟩ := hw
        obtain ⟨hz34, hw⟩ := hw
        refine s_if_ne (pc := 95) (tgt := 100) rfl rfl hz34 (fun hc => ?_) (fun hc => ?_)
        · replace hw := hw.1 hc
          refine s_aload_n (pc := 100) rfl rfl ?_
          refine s_getA (pc := 101) rfl ko_1 (po_1_3 hp33) ?_
          refine s_iconst (pc := 104) rfl ?_
          refine s_iconst (pc := 105) rfl ?_
          refine s_cv (pc := 106) (d := (d + 6)) (t := []) rfl rfl (am_ca_v (ps := [.int (iz ((-1))), .int (iz ((-1)))]) rfl (by decide +kernel)) (Nat.le_of_ble_eq_true rfl) (Cv.weak hw fun m35 J36 P37 hw => ?_)
          obtain ⟨hp39, hw⟩ := hw
          refine s_aload_n (pc := 109) rfl rfl ?_
          refine s_getA (pc := 110) rfl ko_1 (po_1_3 hp39) ?_
          refine s_aload_n (pc := 113) rfl rfl ?_
          obtain ⟨q40, hq40, kq40, hw⟩ := hw
          refine s_getA (pc := 114) rfl ko_1 hq40 ?_
          refine s_getI (pc := 117) rfl kq40 ?_
          refine s_aload_n (pc := 120) rfl rfl ?_
          obtain ⟨q41, hq41, kq41, hw⟩ := hw
          refine s_getA (pc := 121) rfl ko_1 hq41 ?_
          refine s_getI (pc := 124) rfl kq41 ?_
          refine s_ci (pc := 127) (d := (d + 6)) (t := []) rfl rfl (am_ca_v (ps := [.int (iz (m35 q41 7)), .int (iz (m35 q40 6))]) rfl (by decide +kernel)) (Nat.le_of_ble_eq_true rfl) (Ci.weak hw fun z45 m42 J43 P44 hw => ?_)
          obtain ⟨hp46, hw⟩ := hw
          obtain ⟨hz47, hw⟩ := hw
          refine s_if_ne (pc := 130) (tgt := 135) rfl rfl hz47 (fun hc => ?_) (fun hc => ?_)
          · replace hw := hw.1 hc
            refine s_aload_n (pc := 135) rfl rfl ?_
            refine s_getA (pc := 136) rfl ko_1 (po_1_3 hp46) ?_
            refine s_cv (pc := 139) (d := (d + 6)) (t := []) rfl rfl (am_ca_v (ps := []) rfl (by decide +kernel)) (Nat.le_of_ble_eq_true rfl) (Cv.weak hw fun m48 J49 P50 hw => ?_)
            obtain ⟨hp52, hw⟩ := hw
            refine s_aload_n (pc := 142) rfl rfl ?_
            refine s_aload_n (pc := 143) rfl rfl ?_
            refine s_getA (pc := 144) rfl ko_1 (po_1_3 hp52) ?_
            refine s_getA (pc := 147) rfl (by decide +kernel) (pc_4_10 hp52 (by decide +kernel)) ?_
            refine s_iconst (pc := 150) rfl ?_
            refine s_aload_n (pc := 151) rfl rfl ?_
            obtain ⟨q53, hq53, kq53, hw⟩ := hw
            refine s_getA (pc := 152) rfl ko_1 hq53 ?_
            refine s_ci (pc := 155) (d := (d + 6)) (t := []) rfl rfl (am_ca_v (ps := [.ref q53, .int (iz 0), .ref (18 + 8)]) rfl ko_1) (Nat.le_of_ble_eq_true rfl) (Ci.weak hw fun z57 m54 J55 P56 hw => ?_)
            obtain ⟨hp58, hw⟩ := hw
            refine s_pop (pc := 158) rfl rfl ?_
            refine s_iconst (pc := 159) rfl ?_
            exact s_reti (pc := 160) rfl rfl hw
          · replace hw := hw.2 hc
            refine s_iconst (pc := 133) rfl ?_
            exact s_reti (pc := 134) rfl rfl hw
        · replace hw := hw.2 hc
          refine s_iconst (pc := 98) rfl ?_
          exact s_reti (pc := 99) rfl rfl hw
      · replace hw := hw.2 hc
        refine s_bipush (pc := 39) rfl (by decide) ?_
        exact s_reti (pc := 41) rfl rfl hw
    · replace hw := hw.2 hc
      refine s_iconst (pc := 18) rfl ?_
      exact s_reti (pc := 19) rfl rfl hw

set_option maxRecDepth 20000 in
set_option maxHeartbeats 4000000 in
theorem b_Reader_readGoal_0 {X : aX} {d : Nat} (x1 : Int) (x2 : Nat) (x3 : Nat) (kx2 : am_kd an_K x2 = some (.inl 10)) (kx3 : am_kd an_K x3 = some (.inl 8)) (m : Mi) (J : Mj) (P : Mp) (hp : PP P) (post : Int → Mi → Mj → Mp → Prop)
    (hw : Cv X (d + 5) 17 [.ref 4, .int (iz x1)] m J P (fun m1 J2 P3 => PP P3 ∧ Ci X (d + 5) 28 [.ref 4, .ref x2, .ref x3, .int (iz 8), .int (iz 6)] m1 J2 P3 (fun z9 m6 J7 P8 => PP P8 ∧ Zr (z9) ∧ (((z9 = 0) → Rn X (d + 6) 91 45 [some (.ref 4), some (.int (iz x1)), some (.ref x2), some (.ref x3), some (.int (iz 0))] [] (SS m6 J7 P8) (QI post)) ∧ (¬ (z9 = 0) → Ci X (d + 5) 25 [.ref 4, .int (iz 0)] m6 J7 P8 (fun z15 m12 J13 P14 => PP P14 ∧ Zr (z15) ∧ (((z15 = 0) → Rn X (d + 6) 91 45 [some (.ref 4), some (.int (iz x1)), some (.ref x2), some (.ref x3), some (.int (iz 0))] [] (SS m12 J13 P14) (QI post)) ∧ (¬ (z15 = 0) → Ci X (d + 5) 38 [.ref 4, .ref x2, .ref x3] m12 J13 P14 (fun z21 m18 J19 P20 => PP P20 ∧ Rn X (d + 6) 91 45 [some (.ref 4), some (.int (iz x1)), some (.ref x2), some (.ref x3), some (.int (iz 1))] [] (SS m18 J19 P20) (QI post)))))))))) : Rn X (d + 6) 91 0 [some (.ref 4), some (.int (iz x1)), some (.ref x2), some (.ref x3), none] [] (SS m J P) (QI post) := by
  refine s_aload_n (pc := 0) rfl rfl ?_
  refine s_iload_n (pc := 1) rfl rfl ?_
  refine s_cv (pc := 2) (d := (d + 5)) (t := []) rfl rfl (am_ca_v (ps := [.int (iz x1)]) rfl ko_4) (Nat.le_of_ble_eq_true rfl) (Cv.weak hw fun m1 J2 P3 hw => ?_)
  obtain ⟨hp5, hw⟩ := hw
  refine s_aload_n (pc := 5) rfl rfl ?_
  refine s_aload_n (pc := 6) rfl rfl ?_
  refine s_aload_n (pc := 7) rfl rfl ?_
  refine s_bipush (pc := 8) rfl (by decide) ?_
  refine s_bipush (pc := 10) rfl (by decide) ?_
  refine s_ci (pc := 12) (d := (d + 5)) (t := []) rfl rfl (am_ca_v (ps := [.int (iz 6), .int (iz 8), .ref x3, .ref x2]) rfl ko_4) (Nat.le_of_ble_eq_true rfl) (Ci.weak hw fun z9 m6 J7 P8 hw => ?_)
  obtain ⟨hp10, hw⟩ := hw
  obtain ⟨hz11, hw⟩ := hw
  refine s_if_eq (pc := 15) (tgt := 30) rfl rfl hz11 (fun hc => ?_) (fun hc => ?_)
  · replace hw := hw.1 hc
    refine s_iconst (pc := 30) rfl ?_
    refine s_istore (pc := 31) (L' := [some (.ref 4), some (.int (iz x1)), some (.ref x2), some (.ref x3), some (.int (iz 0))]) rfl (Nat.le_of_ble_eq_true rfl) rfl ?_
    refine s_iload (pc := 33) rfl rfl ?_
    refine s_if_eq (pc := 35) (tgt := 45) rfl rfl (by decide) (fun hc => ?_) (fun hc => ?_)
    rotate_left
    · exact absurd hc (by decide)
    exact hw
  · replace hw := hw.2 hc
    refine s_aload_n (pc := 18) rfl rfl ?_
    refine s_iconst (pc := 19) rfl ?_
    refine s_ci (pc := 20) (d := (d + 5)) (t := []) rfl rfl (am_ca_v (ps := [.int (iz 0)]) rfl ko_4) (Nat.le_of_ble_eq_true rfl) (Ci.weak hw fun z15 m12 J13 P14 hw => ?_)
    obtain ⟨hp16, hw⟩ := hw
    obtain ⟨hz17, hw⟩ := hw
    refine s_if_eq (pc := 23) (tgt := 30) rfl rfl hz17 (fun hc => ?_) (fun hc => ?_)
    · replace hw := hw.1 hc
      refine s_iconst (pc := 30) rfl ?_
      refine s_istore (pc := 31) (L' := [some (.ref 4), some (.int (iz x1)), some (.ref x2), some (.ref x3), some (.int (iz 0))]) rfl (Nat.le_of_ble_eq_true rfl) rfl ?_
      refine s_iload (pc := 33) rfl rfl ?_
      refine s_if_eq (pc := 35) (tgt := 45) rfl rfl (by decide) (fun hc => ?_) (fun hc => ?_)
      rotate_left
      · exact absurd hc (by decide)
      exact hw
    · replace hw := hw.2 hc
      refine s_iconst (pc := 26) rfl ?_
      refine s_goto (pc := 27) (tgt := 31) rfl rfl ?_
      refine s_istore (pc := 31) (L' := [some (.ref 4), some (.int (iz x1)), some (.ref x2), some (.ref x3), some (.int (iz 1))]) rfl (Nat.le_of_ble_eq_true rfl) rfl ?_
      refine s_iload (pc := 33) rfl rfl ?_
      refine s_if_eq (pc := 35) (tgt := 45) rfl rfl (by decide) (fun hc => ?_) (fun hc => ?_)
      · exact absurd hc (by decide)
      refine s_aload_n (pc := 38) rfl rfl ?_
      refine s_aload_n (pc := 39) rfl rfl ?_
      refine s_aload_n (pc := 40) rfl rfl ?_
      refine s_ci (pc := 41) (d := (d + 5)) (t := []) rfl rfl (am_ca_v (ps := [.ref x3, .ref x2]) rfl ko_4) (Nat.le_of_ble_eq_true rfl) (Ci.weak hw fun z21 m18 J19 P20 hw => ?_)
      obtain ⟨hp22, hw⟩ := hw
      refine s_pop (pc := 44) rfl rfl ?_
      exact hw

set_option maxRecDepth 20000 in
set_option maxHeartbeats 4000000 in
theorem b_Reader_readGoal_45 {X : aX} {d : Nat} (x1 : Int) (x2 : Nat) (x3 : Nat) (x4 : Int) (kx2 : am_kd an_K x2 = some (.inl 10)) (kx3 : am_kd an_K x3 = some (.inl 8)) (m : Mi) (J : Mj) (P : Mp) (hp : PP P) (post : Int → Mi → Mj → Mp → Prop)
    (hw : post (m 4 3) m J P) : Rn X (d + 6) 91 45 [some (.ref 4), some (.int (iz x1)), some (.ref x2), some (.ref x3), some (.int (iz x4))] [] (SS m J P) (QI post) := by
  refine s_aload_n (pc := 45) rfl rfl ?_
  refine s_getI (pc := 46) rfl ko_4 ?_
  exact s_reti (pc := 49) rfl rfl hw

set_option maxRecDepth 20000 in
set_option maxHeartbeats 4000000 in
theorem b_Bench_takeGoal_0 {X : aX} {d : Nat} (x0 : Nat) (x1 : Nat) (x2 : Int) (kx0 : am_kd an_K x0 = some (.inl 4)) (kx1 : am_kd an_K x1 = some (.inl 8)) (m : Mi) (J : Mj) (P : Mp) (hp : PP P) (post : Mi → Mj → Mp → Prop)
    (hw : Rn X (d + 1) 92 7 [some (.ref x0), some (.ref x1), some (.int (iz x2)), some (.int (iz 0))] [] (SS (mu m x0 12 0) J P) (QV post)) : Rn X (d + 1) 92 0 [some (.ref x0), some (.ref x1), some (.int (iz x2)), none] [] (SS m J P) (QV post) := by
  refine s_aload_n (pc := 0) rfl rfl ?_
  refine s_iconst (pc := 1) rfl ?_
  refine s_putI (pc := 2) rfl kx0 ?_
  refine s_iconst (pc := 5) rfl ?_
  refine s_istore_n (pc := 6) (L' := [some (.ref x0), some (.ref x1), some (.int (iz x2)), some (.int (iz 0))]) rfl (Nat.le_of_ble_eq_true rfl) rfl ?_
  exact hw

set_option maxRecDepth 20000 in
set_option maxHeartbeats 4000000 in
theorem b_Bench_takeGoal_7 {X : aX} {d : Nat} (x0 : Nat) (x1 : Nat) (x2 : Int) (x3 : Int) (kx0 : am_kd an_K x0 = some (.inl 4)) (kx1 : am_kd an_K x1 = some (.inl 8)) (m : Mi) (J : Mj) (P : Mp) (hp : PP P) (post : Mi → Mj → Mp → Prop)
    (hw : Zr (x3) ∧ Zr (m x1 6) ∧ ((((m x1 6) ≤ x3) → Rn X (d + 1) 92 53 [some (.ref x0), some (.ref x1), some (.int (iz x2)), some (.int (iz 0))] [] (SS m J P) (QV post)) ∧ (¬ ((m x1 6) ≤ x3) → ((0 : Int) ≤ x3 ∧ (x3 : Int) < 80) ∧ Zr (m (x1 + 1) x3.toNat) ∧ (((0 ≤ (m (x1 + 1) x3.toNat)) → ((0 : Int) ≤ x3 ∧ (x3 : Int) < 80) ∧ Cv X d 62 [.ref x0, .int (iz (zor (m (x1 + 1) x3.toNat) x2))] m J P (fun m6 J7 P8 => PP P8 ∧ Rn X (d + 1) 92 7 [some (.ref x0), some (.ref x1), some (.int (iz x2)), some (.int (iz (x3 + 1)))] [] (SS m6 J7 P8) (QV post))) ∧ (¬ (0 ≤ (m (x1 + 1) x3.toNat)) → ((0 : Int) ≤ x3 ∧ (x3 : Int) < 80) ∧ Cv X d 62 [.ref x0, .int (iz (m (x1 + 1) x3.toNat))] m J P (fun m12 J13 P14 => PP P14 ∧ Rn X (d + 1) 92 7 [some (.ref x0), some (.ref x1), some (.int (iz x2)), some (.int (iz (x3 + 1)))] [] (SS m12 J13 P14) (QV post))))))) : Rn X (d + 1) 92 7 [some (.ref x0), some (.ref x1), some (.int (iz x2)), some (.int (iz x3))] [] (SS m J P) (QV post) := by
  refine s_iload_n (pc := 7) rfl rfl ?_
  refine s_aload_n (pc := 8) rfl rfl ?_
  refine s_getI (pc := 9) rfl kx1 ?_
  obtain ⟨hz1, hw⟩ := hw
  obtain ⟨hz2, hw⟩ := hw
  refine s_ic_ge (pc := 12) (tgt := 51) rfl rfl hz1 hz2 (fun hc => ?_) (fun hc => ?_)
  · replace hw := hw.1 hc
    refine s_iconst (pc := 51) rfl ?_
    refine s_istore_n (pc := 52) (L' := [some (.ref x0), some (.ref x1), some (.int (iz x2)), some (.int (iz 0))]) rfl (Nat.le_of_ble_eq_true rfl) rfl ?_
    exact hw
  · replace hw := hw.2 hc
    refine s_aload_n (pc := 15) rfl rfl ?_
    refine s_aload_n (pc := 16) rfl rfl ?_
    refine s_getA (pc := 17) rfl kx1 (pc_8_0 hp kx1) ?_
    refine s_iload_n (pc := 20) rfl rfl ?_
    obtain ⟨hb3, hw⟩ := hw
    refine s_iald (pc := 21) rfl (kc_8_0 kx1) (by decide) hb3 ?_
    obtain ⟨hz4, hw⟩ := hw
    refine s_if_ge (pc := 22) (tgt := 34) rfl rfl hz4 (fun hc => ?_) (fun hc => ?_)
    · replace hw := hw.1 hc
      refine s_aload_n (pc := 34) rfl rfl ?_
      refine s_getA (pc := 35) rfl kx1 (pc_8_0 hp kx1) ?_
      refine s_iload_n (pc := 38) rfl rfl ?_
      obtain ⟨hb5, hw⟩ := hw
      refine s_iald (pc := 39) rfl (kc_8_0 kx1) (by decide) hb5 ?_
      refine s_iload_n (pc := 40) rfl rfl ?_
      refine s_ior (pc := 41) rfl ?_
      refine s_cv (pc := 42) (d := d) (t := []) rfl rfl (am_ca_v (ps := [.int (iz (zor (m (x1 + 1) x3.toNat) x2))]) rfl kx0) (Nat.le_of_ble_eq_true rfl) (Cv.weak hw fun m6 J7 P8 hw => ?_)
      obtain ⟨hp10, hw⟩ := hw
      refine s_iinc (pc := 45) (L' := [some (.ref x0), some (.ref x1), some (.int (iz x2)), some (.int (iz (x3 + 1)))]) rfl rfl (Nat.le_of_ble_eq_true rfl) rfl ?_
      refine s_goto (pc := 48) (tgt := 7) rfl rfl ?_
      exact hw
    · replace hw := hw.2 hc
      refine s_aload_n (pc := 25) rfl rfl ?_
      refine s_getA (pc := 26) rfl kx1 (pc_8_0 hp kx1) ?_
      refine s_iload_n (pc := 29) rfl rfl ?_
      obtain ⟨hb11, hw⟩ := hw
      refine s_iald (pc := 30) rfl (kc_8_0 kx1) (by decide) hb11 ?_
      refine s_goto (pc := 31) (tgt := 42) rfl rfl ?_
      refine s_cv (pc := 42) (d := d) (t := []) rfl rfl (am_ca_v (ps := [.int (iz (m (x1 + 1) x3.toNat))]) rfl kx0) (Nat.le_of_ble_eq_true rfl) (Cv.weak hw fun m12 J13 P14 hw => ?_)
      obtain ⟨hp16, hw⟩ := hw
      refine s_iinc (pc := 45) (L' := [some (.ref x0), some (.ref x1), some (.int (iz x2)), some (.int (iz (x3 + 1)))]) rfl rfl (Nat.le_of_ble_eq_true rfl) rfl ?_
      refine s_goto (pc := 48) (tgt := 7) rfl rfl ?_
      exact hw

set_option maxRecDepth 20000 in
set_option maxHeartbeats 4000000 in
theorem b_Bench_takeGoal_53 {X : aX} {d : Nat} (x0 : Nat) (x1 : Nat) (x2 : Int) (x3 : Int) (kx0 : am_kd an_K x0 = some (.inl 4)) (kx1 : am_kd an_K x1 = some (.inl 8)) (m : Mi) (J : Mj) (P : Mp) (hp : PP P) (post : Mi → Mj → Mp → Prop)
    (hw : Zr (x3) ∧ Zr (m x1 7) ∧ ((((m x1 7) ≤ x3) → post m J P) ∧ (¬ ((m x1 7) ≤ x3) → Cv X d 62 [.ref x0, .int (iz (((-1)) - x3))] m J P (fun m3 J4 P5 => PP P5 ∧ Rn X (d + 1) 92 53 [some (.ref x0), some (.ref x1), some (.int (iz x2)), some (.int (iz (x3 + 1)))] [] (SS m3 J4 P5) (QV post))))) : Rn X (d + 1) 92 53 [some (.ref x0), some (.ref x1), some (.int (iz x2)), some (.int (iz x3))] [] (SS m J P) (QV post) := by
  refine s_iload_n (pc := 53) rfl rfl ?_
  refine s_aload_n (pc := 54) rfl rfl ?_
  refine s_getI (pc := 55) rfl kx1 ?_
  obtain ⟨hz1, hw⟩ := hw
  obtain ⟨hz2, hw⟩ := hw
  refine s_ic_ge (pc := 58) (tgt := 74) rfl rfl hz1 hz2 (fun hc => ?_) (fun hc => ?_)
  · replace hw := hw.1 hc
    exact s_retv (pc := 74) rfl rfl hw
  · replace hw := hw.2 hc
    refine s_aload_n (pc := 61) rfl rfl ?_
    refine s_iconst (pc := 62) rfl ?_
    refine s_iload_n (pc := 63) rfl rfl ?_
    refine s_isub (pc := 64) rfl ?_
    refine s_cv (pc := 65) (d := d) (t := []) rfl rfl (am_ca_v (ps := [.int (iz (((-1)) - x3))]) rfl kx0) (Nat.le_of_ble_eq_true rfl) (Cv.weak hw fun m3 J4 P5 hw => ?_)
    obtain ⟨hp7, hw⟩ := hw
    refine s_iinc (pc := 68) (L' := [some (.ref x0), some (.ref x1), some (.int (iz x2)), some (.int (iz (x3 + 1)))]) rfl rfl (Nat.le_of_ble_eq_true rfl) rfl ?_
    refine s_goto (pc := 71) (tgt := 53) rfl rfl ?_
    exact hw

set_option maxRecDepth 20000 in
set_option maxHeartbeats 4000000 in
theorem b_Bench_putValues_0 {X : aX} {d : Nat} (x0 : Nat) (x1 : Int) (x2 : Int) (kx0 : am_kd an_K x0 = some (.inl 4)) (m : Mi) (J : Mj) (P : Mp) (hp : PP P) (post : Int → Mi → Mj → Mp → Prop)
    (hw : Rn X (d + 2) 93 5 [some (.ref x0), some (.int (iz x1)), some (.int (iz x2)), some (.int (iz x1)), some (.int (iz 0))] [] (SS m J P) (QI post)) : Rn X (d + 2) 93 0 [some (.ref x0), some (.int (iz x1)), some (.int (iz x2)), none, none] [] (SS m J P) (QI post) := by
  refine s_iload_n (pc := 0) rfl rfl ?_
  refine s_istore_n (pc := 1) (L' := [some (.ref x0), some (.int (iz x1)), some (.int (iz x2)), some (.int (iz x1)), none]) rfl (Nat.le_of_ble_eq_true rfl) rfl ?_
  refine s_iconst (pc := 2) rfl ?_
  refine s_istore (pc := 3) (L' := [some (.ref x0), some (.int (iz x1)), some (.int (iz x2)), some (.int (iz x1)), some (.int (iz 0))]) rfl (Nat.le_of_ble_eq_true rfl) rfl ?_
  exact hw

set_option maxRecDepth 20000 in
set_option maxHeartbeats 4000000 in
theorem b_Bench_putValues_5 {X : aX} {d : Nat} (x0 : Nat) (x1 : Int) (x2 : Int) (x3 : Int) (x4 : Int) (kx0 : am_kd an_K x0 = some (.inl 4)) (m : Mi) (J : Mj) (P : Mp) (hp : PP P) (post : Int → Mi → Mj → Mp → Prop)
    (hw : Zr (x4) ∧ Zr (x2) ∧ (((x2 ≤ x4) → post 1 m J P) ∧ (¬ (x2 ≤ x4) → Zr (x3) ∧ Zr (m x0 2) ∧ ((((m x0 2) ≤ x3) → post 1 m J P) ∧ (¬ ((m x0 2) ≤ x3) → Ci X (d + 1) 61 [.ref x0, .int (iz x3), .int (iz 100), .int (iz 0)] m J P (fun z8 m5 J6 P7 => PP P7 ∧ Zr (z8) ∧ (((¬ z8 = ((-1))) → ((0 : Int) ≤ x3 ∧ (x3 : Int) < 880) ∧ Rn X (d + 2) 93 5 [some (.ref x0), some (.int (iz x1)), some (.int (iz x2)), some (.int (iz (m5 (x0 + 2) x3.toNat))), some (.int (iz (x4 + 1)))] [] (SS m5 J6 P7) (QI post)) ∧ (¬ (¬ z8 = ((-1))) → post 0 m5 J6 P7)))))))) : Rn X (d + 2) 93 5 [some (.ref x0), some (.int (iz x1)), some (.int (iz x2)), some (.int (iz x3)), some (.int (iz x4))] [] (SS m J P) (QI post) := by
  refine s_iload (pc := 5) rfl rfl ?_
  refine s_iload_n (pc := 7) rfl rfl ?_
  obtain ⟨hz1, hw⟩ := hw
  obtain ⟨hz2, hw⟩ := hw
  refine s_ic_ge (pc := 8) (tgt := 46) rfl rfl hz1 hz2 (fun hc => ?_) (fun hc => ?_)
  · replace hw := hw.1 hc
    refine s_iconst (pc := 46) rfl ?_
    exact s_retz (pc := 47) rfl rfl (by decide) hw
  · replace hw := hw.2 hc
    refine s_iload_n (pc := 11) rfl rfl ?_
    refine s_aload_n (pc := 12) rfl rfl ?_
    refine s_getI (pc := 13) rfl kx0 ?_
    obtain ⟨hz3, hw⟩ := hw
    obtain ⟨hz4, hw⟩ := hw
    refine s_ic_ge (pc := 16) (tgt := 46) rfl rfl hz3 hz4 (fun hc => ?_) (fun hc => ?_)
    · replace hw := hw.1 hc
      refine s_iconst (pc := 46) rfl ?_
      exact s_retz (pc := 47) rfl rfl (by decide) hw
    · replace hw := hw.2 hc
      refine s_aload_n (pc := 19) rfl rfl ?_
      refine s_iload_n (pc := 20) rfl rfl ?_
      refine s_bipush (pc := 21) rfl (by decide) ?_
      refine s_iconst (pc := 23) rfl ?_
      refine s_ci (pc := 24) (d := (d + 1)) (t := []) rfl rfl (am_ca_v (ps := [.int (iz 0), .int (iz 100), .int (iz x3)]) rfl kx0) (Nat.le_of_ble_eq_true rfl) (Ci.weak hw fun z8 m5 J6 P7 hw => ?_)
      obtain ⟨hp9, hw⟩ := hw
      refine s_iconst (pc := 27) rfl ?_
      obtain ⟨hz10, hw⟩ := hw
      refine s_ic_ne (pc := 28) (tgt := 33) rfl rfl hz10 (by decide) (fun hc => ?_) (fun hc => ?_)
      · replace hw := hw.1 hc
        refine s_aload_n (pc := 33) rfl rfl ?_
        refine s_getA (pc := 34) rfl kx0 (pc_4_1 hp9 kx0) ?_
        refine s_iload_n (pc := 37) rfl rfl ?_
        obtain ⟨hb11, hw⟩ := hw
        refine s_iald (pc := 38) rfl (kc_4_1 kx0) (by decide) hb11 ?_
        refine s_istore_n (pc := 39) (L' := [some (.ref x0), some (.int (iz x1)), some (.int (iz x2)), some (.int (iz (m5 (x0 + 2) x3.toNat))), some (.int (iz x4))]) rfl (Nat.le_of_ble_eq_true rfl) rfl ?_
        refine s_iinc (pc := 40) (L' := [some (.ref x0), some (.int (iz x1)), some (.int (iz x2)), some (.int (iz (m5 (x0 + 2) x3.toNat))), some (.int (iz (x4 + 1)))]) rfl rfl (Nat.le_of_ble_eq_true rfl) rfl ?_
        refine s_goto (pc := 43) (tgt := 5) rfl rfl ?_
        exact hw
      · replace hw := hw.2 hc
        refine s_iconst (pc := 31) rfl ?_
        exact s_retz (pc := 32) rfl rfl (by decide) hw

set_option maxRecDepth 20000 in
set_option maxHeartbeats 4000000 in
theorem b_Nh_showValues_0 {X : aX} {d : Nat} (x1 nx1 : Nat) (x2 : Int) (x3 : Nat) (kx1 : am_kd an_K x1 = some (.inr (0, nx1))) (bx1 : nx1 ≤ 100000) (kx3 : am_kd an_K x3 = some (.inl 8)) (m : Mi) (J : Mj) (P : Mp) (hp : PP P) (post : Int → Mi → Mj → Mp → Prop)
    (hw : Cv X (d + 3) 82 [.ref 50] m J P (fun m1 J2 P3 => PP P3 ∧ (∃ q6, P3 1 8 = some q6 ∧ am_kd an_K q6 = some (.inl 10) ∧ Cv X (d + 3) 95 [.ref 50, .ref x1, .int (iz x2), .ref x3, .ref q6] m1 J2 P3 (fun m7 J8 P9 => PP P9 ∧ Rn X (d + 4) 94 27 [some (.ref 1), some (.ref x1), some (.int (iz x2)), some (.ref x3), some (.int (iz x2)), some (.int (iz 0))] [] (SS m7 J8 P9) (QI post))))) : Rn X (d + 4) 94 0 [some (.ref 1), some (.ref x1), some (.int (iz x2)), some (.ref x3), none, none] [] (SS m J P) (QI post) := by
  refine s_aload_n (pc := 0) rfl rfl ?_
  refine s_getA (pc := 1) rfl ko_1 (po_1_7 hp) ?_
  refine s_cv (pc := 4) (d := (d + 3)) (t := []) rfl rfl (am_ca_v (ps := []) rfl ko_50) (Nat.le_of_ble_eq_true rfl) (Cv.weak hw fun m1 J2 P3 hw => ?_)
  obtain ⟨hp5, hw⟩ := hw
  refine s_aload_n (pc := 7) rfl rfl ?_
  refine s_getA (pc := 8) rfl ko_1 (po_1_7 hp5) ?_
  refine s_aload_n (pc := 11) rfl rfl ?_
  refine s_iload_n (pc := 12) rfl rfl ?_
  refine s_aload_n (pc := 13) rfl rfl ?_
  refine s_aload_n (pc := 14) rfl rfl ?_
  obtain ⟨q6, hq6, kq6, hw⟩ := hw
  refine s_getA (pc := 15) rfl ko_1 hq6 ?_
  refine s_cv (pc := 18) (d := (d + 3)) (t := []) rfl rfl (am_ca_v (ps := [.ref q6, .ref x3, .int (iz x2), .ref x1]) rfl ko_50) (Nat.le_of_ble_eq_true rfl) (Cv.weak hw fun m7 J8 P9 hw => ?_)
  obtain ⟨hp11, hw⟩ := hw
  refine s_iload_n (pc := 21) rfl rfl ?_
  refine s_istore (pc := 22) (L' := [some (.ref 1), some (.ref x1), some (.int (iz x2)), some (.ref x3), some (.int (iz x2)), none]) rfl (Nat.le_of_ble_eq_true rfl) rfl ?_
  refine s_iconst (pc := 24) rfl ?_
  refine s_istore (pc := 25) (L' := [some (.ref 1), some (.ref x1), some (.int (iz x2)), some (.ref x3), some (.int (iz x2)), some (.int (iz 0))]) rfl (Nat.le_of_ble_eq_true rfl) rfl ?_
  exact hw

set_option maxRecDepth 20000 in
set_option maxHeartbeats 4000000 in
theorem b_Nh_showValues_27 {X : aX} {d : Nat} (x1 nx1 : Nat) (x2 : Int) (x3 : Nat) (x4 : Int) (x5 : Int) (kx1 : am_kd an_K x1 = some (.inr (0, nx1))) (bx1 : nx1 ≤ 100000) (kx3 : am_kd an_K x3 = some (.inl 8)) (m : Mi) (J : Mj) (P : Mp) (hp : PP P) (post : Int → Mi → Mj → Mp → Prop)
    (hw : Zr (x5) ∧ Zr (m x3 7) ∧ ((((m x3 7) ≤ x5) → post (m 50 1) m J P) ∧ (¬ ((m x3 7) ≤ x5) → Zr (x5) ∧ (((x5 ≤ 0) → ((0 : Int) ≤ x5 ∧ (x5 : Int) < 8) ∧ Cv X (d + 3) 86 [.ref 50, .long (J (x3 + 5) x5.toNat)] m J P (fun m5 J6 P7 => PP P7 ∧ Cv X (d + 3) 87 [.ref 50, .int (iz 61)] m5 J6 P7 (fun m10 J11 P12 => PP P12 ∧ (∃ q15, P12 1 8 = some q15 ∧ am_kd an_K q15 = some (.inl 10) ∧ Ci X (d + 3) 84 [.ref 50, .ref x1, .int (iz x4), .ref q15] m10 J11 P12 (fun z19 m16 J17 P18 => PP P18 ∧ Rn X (d + 4) 94 27 [some (.ref 1), some (.ref x1), some (.int (iz x2)), some (.ref x3), some (.int (iz z19)), some (.int (iz (x5 + 1)))] [] (SS m16 J17 P18) (QI post)))))) ∧ (¬ (x5 ≤ 0) → Cv X (d + 3) 87 [.ref 50, .int (iz 44)] m J P (fun m21 J22 P23 => PP P23 ∧ ((0 : Int) ≤ x5 ∧ (x5 : Int) < 8) ∧ Cv X (d + 3) 86 [.ref 50, .long (J22 (x3 + 5) x5.toNat)] m21 J22 P23 (fun m27 J28 P29 => PP P29 ∧ Cv X (d + 3) 87 [.ref 50, .int (iz 61)] m27 J28 P29 (fun m32 J33 P34 => PP P34 ∧ (∃ q37, P34 1 8 = some q37 ∧ am_kd an_K q37 = some (.inl 10) ∧ Ci X (d + 3) 84 [.ref 50, .ref x1, .int (iz x4), .ref q37] m32 J33 P34 (fun z41 m38 J39 P40 => PP P40 ∧ Rn X (d + 4) 94 27 [some (.ref 1), some (.ref x1), some (.int (iz x2)), some (.ref x3), some (.int (iz z41)), some (.int (iz (x5 + 1)))] [] (SS m38 J39 P40) (QI post))))))))))) : Rn X (d + 4) 94 27 [some (.ref 1), some (.ref x1), some (.int (iz x2)), some (.ref x3), some (.int (iz x4)), some (.int (iz x5))] [] (SS m J P) (QI post) := by
  refine s_iload (pc := 27) rfl rfl ?_
  refine s_aload_n (pc := 29) rfl rfl ?_
  refine s_getI (pc := 30) rfl kx3 ?_
  obtain ⟨hz1, hw⟩ := hw
  obtain ⟨hz2, hw⟩ := hw
  refine s_ic_ge (pc := 33) (tgt := 95) rfl rfl hz1 hz2 (fun hc => ?_) (fun hc => ?_)
  · replace hw := hw.1 hc
    refine s_aload_n (pc := 95) rfl rfl ?_
    refine s_getA (pc := 96) rfl ko_1 (po_1_7 hp) ?_
    refine s_getI (pc := 99) rfl ko_50 ?_
    exact s_reti (pc := 102) rfl rfl hw
  · replace hw := hw.2 hc
    refine s_iload (pc := 36) rfl rfl ?_
    obtain ⟨hz3, hw⟩ := hw
    refine s_if_le (pc := 38) (tgt := 50) rfl rfl hz3 (fun hc => ?_) (fun hc => ?_)
    · replace hw := hw.1 hc
      refine s_aload_n (pc := 50) rfl rfl ?_
      refine s_getA (pc := 51) rfl ko_1 (po_1_7 hp) ?_
      refine s_aload_n (pc := 54) rfl rfl ?_
      refine s_getA (pc := 55) rfl kx3 (pc_8_4 hp kx3) ?_
      refine s_iload (pc := 58) rfl rfl ?_
      obtain ⟨hb4, hw⟩ := hw
      refine s_lald (pc := 60) rfl (kc_8_4 kx3) (by decide) hb4 ?_
      refine s_cv (pc := 61) (d := (d + 3)) (t := []) rfl rfl (am_ca_v (ps := [.long (J (x3 + 5) x5.toNat)]) rfl ko_50) (Nat.le_of_ble_eq_true rfl) (Cv.weak hw fun m5 J6 P7 hw => ?_)
      obtain ⟨hp9, hw⟩ := hw
      refine s_aload_n (pc := 64) rfl rfl ?_
      refine s_getA (pc := 65) rfl ko_1 (po_1_7 hp9) ?_
      refine s_bipush (pc := 68) rfl (by decide) ?_
      refine s_cv (pc := 70) (d := (d + 3)) (t := []) rfl rfl (am_ca_v (ps := [.int (iz 61)]) rfl ko_50) (Nat.le_of_ble_eq_true rfl) (Cv.weak hw fun m10 J11 P12 hw => ?_)
      obtain ⟨hp14, hw⟩ := hw
      refine s_aload_n (pc := 73) rfl rfl ?_
      refine s_getA (pc := 74) rfl ko_1 (po_1_7 hp14) ?_
      refine s_aload_n (pc := 77) rfl rfl ?_
      refine s_iload (pc := 78) rfl rfl ?_
      refine s_aload_n (pc := 80) rfl rfl ?_
      obtain ⟨q15, hq15, kq15, hw⟩ := hw
      refine s_getA (pc := 81) rfl ko_1 hq15 ?_
      refine s_ci (pc := 84) (d := (d + 3)) (t := []) rfl rfl (am_ca_v (ps := [.ref q15, .int (iz x4), .ref x1]) rfl ko_50) (Nat.le_of_ble_eq_true rfl) (Ci.weak hw fun z19 m16 J17 P18 hw => ?_)
      obtain ⟨hp20, hw⟩ := hw
      refine s_istore (pc := 87) (L' := [some (.ref 1), some (.ref x1), some (.int (iz x2)), some (.ref x3), some (.int (iz z19)), some (.int (iz x5))]) rfl (Nat.le_of_ble_eq_true rfl) rfl ?_
      refine s_iinc (pc := 89) (L' := [some (.ref 1), some (.ref x1), some (.int (iz x2)), some (.ref x3), some (.int (iz z19)), some (.int (iz (x5 + 1)))]) rfl rfl (Nat.le_of_ble_eq_true rfl) rfl ?_
      refine s_goto (pc := 92) (tgt := 27) rfl rfl ?_
      exact hw
    · replace hw := hw.2 hc
      refine s_aload_n (pc := 41) rfl rfl ?_
      refine s_getA (pc := 42) rfl ko_1 (po_1_7 hp) ?_
      refine s_bipush (pc := 45) rfl (by decide) ?_
      refine s_cv (pc := 47) (d := (d + 3)) (t := []) rfl rfl (am_ca_v (ps := [.int (iz 44)]) rfl ko_50) (Nat.le_of_ble_eq_true rfl) (Cv.weak hw fun m21 J22 P23 hw => ?_)
      obtain ⟨hp25, hw⟩ := hw
      refine s_aload_n (pc := 50) rfl rfl ?_
      refine s_getA (pc := 51) rfl ko_1 (po_1_7 hp25) ?_
      refine s_aload_n (pc := 54) rfl rfl ?_
      refine s_getA (pc := 55) rfl kx3 (pc_8_4 hp25 kx3) ?_
      refine s_iload (pc := 58) rfl rfl ?_
      obtain ⟨hb26, hw⟩ := hw
      refine s_lald (pc := 60) rfl (kc_8_4 kx3) (by decide) hb26 ?_
      refine s_cv (pc := 61) (d := (d + 3)) (t := []) rfl rfl (am_ca_v (ps := [.long (J22 (x3 + 5) x5.toNat)]) rfl ko_50) (Nat.le_of_ble_eq_true rfl) (Cv.weak hw fun m27 J28 P29 hw => ?_)
      obtain ⟨hp31, hw⟩ := hw
      refine s_aload_n (pc := 64) rfl rfl ?_
      refine s_getA (pc := 65) rfl ko_1 (po_1_7 hp31) ?_
      refine s_bipush (pc := 68) rfl (by decide) ?_
      refine s_cv (pc := 70) (d := (d + 3)) (t := []) rfl rfl (am_ca_v (ps := [.int (iz 61)]) rfl ko_50) (Nat.le_of_ble_eq_true rfl) (Cv.weak hw fun m32 J33 P34 hw => ?_)
      obtain ⟨hp36, hw⟩ := hw
      refine s_aload_n (pc := 73) rfl rfl ?_
      refine s_getA (pc := 74) rfl ko_1 (po_1_7 hp36) ?_
      refine s_aload_n (pc := 77) rfl rfl ?_
      refine s_iload (pc := 78) rfl rfl ?_
      refine s_aload_n (pc := 80) rfl rfl ?_
      obtain ⟨q37, hq37, kq37, hw⟩ := hw
      refine s_getA (pc := 81) rfl ko_1 hq37 ?_
      refine s_ci (pc := 84) (d := (d + 3)) (t := []) rfl rfl (am_ca_v (ps := [.ref q37, .int (iz x4), .ref x1]) rfl ko_50) (Nat.le_of_ble_eq_true rfl) (Ci.weak hw fun z41 m38 J39 P40 hw => ?_)
      obtain ⟨hp42, hw⟩ := hw
      refine s_istore (pc := 87) (L' := [some (.ref 1), some (.ref x1), some (.int (iz x2)), some (.ref x3), some (.int (iz z41)), some (.int (iz x5))]) rfl (Nat.le_of_ble_eq_true rfl) rfl ?_
      refine s_iinc (pc := 89) (L' := [some (.ref 1), some (.ref x1), some (.int (iz x2)), some (.ref x3), some (.int (iz z41)), some (.int (iz (x5 + 1)))]) rfl rfl (Nat.le_of_ble_eq_true rfl) rfl ?_
      refine s_goto (pc := 92) (tgt := 27) rfl rfl ?_
      exact hw

set_option maxRecDepth 20000 in
set_option maxHeartbeats 4000000 in
theorem b_Page_nameValues_0 {X : aX} {d : Nat} (x1 nx1 : Nat) (x2 : Int) (x3 : Nat) (x4 : Nat) (kx1 : am_kd an_K x1 = some (.inr (0, nx1))) (bx1 : nx1 ≤ 100000) (kx3 : am_kd an_K x3 = some (.inl 8)) (kx4 : am_kd an_K x4 = some (.inl 10)) (m : Mi) (J : Mj) (P : Mp) (hp : PP P) (post : Mi → Mj → Mp → Prop)
    (hw : Rn X (d + 2) 95 6 [some (.ref 50), some (.ref x1), some (.int (iz x2)), some (.ref x3), some (.ref x4), some (.int (iz x2)), some (.int (iz 0)), none] [] (SS m J P) (QV post)) : Rn X (d + 2) 95 0 [some (.ref 50), some (.ref x1), some (.int (iz x2)), some (.ref x3), some (.ref x4), none, none, none] [] (SS m J P) (QV post) := by
  refine s_iload_n (pc := 0) rfl rfl ?_
  refine s_istore (pc := 1) (L' := [some (.ref 50), some (.ref x1), some (.int (iz x2)), some (.ref x3), some (.ref x4), some (.int (iz x2)), none, none]) rfl (Nat.le_of_ble_eq_true rfl) rfl ?_
  refine s_iconst (pc := 3) rfl ?_
  refine s_istore (pc := 4) (L' := [some (.ref 50), some (.ref x1), some (.int (iz x2)), some (.ref x3), some (.ref x4), some (.int (iz x2)), some (.int (iz 0)), none]) rfl (Nat.le_of_ble_eq_true rfl) rfl ?_
  exact hw

set_option maxRecDepth 20000 in
set_option maxHeartbeats 4000000 in
theorem b_Page_nameValues_6 {X : aX} {d : Nat} (x1 nx1 : Nat) (x2 : Int) (x3 : Nat) (x4 : Nat) (x5 : Int) (x6 : Int) (kx1 : am_kd an_K x1 = some (.inr (0, nx1))) (bx1 : nx1 ≤ 100000) (kx3 : am_kd an_K x3 = some (.inl 8)) (kx4 : am_kd an_K x4 = some (.inl 10)) (m : Mi) (J : Mj) (P : Mp) (hp : PP P) (post : Mi → Mj → Mp → Prop)
    (hw : Zr (x6) ∧ Zr (m x3 7) ∧ ((((m x3 7) ≤ x6) → post m J P) ∧ (¬ ((m x3 7) ≤ x6) → Zr (x5) ∧ Zr ((nx1 : Int)) ∧ (((((nx1 : Int)) ≤ x5) → post m J P) ∧ (¬ (((nx1 : Int)) ≤ x5) → ((0 : Int) ≤ x5 ∧ (x5 : Int) < nx1) ∧ Zr (m x1 x5.toNat) ∧ (((0 ≤ (m x1 x5.toNat)) → Ci X (d + 1) 96 [.ref x4, .ref x1, .int (iz x5)] m J P (fun z10 m7 J8 P9 => PP P9 ∧ Rn X (d + 2) 95 6 [some (.ref 50), some (.ref x1), some (.int (iz x2)), some (.ref x3), some (.ref x4), some (.int (iz z10)), some (.int (iz (x6 + 1))), none] [] (SS m7 J8 P9) (QV post))) ∧ (¬ (0 ≤ (m x1 x5.toNat)) → ((0 : Int) ≤ (((-1)) - (m x1 x5.toNat)) ∧ ((((-1)) - (m x1 x5.toNat)) : Int) < 808) ∧ Zr (zcmp (J 52 (((-1)) - (m x1 x5.toNat)).toNat) (Int64.ofNat 0)) ∧ (((¬ (zcmp (J 52 (((-1)) - (m x1 x5.toNat)).toNat) (Int64.ofNat 0)) = 0) → Ci X (d + 1) 96 [.ref x4, .ref x1, .int (iz x5)] m J P (fun z17 m14 J15 P16 => PP P16 ∧ Rn X (d + 2) 95 6 [some (.ref 50), some (.ref x1), some (.int (iz x2)), some (.ref x3), some (.ref x4), some (.int (iz z17)), some (.int (iz (x6 + 1))), none] [] (SS m14 J15 P16) (QV post))) ∧ (¬ (¬ (zcmp (J 52 (((-1)) - (m x1 x5.toNat)).toNat) (Int64.ofNat 0)) = 0) → ((0 : Int) ≤ x6 ∧ (x6 : Int) < 8) ∧ ((0 : Int) ≤ (((-1)) - (m x1 x5.toNat)) ∧ ((((-1)) - (m x1 x5.toNat)) : Int) < 808) ∧ Ci X (d + 1) 96 [.ref x4, .ref x1, .int (iz x5)] m (mju J 52 (((-1)) - (m x1 x5.toNat)).toNat (J (x3 + 5) x6.toNat)) P (fun z24 m21 J22 P23 => PP P23 ∧ Rn X (d + 2) 95 6 [some (.ref 50), some (.ref x1), some (.int (iz x2)), some (.ref x3), some (.ref x4), some (.int (iz z24)), some (.int (iz (x6 + 1))), none] [] (SS m21 J22 P23) (QV post))))))))))) : Rn X (d + 2) 95 6 [some (.ref 50), some (.ref x1), some (.int (iz x2)), some (.ref x3), some (.ref x4), some (.int (iz x5)), some (.int (iz x6)), none] [] (SS m J P) (QV post) := by
  refine s_iload (pc := 6) rfl rfl ?_
  refine s_aload_n (pc := 8) rfl rfl ?_
  refine s_getI (pc := 9) rfl kx3 ?_
  obtain ⟨hz1, hw⟩ := hw
  obtain ⟨hz2, hw⟩ := hw
  refine s_ic_ge (pc := 12) (tgt := 79) rfl rfl hz1 hz2 (fun hc => ?_) (fun hc => ?_)
  · replace hw := hw.1 hc
    exact s_retv (pc := 79) rfl rfl hw
  · replace hw := hw.2 hc
    refine s_iload (pc := 15) rfl rfl ?_
    refine s_aload_n (pc := 17) rfl rfl ?_
    refine s_alen (pc := 18) rfl kx1 (by decide) ?_
    obtain ⟨hz3, hw⟩ := hw
    obtain ⟨hz4, hw⟩ := hw
    refine s_ic_ge (pc := 19) (tgt := 79) rfl rfl hz3 hz4 (fun hc => ?_) (fun hc => ?_)
    · replace hw := hw.1 hc
      exact s_retv (pc := 79) rfl rfl hw
    · replace hw := hw.2 hc
      refine s_aload_n (pc := 22) rfl rfl ?_
      refine s_iload (pc := 23) rfl rfl ?_
      obtain ⟨hb5, hw⟩ := hw
      refine s_iald (pc := 25) rfl kx1 bx1 hb5 ?_
      refine s_istore (pc := 26) (L' := [some (.ref 50), some (.ref x1), some (.int (iz x2)), some (.ref x3), some (.ref x4), some (.int (iz x5)), some (.int (iz x6)), some (.int (iz (m x1 x5.toNat)))]) rfl (Nat.le_of_ble_eq_true rfl) rfl ?_
      refine s_iload (pc := 28) rfl rfl ?_
      obtain ⟨hz6, hw⟩ := hw
      refine s_if_ge (pc := 30) (tgt := 63) rfl rfl hz6 (fun hc => ?_) (fun hc => ?_)
      · replace hw := hw.1 hc
        refine s_aload (pc := 63) rfl rfl ?_
        refine s_aload_n (pc := 65) rfl rfl ?_
        refine s_iload (pc := 66) rfl rfl ?_
        refine s_ci (pc := 68) (d := (d + 1)) (t := []) rfl rfl (am_ca_v (ps := [.int (iz x5), .ref x1]) rfl kx4) (Nat.le_of_ble_eq_true rfl) (Ci.weak hw fun z10 m7 J8 P9 hw => ?_)
        obtain ⟨hp11, hw⟩ := hw
        refine s_istore (pc := 71) (L' := [some (.ref 50), some (.ref x1), some (.int (iz x2)), some (.ref x3), some (.ref x4), some (.int (iz z10)), some (.int (iz x6)), some (.int (iz (m x1 x5.toNat)))]) rfl (Nat.le_of_ble_eq_true rfl) rfl ?_
        refine s_iinc (pc := 73) (L' := [some (.ref 50), some (.ref x1), some (.int (iz x2)), some (.ref x3), some (.ref x4), some (.int (iz z10)), some (.int (iz (x6 + 1))), some (.int (iz (m x1 x5.toNat)))]) rfl rfl (Nat.le_of_ble_eq_true rfl) rfl ?_
        refine s_goto (pc := 76) (tgt := 6) rfl rfl ?_
        exact Rn.weakL hw (LLe.keep _ (LLe.keep _ (LLe.keep _ (LLe.keep _ (LLe.keep _ (LLe.keep _ (LLe.keep _ (LLe.drop _ (LLe.nil)))))))))
      · replace hw := hw.2 hc
        refine s_aload_n (pc := 33) rfl rfl ?_
        refine s_getA (pc := 34) rfl ko_50 (po_50_2 hp) ?_
        refine s_iconst (pc := 37) rfl ?_
        refine s_iload (pc := 38) rfl rfl ?_
        refine s_isub (pc := 40) rfl ?_
        obtain ⟨hb12, hw⟩ := hw
        refine s_lald (pc := 41) rfl ka_52 (by decide) hb12 ?_
        refine s_lconst (pc := 42) rfl ?_
        refine s_lcmp (pc := 43) rfl ?_
        obtain ⟨hz13, hw⟩ := hw
        refine s_if_ne (pc := 44) (tgt := 63) rfl rfl hz13 (fun hc => ?_) (fun hc => ?_)
        · replace hw := hw.1 hc
          refine s_aload (pc := 63) rfl rfl ?_
          refine s_aload_n (pc := 65) rfl rfl ?_
          refine s_iload (pc := 66) rfl rfl ?_
          refine s_ci (pc := 68) (d := (d + 1)) (t := []) rfl rfl (am_ca_v (ps := [.int (iz x5), .ref x1]) rfl kx4) (Nat.le_of_ble_eq_true rfl) (Ci.weak hw fun z17 m14 J15 P16 hw => ?_)
          obtain ⟨hp18, hw⟩ := hw
          refine s_istore (pc := 71) (L' := [some (.ref 50), some (.ref x1), some (.int (iz x2)), some (.ref x3), some (.ref x4), some (.int (iz z17)), some (.int (iz x6)), some (.int (iz (m x1 x5.toNat)))]) rfl (Nat.le_of_ble_eq_true rfl) rfl ?_
          refine s_iinc (pc := 73) (L' := [some (.ref 50), some (.ref x1), some (.int (iz x2)), some (.ref x3), some (.ref x4), some (.int (iz z17)), some (.int (iz (x6 + 1))), some (.int (iz (m x1 x5.toNat)))]) rfl rfl (Nat.le_of_ble_eq_true rfl) rfl ?_
          refine s_goto (pc := 76) (tgt := 6) rfl rfl ?_
          exact Rn.weakL hw (LLe.keep _ (LLe.keep _ (LLe.keep _ (LLe.keep _ (LLe.keep _ (LLe.keep _ (LLe.keep _ (LLe.drop _ (LLe.nil)))))))))
        · replace hw := hw.2 hc
          refine s_aload_n (pc := 47) rfl rfl ?_
          refine s_getA (pc := 48) rfl ko_50 (po_50_2 hp) ?_
          refine s_iconst (pc := 51) rfl ?_
          refine s_iload (pc := 52) rfl rfl ?_
          refine s_isub (pc := 54) rfl ?_
          refine s_aload_n (pc := 55) rfl rfl ?_
          refine s_getA (pc := 56) rfl kx3 (pc_8_4 hp kx3) ?_
          refine s_iload (pc := 59) rfl rfl ?_
          obtain ⟨hb19, hw⟩ := hw
          refine s_lald (pc := 61) rfl (kc_8_4 kx3) (by decide) hb19 ?_
          obtain ⟨hb20, hw⟩ := hw
          refine s_last (pc := 62) rfl ka_52 (by decide) hb20 ?_
          refine s_aload (pc := 63) rfl rfl ?_
          refine s_aload_n (pc := 65) rfl rfl ?_
          refine s_iload (pc := 66) rfl rfl ?_
          refine s_ci (pc := 68) (d := (d + 1)) (t := []) rfl rfl (am_ca_v (ps := [.int (iz x5), .ref x1]) rfl kx4) (Nat.le_of_ble_eq_true rfl) (Ci.weak hw fun z24 m21 J22 P23 hw => ?_)
          obtain ⟨hp25, hw⟩ := hw
          refine s_istore (pc := 71) (L' := [some (.ref 50), some (.ref x1), some (.int (iz x2)), some (.ref x3), some (.ref x4), some (.int (iz z24)), some (.int (iz x6)), some (.int (iz (m x1 x5.toNat)))]) rfl (Nat.le_of_ble_eq_true rfl) rfl ?_
          refine s_iinc (pc := 73) (L' := [some (.ref 50), some (.ref x1), some (.int (iz x2)), some (.ref x3), some (.ref x4), some (.int (iz z24)), some (.int (iz (x6 + 1))), some (.int (iz (m x1 x5.toNat)))]) rfl rfl (Nat.le_of_ble_eq_true rfl) rfl ?_
          refine s_goto (pc := 76) (tgt := 6) rfl rfl ?_
          exact Rn.weakL hw (LLe.keep _ (LLe.keep _ (LLe.keep _ (LLe.keep _ (LLe.keep _ (LLe.keep _ (LLe.keep _ (LLe.drop _ (LLe.nil)))))))))

set_option maxRecDepth 20000 in
set_option maxHeartbeats 4000000 in
theorem b_Book_behind_0 {X : aX} {d : Nat} (x0 : Nat) (x1 nx1 : Nat) (x2 : Int) (kx0 : am_kd an_K x0 = some (.inl 10)) (kx1 : am_kd an_K x1 = some (.inr (0, nx1))) (bx1 : nx1 ≤ 100000) (m : Mi) (J : Mj) (P : Mp) (hp : PP P) (post : Int → Mi → Mj → Mp → Prop)
    (hw : Rn X (d + 1) 96 5 [some (.ref x0), some (.ref x1), some (.int (iz x2)), some (.int (iz x2)), some (.int (iz 1))] [] (SS m J P) (QI post)) : Rn X (d + 1) 96 0 [some (.ref x0), some (.ref x1), some (.int (iz x2)), none, none] [] (SS m J P) (QI post) := by
  refine s_iload_n (pc := 0) rfl rfl ?_
  refine s_istore_n (pc := 1) (L' := [some (.ref x0), some (.ref x1), some (.int (iz x2)), some (.int (iz x2)), none]) rfl (Nat.le_of_ble_eq_true rfl) rfl ?_
  refine s_iconst (pc := 2) rfl ?_
  refine s_istore (pc := 3) (L' := [some (.ref x0), some (.ref x1), some (.int (iz x2)), some (.int (iz x2)), some (.int (iz 1))]) rfl (Nat.le_of_ble_eq_true rfl) rfl ?_
  exact hw

set_option maxRecDepth 20000 in
set_option maxHeartbeats 4000000 in
theorem b_Book_behind_5 {X : aX} {d : Nat} (x0 : Nat) (x1 nx1 : Nat) (x2 : Int) (x3 : Int) (x4 : Int) (kx0 : am_kd an_K x0 = some (.inl 10)) (kx1 : am_kd an_K x1 = some (.inr (0, nx1))) (bx1 : nx1 ≤ 100000) (m : Mi) (J : Mj) (P : Mp) (hp : PP P) (post : Int → Mi → Mj → Mp → Prop)
    (hw : Zr (x4) ∧ (((x4 ≤ 0) → post x3 m J P) ∧ (¬ (x4 ≤ 0) → Zr (x3) ∧ Zr ((nx1 : Int)) ∧ (((((nx1 : Int)) ≤ x3) → post x3 m J P) ∧ (¬ (((nx1 : Int)) ≤ x3) → ((0 : Int) ≤ x3 ∧ (x3 : Int) < nx1) ∧ Ci X d 40 [.ref x0, .int (iz (m x1 x3.toNat))] m J P (fun z8 m5 J6 P7 => PP P7 ∧ Rn X (d + 1) 96 5 [some (.ref x0), some (.ref x1), some (.int (iz x2)), some (.int (iz (x3 + 1))), some (.int (iz (x4 + (z8 - 1))))] [] (SS m5 J6 P7) (QI post))))))) : Rn X (d + 1) 96 5 [some (.ref x0), some (.ref x1), some (.int (iz x2)), some (.int (iz x3)), some (.int (iz x4))] [] (SS m J P) (QI post) := by
  refine s_iload (pc := 5) rfl rfl ?_
  obtain ⟨hz1, hw⟩ := hw
  refine s_if_le (pc := 7) (tgt := 36) rfl rfl hz1 (fun hc => ?_) (fun hc => ?_)
  · replace hw := hw.1 hc
    refine s_iload_n (pc := 36) rfl rfl ?_
    exact s_reti (pc := 37) rfl rfl hw
  · replace hw := hw.2 hc
    refine s_iload_n (pc := 10) rfl rfl ?_
    refine s_aload_n (pc := 11) rfl rfl ?_
    refine s_alen (pc := 12) rfl kx1 (by decide) ?_
    obtain ⟨hz2, hw⟩ := hw
    obtain ⟨hz3, hw⟩ := hw
    refine s_ic_ge (pc := 13) (tgt := 36) rfl rfl hz2 hz3 (fun hc => ?_) (fun hc => ?_)
    · replace hw := hw.1 hc
      refine s_iload_n (pc := 36) rfl rfl ?_
      exact s_reti (pc := 37) rfl rfl hw
    · replace hw := hw.2 hc
      refine s_iload (pc := 16) rfl rfl ?_
      refine s_aload_n (pc := 18) rfl rfl ?_
      refine s_aload_n (pc := 19) rfl rfl ?_
      refine s_iload_n (pc := 20) rfl rfl ?_
      obtain ⟨hb4, hw⟩ := hw
      refine s_iald (pc := 21) rfl kx1 bx1 hb4 ?_
      refine s_ci (pc := 22) (d := d) (t := [.int (iz x4)]) rfl rfl (am_ca_v (ps := [.int (iz (m x1 x3.toNat))]) rfl kx0) (Nat.le_of_ble_eq_true rfl) (Ci.weak hw fun z8 m5 J6 P7 hw => ?_)
      obtain ⟨hp9, hw⟩ := hw
      refine s_iconst (pc := 25) rfl ?_
      refine s_isub (pc := 26) rfl ?_
      refine s_iadd (pc := 27) rfl ?_
      refine s_istore (pc := 28) (L' := [some (.ref x0), some (.ref x1), some (.int (iz x2)), some (.int (iz x3)), some (.int (iz (x4 + (z8 - 1))))]) rfl (Nat.le_of_ble_eq_true rfl) rfl ?_
      refine s_iinc (pc := 30) (L' := [some (.ref x0), some (.ref x1), some (.int (iz x2)), some (.int (iz (x3 + 1))), some (.int (iz (x4 + (z8 - 1))))]) rfl rfl (Nat.le_of_ble_eq_true rfl) rfl ?_
      refine s_goto (pc := 33) (tgt := 5) rfl rfl ?_
      exact hw

set_option maxRecDepth 20000 in
set_option maxHeartbeats 4000000 in
theorem b_Nh_goal_0 {X : aX} {d : Nat} (x1 : Int) (x2 : Int)  (m : Mi) (J : Mj) (P : Mp) (hp : PP P) (post : Int → Mi → Mj → Mp → Prop)
    (hw : Zr (m 1 11) ∧ ((((m 1 11) = 0) → post ((-1)) m J P) ∧ (¬ ((m 1 11) = 0) → Ci X (d + 6) 15 [.ref 2, .int (iz x1)] m J P (fun z5 m2 J3 P4 => PP P4 ∧ Zr (z5) ∧ (((z5 = 0) → (∃ q8, P4 1 8 = some q8 ∧ am_kd an_K q8 = some (.inl 10) ∧ (∃ q9, P4 1 10 = some q9 ∧ am_kd an_K q9 = some (.inl 8) ∧ Ci X (d + 6) 91 [.ref 4, .int (iz x1), .ref q8, .ref q9] m2 J3 P4 (fun z13 m10 J11 P12 => PP P12 ∧ Zr (z13) ∧ (((z13 = 0) → (∃ q16, P12 38 2 = some q16 ∧ am_kd an_K q16 = some (.inl 8) ∧ (∃ q17, P12 1 10 = some q17 ∧ am_kd an_K q17 = some (.inl 8) ∧ PP (mpu P12 38 2 (some q17)) ∧ PP (mpu (mpu P12 38 2 (some q17)) 1 10 (some q16)) ∧ (∃ q20, (mpu (mpu P12 38 2 (some q17)) 1 10 (some q16)) 1 8 = some q20 ∧ am_kd an_K q20 = some (.inl 10) ∧ Cv X (d + 6) 98 [.ref 38, .int (iz x2), .ref q20] m10 J11 (mpu (mpu P12 38 2 (some q17)) 1 10 (some q16)) (fun m21 J22 P23 => PP P23 ∧ post 0 m21 J22 P23))))) ∧ (¬ (z13 = 0) → post (m10 4 3) m10 J11 P12)))))) ∧ (¬ (z5 = 0) → post ((-1)) m2 J3 P4)))))) : Rn X (d + 7) 97 0 [some (.ref 1), some (.int (iz x1)), some (.int (iz x2)), none] [] (SS m J P) (QI post) := by
  refine s_aload_n (pc := 0) rfl rfl ?_
  refine s_getZ (pc := 1) rfl ko_1 ?_
  obtain ⟨hz1, hw⟩ := hw
  refine s_if_eq (pc := 4) (tgt := 18) rfl rfl hz1 (fun hc => ?_) (fun hc => ?_)
  · replace hw := hw.1 hc
    refine s_iconst (pc := 18) rfl ?_
    exact s_reti (pc := 19) rfl rfl hw
  · replace hw := hw.2 hc
    refine s_aload_n (pc := 7) rfl rfl ?_
    refine s_getA (pc := 8) rfl ko_1 (po_1_0 hp) ?_
    refine s_iload_n (pc := 11) rfl rfl ?_
    refine s_ci (pc := 12) (d := (d + 6)) (t := []) rfl rfl (am_ca_v (ps := [.int (iz x1)]) rfl ko_2) (Nat.le_of_ble_eq_true rfl) (Ci.weak hw fun z5 m2 J3 P4 hw => ?_)
    obtain ⟨hp6, hw⟩ := hw
    obtain ⟨hz7, hw⟩ := hw
    refine s_if_eq (pc := 15) (tgt := 20) rfl rfl hz7 (fun hc => ?_) (fun hc => ?_)
    · replace hw := hw.1 hc
      refine s_aload_n (pc := 20) rfl rfl ?_
      refine s_getA (pc := 21) rfl ko_1 (po_1_1 hp6) ?_
      refine s_iload_n (pc := 24) rfl rfl ?_
      refine s_aload_n (pc := 25) rfl rfl ?_
      obtain ⟨q8, hq8, kq8, hw⟩ := hw
      refine s_getA (pc := 26) rfl ko_1 hq8 ?_
      refine s_aload_n (pc := 29) rfl rfl ?_
      obtain ⟨q9, hq9, kq9, hw⟩ := hw
      refine s_getA (pc := 30) rfl ko_1 hq9 ?_
      refine s_ci (pc := 33) (d := (d + 6)) (t := []) rfl rfl (am_ca_v (ps := [.ref q9, .ref q8, .int (iz x1)]) rfl ko_4) (Nat.le_of_ble_eq_true rfl) (Ci.weak hw fun z13 m10 J11 P12 hw => ?_)
      obtain ⟨hp14, hw⟩ := hw
      obtain ⟨hz15, hw⟩ := hw
      refine s_if_eq (pc := 36) (tgt := 47) rfl rfl hz15 (fun hc => ?_) (fun hc => ?_)
      · replace hw := hw.1 hc
        refine s_aload_n (pc := 47) rfl rfl ?_
        refine s_getA (pc := 48) rfl ko_1 (po_1_6 hp14) ?_
        obtain ⟨q16, hq16, kq16, hw⟩ := hw
        refine s_getA (pc := 51) rfl ko_38 hq16 ?_
        refine s_astore_n (pc := 54) (L' := [some (.ref 1), some (.int (iz x1)), some (.int (iz x2)), some (.ref q16)]) rfl (Nat.le_of_ble_eq_true rfl) rfl ?_
        refine s_aload_n (pc := 55) rfl rfl ?_
        refine s_getA (pc := 56) rfl ko_1 (po_1_6 hp14) ?_
        refine s_aload_n (pc := 59) rfl rfl ?_
        obtain ⟨q17, hq17, kq17, hw⟩ := hw
        refine s_getA (pc := 60) rfl ko_1 hq17 ?_
        refine s_putA (pc := 63) rfl ko_38 ?_
        obtain ⟨hp18, hw⟩ := hw
        refine s_aload_n (pc := 66) rfl rfl ?_
        refine s_aload_n (pc := 67) rfl rfl ?_
        refine s_putA (pc := 68) rfl ko_1 ?_
        obtain ⟨hp19, hw⟩ := hw
        refine s_aload_n (pc := 71) rfl rfl ?_
        refine s_getA (pc := 72) rfl ko_1 (po_1_6 hp19) ?_
        refine s_iload_n (pc := 75) rfl rfl ?_
        refine s_aload_n (pc := 76) rfl rfl ?_
        obtain ⟨q20, hq20, kq20, hw⟩ := hw
        refine s_getA (pc := 77) rfl ko_1 hq20 ?_
        refine s_cv (pc := 80) (d := (d + 6)) (t := []) rfl rfl (am_ca_v (ps := [.ref q20, .int (iz x2)]) rfl ko_38) (Nat.le_of_ble_eq_true rfl) (Cv.weak hw fun m21 J22 P23 hw => ?_)
        obtain ⟨hp25, hw⟩ := hw
        refine s_iconst (pc := 83) rfl ?_
        exact s_reti (pc := 84) rfl rfl hw
      · replace hw := hw.2 hc
        refine s_aload_n (pc := 39) rfl rfl ?_
        refine s_getA (pc := 40) rfl ko_1 (po_1_1 hp14) ?_
        refine s_getI (pc := 43) rfl ko_4 ?_
        exact s_reti (pc := 46) rfl rfl hw
    · replace hw := hw.2 hc
      refine s_iconst (pc := 18) rfl ?_
      exact s_reti (pc := 19) rfl rfl hw

set_option maxRecDepth 20000 in
set_option maxHeartbeats 4000000 in
theorem b_Tree_plant_0 {X : aX} {d : Nat} (x1 : Int) (x2 : Nat) (kx2 : am_kd an_K x2 = some (.inl 10)) (m : Mi) (J : Mj) (P : Mp) (hp : PP P) (post : Mi → Mj → Mp → Prop)
    (hw : Zr (x1) ∧ (((x1 = 0) → (∃ q2, P 38 2 = some q2 ∧ am_kd an_K q2 = some (.inl 8) ∧ Cv X (d + 3) 92 [.ref 8, .ref q2, .int (iz 32)] (mu (mu (mu (mu (mu (mu (mu (mu m 38 8 1) 38 9 0) 38 10 1) 38 11 0) 38 12 0) 38 13 0) 38 14 0) 38 15 0) J P (fun m3 J4 P5 => PP P5 ∧ (∃ q8, P5 38 2 = some q8 ∧ am_kd an_K q8 = some (.inl 8) ∧ (∃ q9, P5 38 2 = some q9 ∧ am_kd an_K q9 = some (.inl 8) ∧ (∃ q10, P5 38 2 = some q10 ∧ am_kd an_K q10 = some (.inl 8) ∧ Ci X (d + 3) 99 [.ref 38, .int (iz (m3 q8 5)), .int (iz ((m3 q9 6) - (m3 q10 5))), .int (iz ((-1)))] m3 J4 P5 (fun z14 m11 J12 P13 => PP P13 ∧ Cv X (d + 3) 101 [.ref 38, .int (iz 0), .int (iz ((-1))), .int (iz ((-1)))] m11 J12 P13 (fun m16 J17 P18 => PP P18 ∧ Ci X (d + 3) 102 [.ref 38, .int (iz 0), .ref x2] m16 J17 P18 (fun z24 m21 J22 P23 => PP P23 ∧ post m21 J22 P23))))))))) ∧ (¬ (x1 = 0) → (∃ q26, P 38 2 = some q26 ∧ am_kd an_K q26 = some (.inl 8) ∧ Cv X (d + 3) 92 [.ref 8, .ref q26, .int (iz 32)] (mu (mu (mu (mu (mu (mu (mu (mu m 38 8 1) 38 9 0) 38 10 2) 38 11 0) 38 12 0) 38 13 0) 38 14 0) 38 15 0) J P (fun m27 J28 P29 => PP P29 ∧ (∃ q32, P29 38 2 = some q32 ∧ am_kd an_K q32 = some (.inl 8) ∧ (∃ q33, P29 38 2 = some q33 ∧ am_kd an_K q33 = some (.inl 8) ∧ (∃ q34, P29 38 2 = some q34 ∧ am_kd an_K q34 = some (.inl 8) ∧ Ci X (d + 3) 99 [.ref 38, .int (iz (m27 q32 5)), .int (iz ((m27 q33 6) - (m27 q34 5))), .int (iz ((-1)))] m27 J28 P29 (fun z38 m35 J36 P37 => PP P37 ∧ Cv X (d + 3) 101 [.ref 38, .int (iz 0), .int (iz ((-1))), .int (iz ((-1)))] m35 J36 P37 (fun m40 J41 P42 => PP P42 ∧ Ci X (d + 3) 102 [.ref 38, .int (iz 0), .ref x2] m40 J41 P42 (fun z48 m45 J46 P47 => PP P47 ∧ post m45 J46 P47))))))))))) : Rn X (d + 4) 98 0 [some (.ref 38), some (.int (iz x1)), some (.ref x2)] [] (SS m J P) (QV post) := by
  refine s_aload_n (pc := 0) rfl rfl ?_
  refine s_iconst (pc := 1) rfl ?_
  refine s_putZ (pc := 2) rfl ko_38 (by decide) ?_
  refine s_aload_n (pc := 5) rfl rfl ?_
  refine s_iconst (pc := 6) rfl ?_
  refine s_putZ (pc := 7) rfl ko_38 (by decide) ?_
  refine s_aload_n (pc := 10) rfl rfl ?_
  refine s_iload_n (pc := 11) rfl rfl ?_
  obtain ⟨hz1, hw⟩ := hw
  refine s_if_eq (pc := 12) (tgt := 19) rfl rfl hz1 (fun hc => ?_) (fun hc => ?_)
  · replace hw := hw.1 hc
    refine s_iconst (pc := 19) rfl ?_
    refine s_putI (pc := 20) rfl ko_38 ?_
    refine s_aload_n (pc := 23) rfl rfl ?_
    refine s_iconst (pc := 24) rfl ?_
    refine s_putI (pc := 25) rfl ko_38 ?_
    refine s_aload_n (pc := 28) rfl rfl ?_
    refine s_iconst (pc := 29) rfl ?_
    refine s_putI (pc := 30) rfl ko_38 ?_
    refine s_aload_n (pc := 33) rfl rfl ?_
    refine s_iconst (pc := 34) rfl ?_
    refine s_putI (pc := 35) rfl ko_38 ?_
    refine s_aload_n (pc := 38) rfl rfl ?_
    refine s_iconst (pc := 39) rfl ?_
    refine s_putI (pc := 40) rfl ko_38 ?_
    refine s_aload_n (pc := 43) rfl rfl ?_
    refine s_iconst (pc := 44) rfl ?_
    refine s_putI (pc := 45) rfl ko_38 ?_
    refine s_aload_n (pc := 48) rfl rfl ?_
    refine s_getA (pc := 49) rfl ko_38 (po_38_0 hp) ?_
    refine s_aload_n (pc := 52) rfl rfl ?_
    obtain ⟨q2, hq2, kq2, hw⟩ := hw
    refine s_getA (pc := 53) rfl ko_38 hq2 ?_
    refine s_bipush (pc := 56) rfl (by decide) ?_
    refine s_cv (pc := 58) (d := (d + 3)) (t := []) rfl rfl (am_ca_v (ps := [.int (iz 32), .ref q2]) rfl (by decide +kernel)) (Nat.le_of_ble_eq_true rfl) (Cv.weak hw fun m3 J4 P5 hw => ?_)
    obtain ⟨hp7, hw⟩ := hw
    refine s_aload_n (pc := 61) rfl rfl ?_
    refine s_aload_n (pc := 62) rfl rfl ?_
    obtain ⟨q8, hq8, kq8, hw⟩ := hw
    refine s_getA (pc := 63) rfl ko_38 hq8 ?_
    refine s_getI (pc := 66) rfl kq8 ?_
    refine s_aload_n (pc := 69) rfl rfl ?_
    obtain ⟨q9, hq9, kq9, hw⟩ := hw
    refine s_getA (pc := 70) rfl ko_38 hq9 ?_
    refine s_getI (pc := 73) rfl kq9 ?_
    refine s_aload_n (pc := 76) rfl rfl ?_
    obtain ⟨q10, hq10, kq10, hw⟩ := hw
    refine s_getA (pc := 77) rfl ko_38 hq10 ?_
    refine s_getI (pc := 80) rfl kq10 ?_
    refine s_isub (pc := 83) rfl ?_
    refine s_iconst (pc := 84) rfl ?_
    refine s_ci (pc := 85) (d := (d + 3)) (t := []) rfl rfl (am_ca_v (ps := [.int (iz ((-1))), .int (iz ((m3 q9 6) - (m3 q10 5))), .int (iz (m3 q8 5))]) rfl ko_38) (Nat.le_of_ble_eq_true rfl) (Ci.weak hw fun z14 m11 J12 P13 hw => ?_)
    obtain ⟨hp15, hw⟩ := hw
    refine s_pop (pc := 88) rfl rfl ?_
    refine s_aload_n (pc := 89) rfl rfl ?_
    refine s_iconst (pc := 90) rfl ?_
    refine s_iconst (pc := 91) rfl ?_
    refine s_iconst (pc := 92) rfl ?_
    refine s_cv (pc := 93) (d := (d + 3)) (t := []) rfl rfl (am_ca_v (ps := [.int (iz ((-1))), .int (iz ((-1))), .int (iz 0)]) rfl ko_38) (Nat.le_of_ble_eq_true rfl) (Cv.weak hw fun m16 J17 P18 hw => ?_)
    obtain ⟨hp20, hw⟩ := hw
    refine s_aload_n (pc := 96) rfl rfl ?_
    refine s_iconst (pc := 97) rfl ?_
    refine s_aload_n (pc := 98) rfl rfl ?_
    refine s_ci (pc := 99) (d := (d + 3)) (t := []) rfl rfl (am_ca_v (ps := [.ref x2, .int (iz 0)]) rfl ko_38) (Nat.le_of_ble_eq_true rfl) (Ci.weak hw fun z24 m21 J22 P23 hw => ?_)
    obtain ⟨hp25, hw⟩ := hw
    refine s_pop (pc := 102) rfl rfl ?_
    exact s_retv (pc := 103) rfl rfl hw
  · replace hw := hw.2 hc
    refine s_iconst (pc := 15) rfl ?_
    refine s_goto (pc := 16) (tgt := 20) rfl rfl ?_
    refine s_putI (pc := 20) rfl ko_38 ?_
    refine s_aload_n (pc := 23) rfl rfl ?_
    refine s_iconst (pc := 24) rfl ?_
    refine s_putI (pc := 25) rfl ko_38 ?_
    refine s_aload_n (pc := 28) rfl rfl ?_
    refine s_iconst (pc := 29) rfl ?_
    refine s_putI (pc := 30) rfl ko_38 ?_
    refine s_aload_n (pc := 33) rfl rfl ?_
    refine s_iconst (pc := 34) rfl ?_
    refine s_putI (pc := 35) rfl ko_38 ?_
    refine s_aload_n (pc := 38) rfl rfl ?_
    refine s_iconst (pc := 39) rfl ?_
    refine s_putI (pc := 40) rfl ko_38 ?_
    refine s_aload_n (pc := 43) rfl rfl ?_
    refine s_iconst (pc := 44) rfl ?_
    refine s_putI (pc := 45) rfl ko_38 ?_
    refine s_aload_n (pc := 48) rfl rfl ?_
    refine s_getA (pc := 49) rfl ko_38 (po_38_0 hp) ?_
    refine s_aload_n (pc := 52) rfl rfl ?_
    obtain ⟨q26, hq26, kq26, hw⟩ := hw
    refine s_getA (pc := 53) rfl ko_38 hq26 ?_
    refine s_bipush (pc := 56) rfl (by decide) ?_
    refine s_cv (pc := 58) (d := (d + 3)) (t := []) rfl rfl (am_ca_v (ps := [.int (iz 32), .ref q26]) rfl (by decide +kernel)) (Nat.le_of_ble_eq_true rfl) (Cv.weak hw fun m27 J28 P29 hw => ?_)
    obtain ⟨hp31, hw⟩ := hw
    refine s_aload_n (pc := 61) rfl rfl ?_
    refine s_aload_n (pc := 62) rfl rfl ?_
    obtain ⟨q32, hq32, kq32, hw⟩ := hw
    refine s_getA (pc := 63) rfl ko_38 hq32 ?_
    refine s_getI (pc := 66) rfl kq32 ?_
    refine s_aload_n (pc := 69) rfl rfl ?_
    obtain ⟨q33, hq33, kq33, hw⟩ := hw
    refine s_getA (pc := 70) rfl ko_38 hq33 ?_
    refine s_getI (pc := 73) rfl kq33 ?_
    refine s_aload_n (pc := 76) rfl rfl ?_
    obtain ⟨q34, hq34, kq34, hw⟩ := hw
    refine s_getA (pc := 77) rfl ko_38 hq34 ?_
    refine s_getI (pc := 80) rfl kq34 ?_
    refine s_isub (pc := 83) rfl ?_
    refine s_iconst (pc := 84) rfl ?_
    refine s_ci (pc := 85) (d := (d + 3)) (t := []) rfl rfl (am_ca_v (ps := [.int (iz ((-1))), .int (iz ((m27 q33 6) - (m27 q34 5))), .int (iz (m27 q32 5))]) rfl ko_38) (Nat.le_of_ble_eq_true rfl) (Ci.weak hw fun z38 m35 J36 P37 hw => ?_)
    obtain ⟨hp39, hw⟩ := hw
    refine s_pop (pc := 88) rfl rfl ?_
    refine s_aload_n (pc := 89) rfl rfl ?_
    refine s_iconst (pc := 90) rfl ?_
    refine s_iconst (pc := 91) rfl ?_
    refine s_iconst (pc := 92) rfl ?_
    refine s_cv (pc := 93) (d := (d + 3)) (t := []) rfl rfl (am_ca_v (ps := [.int (iz ((-1))), .int (iz ((-1))), .int (iz 0)]) rfl ko_38) (Nat.le_of_ble_eq_true rfl) (Cv.weak hw fun m40 J41 P42 hw => ?_)
    obtain ⟨hp44, hw⟩ := hw
    refine s_aload_n (pc := 96) rfl rfl ?_
    refine s_iconst (pc := 97) rfl ?_
    refine s_aload_n (pc := 98) rfl rfl ?_
    refine s_ci (pc := 99) (d := (d + 3)) (t := []) rfl rfl (am_ca_v (ps := [.ref x2, .int (iz 0)]) rfl ko_38) (Nat.le_of_ble_eq_true rfl) (Ci.weak hw fun z48 m45 J46 P47 hw => ?_)
    obtain ⟨hp49, hw⟩ := hw
    refine s_pop (pc := 102) rfl rfl ?_
    exact s_retv (pc := 103) rfl rfl hw

set_option maxRecDepth 20000 in
set_option maxHeartbeats 4000000 in
theorem b_Tree_addNode_0 {X : aX} {d : Nat} (x1 : Int) (x2 : Int) (x3 : Int)  (m : Mi) (J : Mj) (P : Mp) (hp : PP P) (post : Int → Mi → Mj → Mp → Prop)
    (hw : ((0 : Int) ≤ (((m 38 11) * 9) + 0) ∧ ((((m 38 11) * 9) + 0) : Int) < 9000) ∧ Zr (x3) ∧ (((¬ x3 = ((-1))) → ((0 : Int) ≤ ((x3 * 9) + 3) ∧ (((x3 * 9) + 3) : Int) < 9000) ∧ ((0 : Int) ≤ (((m 38 11) * 9) + 3) ∧ ((((m 38 11) * 9) + 3) : Int) < 9000) ∧ ((0 : Int) ≤ (((m 38 11) * 9) + 4) ∧ ((((m 38 11) * 9) + 4) : Int) < 9000) ∧ ((0 : Int) ≤ (((m 38 11) * 9) + 5) ∧ ((((m 38 11) * 9) + 5) : Int) < 9000) ∧ ((0 : Int) ≤ (((m 38 11) * 9) + 6) ∧ ((((m 38 11) * 9) + 6) : Int) < 9000) ∧ ((0 : Int) ≤ (((m 38 11) * 9) + 7) ∧ ((((m 38 11) * 9) + 7) : Int) < 9000) ∧ ((0 : Int) ≤ (((m 38 11) * 9) + 8) ∧ ((((m 38 11) * 9) + 8) : Int) < 9000) ∧ Cv X (d + 1) 100 [.ref 38, .ref 8] (mu (mu (mu (mu (mu (mu (mu m 46 (((m 38 11) * 9) + 0).toNat x3) 46 (((m 38 11) * 9) + 3).toNat (((mu m 46 (((m 38 11) * 9) + 0).toNat x3) 46 ((x3 * 9) + 3).toNat) + 1)) 46 (((m 38 11) * 9) + 4).toNat x1) 46 (((m 38 11) * 9) + 5).toNat x2) 46 (((m 38 11) * 9) + 6).toNat ((-1))) 46 (((m 38 11) * 9) + 7).toNat ((mu (mu (mu (mu (mu m 46 (((m 38 11) * 9) + 0).toNat x3) 46 (((m 38 11) * 9) + 3).toNat (((mu m 46 (((m 38 11) * 9) + 0).toNat x3) 46 ((x3 * 9) + 3).toNat) + 1)) 46 (((m 38 11) * 9) + 4).toNat x1) 46 (((m 38 11) * 9) + 5).toNat x2) 46 (((m 38 11) * 9) + 6).toNat ((-1))) 38 15)) 46 (((m 38 11) * 9) + 8).toNat ((mu (mu (mu (mu (mu (mu m 46 (((m 38 11) * 9) + 0).toNat x3) 46 (((m 38 11) * 9) + 3).toNat (((mu m 46 (((m 38 11) * 9) + 0).toNat x3) 46 ((x3 * 9) + 3).toNat) + 1)) 46 (((m 38 11) * 9) + 4).toNat x1) 46 (((m 38 11) * 9) + 5).toNat x2) 46 (((m 38 11) * 9) + 6).toNat ((-1))) 46 (((m 38 11) * 9) + 7).toNat ((mu (mu (mu (mu (mu m 46 (((m 38 11) * 9) + 0).toNat x3) 46 (((m 38 11) * 9) + 3).toNat (((mu m 46 (((m 38 11) * 9) + 0).toNat x3) 46 ((x3 * 9) + 3).toNat) + 1)) 46 (((m 38 11) * 9) + 4).toNat x1) 46 (((m 38 11) * 9) + 5).toNat x2) 46 (((m 38 11) * 9) + 6).toNat ((-1))) 38 15)) 8 12)) J P (fun m10 J11 P12 => PP P12 ∧ post (((mu m10 38 11 ((m10 38 11) + 1)) 38 11) - 1) (mu m10 38 11 ((m10 38 11) + 1)) J11 P12)) ∧ (¬ (¬ x3 = ((-1))) → ((0 : Int) ≤ (((m 38 11) * 9) + 3) ∧ ((((m 38 11) * 9) + 3) : Int) < 9000) ∧ ((0 : Int) ≤ (((m 38 11) * 9) + 4) ∧ ((((m 38 11) * 9) + 4) : Int) < 9000) ∧ ((0 : Int) ≤ (((m 38 11) * 9) + 5) ∧ ((((m 38 11) * 9) + 5) : Int) < 9000) ∧ ((0 : Int) ≤ (((m 38 11) * 9) + 6) ∧ ((((m 38 11) * 9) + 6) : Int) < 9000) ∧ ((0 : Int) ≤ (((m 38 11) * 9) + 7) ∧ ((((m 38 11) * 9) + 7) : Int) < 9000) ∧ ((0 : Int) ≤ (((m 38 11) * 9) + 8) ∧ ((((m 38 11) * 9) + 8) : Int) < 9000) ∧ Cv X (d + 1) 100 [.ref 38, .ref 8] (mu (mu (mu (mu (mu (mu (mu m 46 (((m 38 11) * 9) + 0).toNat x3) 46 (((m 38 11) * 9) + 3).toNat 0) 46 (((m 38 11) * 9) + 4).toNat x1) 46 (((m 38 11) * 9) + 5).toNat x2) 46 (((m 38 11) * 9) + 6).toNat ((-1))) 46 (((m 38 11) * 9) + 7).toNat ((mu (mu (mu (mu (mu m 46 (((m 38 11) * 9) + 0).toNat x3) 46 (((m 38 11) * 9) + 3).toNat 0) 46 (((m 38 11) * 9) + 4).toNat x1) 46 (((m 38 11) * 9) + 5).toNat x2) 46 (((m 38 11) * 9) + 6).toNat ((-1))) 38 15)) 46 (((m 38 11) * 9) + 8).toNat ((mu (mu (mu (mu (mu (mu m 46 (((m 38 11) * 9) + 0).toNat x3) 46 (((m 38 11) * 9) + 3).toNat 0) 46 (((m 38 11) * 9) + 4).toNat x1) 46 (((m 38 11) * 9) + 5).toNat x2) 46 (((m 38 11) * 9) + 6).toNat ((-1))) 46 (((m 38 11) * 9) + 7).toNat ((mu (mu (mu (mu (mu m 46 (((m 38 11) * 9) + 0).toNat x3) 46 (((m 38 11) * 9) + 3).toNat 0) 46 (((m 38 11) * 9) + 4).toNat x1) 46 (((m 38 11) * 9) + 5).toNat x2) 46 (((m 38 11) * 9) + 6).toNat ((-1))) 38 15)) 8 12)) J P (fun m21 J22 P23 => PP P23 ∧ post (((mu m21 38 11 ((m21 38 11) + 1)) 38 11) - 1) (mu m21 38 11 ((m21 38 11) + 1)) J22 P23)))) : Rn X (d + 2) 99 0 [some (.ref 38), some (.int (iz x1)), some (.int (iz x2)), some (.int (iz x3)), none] [] (SS m J P) (QI post) := by
  refine s_aload_n (pc := 0) rfl rfl ?_
  refine s_getI (pc := 1) rfl ko_38 ?_
  refine s_bipush (pc := 4) rfl (by decide) ?_
  refine s_imul (pc := 6) rfl ?_
  refine s_istore (pc := 7) (L' := [some (.ref 38), some (.int (iz x1)), some (.int (iz x2)), some (.int (iz x3)), some (.int (iz ((m 38 11) * 9)))]) rfl (Nat.le_of_ble_eq_true rfl) rfl ?_
  refine s_aload_n (pc := 9) rfl rfl ?_
  refine s_getA (pc := 10) rfl ko_38 (po_38_4 hp) ?_
  refine s_iload (pc := 13) rfl rfl ?_
  refine s_iconst (pc := 15) rfl ?_
  refine s_iadd (pc := 16) rfl ?_
  refine s_iload_n (pc := 17) rfl rfl ?_
  obtain ⟨hb1, hw⟩ := hw
  refine s_iast (pc := 18) rfl ka_46 (by decide) hb1 ?_
  refine s_aload_n (pc := 19) rfl rfl ?_
  refine s_getA (pc := 20) rfl ko_38 (po_38_4 hp) ?_
  refine s_iload (pc := 23) rfl rfl ?_
  refine s_iconst (pc := 25) rfl ?_
  refine s_iadd (pc := 26) rfl ?_
  refine s_iload_n (pc := 27) rfl rfl ?_
  refine s_iconst (pc := 28) rfl ?_
  obtain ⟨hz2, hw⟩ := hw
  refine s_ic_ne (pc := 29) (tgt := 36) rfl rfl hz2 (by decide) (fun hc => ?_) (fun hc => ?_)
  · replace hw := hw.1 hc
    refine s_aload_n (pc := 36) rfl rfl ?_
    refine s_getA (pc := 37) rfl ko_38 (po_38_4 hp) ?_
    refine s_iload_n (pc := 40) rfl rfl ?_
    refine s_bipush (pc := 41) rfl (by decide) ?_
    refine s_imul (pc := 43) rfl ?_
    refine s_iconst (pc := 44) rfl ?_
    refine s_iadd (pc := 45) rfl ?_
    obtain ⟨hb3, hw⟩ := hw
    refine s_iald (pc := 46) rfl ka_46 (by decide) hb3 ?_
    refine s_iconst (pc := 47) rfl ?_
    refine s_iadd (pc := 48) rfl ?_
    obtain ⟨hb4, hw⟩ := hw
    refine s_iast (pc := 49) rfl ka_46 (by decide) hb4 ?_
    refine s_aload_n (pc := 50) rfl rfl ?_
    refine s_getA (pc := 51) rfl ko_38 (po_38_4 hp) ?_
    refine s_iload (pc := 54) rfl rfl ?_
    refine s_iconst (pc := 56) rfl ?_
    refine s_iadd (pc := 57) rfl ?_
    refine s_iload_n (pc := 58) rfl rfl ?_
    obtain ⟨hb5, hw⟩ := hw
    refine s_iast (pc := 59) rfl ka_46 (by decide) hb5 ?_
    refine s_aload_n (pc := 60) rfl rfl ?_
    refine s_getA (pc := 61) rfl ko_38 (po_38_4 hp) ?_
    refine s_iload (pc := 64) rfl rfl ?_
    refine s_iconst (pc := 66) rfl ?_
    refine s_iadd (pc := 67) rfl ?_
    refine s_iload_n (pc := 68) rfl rfl ?_
    obtain ⟨hb6, hw⟩ := hw
    refine s_iast (pc := 69) rfl ka_46 (by decide) hb6 ?_
    refine s_aload_n (pc := 70) rfl rfl ?_
    refine s_getA (pc := 71) rfl ko_38 (po_38_4 hp) ?_
    refine s_iload (pc := 74) rfl rfl ?_
    refine s_bipush (pc := 76) rfl (by decide) ?_
    refine s_iadd (pc := 78) rfl ?_
    refine s_iconst (pc := 79) rfl ?_
    obtain ⟨hb7, hw⟩ := hw
    refine s_iast (pc := 80) rfl ka_46 (by decide) hb7 ?_
    refine s_aload_n (pc := 81) rfl rfl ?_
    refine s_getA (pc := 82) rfl ko_38 (po_38_4 hp) ?_
    refine s_iload (pc := 85) rfl rfl ?_
    refine s_bipush (pc := 87) rfl (by decide) ?_
    refine s_iadd (pc := 89) rfl ?_
    refine s_aload_n (pc := 90) rfl rfl ?_
    refine s_getI (pc := 91) rfl ko_38 ?_
    obtain ⟨hb8, hw⟩ := hw
    refine s_iast (pc := 94) rfl ka_46 (by decide) hb8 ?_
    refine s_aload_n (pc := 95) rfl rfl ?_
    refine s_getA (pc := 96) rfl ko_38 (po_38_4 hp) ?_
    refine s_iload (pc := 99) rfl rfl ?_
    refine s_bipush (pc := 101) rfl (by decide) ?_
    refine s_iadd (pc := 103) rfl ?_
    refine s_aload_n (pc := 104) rfl rfl ?_
    refine s_getA (pc := 105) rfl ko_38 (po_38_0 hp) ?_
    refine s_getI (pc := 108) rfl (by decide +kernel) ?_
    obtain ⟨hb9, hw⟩ := hw
    refine s_iast (pc := 111) rfl ka_46 (by decide) hb9 ?_
    refine s_aload_n (pc := 112) rfl rfl ?_
    refine s_aload_n (pc := 113) rfl rfl ?_
    refine s_getA (pc := 114) rfl ko_38 (po_38_0 hp) ?_
    refine s_cv (pc := 117) (d := (d + 1)) (t := []) rfl rfl (am_ca_v (ps := [.ref 8]) rfl ko_38) (Nat.le_of_ble_eq_true rfl) (Cv.weak hw fun m10 J11 P12 hw => ?_)
    obtain ⟨hp14, hw⟩ := hw
    refine s_aload_n (pc := 120) rfl rfl ?_
    refine s_dup (pc := 121) rfl rfl ?_
    refine s_getI (pc := 122) rfl ko_38 ?_
    refine s_iconst (pc := 125) rfl ?_
    refine s_iadd (pc := 126) rfl ?_
    refine s_putI (pc := 127) rfl ko_38 ?_
    refine s_aload_n (pc := 130) rfl rfl ?_
    refine s_getI (pc := 131) rfl ko_38 ?_
    refine s_iconst (pc := 134) rfl ?_
    refine s_isub (pc := 135) rfl ?_
    exact s_reti (pc := 136) rfl rfl hw
  · replace hw := hw.2 hc
    refine s_iconst (pc := 32) rfl ?_
    refine s_goto (pc := 33) (tgt := 49) rfl rfl ?_
    obtain ⟨hb15, hw⟩ := hw
    refine s_iast (pc := 49) rfl ka_46 (by decide) hb15 ?_
    refine s_aload_n (pc := 50) rfl rfl ?_
    refine s_getA (pc := 51) rfl ko_38 (po_38_4 hp) ?_
    refine s_iload (pc := 54) rfl rfl ?_
    refine s_iconst (pc := 56) rfl ?_
    refine s_iadd (pc := 57) rfl ?_
    refine s_iload_n (pc := 58) rfl rfl ?_
    obtain ⟨hb16, hw⟩ := hw
    refine s_iast (pc := 59) rfl ka_46 (by decide) hb16 ?_
    refine s_aload_n (pc := 60) rfl rfl ?_
    refine s_getA (pc := 61) rfl ko_38 (po_38_4 hp) ?_
    refine s_iload (pc := 64) rfl rfl ?_
    refine s_iconst (pc := 66) rfl ?_
    refine s_iadd (pc := 67) rfl ?_
    refine s_iload_n (pc := 68) rfl rfl ?_
    obtain ⟨hb17, hw⟩ := hw
    refine s_iast (pc := 69) rfl ka_46 (by decide) hb17 ?_
    refine s_aload_n (pc := 70) rfl rfl ?_
    refine s_getA (pc := 71) rfl ko_38 (po_38_4 hp) ?_
    refine s_iload (pc := 74) rfl rfl ?_
    refine s_bipush (pc := 76) rfl (by decide) ?_
    refine s_iadd (pc := 78) rfl ?_
    refine s_iconst (pc := 79) rfl ?_
    obtain ⟨hb18, hw⟩ := hw
    refine s_iast (pc := 80) rfl ka_46 (by decide) hb18 ?_
    refine s_aload_n (pc := 81) rfl rfl ?_
    refine s_getA (pc := 82) rfl ko_38 (po_38_4 hp) ?_
    refine s_iload (pc := 85) rfl rfl ?_
    refine s_bipush (pc := 87) rfl (by decide) ?_
    refine s_iadd (pc := 89) rfl ?_
    refine s_aload_n (pc := 90) rfl rfl ?_
    refine s_getI (pc := 91) rfl ko_38 ?_
    obtain ⟨hb19, hw⟩ := hw
    refine s_iast (pc := 94) rfl ka_46 (by decide) hb19 ?_
    refine s_aload_n (pc := 95) rfl rfl ?_
    refine s_getA (pc := 96) rfl ko_38 (po_38_4 hp) ?_
    refine s_iload (pc := 99) rfl rfl ?_
    refine s_bipush (pc := 101) rfl (by decide) ?_
    refine s_iadd (pc := 103) rfl ?_
    refine s_aload_n (pc := 104) rfl rfl ?_
    refine s_getA (pc := 105) rfl ko_38 (po_38_0 hp) ?_
    refine s_getI (pc := 108) rfl (by decide +kernel) ?_
    obtain ⟨hb20, hw⟩ := hw
    refine s_iast (pc := 111) rfl ka_46 (by decide) hb20 ?_
    refine s_aload_n (pc := 112) rfl rfl ?_
    refine s_aload_n (pc := 113) rfl rfl ?_
    refine s_getA (pc := 114) rfl ko_38 (po_38_0 hp) ?_
    refine s_cv (pc := 117) (d := (d + 1)) (t := []) rfl rfl (am_ca_v (ps := [.ref 8]) rfl ko_38) (Nat.le_of_ble_eq_true rfl) (Cv.weak hw fun m21 J22 P23 hw => ?_)
    obtain ⟨hp25, hw⟩ := hw
    refine s_aload_n (pc := 120) rfl rfl ?_
    refine s_dup (pc := 121) rfl rfl ?_
    refine s_getI (pc := 122) rfl ko_38 ?_
    refine s_iconst (pc := 125) rfl ?_
    refine s_iadd (pc := 126) rfl ?_
    refine s_putI (pc := 127) rfl ko_38 ?_
    refine s_aload_n (pc := 130) rfl rfl ?_
    refine s_getI (pc := 131) rfl ko_38 ?_
    refine s_iconst (pc := 134) rfl ?_
    refine s_isub (pc := 135) rfl ?_
    exact s_reti (pc := 136) rfl rfl hw

set_option maxRecDepth 20000 in
set_option maxHeartbeats 4000000 in
theorem b_Tree_keep_0 {X : aX} {d : Nat} (x1 : Nat) (kx1 : am_kd an_K x1 = some (.inl 4)) (m : Mi) (J : Mj) (P : Mp) (hp : PP P) (post : Mi → Mj → Mp → Prop)
    (hw : Zr ((m 38 15) + (m x1 12)) ∧ (((((m 38 15) + (m x1 12)) ≤ 30000) → ((0 : Int) ≤ 0 ∧ (0 : Int) ≤ (m 38 15) ∧ (0 : Int) ≤ (m x1 12) ∧ 0 + (m x1 12) ≤ 800 ∧ (m 38 15) + (m x1 12) ≤ 30000) ∧ post (mu (mcp m (x1 + 8) 45 (0 : Int).toNat (m 38 15).toNat (m x1 12).toNat) 38 15 (((mcp m (x1 + 8) 45 (0 : Int).toNat (m 38 15).toNat (m x1 12).toNat) 38 15) + ((mcp m (x1 + 8) 45 (0 : Int).toNat (m 38 15).toNat (m x1 12).toNat) x1 12))) J P) ∧ (¬ (((m 38 15) + (m x1 12)) ≤ 30000) → post m J P))) : Rn X (d + 1) 100 0 [some (.ref 38), some (.ref x1)] [] (SS m J P) (QV post) := by
  refine s_aload_n (pc := 0) rfl rfl ?_
  refine s_getI (pc := 1) rfl ko_38 ?_
  refine s_aload_n (pc := 4) rfl rfl ?_
  refine s_getI (pc := 5) rfl kx1 ?_
  refine s_iadd (pc := 8) rfl ?_
  refine s_sipush (pc := 9) rfl (by decide) ?_
  obtain ⟨hz1, hw⟩ := hw
  refine s_ic_le (pc := 12) (tgt := 16) rfl rfl hz1 (by decide) (fun hc => ?_) (fun hc => ?_)
  · replace hw := hw.1 hc
    refine s_aload_n (pc := 16) rfl rfl ?_
    refine s_getA (pc := 17) rfl kx1 (pc_4_10 hp kx1) ?_
    refine s_iconst (pc := 20) rfl ?_
    refine s_aload_n (pc := 21) rfl rfl ?_
    refine s_getA (pc := 22) rfl ko_38 (po_38_3 hp) ?_
    refine s_aload_n (pc := 25) rfl rfl ?_
    refine s_getI (pc := 26) rfl ko_38 ?_
    refine s_aload_n (pc := 29) rfl rfl ?_
    refine s_getI (pc := 30) rfl kx1 ?_
    obtain ⟨hb2, hw⟩ := hw
    refine s_acpy (pc := 33) (d := d) rfl (kc_4_10 kx1) ka_45 (by decide) (by decide) (Nat.le_of_ble_eq_true rfl) hb2 ?_
    refine s_aload_n (pc := 36) rfl rfl ?_
    refine s_dup (pc := 37) rfl rfl ?_
    refine s_getI (pc := 38) rfl ko_38 ?_
    refine s_aload_n (pc := 41) rfl rfl ?_
    refine s_getI (pc := 42) rfl kx1 ?_
    refine s_iadd (pc := 45) rfl ?_
    refine s_putI (pc := 46) rfl ko_38 ?_
    exact s_retv (pc := 49) rfl rfl hw
  · replace hw := hw.2 hc
    exact s_retv (pc := 15) rfl rfl hw

set_option maxRecDepth 20000 in
set_option maxHeartbeats 4000000 in
theorem b_Tree_tellOrigin_0 {X : aX} {d : Nat} (x1 : Int) (x2 : Int) (x3 : Int)  (m : Mi) (J : Mj) (P : Mp) (hp : PP P) (post : Mi → Mj → Mp → Prop)
    (hw : ((0 : Int) ≤ ((x1 * 9) + 1) ∧ (((x1 * 9) + 1) : Int) < 9000) ∧ ((0 : Int) ≤ ((x1 * 9) + 2) ∧ (((x1 * 9) + 2) : Int) < 9000) ∧ post (mu (mu m 46 ((x1 * 9) + 1).toNat x2) 46 ((x1 * 9) + 2).toNat x3) J P) : Rn X d 101 0 [some (.ref 38), some (.int (iz x1)), some (.int (iz x2)), some (.int (iz x3))] [] (SS m J P) (QV post) := by
  refine s_aload_n (pc := 0) rfl rfl ?_
  refine s_getA (pc := 1) rfl ko_38 (po_38_4 hp) ?_
  refine s_iload_n (pc := 4) rfl rfl ?_
  refine s_bipush (pc := 5) rfl (by decide) ?_
  refine s_imul (pc := 7) rfl ?_
  refine s_iconst (pc := 8) rfl ?_
  refine s_iadd (pc := 9) rfl ?_
  refine s_iload_n (pc := 10) rfl rfl ?_
  obtain ⟨hb1, hw⟩ := hw
  refine s_iast (pc := 11) rfl ka_46 (by decide) hb1 ?_
  refine s_aload_n (pc := 12) rfl rfl ?_
  refine s_getA (pc := 13) rfl ko_38 (po_38_4 hp) ?_
  refine s_iload_n (pc := 16) rfl rfl ?_
  refine s_bipush (pc := 17) rfl (by decide) ?_
  refine s_imul (pc := 19) rfl ?_
  refine s_iconst (pc := 20) rfl ?_
  refine s_iadd (pc := 21) rfl ?_
  refine s_iload_n (pc := 22) rfl rfl ?_
  obtain ⟨hb2, hw⟩ := hw
  refine s_iast (pc := 23) rfl ka_46 (by decide) hb2 ?_
  exact s_retv (pc := 24) rfl rfl hw

set_option maxRecDepth 20000 in
set_option maxHeartbeats 4000000 in
theorem b_Tree_lookAt_0 {X : aX} {d : Nat} (x1 : Int) (x2 : Nat) (kx2 : am_kd an_K x2 = some (.inl 10)) (m : Mi) (J : Mj) (P : Mp) (hp : PP P) (post : Int → Mi → Mj → Mp → Prop)
    (hw : Cv X (d + 2) 103 [.ref 38, .ref 18, .int (iz x1), .ref x2] m J P (fun m1 J2 P3 => PP P3 ∧ ((0 : Int) ≤ ((x1 * 9) + 4) ∧ (((x1 * 9) + 4) : Int) < 9000) ∧ Ci X (d + 2) 53 [.ref 18, .int (iz 0), .int (iz (m1 46 ((x1 * 9) + 4).toNat))] m1 J2 P3 (fun z10 m7 J8 P9 => PP P9 ∧ Zr (z10) ∧ (((¬ z10 = 0) → Cv X (d + 2) 60 [.ref 18, .int (iz ((-1))), .int (iz ((-1)))] m7 J8 P9 (fun m13 J14 P15 => PP P15 ∧ ((0 : Int) ≤ ((x1 * 9) + 4) ∧ (((x1 * 9) + 4) : Int) < 9000) ∧ ((0 : Int) ≤ ((x1 * 9) + 5) ∧ (((x1 * 9) + 5) : Int) < 9000) ∧ (∃ q20, P15 38 2 = some q20 ∧ am_kd an_K q20 = some (.inl 8) ∧ Ci X (d + 2) 93 [.ref 18, .int (iz ((m13 46 ((x1 * 9) + 4).toNat) + (m13 46 ((x1 * 9) + 5).toNat))), .int (iz (m13 q20 7))] m13 J14 P15 (fun z24 m21 J22 P23 => PP P23 ∧ Zr (z24) ∧ (((¬ z24 = 0) → Zr (m21 38 12) ∧ (((300 ≤ (m21 38 12)) → post 0 (mu m21 38 9 1) J22 P23) ∧ (¬ (300 ≤ (m21 38 12)) → Ci X (d + 2) 104 [.ref 38] m21 J22 P23 (fun z31 m28 J29 P30 => PP P30 ∧ Zr ((z31 + 2) + (m28 18 12)) ∧ (((((z31 + 2) + (m28 18 12)) ≤ 30000) → Cv X (d + 2) 65 [.ref 18] m28 J29 P30 (fun m34 J35 P36 => PP P36 ∧ ((0 : Int) ≤ ((x1 * 9) + 6) ∧ (((x1 * 9) + 6) : Int) < 9000) ∧ ((0 : Int) ≤ ((mu m34 46 ((x1 * 9) + 6).toNat (m34 38 12)) 38 12) ∧ (((mu m34 46 ((x1 * 9) + 6).toNat (m34 38 12)) 38 12) : Int) < 300) ∧ ((0 : Int) ≤ ((mu (mu m34 46 ((x1 * 9) + 6).toNat (m34 38 12)) 47 ((mu m34 46 ((x1 * 9) + 6).toNat (m34 38 12)) 38 12).toNat x1) 38 12) ∧ (((mu (mu m34 46 ((x1 * 9) + 6).toNat (m34 38 12)) 47 ((mu m34 46 ((x1 * 9) + 6).toNat (m34 38 12)) 38 12).toNat x1) 38 12) : Int) < 300) ∧ Cv X (d + 2) 100 [.ref 38, .ref 18] (mu (mu (mu (mu m34 46 ((x1 * 9) + 6).toNat (m34 38 12)) 47 ((mu m34 46 ((x1 * 9) + 6).toNat (m34 38 12)) 38 12).toNat x1) 48 ((mu (mu m34 46 ((x1 * 9) + 6).toNat (m34 38 12)) 47 ((mu m34 46 ((x1 * 9) + 6).toNat (m34 38 12)) 38 12).toNat x1) 38 12).toNat ((mu (mu m34 46 ((x1 * 9) + 6).toNat (m34 38 12)) 47 ((mu m34 46 ((x1 * 9) + 6).toNat (m34 38 12)) 38 12).toNat x1) 38 15)) 38 12 (((mu (mu (mu m34 46 ((x1 * 9) + 6).toNat (m34 38 12)) 47 ((mu m34 46 ((x1 * 9) + 6).toNat (m34 38 12)) 38 12).toNat x1) 48 ((mu (mu m34 46 ((x1 * 9) + 6).toNat (m34 38 12)) 47 ((mu m34 46 ((x1 * 9) + 6).toNat (m34 38 12)) 38 12).toNat x1) 38 12).toNat ((mu (mu m34 46 ((x1 * 9) + 6).toNat (m34 38 12)) 47 ((mu m34 46 ((x1 * 9) + 6).toNat (m34 38 12)) 38 12).toNat x1) 38 15)) 38 12) + 1)) J35 P36 (fun m42 J43 P44 => PP P44 ∧ post 1 m42 J43 P44))) ∧ (¬ (((z31 + 2) + (m28 18 12)) ≤ 30000) → post 0 (mu m28 38 9 1) J29 P30)))))) ∧ (¬ (¬ z24 = 0) → post 1 (mu m21 38 14 ((m21 38 14) + 1)) J22 P23)))))) ∧ (¬ (¬ z10 = 0) → post 1 m7 J8 P9))))) : Rn X (d + 3) 102 0 [some (.ref 38), some (.int (iz x1)), some (.ref x2), none] [] (SS m J P) (QI post) := by
  refine s_aload_n (pc := 0) rfl rfl ?_
  refine s_aload_n (pc := 1) rfl rfl ?_
  refine s_getA (pc := 2) rfl ko_38 (po_38_1 hp) ?_
  refine s_iload_n (pc := 5) rfl rfl ?_
  refine s_aload_n (pc := 6) rfl rfl ?_
  refine s_cv (pc := 7) (d := (d + 2)) (t := []) rfl rfl (am_ca_v (ps := [.ref x2, .int (iz x1), .ref 18]) rfl ko_38) (Nat.le_of_ble_eq_true rfl) (Cv.weak hw fun m1 J2 P3 hw => ?_)
  obtain ⟨hp5, hw⟩ := hw
  refine s_iload_n (pc := 10) rfl rfl ?_
  refine s_bipush (pc := 11) rfl (by decide) ?_
  refine s_imul (pc := 13) rfl ?_
  refine s_istore_n (pc := 14) (L' := [some (.ref 38), some (.int (iz x1)), some (.ref x2), some (.int (iz (x1 * 9)))]) rfl (Nat.le_of_ble_eq_true rfl) rfl ?_
  refine s_aload_n (pc := 15) rfl rfl ?_
  refine s_getA (pc := 16) rfl ko_38 (po_38_1 hp5) ?_
  refine s_iconst (pc := 19) rfl ?_
  refine s_aload_n (pc := 20) rfl rfl ?_
  refine s_getA (pc := 21) rfl ko_38 (po_38_4 hp5) ?_
  refine s_iload_n (pc := 24) rfl rfl ?_
  refine s_iconst (pc := 25) rfl ?_
  refine s_iadd (pc := 26) rfl ?_
  obtain ⟨hb6, hw⟩ := hw
  refine s_iald (pc := 27) rfl ka_46 (by decide) hb6 ?_
  refine s_ci (pc := 28) (d := (d + 2)) (t := []) rfl rfl (am_ca_v (ps := [.int (iz (m1 46 ((x1 * 9) + 4).toNat)), .int (iz 0)]) rfl (by decide +kernel)) (Nat.le_of_ble_eq_true rfl) (Ci.weak hw fun z10 m7 J8 P9 hw => ?_)
  obtain ⟨hp11, hw⟩ := hw
  obtain ⟨hz12, hw⟩ := hw
  refine s_if_ne (pc := 31) (tgt := 36) rfl rfl hz12 (fun hc => ?_) (fun hc => ?_)
  · replace hw := hw.1 hc
    refine s_aload_n (pc := 36) rfl rfl ?_
    refine s_getA (pc := 37) rfl ko_38 (po_38_1 hp11) ?_
    refine s_iconst (pc := 40) rfl ?_
    refine s_iconst (pc := 41) rfl ?_
    refine s_cv (pc := 42) (d := (d + 2)) (t := []) rfl rfl (am_ca_v (ps := [.int (iz ((-1))), .int (iz ((-1)))]) rfl (by decide +kernel)) (Nat.le_of_ble_eq_true rfl) (Cv.weak hw fun m13 J14 P15 hw => ?_)
    obtain ⟨hp17, hw⟩ := hw
    refine s_aload_n (pc := 45) rfl rfl ?_
    refine s_getA (pc := 46) rfl ko_38 (po_38_1 hp17) ?_
    refine s_aload_n (pc := 49) rfl rfl ?_
    refine s_getA (pc := 50) rfl ko_38 (po_38_4 hp17) ?_
    refine s_iload_n (pc := 53) rfl rfl ?_
    refine s_iconst (pc := 54) rfl ?_
    refine s_iadd (pc := 55) rfl ?_
    obtain ⟨hb18, hw⟩ := hw
    refine s_iald (pc := 56) rfl ka_46 (by decide) hb18 ?_
    refine s_aload_n (pc := 57) rfl rfl ?_
    refine s_getA (pc := 58) rfl ko_38 (po_38_4 hp17) ?_
    refine s_iload_n (pc := 61) rfl rfl ?_
    refine s_iconst (pc := 62) rfl ?_
    refine s_iadd (pc := 63) rfl ?_
    obtain ⟨hb19, hw⟩ := hw
    refine s_iald (pc := 64) rfl ka_46 (by decide) hb19 ?_
    refine s_iadd (pc := 65) rfl ?_
    refine s_aload_n (pc := 66) rfl rfl ?_
    obtain ⟨q20, hq20, kq20, hw⟩ := hw
    refine s_getA (pc := 67) rfl ko_38 hq20 ?_
    refine s_getI (pc := 70) rfl kq20 ?_
    refine s_ci (pc := 73) (d := (d + 2)) (t := []) rfl rfl (am_ca_v (ps := [.int (iz (m13 q20 7)), .int (iz ((m13 46 ((x1 * 9) + 4).toNat) + (m13 46 ((x1 * 9) + 5).toNat)))]) rfl (by decide +kernel)) (Nat.le_of_ble_eq_true rfl) (Ci.weak hw fun z24 m21 J22 P23 hw => ?_)
    obtain ⟨hp25, hw⟩ := hw
    obtain ⟨hz26, hw⟩ := hw
    refine s_if_ne (pc := 76) (tgt := 91) rfl rfl hz26 (fun hc => ?_) (fun hc => ?_)
    · replace hw := hw.1 hc
      refine s_aload_n (pc := 91) rfl rfl ?_
      refine s_getI (pc := 92) rfl ko_38 ?_
      refine s_sipush (pc := 95) rfl (by decide) ?_
      obtain ⟨hz27, hw⟩ := hw
      refine s_ic_ge (pc := 98) (tgt := 121) rfl rfl hz27 (by decide) (fun hc => ?_) (fun hc => ?_)
      · replace hw := hw.1 hc
        refine s_aload_n (pc := 121) rfl rfl ?_
        refine s_iconst (pc := 122) rfl ?_
        refine s_putZ (pc := 123) rfl ko_38 (by decide) ?_
        refine s_iconst (pc := 126) rfl ?_
        exact s_retz (pc := 127) rfl rfl (by decide) hw
      · replace hw := hw.2 hc
        refine s_aload_n (pc := 101) rfl rfl ?_
        refine s_ci (pc := 102) (d := (d + 2)) (t := []) rfl rfl (am_ca_v (ps := []) rfl ko_38) (Nat.le_of_ble_eq_true rfl) (Ci.weak hw fun z31 m28 J29 P30 hw => ?_)
        obtain ⟨hp32, hw⟩ := hw
        refine s_iconst (pc := 105) rfl ?_
        refine s_iadd (pc := 106) rfl ?_
        refine s_aload_n (pc := 107) rfl rfl ?_
        refine s_getA (pc := 108) rfl ko_38 (po_38_1 hp32) ?_
        refine s_getI (pc := 111) rfl (by decide +kernel) ?_
        refine s_iadd (pc := 114) rfl ?_
        refine s_sipush (pc := 115) rfl (by decide) ?_
        obtain ⟨hz33, hw⟩ := hw
        refine s_ic_le (pc := 118) (tgt := 128) rfl rfl hz33 (by decide) (fun hc => ?_) (fun hc => ?_)
        · replace hw := hw.1 hc
          refine s_aload_n (pc := 128) rfl rfl ?_
          refine s_getA (pc := 129) rfl ko_38 (po_38_1 hp32) ?_
          refine s_cv (pc := 132) (d := (d + 2)) (t := []) rfl rfl (am_ca_v (ps := []) rfl (by decide +kernel)) (Nat.le_of_ble_eq_true rfl) (Cv.weak hw fun m34 J35 P36 hw => ?_)
          obtain ⟨hp38, hw⟩ := hw
          refine s_aload_n (pc := 135) rfl rfl ?_
          refine s_getA (pc := 136) rfl ko_38 (po_38_4 hp38) ?_
          refine s_iload_n (pc := 139) rfl rfl ?_
          refine s_bipush (pc := 140) rfl (by decide) ?_
          refine s_iadd (pc := 142) rfl ?_
          refine s_aload_n (pc := 143) rfl rfl ?_
          refine s_getI (pc := 144) rfl ko_38 ?_
          obtain ⟨hb39, hw⟩ := hw
          refine s_iast (pc := 147) rfl ka_46 (by decide) hb39 ?_
          refine s_aload_n (pc := 148) rfl rfl ?_
          refine s_getA (pc := 149) rfl ko_38 (po_38_5 hp38) ?_
          refine s_aload_n (pc := 152) rfl rfl ?_
          refine s_getI (pc := 153) rfl ko_38 ?_
          refine s_iload_n (pc := 156) rfl rfl ?_
          obtain ⟨hb40, hw⟩ := hw
          refine s_iast (pc := 157) rfl ka_47 (by decide) hb40 ?_
          refine s_aload_n (pc := 158) rfl rfl ?_
          refine s_getA (pc := 159) rfl ko_38 (po_38_6 hp38) ?_
          refine s_aload_n (pc := 162) rfl rfl ?_
          refine s_getI (pc := 163) rfl ko_38 ?_
          refine s_aload_n (pc := 166) rfl rfl ?_
          refine s_getI (pc := 167) rfl ko_38 ?_
          obtain ⟨hb41, hw⟩ := hw
          refine s_iast (pc := 170) rfl ka_48 (by decide) hb41 ?_
          refine s_aload_n (pc := 171) rfl rfl ?_
          refine s_dup (pc := 172) rfl rfl ?_
          refine s_getI (pc := 173) rfl ko_38 ?_
          refine s_iconst (pc := 176) rfl ?_
          refine s_iadd (pc := 177) rfl ?_
          refine s_putI (pc := 178) rfl ko_38 ?_
          refine s_aload_n (pc := 181) rfl rfl ?_
          refine s_aload_n (pc := 182) rfl rfl ?_
          refine s_getA (pc := 183) rfl ko_38 (po_38_1 hp38) ?_
          refine s_cv (pc := 186) (d := (d + 2)) (t := []) rfl rfl (am_ca_v (ps := [.ref 18]) rfl ko_38) (Nat.le_of_ble_eq_true rfl) (Cv.weak hw fun m42 J43 P44 hw => ?_)
          obtain ⟨hp46, hw⟩ := hw
          refine s_iconst (pc := 189) rfl ?_
          exact s_retz (pc := 190) rfl rfl (by decide) hw
        · replace hw := hw.2 hc
          refine s_aload_n (pc := 121) rfl rfl ?_
          refine s_iconst (pc := 122) rfl ?_
          refine s_putZ (pc := 123) rfl ko_38 (by decide) ?_
          refine s_iconst (pc := 126) rfl ?_
          exact s_retz (pc := 127) rfl rfl (by decide) hw
    · replace hw := hw.2 hc
      refine s_aload_n (pc := 79) rfl rfl ?_
      refine s_dup (pc := 80) rfl rfl ?_
      refine s_getI (pc := 81) rfl ko_38 ?_
      refine s_iconst (pc := 84) rfl ?_
      refine s_iadd (pc := 85) rfl ?_
      refine s_putI (pc := 86) rfl ko_38 ?_
      refine s_iconst (pc := 89) rfl ?_
      exact s_retz (pc := 90) rfl rfl (by decide) hw
  · replace hw := hw.2 hc
    refine s_iconst (pc := 34) rfl ?_
    exact s_retz (pc := 35) rfl rfl (by decide) hw

set_option maxRecDepth 20000 in
set_option maxHeartbeats 4000000 in
theorem b_Tree_loadNode_0 {X : aX} {d : Nat} (x1 : Nat) (x2 : Int) (x3 : Nat) (kx1 : am_kd an_K x1 = some (.inl 4)) (kx3 : am_kd an_K x3 = some (.inl 10)) (m : Mi) (J : Mj) (P : Mp) (hp : PP P) (post : Mi → Mj → Mp → Prop)
    (hw : ((0 : Int) ≤ ((x2 * 9) + 7) ∧ (((x2 * 9) + 7) : Int) < 9000) ∧ ((0 : Int) ≤ ((x2 * 9) + 8) ∧ (((x2 * 9) + 8) : Int) < 9000) ∧ Cv X (d + 1) 51 [.ref x1, .ref 45, .int (iz (m 46 ((x2 * 9) + 7).toNat)), .int (iz (m 46 ((x2 * 9) + 8).toNat)), .ref x3] m J P (fun m3 J4 P5 => PP P5 ∧ post m3 J4 P5)) : Rn X (d + 2) 103 0 [some (.ref 38), some (.ref x1), some (.int (iz x2)), some (.ref x3)] [] (SS m J P) (QV post) := by
  refine s_aload_n (pc := 0) rfl rfl ?_
  refine s_aload_n (pc := 1) rfl rfl ?_
  refine s_getA (pc := 2) rfl ko_38 (po_38_3 hp) ?_
  refine s_aload_n (pc := 5) rfl rfl ?_
  refine s_getA (pc := 6) rfl ko_38 (po_38_4 hp) ?_
  refine s_iload_n (pc := 9) rfl rfl ?_
  refine s_bipush (pc := 10) rfl (by decide) ?_
  refine s_imul (pc := 12) rfl ?_
  refine s_bipush (pc := 13) rfl (by decide) ?_
  refine s_iadd (pc := 15) rfl ?_
  obtain ⟨hb1, hw⟩ := hw
  refine s_iald (pc := 16) rfl ka_46 (by decide) hb1 ?_
  refine s_aload_n (pc := 17) rfl rfl ?_
  refine s_getA (pc := 18) rfl ko_38 (po_38_4 hp) ?_
  refine s_iload_n (pc := 21) rfl rfl ?_
  refine s_bipush (pc := 22) rfl (by decide) ?_
  refine s_imul (pc := 24) rfl ?_
  refine s_bipush (pc := 25) rfl (by decide) ?_
  refine s_iadd (pc := 27) rfl ?_
  obtain ⟨hb2, hw⟩ := hw
  refine s_iald (pc := 28) rfl ka_46 (by decide) hb2 ?_
  refine s_aload_n (pc := 29) rfl rfl ?_
  refine s_cv (pc := 30) (d := (d + 1)) (t := []) rfl rfl (am_ca_v (ps := [.ref x3, .int (iz (m 46 ((x2 * 9) + 8).toNat)), .int (iz (m 46 ((x2 * 9) + 7).toNat)), .ref 45]) rfl kx1) (Nat.le_of_ble_eq_true rfl) (Cv.weak hw fun m3 J4 P5 hw => ?_)
  obtain ⟨hp7, hw⟩ := hw
  exact s_retv (pc := 33) rfl rfl hw

set_option maxRecDepth 20000 in
set_option maxHeartbeats 4000000 in
theorem b_Tree_cells_0 {X : aX} {d : Nat}   (m : Mi) (J : Mj) (P : Mp) (hp : PP P) (post : Int → Mi → Mj → Mp → Prop)
    (hw : post (((4 * (m 38 11)) + (2 * (m 38 12))) + (m 38 15)) m J P) : Rn X d 104 0 [some (.ref 38)] [] (SS m J P) (QI post) := by
  refine s_iconst (pc := 0) rfl ?_
  refine s_aload_n (pc := 1) rfl rfl ?_
  refine s_getI (pc := 2) rfl ko_38 ?_
  refine s_imul (pc := 5) rfl ?_
  refine s_iconst (pc := 6) rfl ?_
  refine s_aload_n (pc := 7) rfl rfl ?_
  refine s_getI (pc := 8) rfl ko_38 ?_
  refine s_imul (pc := 11) rfl ?_
  refine s_iadd (pc := 12) rfl ?_
  refine s_aload_n (pc := 13) rfl rfl ?_
  refine s_getI (pc := 14) rfl ko_38 ?_
  refine s_iadd (pc := 17) rfl ?_
  exact s_reti (pc := 18) rfl rfl hw

set_option maxRecDepth 20000 in
set_option maxHeartbeats 4000000 in
theorem b_Nh_expand_0 {X : aX} {d : Nat} (x1 : Int)  (m : Mi) (J : Mj) (P : Mp) (hp : PP P) (post : Int → Mi → Mj → Mp → Prop)
    (hw : Zr (x1) ∧ (((x1 < 1) → post ((-1)) m J P) ∧ (¬ (x1 < 1) → Zr (x1) ∧ (((100 < x1) → post ((-1)) m J P) ∧ (¬ (100 < x1) → Zr (m 38 8) ∧ (((¬ (m 38 8) = 0) → Rn X (d + 6) 105 27 [some (.ref 1), some (.int (iz x1)), some (.int (iz 0)), some (.int (iz 0))] [] (SS m J P) (QI post)) ∧ (¬ (¬ (m 38 8) = 0) → post ((-1)) m J P))))))) : Rn X (d + 6) 105 0 [some (.ref 1), some (.int (iz x1)), none, none] [] (SS m J P) (QI post) := by
  refine s_iload_n (pc := 0) rfl rfl ?_
  refine s_iconst (pc := 1) rfl ?_
  obtain ⟨hz1, hw⟩ := hw
  refine s_ic_lt (pc := 2) (tgt := 21) rfl rfl hz1 (by decide) (fun hc => ?_) (fun hc => ?_)
  · replace hw := hw.1 hc
    refine s_iconst (pc := 21) rfl ?_
    exact s_reti (pc := 22) rfl rfl hw
  · replace hw := hw.2 hc
    refine s_iload_n (pc := 5) rfl rfl ?_
    refine s_bipush (pc := 6) rfl (by decide) ?_
    obtain ⟨hz2, hw⟩ := hw
    refine s_ic_gt (pc := 8) (tgt := 21) rfl rfl hz2 (by decide) (fun hc => ?_) (fun hc => ?_)
    · replace hw := hw.1 hc
      refine s_iconst (pc := 21) rfl ?_
      exact s_reti (pc := 22) rfl rfl hw
    · replace hw := hw.2 hc
      refine s_aload_n (pc := 11) rfl rfl ?_
      refine s_getA (pc := 12) rfl ko_1 (po_1_6 hp) ?_
      refine s_getZ (pc := 15) rfl ko_38 ?_
      obtain ⟨hz3, hw⟩ := hw
      refine s_if_ne (pc := 18) (tgt := 23) rfl rfl hz3 (fun hc => ?_) (fun hc => ?_)
      · replace hw := hw.1 hc
        refine s_iconst (pc := 23) rfl ?_
        refine s_istore_n (pc := 24) (L' := [some (.ref 1), some (.int (iz x1)), some (.int (iz 0)), none]) rfl (Nat.le_of_ble_eq_true rfl) rfl ?_
        refine s_iconst (pc := 25) rfl ?_
        refine s_istore_n (pc := 26) (L' := [some (.ref 1), some (.int (iz x1)), some (.int (iz 0)), some (.int (iz 0))]) rfl (Nat.le_of_ble_eq_true rfl) rfl ?_
        exact hw
      · replace hw := hw.2 hc
        refine s_iconst (pc := 21) rfl ?_
        exact s_reti (pc := 22) rfl rfl hw

set_option maxRecDepth 20000 in
set_option maxHeartbeats 4000000 in
theorem b_Nh_expand_27 {X : aX} {d : Nat} (x1 : Int) (x2 : Int) (x3 : Int)  (m : Mi) (J : Mj) (P : Mp) (hp : PP P) (post : Int → Mi → Mj → Mp → Prop)
    (hw : Zr (x3) ∧ Zr (x1) ∧ (((x1 ≤ x3) → post x2 m J P) ∧ (¬ (x1 ≤ x3) → Ci X (d + 5) 106 [.ref 38] m J P (fun z6 m3 J4 P5 => PP P5 ∧ Zr (z6) ∧ (((z6 = 0) → post x2 m3 J4 P5) ∧ (¬ (z6 = 0) → (∃ q9, P5 1 8 = some q9 ∧ am_kd an_K q9 = some (.inl 10) ∧ Ci X (d + 5) 107 [.ref 38, .ref q9] m3 J4 P5 (fun z13 m10 J11 P12 => PP P12 ∧ Zr (z13) ∧ (((z13 = 0) → Rn X (d + 6) 105 27 [some (.ref 1), some (.int (iz x1)), some (.int (iz x2)), some (.int (iz (x3 + 1)))] [] (SS m10 J11 P12) (QI post)) ∧ (¬ (z13 = 0) → Rn X (d + 6) 105 27 [some (.ref 1), some (.int (iz x1)), some (.int (iz (x2 + 1))), some (.int (iz (x3 + 1)))] [] (SS m10 J11 P12) (QI post))))))))))) : Rn X (d + 6) 105 27 [some (.ref 1), some (.int (iz x1)), some (.int (iz x2)), some (.int (iz x3))] [] (SS m J P) (QI post) := by
  refine s_iload_n (pc := 27) rfl rfl ?_
  refine s_iload_n (pc := 28) rfl rfl ?_
  obtain ⟨hz1, hw⟩ := hw
  obtain ⟨hz2, hw⟩ := hw
  refine s_ic_ge (pc := 29) (tgt := 65) rfl rfl hz1 hz2 (fun hc => ?_) (fun hc => ?_)
  · replace hw := hw.1 hc
    refine s_iload_n (pc := 65) rfl rfl ?_
    exact s_reti (pc := 66) rfl rfl hw
  · replace hw := hw.2 hc
    refine s_aload_n (pc := 32) rfl rfl ?_
    refine s_getA (pc := 33) rfl ko_1 (po_1_6 hp) ?_
    refine s_ci (pc := 36) (d := (d + 5)) (t := []) rfl rfl (am_ca_v (ps := []) rfl ko_38) (Nat.le_of_ble_eq_true rfl) (Ci.weak hw fun z6 m3 J4 P5 hw => ?_)
    obtain ⟨hp7, hw⟩ := hw
    obtain ⟨hz8, hw⟩ := hw
    refine s_if_eq (pc := 39) (tgt := 65) rfl rfl hz8 (fun hc => ?_) (fun hc => ?_)
    · replace hw := hw.1 hc
      refine s_iload_n (pc := 65) rfl rfl ?_
      exact s_reti (pc := 66) rfl rfl hw
    · replace hw := hw.2 hc
      refine s_aload_n (pc := 42) rfl rfl ?_
      refine s_getA (pc := 43) rfl ko_1 (po_1_6 hp7) ?_
      refine s_aload_n (pc := 46) rfl rfl ?_
      obtain ⟨q9, hq9, kq9, hw⟩ := hw
      refine s_getA (pc := 47) rfl ko_1 hq9 ?_
      refine s_ci (pc := 50) (d := (d + 5)) (t := []) rfl rfl (am_ca_v (ps := [.ref q9]) rfl ko_38) (Nat.le_of_ble_eq_true rfl) (Ci.weak hw fun z13 m10 J11 P12 hw => ?_)
      obtain ⟨hp14, hw⟩ := hw
      obtain ⟨hz15, hw⟩ := hw
      refine s_if_eq (pc := 53) (tgt := 59) rfl rfl hz15 (fun hc => ?_) (fun hc => ?_)
      · replace hw := hw.1 hc
        refine s_iinc (pc := 59) (L' := [some (.ref 1), some (.int (iz x1)), some (.int (iz x2)), some (.int (iz (x3 + 1)))]) rfl rfl (Nat.le_of_ble_eq_true rfl) rfl ?_
        refine s_goto (pc := 62) (tgt := 27) rfl rfl ?_
        exact hw
      · replace hw := hw.2 hc
        refine s_iinc (pc := 56) (L' := [some (.ref 1), some (.int (iz x1)), some (.int (iz (x2 + 1))), some (.int (iz x3))]) rfl rfl (Nat.le_of_ble_eq_true rfl) rfl ?_
        refine s_iinc (pc := 59) (L' := [some (.ref 1), some (.int (iz x1)), some (.int (iz (x2 + 1))), some (.int (iz (x3 + 1)))]) rfl rfl (Nat.le_of_ble_eq_true rfl) rfl ?_
        refine s_goto (pc := 62) (tgt := 27) rfl rfl ?_
        exact hw

set_option maxRecDepth 20000 in
set_option maxHeartbeats 4000000 in
theorem b_Tree_waits_0 {X : aX} {d : Nat}   (m : Mi) (J : Mj) (P : Mp) (hp : PP P) (post : Int → Mi → Mj → Mp → Prop)
    (hw : Zr (m 38 8) ∧ ((((m 38 8) = 0) → post 0 m J P) ∧ (¬ ((m 38 8) = 0) → Zr (m 38 9) ∧ (((¬ (m 38 9) = 0) → post 0 m J P) ∧ (¬ (¬ (m 38 9) = 0) → Zr (m 38 13) ∧ Zr (m 38 11) ∧ ((((m 38 11) ≤ (m 38 13)) → post 0 m J P) ∧ (¬ ((m 38 11) ≤ (m 38 13)) → post 1 m J P))))))) : Rn X d 106 0 [some (.ref 38)] [] (SS m J P) (QI post) := by
  refine s_aload_n (pc := 0) rfl rfl ?_
  refine s_getZ (pc := 1) rfl ko_38 ?_
  obtain ⟨hz1, hw⟩ := hw
  refine s_if_eq (pc := 4) (tgt := 29) rfl rfl hz1 (fun hc => ?_) (fun hc => ?_)
  · replace hw := hw.1 hc
    refine s_iconst (pc := 29) rfl ?_
    exact s_retz (pc := 30) rfl rfl (by decide) hw
  · replace hw := hw.2 hc
    refine s_aload_n (pc := 7) rfl rfl ?_
    refine s_getZ (pc := 8) rfl ko_38 ?_
    obtain ⟨hz2, hw⟩ := hw
    refine s_if_ne (pc := 11) (tgt := 29) rfl rfl hz2 (fun hc => ?_) (fun hc => ?_)
    · replace hw := hw.1 hc
      refine s_iconst (pc := 29) rfl ?_
      exact s_retz (pc := 30) rfl rfl (by decide) hw
    · replace hw := hw.2 hc
      refine s_aload_n (pc := 14) rfl rfl ?_
      refine s_getI (pc := 15) rfl ko_38 ?_
      refine s_aload_n (pc := 18) rfl rfl ?_
      refine s_getI (pc := 19) rfl ko_38 ?_
      obtain ⟨hz3, hw⟩ := hw
      obtain ⟨hz4, hw⟩ := hw
      refine s_ic_ge (pc := 22) (tgt := 29) rfl rfl hz3 hz4 (fun hc => ?_) (fun hc => ?_)
      · replace hw := hw.1 hc
        refine s_iconst (pc := 29) rfl ?_
        exact s_retz (pc := 30) rfl rfl (by decide) hw
      · replace hw := hw.2 hc
        refine s_iconst (pc := 25) rfl ?_
        refine s_goto (pc := 26) (tgt := 30) rfl rfl ?_
        exact s_retz (pc := 30) rfl rfl (by decide) hw

set_option maxRecDepth 20000 in
set_option maxHeartbeats 4000000 in
theorem b_Tree_grow_0 {X : aX} {d : Nat} (x1 : Nat) (kx1 : am_kd an_K x1 = some (.inl 10)) (m : Mi) (J : Mj) (P : Mp) (hp : PP P) (post : Int → Mi → Mj → Mp → Prop)
    (hw : Cv X (d + 4) 103 [.ref 38, .ref 8, .int (iz (m 38 13)), .ref x1] m J P (fun m1 J2 P3 => PP P3 ∧ ((0 : Int) ≤ (((m 38 13) * 9) + 4) ∧ ((((m 38 13) * 9) + 4) : Int) < 9000) ∧ ((0 : Int) ≤ (((m 38 13) * 9) + 5) ∧ ((((m 38 13) * 9) + 5) : Int) < 9000) ∧ Rn X (d + 5) 107 42 [some (.ref 38), some (.ref x1), some (.int (iz (m 38 13))), some (.int (iz ((m1 46 (((m 38 13) * 9) + 4).toNat) + (m1 46 (((m 38 13) * 9) + 5).toNat)))), some (.int (iz 0)), none] [] (SS m1 J2 P3) (QI post))) : Rn X (d + 5) 107 0 [some (.ref 38), some (.ref x1), none, none, none, none] [] (SS m J P) (QI post) := by
  refine s_aload_n (pc := 0) rfl rfl ?_
  refine s_getI (pc := 1) rfl ko_38 ?_
  refine s_istore_n (pc := 4) (L' := [some (.ref 38), some (.ref x1), some (.int (iz (m 38 13))), none, none, none]) rfl (Nat.le_of_ble_eq_true rfl) rfl ?_
  refine s_aload_n (pc := 5) rfl rfl ?_
  refine s_aload_n (pc := 6) rfl rfl ?_
  refine s_getA (pc := 7) rfl ko_38 (po_38_0 hp) ?_
  refine s_iload_n (pc := 10) rfl rfl ?_
  refine s_aload_n (pc := 11) rfl rfl ?_
  refine s_cv (pc := 12) (d := (d + 4)) (t := []) rfl rfl (am_ca_v (ps := [.ref x1, .int (iz (m 38 13)), .ref 8]) rfl ko_38) (Nat.le_of_ble_eq_true rfl) (Cv.weak hw fun m1 J2 P3 hw => ?_)
  obtain ⟨hp5, hw⟩ := hw
  refine s_aload_n (pc := 15) rfl rfl ?_
  refine s_getA (pc := 16) rfl ko_38 (po_38_4 hp5) ?_
  refine s_iload_n (pc := 19) rfl rfl ?_
  refine s_bipush (pc := 20) rfl (by decide) ?_
  refine s_imul (pc := 22) rfl ?_
  refine s_iconst (pc := 23) rfl ?_
  refine s_iadd (pc := 24) rfl ?_
  obtain ⟨hb6, hw⟩ := hw
  refine s_iald (pc := 25) rfl ka_46 (by decide) hb6 ?_
  refine s_aload_n (pc := 26) rfl rfl ?_
  refine s_getA (pc := 27) rfl ko_38 (po_38_4 hp5) ?_
  refine s_iload_n (pc := 30) rfl rfl ?_
  refine s_bipush (pc := 31) rfl (by decide) ?_
  refine s_imul (pc := 33) rfl ?_
  refine s_iconst (pc := 34) rfl ?_
  refine s_iadd (pc := 35) rfl ?_
  obtain ⟨hb7, hw⟩ := hw
  refine s_iald (pc := 36) rfl ka_46 (by decide) hb7 ?_
  refine s_iadd (pc := 37) rfl ?_
  refine s_istore_n (pc := 38) (L' := [some (.ref 38), some (.ref x1), some (.int (iz (m 38 13))), some (.int (iz ((m1 46 (((m 38 13) * 9) + 4).toNat) + (m1 46 (((m 38 13) * 9) + 5).toNat)))), none, none]) rfl (Nat.le_of_ble_eq_true rfl) rfl ?_
  refine s_iconst (pc := 39) rfl ?_
  refine s_istore (pc := 40) (L' := [some (.ref 38), some (.ref x1), some (.int (iz (m 38 13))), some (.int (iz ((m1 46 (((m 38 13) * 9) + 4).toNat) + (m1 46 (((m 38 13) * 9) + 5).toNat)))), some (.int (iz 0)), none]) rfl (Nat.le_of_ble_eq_true rfl) rfl ?_
  exact hw

set_option maxRecDepth 20000 in
set_option maxHeartbeats 4000000 in
theorem b_Tree_grow_42 {X : aX} {d : Nat} (x1 : Nat) (x2 : Int) (x3 : Int) (x4 : Int) (kx1 : am_kd an_K x1 = some (.inl 10)) (m : Mi) (J : Mj) (P : Mp) (hp : PP P) (post : Int → Mi → Mj → Mp → Prop)
    (hw : Zr (x4) ∧ Zr (x3) ∧ (((x3 ≤ x4) → post 1 (mu m 38 13 ((m 38 13) + 1)) J P) ∧ (¬ (x3 ≤ x4) → Zr (x4) ∧ Zr (m 8 2) ∧ ((((m 8 2) ≤ x4) → post 1 (mu m 38 13 ((m 38 13) + 1)) J P) ∧ (¬ ((m 8 2) ≤ x4) → ((0 : Int) ≤ x4 ∧ (x4 : Int) < 880) ∧ Ci X (d + 4) 108 [.int (iz (m (8 + 1) x4.toNat))] m J P (fun z9 m6 J7 P8 => PP P8 ∧ Zr (z9) ∧ (((¬ z9 = 0) → Rn X (d + 5) 107 82 [some (.ref 38), some (.ref x1), some (.int (iz x2)), some (.int (iz x3)), some (.int (iz x4)), some (.int (iz 0))] [] (SS m6 J7 P8) (QI post)) ∧ (¬ (¬ z9 = 0) → Rn X (d + 5) 107 42 [some (.ref 38), some (.ref x1), some (.int (iz x2)), some (.int (iz x3)), some (.int (iz (x4 + 1))), none] [] (SS m6 J7 P8) (QI post))))))))) : Rn X (d + 5) 107 42 [some (.ref 38), some (.ref x1), some (.int (iz x2)), some (.int (iz x3)), some (.int (iz x4)), none] [] (SS m J P) (QI post) := by
  refine s_iload (pc := 42) rfl rfl ?_
  refine s_iload_n (pc := 44) rfl rfl ?_
  obtain ⟨hz1, hw⟩ := hw
  obtain ⟨hz2, hw⟩ := hw
  refine s_ic_ge (pc := 45) (tgt := 146) rfl rfl hz1 hz2 (fun hc => ?_) (fun hc => ?_)
  · replace hw := hw.1 hc
    refine s_aload_n (pc := 146) rfl rfl ?_
    refine s_dup (pc := 147) rfl rfl ?_
    refine s_getI (pc := 148) rfl ko_38 ?_
    refine s_iconst (pc := 151) rfl ?_
    refine s_iadd (pc := 152) rfl ?_
    refine s_putI (pc := 153) rfl ko_38 ?_
    refine s_iconst (pc := 156) rfl ?_
    exact s_retz (pc := 157) rfl rfl (by decide) hw
  · replace hw := hw.2 hc
    refine s_iload (pc := 48) rfl rfl ?_
    refine s_aload_n (pc := 50) rfl rfl ?_
    refine s_getA (pc := 51) rfl ko_38 (po_38_0 hp) ?_
    refine s_getI (pc := 54) rfl (by decide +kernel) ?_
    obtain ⟨hz3, hw⟩ := hw
    obtain ⟨hz4, hw⟩ := hw
    refine s_ic_ge (pc := 57) (tgt := 146) rfl rfl hz3 hz4 (fun hc => ?_) (fun hc => ?_)
    · replace hw := hw.1 hc
      refine s_aload_n (pc := 146) rfl rfl ?_
      refine s_dup (pc := 147) rfl rfl ?_
      refine s_getI (pc := 148) rfl ko_38 ?_
      refine s_iconst (pc := 151) rfl ?_
      refine s_iadd (pc := 152) rfl ?_
      refine s_putI (pc := 153) rfl ko_38 ?_
      refine s_iconst (pc := 156) rfl ?_
      exact s_retz (pc := 157) rfl rfl (by decide) hw
    · replace hw := hw.2 hc
      refine s_aload_n (pc := 60) rfl rfl ?_
      refine s_getA (pc := 61) rfl ko_38 (po_38_0 hp) ?_
      refine s_getA (pc := 64) rfl (by decide +kernel) (pc_4_0 hp (by decide +kernel)) ?_
      refine s_iload (pc := 67) rfl rfl ?_
      obtain ⟨hb5, hw⟩ := hw
      refine s_iald (pc := 69) rfl (kc_4_0 (by decide +kernel)) (by decide) hb5 ?_
      refine s_ci (pc := 70) (d := (d + 4)) (t := []) rfl rfl (am_ca_s (ps := [.int (iz (m (8 + 1) x4.toNat))]) rfl) (Nat.le_of_ble_eq_true rfl) (Ci.weak hw fun z9 m6 J7 P8 hw => ?_)
      obtain ⟨hp10, hw⟩ := hw
      obtain ⟨hz11, hw⟩ := hw
      refine s_if_ne (pc := 73) (tgt := 79) rfl rfl hz11 (fun hc => ?_) (fun hc => ?_)
      · replace hw := hw.1 hc
        refine s_iconst (pc := 79) rfl ?_
        refine s_istore (pc := 80) (L' := [some (.ref 38), some (.ref x1), some (.int (iz x2)), some (.int (iz x3)), some (.int (iz x4)), some (.int (iz 0))]) rfl (Nat.le_of_ble_eq_true rfl) rfl ?_
        exact hw
      · replace hw := hw.2 hc
        refine s_goto (pc := 76) (tgt := 140) rfl rfl ?_
        refine s_iinc (pc := 140) (L' := [some (.ref 38), some (.ref x1), some (.int (iz x2)), some (.int (iz x3)), some (.int (iz (x4 + 1))), none]) rfl rfl (Nat.le_of_ble_eq_true rfl) rfl ?_
        refine s_goto (pc := 143) (tgt := 42) rfl rfl ?_
        exact hw

set_option maxRecDepth 20000 in
set_option maxHeartbeats 4000000 in
theorem b_Tree_grow_82 {X : aX} {d : Nat} (x1 : Nat) (x2 : Int) (x3 : Int) (x4 : Int) (x5 : Int) (kx1 : am_kd an_K x1 = some (.inl 10)) (m : Mi) (J : Mj) (P : Mp) (hp : PP P) (post : Int → Mi → Mj → Mp → Prop)
    (hw : Zr (x5) ∧ Zr (m x1 5) ∧ ((((m x1 5) ≤ x5) → Rn X (d + 5) 107 42 [some (.ref 38), some (.ref x1), some (.int (iz x2)), some (.int (iz x3)), some (.int (iz (x4 + 1))), none] [] (SS m J P) (QI post)) ∧ (¬ ((m x1 5) ≤ x5) → ((0 : Int) ≤ x4 ∧ (x4 : Int) < 880) ∧ ((0 : Int) ≤ x5 ∧ (x5 : Int) < 16) ∧ ((0 : Int) ≤ 0 ∧ (0 : Int) < 80) ∧ Zr (zand (m (8 + 1) x4.toNat) 31) ∧ Zr (m (x1 + 5 + 6 * x5.toNat + 1) (0 : Int).toNat) ∧ (((¬ (zand (m (8 + 1) x4.toNat) 31) = (m (x1 + 5 + 6 * x5.toNat + 1) (0 : Int).toNat)) → Rn X (d + 5) 107 82 [some (.ref 38), some (.ref x1), some (.int (iz x2)), some (.int (iz x3)), some (.int (iz x4)), some (.int (iz (x5 + 1)))] [] (SS m J P) (QI post)) ∧ (¬ (¬ (zand (m (8 + 1) x4.toNat) 31) = (m (x1 + 5 + 6 * x5.toNat + 1) (0 : Int).toNat)) → Ci X (d + 4) 109 [.ref 38, .int (iz x2), .int (iz x4), .int (iz x5), .ref x1] m J P (fun z11 m8 J9 P10 => PP P10 ∧ Zr (z11) ∧ (((¬ z11 = 0) → Rn X (d + 5) 107 82 [some (.ref 38), some (.ref x1), some (.int (iz x2)), some (.int (iz x3)), some (.int (iz x4)), some (.int (iz (x5 + 1)))] [] (SS m8 J9 P10) (QI post)) ∧ (¬ (¬ z11 = 0) → post 0 m8 J9 P10)))))))) : Rn X (d + 5) 107 82 [some (.ref 38), some (.ref x1), some (.int (iz x2)), some (.int (iz x3)), some (.int (iz x4)), some (.int (iz x5))] [] (SS m J P) (QI post) := by
  refine s_iload (pc := 82) rfl rfl ?_
  refine s_aload_n (pc := 84) rfl rfl ?_
  refine s_getI (pc := 85) rfl kx1 ?_
  obtain ⟨hz1, hw⟩ := hw
  obtain ⟨hz2, hw⟩ := hw
  refine s_ic_ge (pc := 88) (tgt := 140) rfl rfl hz1 hz2 (fun hc => ?_) (fun hc => ?_)
  · replace hw := hw.1 hc
    refine s_iinc (pc := 140) (L' := [some (.ref 38), some (.ref x1), some (.int (iz x2)), some (.int (iz x3)), some (.int (iz (x4 + 1))), some (.int (iz x5))]) rfl rfl (Nat.le_of_ble_eq_true rfl) rfl ?_
    refine s_goto (pc := 143) (tgt := 42) rfl rfl ?_
    exact Rn.weakL hw (LLe.keep _ (LLe.keep _ (LLe.keep _ (LLe.keep _ (LLe.keep _ (LLe.drop _ (LLe.nil)))))))
  · replace hw := hw.2 hc
    refine s_aload_n (pc := 91) rfl rfl ?_
    refine s_getA (pc := 92) rfl ko_38 (po_38_0 hp) ?_
    refine s_getA (pc := 95) rfl (by decide +kernel) (pc_4_0 hp (by decide +kernel)) ?_
    refine s_iload (pc := 98) rfl rfl ?_
    obtain ⟨hb3, hw⟩ := hw
    refine s_iald (pc := 100) rfl (kc_4_0 (by decide +kernel)) (by decide) hb3 ?_
    refine s_bipush (pc := 101) rfl (by decide) ?_
    refine s_iand (pc := 103) rfl ?_
    refine s_aload_n (pc := 104) rfl rfl ?_
    refine s_getA (pc := 105) rfl kx1 (pc_10_3 hp kx1) ?_
    refine s_iload (pc := 108) rfl rfl ?_
    obtain ⟨hb4, hw⟩ := hw
    refine s_aald (pc := 110) rfl (kc_10_3 kx1) (by decide) hb4 (pr hp kx1 hb4) ?_
    refine s_getA (pc := 111) rfl (kr kx1 hb4) (pc_8_0 hp (kr kx1 hb4)) ?_
    refine s_iconst (pc := 114) rfl ?_
    obtain ⟨hb5, hw⟩ := hw
    refine s_iald (pc := 115) rfl (kc_8_0 (kr kx1 hb4)) (by decide) hb5 ?_
    obtain ⟨hz6, hw⟩ := hw
    obtain ⟨hz7, hw⟩ := hw
    refine s_ic_ne (pc := 116) (tgt := 134) rfl rfl hz6 hz7 (fun hc => ?_) (fun hc => ?_)
    · replace hw := hw.1 hc
      refine s_iinc (pc := 134) (L' := [some (.ref 38), some (.ref x1), some (.int (iz x2)), some (.int (iz x3)), some (.int (iz x4)), some (.int (iz (x5 + 1)))]) rfl rfl (Nat.le_of_ble_eq_true rfl) rfl ?_
      refine s_goto (pc := 137) (tgt := 82) rfl rfl ?_
      exact hw
    · replace hw := hw.2 hc
      refine s_aload_n (pc := 119) rfl rfl ?_
      refine s_iload_n (pc := 120) rfl rfl ?_
      refine s_iload (pc := 121) rfl rfl ?_
      refine s_iload (pc := 123) rfl rfl ?_
      refine s_aload_n (pc := 125) rfl rfl ?_
      refine s_ci (pc := 126) (d := (d + 4)) (t := []) rfl rfl (am_ca_v (ps := [.ref x1, .int (iz x5), .int (iz x4), .int (iz x2)]) rfl ko_38) (Nat.le_of_ble_eq_true rfl) (Ci.weak hw fun z11 m8 J9 P10 hw => ?_)
      obtain ⟨hp12, hw⟩ := hw
      obtain ⟨hz13, hw⟩ := hw
      refine s_if_ne (pc := 129) (tgt := 134) rfl rfl hz13 (fun hc => ?_) (fun hc => ?_)
      · replace hw := hw.1 hc
        refine s_iinc (pc := 134) (L' := [some (.ref 38), some (.ref x1), some (.int (iz x2)), some (.int (iz x3)), some (.int (iz x4)), some (.int (iz (x5 + 1)))]) rfl rfl (Nat.le_of_ble_eq_true rfl) rfl ?_
        refine s_goto (pc := 137) (tgt := 82) rfl rfl ?_
        exact hw
      · replace hw := hw.2 hc
        refine s_iconst (pc := 132) rfl ?_
        exact s_retz (pc := 133) rfl rfl (by decide) hw

set_option maxRecDepth 20000 in
set_option maxHeartbeats 4000000 in
theorem b_Tree_isMarked_0 {X : aX} {d : Nat} (x0 : Int)  (m : Mi) (J : Mj) (P : Mp) (hp : PP P) (post : Int → Mi → Mj → Mp → Prop)
    (hw : Zr (x0) ∧ (((x0 < 0) → post 0 m J P) ∧ (¬ (x0 < 0) → Zr (zand x0 32) ∧ ((((zand x0 32) = 0) → post 0 m J P) ∧ (¬ ((zand x0 32) = 0) → post 1 m J P))))) : Rn X d 108 0 [some (.int (iz x0))] [] (SS m J P) (QI post) := by
  refine s_iload_n (pc := 0) rfl rfl ?_
  obtain ⟨hz1, hw⟩ := hw
  refine s_if_lt (pc := 1) (tgt := 15) rfl rfl hz1 (fun hc => ?_) (fun hc => ?_)
  · replace hw := hw.1 hc
    refine s_iconst (pc := 15) rfl ?_
    exact s_retz (pc := 16) rfl rfl (by decide) hw
  · replace hw := hw.2 hc
    refine s_iload_n (pc := 4) rfl rfl ?_
    refine s_bipush (pc := 5) rfl (by decide) ?_
    refine s_iand (pc := 7) rfl ?_
    obtain ⟨hz2, hw⟩ := hw
    refine s_if_eq (pc := 8) (tgt := 15) rfl rfl hz2 (fun hc => ?_) (fun hc => ?_)
    · replace hw := hw.1 hc
      refine s_iconst (pc := 15) rfl ?_
      exact s_retz (pc := 16) rfl rfl (by decide) hw
    · replace hw := hw.2 hc
      refine s_iconst (pc := 11) rfl ?_
      refine s_goto (pc := 12) (tgt := 16) rfl rfl ?_
      exact s_retz (pc := 16) rfl rfl (by decide) hw

set_option maxRecDepth 20000 in
set_option maxHeartbeats 4000000 in
theorem b_Tree_narrow_0 {X : aX} {d : Nat} (x1 : Int) (x2 : Int) (x3 : Int) (x4 : Nat) (kx4 : am_kd an_K x4 = some (.inl 10)) (m : Mi) (J : Mj) (P : Mp) (hp : PP P) (post : Int → Mi → Mj → Mp → Prop)
    (hw : ((0 : Int) ≤ x3 ∧ (x3 : Int) < 16) ∧ Cv X (d + 3) 52 [.ref 8, .ref (x4 + 5 + 6 * x3.toNat)] m J P (fun m2 J3 P4 => PP P4 ∧ Ci X (d + 3) 53 [.ref 8, .int (iz x2), .int (iz (m2 8 2))] m2 J3 P4 (fun z10 m7 J8 P9 => PP P9 ∧ Zr (z10) ∧ (((¬ z10 = 0) → Cv X (d + 3) 60 [.ref 8, .int (iz x2), .int (iz ((m7 8 2) + (m7 (x4 + 5 + 6 * x3.toNat) 5)))] m7 J8 P9 (fun m13 J14 P15 => PP P15 ∧ ((0 : Int) ≤ ((x1 * 9) + 4) ∧ (((x1 * 9) + 4) : Int) < 9000) ∧ ((0 : Int) ≤ ((x1 * 9) + 5) ∧ (((x1 * 9) + 5) : Int) < 9000) ∧ Ci X (d + 3) 61 [.ref 8, .int (iz 0), .int (iz 100), .int (iz (m13 38 10))] m13 J14 P15 (fun z23 m20 J21 P22 => PP P22 ∧ Zr (z23) ∧ (((¬ z23 = ((-1))) → Ci X (d + 3) 61 [.ref 8, .int (iz (m13 46 ((x1 * 9) + 4).toNat)), .int (iz 100), .int (iz (m20 38 10))] m20 J21 P22 (fun z29 m26 J27 P28 => PP P28 ∧ Zr (z29) ∧ (((z29 = ((-1))) → post 1 (mu m26 38 14 ((m26 38 14) + 1)) J27 P28) ∧ (¬ (z29 = ((-1))) → (∃ q32, P28 38 2 = some q32 ∧ am_kd an_K q32 = some (.inl 8) ∧ Ci X (d + 3) 93 [.ref 8, .int (iz ((m13 46 ((x1 * 9) + 4).toNat) + (m13 46 ((x1 * 9) + 5).toNat))), .int (iz (m26 q32 7))] m26 J27 P28 (fun z36 m33 J34 P35 => PP P35 ∧ Zr (z36) ∧ (((¬ z36 = 0) → Zr (m33 38 11) ∧ (((1000 ≤ (m33 38 11)) → post 0 (mu m33 38 9 1) J34 P35) ∧ (¬ (1000 ≤ (m33 38 11)) → Ci X (d + 3) 104 [.ref 38] m33 J34 P35 (fun z43 m40 J41 P42 => PP P42 ∧ Zr ((z43 + 4) + (m40 8 12)) ∧ (((((z43 + 4) + (m40 8 12)) ≤ 30000) → Cv X (d + 3) 65 [.ref 8] m40 J41 P42 (fun m46 J47 P48 => PP P48 ∧ Ci X (d + 3) 99 [.ref 38, .int (iz z23), .int (iz z29), .int (iz x1)] m46 J47 P48 (fun z54 m51 J52 P53 => PP P53 ∧ Cv X (d + 3) 101 [.ref 38, .int (iz z54), .int (iz x2), .int (iz x3)] m51 J52 P53 (fun m56 J57 P58 => PP P58 ∧ Ci X (d + 3) 102 [.ref 38, .int (iz z54), .ref x4] m56 J57 P58 (fun z64 m61 J62 P63 => PP P63 ∧ (z64 = 0 ∨ z64 = 1) ∧ post z64 m61 J62 P63))))) ∧ (¬ (((z43 + 4) + (m40 8 12)) ≤ 30000) → post 0 (mu m40 38 9 1) J41 P42)))))) ∧ (¬ (¬ z36 = 0) → post 1 (mu m33 38 14 ((m33 38 14) + 1)) J34 P35)))))))) ∧ (¬ (¬ z23 = ((-1))) → post 1 (mu m20 38 14 ((m20 38 14) + 1)) J21 P22))))) ∧ (¬ (¬ z10 = 0) → post 1 m7 J8 P9))))) : Rn X (d + 4) 109 0 [some (.ref 38), some (.int (iz x1)), some (.int (iz x2)), some (.int (iz x3)), some (.ref x4), none, none, none, none, none, none] [] (SS m J P) (QI post) := by
  refine s_aload (pc := 0) rfl rfl ?_
  refine s_getA (pc := 2) rfl kx4 (pc_10_3 hp kx4) ?_
  refine s_iload_n (pc := 5) rfl rfl ?_
  obtain ⟨hb1, hw⟩ := hw
  refine s_aald (pc := 6) rfl (kc_10_3 kx4) (by decide) hb1 (pr hp kx4 hb1) ?_
  refine s_astore (pc := 7) (L' := [some (.ref 38), some (.int (iz x1)), some (.int (iz x2)), some (.int (iz x3)), some (.ref x4), some (.ref (x4 + 5 + 6 * x3.toNat)), none, none, none, none, none]) rfl (Nat.le_of_ble_eq_true rfl) rfl ?_
  refine s_aload_n (pc := 9) rfl rfl ?_
  refine s_getA (pc := 10) rfl ko_38 (po_38_0 hp) ?_
  refine s_aload (pc := 13) rfl rfl ?_
  refine s_cv (pc := 15) (d := (d + 3)) (t := []) rfl rfl (am_ca_v (ps := [.ref (x4 + 5 + 6 * x3.toNat)]) rfl (by decide +kernel)) (Nat.le_of_ble_eq_true rfl) (Cv.weak hw fun m2 J3 P4 hw => ?_)
  obtain ⟨hp6, hw⟩ := hw
  refine s_aload_n (pc := 18) rfl rfl ?_
  refine s_getA (pc := 19) rfl ko_38 (po_38_0 hp6) ?_
  refine s_iload_n (pc := 22) rfl rfl ?_
  refine s_aload_n (pc := 23) rfl rfl ?_
  refine s_getA (pc := 24) rfl ko_38 (po_38_0 hp6) ?_
  refine s_getI (pc := 27) rfl (by decide +kernel) ?_
  refine s_ci (pc := 30) (d := (d + 3)) (t := []) rfl rfl (am_ca_v (ps := [.int (iz (m2 8 2)), .int (iz x2)]) rfl (by decide +kernel)) (Nat.le_of_ble_eq_true rfl) (Ci.weak hw fun z10 m7 J8 P9 hw => ?_)
  obtain ⟨hp11, hw⟩ := hw
  obtain ⟨hz12, hw⟩ := hw
  refine s_if_ne (pc := 33) (tgt := 38) rfl rfl hz12 (fun hc => ?_) (fun hc => ?_)
  · replace hw := hw.1 hc
    refine s_aload_n (pc := 38) rfl rfl ?_
    refine s_getA (pc := 39) rfl ko_38 (po_38_0 hp11) ?_
    refine s_iload_n (pc := 42) rfl rfl ?_
    refine s_aload_n (pc := 43) rfl rfl ?_
    refine s_getA (pc := 44) rfl ko_38 (po_38_0 hp11) ?_
    refine s_getI (pc := 47) rfl (by decide +kernel) ?_
    refine s_aload (pc := 50) rfl rfl ?_
    refine s_getI (pc := 52) rfl (kr kx4 hb1) ?_
    refine s_iadd (pc := 55) rfl ?_
    refine s_cv (pc := 56) (d := (d + 3)) (t := []) rfl rfl (am_ca_v (ps := [.int (iz ((m7 8 2) + (m7 (x4 + 5 + 6 * x3.toNat) 5))), .int (iz x2)]) rfl (by decide +kernel)) (Nat.le_of_ble_eq_true rfl) (Cv.weak hw fun m13 J14 P15 hw => ?_)
    obtain ⟨hp17, hw⟩ := hw
    refine s_aload_n (pc := 59) rfl rfl ?_
    refine s_getA (pc := 60) rfl ko_38 (po_38_4 hp17) ?_
    refine s_iload_n (pc := 63) rfl rfl ?_
    refine s_bipush (pc := 64) rfl (by decide) ?_
    refine s_imul (pc := 66) rfl ?_
    refine s_iconst (pc := 67) rfl ?_
    refine s_iadd (pc := 68) rfl ?_
    obtain ⟨hb18, hw⟩ := hw
    refine s_iald (pc := 69) rfl ka_46 (by decide) hb18 ?_
    refine s_istore (pc := 70) (L' := [some (.ref 38), some (.int (iz x1)), some (.int (iz x2)), some (.int (iz x3)), some (.ref x4), some (.ref (x4 + 5 + 6 * x3.toNat)), some (.int (iz (m13 46 ((x1 * 9) + 4).toNat))), none, none, none, none]) rfl (Nat.le_of_ble_eq_true rfl) rfl ?_
    refine s_iload (pc := 72) rfl rfl ?_
    refine s_aload_n (pc := 74) rfl rfl ?_
    refine s_getA (pc := 75) rfl ko_38 (po_38_4 hp17) ?_
    refine s_iload_n (pc := 78) rfl rfl ?_
    refine s_bipush (pc := 79) rfl (by decide) ?_
    refine s_imul (pc := 81) rfl ?_
    refine s_iconst (pc := 82) rfl ?_
    refine s_iadd (pc := 83) rfl ?_
    obtain ⟨hb19, hw⟩ := hw
    refine s_iald (pc := 84) rfl ka_46 (by decide) hb19 ?_
    refine s_iadd (pc := 85) rfl ?_
    refine s_istore (pc := 86) (L' := [some (.ref 38), some (.int (iz x1)), some (.int (iz x2)), some (.int (iz x3)), some (.ref x4), some (.ref (x4 + 5 + 6 * x3.toNat)), some (.int (iz (m13 46 ((x1 * 9) + 4).toNat))), some (.int (iz ((m13 46 ((x1 * 9) + 4).toNat) + (m13 46 ((x1 * 9) + 5).toNat)))), none, none, none]) rfl (Nat.le_of_ble_eq_true rfl) rfl ?_
    refine s_aload_n (pc := 88) rfl rfl ?_
    refine s_getA (pc := 89) rfl ko_38 (po_38_0 hp17) ?_
    refine s_iconst (pc := 92) rfl ?_
    refine s_bipush (pc := 93) rfl (by decide) ?_
    refine s_aload_n (pc := 95) rfl rfl ?_
    refine s_getI (pc := 96) rfl ko_38 ?_
    refine s_ci (pc := 99) (d := (d + 3)) (t := []) rfl rfl (am_ca_v (ps := [.int (iz (m13 38 10)), .int (iz 100), .int (iz 0)]) rfl (by decide +kernel)) (Nat.le_of_ble_eq_true rfl) (Ci.weak hw fun z23 m20 J21 P22 hw => ?_)
    obtain ⟨hp24, hw⟩ := hw
    refine s_istore (pc := 102) (L' := [some (.ref 38), some (.int (iz x1)), some (.int (iz x2)), some (.int (iz x3)), some (.ref x4), some (.ref (x4 + 5 + 6 * x3.toNat)), some (.int (iz (m13 46 ((x1 * 9) + 4).toNat))), some (.int (iz ((m13 46 ((x1 * 9) + 4).toNat) + (m13 46 ((x1 * 9) + 5).toNat)))), some (.int (iz z23)), none, none]) rfl (Nat.le_of_ble_eq_true rfl) rfl ?_
    refine s_iload (pc := 104) rfl rfl ?_
    refine s_iconst (pc := 106) rfl ?_
    obtain ⟨hz25, hw⟩ := hw
    refine s_ic_ne (pc := 107) (tgt := 114) rfl rfl hz25 (by decide) (fun hc => ?_) (fun hc => ?_)
    · replace hw := hw.1 hc
      refine s_aload_n (pc := 114) rfl rfl ?_
      refine s_getA (pc := 115) rfl ko_38 (po_38_0 hp24) ?_
      refine s_iload (pc := 118) rfl rfl ?_
      refine s_bipush (pc := 120) rfl (by decide) ?_
      refine s_aload_n (pc := 122) rfl rfl ?_
      refine s_getI (pc := 123) rfl ko_38 ?_
      refine s_ci (pc := 126) (d := (d + 3)) (t := []) rfl rfl (am_ca_v (ps := [.int (iz (m20 38 10)), .int (iz 100), .int (iz (m13 46 ((x1 * 9) + 4).toNat))]) rfl (by decide +kernel)) (Nat.le_of_ble_eq_true rfl) (Ci.weak hw fun z29 m26 J27 P28 hw => ?_)
      obtain ⟨hp30, hw⟩ := hw
      refine s_istore (pc := 129) (L' := [some (.ref 38), some (.int (iz x1)), some (.int (iz x2)), some (.int (iz x3)), some (.ref x4), some (.ref (x4 + 5 + 6 * x3.toNat)), some (.int (iz (m13 46 ((x1 * 9) + 4).toNat))), some (.int (iz ((m13 46 ((x1 * 9) + 4).toNat) + (m13 46 ((x1 * 9) + 5).toNat)))), some (.int (iz z23)), some (.int (iz z29)), none]) rfl (Nat.le_of_ble_eq_true rfl) rfl ?_
      refine s_iload (pc := 131) rfl rfl ?_
      refine s_iconst (pc := 133) rfl ?_
      obtain ⟨hz31, hw⟩ := hw
      refine s_ic_eq (pc := 134) (tgt := 156) rfl rfl hz31 (by decide) (fun hc => ?_) (fun hc => ?_)
      · replace hw := hw.1 hc
        refine s_aload_n (pc := 156) rfl rfl ?_
        refine s_dup (pc := 157) rfl rfl ?_
        refine s_getI (pc := 158) rfl ko_38 ?_
        refine s_iconst (pc := 161) rfl ?_
        refine s_iadd (pc := 162) rfl ?_
        refine s_putI (pc := 163) rfl ko_38 ?_
        refine s_iconst (pc := 166) rfl ?_
        exact s_retz (pc := 167) rfl rfl (by decide) hw
      · replace hw := hw.2 hc
        refine s_aload_n (pc := 137) rfl rfl ?_
        refine s_getA (pc := 138) rfl ko_38 (po_38_0 hp30) ?_
        refine s_iload (pc := 141) rfl rfl ?_
        refine s_aload_n (pc := 143) rfl rfl ?_
        obtain ⟨q32, hq32, kq32, hw⟩ := hw
        refine s_getA (pc := 144) rfl ko_38 hq32 ?_
        refine s_getI (pc := 147) rfl kq32 ?_
        refine s_ci (pc := 150) (d := (d + 3)) (t := []) rfl rfl (am_ca_v (ps := [.int (iz (m26 q32 7)), .int (iz ((m13 46 ((x1 * 9) + 4).toNat) + (m13 46 ((x1 * 9) + 5).toNat)))]) rfl (by decide +kernel)) (Nat.le_of_ble_eq_true rfl) (Ci.weak hw fun z36 m33 J34 P35 hw => ?_)
        obtain ⟨hp37, hw⟩ := hw
        obtain ⟨hz38, hw⟩ := hw
        refine s_if_ne (pc := 153) (tgt := 168) rfl rfl hz38 (fun hc => ?_) (fun hc => ?_)
        · replace hw := hw.1 hc
          refine s_aload_n (pc := 168) rfl rfl ?_
          refine s_getI (pc := 169) rfl ko_38 ?_
          refine s_sipush (pc := 172) rfl (by decide) ?_
          obtain ⟨hz39, hw⟩ := hw
          refine s_ic_ge (pc := 175) (tgt := 198) rfl rfl hz39 (by decide) (fun hc => ?_) (fun hc => ?_)
          · replace hw := hw.1 hc
            refine s_aload_n (pc := 198) rfl rfl ?_
            refine s_iconst (pc := 199) rfl ?_
            refine s_putZ (pc := 200) rfl ko_38 (by decide) ?_
            refine s_iconst (pc := 203) rfl ?_
            exact s_retz (pc := 204) rfl rfl (by decide) hw
          · replace hw := hw.2 hc
            refine s_aload_n (pc := 178) rfl rfl ?_
            refine s_ci (pc := 179) (d := (d + 3)) (t := []) rfl rfl (am_ca_v (ps := []) rfl ko_38) (Nat.le_of_ble_eq_true rfl) (Ci.weak hw fun z43 m40 J41 P42 hw => ?_)
            obtain ⟨hp44, hw⟩ := hw
            refine s_iconst (pc := 182) rfl ?_
            refine s_iadd (pc := 183) rfl ?_
            refine s_aload_n (pc := 184) rfl rfl ?_
            refine s_getA (pc := 185) rfl ko_38 (po_38_0 hp44) ?_
            refine s_getI (pc := 188) rfl (by decide +kernel) ?_
            refine s_iadd (pc := 191) rfl ?_
            refine s_sipush (pc := 192) rfl (by decide) ?_
            obtain ⟨hz45, hw⟩ := hw
            refine s_ic_le (pc := 195) (tgt := 205) rfl rfl hz45 (by decide) (fun hc => ?_) (fun hc => ?_)
            · replace hw := hw.1 hc
              refine s_aload_n (pc := 205) rfl rfl ?_
              refine s_getA (pc := 206) rfl ko_38 (po_38_0 hp44) ?_
              refine s_cv (pc := 209) (d := (d + 3)) (t := []) rfl rfl (am_ca_v (ps := []) rfl (by decide +kernel)) (Nat.le_of_ble_eq_true rfl) (Cv.weak hw fun m46 J47 P48 hw => ?_)
              obtain ⟨hp50, hw⟩ := hw
              refine s_aload_n (pc := 212) rfl rfl ?_
              refine s_iload (pc := 213) rfl rfl ?_
              refine s_iload (pc := 215) rfl rfl ?_
              refine s_iload_n (pc := 217) rfl rfl ?_
              refine s_ci (pc := 218) (d := (d + 3)) (t := []) rfl rfl (am_ca_v (ps := [.int (iz x1), .int (iz z29), .int (iz z23)]) rfl ko_38) (Nat.le_of_ble_eq_true rfl) (Ci.weak hw fun z54 m51 J52 P53 hw => ?_)
              obtain ⟨hp55, hw⟩ := hw
              refine s_istore (pc := 221) (L' := [some (.ref 38), some (.int (iz x1)), some (.int (iz x2)), some (.int (iz x3)), some (.ref x4), some (.ref (x4 + 5 + 6 * x3.toNat)), some (.int (iz (m13 46 ((x1 * 9) + 4).toNat))), some (.int (iz ((m13 46 ((x1 * 9) + 4).toNat) + (m13 46 ((x1 * 9) + 5).toNat)))), some (.int (iz z23)), some (.int (iz z29)), some (.int (iz z54))]) rfl (Nat.le_of_ble_eq_true rfl) rfl ?_
              refine s_aload_n (pc := 223) rfl rfl ?_
              refine s_iload (pc := 224) rfl rfl ?_
              refine s_iload_n (pc := 226) rfl rfl ?_
              refine s_iload_n (pc := 227) rfl rfl ?_
              refine s_cv (pc := 228) (d := (d + 3)) (t := []) rfl rfl (am_ca_v (ps := [.int (iz x3), .int (iz x2), .int (iz z54)]) rfl ko_38) (Nat.le_of_ble_eq_true rfl) (Cv.weak hw fun m56 J57 P58 hw => ?_)
              obtain ⟨hp60, hw⟩ := hw
              refine s_aload_n (pc := 231) rfl rfl ?_
              refine s_iload (pc := 232) rfl rfl ?_
              refine s_aload (pc := 234) rfl rfl ?_
              refine s_ci (pc := 236) (d := (d + 3)) (t := []) rfl rfl (am_ca_v (ps := [.ref x4, .int (iz z54)]) rfl ko_38) (Nat.le_of_ble_eq_true rfl) (Ci.weak hw fun z64 m61 J62 P63 hw => ?_)
              obtain ⟨hp65, hw⟩ := hw
              exact s_retz (pc := 239) rfl rfl hw.1 hw.2
            · replace hw := hw.2 hc
              refine s_aload_n (pc := 198) rfl rfl ?_
              refine s_iconst (pc := 199) rfl ?_
              refine s_putZ (pc := 200) rfl ko_38 (by decide) ?_
              refine s_iconst (pc := 203) rfl ?_
              exact s_retz (pc := 204) rfl rfl (by decide) hw
        · replace hw := hw.2 hc
          refine s_aload_n (pc := 156) rfl rfl ?_
          refine s_dup (pc := 157) rfl rfl ?_
          refine s_getI (pc := 158) rfl ko_38 ?_
          refine s_iconst (pc := 161) rfl ?_
          refine s_iadd (pc := 162) rfl ?_
          refine s_putI (pc := 163) rfl ko_38 ?_
          refine s_iconst (pc := 166) rfl ?_
          exact s_retz (pc := 167) rfl rfl (by decide) hw
    · replace hw := hw.2 hc
      refine s_iconst (pc := 110) rfl ?_
      refine s_goto (pc := 111) (tgt := 129) rfl rfl ?_
      refine s_istore (pc := 129) (L' := [some (.ref 38), some (.int (iz x1)), some (.int (iz x2)), some (.int (iz x3)), some (.ref x4), some (.ref (x4 + 5 + 6 * x3.toNat)), some (.int (iz (m13 46 ((x1 * 9) + 4).toNat))), some (.int (iz ((m13 46 ((x1 * 9) + 4).toNat) + (m13 46 ((x1 * 9) + 5).toNat)))), some (.int (iz z23)), some (.int (iz ((-1)))), none]) rfl (Nat.le_of_ble_eq_true rfl) rfl ?_
      refine s_iload (pc := 131) rfl rfl ?_
      refine s_iconst (pc := 133) rfl ?_
      refine s_ic_eq (pc := 134) (tgt := 156) rfl rfl (by decide) (by decide) (fun hc => ?_) (fun hc => ?_)
      rotate_left
      · exact absurd hc (by decide)
      refine s_aload_n (pc := 156) rfl rfl ?_
      refine s_dup (pc := 157) rfl rfl ?_
      refine s_getI (pc := 158) rfl ko_38 ?_
      refine s_iconst (pc := 161) rfl ?_
      refine s_iadd (pc := 162) rfl ?_
      refine s_putI (pc := 163) rfl ko_38 ?_
      refine s_iconst (pc := 166) rfl ?_
      exact s_retz (pc := 167) rfl rfl (by decide) hw
  · replace hw := hw.2 hc
    refine s_iconst (pc := 36) rfl ?_
    exact s_retz (pc := 37) rfl rfl (by decide) hw

set_option maxRecDepth 20000 in
set_option maxHeartbeats 4000000 in
theorem b_Nh_tree_0 {X : aX} {d : Nat} (x1 : Int)  (m : Mi) (J : Mj) (P : Mp) (hp : PP P) (post : Int → Mi → Mj → Mp → Prop)
    (hw : Ci X (d + 1) 111 [.ref 38, .int (iz x1)] m J P (fun z4 m1 J2 P3 => PP P3 ∧ post z4 m1 J2 P3)) : Rn X (d + 2) 110 0 [some (.ref 1), some (.int (iz x1))] [] (SS m J P) (QI post) := by
  refine s_aload_n (pc := 0) rfl rfl ?_
  refine s_getA (pc := 1) rfl ko_1 (po_1_6 hp) ?_
  refine s_iload_n (pc := 4) rfl rfl ?_
  refine s_ci (pc := 5) (d := (d + 1)) (t := []) rfl rfl (am_ca_v (ps := [.int (iz x1)]) rfl ko_38) (Nat.le_of_ble_eq_true rfl) (Ci.weak hw fun z4 m1 J2 P3 hw => ?_)
  obtain ⟨hp5, hw⟩ := hw
  exact s_reti (pc := 8) rfl rfl hw

set_option maxRecDepth 20000 in
set_option maxHeartbeats 4000000 in
theorem b_Tree_tell_0 {X : aX} {d : Nat} (x1 : Int)  (m : Mi) (J : Mj) (P : Mp) (hp : PP P) (post : Int → Mi → Mj → Mp → Prop)
    (hw : Zr (x1) ∧ (((x1 < 0) → post ((-1)) m J P) ∧ (¬ (x1 < 0) → Zr (x1) ∧ (((x1 ≤ 6) → Zr (m 38 8) ∧ (((¬ (m 38 8) = 0) → Zr (x1) ∧ (((x1 = 0) → Zr (m 38 9) ∧ ((((m 38 9) = 0) → Ci X d 106 [.ref 38] m J P (fun z9 m6 J7 P8 => PP P8 ∧ Zr (z9) ∧ (((z9 = 0) → post 2 m6 J7 P8) ∧ (¬ (z9 = 0) → post 1 m6 J7 P8)))) ∧ (¬ ((m 38 9) = 0) → post 3 m J P))) ∧ ((x1 = 1) → post (m 38 11) m J P) ∧ ((x1 = 2) → post (m 38 13) m J P) ∧ ((x1 = 3) → post (m 38 12) m J P) ∧ ((x1 = 4) → post (m 38 14) m J P) ∧ ((x1 = 5) → Ci X d 104 [.ref 38] m J P (fun z15 m12 J13 P14 => PP P14 ∧ post z15 m12 J13 P14)) ∧ ((x1 < 0 ∨ 5 < x1) → (∃ q17, P 38 2 = some q17 ∧ am_kd an_K q17 = some (.inl 8) ∧ post (m q17 7) m J P)))) ∧ (¬ (¬ (m 38 8) = 0) → post 0 m J P))) ∧ (¬ (x1 ≤ 6) → post ((-1)) m J P))))) : Rn X (d + 1) 111 0 [some (.ref 38), some (.int (iz x1))] [] (SS m J P) (QI post) := by
  refine s_iload_n (pc := 0) rfl rfl ?_
  obtain ⟨hz1, hw⟩ := hw
  refine s_if_lt (pc := 1) (tgt := 10) rfl rfl hz1 (fun hc => ?_) (fun hc => ?_)
  · replace hw := hw.1 hc
    refine s_iconst (pc := 10) rfl ?_
    exact s_reti (pc := 11) rfl rfl hw
  · replace hw := hw.2 hc
    refine s_iload_n (pc := 4) rfl rfl ?_
    refine s_bipush (pc := 5) rfl (by decide) ?_
    obtain ⟨hz2, hw⟩ := hw
    refine s_ic_le (pc := 7) (tgt := 12) rfl rfl hz2 (by decide) (fun hc => ?_) (fun hc => ?_)
    · replace hw := hw.1 hc
      refine s_aload_n (pc := 12) rfl rfl ?_
      refine s_getZ (pc := 13) rfl ko_38 ?_
      obtain ⟨hz3, hw⟩ := hw
      refine s_if_ne (pc := 16) (tgt := 21) rfl rfl hz3 (fun hc => ?_) (fun hc => ?_)
      · replace hw := hw.1 hc
        refine s_iload_n (pc := 21) rfl rfl ?_
        obtain ⟨hz4, hw⟩ := hw
        by_cases hs0 : x1 = 0
        · replace hw := hw.1 hs0
          refine s_tsw_at (pc := 22) (v := 0) (tgt := 60) rfl hz4 hs0 (by decide) rfl rfl ?_
          refine s_aload_n (pc := 60) rfl rfl ?_
          refine s_getZ (pc := 61) rfl ko_38 ?_
          obtain ⟨hz5, hw⟩ := hw
          refine s_if_eq (pc := 64) (tgt := 71) rfl rfl hz5 (fun hc => ?_) (fun hc => ?_)
          · replace hw := hw.1 hc
            refine s_aload_n (pc := 71) rfl rfl ?_
            refine s_ci (pc := 72) (d := d) (t := []) rfl rfl (am_ca_v (ps := []) rfl ko_38) (Nat.le_of_ble_eq_true rfl) (Ci.weak hw fun z9 m6 J7 P8 hw => ?_)
            obtain ⟨hp10, hw⟩ := hw
            obtain ⟨hz11, hw⟩ := hw
            refine s_if_eq (pc := 75) (tgt := 82) rfl rfl hz11 (fun hc => ?_) (fun hc => ?_)
            · replace hw := hw.1 hc
              refine s_iconst (pc := 82) rfl ?_
              exact s_reti (pc := 83) rfl rfl hw
            · replace hw := hw.2 hc
              refine s_iconst (pc := 78) rfl ?_
              refine s_goto (pc := 79) (tgt := 83) rfl rfl ?_
              exact s_reti (pc := 83) rfl rfl hw
          · replace hw := hw.2 hc
            refine s_iconst (pc := 67) rfl ?_
            refine s_goto (pc := 68) (tgt := 83) rfl rfl ?_
            exact s_reti (pc := 83) rfl rfl hw
        replace hw := hw.2
        by_cases hs1 : x1 = 1
        · replace hw := hw.1 hs1
          refine s_tsw_at (pc := 22) (v := 1) (tgt := 84) rfl hz4 hs1 (by decide) rfl rfl ?_
          refine s_aload_n (pc := 84) rfl rfl ?_
          refine s_getI (pc := 85) rfl ko_38 ?_
          exact s_reti (pc := 88) rfl rfl hw
        replace hw := hw.2
        by_cases hs2 : x1 = 2
        · replace hw := hw.1 hs2
          refine s_tsw_at (pc := 22) (v := 2) (tgt := 89) rfl hz4 hs2 (by decide) rfl rfl ?_
          refine s_aload_n (pc := 89) rfl rfl ?_
          refine s_getI (pc := 90) rfl ko_38 ?_
          exact s_reti (pc := 93) rfl rfl hw
        replace hw := hw.2
        by_cases hs3 : x1 = 3
        · replace hw := hw.1 hs3
          refine s_tsw_at (pc := 22) (v := 3) (tgt := 94) rfl hz4 hs3 (by decide) rfl rfl ?_
          refine s_aload_n (pc := 94) rfl rfl ?_
          refine s_getI (pc := 95) rfl ko_38 ?_
          exact s_reti (pc := 98) rfl rfl hw
        replace hw := hw.2
        by_cases hs4 : x1 = 4
        · replace hw := hw.1 hs4
          refine s_tsw_at (pc := 22) (v := 4) (tgt := 99) rfl hz4 hs4 (by decide) rfl rfl ?_
          refine s_aload_n (pc := 99) rfl rfl ?_
          refine s_getI (pc := 100) rfl ko_38 ?_
          exact s_reti (pc := 103) rfl rfl hw
        replace hw := hw.2
        by_cases hs5 : x1 = 5
        · replace hw := hw.1 hs5
          refine s_tsw_at (pc := 22) (v := 5) (tgt := 104) rfl hz4 hs5 (by decide) rfl rfl ?_
          refine s_aload_n (pc := 104) rfl rfl ?_
          refine s_ci (pc := 105) (d := d) (t := []) rfl rfl (am_ca_v (ps := []) rfl ko_38) (Nat.le_of_ble_eq_true rfl) (Ci.weak hw fun z15 m12 J13 P14 hw => ?_)
          obtain ⟨hp16, hw⟩ := hw
          exact s_reti (pc := 108) rfl rfl hw
        replace hw := hw.2
        have hs : x1 < 0 ∨ 5 < x1 := by omega
        replace hw := hw hs
        refine s_tsw_out (pc := 22) (tgt := 109) rfl hz4 hs rfl ?_
        refine s_aload_n (pc := 109) rfl rfl ?_
        obtain ⟨q17, hq17, kq17, hw⟩ := hw
        refine s_getA (pc := 110) rfl ko_38 hq17 ?_
        refine s_getI (pc := 113) rfl kq17 ?_
        exact s_reti (pc := 116) rfl rfl hw
      · replace hw := hw.2 hc
        refine s_iconst (pc := 19) rfl ?_
        exact s_reti (pc := 20) rfl rfl hw
    · replace hw := hw.2 hc
      refine s_iconst (pc := 10) rfl ?_
      exact s_reti (pc := 11) rfl rfl hw

set_option maxRecDepth 20000 in
set_option maxHeartbeats 4000000 in
theorem b_Nh_node_0 {X : aX} {d : Nat} (x1 : Int) (x2 : Int)  (m : Mi) (J : Mj) (P : Mp) (hp : PP P) (post : Int → Mi → Mj → Mp → Prop)
    (hw : Ci X (d + 2) 113 [.ref 38, .int (iz x1), .int (iz x2)] m J P (fun z4 m1 J2 P3 => PP P3 ∧ post z4 m1 J2 P3)) : Rn X (d + 3) 112 0 [some (.ref 1), some (.int (iz x1)), some (.int (iz x2))] [] (SS m J P) (QI post) := by
  refine s_aload_n (pc := 0) rfl rfl ?_
  refine s_getA (pc := 1) rfl ko_1 (po_1_6 hp) ?_
  refine s_iload_n (pc := 4) rfl rfl ?_
  refine s_iload_n (pc := 5) rfl rfl ?_
  refine s_ci (pc := 6) (d := (d + 2)) (t := []) rfl rfl (am_ca_v (ps := [.int (iz x2), .int (iz x1)]) rfl ko_38) (Nat.le_of_ble_eq_true rfl) (Ci.weak hw fun z4 m1 J2 P3 hw => ?_)
  obtain ⟨hp5, hw⟩ := hw
  exact s_reti (pc := 9) rfl rfl hw

set_option maxRecDepth 20000 in
set_option maxHeartbeats 4000000 in
theorem b_Tree_tellNode_0 {X : aX} {d : Nat} (x1 : Int) (x2 : Int)  (m : Mi) (J : Mj) (P : Mp) (hp : PP P) (post : Int → Mi → Mj → Mp → Prop)
    (hw : Ci X (d + 1) 114 [.ref 38, .int (iz x1)] m J P (fun z4 m1 J2 P3 => PP P3 ∧ Zr (z4) ∧ (((z4 = 0) → post ((-1)) m1 J2 P3) ∧ (¬ (z4 = 0) → Zr (x2) ∧ (((x2 < 0) → post ((-1)) m1 J2 P3) ∧ (¬ (x2 < 0) → Zr (x2) ∧ (((x2 ≤ 7) → Zr (x2) ∧ (((¬ x2 = 6) → Zr (x2) ∧ (((¬ x2 = 7) → ((0 : Int) ≤ ((x1 * 9) + x2) ∧ (((x1 * 9) + x2) : Int) < 9000) ∧ post (m1 46 ((x1 * 9) + x2).toNat) m1 J2 P3) ∧ (¬ (¬ x2 = 7) → ((0 : Int) ≤ ((x1 * 9) + 6) ∧ (((x1 * 9) + 6) : Int) < 9000) ∧ post (m1 46 ((x1 * 9) + 6).toNat) m1 J2 P3))) ∧ (¬ (¬ x2 = 6) → Ci X (d + 1) 115 [.ref 38, .int (iz x1)] m1 J2 P3 (fun z16 m13 J14 P15 => PP P15 ∧ post z16 m13 J14 P15)))) ∧ (¬ (x2 ≤ 7) → post ((-1)) m1 J2 P3)))))))) : Rn X (d + 2) 113 0 [some (.ref 38), some (.int (iz x1)), some (.int (iz x2))] [] (SS m J P) (QI post) := by
  refine s_aload_n (pc := 0) rfl rfl ?_
  refine s_iload_n (pc := 1) rfl rfl ?_
  refine s_ci (pc := 2) (d := (d + 1)) (t := []) rfl rfl (am_ca_v (ps := [.int (iz x1)]) rfl ko_38) (Nat.le_of_ble_eq_true rfl) (Ci.weak hw fun z4 m1 J2 P3 hw => ?_)
  obtain ⟨hp5, hw⟩ := hw
  obtain ⟨hz6, hw⟩ := hw
  refine s_if_eq (pc := 5) (tgt := 18) rfl rfl hz6 (fun hc => ?_) (fun hc => ?_)
  · replace hw := hw.1 hc
    refine s_iconst (pc := 18) rfl ?_
    exact s_reti (pc := 19) rfl rfl hw
  · replace hw := hw.2 hc
    refine s_iload_n (pc := 8) rfl rfl ?_
    obtain ⟨hz7, hw⟩ := hw
    refine s_if_lt (pc := 9) (tgt := 18) rfl rfl hz7 (fun hc => ?_) (fun hc => ?_)
    · replace hw := hw.1 hc
      refine s_iconst (pc := 18) rfl ?_
      exact s_reti (pc := 19) rfl rfl hw
    · replace hw := hw.2 hc
      refine s_iload_n (pc := 12) rfl rfl ?_
      refine s_bipush (pc := 13) rfl (by decide) ?_
      obtain ⟨hz8, hw⟩ := hw
      refine s_ic_le (pc := 15) (tgt := 20) rfl rfl hz8 (by decide) (fun hc => ?_) (fun hc => ?_)
      · replace hw := hw.1 hc
        refine s_iload_n (pc := 20) rfl rfl ?_
        refine s_bipush (pc := 21) rfl (by decide) ?_
        obtain ⟨hz9, hw⟩ := hw
        refine s_ic_ne (pc := 23) (tgt := 32) rfl rfl hz9 (by decide) (fun hc => ?_) (fun hc => ?_)
        · replace hw := hw.1 hc
          refine s_aload_n (pc := 32) rfl rfl ?_
          refine s_getA (pc := 33) rfl ko_38 (po_38_4 hp5) ?_
          refine s_iload_n (pc := 36) rfl rfl ?_
          refine s_bipush (pc := 37) rfl (by decide) ?_
          refine s_imul (pc := 39) rfl ?_
          refine s_iload_n (pc := 40) rfl rfl ?_
          refine s_bipush (pc := 41) rfl (by decide) ?_
          obtain ⟨hz10, hw⟩ := hw
          refine s_ic_ne (pc := 43) (tgt := 51) rfl rfl hz10 (by decide) (fun hc => ?_) (fun hc => ?_)
          · replace hw := hw.1 hc
            refine s_iload_n (pc := 51) rfl rfl ?_
            refine s_iadd (pc := 52) rfl ?_
            obtain ⟨hb11, hw⟩ := hw
            refine s_iald (pc := 53) rfl ka_46 (by decide) hb11 ?_
            exact s_reti (pc := 54) rfl rfl hw
          · replace hw := hw.2 hc
            refine s_bipush (pc := 46) rfl (by decide) ?_
            refine s_goto (pc := 48) (tgt := 52) rfl rfl ?_
            refine s_iadd (pc := 52) rfl ?_
            obtain ⟨hb12, hw⟩ := hw
            refine s_iald (pc := 53) rfl ka_46 (by decide) hb12 ?_
            exact s_reti (pc := 54) rfl rfl hw
        · replace hw := hw.2 hc
          refine s_aload_n (pc := 26) rfl rfl ?_
          refine s_iload_n (pc := 27) rfl rfl ?_
          refine s_ci (pc := 28) (d := (d + 1)) (t := []) rfl rfl (am_ca_v (ps := [.int (iz x1)]) rfl ko_38) (Nat.le_of_ble_eq_true rfl) (Ci.weak hw fun z16 m13 J14 P15 hw => ?_)
          obtain ⟨hp17, hw⟩ := hw
          exact s_reti (pc := 31) rfl rfl hw
      · replace hw := hw.2 hc
        refine s_iconst (pc := 18) rfl ?_
        exact s_reti (pc := 19) rfl rfl hw

set_option maxRecDepth 20000 in
set_option maxHeartbeats 4000000 in
theorem b_Tree_hasNode_0 {X : aX} {d : Nat} (x1 : Int)  (m : Mi) (J : Mj) (P : Mp) (hp : PP P) (post : Int → Mi → Mj → Mp → Prop)
    (hw : Zr (m 38 8) ∧ ((((m 38 8) = 0) → post 0 m J P) ∧ (¬ ((m 38 8) = 0) → Zr (x1) ∧ (((x1 < 0) → post 0 m J P) ∧ (¬ (x1 < 0) → Zr (x1) ∧ Zr (m 38 11) ∧ ((((m 38 11) ≤ x1) → post 0 m J P) ∧ (¬ ((m 38 11) ≤ x1) → post 1 m J P))))))) : Rn X d 114 0 [some (.ref 38), some (.int (iz x1))] [] (SS m J P) (QI post) := by
  refine s_aload_n (pc := 0) rfl rfl ?_
  refine s_getZ (pc := 1) rfl ko_38 ?_
  obtain ⟨hz1, hw⟩ := hw
  refine s_if_eq (pc := 4) (tgt := 23) rfl rfl hz1 (fun hc => ?_) (fun hc => ?_)
  · replace hw := hw.1 hc
    refine s_iconst (pc := 23) rfl ?_
    exact s_retz (pc := 24) rfl rfl (by decide) hw
  · replace hw := hw.2 hc
    refine s_iload_n (pc := 7) rfl rfl ?_
    obtain ⟨hz2, hw⟩ := hw
    refine s_if_lt (pc := 8) (tgt := 23) rfl rfl hz2 (fun hc => ?_) (fun hc => ?_)
    · replace hw := hw.1 hc
      refine s_iconst (pc := 23) rfl ?_
      exact s_retz (pc := 24) rfl rfl (by decide) hw
    · replace hw := hw.2 hc
      refine s_iload_n (pc := 11) rfl rfl ?_
      refine s_aload_n (pc := 12) rfl rfl ?_
      refine s_getI (pc := 13) rfl ko_38 ?_
      obtain ⟨hz3, hw⟩ := hw
      obtain ⟨hz4, hw⟩ := hw
      refine s_ic_ge (pc := 16) (tgt := 23) rfl rfl hz3 hz4 (fun hc => ?_) (fun hc => ?_)
      · replace hw := hw.1 hc
        refine s_iconst (pc := 23) rfl ?_
        exact s_retz (pc := 24) rfl rfl (by decide) hw
      · replace hw := hw.2 hc
        refine s_iconst (pc := 19) rfl ?_
        refine s_goto (pc := 20) (tgt := 24) rfl rfl ?_
        exact s_retz (pc := 24) rfl rfl (by decide) hw

set_option maxRecDepth 20000 in
set_option maxHeartbeats 4000000 in
theorem b_Tree_countMarked_0 {X : aX} {d : Nat} (x1 : Int)  (m : Mi) (J : Mj) (P : Mp) (hp : PP P) (post : Int → Mi → Mj → Mp → Prop)
    (hw : Ci X d 116 [.ref 38, .int (iz x1)] m J P (fun z4 m1 J2 P3 => PP P3 ∧ Rn X (d + 1) 115 8 [some (.ref 38), some (.int (iz x1)), some (.int (iz 0)), some (.int (iz z4))] [] (SS m1 J2 P3) (QI post))) : Rn X (d + 1) 115 0 [some (.ref 38), some (.int (iz x1)), none, none] [] (SS m J P) (QI post) := by
  refine s_iconst (pc := 0) rfl ?_
  refine s_istore_n (pc := 1) (L' := [some (.ref 38), some (.int (iz x1)), some (.int (iz 0)), none]) rfl (Nat.le_of_ble_eq_true rfl) rfl ?_
  refine s_aload_n (pc := 2) rfl rfl ?_
  refine s_iload_n (pc := 3) rfl rfl ?_
  refine s_ci (pc := 4) (d := d) (t := []) rfl rfl (am_ca_v (ps := [.int (iz x1)]) rfl ko_38) (Nat.le_of_ble_eq_true rfl) (Ci.weak hw fun z4 m1 J2 P3 hw => ?_)
  obtain ⟨hp5, hw⟩ := hw
  refine s_istore_n (pc := 7) (L' := [some (.ref 38), some (.int (iz x1)), some (.int (iz 0)), some (.int (iz z4))]) rfl (Nat.le_of_ble_eq_true rfl) rfl ?_
  exact hw

set_option maxRecDepth 20000 in
set_option maxHeartbeats 4000000 in
theorem b_Tree_countMarked_8 {X : aX} {d : Nat} (x1 : Int) (x2 : Int) (x3 : Int)  (m : Mi) (J : Mj) (P : Mp) (hp : PP P) (post : Int → Mi → Mj → Mp → Prop)
    (hw : Ci X d 117 [.ref 38, .int (iz x1)] m J P (fun z4 m1 J2 P3 => PP P3 ∧ Zr (x3) ∧ Zr (z4) ∧ (((z4 ≤ x3) → post x2 m1 J2 P3) ∧ (¬ (z4 ≤ x3) → ((0 : Int) ≤ x3 ∧ (x3 : Int) < 30000) ∧ Ci X d 108 [.int (iz (m1 45 x3.toNat))] m1 J2 P3 (fun z12 m9 J10 P11 => PP P11 ∧ Zr (z12) ∧ (((z12 = 0) → Rn X (d + 1) 115 8 [some (.ref 38), some (.int (iz x1)), some (.int (iz x2)), some (.int (iz (x3 + 1)))] [] (SS m9 J10 P11) (QI post)) ∧ (¬ (z12 = 0) → Rn X (d + 1) 115 8 [some (.ref 38), some (.int (iz x1)), some (.int (iz (x2 + 1))), some (.int (iz (x3 + 1)))] [] (SS m9 J10 P11) (QI post)))))))) : Rn X (d + 1) 115 8 [some (.ref 38), some (.int (iz x1)), some (.int (iz x2)), some (.int (iz x3))] [] (SS m J P) (QI post) := by
  refine s_iload_n (pc := 8) rfl rfl ?_
  refine s_aload_n (pc := 9) rfl rfl ?_
  refine s_iload_n (pc := 10) rfl rfl ?_
  refine s_ci (pc := 11) (d := d) (t := [.int (iz x3)]) rfl rfl (am_ca_v (ps := [.int (iz x1)]) rfl ko_38) (Nat.le_of_ble_eq_true rfl) (Ci.weak hw fun z4 m1 J2 P3 hw => ?_)
  obtain ⟨hp5, hw⟩ := hw
  obtain ⟨hz6, hw⟩ := hw
  obtain ⟨hz7, hw⟩ := hw
  refine s_ic_ge (pc := 14) (tgt := 38) rfl rfl hz6 hz7 (fun hc => ?_) (fun hc => ?_)
  · replace hw := hw.1 hc
    refine s_iload_n (pc := 38) rfl rfl ?_
    exact s_reti (pc := 39) rfl rfl hw
  · replace hw := hw.2 hc
    refine s_aload_n (pc := 17) rfl rfl ?_
    refine s_getA (pc := 18) rfl ko_38 (po_38_3 hp5) ?_
    refine s_iload_n (pc := 21) rfl rfl ?_
    obtain ⟨hb8, hw⟩ := hw
    refine s_iald (pc := 22) rfl ka_45 (by decide) hb8 ?_
    refine s_ci (pc := 23) (d := d) (t := []) rfl rfl (am_ca_s (ps := [.int (iz (m1 45 x3.toNat))]) rfl) (Nat.le_of_ble_eq_true rfl) (Ci.weak hw fun z12 m9 J10 P11 hw => ?_)
    obtain ⟨hp13, hw⟩ := hw
    obtain ⟨hz14, hw⟩ := hw
    refine s_if_eq (pc := 26) (tgt := 32) rfl rfl hz14 (fun hc => ?_) (fun hc => ?_)
    · replace hw := hw.1 hc
      refine s_iinc (pc := 32) (L' := [some (.ref 38), some (.int (iz x1)), some (.int (iz x2)), some (.int (iz (x3 + 1)))]) rfl rfl (Nat.le_of_ble_eq_true rfl) rfl ?_
      refine s_goto (pc := 35) (tgt := 8) rfl rfl ?_
      exact hw
    · replace hw := hw.2 hc
      refine s_iinc (pc := 29) (L' := [some (.ref 38), some (.int (iz x1)), some (.int (iz (x2 + 1))), some (.int (iz x3))]) rfl rfl (Nat.le_of_ble_eq_true rfl) rfl ?_
      refine s_iinc (pc := 32) (L' := [some (.ref 38), some (.int (iz x1)), some (.int (iz (x2 + 1))), some (.int (iz (x3 + 1)))]) rfl rfl (Nat.le_of_ble_eq_true rfl) rfl ?_
      refine s_goto (pc := 35) (tgt := 8) rfl rfl ?_
      exact hw

set_option maxRecDepth 20000 in
set_option maxHeartbeats 4000000 in
theorem b_Tree_nodeStart_0 {X : aX} {d : Nat} (x1 : Int)  (m : Mi) (J : Mj) (P : Mp) (hp : PP P) (post : Int → Mi → Mj → Mp → Prop)
    (hw : ((0 : Int) ≤ ((x1 * 9) + 7) ∧ (((x1 * 9) + 7) : Int) < 9000) ∧ post (m 46 ((x1 * 9) + 7).toNat) m J P) : Rn X d 116 0 [some (.ref 38), some (.int (iz x1))] [] (SS m J P) (QI post) := by
  refine s_aload_n (pc := 0) rfl rfl ?_
  refine s_getA (pc := 1) rfl ko_38 (po_38_4 hp) ?_
  refine s_iload_n (pc := 4) rfl rfl ?_
  refine s_bipush (pc := 5) rfl (by decide) ?_
  refine s_imul (pc := 7) rfl ?_
  refine s_bipush (pc := 8) rfl (by decide) ?_
  refine s_iadd (pc := 10) rfl ?_
  obtain ⟨hb1, hw⟩ := hw
  refine s_iald (pc := 11) rfl ka_46 (by decide) hb1 ?_
  exact s_reti (pc := 12) rfl rfl hw

set_option maxRecDepth 20000 in
set_option maxHeartbeats 4000000 in
theorem b_Tree_valuesStart_0 {X : aX} {d : Nat} (x1 : Int)  (m : Mi) (J : Mj) (P : Mp) (hp : PP P) (post : Int → Mi → Mj → Mp → Prop)
    (hw : ((0 : Int) ≤ ((x1 * 9) + 7) ∧ (((x1 * 9) + 7) : Int) < 9000) ∧ ((0 : Int) ≤ ((x1 * 9) + 4) ∧ (((x1 * 9) + 4) : Int) < 9000) ∧ ((0 : Int) ≤ ((x1 * 9) + 5) ∧ (((x1 * 9) + 5) : Int) < 9000) ∧ post (((m 46 ((x1 * 9) + 7).toNat) + (m 46 ((x1 * 9) + 4).toNat)) + (m 46 ((x1 * 9) + 5).toNat)) m J P) : Rn X d 117 0 [some (.ref 38), some (.int (iz x1))] [] (SS m J P) (QI post) := by
  refine s_aload_n (pc := 0) rfl rfl ?_
  refine s_getA (pc := 1) rfl ko_38 (po_38_4 hp) ?_
  refine s_iload_n (pc := 4) rfl rfl ?_
  refine s_bipush (pc := 5) rfl (by decide) ?_
  refine s_imul (pc := 7) rfl ?_
  refine s_bipush (pc := 8) rfl (by decide) ?_
  refine s_iadd (pc := 10) rfl ?_
  obtain ⟨hb1, hw⟩ := hw
  refine s_iald (pc := 11) rfl ka_46 (by decide) hb1 ?_
  refine s_aload_n (pc := 12) rfl rfl ?_
  refine s_getA (pc := 13) rfl ko_38 (po_38_4 hp) ?_
  refine s_iload_n (pc := 16) rfl rfl ?_
  refine s_bipush (pc := 17) rfl (by decide) ?_
  refine s_imul (pc := 19) rfl ?_
  refine s_iconst (pc := 20) rfl ?_
  refine s_iadd (pc := 21) rfl ?_
  obtain ⟨hb2, hw⟩ := hw
  refine s_iald (pc := 22) rfl ka_46 (by decide) hb2 ?_
  refine s_iadd (pc := 23) rfl ?_
  refine s_aload_n (pc := 24) rfl rfl ?_
  refine s_getA (pc := 25) rfl ko_38 (po_38_4 hp) ?_
  refine s_iload_n (pc := 28) rfl rfl ?_
  refine s_bipush (pc := 29) rfl (by decide) ?_
  refine s_imul (pc := 31) rfl ?_
  refine s_iconst (pc := 32) rfl ?_
  refine s_iadd (pc := 33) rfl ?_
  obtain ⟨hb3, hw⟩ := hw
  refine s_iald (pc := 34) rfl ka_46 (by decide) hb3 ?_
  refine s_iadd (pc := 35) rfl ?_
  exact s_reti (pc := 36) rfl rfl hw

set_option maxRecDepth 20000 in
set_option maxHeartbeats 4000000 in
theorem b_Nh_answer_0 {X : aX} {d : Nat} (x1 : Int) (x2 : Int)  (m : Mi) (J : Mj) (P : Mp) (hp : PP P) (post : Int → Mi → Mj → Mp → Prop)
    (hw : Ci X (d + 3) 119 [.ref 38, .int (iz x1)] m J P (fun z4 m1 J2 P3 => PP P3 ∧ Zr (z4) ∧ (((¬ z4 = 0) → Zr (x2) ∧ (((¬ x2 = 0) → Zr (x2) ∧ (((x2 = 1) → (∃ q9, P3 1 8 = some q9 ∧ am_kd an_K q9 = some (.inl 10) ∧ Ci X (d + 3) 120 [.ref 38, .int (iz x1), .ref q9] m1 J2 P3 (fun z13 m10 J11 P12 => PP P12 ∧ Zr (z13) ∧ (((¬ z13 = ((-1))) → (∃ q16, P12 1 8 = some q16 ∧ am_kd an_K q16 = some (.inl 10) ∧ Ci X (d + 3) 66 [.ref 28, .ref (18 + 8), .int (iz z13), .int (iz (m10 18 12)), .ref q16] m10 J11 P12 (fun z20 m17 J18 P19 => PP P19 ∧ post z20 m17 J18 P19))) ∧ (¬ (¬ z13 = ((-1))) → post 2 m10 J11 P12))))) ∧ (¬ (x2 = 1) → post ((-1)) m1 J2 P3))) ∧ (¬ (¬ x2 = 0) → ((0 : Int) ≤ x1 ∧ (x1 : Int) < 300) ∧ post (m1 47 x1.toNat) m1 J2 P3))) ∧ (¬ (¬ z4 = 0) → post ((-1)) m1 J2 P3)))) : Rn X (d + 4) 118 0 [some (.ref 1), some (.int (iz x1)), some (.int (iz x2)), none] [] (SS m J P) (QI post) := by
  refine s_aload_n (pc := 0) rfl rfl ?_
  refine s_getA (pc := 1) rfl ko_1 (po_1_6 hp) ?_
  refine s_iload_n (pc := 4) rfl rfl ?_
  refine s_ci (pc := 5) (d := (d + 3)) (t := []) rfl rfl (am_ca_v (ps := [.int (iz x1)]) rfl ko_38) (Nat.le_of_ble_eq_true rfl) (Ci.weak hw fun z4 m1 J2 P3 hw => ?_)
  obtain ⟨hp5, hw⟩ := hw
  obtain ⟨hz6, hw⟩ := hw
  refine s_if_ne (pc := 8) (tgt := 13) rfl rfl hz6 (fun hc => ?_) (fun hc => ?_)
  · replace hw := hw.1 hc
    refine s_iload_n (pc := 13) rfl rfl ?_
    obtain ⟨hz7, hw⟩ := hw
    refine s_if_ne (pc := 14) (tgt := 27) rfl rfl hz7 (fun hc => ?_) (fun hc => ?_)
    · replace hw := hw.1 hc
      refine s_iload_n (pc := 27) rfl rfl ?_
      refine s_iconst (pc := 28) rfl ?_
      obtain ⟨hz8, hw⟩ := hw
      refine s_ic_eq (pc := 29) (tgt := 34) rfl rfl hz8 (by decide) (fun hc => ?_) (fun hc => ?_)
      · replace hw := hw.1 hc
        refine s_aload_n (pc := 34) rfl rfl ?_
        refine s_getA (pc := 35) rfl ko_1 (po_1_6 hp5) ?_
        refine s_iload_n (pc := 38) rfl rfl ?_
        refine s_aload_n (pc := 39) rfl rfl ?_
        obtain ⟨q9, hq9, kq9, hw⟩ := hw
        refine s_getA (pc := 40) rfl ko_1 hq9 ?_
        refine s_ci (pc := 43) (d := (d + 3)) (t := []) rfl rfl (am_ca_v (ps := [.ref q9, .int (iz x1)]) rfl ko_38) (Nat.le_of_ble_eq_true rfl) (Ci.weak hw fun z13 m10 J11 P12 hw => ?_)
        obtain ⟨hp14, hw⟩ := hw
        refine s_istore_n (pc := 46) (L' := [some (.ref 1), some (.int (iz x1)), some (.int (iz x2)), some (.int (iz z13))]) rfl (Nat.le_of_ble_eq_true rfl) rfl ?_
        refine s_iload_n (pc := 47) rfl rfl ?_
        refine s_iconst (pc := 48) rfl ?_
        obtain ⟨hz15, hw⟩ := hw
        refine s_ic_ne (pc := 49) (tgt := 54) rfl rfl hz15 (by decide) (fun hc => ?_) (fun hc => ?_)
        · replace hw := hw.1 hc
          refine s_aload_n (pc := 54) rfl rfl ?_
          refine s_getA (pc := 55) rfl ko_1 (po_1_4 hp14) ?_
          refine s_aload_n (pc := 58) rfl rfl ?_
          refine s_getA (pc := 59) rfl ko_1 (po_1_3 hp14) ?_
          refine s_getA (pc := 62) rfl (by decide +kernel) (pc_4_10 hp14 (by decide +kernel)) ?_
          refine s_iload_n (pc := 65) rfl rfl ?_
          refine s_aload_n (pc := 66) rfl rfl ?_
          refine s_getA (pc := 67) rfl ko_1 (po_1_3 hp14) ?_
          refine s_getI (pc := 70) rfl (by decide +kernel) ?_
          refine s_aload_n (pc := 73) rfl rfl ?_
          obtain ⟨q16, hq16, kq16, hw⟩ := hw
          refine s_getA (pc := 74) rfl ko_1 hq16 ?_
          refine s_ci (pc := 77) (d := (d + 3)) (t := []) rfl rfl (am_ca_v (ps := [.ref q16, .int (iz (m10 18 12)), .int (iz z13), .ref (18 + 8)]) rfl ko_28) (Nat.le_of_ble_eq_true rfl) (Ci.weak hw fun z20 m17 J18 P19 hw => ?_)
          obtain ⟨hp21, hw⟩ := hw
          exact s_reti (pc := 80) rfl rfl hw
        · replace hw := hw.2 hc
          refine s_iconst (pc := 52) rfl ?_
          exact s_reti (pc := 53) rfl rfl hw
      · replace hw := hw.2 hc
        refine s_iconst (pc := 32) rfl ?_
        exact s_reti (pc := 33) rfl rfl hw
    · replace hw := hw.2 hc
      refine s_aload_n (pc := 17) rfl rfl ?_
      refine s_getA (pc := 18) rfl ko_1 (po_1_6 hp5) ?_
      refine s_getA (pc := 21) rfl ko_38 (po_38_5 hp5) ?_
      refine s_iload_n (pc := 24) rfl rfl ?_
      obtain ⟨hb22, hw⟩ := hw
      refine s_iald (pc := 25) rfl ka_47 (by decide) hb22 ?_
      exact s_reti (pc := 26) rfl rfl hw
  · replace hw := hw.2 hc
    refine s_iconst (pc := 11) rfl ?_
    exact s_reti (pc := 12) rfl rfl hw

set_option maxRecDepth 20000 in
set_option maxHeartbeats 4000000 in
theorem b_Tree_hasAnswer_0 {X : aX} {d : Nat} (x1 : Int)  (m : Mi) (J : Mj) (P : Mp) (hp : PP P) (post : Int → Mi → Mj → Mp → Prop)
    (hw : Zr (m 38 8) ∧ ((((m 38 8) = 0) → post 0 m J P) ∧ (¬ ((m 38 8) = 0) → Zr (x1) ∧ (((x1 < 0) → post 0 m J P) ∧ (¬ (x1 < 0) → Zr (x1) ∧ Zr (m 38 12) ∧ ((((m 38 12) ≤ x1) → post 0 m J P) ∧ (¬ ((m 38 12) ≤ x1) → post 1 m J P))))))) : Rn X d 119 0 [some (.ref 38), some (.int (iz x1))] [] (SS m J P) (QI post) := by
  refine s_aload_n (pc := 0) rfl rfl ?_
  refine s_getZ (pc := 1) rfl ko_38 ?_
  obtain ⟨hz1, hw⟩ := hw
  refine s_if_eq (pc := 4) (tgt := 23) rfl rfl hz1 (fun hc => ?_) (fun hc => ?_)
  · replace hw := hw.1 hc
    refine s_iconst (pc := 23) rfl ?_
    exact s_retz (pc := 24) rfl rfl (by decide) hw
  · replace hw := hw.2 hc
    refine s_iload_n (pc := 7) rfl rfl ?_
    obtain ⟨hz2, hw⟩ := hw
    refine s_if_lt (pc := 8) (tgt := 23) rfl rfl hz2 (fun hc => ?_) (fun hc => ?_)
    · replace hw := hw.1 hc
      refine s_iconst (pc := 23) rfl ?_
      exact s_retz (pc := 24) rfl rfl (by decide) hw
    · replace hw := hw.2 hc
      refine s_iload_n (pc := 11) rfl rfl ?_
      refine s_aload_n (pc := 12) rfl rfl ?_
      refine s_getI (pc := 13) rfl ko_38 ?_
      obtain ⟨hz3, hw⟩ := hw
      obtain ⟨hz4, hw⟩ := hw
      refine s_ic_ge (pc := 16) (tgt := 23) rfl rfl hz3 hz4 (fun hc => ?_) (fun hc => ?_)
      · replace hw := hw.1 hc
        refine s_iconst (pc := 23) rfl ?_
        exact s_retz (pc := 24) rfl rfl (by decide) hw
      · replace hw := hw.2 hc
        refine s_iconst (pc := 19) rfl ?_
        refine s_goto (pc := 20) (tgt := 24) rfl rfl ?_
        exact s_retz (pc := 24) rfl rfl (by decide) hw

set_option maxRecDepth 20000 in
set_option maxHeartbeats 4000000 in
theorem b_Tree_putGoal_0 {X : aX} {d : Nat} (x1 : Int) (x2 : Nat) (kx2 : am_kd an_K x2 = some (.inl 10)) (m : Mi) (J : Mj) (P : Mp) (hp : PP P) (post : Int → Mi → Mj → Mp → Prop)
    (hw : Rn X (d + 3) 120 13 [some (.ref 38), some (.int (iz x1)), some (.ref x2), some (.int (iz ((-1)))), some (.int (iz 0)), none, none, none] [] (SS (mu m 18 12 0) J P) (QI post)) : Rn X (d + 3) 120 0 [some (.ref 38), some (.int (iz x1)), some (.ref x2), none, none, none, none, none] [] (SS m J P) (QI post) := by
  refine s_aload_n (pc := 0) rfl rfl ?_
  refine s_getA (pc := 1) rfl ko_38 (po_38_1 hp) ?_
  refine s_iconst (pc := 4) rfl ?_
  refine s_putI (pc := 5) rfl (by decide +kernel) ?_
  refine s_iconst (pc := 8) rfl ?_
  refine s_istore_n (pc := 9) (L' := [some (.ref 38), some (.int (iz x1)), some (.ref x2), some (.int (iz ((-1)))), none, none, none, none]) rfl (Nat.le_of_ble_eq_true rfl) rfl ?_
  refine s_iconst (pc := 10) rfl ?_
  refine s_istore (pc := 11) (L' := [some (.ref 38), some (.int (iz x1)), some (.ref x2), some (.int (iz ((-1)))), some (.int (iz 0)), none, none, none]) rfl (Nat.le_of_ble_eq_true rfl) rfl ?_
  exact hw

set_option maxRecDepth 20000 in
set_option maxHeartbeats 4000000 in
theorem b_Tree_putGoal_13 {X : aX} {d : Nat} (x1 : Int) (x2 : Nat) (x3 : Int) (x4 : Int) (kx2 : am_kd an_K x2 = some (.inl 10)) (m : Mi) (J : Mj) (P : Mp) (hp : PP P) (post : Int → Mi → Mj → Mp → Prop)
    (hw : (∃ q1, P 38 2 = some q1 ∧ am_kd an_K q1 = some (.inl 8) ∧ Zr (x4) ∧ Zr (m q1 6) ∧ ((((m q1 6) ≤ x4) → post x3 m J P) ∧ (¬ ((m q1 6) ≤ x4) → (∃ q4, P 38 2 = some q4 ∧ am_kd an_K q4 = some (.inl 8) ∧ Zr (x4) ∧ Zr (m q4 5) ∧ (((¬ x4 = (m q4 5)) → (∃ q7, P 38 2 = some q7 ∧ am_kd an_K q7 = some (.inl 8) ∧ ((0 : Int) ≤ x4 ∧ (x4 : Int) < 80) ∧ Zr (m (q7 + 1) x4.toNat) ∧ (((0 ≤ (m (q7 + 1) x4.toNat)) → Zr (x3) ∧ Zr (((m 18 12) + 1) - (if x3 < 0 then 0 else x3)) ∧ ((((((m 18 12) + 1) - (if x3 < 0 then 0 else x3)) ≤ 200) → (∃ q12, P 38 2 = some q12 ∧ am_kd an_K q12 = some (.inl 8) ∧ ((0 : Int) ≤ x4 ∧ (x4 : Int) < 80) ∧ Zr (m (q12 + 1) x4.toNat) ∧ ((((m (q12 + 1) x4.toNat) < 0) → Rn X (d + 3) 120 160 [some (.ref 38), some (.int (iz x1)), some (.ref x2), some (.int (iz x3)), some (.int (iz x4)), some (.int (iz 0)), some (.int (iz 1)), some (.int (iz 0))] [] (SS m J P) (QI post)) ∧ (¬ ((m (q12 + 1) x4.toNat) < 0) → (∃ q15, P 38 2 = some q15 ∧ am_kd an_K q15 = some (.inl 8) ∧ ((0 : Int) ≤ x4 ∧ (x4 : Int) < 80) ∧ Cv X (d + 2) 62 [.ref 18, .int (iz (m (q15 + 1) x4.toNat))] m J P (fun m17 J18 P19 => PP P19 ∧ Rn X (d + 3) 120 190 [some (.ref 38), some (.int (iz x1)), some (.ref x2), some (.int (iz x3)), some (.int (iz x4)), some (.int (iz 0)), some (.int (iz 1)), none] [] (SS m17 J18 P19) (QI post))))))) ∧ (¬ ((((m 18 12) + 1) - (if x3 < 0 then 0 else x3)) ≤ 200) → post ((-1)) m J P))) ∧ (¬ (0 ≤ (m (q7 + 1) x4.toNat)) → (∃ q22, P 38 2 = some q22 ∧ am_kd an_K q22 = some (.inl 8) ∧ ((0 : Int) ≤ x4 ∧ (x4 : Int) < 80) ∧ Ci X (d + 2) 121 [.ref 38, .int (iz x1), .int (iz (((-1)) - (m (q22 + 1) x4.toNat))), .ref x2] m J P (fun z27 m24 J25 P26 => PP P26 ∧ Ci X (d + 2) 96 [.ref x2, .ref 45, .int (iz z27)] m24 J25 P26 (fun z32 m29 J30 P31 => PP P31 ∧ Zr (x3) ∧ Zr (((m29 18 12) + (z32 - z27)) - (if x3 < 0 then 0 else x3)) ∧ ((((((m29 18 12) + (z32 - z27)) - (if x3 < 0 then 0 else x3)) ≤ 200) → (∃ q36, P31 38 2 = some q36 ∧ am_kd an_K q36 = some (.inl 8) ∧ ((0 : Int) ≤ x4 ∧ (x4 : Int) < 80) ∧ Zr (m29 (q36 + 1) x4.toNat) ∧ ((((m29 (q36 + 1) x4.toNat) < 0) → Rn X (d + 3) 120 160 [some (.ref 38), some (.int (iz x1)), some (.ref x2), some (.int (iz x3)), some (.int (iz x4)), some (.int (iz z27)), some (.int (iz (z32 - z27))), some (.int (iz z27))] [] (SS m29 J30 P31) (QI post)) ∧ (¬ ((m29 (q36 + 1) x4.toNat) < 0) → (∃ q39, P31 38 2 = some q39 ∧ am_kd an_K q39 = some (.inl 8) ∧ ((0 : Int) ≤ x4 ∧ (x4 : Int) < 80) ∧ Cv X (d + 2) 62 [.ref 18, .int (iz (m29 (q39 + 1) x4.toNat))] m29 J30 P31 (fun m41 J42 P43 => PP P43 ∧ Rn X (d + 3) 120 190 [some (.ref 38), some (.int (iz x1)), some (.ref x2), some (.int (iz x3)), some (.int (iz x4)), some (.int (iz z27)), some (.int (iz (z32 - z27))), none] [] (SS m41 J42 P43) (QI post))))))) ∧ (¬ ((((m29 18 12) + (z32 - z27)) - (if x3 < 0 then 0 else x3)) ≤ 200) → post ((-1)) m29 J30 P31))))))))) ∧ (¬ (¬ x4 = (m q4 5)) → (∃ q46, P 38 2 = some q46 ∧ am_kd an_K q46 = some (.inl 8) ∧ ((0 : Int) ≤ x4 ∧ (x4 : Int) < 80) ∧ Zr (m (q46 + 1) x4.toNat) ∧ (((0 ≤ (m (q46 + 1) x4.toNat)) → Zr (m 18 12) ∧ Zr (((m 18 12) + 1) - (if (m 18 12) < 0 then 0 else (m 18 12))) ∧ ((((((m 18 12) + 1) - (if (m 18 12) < 0 then 0 else (m 18 12))) ≤ 200) → (∃ q51, P 38 2 = some q51 ∧ am_kd an_K q51 = some (.inl 8) ∧ ((0 : Int) ≤ x4 ∧ (x4 : Int) < 80) ∧ Zr (m (q51 + 1) x4.toNat) ∧ ((((m (q51 + 1) x4.toNat) < 0) → Rn X (d + 3) 120 160 [some (.ref 38), some (.int (iz x1)), some (.ref x2), some (.int (iz (m 18 12))), some (.int (iz x4)), some (.int (iz 0)), some (.int (iz 1)), some (.int (iz 0))] [] (SS m J P) (QI post)) ∧ (¬ ((m (q51 + 1) x4.toNat) < 0) → (∃ q54, P 38 2 = some q54 ∧ am_kd an_K q54 = some (.inl 8) ∧ ((0 : Int) ≤ x4 ∧ (x4 : Int) < 80) ∧ Cv X (d + 2) 62 [.ref 18, .int (iz (m (q54 + 1) x4.toNat))] m J P (fun m56 J57 P58 => PP P58 ∧ Rn X (d + 3) 120 190 [some (.ref 38), some (.int (iz x1)), some (.ref x2), some (.int (iz (m 18 12))), some (.int (iz x4)), some (.int (iz 0)), some (.int (iz 1)), none] [] (SS m56 J57 P58) (QI post))))))) ∧ (¬ ((((m 18 12) + 1) - (if (m 18 12) < 0 then 0 else (m 18 12))) ≤ 200) → post ((-1)) m J P))) ∧ (¬ (0 ≤ (m (q46 + 1) x4.toNat)) → (∃ q61, P 38 2 = some q61 ∧ am_kd an_K q61 = some (.inl 8) ∧ ((0 : Int) ≤ x4 ∧ (x4 : Int) < 80) ∧ Ci X (d + 2) 121 [.ref 38, .int (iz x1), .int (iz (((-1)) - (m (q61 + 1) x4.toNat))), .ref x2] m J P (fun z66 m63 J64 P65 => PP P65 ∧ Ci X (d + 2) 96 [.ref x2, .ref 45, .int (iz z66)] m63 J64 P65 (fun z71 m68 J69 P70 => PP P70 ∧ Zr (m 18 12) ∧ Zr (((m68 18 12) + (z71 - z66)) - (if (m 18 12) < 0 then 0 else (m 18 12))) ∧ ((((((m68 18 12) + (z71 - z66)) - (if (m 18 12) < 0 then 0 else (m 18 12))) ≤ 200) → (∃ q75, P70 38 2 = some q75 ∧ am_kd an_K q75 = some (.inl 8) ∧ ((0 : Int) ≤ x4 ∧ (x4 : Int) < 80) ∧ Zr (m68 (q75 + 1) x4.toNat) ∧ ((((m68 (q75 + 1) x4.toNat) < 0) → Rn X (d + 3) 120 160 [some (.ref 38), some (.int (iz x1)), some (.ref x2), some (.int (iz (m 18 12))), some (.int (iz x4)), some (.int (iz z66)), some (.int (iz (z71 - z66))), some (.int (iz z66))] [] (SS m68 J69 P70) (QI post)) ∧ (¬ ((m68 (q75 + 1) x4.toNat) < 0) → (∃ q78, P70 38 2 = some q78 ∧ am_kd an_K q78 = some (.inl 8) ∧ ((0 : Int) ≤ x4 ∧ (x4 : Int) < 80) ∧ Cv X (d + 2) 62 [.ref 18, .int (iz (m68 (q78 + 1) x4.toNat))] m68 J69 P70 (fun m80 J81 P82 => PP P82 ∧ Rn X (d + 3) 120 190 [some (.ref 38), some (.int (iz x1)), some (.ref x2), some (.int (iz (m 18 12))), some (.int (iz x4)), some (.int (iz z66)), some (.int (iz (z71 - z66))), none] [] (SS m80 J81 P82) (QI post))))))) ∧ (¬ ((((m68 18 12) + (z71 - z66)) - (if (m 18 12) < 0 then 0 else (m 18 12))) ≤ 200) → post ((-1)) m68 J69 P70))))))))))))))) : Rn X (d + 3) 120 13 [some (.ref 38), some (.int (iz x1)), some (.ref x2), some (.int (iz x3)), some (.int (iz x4)), none, none, none] [] (SS m J P) (QI post) := by
  refine s_iload (pc := 13) rfl rfl ?_
  refine s_aload_n (pc := 15) rfl rfl ?_
  obtain ⟨q1, hq1, kq1, hw⟩ := hw
  refine s_getA (pc := 16) rfl ko_38 hq1 ?_
  refine s_getI (pc := 19) rfl kq1 ?_
  obtain ⟨hz2, hw⟩ := hw
  obtain ⟨hz3, hw⟩ := hw
  refine s_ic_ge (pc := 22) (tgt := 196) rfl rfl hz2 hz3 (fun hc => ?_) (fun hc => ?_)
  · replace hw := hw.1 hc
    refine s_iload_n (pc := 196) rfl rfl ?_
    exact s_reti (pc := 197) rfl rfl hw
  · replace hw := hw.2 hc
    refine s_iload (pc := 25) rfl rfl ?_
    refine s_aload_n (pc := 27) rfl rfl ?_
    obtain ⟨q4, hq4, kq4, hw⟩ := hw
    refine s_getA (pc := 28) rfl ko_38 hq4 ?_
    refine s_getI (pc := 31) rfl kq4 ?_
    obtain ⟨hz5, hw⟩ := hw
    obtain ⟨hz6, hw⟩ := hw
    refine s_ic_ne (pc := 34) (tgt := 45) rfl rfl hz5 hz6 (fun hc => ?_) (fun hc => ?_)
    · replace hw := hw.1 hc
      refine s_iconst (pc := 45) rfl ?_
      refine s_istore (pc := 46) (L' := [some (.ref 38), some (.int (iz x1)), some (.ref x2), some (.int (iz x3)), some (.int (iz x4)), some (.int (iz 0)), none, none]) rfl (Nat.le_of_ble_eq_true rfl) rfl ?_
      refine s_iconst (pc := 48) rfl ?_
      refine s_istore (pc := 49) (L' := [some (.ref 38), some (.int (iz x1)), some (.ref x2), some (.int (iz x3)), some (.int (iz x4)), some (.int (iz 0)), some (.int (iz 1)), none]) rfl (Nat.le_of_ble_eq_true rfl) rfl ?_
      refine s_aload_n (pc := 51) rfl rfl ?_
      obtain ⟨q7, hq7, kq7, hw⟩ := hw
      refine s_getA (pc := 52) rfl ko_38 hq7 ?_
      refine s_getA (pc := 55) rfl kq7 (pc_8_0 hp kq7) ?_
      refine s_iload (pc := 58) rfl rfl ?_
      obtain ⟨hb8, hw⟩ := hw
      refine s_iald (pc := 60) rfl (kc_8_0 kq7) (by decide) hb8 ?_
      obtain ⟨hz9, hw⟩ := hw
      refine s_if_ge (pc := 61) (tgt := 99) rfl rfl hz9 (fun hc => ?_) (fun hc => ?_)
      · replace hw := hw.1 hc
        refine s_aload_n (pc := 99) rfl rfl ?_
        refine s_getA (pc := 100) rfl ko_38 (po_38_1 hp) ?_
        refine s_getI (pc := 103) rfl (by decide +kernel) ?_
        refine s_iload (pc := 106) rfl rfl ?_
        refine s_iadd (pc := 108) rfl ?_
        refine s_iload_n (pc := 109) rfl rfl ?_
        refine s_iconst (pc := 110) rfl ?_
        obtain ⟨hz10, hw⟩ := hw
        refine s_max (pc := 111) (d := d + 2) rfl hz10 (by decide) (Nat.le_of_ble_eq_true rfl) ?_
        refine s_isub (pc := 114) rfl ?_
        refine s_sipush (pc := 115) rfl (by decide) ?_
        obtain ⟨hz11, hw⟩ := hw
        refine s_ic_le (pc := 118) (tgt := 123) rfl rfl hz11 (by decide) (fun hc => ?_) (fun hc => ?_)
        · replace hw := hw.1 hc
          refine s_aload_n (pc := 123) rfl rfl ?_
          obtain ⟨q12, hq12, kq12, hw⟩ := hw
          refine s_getA (pc := 124) rfl ko_38 hq12 ?_
          refine s_getA (pc := 127) rfl kq12 (pc_8_0 hp kq12) ?_
          refine s_iload (pc := 130) rfl rfl ?_
          obtain ⟨hb13, hw⟩ := hw
          refine s_iald (pc := 132) rfl (kc_8_0 kq12) (by decide) hb13 ?_
          obtain ⟨hz14, hw⟩ := hw
          refine s_if_lt (pc := 133) (tgt := 156) rfl rfl hz14 (fun hc => ?_) (fun hc => ?_)
          · replace hw := hw.1 hc
            refine s_iload (pc := 156) rfl rfl ?_
            refine s_istore (pc := 158) (L' := [some (.ref 38), some (.int (iz x1)), some (.ref x2), some (.int (iz x3)), some (.int (iz x4)), some (.int (iz 0)), some (.int (iz 1)), some (.int (iz 0))]) rfl (Nat.le_of_ble_eq_true rfl) rfl ?_
            exact hw
          · replace hw := hw.2 hc
            refine s_aload_n (pc := 136) rfl rfl ?_
            refine s_getA (pc := 137) rfl ko_38 (po_38_1 hp) ?_
            refine s_aload_n (pc := 140) rfl rfl ?_
            obtain ⟨q15, hq15, kq15, hw⟩ := hw
            refine s_getA (pc := 141) rfl ko_38 hq15 ?_
            refine s_getA (pc := 144) rfl kq15 (pc_8_0 hp kq15) ?_
            refine s_iload (pc := 147) rfl rfl ?_
            obtain ⟨hb16, hw⟩ := hw
            refine s_iald (pc := 149) rfl (kc_8_0 kq15) (by decide) hb16 ?_
            refine s_cv (pc := 150) (d := (d + 2)) (t := []) rfl rfl (am_ca_v (ps := [.int (iz (m (q15 + 1) x4.toNat))]) rfl (by decide +kernel)) (Nat.le_of_ble_eq_true rfl) (Cv.weak hw fun m17 J18 P19 hw => ?_)
            obtain ⟨hp21, hw⟩ := hw
            refine s_goto (pc := 153) (tgt := 190) rfl rfl ?_
            exact hw
        · replace hw := hw.2 hc
          refine s_iconst (pc := 121) rfl ?_
          exact s_reti (pc := 122) rfl rfl hw
      · replace hw := hw.2 hc
        refine s_aload_n (pc := 64) rfl rfl ?_
        refine s_iload_n (pc := 65) rfl rfl ?_
        refine s_iconst (pc := 66) rfl ?_
        refine s_aload_n (pc := 67) rfl rfl ?_
        obtain ⟨q22, hq22, kq22, hw⟩ := hw
        refine s_getA (pc := 68) rfl ko_38 hq22 ?_
        refine s_getA (pc := 71) rfl kq22 (pc_8_0 hp kq22) ?_
        refine s_iload (pc := 74) rfl rfl ?_
        obtain ⟨hb23, hw⟩ := hw
        refine s_iald (pc := 76) rfl (kc_8_0 kq22) (by decide) hb23 ?_
        refine s_isub (pc := 77) rfl ?_
        refine s_aload_n (pc := 78) rfl rfl ?_
        refine s_ci (pc := 79) (d := (d + 2)) (t := []) rfl rfl (am_ca_v (ps := [.ref x2, .int (iz (((-1)) - (m (q22 + 1) x4.toNat))), .int (iz x1)]) rfl ko_38) (Nat.le_of_ble_eq_true rfl) (Ci.weak hw fun z27 m24 J25 P26 hw => ?_)
        obtain ⟨hp28, hw⟩ := hw
        refine s_istore (pc := 82) (L' := [some (.ref 38), some (.int (iz x1)), some (.ref x2), some (.int (iz x3)), some (.int (iz x4)), some (.int (iz z27)), some (.int (iz 1)), none]) rfl (Nat.le_of_ble_eq_true rfl) rfl ?_
        refine s_aload_n (pc := 84) rfl rfl ?_
        refine s_aload_n (pc := 85) rfl rfl ?_
        refine s_getA (pc := 86) rfl ko_38 (po_38_3 hp28) ?_
        refine s_iload (pc := 89) rfl rfl ?_
        refine s_ci (pc := 91) (d := (d + 2)) (t := []) rfl rfl (am_ca_v (ps := [.int (iz z27), .ref 45]) rfl kx2) (Nat.le_of_ble_eq_true rfl) (Ci.weak hw fun z32 m29 J30 P31 hw => ?_)
        obtain ⟨hp33, hw⟩ := hw
        refine s_iload (pc := 94) rfl rfl ?_
        refine s_isub (pc := 96) rfl ?_
        refine s_istore (pc := 97) (L' := [some (.ref 38), some (.int (iz x1)), some (.ref x2), some (.int (iz x3)), some (.int (iz x4)), some (.int (iz z27)), some (.int (iz (z32 - z27))), none]) rfl (Nat.le_of_ble_eq_true rfl) rfl ?_
        refine s_aload_n (pc := 99) rfl rfl ?_
        refine s_getA (pc := 100) rfl ko_38 (po_38_1 hp33) ?_
        refine s_getI (pc := 103) rfl (by decide +kernel) ?_
        refine s_iload (pc := 106) rfl rfl ?_
        refine s_iadd (pc := 108) rfl ?_
        refine s_iload_n (pc := 109) rfl rfl ?_
        refine s_iconst (pc := 110) rfl ?_
        obtain ⟨hz34, hw⟩ := hw
        refine s_max (pc := 111) (d := d + 2) rfl hz34 (by decide) (Nat.le_of_ble_eq_true rfl) ?_
        refine s_isub (pc := 114) rfl ?_
        refine s_sipush (pc := 115) rfl (by decide) ?_
        obtain ⟨hz35, hw⟩ := hw
        refine s_ic_le (pc := 118) (tgt := 123) rfl rfl hz35 (by decide) (fun hc => ?_) (fun hc => ?_)
        · replace hw := hw.1 hc
          refine s_aload_n (pc := 123) rfl rfl ?_
          obtain ⟨q36, hq36, kq36, hw⟩ := hw
          refine s_getA (pc := 124) rfl ko_38 hq36 ?_
          refine s_getA (pc := 127) rfl kq36 (pc_8_0 hp33 kq36) ?_
          refine s_iload (pc := 130) rfl rfl ?_
          obtain ⟨hb37, hw⟩ := hw
          refine s_iald (pc := 132) rfl (kc_8_0 kq36) (by decide) hb37 ?_
          obtain ⟨hz38, hw⟩ := hw
          refine s_if_lt (pc := 133) (tgt := 156) rfl rfl hz38 (fun hc => ?_) (fun hc => ?_)
          · replace hw := hw.1 hc
            refine s_iload (pc := 156) rfl rfl ?_
            refine s_istore (pc := 158) (L' := [some (.ref 38), some (.int (iz x1)), some (.ref x2), some (.int (iz x3)), some (.int (iz x4)), some (.int (iz z27)), some (.int (iz (z32 - z27))), some (.int (iz z27))]) rfl (Nat.le_of_ble_eq_true rfl) rfl ?_
            exact hw
          · replace hw := hw.2 hc
            refine s_aload_n (pc := 136) rfl rfl ?_
            refine s_getA (pc := 137) rfl ko_38 (po_38_1 hp33) ?_
            refine s_aload_n (pc := 140) rfl rfl ?_
            obtain ⟨q39, hq39, kq39, hw⟩ := hw
            refine s_getA (pc := 141) rfl ko_38 hq39 ?_
            refine s_getA (pc := 144) rfl kq39 (pc_8_0 hp33 kq39) ?_
            refine s_iload (pc := 147) rfl rfl ?_
            obtain ⟨hb40, hw⟩ := hw
            refine s_iald (pc := 149) rfl (kc_8_0 kq39) (by decide) hb40 ?_
            refine s_cv (pc := 150) (d := (d + 2)) (t := []) rfl rfl (am_ca_v (ps := [.int (iz (m29 (q39 + 1) x4.toNat))]) rfl (by decide +kernel)) (Nat.le_of_ble_eq_true rfl) (Cv.weak hw fun m41 J42 P43 hw => ?_)
            obtain ⟨hp45, hw⟩ := hw
            refine s_goto (pc := 153) (tgt := 190) rfl rfl ?_
            exact hw
        · replace hw := hw.2 hc
          refine s_iconst (pc := 121) rfl ?_
          exact s_reti (pc := 122) rfl rfl hw
    · replace hw := hw.2 hc
      refine s_aload_n (pc := 37) rfl rfl ?_
      refine s_getA (pc := 38) rfl ko_38 (po_38_1 hp) ?_
      refine s_getI (pc := 41) rfl (by decide +kernel) ?_
      refine s_istore_n (pc := 44) (L' := [some (.ref 38), some (.int (iz x1)), some (.ref x2), some (.int (iz (m 18 12))), some (.int (iz x4)), none, none, none]) rfl (Nat.le_of_ble_eq_true rfl) rfl ?_
      refine s_iconst (pc := 45) rfl ?_
      refine s_istore (pc := 46) (L' := [some (.ref 38), some (.int (iz x1)), some (.ref x2), some (.int (iz (m 18 12))), some (.int (iz x4)), some (.int (iz 0)), none, none]) rfl (Nat.le_of_ble_eq_true rfl) rfl ?_
      refine s_iconst (pc := 48) rfl ?_
      refine s_istore (pc := 49) (L' := [some (.ref 38), some (.int (iz x1)), some (.ref x2), some (.int (iz (m 18 12))), some (.int (iz x4)), some (.int (iz 0)), some (.int (iz 1)), none]) rfl (Nat.le_of_ble_eq_true rfl) rfl ?_
      refine s_aload_n (pc := 51) rfl rfl ?_
      obtain ⟨q46, hq46, kq46, hw⟩ := hw
      refine s_getA (pc := 52) rfl ko_38 hq46 ?_
      refine s_getA (pc := 55) rfl kq46 (pc_8_0 hp kq46) ?_
      refine s_iload (pc := 58) rfl rfl ?_
      obtain ⟨hb47, hw⟩ := hw
      refine s_iald (pc := 60) rfl (kc_8_0 kq46) (by decide) hb47 ?_
      obtain ⟨hz48, hw⟩ := hw
      refine s_if_ge (pc := 61) (tgt := 99) rfl rfl hz48 (fun hc => ?_) (fun hc => ?_)
      · replace hw := hw.1 hc
        refine s_aload_n (pc := 99) rfl rfl ?_
        refine s_getA (pc := 100) rfl ko_38 (po_38_1 hp) ?_
        refine s_getI (pc := 103) rfl (by decide +kernel) ?_
        refine s_iload (pc := 106) rfl rfl ?_
        refine s_iadd (pc := 108) rfl ?_
        refine s_iload_n (pc := 109) rfl rfl ?_
        refine s_iconst (pc := 110) rfl ?_
        obtain ⟨hz49, hw⟩ := hw
        refine s_max (pc := 111) (d := d + 2) rfl hz49 (by decide) (Nat.le_of_ble_eq_true rfl) ?_
        refine s_isub (pc := 114) rfl ?_
        refine s_sipush (pc := 115) rfl (by decide) ?_
        obtain ⟨hz50, hw⟩ := hw
        refine s_ic_le (pc := 118) (tgt := 123) rfl rfl hz50 (by decide) (fun hc => ?_) (fun hc => ?_)
        · replace hw := hw.1 hc
          refine s_aload_n (pc := 123) rfl rfl ?_
          obtain ⟨q51, hq51, kq51, hw⟩ := hw
          refine s_getA (pc := 124) rfl ko_38 hq51 ?_
          refine s_getA (pc := 127) rfl kq51 (pc_8_0 hp kq51) ?_
          refine s_iload (pc := 130) rfl rfl ?_
          obtain ⟨hb52, hw⟩ := hw
          refine s_iald (pc := 132) rfl (kc_8_0 kq51) (by decide) hb52 ?_
          obtain ⟨hz53, hw⟩ := hw
          refine s_if_lt (pc := 133) (tgt := 156) rfl rfl hz53 (fun hc => ?_) (fun hc => ?_)
          · replace hw := hw.1 hc
            refine s_iload (pc := 156) rfl rfl ?_
            refine s_istore (pc := 158) (L' := [some (.ref 38), some (.int (iz x1)), some (.ref x2), some (.int (iz (m 18 12))), some (.int (iz x4)), some (.int (iz 0)), some (.int (iz 1)), some (.int (iz 0))]) rfl (Nat.le_of_ble_eq_true rfl) rfl ?_
            exact hw
          · replace hw := hw.2 hc
            refine s_aload_n (pc := 136) rfl rfl ?_
            refine s_getA (pc := 137) rfl ko_38 (po_38_1 hp) ?_
            refine s_aload_n (pc := 140) rfl rfl ?_
            obtain ⟨q54, hq54, kq54, hw⟩ := hw
            refine s_getA (pc := 141) rfl ko_38 hq54 ?_
            refine s_getA (pc := 144) rfl kq54 (pc_8_0 hp kq54) ?_
            refine s_iload (pc := 147) rfl rfl ?_
            obtain ⟨hb55, hw⟩ := hw
            refine s_iald (pc := 149) rfl (kc_8_0 kq54) (by decide) hb55 ?_
            refine s_cv (pc := 150) (d := (d + 2)) (t := []) rfl rfl (am_ca_v (ps := [.int (iz (m (q54 + 1) x4.toNat))]) rfl (by decide +kernel)) (Nat.le_of_ble_eq_true rfl) (Cv.weak hw fun m56 J57 P58 hw => ?_)
            obtain ⟨hp60, hw⟩ := hw
            refine s_goto (pc := 153) (tgt := 190) rfl rfl ?_
            exact hw
        · replace hw := hw.2 hc
          refine s_iconst (pc := 121) rfl ?_
          exact s_reti (pc := 122) rfl rfl hw
      · replace hw := hw.2 hc
        refine s_aload_n (pc := 64) rfl rfl ?_
        refine s_iload_n (pc := 65) rfl rfl ?_
        refine s_iconst (pc := 66) rfl ?_
        refine s_aload_n (pc := 67) rfl rfl ?_
        obtain ⟨q61, hq61, kq61, hw⟩ := hw
        refine s_getA (pc := 68) rfl ko_38 hq61 ?_
        refine s_getA (pc := 71) rfl kq61 (pc_8_0 hp kq61) ?_
        refine s_iload (pc := 74) rfl rfl ?_
        obtain ⟨hb62, hw⟩ := hw
        refine s_iald (pc := 76) rfl (kc_8_0 kq61) (by decide) hb62 ?_
        refine s_isub (pc := 77) rfl ?_
        refine s_aload_n (pc := 78) rfl rfl ?_
        refine s_ci (pc := 79) (d := (d + 2)) (t := []) rfl rfl (am_ca_v (ps := [.ref x2, .int (iz (((-1)) - (m (q61 + 1) x4.toNat))), .int (iz x1)]) rfl ko_38) (Nat.le_of_ble_eq_true rfl) (Ci.weak hw fun z66 m63 J64 P65 hw => ?_)
        obtain ⟨hp67, hw⟩ := hw
        refine s_istore (pc := 82) (L' := [some (.ref 38), some (.int (iz x1)), some (.ref x2), some (.int (iz (m 18 12))), some (.int (iz x4)), some (.int (iz z66)), some (.int (iz 1)), none]) rfl (Nat.le_of_ble_eq_true rfl) rfl ?_
        refine s_aload_n (pc := 84) rfl rfl ?_
        refine s_aload_n (pc := 85) rfl rfl ?_
        refine s_getA (pc := 86) rfl ko_38 (po_38_3 hp67) ?_
        refine s_iload (pc := 89) rfl rfl ?_
        refine s_ci (pc := 91) (d := (d + 2)) (t := []) rfl rfl (am_ca_v (ps := [.int (iz z66), .ref 45]) rfl kx2) (Nat.le_of_ble_eq_true rfl) (Ci.weak hw fun z71 m68 J69 P70 hw => ?_)
        obtain ⟨hp72, hw⟩ := hw
        refine s_iload (pc := 94) rfl rfl ?_
        refine s_isub (pc := 96) rfl ?_
        refine s_istore (pc := 97) (L' := [some (.ref 38), some (.int (iz x1)), some (.ref x2), some (.int (iz (m 18 12))), some (.int (iz x4)), some (.int (iz z66)), some (.int (iz (z71 - z66))), none]) rfl (Nat.le_of_ble_eq_true rfl) rfl ?_
        refine s_aload_n (pc := 99) rfl rfl ?_
        refine s_getA (pc := 100) rfl ko_38 (po_38_1 hp72) ?_
        refine s_getI (pc := 103) rfl (by decide +kernel) ?_
        refine s_iload (pc := 106) rfl rfl ?_
        refine s_iadd (pc := 108) rfl ?_
        refine s_iload_n (pc := 109) rfl rfl ?_
        refine s_iconst (pc := 110) rfl ?_
        obtain ⟨hz73, hw⟩ := hw
        refine s_max (pc := 111) (d := d + 2) rfl hz73 (by decide) (Nat.le_of_ble_eq_true rfl) ?_
        refine s_isub (pc := 114) rfl ?_
        refine s_sipush (pc := 115) rfl (by decide) ?_
        obtain ⟨hz74, hw⟩ := hw
        refine s_ic_le (pc := 118) (tgt := 123) rfl rfl hz74 (by decide) (fun hc => ?_) (fun hc => ?_)
        · replace hw := hw.1 hc
          refine s_aload_n (pc := 123) rfl rfl ?_
          obtain ⟨q75, hq75, kq75, hw⟩ := hw
          refine s_getA (pc := 124) rfl ko_38 hq75 ?_
          refine s_getA (pc := 127) rfl kq75 (pc_8_0 hp72 kq75) ?_
          refine s_iload (pc := 130) rfl rfl ?_
          obtain ⟨hb76, hw⟩ := hw
          refine s_iald (pc := 132) rfl (kc_8_0 kq75) (by decide) hb76 ?_
          obtain ⟨hz77, hw⟩ := hw
          refine s_if_lt (pc := 133) (tgt := 156) rfl rfl hz77 (fun hc => ?_) (fun hc => ?_)
          · replace hw := hw.1 hc
            refine s_iload (pc := 156) rfl rfl ?_
            refine s_istore (pc := 158) (L' := [some (.ref 38), some (.int (iz x1)), some (.ref x2), some (.int (iz (m 18 12))), some (.int (iz x4)), some (.int (iz z66)), some (.int (iz (z71 - z66))), some (.int (iz z66))]) rfl (Nat.le_of_ble_eq_true rfl) rfl ?_
            exact hw
          · replace hw := hw.2 hc
            refine s_aload_n (pc := 136) rfl rfl ?_
            refine s_getA (pc := 137) rfl ko_38 (po_38_1 hp72) ?_
            refine s_aload_n (pc := 140) rfl rfl ?_
            obtain ⟨q78, hq78, kq78, hw⟩ := hw
            refine s_getA (pc := 141) rfl ko_38 hq78 ?_
            refine s_getA (pc := 144) rfl kq78 (pc_8_0 hp72 kq78) ?_
            refine s_iload (pc := 147) rfl rfl ?_
            obtain ⟨hb79, hw⟩ := hw
            refine s_iald (pc := 149) rfl (kc_8_0 kq78) (by decide) hb79 ?_
            refine s_cv (pc := 150) (d := (d + 2)) (t := []) rfl rfl (am_ca_v (ps := [.int (iz (m68 (q78 + 1) x4.toNat))]) rfl (by decide +kernel)) (Nat.le_of_ble_eq_true rfl) (Cv.weak hw fun m80 J81 P82 hw => ?_)
            obtain ⟨hp84, hw⟩ := hw
            refine s_goto (pc := 153) (tgt := 190) rfl rfl ?_
            exact hw
        · replace hw := hw.2 hc
          refine s_iconst (pc := 121) rfl ?_
          exact s_reti (pc := 122) rfl rfl hw

set_option maxRecDepth 20000 in
set_option maxHeartbeats 4000000 in
theorem b_Tree_putGoal_160 {X : aX} {d : Nat} (x1 : Int) (x2 : Nat) (x3 : Int) (x4 : Int) (x5 : Int) (x6 : Int) (x7 : Int) (kx2 : am_kd an_K x2 = some (.inl 10)) (m : Mi) (J : Mj) (P : Mp) (hp : PP P) (post : Int → Mi → Mj → Mp → Prop)
    (hw : Zr (x7) ∧ Zr (x5 + x6) ∧ ((((x5 + x6) ≤ x7) → Rn X (d + 3) 120 190 [some (.ref 38), some (.int (iz x1)), some (.ref x2), some (.int (iz x3)), some (.int (iz x4)), some (.int (iz x5)), some (.int (iz x6)), none] [] (SS m J P) (QI post)) ∧ (¬ ((x5 + x6) ≤ x7) → ((0 : Int) ≤ x7 ∧ (x7 : Int) < 30000) ∧ Cv X (d + 2) 62 [.ref 18, .int (iz (m 45 x7.toNat))] m J P (fun m4 J5 P6 => PP P6 ∧ Rn X (d + 3) 120 160 [some (.ref 38), some (.int (iz x1)), some (.ref x2), some (.int (iz x3)), some (.int (iz x4)), some (.int (iz x5)), some (.int (iz x6)), some (.int (iz (x7 + 1)))] [] (SS m4 J5 P6) (QI post))))) : Rn X (d + 3) 120 160 [some (.ref 38), some (.int (iz x1)), some (.ref x2), some (.int (iz x3)), some (.int (iz x4)), some (.int (iz x5)), some (.int (iz x6)), some (.int (iz x7))] [] (SS m J P) (QI post) := by
  refine s_iload (pc := 160) rfl rfl ?_
  refine s_iload (pc := 162) rfl rfl ?_
  refine s_iload (pc := 164) rfl rfl ?_
  refine s_iadd (pc := 166) rfl ?_
  obtain ⟨hz1, hw⟩ := hw
  obtain ⟨hz2, hw⟩ := hw
  refine s_ic_ge (pc := 167) (tgt := 190) rfl rfl hz1 hz2 (fun hc => ?_) (fun hc => ?_)
  · replace hw := hw.1 hc
    exact Rn.weakL hw (LLe.keep _ (LLe.keep _ (LLe.keep _ (LLe.keep _ (LLe.keep _ (LLe.keep _ (LLe.keep _ (LLe.drop _ (LLe.nil)))))))))
  · replace hw := hw.2 hc
    refine s_aload_n (pc := 170) rfl rfl ?_
    refine s_getA (pc := 171) rfl ko_38 (po_38_1 hp) ?_
    refine s_aload_n (pc := 174) rfl rfl ?_
    refine s_getA (pc := 175) rfl ko_38 (po_38_3 hp) ?_
    refine s_iload (pc := 178) rfl rfl ?_
    obtain ⟨hb3, hw⟩ := hw
    refine s_iald (pc := 180) rfl ka_45 (by decide) hb3 ?_
    refine s_cv (pc := 181) (d := (d + 2)) (t := []) rfl rfl (am_ca_v (ps := [.int (iz (m 45 x7.toNat))]) rfl (by decide +kernel)) (Nat.le_of_ble_eq_true rfl) (Cv.weak hw fun m4 J5 P6 hw => ?_)
    obtain ⟨hp8, hw⟩ := hw
    refine s_iinc (pc := 184) (L' := [some (.ref 38), some (.int (iz x1)), some (.ref x2), some (.int (iz x3)), some (.int (iz x4)), some (.int (iz x5)), some (.int (iz x6)), some (.int (iz (x7 + 1)))]) rfl rfl (Nat.le_of_ble_eq_true rfl) rfl ?_
    refine s_goto (pc := 187) (tgt := 160) rfl rfl ?_
    exact hw

set_option maxRecDepth 20000 in
set_option maxHeartbeats 4000000 in
theorem b_Tree_putGoal_190 {X : aX} {d : Nat} (x1 : Int) (x2 : Nat) (x3 : Int) (x4 : Int) (x5 : Int) (x6 : Int) (kx2 : am_kd an_K x2 = some (.inl 10)) (m : Mi) (J : Mj) (P : Mp) (hp : PP P) (post : Int → Mi → Mj → Mp → Prop)
    (hw : Rn X (d + 3) 120 13 [some (.ref 38), some (.int (iz x1)), some (.ref x2), some (.int (iz x3)), some (.int (iz (x4 + 1))), none, none, none] [] (SS m J P) (QI post)) : Rn X (d + 3) 120 190 [some (.ref 38), some (.int (iz x1)), some (.ref x2), some (.int (iz x3)), some (.int (iz x4)), some (.int (iz x5)), some (.int (iz x6)), none] [] (SS m J P) (QI post) := by
  refine s_iinc (pc := 190) (L' := [some (.ref 38), some (.int (iz x1)), some (.ref x2), some (.int (iz x3)), some (.int (iz (x4 + 1))), some (.int (iz x5)), some (.int (iz x6)), none]) rfl rfl (Nat.le_of_ble_eq_true rfl) rfl ?_
  refine s_goto (pc := 193) (tgt := 13) rfl rfl ?_
  exact Rn.weakL hw (LLe.keep _ (LLe.keep _ (LLe.keep _ (LLe.keep _ (LLe.keep _ (LLe.drop _ (LLe.drop _ (LLe.keep _ (LLe.nil)))))))))

set_option maxRecDepth 20000 in
set_option maxHeartbeats 4000000 in
theorem b_Tree_valueStart_0 {X : aX} {d : Nat} (x1 : Int) (x2 : Int) (x3 : Nat) (kx3 : am_kd an_K x3 = some (.inl 10)) (m : Mi) (J : Mj) (P : Mp) (hp : PP P) (post : Int → Mi → Mj → Mp → Prop)
    (hw : ((0 : Int) ≤ x1 ∧ (x1 : Int) < 300) ∧ Rn X (d + 2) 121 11 [some (.ref 38), some (.int (iz x1)), some (.int (iz x2)), some (.ref x3), some (.int (iz (m 48 x1.toNat))), some (.int (iz 0))] [] (SS m J P) (QI post)) : Rn X (d + 2) 121 0 [some (.ref 38), some (.int (iz x1)), some (.int (iz x2)), some (.ref x3), none, none] [] (SS m J P) (QI post) := by
  refine s_aload_n (pc := 0) rfl rfl ?_
  refine s_getA (pc := 1) rfl ko_38 (po_38_6 hp) ?_
  refine s_iload_n (pc := 4) rfl rfl ?_
  obtain ⟨hb1, hw⟩ := hw
  refine s_iald (pc := 5) rfl ka_48 (by decide) hb1 ?_
  refine s_istore (pc := 6) (L' := [some (.ref 38), some (.int (iz x1)), some (.int (iz x2)), some (.ref x3), some (.int (iz (m 48 x1.toNat))), none]) rfl (Nat.le_of_ble_eq_true rfl) rfl ?_
  refine s_iconst (pc := 8) rfl ?_
  refine s_istore (pc := 9) (L' := [some (.ref 38), some (.int (iz x1)), some (.int (iz x2)), some (.ref x3), some (.int (iz (m 48 x1.toNat))), some (.int (iz 0))]) rfl (Nat.le_of_ble_eq_true rfl) rfl ?_
  exact hw

set_option maxRecDepth 20000 in
set_option maxHeartbeats 4000000 in
theorem b_Tree_valueStart_11 {X : aX} {d : Nat} (x1 : Int) (x2 : Int) (x3 : Nat) (x4 : Int) (x5 : Int) (kx3 : am_kd an_K x3 = some (.inl 10)) (m : Mi) (J : Mj) (P : Mp) (hp : PP P) (post : Int → Mi → Mj → Mp → Prop)
    (hw : Zr (x5) ∧ Zr (x2) ∧ (((x2 ≤ x5) → post x4 m J P) ∧ (¬ (x2 ≤ x5) → Ci X (d + 1) 96 [.ref x3, .ref 45, .int (iz x4)] m J P (fun z6 m3 J4 P5 => PP P5 ∧ Rn X (d + 2) 121 11 [some (.ref 38), some (.int (iz x1)), some (.int (iz x2)), some (.ref x3), some (.int (iz z6)), some (.int (iz (x5 + 1)))] [] (SS m3 J4 P5) (QI post))))) : Rn X (d + 2) 121 11 [some (.ref 38), some (.int (iz x1)), some (.int (iz x2)), some (.ref x3), some (.int (iz x4)), some (.int (iz x5))] [] (SS m J P) (QI post) := by
  refine s_iload (pc := 11) rfl rfl ?_
  refine s_iload_n (pc := 13) rfl rfl ?_
  obtain ⟨hz1, hw⟩ := hw
  obtain ⟨hz2, hw⟩ := hw
  refine s_ic_ge (pc := 14) (tgt := 35) rfl rfl hz1 hz2 (fun hc => ?_) (fun hc => ?_)
  · replace hw := hw.1 hc
    refine s_iload (pc := 35) rfl rfl ?_
    exact s_reti (pc := 37) rfl rfl hw
  · replace hw := hw.2 hc
    refine s_aload_n (pc := 17) rfl rfl ?_
    refine s_aload_n (pc := 18) rfl rfl ?_
    refine s_getA (pc := 19) rfl ko_38 (po_38_3 hp) ?_
    refine s_iload (pc := 22) rfl rfl ?_
    refine s_ci (pc := 24) (d := (d + 1)) (t := []) rfl rfl (am_ca_v (ps := [.int (iz x4), .ref 45]) rfl kx3) (Nat.le_of_ble_eq_true rfl) (Ci.weak hw fun z6 m3 J4 P5 hw => ?_)
    obtain ⟨hp7, hw⟩ := hw
    refine s_istore (pc := 27) (L' := [some (.ref 38), some (.int (iz x1)), some (.int (iz x2)), some (.ref x3), some (.int (iz z6)), some (.int (iz x5))]) rfl (Nat.le_of_ble_eq_true rfl) rfl ?_
    refine s_iinc (pc := 29) (L' := [some (.ref 38), some (.int (iz x1)), some (.int (iz x2)), some (.ref x3), some (.int (iz z6)), some (.int (iz (x5 + 1)))]) rfl rfl (Nat.le_of_ble_eq_true rfl) rfl ?_
    refine s_goto (pc := 32) (tgt := 11) rfl rfl ?_
    exact hw

set_option maxRecDepth 20000 in
set_option maxHeartbeats 4000000 in
theorem b_Nh_covers_0 {X : aX} {d : Nat} (x1 : Int) (x2 : Int)  (m : Mi) (J : Mj) (P : Mp) (hp : PP P) (post : Int → Mi → Mj → Mp → Prop)
    (hw : Ci X (d + 3) 119 [.ref 38, .int (iz x1)] m J P (fun z4 m1 J2 P3 => PP P3 ∧ Zr (z4) ∧ (((z4 = 0) → post 0 m1 J2 P3) ∧ (¬ (z4 = 0) → Ci X (d + 3) 119 [.ref 38, .int (iz x2)] m1 J2 P3 (fun z10 m7 J8 P9 => PP P9 ∧ Zr (z10) ∧ (((z10 = 0) → post 0 m7 J8 P9) ∧ (¬ (z10 = 0) → (∃ q13, P9 1 8 = some q13 ∧ am_kd an_K q13 = some (.inl 10) ∧ Ci X (d + 3) 123 [.ref 38, .int (iz x1), .int (iz x2), .ref q13] m7 J8 P9 (fun z17 m14 J15 P16 => PP P16 ∧ Zr (z17) ∧ (((z17 = 0) → post 0 m14 J15 P16) ∧ (¬ (z17 = 0) → post 1 m14 J15 P16))))))))))) : Rn X (d + 4) 122 0 [some (.ref 1), some (.int (iz x1)), some (.int (iz x2))] [] (SS m J P) (QI post) := by
  refine s_aload_n (pc := 0) rfl rfl ?_
  refine s_getA (pc := 1) rfl ko_1 (po_1_6 hp) ?_
  refine s_iload_n (pc := 4) rfl rfl ?_
  refine s_ci (pc := 5) (d := (d + 3)) (t := []) rfl rfl (am_ca_v (ps := [.int (iz x1)]) rfl ko_38) (Nat.le_of_ble_eq_true rfl) (Ci.weak hw fun z4 m1 J2 P3 hw => ?_)
  obtain ⟨hp5, hw⟩ := hw
  obtain ⟨hz6, hw⟩ := hw
  refine s_if_eq (pc := 8) (tgt := 42) rfl rfl hz6 (fun hc => ?_) (fun hc => ?_)
  · replace hw := hw.1 hc
    refine s_iconst (pc := 42) rfl ?_
    exact s_retz (pc := 43) rfl rfl (by decide) hw
  · replace hw := hw.2 hc
    refine s_aload_n (pc := 11) rfl rfl ?_
    refine s_getA (pc := 12) rfl ko_1 (po_1_6 hp5) ?_
    refine s_iload_n (pc := 15) rfl rfl ?_
    refine s_ci (pc := 16) (d := (d + 3)) (t := []) rfl rfl (am_ca_v (ps := [.int (iz x2)]) rfl ko_38) (Nat.le_of_ble_eq_true rfl) (Ci.weak hw fun z10 m7 J8 P9 hw => ?_)
    obtain ⟨hp11, hw⟩ := hw
    obtain ⟨hz12, hw⟩ := hw
    refine s_if_eq (pc := 19) (tgt := 42) rfl rfl hz12 (fun hc => ?_) (fun hc => ?_)
    · replace hw := hw.1 hc
      refine s_iconst (pc := 42) rfl ?_
      exact s_retz (pc := 43) rfl rfl (by decide) hw
    · replace hw := hw.2 hc
      refine s_aload_n (pc := 22) rfl rfl ?_
      refine s_getA (pc := 23) rfl ko_1 (po_1_6 hp11) ?_
      refine s_iload_n (pc := 26) rfl rfl ?_
      refine s_iload_n (pc := 27) rfl rfl ?_
      refine s_aload_n (pc := 28) rfl rfl ?_
      obtain ⟨q13, hq13, kq13, hw⟩ := hw
      refine s_getA (pc := 29) rfl ko_1 hq13 ?_
      refine s_ci (pc := 32) (d := (d + 3)) (t := []) rfl rfl (am_ca_v (ps := [.ref q13, .int (iz x2), .int (iz x1)]) rfl ko_38) (Nat.le_of_ble_eq_true rfl) (Ci.weak hw fun z17 m14 J15 P16 hw => ?_)
      obtain ⟨hp18, hw⟩ := hw
      obtain ⟨hz19, hw⟩ := hw
      refine s_if_eq (pc := 35) (tgt := 42) rfl rfl hz19 (fun hc => ?_) (fun hc => ?_)
      · replace hw := hw.1 hc
        refine s_iconst (pc := 42) rfl ?_
        exact s_retz (pc := 43) rfl rfl (by decide) hw
      · replace hw := hw.2 hc
        refine s_iconst (pc := 38) rfl ?_
        refine s_goto (pc := 39) (tgt := 43) rfl rfl ?_
        exact s_retz (pc := 43) rfl rfl (by decide) hw

set_option maxRecDepth 20000 in
set_option maxHeartbeats 4000000 in
theorem b_Tree_matches_0 {X : aX} {d : Nat} (x1 : Int) (x2 : Int) (x3 : Nat) (kx3 : am_kd an_K x3 = some (.inl 10)) (m : Mi) (J : Mj) (P : Mp) (hp : PP P) (post : Int → Mi → Mj → Mp → Prop)
    (hw : Rn X (d + 3) 123 3 [some (.ref 38), some (.int (iz x1)), some (.int (iz x2)), some (.ref x3), some (.int (iz 0)), none, none, none, none, none] [] (SS m J P) (QI post)) : Rn X (d + 3) 123 0 [some (.ref 38), some (.int (iz x1)), some (.int (iz x2)), some (.ref x3), none, none, none, none, none, none] [] (SS m J P) (QI post) := by
  refine s_iconst (pc := 0) rfl ?_
  refine s_istore (pc := 1) (L' := [some (.ref 38), some (.int (iz x1)), some (.int (iz x2)), some (.ref x3), some (.int (iz 0)), none, none, none, none, none]) rfl (Nat.le_of_ble_eq_true rfl) rfl ?_
  exact hw

set_option maxRecDepth 20000 in
set_option maxHeartbeats 4000000 in
theorem b_Tree_matches_3 {X : aX} {d : Nat} (x1 : Int) (x2 : Int) (x3 : Nat) (x4 : Int) (kx3 : am_kd an_K x3 = some (.inl 10)) (m : Mi) (J : Mj) (P : Mp) (hp : PP P) (post : Int → Mi → Mj → Mp → Prop)
    (hw : Zr (x4) ∧ (((800 ≤ x4) → (∃ q2, P 38 2 = some q2 ∧ am_kd an_K q2 = some (.inl 8) ∧ Ci X (d + 2) 121 [.ref 38, .int (iz x1), .int (iz (m q2 7)), .ref x3] m J P (fun z6 m3 J4 P5 => PP P5 ∧ ((0 : Int) ≤ x2 ∧ (x2 : Int) < 300) ∧ ((0 : Int) ≤ x1 ∧ (x1 : Int) < 300) ∧ Rn X (d + 3) 123 56 [some (.ref 38), some (.int (iz x1)), some (.int (iz x2)), some (.ref x3), some (.int (iz z6)), some (.int (iz (m3 48 x2.toNat))), some (.int (iz (m3 48 x1.toNat))), none, none, none] [] (SS m3 J4 P5) (QI post)))) ∧ (¬ (800 ≤ x4) → ((0 : Int) ≤ x4 ∧ (x4 : Int) < 800) ∧ Rn X (d + 3) 123 3 [some (.ref 38), some (.int (iz x1)), some (.int (iz x2)), some (.ref x3), some (.int (iz (x4 + 1))), none, none, none, none, none] [] (SS (mu m 49 x4.toNat ((-1))) J P) (QI post)))) : Rn X (d + 3) 123 3 [some (.ref 38), some (.int (iz x1)), some (.int (iz x2)), some (.ref x3), some (.int (iz x4)), none, none, none, none, none] [] (SS m J P) (QI post) := by
  refine s_iload (pc := 3) rfl rfl ?_
  refine s_sipush (pc := 5) rfl (by decide) ?_
  obtain ⟨hz1, hw⟩ := hw
  refine s_ic_ge (pc := 8) (tgt := 25) rfl rfl hz1 (by decide) (fun hc => ?_) (fun hc => ?_)
  · replace hw := hw.1 hc
    refine s_aload_n (pc := 25) rfl rfl ?_
    refine s_iload_n (pc := 26) rfl rfl ?_
    refine s_aload_n (pc := 27) rfl rfl ?_
    obtain ⟨q2, hq2, kq2, hw⟩ := hw
    refine s_getA (pc := 28) rfl ko_38 hq2 ?_
    refine s_getI (pc := 31) rfl kq2 ?_
    refine s_aload_n (pc := 34) rfl rfl ?_
    refine s_ci (pc := 35) (d := (d + 2)) (t := []) rfl rfl (am_ca_v (ps := [.ref x3, .int (iz (m q2 7)), .int (iz x1)]) rfl ko_38) (Nat.le_of_ble_eq_true rfl) (Ci.weak hw fun z6 m3 J4 P5 hw => ?_)
    obtain ⟨hp7, hw⟩ := hw
    refine s_istore (pc := 38) (L' := [some (.ref 38), some (.int (iz x1)), some (.int (iz x2)), some (.ref x3), some (.int (iz z6)), none, none, none, none, none]) rfl (Nat.le_of_ble_eq_true rfl) rfl ?_
    refine s_aload_n (pc := 40) rfl rfl ?_
    refine s_getA (pc := 41) rfl ko_38 (po_38_6 hp7) ?_
    refine s_iload_n (pc := 44) rfl rfl ?_
    obtain ⟨hb8, hw⟩ := hw
    refine s_iald (pc := 45) rfl ka_48 (by decide) hb8 ?_
    refine s_istore (pc := 46) (L' := [some (.ref 38), some (.int (iz x1)), some (.int (iz x2)), some (.ref x3), some (.int (iz z6)), some (.int (iz (m3 48 x2.toNat))), none, none, none, none]) rfl (Nat.le_of_ble_eq_true rfl) rfl ?_
    refine s_aload_n (pc := 48) rfl rfl ?_
    refine s_getA (pc := 49) rfl ko_38 (po_38_6 hp7) ?_
    refine s_iload_n (pc := 52) rfl rfl ?_
    obtain ⟨hb9, hw⟩ := hw
    refine s_iald (pc := 53) rfl ka_48 (by decide) hb9 ?_
    refine s_istore (pc := 54) (L' := [some (.ref 38), some (.int (iz x1)), some (.int (iz x2)), some (.ref x3), some (.int (iz z6)), some (.int (iz (m3 48 x2.toNat))), some (.int (iz (m3 48 x1.toNat))), none, none, none]) rfl (Nat.le_of_ble_eq_true rfl) rfl ?_
    exact hw
  · replace hw := hw.2 hc
    refine s_aload_n (pc := 11) rfl rfl ?_
    refine s_getA (pc := 12) rfl ko_38 (po_38_7 hp) ?_
    refine s_iload (pc := 15) rfl rfl ?_
    refine s_iconst (pc := 17) rfl ?_
    obtain ⟨hb10, hw⟩ := hw
    refine s_iast (pc := 18) rfl ka_49 (by decide) hb10 ?_
    refine s_iinc (pc := 19) (L' := [some (.ref 38), some (.int (iz x1)), some (.int (iz x2)), some (.ref x3), some (.int (iz (x4 + 1))), none, none, none, none, none]) rfl rfl (Nat.le_of_ble_eq_true rfl) rfl ?_
    refine s_goto (pc := 22) (tgt := 3) rfl rfl ?_
    exact hw

set_option maxRecDepth 20000 in
set_option maxHeartbeats 4000000 in
theorem b_Tree_matches_56 {X : aX} {d : Nat} (x1 : Int) (x2 : Int) (x3 : Nat) (x4 : Int) (x5 : Int) (x6 : Int) (kx3 : am_kd an_K x3 = some (.inl 10)) (m : Mi) (J : Mj) (P : Mp) (hp : PP P) (post : Int → Mi → Mj → Mp → Prop)
    (hw : Zr (x6) ∧ Zr (x4) ∧ (((x4 ≤ x6) → post 1 m J P) ∧ (¬ (x4 ≤ x6) → Zr (x5) ∧ (((30000 ≤ x5) → post 1 m J P) ∧ (¬ (30000 ≤ x5) → ((0 : Int) ≤ x6 ∧ (x6 : Int) < 30000) ∧ Zr (m 45 x6.toNat) ∧ ((((m 45 x6.toNat) < 0) → Ci X (d + 2) 96 [.ref x3, .ref 45, .int (iz x5)] m J P (fun z9 m6 J7 P8 => PP P8 ∧ ((0 : Int) ≤ (((-1)) - (m 45 x6.toNat)) ∧ ((((-1)) - (m 45 x6.toNat)) : Int) < 800) ∧ Zr (m6 49 (((-1)) - (m 45 x6.toNat)).toNat) ∧ (((¬ (m6 49 (((-1)) - (m 45 x6.toNat)).toNat) = ((-1))) → ((0 : Int) ≤ (((-1)) - (m 45 x6.toNat)) ∧ ((((-1)) - (m 45 x6.toNat)) : Int) < 800) ∧ Ci X (d + 2) 124 [.ref 38, .int (iz (m6 49 (((-1)) - (m 45 x6.toNat)).toNat)), .int (iz x5), .int (iz z9)] m6 J7 P8 (fun z17 m14 J15 P16 => PP P16 ∧ Zr (z17) ∧ (((¬ z17 = 0) → Rn X (d + 3) 123 56 [some (.ref 38), some (.int (iz x1)), some (.int (iz x2)), some (.ref x3), some (.int (iz x4)), some (.int (iz z9)), some (.int (iz (x6 + 1))), none, none, none] [] (SS m14 J15 P16) (QI post)) ∧ (¬ (¬ z17 = 0) → post 0 m14 J15 P16)))) ∧ (¬ (¬ (m6 49 (((-1)) - (m 45 x6.toNat)).toNat) = ((-1))) → ((0 : Int) ≤ (((-1)) - (m 45 x6.toNat)) ∧ ((((-1)) - (m 45 x6.toNat)) : Int) < 800) ∧ Rn X (d + 3) 123 56 [some (.ref 38), some (.int (iz x1)), some (.int (iz x2)), some (.ref x3), some (.int (iz x4)), some (.int (iz z9)), some (.int (iz (x6 + 1))), none, none, none] [] (SS (mu m6 49 (((-1)) - (m 45 x6.toNat)).toNat x5) J7 P8) (QI post))))) ∧ (¬ ((m 45 x6.toNat) < 0) → ((0 : Int) ≤ x5 ∧ (x5 : Int) < 30000) ∧ Zr (m 45 x5.toNat) ∧ Zr (m 45 x6.toNat) ∧ ((((m 45 x5.toNat) = (m 45 x6.toNat)) → Rn X (d + 3) 123 56 [some (.ref 38), some (.int (iz x1)), some (.int (iz x2)), some (.ref x3), some (.int (iz x4)), some (.int (iz (x5 + 1))), some (.int (iz (x6 + 1))), none, none, none] [] (SS m J P) (QI post)) ∧ (¬ ((m 45 x5.toNat) = (m 45 x6.toNat)) → post 0 m J P))))))))) : Rn X (d + 3) 123 56 [some (.ref 38), some (.int (iz x1)), some (.int (iz x2)), some (.ref x3), some (.int (iz x4)), some (.int (iz x5)), some (.int (iz x6)), none, none, none] [] (SS m J P) (QI post) := by
  refine s_iload (pc := 56) rfl rfl ?_
  refine s_iload (pc := 58) rfl rfl ?_
  obtain ⟨hz1, hw⟩ := hw
  obtain ⟨hz2, hw⟩ := hw
  refine s_ic_ge (pc := 60) (tgt := 176) rfl rfl hz1 hz2 (fun hc => ?_) (fun hc => ?_)
  · replace hw := hw.1 hc
    refine s_iconst (pc := 176) rfl ?_
    exact s_retz (pc := 177) rfl rfl (by decide) hw
  · replace hw := hw.2 hc
    refine s_iload (pc := 63) rfl rfl ?_
    refine s_sipush (pc := 65) rfl (by decide) ?_
    obtain ⟨hz3, hw⟩ := hw
    refine s_ic_ge (pc := 68) (tgt := 176) rfl rfl hz3 (by decide) (fun hc => ?_) (fun hc => ?_)
    · replace hw := hw.1 hc
      refine s_iconst (pc := 176) rfl ?_
      exact s_retz (pc := 177) rfl rfl (by decide) hw
    · replace hw := hw.2 hc
      refine s_aload_n (pc := 71) rfl rfl ?_
      refine s_getA (pc := 72) rfl ko_38 (po_38_3 hp) ?_
      refine s_iload (pc := 75) rfl rfl ?_
      obtain ⟨hb4, hw⟩ := hw
      refine s_iald (pc := 77) rfl ka_45 (by decide) hb4 ?_
      refine s_istore (pc := 78) (L' := [some (.ref 38), some (.int (iz x1)), some (.int (iz x2)), some (.ref x3), some (.int (iz x4)), some (.int (iz x5)), some (.int (iz x6)), some (.int (iz (m 45 x6.toNat))), none, none]) rfl (Nat.le_of_ble_eq_true rfl) rfl ?_
      refine s_iload (pc := 80) rfl rfl ?_
      obtain ⟨hz5, hw⟩ := hw
      refine s_if_lt (pc := 82) (tgt := 105) rfl rfl hz5 (fun hc => ?_) (fun hc => ?_)
      · replace hw := hw.1 hc
        refine s_iconst (pc := 105) rfl ?_
        refine s_iload (pc := 106) rfl rfl ?_
        refine s_isub (pc := 108) rfl ?_
        refine s_istore (pc := 109) (L' := [some (.ref 38), some (.int (iz x1)), some (.int (iz x2)), some (.ref x3), some (.int (iz x4)), some (.int (iz x5)), some (.int (iz x6)), some (.int (iz (m 45 x6.toNat))), some (.int (iz (((-1)) - (m 45 x6.toNat)))), none]) rfl (Nat.le_of_ble_eq_true rfl) rfl ?_
        refine s_aload_n (pc := 111) rfl rfl ?_
        refine s_aload_n (pc := 112) rfl rfl ?_
        refine s_getA (pc := 113) rfl ko_38 (po_38_3 hp) ?_
        refine s_iload (pc := 116) rfl rfl ?_
        refine s_ci (pc := 118) (d := (d + 2)) (t := []) rfl rfl (am_ca_v (ps := [.int (iz x5), .ref 45]) rfl kx3) (Nat.le_of_ble_eq_true rfl) (Ci.weak hw fun z9 m6 J7 P8 hw => ?_)
        obtain ⟨hp10, hw⟩ := hw
        refine s_istore (pc := 121) (L' := [some (.ref 38), some (.int (iz x1)), some (.int (iz x2)), some (.ref x3), some (.int (iz x4)), some (.int (iz x5)), some (.int (iz x6)), some (.int (iz (m 45 x6.toNat))), some (.int (iz (((-1)) - (m 45 x6.toNat)))), some (.int (iz z9))]) rfl (Nat.le_of_ble_eq_true rfl) rfl ?_
        refine s_aload_n (pc := 123) rfl rfl ?_
        refine s_getA (pc := 124) rfl ko_38 (po_38_7 hp10) ?_
        refine s_iload (pc := 127) rfl rfl ?_
        obtain ⟨hb11, hw⟩ := hw
        refine s_iald (pc := 129) rfl ka_49 (by decide) hb11 ?_
        refine s_iconst (pc := 130) rfl ?_
        obtain ⟨hz12, hw⟩ := hw
        refine s_ic_ne (pc := 131) (tgt := 146) rfl rfl hz12 (by decide) (fun hc => ?_) (fun hc => ?_)
        · replace hw := hw.1 hc
          refine s_aload_n (pc := 146) rfl rfl ?_
          refine s_aload_n (pc := 147) rfl rfl ?_
          refine s_getA (pc := 148) rfl ko_38 (po_38_7 hp10) ?_
          refine s_iload (pc := 151) rfl rfl ?_
          obtain ⟨hb13, hw⟩ := hw
          refine s_iald (pc := 153) rfl ka_49 (by decide) hb13 ?_
          refine s_iload (pc := 154) rfl rfl ?_
          refine s_iload (pc := 156) rfl rfl ?_
          refine s_ci (pc := 158) (d := (d + 2)) (t := []) rfl rfl (am_ca_v (ps := [.int (iz z9), .int (iz x5), .int (iz (m6 49 (((-1)) - (m 45 x6.toNat)).toNat))]) rfl ko_38) (Nat.le_of_ble_eq_true rfl) (Ci.weak hw fun z17 m14 J15 P16 hw => ?_)
          obtain ⟨hp18, hw⟩ := hw
          obtain ⟨hz19, hw⟩ := hw
          refine s_if_ne (pc := 161) (tgt := 166) rfl rfl hz19 (fun hc => ?_) (fun hc => ?_)
          · replace hw := hw.1 hc
            refine s_iload (pc := 166) rfl rfl ?_
            refine s_istore (pc := 168) (L' := [some (.ref 38), some (.int (iz x1)), some (.int (iz x2)), some (.ref x3), some (.int (iz x4)), some (.int (iz z9)), some (.int (iz x6)), some (.int (iz (m 45 x6.toNat))), some (.int (iz (((-1)) - (m 45 x6.toNat)))), some (.int (iz z9))]) rfl (Nat.le_of_ble_eq_true rfl) rfl ?_
            refine s_iinc (pc := 170) (L' := [some (.ref 38), some (.int (iz x1)), some (.int (iz x2)), some (.ref x3), some (.int (iz x4)), some (.int (iz z9)), some (.int (iz (x6 + 1))), some (.int (iz (m 45 x6.toNat))), some (.int (iz (((-1)) - (m 45 x6.toNat)))), some (.int (iz z9))]) rfl rfl (Nat.le_of_ble_eq_true rfl) rfl ?_
            refine s_goto (pc := 173) (tgt := 56) rfl rfl ?_
            exact Rn.weakL hw (LLe.keep _ (LLe.keep _ (LLe.keep _ (LLe.keep _ (LLe.keep _ (LLe.keep _ (LLe.keep _ (LLe.drop _ (LLe.drop _ (LLe.drop _ (LLe.nil)))))))))))
          · replace hw := hw.2 hc
            refine s_iconst (pc := 164) rfl ?_
            exact s_retz (pc := 165) rfl rfl (by decide) hw
        · replace hw := hw.2 hc
          refine s_aload_n (pc := 134) rfl rfl ?_
          refine s_getA (pc := 135) rfl ko_38 (po_38_7 hp10) ?_
          refine s_iload (pc := 138) rfl rfl ?_
          refine s_iload (pc := 140) rfl rfl ?_
          obtain ⟨hb20, hw⟩ := hw
          refine s_iast (pc := 142) rfl ka_49 (by decide) hb20 ?_
          refine s_goto (pc := 143) (tgt := 166) rfl rfl ?_
          refine s_iload (pc := 166) rfl rfl ?_
          refine s_istore (pc := 168) (L' := [some (.ref 38), some (.int (iz x1)), some (.int (iz x2)), some (.ref x3), some (.int (iz x4)), some (.int (iz z9)), some (.int (iz x6)), some (.int (iz (m 45 x6.toNat))), some (.int (iz (((-1)) - (m 45 x6.toNat)))), some (.int (iz z9))]) rfl (Nat.le_of_ble_eq_true rfl) rfl ?_
          refine s_iinc (pc := 170) (L' := [some (.ref 38), some (.int (iz x1)), some (.int (iz x2)), some (.ref x3), some (.int (iz x4)), some (.int (iz z9)), some (.int (iz (x6 + 1))), some (.int (iz (m 45 x6.toNat))), some (.int (iz (((-1)) - (m 45 x6.toNat)))), some (.int (iz z9))]) rfl rfl (Nat.le_of_ble_eq_true rfl) rfl ?_
          refine s_goto (pc := 173) (tgt := 56) rfl rfl ?_
          exact Rn.weakL hw (LLe.keep _ (LLe.keep _ (LLe.keep _ (LLe.keep _ (LLe.keep _ (LLe.keep _ (LLe.keep _ (LLe.drop _ (LLe.drop _ (LLe.drop _ (LLe.nil)))))))))))
      · replace hw := hw.2 hc
        refine s_aload_n (pc := 85) rfl rfl ?_
        refine s_getA (pc := 86) rfl ko_38 (po_38_3 hp) ?_
        refine s_iload (pc := 89) rfl rfl ?_
        obtain ⟨hb21, hw⟩ := hw
        refine s_iald (pc := 91) rfl ka_45 (by decide) hb21 ?_
        refine s_iload (pc := 92) rfl rfl ?_
        obtain ⟨hz22, hw⟩ := hw
        obtain ⟨hz23, hw⟩ := hw
        refine s_ic_eq (pc := 94) (tgt := 99) rfl rfl hz22 hz23 (fun hc => ?_) (fun hc => ?_)
        · replace hw := hw.1 hc
          refine s_iinc (pc := 99) (L' := [some (.ref 38), some (.int (iz x1)), some (.int (iz x2)), some (.ref x3), some (.int (iz x4)), some (.int (iz (x5 + 1))), some (.int (iz x6)), some (.int (iz (m 45 x6.toNat))), none, none]) rfl rfl (Nat.le_of_ble_eq_true rfl) rfl ?_
          refine s_goto (pc := 102) (tgt := 170) rfl rfl ?_
          refine s_iinc (pc := 170) (L' := [some (.ref 38), some (.int (iz x1)), some (.int (iz x2)), some (.ref x3), some (.int (iz x4)), some (.int (iz (x5 + 1))), some (.int (iz (x6 + 1))), some (.int (iz (m 45 x6.toNat))), none, none]) rfl rfl (Nat.le_of_ble_eq_true rfl) rfl ?_
          refine s_goto (pc := 173) (tgt := 56) rfl rfl ?_
          exact Rn.weakL hw (LLe.keep _ (LLe.keep _ (LLe.keep _ (LLe.keep _ (LLe.keep _ (LLe.keep _ (LLe.keep _ (LLe.drop _ (LLe.keep _ (LLe.keep _ (LLe.nil)))))))))))
        · replace hw := hw.2 hc
          refine s_iconst (pc := 97) rfl ?_
          exact s_retz (pc := 98) rfl rfl (by decide) hw

set_option maxRecDepth 20000 in
set_option maxHeartbeats 4000000 in
theorem b_Tree_isSame_0 {X : aX} {d : Nat} (x1 : Int) (x2 : Int) (x3 : Int)  (m : Mi) (J : Mj) (P : Mp) (hp : PP P) (post : Int → Mi → Mj → Mp → Prop)
    (hw : Rn X d 124 3 [some (.ref 38), some (.int (iz x1)), some (.int (iz x2)), some (.int (iz x3)), some (.int (iz 0))] [] (SS m J P) (QI post)) : Rn X d 124 0 [some (.ref 38), some (.int (iz x1)), some (.int (iz x2)), some (.int (iz x3)), none] [] (SS m J P) (QI post) := by
  refine s_iconst (pc := 0) rfl ?_
  refine s_istore (pc := 1) (L' := [some (.ref 38), some (.int (iz x1)), some (.int (iz x2)), some (.int (iz x3)), some (.int (iz 0))]) rfl (Nat.le_of_ble_eq_true rfl) rfl ?_
  exact hw

set_option maxRecDepth 20000 in
set_option maxHeartbeats 4000000 in
theorem b_Tree_isSame_3 {X : aX} {d : Nat} (x1 : Int) (x2 : Int) (x3 : Int) (x4 : Int)  (m : Mi) (J : Mj) (P : Mp) (hp : PP P) (post : Int → Mi → Mj → Mp → Prop)
    (hw : Zr (x2 + x4) ∧ Zr (x3) ∧ (((x3 ≤ (x2 + x4)) → post 1 m J P) ∧ (¬ (x3 ≤ (x2 + x4)) → Zr (x1 + x4) ∧ (((30000 ≤ (x1 + x4)) → post 1 m J P) ∧ (¬ (30000 ≤ (x1 + x4)) → ((0 : Int) ≤ (x1 + x4) ∧ ((x1 + x4) : Int) < 30000) ∧ ((0 : Int) ≤ (x2 + x4) ∧ ((x2 + x4) : Int) < 30000) ∧ Zr (m 45 (x1 + x4).toNat) ∧ Zr (m 45 (x2 + x4).toNat) ∧ ((((m 45 (x1 + x4).toNat) = (m 45 (x2 + x4).toNat)) → Rn X d 124 3 [some (.ref 38), some (.int (iz x1)), some (.int (iz x2)), some (.int (iz x3)), some (.int (iz (x4 + 1)))] [] (SS m J P) (QI post)) ∧ (¬ ((m 45 (x1 + x4).toNat) = (m 45 (x2 + x4).toNat)) → post 0 m J P))))))) : Rn X d 124 3 [some (.ref 38), some (.int (iz x1)), some (.int (iz x2)), some (.int (iz x3)), some (.int (iz x4))] [] (SS m J P) (QI post) := by
  refine s_iload_n (pc := 3) rfl rfl ?_
  refine s_iload (pc := 4) rfl rfl ?_
  refine s_iadd (pc := 6) rfl ?_
  refine s_iload_n (pc := 7) rfl rfl ?_
  obtain ⟨hz1, hw⟩ := hw
  obtain ⟨hz2, hw⟩ := hw
  refine s_ic_ge (pc := 8) (tgt := 50) rfl rfl hz1 hz2 (fun hc => ?_) (fun hc => ?_)
  · replace hw := hw.1 hc
    refine s_iconst (pc := 50) rfl ?_
    exact s_retz (pc := 51) rfl rfl (by decide) hw
  · replace hw := hw.2 hc
    refine s_iload_n (pc := 11) rfl rfl ?_
    refine s_iload (pc := 12) rfl rfl ?_
    refine s_iadd (pc := 14) rfl ?_
    refine s_sipush (pc := 15) rfl (by decide) ?_
    obtain ⟨hz3, hw⟩ := hw
    refine s_ic_ge (pc := 18) (tgt := 50) rfl rfl hz3 (by decide) (fun hc => ?_) (fun hc => ?_)
    · replace hw := hw.1 hc
      refine s_iconst (pc := 50) rfl ?_
      exact s_retz (pc := 51) rfl rfl (by decide) hw
    · replace hw := hw.2 hc
      refine s_aload_n (pc := 21) rfl rfl ?_
      refine s_getA (pc := 22) rfl ko_38 (po_38_3 hp) ?_
      refine s_iload_n (pc := 25) rfl rfl ?_
      refine s_iload (pc := 26) rfl rfl ?_
      refine s_iadd (pc := 28) rfl ?_
      obtain ⟨hb4, hw⟩ := hw
      refine s_iald (pc := 29) rfl ka_45 (by decide) hb4 ?_
      refine s_aload_n (pc := 30) rfl rfl ?_
      refine s_getA (pc := 31) rfl ko_38 (po_38_3 hp) ?_
      refine s_iload_n (pc := 34) rfl rfl ?_
      refine s_iload (pc := 35) rfl rfl ?_
      refine s_iadd (pc := 37) rfl ?_
      obtain ⟨hb5, hw⟩ := hw
      refine s_iald (pc := 38) rfl ka_45 (by decide) hb5 ?_
      obtain ⟨hz6, hw⟩ := hw
      obtain ⟨hz7, hw⟩ := hw
      refine s_ic_eq (pc := 39) (tgt := 44) rfl rfl hz6 hz7 (fun hc => ?_) (fun hc => ?_)
      · replace hw := hw.1 hc
        refine s_iinc (pc := 44) (L' := [some (.ref 38), some (.int (iz x1)), some (.int (iz x2)), some (.int (iz x3)), some (.int (iz (x4 + 1)))]) rfl rfl (Nat.le_of_ble_eq_true rfl) rfl ?_
        refine s_goto (pc := 47) (tgt := 3) rfl rfl ?_
        exact hw
      · replace hw := hw.2 hc
        refine s_iconst (pc := 42) rfl ?_
        exact s_retz (pc := 43) rfl rfl (by decide) hw

set_option maxRecDepth 20000 in
set_option maxHeartbeats 4000000 in
theorem b_Nh_show_0 {X : aX} {d : Nat} (x1 : Int) (x2 : Int)  (m : Mi) (J : Mj) (P : Mp) (hp : PP P) (post : Int → Mi → Mj → Mp → Prop)
    (hw : Zr (x1) ∧ (((x1 = 0) → Ci X (d + 5) 126 [.ref 1, .int (iz x2)] m J P (fun z5 m2 J3 P4 => PP P4 ∧ post z5 m2 J3 P4)) ∧ ((x1 = 1) → Ci X (d + 5) 127 [.ref 1, .int (iz x2)] m J P (fun z10 m7 J8 P9 => PP P9 ∧ post z10 m7 J8 P9)) ∧ ((x1 = 2) → Ci X (d + 5) 130 [.ref 1, .int (iz x2)] m J P (fun z15 m12 J13 P14 => PP P14 ∧ post z15 m12 J13 P14)) ∧ ((x1 = 3) → Ci X (d + 5) 114 [.ref 38, .int (iz x2)] m J P (fun z20 m17 J18 P19 => PP P19 ∧ Zr (z20) ∧ (((z20 = 0) → post ((-1)) m17 J18 P19) ∧ (¬ (z20 = 0) → Ci X (d + 5) 117 [.ref 38, .int (iz x2)] m17 J18 P19 (fun z26 m23 J24 P25 => PP P25 ∧ (∃ q28, P25 38 2 = some q28 ∧ am_kd an_K q28 = some (.inl 8) ∧ Ci X (d + 5) 94 [.ref 1, .ref 45, .int (iz z26), .ref q28] m23 J24 P25 (fun z32 m29 J30 P31 => PP P31 ∧ post z32 m29 J30 P31))))))) ∧ ((x1 = 4) → Ci X (d + 5) 119 [.ref 38, .int (iz x2)] m J P (fun z37 m34 J35 P36 => PP P36 ∧ Zr (z37) ∧ (((z37 = 0) → post ((-1)) m34 J35 P36) ∧ (¬ (z37 = 0) → ((0 : Int) ≤ x2 ∧ (x2 : Int) < 300) ∧ (∃ q41, P36 38 2 = some q41 ∧ am_kd an_K q41 = some (.inl 8) ∧ Ci X (d + 5) 94 [.ref 1, .ref 45, .int (iz (m34 48 x2.toNat)), .ref q41] m34 J35 P36 (fun z45 m42 J43 P44 => PP P44 ∧ post z45 m42 J43 P44)))))) ∧ ((x1 < 0 ∨ 4 < x1) → post ((-1)) m J P))) : Rn X (d + 6) 125 0 [some (.ref 1), some (.int (iz x1)), some (.int (iz x2))] [] (SS m J P) (QI post) := by
  refine s_iload_n (pc := 0) rfl rfl ?_
  obtain ⟨hz1, hw⟩ := hw
  by_cases hs0 : x1 = 0
  · replace hw := hw.1 hs0
    refine s_tsw_at (pc := 1) (v := 0) (tgt := 36) rfl hz1 hs0 (by decide) rfl rfl ?_
    refine s_aload_n (pc := 36) rfl rfl ?_
    refine s_iload_n (pc := 37) rfl rfl ?_
    refine s_ci (pc := 38) (d := (d + 5)) (t := []) rfl rfl (am_ca_v (ps := [.int (iz x2)]) rfl ko_1) (Nat.le_of_ble_eq_true rfl) (Ci.weak hw fun z5 m2 J3 P4 hw => ?_)
    obtain ⟨hp6, hw⟩ := hw
    exact s_reti (pc := 41) rfl rfl hw
  replace hw := hw.2
  by_cases hs1 : x1 = 1
  · replace hw := hw.1 hs1
    refine s_tsw_at (pc := 1) (v := 1) (tgt := 42) rfl hz1 hs1 (by decide) rfl rfl ?_
    refine s_aload_n (pc := 42) rfl rfl ?_
    refine s_iload_n (pc := 43) rfl rfl ?_
    refine s_ci (pc := 44) (d := (d + 5)) (t := []) rfl rfl (am_ca_v (ps := [.int (iz x2)]) rfl ko_1) (Nat.le_of_ble_eq_true rfl) (Ci.weak hw fun z10 m7 J8 P9 hw => ?_)
    obtain ⟨hp11, hw⟩ := hw
    exact s_reti (pc := 47) rfl rfl hw
  replace hw := hw.2
  by_cases hs2 : x1 = 2
  · replace hw := hw.1 hs2
    refine s_tsw_at (pc := 1) (v := 2) (tgt := 48) rfl hz1 hs2 (by decide) rfl rfl ?_
    refine s_aload_n (pc := 48) rfl rfl ?_
    refine s_iload_n (pc := 49) rfl rfl ?_
    refine s_ci (pc := 50) (d := (d + 5)) (t := []) rfl rfl (am_ca_v (ps := [.int (iz x2)]) rfl ko_1) (Nat.le_of_ble_eq_true rfl) (Ci.weak hw fun z15 m12 J13 P14 hw => ?_)
    obtain ⟨hp16, hw⟩ := hw
    exact s_reti (pc := 53) rfl rfl hw
  replace hw := hw.2
  by_cases hs3 : x1 = 3
  · replace hw := hw.1 hs3
    refine s_tsw_at (pc := 1) (v := 3) (tgt := 54) rfl hz1 hs3 (by decide) rfl rfl ?_
    refine s_aload_n (pc := 54) rfl rfl ?_
    refine s_getA (pc := 55) rfl ko_1 (po_1_6 hp) ?_
    refine s_iload_n (pc := 58) rfl rfl ?_
    refine s_ci (pc := 59) (d := (d + 5)) (t := []) rfl rfl (am_ca_v (ps := [.int (iz x2)]) rfl ko_38) (Nat.le_of_ble_eq_true rfl) (Ci.weak hw fun z20 m17 J18 P19 hw => ?_)
    obtain ⟨hp21, hw⟩ := hw
    obtain ⟨hz22, hw⟩ := hw
    refine s_if_eq (pc := 62) (tgt := 94) rfl rfl hz22 (fun hc => ?_) (fun hc => ?_)
    · replace hw := hw.1 hc
      refine s_iconst (pc := 94) rfl ?_
      exact s_reti (pc := 95) rfl rfl hw
    · replace hw := hw.2 hc
      refine s_aload_n (pc := 65) rfl rfl ?_
      refine s_aload_n (pc := 66) rfl rfl ?_
      refine s_getA (pc := 67) rfl ko_1 (po_1_6 hp21) ?_
      refine s_getA (pc := 70) rfl ko_38 (po_38_3 hp21) ?_
      refine s_aload_n (pc := 73) rfl rfl ?_
      refine s_getA (pc := 74) rfl ko_1 (po_1_6 hp21) ?_
      refine s_iload_n (pc := 77) rfl rfl ?_
      refine s_ci (pc := 78) (d := (d + 5)) (t := [.ref 45, .ref 1]) rfl rfl (am_ca_v (ps := [.int (iz x2)]) rfl ko_38) (Nat.le_of_ble_eq_true rfl) (Ci.weak hw fun z26 m23 J24 P25 hw => ?_)
      obtain ⟨hp27, hw⟩ := hw
      refine s_aload_n (pc := 81) rfl rfl ?_
      refine s_getA (pc := 82) rfl ko_1 (po_1_6 hp27) ?_
      obtain ⟨q28, hq28, kq28, hw⟩ := hw
      refine s_getA (pc := 85) rfl ko_38 hq28 ?_
      refine s_ci (pc := 88) (d := (d + 5)) (t := []) rfl rfl (am_ca_v (ps := [.ref q28, .int (iz z26), .ref 45]) rfl ko_1) (Nat.le_of_ble_eq_true rfl) (Ci.weak hw fun z32 m29 J30 P31 hw => ?_)
      obtain ⟨hp33, hw⟩ := hw
      refine s_goto (pc := 91) (tgt := 95) rfl rfl ?_
      exact s_reti (pc := 95) rfl rfl hw
  replace hw := hw.2
  by_cases hs4 : x1 = 4
  · replace hw := hw.1 hs4
    refine s_tsw_at (pc := 1) (v := 4) (tgt := 96) rfl hz1 hs4 (by decide) rfl rfl ?_
    refine s_aload_n (pc := 96) rfl rfl ?_
    refine s_getA (pc := 97) rfl ko_1 (po_1_6 hp) ?_
    refine s_iload_n (pc := 100) rfl rfl ?_
    refine s_ci (pc := 101) (d := (d + 5)) (t := []) rfl rfl (am_ca_v (ps := [.int (iz x2)]) rfl ko_38) (Nat.le_of_ble_eq_true rfl) (Ci.weak hw fun z37 m34 J35 P36 hw => ?_)
    obtain ⟨hp38, hw⟩ := hw
    obtain ⟨hz39, hw⟩ := hw
    refine s_if_eq (pc := 104) (tgt := 137) rfl rfl hz39 (fun hc => ?_) (fun hc => ?_)
    · replace hw := hw.1 hc
      refine s_iconst (pc := 137) rfl ?_
      exact s_reti (pc := 138) rfl rfl hw
    · replace hw := hw.2 hc
      refine s_aload_n (pc := 107) rfl rfl ?_
      refine s_aload_n (pc := 108) rfl rfl ?_
      refine s_getA (pc := 109) rfl ko_1 (po_1_6 hp38) ?_
      refine s_getA (pc := 112) rfl ko_38 (po_38_3 hp38) ?_
      refine s_aload_n (pc := 115) rfl rfl ?_
      refine s_getA (pc := 116) rfl ko_1 (po_1_6 hp38) ?_
      refine s_getA (pc := 119) rfl ko_38 (po_38_6 hp38) ?_
      refine s_iload_n (pc := 122) rfl rfl ?_
      obtain ⟨hb40, hw⟩ := hw
      refine s_iald (pc := 123) rfl ka_48 (by decide) hb40 ?_
      refine s_aload_n (pc := 124) rfl rfl ?_
      refine s_getA (pc := 125) rfl ko_1 (po_1_6 hp38) ?_
      obtain ⟨q41, hq41, kq41, hw⟩ := hw
      refine s_getA (pc := 128) rfl ko_38 hq41 ?_
      refine s_ci (pc := 131) (d := (d + 5)) (t := []) rfl rfl (am_ca_v (ps := [.ref q41, .int (iz (m34 48 x2.toNat)), .ref 45]) rfl ko_1) (Nat.le_of_ble_eq_true rfl) (Ci.weak hw fun z45 m42 J43 P44 hw => ?_)
      obtain ⟨hp46, hw⟩ := hw
      refine s_goto (pc := 134) (tgt := 138) rfl rfl ?_
      exact s_reti (pc := 138) rfl rfl hw
  replace hw := hw.2
  have hs : x1 < 0 ∨ 4 < x1 := by omega
  replace hw := hw hs
  refine s_tsw_out (pc := 1) (tgt := 139) rfl hz1 hs rfl ?_
  refine s_iconst (pc := 139) rfl ?_
  exact s_reti (pc := 140) rfl rfl hw

set_option maxRecDepth 20000 in
set_option maxHeartbeats 4000000 in
theorem b_Nh_showRule_0 {X : aX} {d : Nat} (x1 : Int)  (m : Mi) (J : Mj) (P : Mp) (hp : PP P) (post : Int → Mi → Mj → Mp → Prop)
    (hw : Zr (x1) ∧ (((x1 < 0) → post ((-1)) m J P) ∧ (¬ (x1 < 0) → (∃ q2, P 1 8 = some q2 ∧ am_kd an_K q2 = some (.inl 10) ∧ Zr (x1) ∧ Zr (m q2 5) ∧ (((x1 < (m q2 5)) → (∃ q5, P 1 8 = some q5 ∧ am_kd an_K q5 = some (.inl 10) ∧ ((0 : Int) ≤ x1 ∧ (x1 : Int) < 16) ∧ Cv X (d + 3) 82 [.ref 50] m J P (fun m7 J8 P9 => PP P9 ∧ Cv X (d + 3) 83 [.ref 50, .ref (q5 + 5 + 6 * x1.toNat)] m7 J8 P9 (fun m12 J13 P14 => PP P14 ∧ (∃ q17, P14 1 8 = some q17 ∧ am_kd an_K q17 = some (.inl 10) ∧ Ci X (d + 3) 84 [.ref 50, .ref (q5 + 5 + 6 * x1.toNat + 1), .int (iz 0), .ref q17] m12 J13 P14 (fun z21 m18 J19 P20 => PP P20 ∧ Cv X (d + 3) 87 [.ref 50, .int (iz 45)] m18 J19 P20 (fun m23 J24 P25 => PP P25 ∧ Cv X (d + 3) 87 [.ref 50, .int (iz 62)] m23 J24 P25 (fun m28 J29 P30 => PP P30 ∧ (∃ q33, P30 1 8 = some q33 ∧ am_kd an_K q33 = some (.inl 10) ∧ Ci X (d + 3) 84 [.ref 50, .ref (q5 + 5 + 6 * x1.toNat + 1), .int (iz (m28 (q5 + 5 + 6 * x1.toNat) 5)), .ref q33] m28 J29 P30 (fun z37 m34 J35 P36 => PP P36 ∧ post (m34 50 1) m34 J35 P36)))))))))) ∧ (¬ (x1 < (m q2 5)) → post ((-1)) m J P)))))) : Rn X (d + 4) 126 0 [some (.ref 1), some (.int (iz x1)), none] [] (SS m J P) (QI post) := by
  refine s_iload_n (pc := 0) rfl rfl ?_
  obtain ⟨hz1, hw⟩ := hw
  refine s_if_lt (pc := 1) (tgt := 15) rfl rfl hz1 (fun hc => ?_) (fun hc => ?_)
  · replace hw := hw.1 hc
    refine s_iconst (pc := 15) rfl ?_
    exact s_reti (pc := 16) rfl rfl hw
  · replace hw := hw.2 hc
    refine s_iload_n (pc := 4) rfl rfl ?_
    refine s_aload_n (pc := 5) rfl rfl ?_
    obtain ⟨q2, hq2, kq2, hw⟩ := hw
    refine s_getA (pc := 6) rfl ko_1 hq2 ?_
    refine s_getI (pc := 9) rfl kq2 ?_
    obtain ⟨hz3, hw⟩ := hw
    obtain ⟨hz4, hw⟩ := hw
    refine s_ic_lt (pc := 12) (tgt := 17) rfl rfl hz3 hz4 (fun hc => ?_) (fun hc => ?_)
    · replace hw := hw.1 hc
      refine s_aload_n (pc := 17) rfl rfl ?_
      obtain ⟨q5, hq5, kq5, hw⟩ := hw
      refine s_getA (pc := 18) rfl ko_1 hq5 ?_
      refine s_getA (pc := 21) rfl kq5 (pc_10_3 hp kq5) ?_
      refine s_iload_n (pc := 24) rfl rfl ?_
      obtain ⟨hb6, hw⟩ := hw
      refine s_aald (pc := 25) rfl (kc_10_3 kq5) (by decide) hb6 (pr hp kq5 hb6) ?_
      refine s_astore_n (pc := 26) (L' := [some (.ref 1), some (.int (iz x1)), some (.ref (q5 + 5 + 6 * x1.toNat))]) rfl (Nat.le_of_ble_eq_true rfl) rfl ?_
      refine s_aload_n (pc := 27) rfl rfl ?_
      refine s_getA (pc := 28) rfl ko_1 (po_1_7 hp) ?_
      refine s_cv (pc := 31) (d := (d + 3)) (t := []) rfl rfl (am_ca_v (ps := []) rfl ko_50) (Nat.le_of_ble_eq_true rfl) (Cv.weak hw fun m7 J8 P9 hw => ?_)
      obtain ⟨hp11, hw⟩ := hw
      refine s_aload_n (pc := 34) rfl rfl ?_
      refine s_getA (pc := 35) rfl ko_1 (po_1_7 hp11) ?_
      refine s_aload_n (pc := 38) rfl rfl ?_
      refine s_cv (pc := 39) (d := (d + 3)) (t := []) rfl rfl (am_ca_v (ps := [.ref (q5 + 5 + 6 * x1.toNat)]) rfl ko_50) (Nat.le_of_ble_eq_true rfl) (Cv.weak hw fun m12 J13 P14 hw => ?_)
      obtain ⟨hp16, hw⟩ := hw
      refine s_aload_n (pc := 42) rfl rfl ?_
      refine s_getA (pc := 43) rfl ko_1 (po_1_7 hp16) ?_
      refine s_aload_n (pc := 46) rfl rfl ?_
      refine s_getA (pc := 47) rfl (kr kq5 hb6) (pc_8_0 hp16 (kr kq5 hb6)) ?_
      refine s_iconst (pc := 50) rfl ?_
      refine s_aload_n (pc := 51) rfl rfl ?_
      obtain ⟨q17, hq17, kq17, hw⟩ := hw
      refine s_getA (pc := 52) rfl ko_1 hq17 ?_
      refine s_ci (pc := 55) (d := (d + 3)) (t := []) rfl rfl (am_ca_v (ps := [.ref q17, .int (iz 0), .ref (q5 + 5 + 6 * x1.toNat + 1)]) rfl ko_50) (Nat.le_of_ble_eq_true rfl) (Ci.weak hw fun z21 m18 J19 P20 hw => ?_)
      obtain ⟨hp22, hw⟩ := hw
      refine s_pop (pc := 58) rfl rfl ?_
      refine s_aload_n (pc := 59) rfl rfl ?_
      refine s_getA (pc := 60) rfl ko_1 (po_1_7 hp22) ?_
      refine s_bipush (pc := 63) rfl (by decide) ?_
      refine s_cv (pc := 65) (d := (d + 3)) (t := []) rfl rfl (am_ca_v (ps := [.int (iz 45)]) rfl ko_50) (Nat.le_of_ble_eq_true rfl) (Cv.weak hw fun m23 J24 P25 hw => ?_)
      obtain ⟨hp27, hw⟩ := hw
      refine s_aload_n (pc := 68) rfl rfl ?_
      refine s_getA (pc := 69) rfl ko_1 (po_1_7 hp27) ?_
      refine s_bipush (pc := 72) rfl (by decide) ?_
      refine s_cv (pc := 74) (d := (d + 3)) (t := []) rfl rfl (am_ca_v (ps := [.int (iz 62)]) rfl ko_50) (Nat.le_of_ble_eq_true rfl) (Cv.weak hw fun m28 J29 P30 hw => ?_)
      obtain ⟨hp32, hw⟩ := hw
      refine s_aload_n (pc := 77) rfl rfl ?_
      refine s_getA (pc := 78) rfl ko_1 (po_1_7 hp32) ?_
      refine s_aload_n (pc := 81) rfl rfl ?_
      refine s_getA (pc := 82) rfl (kr kq5 hb6) (pc_8_0 hp32 (kr kq5 hb6)) ?_
      refine s_aload_n (pc := 85) rfl rfl ?_
      refine s_getI (pc := 86) rfl (kr kq5 hb6) ?_
      refine s_aload_n (pc := 89) rfl rfl ?_
      obtain ⟨q33, hq33, kq33, hw⟩ := hw
      refine s_getA (pc := 90) rfl ko_1 hq33 ?_
      refine s_ci (pc := 93) (d := (d + 3)) (t := []) rfl rfl (am_ca_v (ps := [.ref q33, .int (iz (m28 (q5 + 5 + 6 * x1.toNat) 5)), .ref (q5 + 5 + 6 * x1.toNat + 1)]) rfl ko_50) (Nat.le_of_ble_eq_true rfl) (Ci.weak hw fun z37 m34 J35 P36 hw => ?_)
      obtain ⟨hp38, hw⟩ := hw
      refine s_pop (pc := 96) rfl rfl ?_
      refine s_aload_n (pc := 97) rfl rfl ?_
      refine s_getA (pc := 98) rfl ko_1 (po_1_7 hp38) ?_
      refine s_getI (pc := 101) rfl ko_50 ?_
      exact s_reti (pc := 104) rfl rfl hw
    · replace hw := hw.2 hc
      refine s_iconst (pc := 15) rfl ?_
      exact s_reti (pc := 16) rfl rfl hw

set_option maxRecDepth 20000 in
set_option maxHeartbeats 4000000 in
theorem b_Nh_showPair_0 {X : aX} {d : Nat} (x1 : Int)  (m : Mi) (J : Mj) (P : Mp) (hp : PP P) (post : Int → Mi → Mj → Mp → Prop)
    (hw : (∃ q1, P 1 8 = some q1 ∧ am_kd an_K q1 = some (.inl 10) ∧ Ci X (d + 4) 128 [.ref 36, .int (iz x1), .ref q1] m J P (fun z5 m2 J3 P4 => PP P4 ∧ Zr (z5) ∧ (((¬ z5 = 0) → Cv X (d + 4) 82 [.ref 50] m2 J3 P4 (fun m8 J9 P10 => PP P10 ∧ Ci X (d + 4) 129 [.ref 1, .ref (8 + 8), .int (iz 0)] m8 J9 P10 (fun z16 m13 J14 P15 => PP P15 ∧ post z16 m13 J14 P15))) ∧ (¬ (¬ z5 = 0) → post ((-1)) m2 J3 P4))))) : Rn X (d + 5) 127 0 [some (.ref 1), some (.int (iz x1))] [] (SS m J P) (QI post) := by
  refine s_aload_n (pc := 0) rfl rfl ?_
  refine s_getA (pc := 1) rfl ko_1 (po_1_5 hp) ?_
  refine s_iload_n (pc := 4) rfl rfl ?_
  refine s_aload_n (pc := 5) rfl rfl ?_
  obtain ⟨q1, hq1, kq1, hw⟩ := hw
  refine s_getA (pc := 6) rfl ko_1 hq1 ?_
  refine s_ci (pc := 9) (d := (d + 4)) (t := []) rfl rfl (am_ca_v (ps := [.ref q1, .int (iz x1)]) rfl ko_36) (Nat.le_of_ble_eq_true rfl) (Ci.weak hw fun z5 m2 J3 P4 hw => ?_)
  obtain ⟨hp6, hw⟩ := hw
  obtain ⟨hz7, hw⟩ := hw
  refine s_if_ne (pc := 12) (tgt := 17) rfl rfl hz7 (fun hc => ?_) (fun hc => ?_)
  · replace hw := hw.1 hc
    refine s_aload_n (pc := 17) rfl rfl ?_
    refine s_getA (pc := 18) rfl ko_1 (po_1_7 hp6) ?_
    refine s_cv (pc := 21) (d := (d + 4)) (t := []) rfl rfl (am_ca_v (ps := []) rfl ko_50) (Nat.le_of_ble_eq_true rfl) (Cv.weak hw fun m8 J9 P10 hw => ?_)
    obtain ⟨hp12, hw⟩ := hw
    refine s_aload_n (pc := 24) rfl rfl ?_
    refine s_aload_n (pc := 25) rfl rfl ?_
    refine s_getA (pc := 26) rfl ko_1 (po_1_2 hp12) ?_
    refine s_getA (pc := 29) rfl (by decide +kernel) (pc_4_10 hp12 (by decide +kernel)) ?_
    refine s_iconst (pc := 32) rfl ?_
    refine s_ci (pc := 33) (d := (d + 4)) (t := []) rfl rfl (am_ca_v (ps := [.int (iz 0), .ref (8 + 8)]) rfl ko_1) (Nat.le_of_ble_eq_true rfl) (Ci.weak hw fun z16 m13 J14 P15 hw => ?_)
    obtain ⟨hp17, hw⟩ := hw
    exact s_reti (pc := 36) rfl rfl hw
  · replace hw := hw.2 hc
    refine s_iconst (pc := 15) rfl ?_
    exact s_reti (pc := 16) rfl rfl hw

set_option maxRecDepth 20000 in
set_option maxHeartbeats 4000000 in
theorem b_Pairs_rebuild_0 {X : aX} {d : Nat} (x1 : Int) (x2 : Nat) (kx2 : am_kd an_K x2 = some (.inl 10)) (m : Mi) (J : Mj) (P : Mp) (hp : PP P) (post : Int → Mi → Mj → Mp → Prop)
    (hw : Ci X (d + 3) 78 [.ref 36, .int (iz x1)] m J P (fun z4 m1 J2 P3 => PP P3 ∧ Zr (z4) ∧ (((¬ z4 = 0) → ((0 : Int) ≤ (x1 * 4) ∧ ((x1 * 4) : Int) < 800) ∧ ((0 : Int) ≤ ((x1 * 4) + 1) ∧ (((x1 * 4) + 1) : Int) < 800) ∧ ((0 : Int) ≤ ((x1 * 4) + 2) ∧ (((x1 * 4) + 2) : Int) < 800) ∧ Ci X (d + 3) 50 [.ref 36, .int (iz (m1 37 (x1 * 4).toNat)), .int (iz (m1 37 ((x1 * 4) + 1).toNat)), .int (iz (m1 37 ((x1 * 4) + 2).toNat)), .ref x2] m1 J2 P3 (fun z13 m10 J11 P12 => PP P12 ∧ Zr (z13) ∧ (((z13 = 0) → post 0 m10 J11 P12) ∧ (¬ (z13 = 0) → ((0 : Int) ≤ (x1 * 4) ∧ ((x1 * 4) : Int) < 800) ∧ ((0 : Int) ≤ ((x1 * 4) + 1) ∧ (((x1 * 4) + 1) : Int) < 800) ∧ ((0 : Int) ≤ ((x1 * 4) + 2) ∧ (((x1 * 4) + 2) : Int) < 800) ∧ Ci X (d + 3) 59 [.ref 36, .int (iz (m10 37 (x1 * 4).toNat)), .int (iz (m10 37 ((x1 * 4) + 1).toNat)), .int (iz (m10 37 ((x1 * 4) + 2).toNat)), .ref x2] m10 J11 P12 (fun z22 m19 J20 P21 => PP P21 ∧ Zr (z22) ∧ (((z22 = 0) → post 0 m19 J20 P21) ∧ (¬ (z22 = 0) → post 1 m19 J20 P21))))))) ∧ (¬ (¬ z4 = 0) → post 0 m1 J2 P3)))) : Rn X (d + 4) 128 0 [some (.ref 36), some (.int (iz x1)), some (.ref x2), none] [] (SS m J P) (QI post) := by
  refine s_aload_n (pc := 0) rfl rfl ?_
  refine s_iload_n (pc := 1) rfl rfl ?_
  refine s_ci (pc := 2) (d := (d + 3)) (t := []) rfl rfl (am_ca_v (ps := [.int (iz x1)]) rfl ko_36) (Nat.le_of_ble_eq_true rfl) (Ci.weak hw fun z4 m1 J2 P3 hw => ?_)
  obtain ⟨hp5, hw⟩ := hw
  obtain ⟨hz6, hw⟩ := hw
  refine s_if_ne (pc := 5) (tgt := 10) rfl rfl hz6 (fun hc => ?_) (fun hc => ?_)
  · replace hw := hw.1 hc
    refine s_iload_n (pc := 10) rfl rfl ?_
    refine s_iconst (pc := 11) rfl ?_
    refine s_imul (pc := 12) rfl ?_
    refine s_istore_n (pc := 13) (L' := [some (.ref 36), some (.int (iz x1)), some (.ref x2), some (.int (iz (x1 * 4)))]) rfl (Nat.le_of_ble_eq_true rfl) rfl ?_
    refine s_aload_n (pc := 14) rfl rfl ?_
    refine s_aload_n (pc := 15) rfl rfl ?_
    refine s_getA (pc := 16) rfl ko_36 (po_36_2 hp5) ?_
    refine s_iload_n (pc := 19) rfl rfl ?_
    obtain ⟨hb7, hw⟩ := hw
    refine s_iald (pc := 20) rfl ka_37 (by decide) hb7 ?_
    refine s_aload_n (pc := 21) rfl rfl ?_
    refine s_getA (pc := 22) rfl ko_36 (po_36_2 hp5) ?_
    refine s_iload_n (pc := 25) rfl rfl ?_
    refine s_iconst (pc := 26) rfl ?_
    refine s_iadd (pc := 27) rfl ?_
    obtain ⟨hb8, hw⟩ := hw
    refine s_iald (pc := 28) rfl ka_37 (by decide) hb8 ?_
    refine s_aload_n (pc := 29) rfl rfl ?_
    refine s_getA (pc := 30) rfl ko_36 (po_36_2 hp5) ?_
    refine s_iload_n (pc := 33) rfl rfl ?_
    refine s_iconst (pc := 34) rfl ?_
    refine s_iadd (pc := 35) rfl ?_
    obtain ⟨hb9, hw⟩ := hw
    refine s_iald (pc := 36) rfl ka_37 (by decide) hb9 ?_
    refine s_aload_n (pc := 37) rfl rfl ?_
    refine s_ci (pc := 38) (d := (d + 3)) (t := []) rfl rfl (am_ca_v (ps := [.ref x2, .int (iz (m1 37 ((x1 * 4) + 2).toNat)), .int (iz (m1 37 ((x1 * 4) + 1).toNat)), .int (iz (m1 37 (x1 * 4).toNat))]) rfl ko_36) (Nat.le_of_ble_eq_true rfl) (Ci.weak hw fun z13 m10 J11 P12 hw => ?_)
    obtain ⟨hp14, hw⟩ := hw
    obtain ⟨hz15, hw⟩ := hw
    refine s_if_eq (pc := 41) (tgt := 78) rfl rfl hz15 (fun hc => ?_) (fun hc => ?_)
    · replace hw := hw.1 hc
      refine s_iconst (pc := 78) rfl ?_
      exact s_retz (pc := 79) rfl rfl (by decide) hw
    · replace hw := hw.2 hc
      refine s_aload_n (pc := 44) rfl rfl ?_
      refine s_aload_n (pc := 45) rfl rfl ?_
      refine s_getA (pc := 46) rfl ko_36 (po_36_2 hp14) ?_
      refine s_iload_n (pc := 49) rfl rfl ?_
      obtain ⟨hb16, hw⟩ := hw
      refine s_iald (pc := 50) rfl ka_37 (by decide) hb16 ?_
      refine s_aload_n (pc := 51) rfl rfl ?_
      refine s_getA (pc := 52) rfl ko_36 (po_36_2 hp14) ?_
      refine s_iload_n (pc := 55) rfl rfl ?_
      refine s_iconst (pc := 56) rfl ?_
      refine s_iadd (pc := 57) rfl ?_
      obtain ⟨hb17, hw⟩ := hw
      refine s_iald (pc := 58) rfl ka_37 (by decide) hb17 ?_
      refine s_aload_n (pc := 59) rfl rfl ?_
      refine s_getA (pc := 60) rfl ko_36 (po_36_2 hp14) ?_
      refine s_iload_n (pc := 63) rfl rfl ?_
      refine s_iconst (pc := 64) rfl ?_
      refine s_iadd (pc := 65) rfl ?_
      obtain ⟨hb18, hw⟩ := hw
      refine s_iald (pc := 66) rfl ka_37 (by decide) hb18 ?_
      refine s_aload_n (pc := 67) rfl rfl ?_
      refine s_ci (pc := 68) (d := (d + 3)) (t := []) rfl rfl (am_ca_v (ps := [.ref x2, .int (iz (m10 37 ((x1 * 4) + 2).toNat)), .int (iz (m10 37 ((x1 * 4) + 1).toNat)), .int (iz (m10 37 (x1 * 4).toNat))]) rfl ko_36) (Nat.le_of_ble_eq_true rfl) (Ci.weak hw fun z22 m19 J20 P21 hw => ?_)
      obtain ⟨hp23, hw⟩ := hw
      obtain ⟨hz24, hw⟩ := hw
      refine s_if_eq (pc := 71) (tgt := 78) rfl rfl hz24 (fun hc => ?_) (fun hc => ?_)
      · replace hw := hw.1 hc
        refine s_iconst (pc := 78) rfl ?_
        exact s_retz (pc := 79) rfl rfl (by decide) hw
      · replace hw := hw.2 hc
        refine s_iconst (pc := 74) rfl ?_
        refine s_goto (pc := 75) (tgt := 79) rfl rfl ?_
        exact s_retz (pc := 79) rfl rfl (by decide) hw
  · replace hw := hw.2 hc
    refine s_iconst (pc := 8) rfl ?_
    exact s_retz (pc := 9) rfl rfl (by decide) hw
