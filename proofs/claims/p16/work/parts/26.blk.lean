/-! the methods, from place to place, by program (wip/whole/gen/blk.py) -/
set_option maxRecDepth 20000 in
set_option maxHeartbeats 4000000 in
theorem b_Mdl_comesOf_0 {X : aX} {d : Nat} (x1 : Int) (x2 : Int) (x3 : Int) (x4 : Int)  (m : Mi) (J : Mj) (P : Mp) (hp : PP P) (post : Int → Mi → Mj → Mp → Prop)
    (hw : Rn X (d + 1) 214 6 [some (.ref 262), some (.int (iz x1)), some (.int (iz x2)), some (.int (iz x3)), some (.int (iz x4)), some (.int (iz x3)), some (.int (iz x1)), none, none, none, none] [] (SS m J P) (QI post)) : Rn X (d + 1) 214 0 [some (.ref 262), some (.int (iz x1)), some (.int (iz x2)), some (.int (iz x3)), some (.int (iz x4)), none, none, none, none, none, none] [] (SS m J P) (QI post) := by
  refine s_iload_n (pc := 0) rfl rfl ?_
  refine s_istore (pc := 1) (L' := [some (.ref 262), some (.int (iz x1)), some (.int (iz x2)), some (.int (iz x3)), some (.int (iz x4)), some (.int (iz x3)), none, none, none, none, none]) rfl (Nat.le_of_ble_eq_true rfl) rfl ?_
  refine s_iload_n (pc := 3) rfl rfl ?_
  refine s_istore (pc := 4) (L' := [some (.ref 262), some (.int (iz x1)), some (.int (iz x2)), some (.int (iz x3)), some (.int (iz x4)), some (.int (iz x3)), some (.int (iz x1)), none, none, none, none]) rfl (Nat.le_of_ble_eq_true rfl) rfl ?_
  exact hw

set_option maxRecDepth 20000 in
set_option maxHeartbeats 4000000 in
theorem b_Mdl_comesOf_6 {X : aX} {d : Nat} (x1 : Int) (x2 : Int) (x3 : Int) (x4 : Int) (x5 : Int) (x6 : Int)  (m : Mi) (J : Mj) (P : Mp) (hp : PP P) (post : Int → Mi → Mj → Mp → Prop)
    (hw : Zr (x6) ∧ Zr (x1 + x2) ∧ ((((x1 + x2) ≤ x6) → post 1 m J P) ∧ (¬ ((x1 + x2) ≤ x6) → ((0 : Int) ≤ x6 ∧ (x6 : Int) < 40000) ∧ Zr (m 323 x6.toNat) ∧ ((((m 323 x6.toNat) < 0) → Ci X d 179 [.ref 262, .ref 323, .int (iz x5)] m J P (fun z8 m5 J6 P7 => PP P7 ∧ ((0 : Int) ≤ (((-1)) - (m 323 x6.toNat)) ∧ ((((-1)) - (m 323 x6.toNat)) : Int) < 800) ∧ Zr (m5 345 (((-1)) - (m 323 x6.toNat)).toNat) ∧ (((0 ≤ (m5 345 (((-1)) - (m 323 x6.toNat)).toNat)) → ((0 : Int) ≤ (((-1)) - (m 323 x6.toNat)) ∧ ((((-1)) - (m 323 x6.toNat)) : Int) < 800) ∧ Zr (m5 346 (((-1)) - (m 323 x6.toNat)).toNat) ∧ Zr (z8 - x5) ∧ ((((m5 346 (((-1)) - (m 323 x6.toNat)).toNat) = (z8 - x5)) → Rn X (d + 1) 214 120 [some (.ref 262), some (.int (iz x1)), some (.int (iz x2)), some (.int (iz x3)), some (.int (iz x4)), some (.int (iz x5)), some (.int (iz x6)), some (.int (iz (m 323 x6.toNat))), some (.int (iz (((-1)) - (m 323 x6.toNat)))), some (.int (iz z8)), some (.int (iz 0))] [] (SS m5 J6 P7) (QI post)) ∧ (¬ ((m5 346 (((-1)) - (m 323 x6.toNat)).toNat) = (z8 - x5)) → post 0 m5 J6 P7))) ∧ (¬ (0 ≤ (m5 345 (((-1)) - (m 323 x6.toNat)).toNat)) → ((0 : Int) ≤ (((-1)) - (m 323 x6.toNat)) ∧ ((((-1)) - (m 323 x6.toNat)) : Int) < 800) ∧ ((0 : Int) ≤ (((-1)) - (m 323 x6.toNat)) ∧ ((((-1)) - (m 323 x6.toNat)) : Int) < 800) ∧ Rn X (d + 1) 214 6 [some (.ref 262), some (.int (iz x1)), some (.int (iz x2)), some (.int (iz x3)), some (.int (iz x4)), some (.int (iz z8)), some (.int (iz (x6 + 1))), none, none, none, none] [] (SS (mu (mu m5 345 (((-1)) - (m 323 x6.toNat)).toNat x5) 346 (((-1)) - (m 323 x6.toNat)).toNat (z8 - x5)) J6 P7) (QI post))))) ∧ (¬ ((m 323 x6.toNat) < 0) → ((0 : Int) ≤ x5 ∧ (x5 : Int) < 40000) ∧ Zr (m 323 x5.toNat) ∧ Zr (m 323 x6.toNat) ∧ ((((m 323 x5.toNat) = (m 323 x6.toNat)) → Rn X (d + 1) 214 6 [some (.ref 262), some (.int (iz x1)), some (.int (iz x2)), some (.int (iz x3)), some (.int (iz x4)), some (.int (iz (x5 + 1))), some (.int (iz (x6 + 1))), none, none, none, none] [] (SS m J P) (QI post)) ∧ (¬ ((m 323 x5.toNat) = (m 323 x6.toNat)) → post 0 m J P))))))) : Rn X (d + 1) 214 6 [some (.ref 262), some (.int (iz x1)), some (.int (iz x2)), some (.int (iz x3)), some (.int (iz x4)), some (.int (iz x5)), some (.int (iz x6)), none, none, none, none] [] (SS m J P) (QI post) := by
  refine s_iload (pc := 6) rfl rfl ?_
  refine s_iload_n (pc := 8) rfl rfl ?_
  refine s_iload_n (pc := 9) rfl rfl ?_
  refine s_iadd (pc := 10) rfl ?_
  obtain ⟨hz1, hw⟩ := hw
  obtain ⟨hz2, hw⟩ := hw
  refine s_ic_ge (pc := 11) (tgt := 176) rfl rfl hz1 hz2 (fun hc => ?_) (fun hc => ?_)
  · replace hw := hw.1 hc
    refine s_iconst (pc := 176) rfl ?_
    exact s_retz (pc := 177) rfl rfl (by decide) hw
  · replace hw := hw.2 hc
    refine s_aload_n (pc := 14) rfl rfl ?_
    refine s_getA (pc := 15) rfl ko_262 (po_262_104 hp) ?_
    refine s_iload (pc := 18) rfl rfl ?_
    obtain ⟨hb3, hw⟩ := hw
    refine s_iald (pc := 20) rfl ka_323 (by decide) hb3 ?_
    refine s_istore (pc := 21) (L' := [some (.ref 262), some (.int (iz x1)), some (.int (iz x2)), some (.int (iz x3)), some (.int (iz x4)), some (.int (iz x5)), some (.int (iz x6)), some (.int (iz (m 323 x6.toNat))), none, none, none]) rfl (Nat.le_of_ble_eq_true rfl) rfl ?_
    refine s_iload (pc := 23) rfl rfl ?_
    obtain ⟨hz4, hw⟩ := hw
    refine s_if_lt (pc := 25) (tgt := 48) rfl rfl hz4 (fun hc => ?_) (fun hc => ?_)
    · replace hw := hw.1 hc
      refine s_iconst (pc := 48) rfl ?_
      refine s_iload (pc := 49) rfl rfl ?_
      refine s_isub (pc := 51) rfl ?_
      refine s_istore (pc := 52) (L' := [some (.ref 262), some (.int (iz x1)), some (.int (iz x2)), some (.int (iz x3)), some (.int (iz x4)), some (.int (iz x5)), some (.int (iz x6)), some (.int (iz (m 323 x6.toNat))), some (.int (iz (((-1)) - (m 323 x6.toNat)))), none, none]) rfl (Nat.le_of_ble_eq_true rfl) rfl ?_
      refine s_aload_n (pc := 54) rfl rfl ?_
      refine s_aload_n (pc := 55) rfl rfl ?_
      refine s_getA (pc := 56) rfl ko_262 (po_262_104 hp) ?_
      refine s_iload (pc := 59) rfl rfl ?_
      refine s_ci (pc := 61) (d := d) (t := []) rfl rfl (am_ca_v (ps := [.int (iz x5), .ref 323]) rfl ko_262) (Nat.le_of_ble_eq_true rfl) (Ci.weak hw fun z8 m5 J6 P7 hw => ?_)
      obtain ⟨hp9, hw⟩ := hw
      refine s_istore (pc := 64) (L' := [some (.ref 262), some (.int (iz x1)), some (.int (iz x2)), some (.int (iz x3)), some (.int (iz x4)), some (.int (iz x5)), some (.int (iz x6)), some (.int (iz (m 323 x6.toNat))), some (.int (iz (((-1)) - (m 323 x6.toNat)))), some (.int (iz z8)), none]) rfl (Nat.le_of_ble_eq_true rfl) rfl ?_
      refine s_aload_n (pc := 66) rfl rfl ?_
      refine s_getA (pc := 67) rfl ko_262 (po_262_133 hp9) ?_
      refine s_iload (pc := 70) rfl rfl ?_
      obtain ⟨hb10, hw⟩ := hw
      refine s_iald (pc := 72) rfl ka_345 (by decide) hb10 ?_
      obtain ⟨hz11, hw⟩ := hw
      refine s_if_ge (pc := 73) (tgt := 100) rfl rfl hz11 (fun hc => ?_) (fun hc => ?_)
      · replace hw := hw.1 hc
        refine s_aload_n (pc := 100) rfl rfl ?_
        refine s_getA (pc := 101) rfl ko_262 (po_262_134 hp9) ?_
        refine s_iload (pc := 104) rfl rfl ?_
        obtain ⟨hb12, hw⟩ := hw
        refine s_iald (pc := 106) rfl ka_346 (by decide) hb12 ?_
        refine s_iload (pc := 107) rfl rfl ?_
        refine s_iload (pc := 109) rfl rfl ?_
        refine s_isub (pc := 111) rfl ?_
        obtain ⟨hz13, hw⟩ := hw
        obtain ⟨hz14, hw⟩ := hw
        refine s_ic_eq (pc := 112) (tgt := 117) rfl rfl hz13 hz14 (fun hc => ?_) (fun hc => ?_)
        · replace hw := hw.1 hc
          refine s_iconst (pc := 117) rfl ?_
          refine s_istore (pc := 118) (L' := [some (.ref 262), some (.int (iz x1)), some (.int (iz x2)), some (.int (iz x3)), some (.int (iz x4)), some (.int (iz x5)), some (.int (iz x6)), some (.int (iz (m 323 x6.toNat))), some (.int (iz (((-1)) - (m 323 x6.toNat)))), some (.int (iz z8)), some (.int (iz 0))]) rfl (Nat.le_of_ble_eq_true rfl) rfl ?_
          exact hw
        · replace hw := hw.2 hc
          refine s_iconst (pc := 115) rfl ?_
          exact s_retz (pc := 116) rfl rfl (by decide) hw
      · replace hw := hw.2 hc
        refine s_aload_n (pc := 76) rfl rfl ?_
        refine s_getA (pc := 77) rfl ko_262 (po_262_133 hp9) ?_
        refine s_iload (pc := 80) rfl rfl ?_
        refine s_iload (pc := 82) rfl rfl ?_
        obtain ⟨hb15, hw⟩ := hw
        refine s_iast (pc := 84) rfl ka_345 (by decide) hb15 ?_
        refine s_aload_n (pc := 85) rfl rfl ?_
        refine s_getA (pc := 86) rfl ko_262 (po_262_134 hp9) ?_
        refine s_iload (pc := 89) rfl rfl ?_
        refine s_iload (pc := 91) rfl rfl ?_
        refine s_iload (pc := 93) rfl rfl ?_
        refine s_isub (pc := 95) rfl ?_
        obtain ⟨hb16, hw⟩ := hw
        refine s_iast (pc := 96) rfl ka_346 (by decide) hb16 ?_
        refine s_goto (pc := 97) (tgt := 166) rfl rfl ?_
        refine s_iload (pc := 166) rfl rfl ?_
        refine s_istore (pc := 168) (L' := [some (.ref 262), some (.int (iz x1)), some (.int (iz x2)), some (.int (iz x3)), some (.int (iz x4)), some (.int (iz z8)), some (.int (iz x6)), some (.int (iz (m 323 x6.toNat))), some (.int (iz (((-1)) - (m 323 x6.toNat)))), some (.int (iz z8)), none]) rfl (Nat.le_of_ble_eq_true rfl) rfl ?_
        refine s_iinc (pc := 170) (L' := [some (.ref 262), some (.int (iz x1)), some (.int (iz x2)), some (.int (iz x3)), some (.int (iz x4)), some (.int (iz z8)), some (.int (iz (x6 + 1))), some (.int (iz (m 323 x6.toNat))), some (.int (iz (((-1)) - (m 323 x6.toNat)))), some (.int (iz z8)), none]) rfl rfl (Nat.le_of_ble_eq_true rfl) rfl ?_
        refine s_goto (pc := 173) (tgt := 6) rfl rfl ?_
        exact Rn.weakL hw (LLe.keep _ (LLe.keep _ (LLe.keep _ (LLe.keep _ (LLe.keep _ (LLe.keep _ (LLe.keep _ (LLe.drop _ (LLe.drop _ (LLe.drop _ (LLe.keep _ (LLe.nil))))))))))))
    · replace hw := hw.2 hc
      refine s_aload_n (pc := 28) rfl rfl ?_
      refine s_getA (pc := 29) rfl ko_262 (po_262_104 hp) ?_
      refine s_iload (pc := 32) rfl rfl ?_
      obtain ⟨hb17, hw⟩ := hw
      refine s_iald (pc := 34) rfl ka_323 (by decide) hb17 ?_
      refine s_iload (pc := 35) rfl rfl ?_
      obtain ⟨hz18, hw⟩ := hw
      obtain ⟨hz19, hw⟩ := hw
      refine s_ic_eq (pc := 37) (tgt := 42) rfl rfl hz18 hz19 (fun hc => ?_) (fun hc => ?_)
      · replace hw := hw.1 hc
        refine s_iinc (pc := 42) (L' := [some (.ref 262), some (.int (iz x1)), some (.int (iz x2)), some (.int (iz x3)), some (.int (iz x4)), some (.int (iz (x5 + 1))), some (.int (iz x6)), some (.int (iz (m 323 x6.toNat))), none, none, none]) rfl rfl (Nat.le_of_ble_eq_true rfl) rfl ?_
        refine s_goto (pc := 45) (tgt := 170) rfl rfl ?_
        refine s_iinc (pc := 170) (L' := [some (.ref 262), some (.int (iz x1)), some (.int (iz x2)), some (.int (iz x3)), some (.int (iz x4)), some (.int (iz (x5 + 1))), some (.int (iz (x6 + 1))), some (.int (iz (m 323 x6.toNat))), none, none, none]) rfl rfl (Nat.le_of_ble_eq_true rfl) rfl ?_
        refine s_goto (pc := 173) (tgt := 6) rfl rfl ?_
        exact Rn.weakL hw (LLe.keep _ (LLe.keep _ (LLe.keep _ (LLe.keep _ (LLe.keep _ (LLe.keep _ (LLe.keep _ (LLe.drop _ (LLe.keep _ (LLe.keep _ (LLe.keep _ (LLe.nil))))))))))))
      · replace hw := hw.2 hc
        refine s_iconst (pc := 40) rfl ?_
        exact s_retz (pc := 41) rfl rfl (by decide) hw

set_option maxRecDepth 20000 in
set_option maxHeartbeats 4000000 in
theorem b_Mdl_comesOf_120 {X : aX} {d : Nat} (x1 : Int) (x2 : Int) (x3 : Int) (x4 : Int) (x5 : Int) (x6 : Int) (x7 : Int) (x8 : Int) (x9 : Int) (x10 : Int)  (m : Mi) (J : Mj) (P : Mp) (hp : PP P) (post : Int → Mi → Mj → Mp → Prop)
    (hw : Zr (x10) ∧ Zr (x9 - x5) ∧ ((((x9 - x5) ≤ x10) → Rn X (d + 1) 214 6 [some (.ref 262), some (.int (iz x1)), some (.int (iz x2)), some (.int (iz x3)), some (.int (iz x4)), some (.int (iz x9)), some (.int (iz (x6 + 1))), none, none, none, none] [] (SS m J P) (QI post)) ∧ (¬ ((x9 - x5) ≤ x10) → ((0 : Int) ≤ x8 ∧ (x8 : Int) < 800) ∧ ((0 : Int) ≤ ((m 345 x8.toNat) + x10) ∧ (((m 345 x8.toNat) + x10) : Int) < 40000) ∧ ((0 : Int) ≤ (x5 + x10) ∧ ((x5 + x10) : Int) < 40000) ∧ Zr (m 323 ((m 345 x8.toNat) + x10).toNat) ∧ Zr (m 323 (x5 + x10).toNat) ∧ ((((m 323 ((m 345 x8.toNat) + x10).toNat) = (m 323 (x5 + x10).toNat)) → Rn X (d + 1) 214 120 [some (.ref 262), some (.int (iz x1)), some (.int (iz x2)), some (.int (iz x3)), some (.int (iz x4)), some (.int (iz x5)), some (.int (iz x6)), some (.int (iz x7)), some (.int (iz x8)), some (.int (iz x9)), some (.int (iz (x10 + 1)))] [] (SS m J P) (QI post)) ∧ (¬ ((m 323 ((m 345 x8.toNat) + x10).toNat) = (m 323 (x5 + x10).toNat)) → post 0 m J P))))) : Rn X (d + 1) 214 120 [some (.ref 262), some (.int (iz x1)), some (.int (iz x2)), some (.int (iz x3)), some (.int (iz x4)), some (.int (iz x5)), some (.int (iz x6)), some (.int (iz x7)), some (.int (iz x8)), some (.int (iz x9)), some (.int (iz x10))] [] (SS m J P) (QI post) := by
  refine s_iload (pc := 120) rfl rfl ?_
  refine s_iload (pc := 122) rfl rfl ?_
  refine s_iload (pc := 124) rfl rfl ?_
  refine s_isub (pc := 126) rfl ?_
  obtain ⟨hz1, hw⟩ := hw
  obtain ⟨hz2, hw⟩ := hw
  refine s_ic_ge (pc := 127) (tgt := 166) rfl rfl hz1 hz2 (fun hc => ?_) (fun hc => ?_)
  · replace hw := hw.1 hc
    refine s_iload (pc := 166) rfl rfl ?_
    refine s_istore (pc := 168) (L' := [some (.ref 262), some (.int (iz x1)), some (.int (iz x2)), some (.int (iz x3)), some (.int (iz x4)), some (.int (iz x9)), some (.int (iz x6)), some (.int (iz x7)), some (.int (iz x8)), some (.int (iz x9)), some (.int (iz x10))]) rfl (Nat.le_of_ble_eq_true rfl) rfl ?_
    refine s_iinc (pc := 170) (L' := [some (.ref 262), some (.int (iz x1)), some (.int (iz x2)), some (.int (iz x3)), some (.int (iz x4)), some (.int (iz x9)), some (.int (iz (x6 + 1))), some (.int (iz x7)), some (.int (iz x8)), some (.int (iz x9)), some (.int (iz x10))]) rfl rfl (Nat.le_of_ble_eq_true rfl) rfl ?_
    refine s_goto (pc := 173) (tgt := 6) rfl rfl ?_
    exact Rn.weakL hw (LLe.keep _ (LLe.keep _ (LLe.keep _ (LLe.keep _ (LLe.keep _ (LLe.keep _ (LLe.keep _ (LLe.drop _ (LLe.drop _ (LLe.drop _ (LLe.drop _ (LLe.nil))))))))))))
  · replace hw := hw.2 hc
    refine s_aload_n (pc := 130) rfl rfl ?_
    refine s_getA (pc := 131) rfl ko_262 (po_262_104 hp) ?_
    refine s_aload_n (pc := 134) rfl rfl ?_
    refine s_getA (pc := 135) rfl ko_262 (po_262_133 hp) ?_
    refine s_iload (pc := 138) rfl rfl ?_
    obtain ⟨hb3, hw⟩ := hw
    refine s_iald (pc := 140) rfl ka_345 (by decide) hb3 ?_
    refine s_iload (pc := 141) rfl rfl ?_
    refine s_iadd (pc := 143) rfl ?_
    obtain ⟨hb4, hw⟩ := hw
    refine s_iald (pc := 144) rfl ka_323 (by decide) hb4 ?_
    refine s_aload_n (pc := 145) rfl rfl ?_
    refine s_getA (pc := 146) rfl ko_262 (po_262_104 hp) ?_
    refine s_iload (pc := 149) rfl rfl ?_
    refine s_iload (pc := 151) rfl rfl ?_
    refine s_iadd (pc := 153) rfl ?_
    obtain ⟨hb5, hw⟩ := hw
    refine s_iald (pc := 154) rfl ka_323 (by decide) hb5 ?_
    obtain ⟨hz6, hw⟩ := hw
    obtain ⟨hz7, hw⟩ := hw
    refine s_ic_eq (pc := 155) (tgt := 160) rfl rfl hz6 hz7 (fun hc => ?_) (fun hc => ?_)
    · replace hw := hw.1 hc
      refine s_iinc (pc := 160) (L' := [some (.ref 262), some (.int (iz x1)), some (.int (iz x2)), some (.int (iz x3)), some (.int (iz x4)), some (.int (iz x5)), some (.int (iz x6)), some (.int (iz x7)), some (.int (iz x8)), some (.int (iz x9)), some (.int (iz (x10 + 1)))]) rfl rfl (Nat.le_of_ble_eq_true rfl) rfl ?_
      refine s_goto (pc := 163) (tgt := 120) rfl rfl ?_
      exact hw
    · replace hw := hw.2 hc
      refine s_iconst (pc := 158) rfl ?_
      exact s_retz (pc := 159) rfl rfl (by decide) hw

set_option maxRecDepth 20000 in
set_option maxHeartbeats 4000000 in
theorem b_Mdl_show_0 {X : aX} {d : Nat} (x1 : Int) (x2 : Int)  (m : Mi) (J : Mj) (P : Mp) (hp : PP P) (post : Int → Mi → Mj → Mp → Prop)
    (hw : Zr (x1) ∧ (((¬ x1 = 0) → Zr (x1) ∧ (((¬ x1 = 1) → Zr (x1) ∧ (((x1 = 2) → Ci X (d + 4) 208 [.ref 262, .int (iz x2)] m J P (fun z7 m4 J5 P6 => PP P6 ∧ Zr (z7) ∧ (((¬ z7 = 0) → Cv X (d + 4) 188 [.ref 262] m4 J5 P6 (fun m10 J11 P12 => PP P12 ∧ Ci X (d + 4) 202 [.ref 262, .int (iz x2), .int (iz 0)] m10 J11 P12 (fun z18 m15 J16 P17 => PP P17 ∧ Zr (x1) ∧ (((¬ x1 = 3) → Cv X (d + 4) 197 [.ref 262, .ref 323, .int (iz z18), .ref 333, .int (iz (6 * x2)), .int (iz (m15 262 101)), .ref 322] m15 J16 P17 (fun m21 J22 P23 => PP P23 ∧ ((0 : Int) ≤ x2 ∧ (x2 : Int) < 1000) ∧ ((0 : Int) ≤ x2 ∧ (x2 : Int) < 1000) ∧ Cv X (d + 4) 189 [.ref 262, .ref 323, .int (iz (m21 324 x2.toNat)), .int (iz (m21 325 x2.toNat))] m21 J22 P23 (fun m28 J29 P30 => PP P30 ∧ Cv X (d + 4) 193 [.ref 262, .int (iz 61)] m28 J29 P30 (fun m33 J34 P35 => PP P35 ∧ ((0 : Int) ≤ x2 ∧ (x2 : Int) < 1000) ∧ ((0 : Int) ≤ x2 ∧ (x2 : Int) < 1000) ∧ ((0 : Int) ≤ x2 ∧ (x2 : Int) < 1000) ∧ Cv X (d + 4) 189 [.ref 262, .ref 323, .int (iz ((m33 324 x2.toNat) + (m33 325 x2.toNat))), .int (iz (m33 326 x2.toNat))] m33 J34 P35 (fun m41 J42 P43 => PP P43 ∧ post (m41 262 136) m41 J42 P43))))) ∧ (¬ (¬ x1 = 3) → Cv X (d + 4) 196 [.ref 262, .ref 323, .int (iz z18), .ref 333, .int (iz (6 * x2)), .int (iz (m15 262 101)), .ref 322] m15 J16 P17 (fun m46 J47 P48 => PP P48 ∧ post (m46 262 136) m46 J47 P48)))))) ∧ (¬ (¬ z7 = 0) → post ((-1)) m4 J5 P6)))) ∧ (¬ (x1 = 2) → Zr (x1) ∧ (((¬ x1 = 3) → Zr (x1) ∧ (((¬ x1 = 4) → post ((-1)) m J P) ∧ (¬ (¬ x1 = 4) → Ci X (d + 4) 210 [.ref 262, .int (iz x2)] m J P (fun z56 m53 J54 P55 => PP P55 ∧ Zr (z56) ∧ (((¬ z56 = 0) → Cv X (d + 4) 188 [.ref 262] m53 J54 P55 (fun m59 J60 P61 => PP P61 ∧ ((0 : Int) ≤ x2 ∧ (x2 : Int) < 300) ∧ Cv X (d + 4) 196 [.ref 262, .ref 323, .int (iz (m59 335 x2.toNat)), .ref 336, .int (iz (6 * x2)), .int (iz (m59 262 101)), .ref 322] m59 J60 P61 (fun m65 J66 P67 => PP P67 ∧ post (m65 262 136) m65 J66 P67))) ∧ (¬ (¬ z56 = 0) → post ((-1)) m53 J54 P55)))))) ∧ (¬ (¬ x1 = 3) → Ci X (d + 4) 208 [.ref 262, .int (iz x2)] m J P (fun z73 m70 J71 P72 => PP P72 ∧ Zr (z73) ∧ (((¬ z73 = 0) → Cv X (d + 4) 188 [.ref 262] m70 J71 P72 (fun m76 J77 P78 => PP P78 ∧ Ci X (d + 4) 202 [.ref 262, .int (iz x2), .int (iz 0)] m76 J77 P78 (fun z84 m81 J82 P83 => PP P83 ∧ Zr (x1) ∧ (((¬ x1 = 3) → Cv X (d + 4) 197 [.ref 262, .ref 323, .int (iz z84), .ref 333, .int (iz (6 * x2)), .int (iz (m81 262 101)), .ref 322] m81 J82 P83 (fun m87 J88 P89 => PP P89 ∧ ((0 : Int) ≤ x2 ∧ (x2 : Int) < 1000) ∧ ((0 : Int) ≤ x2 ∧ (x2 : Int) < 1000) ∧ Cv X (d + 4) 189 [.ref 262, .ref 323, .int (iz (m87 324 x2.toNat)), .int (iz (m87 325 x2.toNat))] m87 J88 P89 (fun m94 J95 P96 => PP P96 ∧ Cv X (d + 4) 193 [.ref 262, .int (iz 61)] m94 J95 P96 (fun m99 J100 P101 => PP P101 ∧ ((0 : Int) ≤ x2 ∧ (x2 : Int) < 1000) ∧ ((0 : Int) ≤ x2 ∧ (x2 : Int) < 1000) ∧ ((0 : Int) ≤ x2 ∧ (x2 : Int) < 1000) ∧ Cv X (d + 4) 189 [.ref 262, .ref 323, .int (iz ((m99 324 x2.toNat) + (m99 325 x2.toNat))), .int (iz (m99 326 x2.toNat))] m99 J100 P101 (fun m107 J108 P109 => PP P109 ∧ post (m107 262 136) m107 J108 P109))))) ∧ (¬ (¬ x1 = 3) → Cv X (d + 4) 196 [.ref 262, .ref 323, .int (iz z84), .ref 333, .int (iz (6 * x2)), .int (iz (m81 262 101)), .ref 322] m81 J82 P83 (fun m112 J113 P114 => PP P114 ∧ post (m112 262 136) m112 J113 P114)))))) ∧ (¬ (¬ z73 = 0) → post ((-1)) m70 J71 P72)))))))) ∧ (¬ (¬ x1 = 1) → Zr (x2) ∧ (((x2 < 0) → post ((-1)) m J P) ∧ (¬ (x2 < 0) → Zr (x2) ∧ Zr (m 262 45) ∧ (((x2 < (m 262 45)) → ((0 : Int) ≤ x2 ∧ (x2 : Int) < 200) ∧ ((0 : Int) ≤ x2 ∧ (x2 : Int) < 200) ∧ ((0 : Int) ≤ x2 ∧ (x2 : Int) < 200) ∧ Ci X (d + 4) 163 [.ref 262, .int (iz (m 287 x2.toNat)), .int (iz (m 288 x2.toNat)), .int (iz (m 289 x2.toNat))] m J P (fun z126 m123 J124 P125 => PP P125 ∧ Zr (m123 262 90) ∧ ((((m123 262 90) < 0) → post ((-1)) m123 J124 P125) ∧ (¬ ((m123 262 90) < 0) → Zr (m123 262 91) ∧ (((0 ≤ (m123 262 91)) → Cv X (d + 4) 188 [.ref 262] m123 J124 P125 (fun m130 J131 P132 => PP P132 ∧ Cv X (d + 4) 189 [.ref 262, .ref 319, .int (iz 0), .int (iz (m130 262 90))] m130 J131 P132 (fun m135 J136 P137 => PP P137 ∧ Cv X (d + 4) 193 [.ref 262, .int (iz 61)] m135 J136 P137 (fun m140 J141 P142 => PP P142 ∧ Cv X (d + 4) 189 [.ref 262, .ref 320, .int (iz 0), .int (iz (m140 262 91))] m140 J141 P142 (fun m145 J146 P147 => PP P147 ∧ post (m145 262 136) m145 J146 P147))))) ∧ (¬ (0 ≤ (m123 262 91)) → post ((-1)) m123 J124 P125)))))) ∧ (¬ (x2 < (m 262 45)) → post ((-1)) m J P))))))) ∧ (¬ (¬ x1 = 0) → Zr (x2) ∧ (((x2 < 0) → post ((-1)) m J P) ∧ (¬ (x2 < 0) → Zr (x2) ∧ Zr (m 262 35) ∧ (((x2 < (m 262 35)) → Cv X (d + 4) 188 [.ref 262] m J P (fun m153 J154 P155 => PP P155 ∧ Rn X (d + 5) 215 24 [some (.ref 262), some (.int (iz x1)), some (.int (iz x2)), some (.int (iz 0))] [] (SS m153 J154 P155) (QI post))) ∧ (¬ (x2 < (m 262 35)) → post ((-1)) m J P))))))) : Rn X (d + 5) 215 0 [some (.ref 262), some (.int (iz x1)), some (.int (iz x2)), none] [] (SS m J P) (QI post) := by
  refine s_iload_n (pc := 0) rfl rfl ?_
  obtain ⟨hz1, hw⟩ := hw
  refine s_if_ne (pc := 1) (tgt := 110) rfl rfl hz1 (fun hc => ?_) (fun hc => ?_)
  · replace hw := hw.1 hc
    refine s_iload_n (pc := 110) rfl rfl ?_
    refine s_iconst (pc := 111) rfl ?_
    obtain ⟨hz2, hw⟩ := hw
    refine s_ic_ne (pc := 112) (tgt := 209) rfl rfl hz2 (by decide) (fun hc => ?_) (fun hc => ?_)
    · replace hw := hw.1 hc
      refine s_iload_n (pc := 209) rfl rfl ?_
      refine s_iconst (pc := 210) rfl ?_
      obtain ⟨hz3, hw⟩ := hw
      refine s_ic_eq (pc := 211) (tgt := 219) rfl rfl hz3 (by decide) (fun hc => ?_) (fun hc => ?_)
      · replace hw := hw.1 hc
        refine s_aload_n (pc := 219) rfl rfl ?_
        refine s_iload_n (pc := 220) rfl rfl ?_
        refine s_ci (pc := 221) (d := (d + 4)) (t := []) rfl rfl (am_ca_v (ps := [.int (iz x2)]) rfl ko_262) (Nat.le_of_ble_eq_true rfl) (Ci.weak hw fun z7 m4 J5 P6 hw => ?_)
        obtain ⟨hp8, hw⟩ := hw
        obtain ⟨hz9, hw⟩ := hw
        refine s_if_ne (pc := 224) (tgt := 229) rfl rfl hz9 (fun hc => ?_) (fun hc => ?_)
        · replace hw := hw.1 hc
          refine s_aload_n (pc := 229) rfl rfl ?_
          refine s_cv (pc := 230) (d := (d + 4)) (t := []) rfl rfl (am_ca_v (ps := []) rfl ko_262) (Nat.le_of_ble_eq_true rfl) (Cv.weak hw fun m10 J11 P12 hw => ?_)
          obtain ⟨hp14, hw⟩ := hw
          refine s_aload_n (pc := 233) rfl rfl ?_
          refine s_iload_n (pc := 234) rfl rfl ?_
          refine s_iconst (pc := 235) rfl ?_
          refine s_ci (pc := 236) (d := (d + 4)) (t := []) rfl rfl (am_ca_v (ps := [.int (iz 0), .int (iz x2)]) rfl ko_262) (Nat.le_of_ble_eq_true rfl) (Ci.weak hw fun z18 m15 J16 P17 hw => ?_)
          obtain ⟨hp19, hw⟩ := hw
          refine s_istore_n (pc := 239) (L' := [some (.ref 262), some (.int (iz x1)), some (.int (iz x2)), some (.int (iz z18))]) rfl (Nat.le_of_ble_eq_true rfl) rfl ?_
          refine s_iload_n (pc := 240) rfl rfl ?_
          refine s_iconst (pc := 241) rfl ?_
          obtain ⟨hz20, hw⟩ := hw
          refine s_ic_ne (pc := 242) (tgt := 275) rfl rfl hz20 (by decide) (fun hc => ?_) (fun hc => ?_)
          · replace hw := hw.1 hc
            refine s_aload_n (pc := 275) rfl rfl ?_
            refine s_aload_n (pc := 276) rfl rfl ?_
            refine s_getA (pc := 277) rfl ko_262 (po_262_104 hp19) ?_
            refine s_iload_n (pc := 280) rfl rfl ?_
            refine s_aload_n (pc := 281) rfl rfl ?_
            refine s_getA (pc := 282) rfl ko_262 (po_262_114 hp19) ?_
            refine s_bipush (pc := 285) rfl (by decide) ?_
            refine s_iload_n (pc := 287) rfl rfl ?_
            refine s_imul (pc := 288) rfl ?_
            refine s_aload_n (pc := 289) rfl rfl ?_
            refine s_getI (pc := 290) rfl ko_262 ?_
            refine s_aload_n (pc := 293) rfl rfl ?_
            refine s_getA (pc := 294) rfl ko_262 (po_262_103 hp19) ?_
            refine s_cv (pc := 297) (d := (d + 4)) (t := []) rfl rfl (am_ca_v (ps := [.ref 322, .int (iz (m15 262 101)), .int (iz (6 * x2)), .ref 333, .int (iz z18), .ref 323]) rfl ko_262) (Nat.le_of_ble_eq_true rfl) (Cv.weak hw fun m21 J22 P23 hw => ?_)
            obtain ⟨hp25, hw⟩ := hw
            refine s_aload_n (pc := 300) rfl rfl ?_
            refine s_aload_n (pc := 301) rfl rfl ?_
            refine s_getA (pc := 302) rfl ko_262 (po_262_104 hp25) ?_
            refine s_aload_n (pc := 305) rfl rfl ?_
            refine s_getA (pc := 306) rfl ko_262 (po_262_105 hp25) ?_
            refine s_iload_n (pc := 309) rfl rfl ?_
            obtain ⟨hb26, hw⟩ := hw
            refine s_iald (pc := 310) rfl ka_324 (by decide) hb26 ?_
            refine s_aload_n (pc := 311) rfl rfl ?_
            refine s_getA (pc := 312) rfl ko_262 (po_262_106 hp25) ?_
            refine s_iload_n (pc := 315) rfl rfl ?_
            obtain ⟨hb27, hw⟩ := hw
            refine s_iald (pc := 316) rfl ka_325 (by decide) hb27 ?_
            refine s_cv (pc := 317) (d := (d + 4)) (t := []) rfl rfl (am_ca_v (ps := [.int (iz (m21 325 x2.toNat)), .int (iz (m21 324 x2.toNat)), .ref 323]) rfl ko_262) (Nat.le_of_ble_eq_true rfl) (Cv.weak hw fun m28 J29 P30 hw => ?_)
            obtain ⟨hp32, hw⟩ := hw
            refine s_aload_n (pc := 320) rfl rfl ?_
            refine s_bipush (pc := 321) rfl (by decide) ?_
            refine s_cv (pc := 323) (d := (d + 4)) (t := []) rfl rfl (am_ca_v (ps := [.int (iz 61)]) rfl ko_262) (Nat.le_of_ble_eq_true rfl) (Cv.weak hw fun m33 J34 P35 hw => ?_)
            obtain ⟨hp37, hw⟩ := hw
            refine s_aload_n (pc := 326) rfl rfl ?_
            refine s_aload_n (pc := 327) rfl rfl ?_
            refine s_getA (pc := 328) rfl ko_262 (po_262_104 hp37) ?_
            refine s_aload_n (pc := 331) rfl rfl ?_
            refine s_getA (pc := 332) rfl ko_262 (po_262_105 hp37) ?_
            refine s_iload_n (pc := 335) rfl rfl ?_
            obtain ⟨hb38, hw⟩ := hw
            refine s_iald (pc := 336) rfl ka_324 (by decide) hb38 ?_
            refine s_aload_n (pc := 337) rfl rfl ?_
            refine s_getA (pc := 338) rfl ko_262 (po_262_106 hp37) ?_
            refine s_iload_n (pc := 341) rfl rfl ?_
            obtain ⟨hb39, hw⟩ := hw
            refine s_iald (pc := 342) rfl ka_325 (by decide) hb39 ?_
            refine s_iadd (pc := 343) rfl ?_
            refine s_aload_n (pc := 344) rfl rfl ?_
            refine s_getA (pc := 345) rfl ko_262 (po_262_107 hp37) ?_
            refine s_iload_n (pc := 348) rfl rfl ?_
            obtain ⟨hb40, hw⟩ := hw
            refine s_iald (pc := 349) rfl ka_326 (by decide) hb40 ?_
            refine s_cv (pc := 350) (d := (d + 4)) (t := []) rfl rfl (am_ca_v (ps := [.int (iz (m33 326 x2.toNat)), .int (iz ((m33 324 x2.toNat) + (m33 325 x2.toNat))), .ref 323]) rfl ko_262) (Nat.le_of_ble_eq_true rfl) (Cv.weak hw fun m41 J42 P43 hw => ?_)
            obtain ⟨hp45, hw⟩ := hw
            refine s_aload_n (pc := 353) rfl rfl ?_
            refine s_getI (pc := 354) rfl ko_262 ?_
            exact s_reti (pc := 357) rfl rfl hw
          · replace hw := hw.2 hc
            refine s_aload_n (pc := 245) rfl rfl ?_
            refine s_aload_n (pc := 246) rfl rfl ?_
            refine s_getA (pc := 247) rfl ko_262 (po_262_104 hp19) ?_
            refine s_iload_n (pc := 250) rfl rfl ?_
            refine s_aload_n (pc := 251) rfl rfl ?_
            refine s_getA (pc := 252) rfl ko_262 (po_262_114 hp19) ?_
            refine s_bipush (pc := 255) rfl (by decide) ?_
            refine s_iload_n (pc := 257) rfl rfl ?_
            refine s_imul (pc := 258) rfl ?_
            refine s_aload_n (pc := 259) rfl rfl ?_
            refine s_getI (pc := 260) rfl ko_262 ?_
            refine s_aload_n (pc := 263) rfl rfl ?_
            refine s_getA (pc := 264) rfl ko_262 (po_262_103 hp19) ?_
            refine s_cv (pc := 267) (d := (d + 4)) (t := []) rfl rfl (am_ca_v (ps := [.ref 322, .int (iz (m15 262 101)), .int (iz (6 * x2)), .ref 333, .int (iz z18), .ref 323]) rfl ko_262) (Nat.le_of_ble_eq_true rfl) (Cv.weak hw fun m46 J47 P48 hw => ?_)
            obtain ⟨hp50, hw⟩ := hw
            refine s_aload_n (pc := 270) rfl rfl ?_
            refine s_getI (pc := 271) rfl ko_262 ?_
            exact s_reti (pc := 274) rfl rfl hw
        · replace hw := hw.2 hc
          refine s_iconst (pc := 227) rfl ?_
          exact s_reti (pc := 228) rfl rfl hw
      · replace hw := hw.2 hc
        refine s_iload_n (pc := 214) rfl rfl ?_
        refine s_iconst (pc := 215) rfl ?_
        obtain ⟨hz51, hw⟩ := hw
        refine s_ic_ne (pc := 216) (tgt := 358) rfl rfl hz51 (by decide) (fun hc => ?_) (fun hc => ?_)
        · replace hw := hw.1 hc
          refine s_iload_n (pc := 358) rfl rfl ?_
          refine s_iconst (pc := 359) rfl ?_
          obtain ⟨hz52, hw⟩ := hw
          refine s_ic_ne (pc := 360) (tgt := 371) rfl rfl hz52 (by decide) (fun hc => ?_) (fun hc => ?_)
          · replace hw := hw.1 hc
            refine s_iconst (pc := 371) rfl ?_
            exact s_reti (pc := 372) rfl rfl hw
          · replace hw := hw.2 hc
            refine s_aload_n (pc := 363) rfl rfl ?_
            refine s_iload_n (pc := 364) rfl rfl ?_
            refine s_ci (pc := 365) (d := (d + 4)) (t := []) rfl rfl (am_ca_v (ps := [.int (iz x2)]) rfl ko_262) (Nat.le_of_ble_eq_true rfl) (Ci.weak hw fun z56 m53 J54 P55 hw => ?_)
            obtain ⟨hp57, hw⟩ := hw
            obtain ⟨hz58, hw⟩ := hw
            refine s_if_ne (pc := 368) (tgt := 373) rfl rfl hz58 (fun hc => ?_) (fun hc => ?_)
            · replace hw := hw.1 hc
              refine s_aload_n (pc := 373) rfl rfl ?_
              refine s_cv (pc := 374) (d := (d + 4)) (t := []) rfl rfl (am_ca_v (ps := []) rfl ko_262) (Nat.le_of_ble_eq_true rfl) (Cv.weak hw fun m59 J60 P61 hw => ?_)
              obtain ⟨hp63, hw⟩ := hw
              refine s_aload_n (pc := 377) rfl rfl ?_
              refine s_aload_n (pc := 378) rfl rfl ?_
              refine s_getA (pc := 379) rfl ko_262 (po_262_104 hp63) ?_
              refine s_aload_n (pc := 382) rfl rfl ?_
              refine s_getA (pc := 383) rfl ko_262 (po_262_116 hp63) ?_
              refine s_iload_n (pc := 386) rfl rfl ?_
              obtain ⟨hb64, hw⟩ := hw
              refine s_iald (pc := 387) rfl ka_335 (by decide) hb64 ?_
              refine s_aload_n (pc := 388) rfl rfl ?_
              refine s_getA (pc := 389) rfl ko_262 (po_262_117 hp63) ?_
              refine s_bipush (pc := 392) rfl (by decide) ?_
              refine s_iload_n (pc := 394) rfl rfl ?_
              refine s_imul (pc := 395) rfl ?_
              refine s_aload_n (pc := 396) rfl rfl ?_
              refine s_getI (pc := 397) rfl ko_262 ?_
              refine s_aload_n (pc := 400) rfl rfl ?_
              refine s_getA (pc := 401) rfl ko_262 (po_262_103 hp63) ?_
              refine s_cv (pc := 404) (d := (d + 4)) (t := []) rfl rfl (am_ca_v (ps := [.ref 322, .int (iz (m59 262 101)), .int (iz (6 * x2)), .ref 336, .int (iz (m59 335 x2.toNat)), .ref 323]) rfl ko_262) (Nat.le_of_ble_eq_true rfl) (Cv.weak hw fun m65 J66 P67 hw => ?_)
              obtain ⟨hp69, hw⟩ := hw
              refine s_aload_n (pc := 407) rfl rfl ?_
              refine s_getI (pc := 408) rfl ko_262 ?_
              exact s_reti (pc := 411) rfl rfl hw
            · replace hw := hw.2 hc
              refine s_iconst (pc := 371) rfl ?_
              exact s_reti (pc := 372) rfl rfl hw
        · replace hw := hw.2 hc
          refine s_aload_n (pc := 219) rfl rfl ?_
          refine s_iload_n (pc := 220) rfl rfl ?_
          refine s_ci (pc := 221) (d := (d + 4)) (t := []) rfl rfl (am_ca_v (ps := [.int (iz x2)]) rfl ko_262) (Nat.le_of_ble_eq_true rfl) (Ci.weak hw fun z73 m70 J71 P72 hw => ?_)
          obtain ⟨hp74, hw⟩ := hw
          obtain ⟨hz75, hw⟩ := hw
          refine s_if_ne (pc := 224) (tgt := 229) rfl rfl hz75 (fun hc => ?_) (fun hc => ?_)
          · replace hw := hw.1 hc
            refine s_aload_n (pc := 229) rfl rfl ?_
            refine s_cv (pc := 230) (d := (d + 4)) (t := []) rfl rfl (am_ca_v (ps := []) rfl ko_262) (Nat.le_of_ble_eq_true rfl) (Cv.weak hw fun m76 J77 P78 hw => ?_)
            obtain ⟨hp80, hw⟩ := hw
            refine s_aload_n (pc := 233) rfl rfl ?_
            refine s_iload_n (pc := 234) rfl rfl ?_
            refine s_iconst (pc := 235) rfl ?_
            refine s_ci (pc := 236) (d := (d + 4)) (t := []) rfl rfl (am_ca_v (ps := [.int (iz 0), .int (iz x2)]) rfl ko_262) (Nat.le_of_ble_eq_true rfl) (Ci.weak hw fun z84 m81 J82 P83 hw => ?_)
            obtain ⟨hp85, hw⟩ := hw
            refine s_istore_n (pc := 239) (L' := [some (.ref 262), some (.int (iz x1)), some (.int (iz x2)), some (.int (iz z84))]) rfl (Nat.le_of_ble_eq_true rfl) rfl ?_
            refine s_iload_n (pc := 240) rfl rfl ?_
            refine s_iconst (pc := 241) rfl ?_
            obtain ⟨hz86, hw⟩ := hw
            refine s_ic_ne (pc := 242) (tgt := 275) rfl rfl hz86 (by decide) (fun hc => ?_) (fun hc => ?_)
            · replace hw := hw.1 hc
              refine s_aload_n (pc := 275) rfl rfl ?_
              refine s_aload_n (pc := 276) rfl rfl ?_
              refine s_getA (pc := 277) rfl ko_262 (po_262_104 hp85) ?_
              refine s_iload_n (pc := 280) rfl rfl ?_
              refine s_aload_n (pc := 281) rfl rfl ?_
              refine s_getA (pc := 282) rfl ko_262 (po_262_114 hp85) ?_
              refine s_bipush (pc := 285) rfl (by decide) ?_
              refine s_iload_n (pc := 287) rfl rfl ?_
              refine s_imul (pc := 288) rfl ?_
              refine s_aload_n (pc := 289) rfl rfl ?_
              refine s_getI (pc := 290) rfl ko_262 ?_
              refine s_aload_n (pc := 293) rfl rfl ?_
              refine s_getA (pc := 294) rfl ko_262 (po_262_103 hp85) ?_
              refine s_cv (pc := 297) (d := (d + 4)) (t := []) rfl rfl (am_ca_v (ps := [.ref 322, .int (iz (m81 262 101)), .int (iz (6 * x2)), .ref 333, .int (iz z84), .ref 323]) rfl ko_262) (Nat.le_of_ble_eq_true rfl) (Cv.weak hw fun m87 J88 P89 hw => ?_)
              obtain ⟨hp91, hw⟩ := hw
              refine s_aload_n (pc := 300) rfl rfl ?_
              refine s_aload_n (pc := 301) rfl rfl ?_
              refine s_getA (pc := 302) rfl ko_262 (po_262_104 hp91) ?_
              refine s_aload_n (pc := 305) rfl rfl ?_
              refine s_getA (pc := 306) rfl ko_262 (po_262_105 hp91) ?_
              refine s_iload_n (pc := 309) rfl rfl ?_
              obtain ⟨hb92, hw⟩ := hw
              refine s_iald (pc := 310) rfl ka_324 (by decide) hb92 ?_
              refine s_aload_n (pc := 311) rfl rfl ?_
              refine s_getA (pc := 312) rfl ko_262 (po_262_106 hp91) ?_
              refine s_iload_n (pc := 315) rfl rfl ?_
              obtain ⟨hb93, hw⟩ := hw
              refine s_iald (pc := 316) rfl ka_325 (by decide) hb93 ?_
              refine s_cv (pc := 317) (d := (d + 4)) (t := []) rfl rfl (am_ca_v (ps := [.int (iz (m87 325 x2.toNat)), .int (iz (m87 324 x2.toNat)), .ref 323]) rfl ko_262) (Nat.le_of_ble_eq_true rfl) (Cv.weak hw fun m94 J95 P96 hw => ?_)
              obtain ⟨hp98, hw⟩ := hw
              refine s_aload_n (pc := 320) rfl rfl ?_
              refine s_bipush (pc := 321) rfl (by decide) ?_
              refine s_cv (pc := 323) (d := (d + 4)) (t := []) rfl rfl (am_ca_v (ps := [.int (iz 61)]) rfl ko_262) (Nat.le_of_ble_eq_true rfl) (Cv.weak hw fun m99 J100 P101 hw => ?_)
              obtain ⟨hp103, hw⟩ := hw
              refine s_aload_n (pc := 326) rfl rfl ?_
              refine s_aload_n (pc := 327) rfl rfl ?_
              refine s_getA (pc := 328) rfl ko_262 (po_262_104 hp103) ?_
              refine s_aload_n (pc := 331) rfl rfl ?_
              refine s_getA (pc := 332) rfl ko_262 (po_262_105 hp103) ?_
              refine s_iload_n (pc := 335) rfl rfl ?_
              obtain ⟨hb104, hw⟩ := hw
              refine s_iald (pc := 336) rfl ka_324 (by decide) hb104 ?_
              refine s_aload_n (pc := 337) rfl rfl ?_
              refine s_getA (pc := 338) rfl ko_262 (po_262_106 hp103) ?_
              refine s_iload_n (pc := 341) rfl rfl ?_
              obtain ⟨hb105, hw⟩ := hw
              refine s_iald (pc := 342) rfl ka_325 (by decide) hb105 ?_
              refine s_iadd (pc := 343) rfl ?_
              refine s_aload_n (pc := 344) rfl rfl ?_
              refine s_getA (pc := 345) rfl ko_262 (po_262_107 hp103) ?_
              refine s_iload_n (pc := 348) rfl rfl ?_
              obtain ⟨hb106, hw⟩ := hw
              refine s_iald (pc := 349) rfl ka_326 (by decide) hb106 ?_
              refine s_cv (pc := 350) (d := (d + 4)) (t := []) rfl rfl (am_ca_v (ps := [.int (iz (m99 326 x2.toNat)), .int (iz ((m99 324 x2.toNat) + (m99 325 x2.toNat))), .ref 323]) rfl ko_262) (Nat.le_of_ble_eq_true rfl) (Cv.weak hw fun m107 J108 P109 hw => ?_)
              obtain ⟨hp111, hw⟩ := hw
              refine s_aload_n (pc := 353) rfl rfl ?_
              refine s_getI (pc := 354) rfl ko_262 ?_
              exact s_reti (pc := 357) rfl rfl hw
            · replace hw := hw.2 hc
              refine s_aload_n (pc := 245) rfl rfl ?_
              refine s_aload_n (pc := 246) rfl rfl ?_
              refine s_getA (pc := 247) rfl ko_262 (po_262_104 hp85) ?_
              refine s_iload_n (pc := 250) rfl rfl ?_
              refine s_aload_n (pc := 251) rfl rfl ?_
              refine s_getA (pc := 252) rfl ko_262 (po_262_114 hp85) ?_
              refine s_bipush (pc := 255) rfl (by decide) ?_
              refine s_iload_n (pc := 257) rfl rfl ?_
              refine s_imul (pc := 258) rfl ?_
              refine s_aload_n (pc := 259) rfl rfl ?_
              refine s_getI (pc := 260) rfl ko_262 ?_
              refine s_aload_n (pc := 263) rfl rfl ?_
              refine s_getA (pc := 264) rfl ko_262 (po_262_103 hp85) ?_
              refine s_cv (pc := 267) (d := (d + 4)) (t := []) rfl rfl (am_ca_v (ps := [.ref 322, .int (iz (m81 262 101)), .int (iz (6 * x2)), .ref 333, .int (iz z84), .ref 323]) rfl ko_262) (Nat.le_of_ble_eq_true rfl) (Cv.weak hw fun m112 J113 P114 hw => ?_)
              obtain ⟨hp116, hw⟩ := hw
              refine s_aload_n (pc := 270) rfl rfl ?_
              refine s_getI (pc := 271) rfl ko_262 ?_
              exact s_reti (pc := 274) rfl rfl hw
          · replace hw := hw.2 hc
            refine s_iconst (pc := 227) rfl ?_
            exact s_reti (pc := 228) rfl rfl hw
    · replace hw := hw.2 hc
      refine s_iload_n (pc := 115) rfl rfl ?_
      obtain ⟨hz117, hw⟩ := hw
      refine s_if_lt (pc := 116) (tgt := 127) rfl rfl hz117 (fun hc => ?_) (fun hc => ?_)
      · replace hw := hw.1 hc
        refine s_iconst (pc := 127) rfl ?_
        exact s_reti (pc := 128) rfl rfl hw
      · replace hw := hw.2 hc
        refine s_iload_n (pc := 119) rfl rfl ?_
        refine s_aload_n (pc := 120) rfl rfl ?_
        refine s_getI (pc := 121) rfl ko_262 ?_
        obtain ⟨hz118, hw⟩ := hw
        obtain ⟨hz119, hw⟩ := hw
        refine s_ic_lt (pc := 124) (tgt := 129) rfl rfl hz118 hz119 (fun hc => ?_) (fun hc => ?_)
        · replace hw := hw.1 hc
          refine s_aload_n (pc := 129) rfl rfl ?_
          refine s_aload_n (pc := 130) rfl rfl ?_
          refine s_getA (pc := 131) rfl ko_262 (po_262_48 hp) ?_
          refine s_iload_n (pc := 134) rfl rfl ?_
          obtain ⟨hb120, hw⟩ := hw
          refine s_iald (pc := 135) rfl ka_287 (by decide) hb120 ?_
          refine s_aload_n (pc := 136) rfl rfl ?_
          refine s_getA (pc := 137) rfl ko_262 (po_262_49 hp) ?_
          refine s_iload_n (pc := 140) rfl rfl ?_
          obtain ⟨hb121, hw⟩ := hw
          refine s_iald (pc := 141) rfl ka_288 (by decide) hb121 ?_
          refine s_aload_n (pc := 142) rfl rfl ?_
          refine s_getA (pc := 143) rfl ko_262 (po_262_50 hp) ?_
          refine s_iload_n (pc := 146) rfl rfl ?_
          obtain ⟨hb122, hw⟩ := hw
          refine s_iald (pc := 147) rfl ka_289 (by decide) hb122 ?_
          refine s_ci (pc := 148) (d := (d + 4)) (t := []) rfl rfl (am_ca_v (ps := [.int (iz (m 289 x2.toNat)), .int (iz (m 288 x2.toNat)), .int (iz (m 287 x2.toNat))]) rfl ko_262) (Nat.le_of_ble_eq_true rfl) (Ci.weak hw fun z126 m123 J124 P125 hw => ?_)
          obtain ⟨hp127, hw⟩ := hw
          refine s_pop (pc := 151) rfl rfl ?_
          refine s_aload_n (pc := 152) rfl rfl ?_
          refine s_getI (pc := 153) rfl ko_262 ?_
          obtain ⟨hz128, hw⟩ := hw
          refine s_if_lt (pc := 156) (tgt := 166) rfl rfl hz128 (fun hc => ?_) (fun hc => ?_)
          · replace hw := hw.1 hc
            refine s_iconst (pc := 166) rfl ?_
            exact s_reti (pc := 167) rfl rfl hw
          · replace hw := hw.2 hc
            refine s_aload_n (pc := 159) rfl rfl ?_
            refine s_getI (pc := 160) rfl ko_262 ?_
            obtain ⟨hz129, hw⟩ := hw
            refine s_if_ge (pc := 163) (tgt := 168) rfl rfl hz129 (fun hc => ?_) (fun hc => ?_)
            · replace hw := hw.1 hc
              refine s_aload_n (pc := 168) rfl rfl ?_
              refine s_cv (pc := 169) (d := (d + 4)) (t := []) rfl rfl (am_ca_v (ps := []) rfl ko_262) (Nat.le_of_ble_eq_true rfl) (Cv.weak hw fun m130 J131 P132 hw => ?_)
              obtain ⟨hp134, hw⟩ := hw
              refine s_aload_n (pc := 172) rfl rfl ?_
              refine s_aload_n (pc := 173) rfl rfl ?_
              refine s_getA (pc := 174) rfl ko_262 (po_262_88 hp134) ?_
              refine s_iconst (pc := 177) rfl ?_
              refine s_aload_n (pc := 178) rfl rfl ?_
              refine s_getI (pc := 179) rfl ko_262 ?_
              refine s_cv (pc := 182) (d := (d + 4)) (t := []) rfl rfl (am_ca_v (ps := [.int (iz (m130 262 90)), .int (iz 0), .ref 319]) rfl ko_262) (Nat.le_of_ble_eq_true rfl) (Cv.weak hw fun m135 J136 P137 hw => ?_)
              obtain ⟨hp139, hw⟩ := hw
              refine s_aload_n (pc := 185) rfl rfl ?_
              refine s_bipush (pc := 186) rfl (by decide) ?_
              refine s_cv (pc := 188) (d := (d + 4)) (t := []) rfl rfl (am_ca_v (ps := [.int (iz 61)]) rfl ko_262) (Nat.le_of_ble_eq_true rfl) (Cv.weak hw fun m140 J141 P142 hw => ?_)
              obtain ⟨hp144, hw⟩ := hw
              refine s_aload_n (pc := 191) rfl rfl ?_
              refine s_aload_n (pc := 192) rfl rfl ?_
              refine s_getA (pc := 193) rfl ko_262 (po_262_89 hp144) ?_
              refine s_iconst (pc := 196) rfl ?_
              refine s_aload_n (pc := 197) rfl rfl ?_
              refine s_getI (pc := 198) rfl ko_262 ?_
              refine s_cv (pc := 201) (d := (d + 4)) (t := []) rfl rfl (am_ca_v (ps := [.int (iz (m140 262 91)), .int (iz 0), .ref 320]) rfl ko_262) (Nat.le_of_ble_eq_true rfl) (Cv.weak hw fun m145 J146 P147 hw => ?_)
              obtain ⟨hp149, hw⟩ := hw
              refine s_aload_n (pc := 204) rfl rfl ?_
              refine s_getI (pc := 205) rfl ko_262 ?_
              exact s_reti (pc := 208) rfl rfl hw
            · replace hw := hw.2 hc
              refine s_iconst (pc := 166) rfl ?_
              exact s_reti (pc := 167) rfl rfl hw
        · replace hw := hw.2 hc
          refine s_iconst (pc := 127) rfl ?_
          exact s_reti (pc := 128) rfl rfl hw
  · replace hw := hw.2 hc
    refine s_iload_n (pc := 4) rfl rfl ?_
    obtain ⟨hz150, hw⟩ := hw
    refine s_if_lt (pc := 5) (tgt := 16) rfl rfl hz150 (fun hc => ?_) (fun hc => ?_)
    · replace hw := hw.1 hc
      refine s_iconst (pc := 16) rfl ?_
      exact s_reti (pc := 17) rfl rfl hw
    · replace hw := hw.2 hc
      refine s_iload_n (pc := 8) rfl rfl ?_
      refine s_aload_n (pc := 9) rfl rfl ?_
      refine s_getI (pc := 10) rfl ko_262 ?_
      obtain ⟨hz151, hw⟩ := hw
      obtain ⟨hz152, hw⟩ := hw
      refine s_ic_lt (pc := 13) (tgt := 18) rfl rfl hz151 hz152 (fun hc => ?_) (fun hc => ?_)
      · replace hw := hw.1 hc
        refine s_aload_n (pc := 18) rfl rfl ?_
        refine s_cv (pc := 19) (d := (d + 4)) (t := []) rfl rfl (am_ca_v (ps := []) rfl ko_262) (Nat.le_of_ble_eq_true rfl) (Cv.weak hw fun m153 J154 P155 hw => ?_)
        obtain ⟨hp157, hw⟩ := hw
        refine s_iconst (pc := 22) rfl ?_
        refine s_istore_n (pc := 23) (L' := [some (.ref 262), some (.int (iz x1)), some (.int (iz x2)), some (.int (iz 0))]) rfl (Nat.le_of_ble_eq_true rfl) rfl ?_
        exact hw
      · replace hw := hw.2 hc
        refine s_iconst (pc := 16) rfl ?_
        exact s_reti (pc := 17) rfl rfl hw

set_option maxRecDepth 20000 in
set_option maxHeartbeats 4000000 in
theorem b_Mdl_show_24 {X : aX} {d : Nat} (x1 : Int) (x2 : Int) (x3 : Int)  (m : Mi) (J : Mj) (P : Mp) (hp : PP P) (post : Int → Mi → Mj → Mp → Prop)
    (hw : ((0 : Int) ≤ x2 ∧ (x2 : Int) < 16) ∧ Zr (x3) ∧ Zr (m 285 x2.toNat) ∧ ((((m 285 x2.toNat) ≤ x3) → ((0 : Int) ≤ x2 ∧ (x2 : Int) < 16) ∧ Cv X (d + 4) 189 [.ref 262, .ref 281, .int (iz (40 * x2)), .int (iz (m 283 x2.toNat))] m J P (fun m5 J6 P7 => PP P7 ∧ Cv X (d + 4) 193 [.ref 262, .int (iz 45)] m5 J6 P7 (fun m10 J11 P12 => PP P12 ∧ Cv X (d + 4) 193 [.ref 262, .int (iz 62)] m10 J11 P12 (fun m15 J16 P17 => PP P17 ∧ ((0 : Int) ≤ x2 ∧ (x2 : Int) < 16) ∧ Cv X (d + 4) 189 [.ref 262, .ref 282, .int (iz (40 * x2)), .int (iz (m15 284 x2.toNat))] m15 J16 P17 (fun m21 J22 P23 => PP P23 ∧ post (m21 262 136) m21 J22 P23))))) ∧ (¬ ((m 285 x2.toNat) ≤ x3) → ((0 : Int) ≤ ((8 * x2) + x3) ∧ (((8 * x2) + x3) : Int) < 128) ∧ ((0 : Int) ≤ x3 ∧ (x3 : Int) < 800) ∧ Rn X (d + 5) 215 24 [some (.ref 262), some (.int (iz x1)), some (.int (iz x2)), some (.int (iz (x3 + 1)))] [] (SS m (mju J 348 x3.toNat (J 286 ((8 * x2) + x3).toNat)) P) (QI post)))) : Rn X (d + 5) 215 24 [some (.ref 262), some (.int (iz x1)), some (.int (iz x2)), some (.int (iz x3))] [] (SS m J P) (QI post) := by
  refine s_iload_n (pc := 24) rfl rfl ?_
  refine s_aload_n (pc := 25) rfl rfl ?_
  refine s_getA (pc := 26) rfl ko_262 (po_262_42 hp) ?_
  refine s_iload_n (pc := 29) rfl rfl ?_
  obtain ⟨hb1, hw⟩ := hw
  refine s_iald (pc := 30) rfl ka_285 (by decide) hb1 ?_
  obtain ⟨hz2, hw⟩ := hw
  obtain ⟨hz3, hw⟩ := hw
  refine s_ic_ge (pc := 31) (tgt := 57) rfl rfl hz2 hz3 (fun hc => ?_) (fun hc => ?_)
  · replace hw := hw.1 hc
    refine s_aload_n (pc := 57) rfl rfl ?_
    refine s_aload_n (pc := 58) rfl rfl ?_
    refine s_getA (pc := 59) rfl ko_262 (po_262_38 hp) ?_
    refine s_bipush (pc := 62) rfl (by decide) ?_
    refine s_iload_n (pc := 64) rfl rfl ?_
    refine s_imul (pc := 65) rfl ?_
    refine s_aload_n (pc := 66) rfl rfl ?_
    refine s_getA (pc := 67) rfl ko_262 (po_262_40 hp) ?_
    refine s_iload_n (pc := 70) rfl rfl ?_
    obtain ⟨hb4, hw⟩ := hw
    refine s_iald (pc := 71) rfl ka_283 (by decide) hb4 ?_
    refine s_cv (pc := 72) (d := (d + 4)) (t := []) rfl rfl (am_ca_v (ps := [.int (iz (m 283 x2.toNat)), .int (iz (40 * x2)), .ref 281]) rfl ko_262) (Nat.le_of_ble_eq_true rfl) (Cv.weak hw fun m5 J6 P7 hw => ?_)
    obtain ⟨hp9, hw⟩ := hw
    refine s_aload_n (pc := 75) rfl rfl ?_
    refine s_bipush (pc := 76) rfl (by decide) ?_
    refine s_cv (pc := 78) (d := (d + 4)) (t := []) rfl rfl (am_ca_v (ps := [.int (iz 45)]) rfl ko_262) (Nat.le_of_ble_eq_true rfl) (Cv.weak hw fun m10 J11 P12 hw => ?_)
    obtain ⟨hp14, hw⟩ := hw
    refine s_aload_n (pc := 81) rfl rfl ?_
    refine s_bipush (pc := 82) rfl (by decide) ?_
    refine s_cv (pc := 84) (d := (d + 4)) (t := []) rfl rfl (am_ca_v (ps := [.int (iz 62)]) rfl ko_262) (Nat.le_of_ble_eq_true rfl) (Cv.weak hw fun m15 J16 P17 hw => ?_)
    obtain ⟨hp19, hw⟩ := hw
    refine s_aload_n (pc := 87) rfl rfl ?_
    refine s_aload_n (pc := 88) rfl rfl ?_
    refine s_getA (pc := 89) rfl ko_262 (po_262_39 hp19) ?_
    refine s_bipush (pc := 92) rfl (by decide) ?_
    refine s_iload_n (pc := 94) rfl rfl ?_
    refine s_imul (pc := 95) rfl ?_
    refine s_aload_n (pc := 96) rfl rfl ?_
    refine s_getA (pc := 97) rfl ko_262 (po_262_41 hp19) ?_
    refine s_iload_n (pc := 100) rfl rfl ?_
    obtain ⟨hb20, hw⟩ := hw
    refine s_iald (pc := 101) rfl ka_284 (by decide) hb20 ?_
    refine s_cv (pc := 102) (d := (d + 4)) (t := []) rfl rfl (am_ca_v (ps := [.int (iz (m15 284 x2.toNat)), .int (iz (40 * x2)), .ref 282]) rfl ko_262) (Nat.le_of_ble_eq_true rfl) (Cv.weak hw fun m21 J22 P23 hw => ?_)
    obtain ⟨hp25, hw⟩ := hw
    refine s_aload_n (pc := 105) rfl rfl ?_
    refine s_getI (pc := 106) rfl ko_262 ?_
    exact s_reti (pc := 109) rfl rfl hw
  · replace hw := hw.2 hc
    refine s_aload_n (pc := 34) rfl rfl ?_
    refine s_getA (pc := 35) rfl ko_262 (po_262_137 hp) ?_
    refine s_iload_n (pc := 38) rfl rfl ?_
    refine s_aload_n (pc := 39) rfl rfl ?_
    refine s_getA (pc := 40) rfl ko_262 (po_262_43 hp) ?_
    refine s_bipush (pc := 43) rfl (by decide) ?_
    refine s_iload_n (pc := 45) rfl rfl ?_
    refine s_imul (pc := 46) rfl ?_
    refine s_iload_n (pc := 47) rfl rfl ?_
    refine s_iadd (pc := 48) rfl ?_
    obtain ⟨hb26, hw⟩ := hw
    refine s_lald (pc := 49) rfl ka_286 (by decide) hb26 ?_
    obtain ⟨hb27, hw⟩ := hw
    refine s_last (pc := 50) rfl ka_348 (by decide) hb27 ?_
    refine s_iinc (pc := 51) (L' := [some (.ref 262), some (.int (iz x1)), some (.int (iz x2)), some (.int (iz (x3 + 1)))]) rfl rfl (Nat.le_of_ble_eq_true rfl) rfl ?_
    refine s_goto (pc := 54) (tgt := 24) rfl rfl ?_
    exact hw

set_option maxRecDepth 20000 in
set_option maxHeartbeats 4000000 in
theorem b_Mdl_out_0 {X : aX} {d : Nat} (x1 : Int)  (m : Mi) (J : Mj) (P : Mp) (hp : PP P) (post : Int → Mi → Mj → Mp → Prop)
    (hw : Zr (x1) ∧ (((x1 < 0) → post ((-1)) m J P) ∧ (¬ (x1 < 0) → Zr (m 262 136) ∧ Zr (x1) ∧ Zr (if 1000 < (m 262 136) then 1000 else (m 262 136)) ∧ (((x1 < (if 1000 < (m 262 136) then 1000 else (m 262 136))) → ((0 : Int) ≤ x1 ∧ (x1 : Int) < 1000) ∧ post (m 347 x1.toNat) m J P) ∧ (¬ (x1 < (if 1000 < (m 262 136) then 1000 else (m 262 136))) → post ((-1)) m J P))))) : Rn X (d + 1) 216 0 [some (.ref 262), some (.int (iz x1))] [] (SS m J P) (QI post) := by
  refine s_iload_n (pc := 0) rfl rfl ?_
  obtain ⟨hz1, hw⟩ := hw
  refine s_if_lt (pc := 1) (tgt := 18) rfl rfl hz1 (fun hc => ?_) (fun hc => ?_)
  · replace hw := hw.1 hc
    refine s_iconst (pc := 18) rfl ?_
    refine s_goto (pc := 19) (tgt := 28) rfl rfl ?_
    exact s_reti (pc := 28) rfl rfl hw
  · replace hw := hw.2 hc
    refine s_iload_n (pc := 4) rfl rfl ?_
    refine s_aload_n (pc := 5) rfl rfl ?_
    refine s_getI (pc := 6) rfl ko_262 ?_
    refine s_sipush (pc := 9) rfl (by decide) ?_
    obtain ⟨hz2, hw⟩ := hw
    refine s_min (pc := 12) (d := d) rfl hz2 (by decide) (Nat.le_of_ble_eq_true rfl) ?_
    obtain ⟨hz3, hw⟩ := hw
    obtain ⟨hz4, hw⟩ := hw
    refine s_ic_lt (pc := 15) (tgt := 22) rfl rfl hz3 hz4 (fun hc => ?_) (fun hc => ?_)
    · replace hw := hw.1 hc
      refine s_aload_n (pc := 22) rfl rfl ?_
      refine s_getA (pc := 23) rfl ko_262 (po_262_135 hp) ?_
      refine s_iload_n (pc := 26) rfl rfl ?_
      obtain ⟨hb5, hw⟩ := hw
      refine s_bald (pc := 27) rfl ka_347 (by decide) (by decide) hb5 ?_
      exact s_reti (pc := 28) rfl rfl hw
    · replace hw := hw.2 hc
      refine s_iconst (pc := 18) rfl ?_
      refine s_goto (pc := 19) (tgt := 28) rfl rfl ?_
      exact s_reti (pc := 28) rfl rfl hw
