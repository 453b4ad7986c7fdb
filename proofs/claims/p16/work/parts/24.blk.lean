/-! the methods, from place to place, by program (wip/whole/gen/blk.py) -/
set_option maxRecDepth 20000 in
set_option maxHeartbeats 4000000 in
theorem b_Mdl_looksAtPairs_0 {X : aX} {d : Nat}   (m : Mi) (J : Mj) (P : Mp) (hp : PP P) (post : Mi → Mj → Mp → Prop)
    (hw : Rn X (d + 7) 161 22 [some (.ref 262), some (.int (iz 0)), none, none] [] (SS (mu (mu (mu (mu m 262 44 0) 262 45 0) 262 46 0) 262 47 0) J P) (QV post)) : Rn X (d + 7) 161 0 [some (.ref 262), none, none, none] [] (SS m J P) (QV post) := by
  refine s_aload_n (pc := 0) rfl rfl ?_
  refine s_iconst (pc := 1) rfl ?_
  refine s_putI (pc := 2) rfl ko_262 ?_
  refine s_aload_n (pc := 5) rfl rfl ?_
  refine s_iconst (pc := 6) rfl ?_
  refine s_putI (pc := 7) rfl ko_262 ?_
  refine s_aload_n (pc := 10) rfl rfl ?_
  refine s_iconst (pc := 11) rfl ?_
  refine s_putI (pc := 12) rfl ko_262 ?_
  refine s_aload_n (pc := 15) rfl rfl ?_
  refine s_iconst (pc := 16) rfl ?_
  refine s_putI (pc := 17) rfl ko_262 ?_
  refine s_iconst (pc := 20) rfl ?_
  refine s_istore_n (pc := 21) (L' := [some (.ref 262), some (.int (iz 0)), none, none]) rfl (Nat.le_of_ble_eq_true rfl) rfl ?_
  exact hw

set_option maxRecDepth 20000 in
set_option maxHeartbeats 4000000 in
theorem b_Mdl_looksAtPairs_22 {X : aX} {d : Nat} (x1 : Int)  (m : Mi) (J : Mj) (P : Mp) (hp : PP P) (post : Mi → Mj → Mp → Prop)
    (hw : Zr (x1) ∧ Zr (m 262 35) ∧ ((((m 262 35) ≤ x1) → post m J P) ∧ (¬ ((m 262 35) ≤ x1) → Rn X (d + 7) 161 32 [some (.ref 262), some (.int (iz x1)), some (.int (iz 0)), none] [] (SS m J P) (QV post)))) : Rn X (d + 7) 161 22 [some (.ref 262), some (.int (iz x1)), none, none] [] (SS m J P) (QV post) := by
  refine s_iload_n (pc := 22) rfl rfl ?_
  refine s_aload_n (pc := 23) rfl rfl ?_
  refine s_getI (pc := 24) rfl ko_262 ?_
  obtain ⟨hz1, hw⟩ := hw
  obtain ⟨hz2, hw⟩ := hw
  refine s_ic_ge (pc := 27) (tgt := 77) rfl rfl hz1 hz2 (fun hc => ?_) (fun hc => ?_)
  · replace hw := hw.1 hc
    exact s_retv (pc := 77) rfl rfl hw
  · replace hw := hw.2 hc
    refine s_iconst (pc := 30) rfl ?_
    refine s_istore_n (pc := 31) (L' := [some (.ref 262), some (.int (iz x1)), some (.int (iz 0)), none]) rfl (Nat.le_of_ble_eq_true rfl) rfl ?_
    exact hw

set_option maxRecDepth 20000 in
set_option maxHeartbeats 4000000 in
theorem b_Mdl_looksAtPairs_32 {X : aX} {d : Nat} (x1 : Int) (x2 : Int)  (m : Mi) (J : Mj) (P : Mp) (hp : PP P) (post : Mi → Mj → Mp → Prop)
    (hw : ((0 : Int) ≤ x1 ∧ (x1 : Int) < 16) ∧ Zr (x2) ∧ Zr (m 283 x1.toNat) ∧ ((((m 283 x1.toNat) ≤ x2) → Rn X (d + 7) 161 22 [some (.ref 262), some (.int (iz (x1 + 1))), none, none] [] (SS m J P) (QV post)) ∧ (¬ ((m 283 x1.toNat) ≤ x2) → Rn X (d + 7) 161 44 [some (.ref 262), some (.int (iz x1)), some (.int (iz x2)), some (.int (iz 0))] [] (SS m J P) (QV post)))) : Rn X (d + 7) 161 32 [some (.ref 262), some (.int (iz x1)), some (.int (iz x2)), none] [] (SS m J P) (QV post) := by
  refine s_iload_n (pc := 32) rfl rfl ?_
  refine s_aload_n (pc := 33) rfl rfl ?_
  refine s_getA (pc := 34) rfl ko_262 (po_262_40 hp) ?_
  refine s_iload_n (pc := 37) rfl rfl ?_
  obtain ⟨hb1, hw⟩ := hw
  refine s_iald (pc := 38) rfl ka_283 (by decide) hb1 ?_
  obtain ⟨hz2, hw⟩ := hw
  obtain ⟨hz3, hw⟩ := hw
  refine s_ic_ge (pc := 39) (tgt := 71) rfl rfl hz2 hz3 (fun hc => ?_) (fun hc => ?_)
  · replace hw := hw.1 hc
    refine s_iinc (pc := 71) (L' := [some (.ref 262), some (.int (iz (x1 + 1))), some (.int (iz x2)), none]) rfl rfl (Nat.le_of_ble_eq_true rfl) rfl ?_
    refine s_goto (pc := 74) (tgt := 22) rfl rfl ?_
    exact Rn.weakL hw (LLe.keep _ (LLe.keep _ (LLe.drop _ (LLe.keep _ (LLe.nil)))))
  · replace hw := hw.2 hc
    refine s_iconst (pc := 42) rfl ?_
    refine s_istore_n (pc := 43) (L' := [some (.ref 262), some (.int (iz x1)), some (.int (iz x2)), some (.int (iz 0))]) rfl (Nat.le_of_ble_eq_true rfl) rfl ?_
    exact hw

set_option maxRecDepth 20000 in
set_option maxHeartbeats 4000000 in
theorem b_Mdl_looksAtPairs_44 {X : aX} {d : Nat} (x1 : Int) (x2 : Int) (x3 : Int)  (m : Mi) (J : Mj) (P : Mp) (hp : PP P) (post : Mi → Mj → Mp → Prop)
    (hw : Zr (x3) ∧ Zr (m 262 35) ∧ ((((m 262 35) ≤ x3) → Rn X (d + 7) 161 32 [some (.ref 262), some (.int (iz x1)), some (.int (iz (x2 + 1))), none] [] (SS m J P) (QV post)) ∧ (¬ ((m 262 35) ≤ x3) → Cv X (d + 6) 162 [.ref 262, .int (iz x1), .int (iz x2), .int (iz x3)] m J P (fun m3 J4 P5 => PP P5 ∧ Rn X (d + 7) 161 44 [some (.ref 262), some (.int (iz x1)), some (.int (iz x2)), some (.int (iz (x3 + 1)))] [] (SS m3 J4 P5) (QV post))))) : Rn X (d + 7) 161 44 [some (.ref 262), some (.int (iz x1)), some (.int (iz x2)), some (.int (iz x3))] [] (SS m J P) (QV post) := by
  refine s_iload_n (pc := 44) rfl rfl ?_
  refine s_aload_n (pc := 45) rfl rfl ?_
  refine s_getI (pc := 46) rfl ko_262 ?_
  obtain ⟨hz1, hw⟩ := hw
  obtain ⟨hz2, hw⟩ := hw
  refine s_ic_ge (pc := 49) (tgt := 65) rfl rfl hz1 hz2 (fun hc => ?_) (fun hc => ?_)
  · replace hw := hw.1 hc
    refine s_iinc (pc := 65) (L' := [some (.ref 262), some (.int (iz x1)), some (.int (iz (x2 + 1))), some (.int (iz x3))]) rfl rfl (Nat.le_of_ble_eq_true rfl) rfl ?_
    refine s_goto (pc := 68) (tgt := 32) rfl rfl ?_
    exact Rn.weakL hw (LLe.keep _ (LLe.keep _ (LLe.keep _ (LLe.drop _ (LLe.nil)))))
  · replace hw := hw.2 hc
    refine s_aload_n (pc := 52) rfl rfl ?_
    refine s_iload_n (pc := 53) rfl rfl ?_
    refine s_iload_n (pc := 54) rfl rfl ?_
    refine s_iload_n (pc := 55) rfl rfl ?_
    refine s_cv (pc := 56) (d := (d + 6)) (t := []) rfl rfl (am_ca_v (ps := [.int (iz x3), .int (iz x2), .int (iz x1)]) rfl ko_262) (Nat.le_of_ble_eq_true rfl) (Cv.weak hw fun m3 J4 P5 hw => ?_)
    obtain ⟨hp7, hw⟩ := hw
    refine s_iinc (pc := 59) (L' := [some (.ref 262), some (.int (iz x1)), some (.int (iz x2)), some (.int (iz (x3 + 1)))]) rfl rfl (Nat.le_of_ble_eq_true rfl) rfl ?_
    refine s_goto (pc := 62) (tgt := 44) rfl rfl ?_
    exact hw

set_option maxRecDepth 20000 in
set_option maxHeartbeats 4000000 in
theorem b_Mdl_looksAtPair_0 {X : aX} {d : Nat} (x1 : Int) (x2 : Int) (x3 : Int)  (m : Mi) (J : Mj) (P : Mp) (hp : PP P) (post : Mi → Mj → Mp → Prop)
    (hw : ((0 : Int) ≤ ((40 * x1) + x2) ∧ (((40 * x1) + x2) : Int) < 640) ∧ Zr (m 281 ((40 * x1) + x2).toNat) ∧ ((((m 281 ((40 * x1) + x2).toNat) < 0) → post m J P) ∧ (¬ ((m 281 ((40 * x1) + x2).toNat) < 0) → ((0 : Int) ≤ (40 * x3) ∧ ((40 * x3) : Int) < 640) ∧ Zr (m 281 ((40 * x1) + x2).toNat) ∧ Zr (m 281 (40 * x3).toNat) ∧ (((¬ (m 281 ((40 * x1) + x2).toNat) = (m 281 (40 * x3).toNat)) → post m J P) ∧ (¬ (¬ (m 281 ((40 * x1) + x2).toNat) = (m 281 (40 * x3).toNat)) → Zr (x1) ∧ Zr (x3) ∧ (((¬ x1 = x3) → Ci X (d + 5) 163 [.ref 262, .int (iz x1), .int (iz x2), .int (iz x3)] m J P (fun z11 m8 J9 P10 => PP P10 ∧ Zr (z11) ∧ (((¬ z11 = 0) → Zr ((mu m8 262 44 ((m8 262 44) + 1)) 262 45) ∧ (((¬ ((mu m8 262 44 ((m8 262 44) + 1)) 262 45) = 200) → ((0 : Int) ≤ ((mu m8 262 44 ((m8 262 44) + 1)) 262 45) ∧ (((mu m8 262 44 ((m8 262 44) + 1)) 262 45) : Int) < 200) ∧ ((0 : Int) ≤ ((mu m8 262 44 ((m8 262 44) + 1)) 262 45) ∧ (((mu m8 262 44 ((m8 262 44) + 1)) 262 45) : Int) < 200) ∧ ((0 : Int) ≤ ((mu m8 262 44 ((m8 262 44) + 1)) 262 45) ∧ (((mu m8 262 44 ((m8 262 44) + 1)) 262 45) : Int) < 200) ∧ Ci X (d + 5) 173 [.ref 262, .ref 319, .int (iz ((mu (mu (mu (mu (mu m8 262 44 ((m8 262 44) + 1)) 262 45 (((mu m8 262 44 ((m8 262 44) + 1)) 262 45) + 1)) 287 ((mu m8 262 44 ((m8 262 44) + 1)) 262 45).toNat x1) 288 ((mu m8 262 44 ((m8 262 44) + 1)) 262 45).toNat x2) 289 ((mu m8 262 44 ((m8 262 44) + 1)) 262 45).toNat x3) 262 90)), .ref 320, .int (iz ((mu (mu (mu (mu (mu m8 262 44 ((m8 262 44) + 1)) 262 45 (((mu m8 262 44 ((m8 262 44) + 1)) 262 45) + 1)) 287 ((mu m8 262 44 ((m8 262 44) + 1)) 262 45).toNat x1) 288 ((mu m8 262 44 ((m8 262 44) + 1)) 262 45).toNat x2) 289 ((mu m8 262 44 ((m8 262 44) + 1)) 262 45).toNat x3) 262 91))] (mu (mu (mu (mu (mu m8 262 44 ((m8 262 44) + 1)) 262 45 (((mu m8 262 44 ((m8 262 44) + 1)) 262 45) + 1)) 287 ((mu m8 262 44 ((m8 262 44) + 1)) 262 45).toNat x1) 288 ((mu m8 262 44 ((m8 262 44) + 1)) 262 45).toNat x2) 289 ((mu m8 262 44 ((m8 262 44) + 1)) 262 45).toNat x3) J9 P10 (fun z21 m18 J19 P20 => PP P20 ∧ ((0 : Int) ≤ ((mu m8 262 44 ((m8 262 44) + 1)) 262 45) ∧ (((mu m8 262 44 ((m8 262 44) + 1)) 262 45) : Int) < 200) ∧ ((0 : Int) ≤ ((mu m8 262 44 ((m8 262 44) + 1)) 262 45) ∧ (((mu m8 262 44 ((m8 262 44) + 1)) 262 45) : Int) < 200) ∧ Zr ((mu m18 290 ((mu m8 262 44 ((m8 262 44) + 1)) 262 45).toNat z21) 290 ((mu m8 262 44 ((m8 262 44) + 1)) 262 45).toNat) ∧ (((¬ ((mu m18 290 ((mu m8 262 44 ((m8 262 44) + 1)) 262 45).toNat z21) 290 ((mu m8 262 44 ((m8 262 44) + 1)) 262 45).toNat) = 1) → ((0 : Int) ≤ ((mu m8 262 44 ((m8 262 44) + 1)) 262 45) ∧ (((mu m8 262 44 ((m8 262 44) + 1)) 262 45) : Int) < 200) ∧ Zr ((mu (mu m18 290 ((mu m8 262 44 ((m8 262 44) + 1)) 262 45).toNat z21) 262 46 (((mu m18 290 ((mu m8 262 44 ((m8 262 44) + 1)) 262 45).toNat z21) 262 46) + 0)) 290 ((mu m8 262 44 ((m8 262 44) + 1)) 262 45).toNat) ∧ (((¬ ((mu (mu m18 290 ((mu m8 262 44 ((m8 262 44) + 1)) 262 45).toNat z21) 262 46 (((mu m18 290 ((mu m8 262 44 ((m8 262 44) + 1)) 262 45).toNat z21) 262 46) + 0)) 290 ((mu m8 262 44 ((m8 262 44) + 1)) 262 45).toNat) = 2) → post (mu (mu (mu m18 290 ((mu m8 262 44 ((m8 262 44) + 1)) 262 45).toNat z21) 262 46 (((mu m18 290 ((mu m8 262 44 ((m8 262 44) + 1)) 262 45).toNat z21) 262 46) + 0)) 262 47 (((mu (mu m18 290 ((mu m8 262 44 ((m8 262 44) + 1)) 262 45).toNat z21) 262 46 (((mu m18 290 ((mu m8 262 44 ((m8 262 44) + 1)) 262 45).toNat z21) 262 46) + 0)) 262 47) + 0)) J19 P20) ∧ (¬ (¬ ((mu (mu m18 290 ((mu m8 262 44 ((m8 262 44) + 1)) 262 45).toNat z21) 262 46 (((mu m18 290 ((mu m8 262 44 ((m8 262 44) + 1)) 262 45).toNat z21) 262 46) + 0)) 290 ((mu m8 262 44 ((m8 262 44) + 1)) 262 45).toNat) = 2) → post (mu (mu (mu m18 290 ((mu m8 262 44 ((m8 262 44) + 1)) 262 45).toNat z21) 262 46 (((mu m18 290 ((mu m8 262 44 ((m8 262 44) + 1)) 262 45).toNat z21) 262 46) + 0)) 262 47 (((mu (mu m18 290 ((mu m8 262 44 ((m8 262 44) + 1)) 262 45).toNat z21) 262 46 (((mu m18 290 ((mu m8 262 44 ((m8 262 44) + 1)) 262 45).toNat z21) 262 46) + 0)) 262 47) + 1)) J19 P20))) ∧ (¬ (¬ ((mu m18 290 ((mu m8 262 44 ((m8 262 44) + 1)) 262 45).toNat z21) 290 ((mu m8 262 44 ((m8 262 44) + 1)) 262 45).toNat) = 1) → ((0 : Int) ≤ ((mu m8 262 44 ((m8 262 44) + 1)) 262 45) ∧ (((mu m8 262 44 ((m8 262 44) + 1)) 262 45) : Int) < 200) ∧ Zr ((mu (mu m18 290 ((mu m8 262 44 ((m8 262 44) + 1)) 262 45).toNat z21) 262 46 (((mu m18 290 ((mu m8 262 44 ((m8 262 44) + 1)) 262 45).toNat z21) 262 46) + 1)) 290 ((mu m8 262 44 ((m8 262 44) + 1)) 262 45).toNat) ∧ (((¬ ((mu (mu m18 290 ((mu m8 262 44 ((m8 262 44) + 1)) 262 45).toNat z21) 262 46 (((mu m18 290 ((mu m8 262 44 ((m8 262 44) + 1)) 262 45).toNat z21) 262 46) + 1)) 290 ((mu m8 262 44 ((m8 262 44) + 1)) 262 45).toNat) = 2) → post (mu (mu (mu m18 290 ((mu m8 262 44 ((m8 262 44) + 1)) 262 45).toNat z21) 262 46 (((mu m18 290 ((mu m8 262 44 ((m8 262 44) + 1)) 262 45).toNat z21) 262 46) + 1)) 262 47 (((mu (mu m18 290 ((mu m8 262 44 ((m8 262 44) + 1)) 262 45).toNat z21) 262 46 (((mu m18 290 ((mu m8 262 44 ((m8 262 44) + 1)) 262 45).toNat z21) 262 46) + 1)) 262 47) + 0)) J19 P20) ∧ (¬ (¬ ((mu (mu m18 290 ((mu m8 262 44 ((m8 262 44) + 1)) 262 45).toNat z21) 262 46 (((mu m18 290 ((mu m8 262 44 ((m8 262 44) + 1)) 262 45).toNat z21) 262 46) + 1)) 290 ((mu m8 262 44 ((m8 262 44) + 1)) 262 45).toNat) = 2) → post (mu (mu (mu m18 290 ((mu m8 262 44 ((m8 262 44) + 1)) 262 45).toNat z21) 262 46 (((mu m18 290 ((mu m8 262 44 ((m8 262 44) + 1)) 262 45).toNat z21) 262 46) + 1)) 262 47 (((mu (mu m18 290 ((mu m8 262 44 ((m8 262 44) + 1)) 262 45).toNat z21) 262 46 (((mu m18 290 ((mu m8 262 44 ((m8 262 44) + 1)) 262 45).toNat z21) 262 46) + 1)) 262 47) + 1)) J19 P20)))))) ∧ (¬ (¬ ((mu m8 262 44 ((m8 262 44) + 1)) 262 45) = 200) → post (mu m8 262 44 ((m8 262 44) + 1)) J9 P10))) ∧ (¬ (¬ z11 = 0) → post m8 J9 P10)))) ∧ (¬ (¬ x1 = x3) → Zr (x2) ∧ (((¬ x2 = 0) → Ci X (d + 5) 163 [.ref 262, .int (iz x1), .int (iz x2), .int (iz x3)] m J P (fun z34 m31 J32 P33 => PP P33 ∧ Zr (z34) ∧ (((¬ z34 = 0) → Zr ((mu m31 262 44 ((m31 262 44) + 1)) 262 45) ∧ (((¬ ((mu m31 262 44 ((m31 262 44) + 1)) 262 45) = 200) → ((0 : Int) ≤ ((mu m31 262 44 ((m31 262 44) + 1)) 262 45) ∧ (((mu m31 262 44 ((m31 262 44) + 1)) 262 45) : Int) < 200) ∧ ((0 : Int) ≤ ((mu m31 262 44 ((m31 262 44) + 1)) 262 45) ∧ (((mu m31 262 44 ((m31 262 44) + 1)) 262 45) : Int) < 200) ∧ ((0 : Int) ≤ ((mu m31 262 44 ((m31 262 44) + 1)) 262 45) ∧ (((mu m31 262 44 ((m31 262 44) + 1)) 262 45) : Int) < 200) ∧ Ci X (d + 5) 173 [.ref 262, .ref 319, .int (iz ((mu (mu (mu (mu (mu m31 262 44 ((m31 262 44) + 1)) 262 45 (((mu m31 262 44 ((m31 262 44) + 1)) 262 45) + 1)) 287 ((mu m31 262 44 ((m31 262 44) + 1)) 262 45).toNat x1) 288 ((mu m31 262 44 ((m31 262 44) + 1)) 262 45).toNat x2) 289 ((mu m31 262 44 ((m31 262 44) + 1)) 262 45).toNat x3) 262 90)), .ref 320, .int (iz ((mu (mu (mu (mu (mu m31 262 44 ((m31 262 44) + 1)) 262 45 (((mu m31 262 44 ((m31 262 44) + 1)) 262 45) + 1)) 287 ((mu m31 262 44 ((m31 262 44) + 1)) 262 45).toNat x1) 288 ((mu m31 262 44 ((m31 262 44) + 1)) 262 45).toNat x2) 289 ((mu m31 262 44 ((m31 262 44) + 1)) 262 45).toNat x3) 262 91))] (mu (mu (mu (mu (mu m31 262 44 ((m31 262 44) + 1)) 262 45 (((mu m31 262 44 ((m31 262 44) + 1)) 262 45) + 1)) 287 ((mu m31 262 44 ((m31 262 44) + 1)) 262 45).toNat x1) 288 ((mu m31 262 44 ((m31 262 44) + 1)) 262 45).toNat x2) 289 ((mu m31 262 44 ((m31 262 44) + 1)) 262 45).toNat x3) J32 P33 (fun z44 m41 J42 P43 => PP P43 ∧ ((0 : Int) ≤ ((mu m31 262 44 ((m31 262 44) + 1)) 262 45) ∧ (((mu m31 262 44 ((m31 262 44) + 1)) 262 45) : Int) < 200) ∧ ((0 : Int) ≤ ((mu m31 262 44 ((m31 262 44) + 1)) 262 45) ∧ (((mu m31 262 44 ((m31 262 44) + 1)) 262 45) : Int) < 200) ∧ Zr ((mu m41 290 ((mu m31 262 44 ((m31 262 44) + 1)) 262 45).toNat z44) 290 ((mu m31 262 44 ((m31 262 44) + 1)) 262 45).toNat) ∧ (((¬ ((mu m41 290 ((mu m31 262 44 ((m31 262 44) + 1)) 262 45).toNat z44) 290 ((mu m31 262 44 ((m31 262 44) + 1)) 262 45).toNat) = 1) → ((0 : Int) ≤ ((mu m31 262 44 ((m31 262 44) + 1)) 262 45) ∧ (((mu m31 262 44 ((m31 262 44) + 1)) 262 45) : Int) < 200) ∧ Zr ((mu (mu m41 290 ((mu m31 262 44 ((m31 262 44) + 1)) 262 45).toNat z44) 262 46 (((mu m41 290 ((mu m31 262 44 ((m31 262 44) + 1)) 262 45).toNat z44) 262 46) + 0)) 290 ((mu m31 262 44 ((m31 262 44) + 1)) 262 45).toNat) ∧ (((¬ ((mu (mu m41 290 ((mu m31 262 44 ((m31 262 44) + 1)) 262 45).toNat z44) 262 46 (((mu m41 290 ((mu m31 262 44 ((m31 262 44) + 1)) 262 45).toNat z44) 262 46) + 0)) 290 ((mu m31 262 44 ((m31 262 44) + 1)) 262 45).toNat) = 2) → post (mu (mu (mu m41 290 ((mu m31 262 44 ((m31 262 44) + 1)) 262 45).toNat z44) 262 46 (((mu m41 290 ((mu m31 262 44 ((m31 262 44) + 1)) 262 45).toNat z44) 262 46) + 0)) 262 47 (((mu (mu m41 290 ((mu m31 262 44 ((m31 262 44) + 1)) 262 45).toNat z44) 262 46 (((mu m41 290 ((mu m31 262 44 ((m31 262 44) + 1)) 262 45).toNat z44) 262 46) + 0)) 262 47) + 0)) J42 P43) ∧ (¬ (¬ ((mu (mu m41 290 ((mu m31 262 44 ((m31 262 44) + 1)) 262 45).toNat z44) 262 46 (((mu m41 290 ((mu m31 262 44 ((m31 262 44) + 1)) 262 45).toNat z44) 262 46) + 0)) 290 ((mu m31 262 44 ((m31 262 44) + 1)) 262 45).toNat) = 2) → post (mu (mu (mu m41 290 ((mu m31 262 44 ((m31 262 44) + 1)) 262 45).toNat z44) 262 46 (((mu m41 290 ((mu m31 262 44 ((m31 262 44) + 1)) 262 45).toNat z44) 262 46) + 0)) 262 47 (((mu (mu m41 290 ((mu m31 262 44 ((m31 262 44) + 1)) 262 45).toNat z44) 262 46 (((mu m41 290 ((mu m31 262 44 ((m31 262 44) + 1)) 262 45).toNat z44) 262 46) + 0)) 262 47) + 1)) J42 P43))) ∧ (¬ (¬ ((mu m41 290 ((mu m31 262 44 ((m31 262 44) + 1)) 262 45).toNat z44) 290 ((mu m31 262 44 ((m31 262 44) + 1)) 262 45).toNat) = 1) → ((0 : Int) ≤ ((mu m31 262 44 ((m31 262 44) + 1)) 262 45) ∧ (((mu m31 262 44 ((m31 262 44) + 1)) 262 45) : Int) < 200) ∧ Zr ((mu (mu m41 290 ((mu m31 262 44 ((m31 262 44) + 1)) 262 45).toNat z44) 262 46 (((mu m41 290 ((mu m31 262 44 ((m31 262 44) + 1)) 262 45).toNat z44) 262 46) + 1)) 290 ((mu m31 262 44 ((m31 262 44) + 1)) 262 45).toNat) ∧ (((¬ ((mu (mu m41 290 ((mu m31 262 44 ((m31 262 44) + 1)) 262 45).toNat z44) 262 46 (((mu m41 290 ((mu m31 262 44 ((m31 262 44) + 1)) 262 45).toNat z44) 262 46) + 1)) 290 ((mu m31 262 44 ((m31 262 44) + 1)) 262 45).toNat) = 2) → post (mu (mu (mu m41 290 ((mu m31 262 44 ((m31 262 44) + 1)) 262 45).toNat z44) 262 46 (((mu m41 290 ((mu m31 262 44 ((m31 262 44) + 1)) 262 45).toNat z44) 262 46) + 1)) 262 47 (((mu (mu m41 290 ((mu m31 262 44 ((m31 262 44) + 1)) 262 45).toNat z44) 262 46 (((mu m41 290 ((mu m31 262 44 ((m31 262 44) + 1)) 262 45).toNat z44) 262 46) + 1)) 262 47) + 0)) J42 P43) ∧ (¬ (¬ ((mu (mu m41 290 ((mu m31 262 44 ((m31 262 44) + 1)) 262 45).toNat z44) 262 46 (((mu m41 290 ((mu m31 262 44 ((m31 262 44) + 1)) 262 45).toNat z44) 262 46) + 1)) 290 ((mu m31 262 44 ((m31 262 44) + 1)) 262 45).toNat) = 2) → post (mu (mu (mu m41 290 ((mu m31 262 44 ((m31 262 44) + 1)) 262 45).toNat z44) 262 46 (((mu m41 290 ((mu m31 262 44 ((m31 262 44) + 1)) 262 45).toNat z44) 262 46) + 1)) 262 47 (((mu (mu m41 290 ((mu m31 262 44 ((m31 262 44) + 1)) 262 45).toNat z44) 262 46 (((mu m41 290 ((mu m31 262 44 ((m31 262 44) + 1)) 262 45).toNat z44) 262 46) + 1)) 262 47) + 1)) J42 P43)))))) ∧ (¬ (¬ ((mu m31 262 44 ((m31 262 44) + 1)) 262 45) = 200) → post (mu m31 262 44 ((m31 262 44) + 1)) J32 P33))) ∧ (¬ (¬ z34 = 0) → post m31 J32 P33)))) ∧ (¬ (¬ x2 = 0) → post m J P))))))))) : Rn X (d + 6) 162 0 [some (.ref 262), some (.int (iz x1)), some (.int (iz x2)), some (.int (iz x3)), none, none] [] (SS m J P) (QV post) := by
  refine s_aload_n (pc := 0) rfl rfl ?_
  refine s_getA (pc := 1) rfl ko_262 (po_262_38 hp) ?_
  refine s_bipush (pc := 4) rfl (by decide) ?_
  refine s_iload_n (pc := 6) rfl rfl ?_
  refine s_imul (pc := 7) rfl ?_
  refine s_iload_n (pc := 8) rfl rfl ?_
  refine s_iadd (pc := 9) rfl ?_
  obtain ⟨hb1, hw⟩ := hw
  refine s_iald (pc := 10) rfl ka_281 (by decide) hb1 ?_
  refine s_istore (pc := 11) (L' := [some (.ref 262), some (.int (iz x1)), some (.int (iz x2)), some (.int (iz x3)), some (.int (iz (m 281 ((40 * x1) + x2).toNat))), none]) rfl (Nat.le_of_ble_eq_true rfl) rfl ?_
  refine s_iload (pc := 13) rfl rfl ?_
  obtain ⟨hz2, hw⟩ := hw
  refine s_if_lt (pc := 15) (tgt := 41) rfl rfl hz2 (fun hc => ?_) (fun hc => ?_)
  · replace hw := hw.1 hc
    exact s_retv (pc := 41) rfl rfl hw
  · replace hw := hw.2 hc
    refine s_iload (pc := 18) rfl rfl ?_
    refine s_aload_n (pc := 20) rfl rfl ?_
    refine s_getA (pc := 21) rfl ko_262 (po_262_38 hp) ?_
    refine s_bipush (pc := 24) rfl (by decide) ?_
    refine s_iload_n (pc := 26) rfl rfl ?_
    refine s_imul (pc := 27) rfl ?_
    obtain ⟨hb3, hw⟩ := hw
    refine s_iald (pc := 28) rfl ka_281 (by decide) hb3 ?_
    obtain ⟨hz4, hw⟩ := hw
    obtain ⟨hz5, hw⟩ := hw
    refine s_ic_ne (pc := 29) (tgt := 41) rfl rfl hz4 hz5 (fun hc => ?_) (fun hc => ?_)
    · replace hw := hw.1 hc
      exact s_retv (pc := 41) rfl rfl hw
    · replace hw := hw.2 hc
      refine s_iload_n (pc := 32) rfl rfl ?_
      refine s_iload_n (pc := 33) rfl rfl ?_
      obtain ⟨hz6, hw⟩ := hw
      obtain ⟨hz7, hw⟩ := hw
      refine s_ic_ne (pc := 34) (tgt := 42) rfl rfl hz6 hz7 (fun hc => ?_) (fun hc => ?_)
      · replace hw := hw.1 hc
        refine s_aload_n (pc := 42) rfl rfl ?_
        refine s_iload_n (pc := 43) rfl rfl ?_
        refine s_iload_n (pc := 44) rfl rfl ?_
        refine s_iload_n (pc := 45) rfl rfl ?_
        refine s_ci (pc := 46) (d := (d + 5)) (t := []) rfl rfl (am_ca_v (ps := [.int (iz x3), .int (iz x2), .int (iz x1)]) rfl ko_262) (Nat.le_of_ble_eq_true rfl) (Ci.weak hw fun z11 m8 J9 P10 hw => ?_)
        obtain ⟨hp12, hw⟩ := hw
        obtain ⟨hz13, hw⟩ := hw
        refine s_if_ne (pc := 49) (tgt := 53) rfl rfl hz13 (fun hc => ?_) (fun hc => ?_)
        · replace hw := hw.1 hc
          refine s_aload_n (pc := 53) rfl rfl ?_
          refine s_dup (pc := 54) rfl rfl ?_
          refine s_getI (pc := 55) rfl ko_262 ?_
          refine s_iconst (pc := 58) rfl ?_
          refine s_iadd (pc := 59) rfl ?_
          refine s_putI (pc := 60) rfl ko_262 ?_
          refine s_aload_n (pc := 63) rfl rfl ?_
          refine s_getI (pc := 64) rfl ko_262 ?_
          refine s_sipush (pc := 67) rfl (by decide) ?_
          obtain ⟨hz14, hw⟩ := hw
          refine s_ic_ne (pc := 70) (tgt := 74) rfl rfl hz14 (by decide) (fun hc => ?_) (fun hc => ?_)
          · replace hw := hw.1 hc
            refine s_aload_n (pc := 74) rfl rfl ?_
            refine s_getI (pc := 75) rfl ko_262 ?_
            refine s_istore (pc := 78) (L' := [some (.ref 262), some (.int (iz x1)), some (.int (iz x2)), some (.int (iz x3)), some (.int (iz (m 281 ((40 * x1) + x2).toNat))), some (.int (iz ((mu m8 262 44 ((m8 262 44) + 1)) 262 45)))]) rfl (Nat.le_of_ble_eq_true rfl) rfl ?_
            refine s_aload_n (pc := 80) rfl rfl ?_
            refine s_dup (pc := 81) rfl rfl ?_
            refine s_getI (pc := 82) rfl ko_262 ?_
            refine s_iconst (pc := 85) rfl ?_
            refine s_iadd (pc := 86) rfl ?_
            refine s_putI (pc := 87) rfl ko_262 ?_
            refine s_aload_n (pc := 90) rfl rfl ?_
            refine s_getA (pc := 91) rfl ko_262 (po_262_48 hp12) ?_
            refine s_iload (pc := 94) rfl rfl ?_
            refine s_iload_n (pc := 96) rfl rfl ?_
            obtain ⟨hb15, hw⟩ := hw
            refine s_iast (pc := 97) rfl ka_287 (by decide) hb15 ?_
            refine s_aload_n (pc := 98) rfl rfl ?_
            refine s_getA (pc := 99) rfl ko_262 (po_262_49 hp12) ?_
            refine s_iload (pc := 102) rfl rfl ?_
            refine s_iload_n (pc := 104) rfl rfl ?_
            obtain ⟨hb16, hw⟩ := hw
            refine s_iast (pc := 105) rfl ka_288 (by decide) hb16 ?_
            refine s_aload_n (pc := 106) rfl rfl ?_
            refine s_getA (pc := 107) rfl ko_262 (po_262_50 hp12) ?_
            refine s_iload (pc := 110) rfl rfl ?_
            refine s_iload_n (pc := 112) rfl rfl ?_
            obtain ⟨hb17, hw⟩ := hw
            refine s_iast (pc := 113) rfl ka_289 (by decide) hb17 ?_
            refine s_aload_n (pc := 114) rfl rfl ?_
            refine s_getA (pc := 115) rfl ko_262 (po_262_51 hp12) ?_
            refine s_iload (pc := 118) rfl rfl ?_
            refine s_aload_n (pc := 120) rfl rfl ?_
            refine s_aload_n (pc := 121) rfl rfl ?_
            refine s_getA (pc := 122) rfl ko_262 (po_262_88 hp12) ?_
            refine s_aload_n (pc := 125) rfl rfl ?_
            refine s_getI (pc := 126) rfl ko_262 ?_
            refine s_aload_n (pc := 129) rfl rfl ?_
            refine s_getA (pc := 130) rfl ko_262 (po_262_89 hp12) ?_
            refine s_aload_n (pc := 133) rfl rfl ?_
            refine s_getI (pc := 134) rfl ko_262 ?_
            refine s_ci (pc := 137) (d := (d + 5)) (t := [.int (iz ((mu m8 262 44 ((m8 262 44) + 1)) 262 45)), .ref 290]) rfl rfl (am_ca_v (ps := [.int (iz ((mu (mu (mu (mu (mu m8 262 44 ((m8 262 44) + 1)) 262 45 (((mu m8 262 44 ((m8 262 44) + 1)) 262 45) + 1)) 287 ((mu m8 262 44 ((m8 262 44) + 1)) 262 45).toNat x1) 288 ((mu m8 262 44 ((m8 262 44) + 1)) 262 45).toNat x2) 289 ((mu m8 262 44 ((m8 262 44) + 1)) 262 45).toNat x3) 262 91)), .ref 320, .int (iz ((mu (mu (mu (mu (mu m8 262 44 ((m8 262 44) + 1)) 262 45 (((mu m8 262 44 ((m8 262 44) + 1)) 262 45) + 1)) 287 ((mu m8 262 44 ((m8 262 44) + 1)) 262 45).toNat x1) 288 ((mu m8 262 44 ((m8 262 44) + 1)) 262 45).toNat x2) 289 ((mu m8 262 44 ((m8 262 44) + 1)) 262 45).toNat x3) 262 90)), .ref 319]) rfl ko_262) (Nat.le_of_ble_eq_true rfl) (Ci.weak hw fun z21 m18 J19 P20 hw => ?_)
            obtain ⟨hp22, hw⟩ := hw
            obtain ⟨hb23, hw⟩ := hw
            refine s_iast (pc := 140) rfl ka_290 (by decide) hb23 ?_
            refine s_aload_n (pc := 141) rfl rfl ?_
            refine s_dup (pc := 142) rfl rfl ?_
            refine s_getI (pc := 143) rfl ko_262 ?_
            refine s_aload_n (pc := 146) rfl rfl ?_
            refine s_getA (pc := 147) rfl ko_262 (po_262_51 hp22) ?_
            refine s_iload (pc := 150) rfl rfl ?_
            obtain ⟨hb24, hw⟩ := hw
            refine s_iald (pc := 152) rfl ka_290 (by decide) hb24 ?_
            refine s_iconst (pc := 153) rfl ?_
            obtain ⟨hz25, hw⟩ := hw
            refine s_ic_ne (pc := 154) (tgt := 161) rfl rfl hz25 (by decide) (fun hc => ?_) (fun hc => ?_)
            · replace hw := hw.1 hc
              refine s_iconst (pc := 161) rfl ?_
              refine s_iadd (pc := 162) rfl ?_
              refine s_putI (pc := 163) rfl ko_262 ?_
              refine s_aload_n (pc := 166) rfl rfl ?_
              refine s_dup (pc := 167) rfl rfl ?_
              refine s_getI (pc := 168) rfl ko_262 ?_
              refine s_aload_n (pc := 171) rfl rfl ?_
              refine s_getA (pc := 172) rfl ko_262 (po_262_51 hp22) ?_
              refine s_iload (pc := 175) rfl rfl ?_
              obtain ⟨hb26, hw⟩ := hw
              refine s_iald (pc := 177) rfl ka_290 (by decide) hb26 ?_
              refine s_iconst (pc := 178) rfl ?_
              obtain ⟨hz27, hw⟩ := hw
              refine s_ic_ne (pc := 179) (tgt := 186) rfl rfl hz27 (by decide) (fun hc => ?_) (fun hc => ?_)
              · replace hw := hw.1 hc
                refine s_iconst (pc := 186) rfl ?_
                refine s_iadd (pc := 187) rfl ?_
                refine s_putI (pc := 188) rfl ko_262 ?_
                exact s_retv (pc := 191) rfl rfl hw
              · replace hw := hw.2 hc
                refine s_iconst (pc := 182) rfl ?_
                refine s_goto (pc := 183) (tgt := 187) rfl rfl ?_
                refine s_iadd (pc := 187) rfl ?_
                refine s_putI (pc := 188) rfl ko_262 ?_
                exact s_retv (pc := 191) rfl rfl hw
            · replace hw := hw.2 hc
              refine s_iconst (pc := 157) rfl ?_
              refine s_goto (pc := 158) (tgt := 162) rfl rfl ?_
              refine s_iadd (pc := 162) rfl ?_
              refine s_putI (pc := 163) rfl ko_262 ?_
              refine s_aload_n (pc := 166) rfl rfl ?_
              refine s_dup (pc := 167) rfl rfl ?_
              refine s_getI (pc := 168) rfl ko_262 ?_
              refine s_aload_n (pc := 171) rfl rfl ?_
              refine s_getA (pc := 172) rfl ko_262 (po_262_51 hp22) ?_
              refine s_iload (pc := 175) rfl rfl ?_
              obtain ⟨hb28, hw⟩ := hw
              refine s_iald (pc := 177) rfl ka_290 (by decide) hb28 ?_
              refine s_iconst (pc := 178) rfl ?_
              obtain ⟨hz29, hw⟩ := hw
              refine s_ic_ne (pc := 179) (tgt := 186) rfl rfl hz29 (by decide) (fun hc => ?_) (fun hc => ?_)
              · replace hw := hw.1 hc
                refine s_iconst (pc := 186) rfl ?_
                refine s_iadd (pc := 187) rfl ?_
                refine s_putI (pc := 188) rfl ko_262 ?_
                exact s_retv (pc := 191) rfl rfl hw
              · replace hw := hw.2 hc
                refine s_iconst (pc := 182) rfl ?_
                refine s_goto (pc := 183) (tgt := 187) rfl rfl ?_
                refine s_iadd (pc := 187) rfl ?_
                refine s_putI (pc := 188) rfl ko_262 ?_
                exact s_retv (pc := 191) rfl rfl hw
          · replace hw := hw.2 hc
            exact s_retv (pc := 73) rfl rfl hw
        · replace hw := hw.2 hc
          exact s_retv (pc := 52) rfl rfl hw
      · replace hw := hw.2 hc
        refine s_iload_n (pc := 37) rfl rfl ?_
        obtain ⟨hz30, hw⟩ := hw
        refine s_if_ne (pc := 38) (tgt := 42) rfl rfl hz30 (fun hc => ?_) (fun hc => ?_)
        · replace hw := hw.1 hc
          refine s_aload_n (pc := 42) rfl rfl ?_
          refine s_iload_n (pc := 43) rfl rfl ?_
          refine s_iload_n (pc := 44) rfl rfl ?_
          refine s_iload_n (pc := 45) rfl rfl ?_
          refine s_ci (pc := 46) (d := (d + 5)) (t := []) rfl rfl (am_ca_v (ps := [.int (iz x3), .int (iz x2), .int (iz x1)]) rfl ko_262) (Nat.le_of_ble_eq_true rfl) (Ci.weak hw fun z34 m31 J32 P33 hw => ?_)
          obtain ⟨hp35, hw⟩ := hw
          obtain ⟨hz36, hw⟩ := hw
          refine s_if_ne (pc := 49) (tgt := 53) rfl rfl hz36 (fun hc => ?_) (fun hc => ?_)
          · replace hw := hw.1 hc
            refine s_aload_n (pc := 53) rfl rfl ?_
            refine s_dup (pc := 54) rfl rfl ?_
            refine s_getI (pc := 55) rfl ko_262 ?_
            refine s_iconst (pc := 58) rfl ?_
            refine s_iadd (pc := 59) rfl ?_
            refine s_putI (pc := 60) rfl ko_262 ?_
            refine s_aload_n (pc := 63) rfl rfl ?_
            refine s_getI (pc := 64) rfl ko_262 ?_
            refine s_sipush (pc := 67) rfl (by decide) ?_
            obtain ⟨hz37, hw⟩ := hw
            refine s_ic_ne (pc := 70) (tgt := 74) rfl rfl hz37 (by decide) (fun hc => ?_) (fun hc => ?_)
            · replace hw := hw.1 hc
              refine s_aload_n (pc := 74) rfl rfl ?_
              refine s_getI (pc := 75) rfl ko_262 ?_
              refine s_istore (pc := 78) (L' := [some (.ref 262), some (.int (iz x1)), some (.int (iz x2)), some (.int (iz x3)), some (.int (iz (m 281 ((40 * x1) + x2).toNat))), some (.int (iz ((mu m31 262 44 ((m31 262 44) + 1)) 262 45)))]) rfl (Nat.le_of_ble_eq_true rfl) rfl ?_
              refine s_aload_n (pc := 80) rfl rfl ?_
              refine s_dup (pc := 81) rfl rfl ?_
              refine s_getI (pc := 82) rfl ko_262 ?_
              refine s_iconst (pc := 85) rfl ?_
              refine s_iadd (pc := 86) rfl ?_
              refine s_putI (pc := 87) rfl ko_262 ?_
              refine s_aload_n (pc := 90) rfl rfl ?_
              refine s_getA (pc := 91) rfl ko_262 (po_262_48 hp35) ?_
              refine s_iload (pc := 94) rfl rfl ?_
              refine s_iload_n (pc := 96) rfl rfl ?_
              obtain ⟨hb38, hw⟩ := hw
              refine s_iast (pc := 97) rfl ka_287 (by decide) hb38 ?_
              refine s_aload_n (pc := 98) rfl rfl ?_
              refine s_getA (pc := 99) rfl ko_262 (po_262_49 hp35) ?_
              refine s_iload (pc := 102) rfl rfl ?_
              refine s_iload_n (pc := 104) rfl rfl ?_
              obtain ⟨hb39, hw⟩ := hw
              refine s_iast (pc := 105) rfl ka_288 (by decide) hb39 ?_
              refine s_aload_n (pc := 106) rfl rfl ?_
              refine s_getA (pc := 107) rfl ko_262 (po_262_50 hp35) ?_
              refine s_iload (pc := 110) rfl rfl ?_
              refine s_iload_n (pc := 112) rfl rfl ?_
              obtain ⟨hb40, hw⟩ := hw
              refine s_iast (pc := 113) rfl ka_289 (by decide) hb40 ?_
              refine s_aload_n (pc := 114) rfl rfl ?_
              refine s_getA (pc := 115) rfl ko_262 (po_262_51 hp35) ?_
              refine s_iload (pc := 118) rfl rfl ?_
              refine s_aload_n (pc := 120) rfl rfl ?_
              refine s_aload_n (pc := 121) rfl rfl ?_
              refine s_getA (pc := 122) rfl ko_262 (po_262_88 hp35) ?_
              refine s_aload_n (pc := 125) rfl rfl ?_
              refine s_getI (pc := 126) rfl ko_262 ?_
              refine s_aload_n (pc := 129) rfl rfl ?_
              refine s_getA (pc := 130) rfl ko_262 (po_262_89 hp35) ?_
              refine s_aload_n (pc := 133) rfl rfl ?_
              refine s_getI (pc := 134) rfl ko_262 ?_
              refine s_ci (pc := 137) (d := (d + 5)) (t := [.int (iz ((mu m31 262 44 ((m31 262 44) + 1)) 262 45)), .ref 290]) rfl rfl (am_ca_v (ps := [.int (iz ((mu (mu (mu (mu (mu m31 262 44 ((m31 262 44) + 1)) 262 45 (((mu m31 262 44 ((m31 262 44) + 1)) 262 45) + 1)) 287 ((mu m31 262 44 ((m31 262 44) + 1)) 262 45).toNat x1) 288 ((mu m31 262 44 ((m31 262 44) + 1)) 262 45).toNat x2) 289 ((mu m31 262 44 ((m31 262 44) + 1)) 262 45).toNat x3) 262 91)), .ref 320, .int (iz ((mu (mu (mu (mu (mu m31 262 44 ((m31 262 44) + 1)) 262 45 (((mu m31 262 44 ((m31 262 44) + 1)) 262 45) + 1)) 287 ((mu m31 262 44 ((m31 262 44) + 1)) 262 45).toNat x1) 288 ((mu m31 262 44 ((m31 262 44) + 1)) 262 45).toNat x2) 289 ((mu m31 262 44 ((m31 262 44) + 1)) 262 45).toNat x3) 262 90)), .ref 319]) rfl ko_262) (Nat.le_of_ble_eq_true rfl) (Ci.weak hw fun z44 m41 J42 P43 hw => ?_)
              obtain ⟨hp45, hw⟩ := hw
              obtain ⟨hb46, hw⟩ := hw
              refine s_iast (pc := 140) rfl ka_290 (by decide) hb46 ?_
              refine s_aload_n (pc := 141) rfl rfl ?_
              refine s_dup (pc := 142) rfl rfl ?_
              refine s_getI (pc := 143) rfl ko_262 ?_
              refine s_aload_n (pc := 146) rfl rfl ?_
              refine s_getA (pc := 147) rfl ko_262 (po_262_51 hp45) ?_
              refine s_iload (pc := 150) rfl rfl ?_
              obtain ⟨hb47, hw⟩ := hw
              refine s_iald (pc := 152) rfl ka_290 (by decide) hb47 ?_
              refine s_iconst (pc := 153) rfl ?_
              obtain ⟨hz48, hw⟩ := hw
              refine s_ic_ne (pc := 154) (tgt := 161) rfl rfl hz48 (by decide) (fun hc => ?_) (fun hc => ?_)
              · replace hw := hw.1 hc
                refine s_iconst (pc := 161) rfl ?_
                refine s_iadd (pc := 162) rfl ?_
                refine s_putI (pc := 163) rfl ko_262 ?_
                refine s_aload_n (pc := 166) rfl rfl ?_
                refine s_dup (pc := 167) rfl rfl ?_
                refine s_getI (pc := 168) rfl ko_262 ?_
                refine s_aload_n (pc := 171) rfl rfl ?_
                refine s_getA (pc := 172) rfl ko_262 (po_262_51 hp45) ?_
                refine s_iload (pc := 175) rfl rfl ?_
                obtain ⟨hb49, hw⟩ := hw
                refine s_iald (pc := 177) rfl ka_290 (by decide) hb49 ?_
                refine s_iconst (pc := 178) rfl ?_
                obtain ⟨hz50, hw⟩ := hw
                refine s_ic_ne (pc := 179) (tgt := 186) rfl rfl hz50 (by decide) (fun hc => ?_) (fun hc => ?_)
                · replace hw := hw.1 hc
                  refine s_iconst (pc := 186) rfl ?_
                  refine s_iadd (pc := 187) rfl ?_
                  refine s_putI (pc := 188) rfl ko_262 ?_
                  exact s_retv (pc := 191) rfl rfl hw
                · replace hw := hw.2 hc
                  refine s_iconst (pc := 182) rfl ?_
                  refine s_goto (pc := 183) (tgt := 187) rfl rfl ?_
                  refine s_iadd (pc := 187) rfl ?_
                  refine s_putI (pc := 188) rfl ko_262 ?_
                  exact s_retv (pc := 191) rfl rfl hw
              · replace hw := hw.2 hc
                refine s_iconst (pc := 157) rfl ?_
                refine s_goto (pc := 158) (tgt := 162) rfl rfl ?_
                refine s_iadd (pc := 162) rfl ?_
                refine s_putI (pc := 163) rfl ko_262 ?_
                refine s_aload_n (pc := 166) rfl rfl ?_
                refine s_dup (pc := 167) rfl rfl ?_
                refine s_getI (pc := 168) rfl ko_262 ?_
                refine s_aload_n (pc := 171) rfl rfl ?_
                refine s_getA (pc := 172) rfl ko_262 (po_262_51 hp45) ?_
                refine s_iload (pc := 175) rfl rfl ?_
                obtain ⟨hb51, hw⟩ := hw
                refine s_iald (pc := 177) rfl ka_290 (by decide) hb51 ?_
                refine s_iconst (pc := 178) rfl ?_
                obtain ⟨hz52, hw⟩ := hw
                refine s_ic_ne (pc := 179) (tgt := 186) rfl rfl hz52 (by decide) (fun hc => ?_) (fun hc => ?_)
                · replace hw := hw.1 hc
                  refine s_iconst (pc := 186) rfl ?_
                  refine s_iadd (pc := 187) rfl ?_
                  refine s_putI (pc := 188) rfl ko_262 ?_
                  exact s_retv (pc := 191) rfl rfl hw
                · replace hw := hw.2 hc
                  refine s_iconst (pc := 182) rfl ?_
                  refine s_goto (pc := 183) (tgt := 187) rfl rfl ?_
                  refine s_iadd (pc := 187) rfl ?_
                  refine s_putI (pc := 188) rfl ko_262 ?_
                  exact s_retv (pc := 191) rfl rfl hw
            · replace hw := hw.2 hc
              exact s_retv (pc := 73) rfl rfl hw
          · replace hw := hw.2 hc
            exact s_retv (pc := 52) rfl rfl hw
        · replace hw := hw.2 hc
          exact s_retv (pc := 41) rfl rfl hw

set_option maxRecDepth 20000 in
set_option maxHeartbeats 4000000 in
theorem b_Mdl_makesPair_0 {X : aX} {d : Nat} (x1 : Int) (x2 : Int) (x3 : Int)  (m : Mi) (J : Mj) (P : Mp) (hp : PP P) (post : Int → Mi → Mj → Mp → Prop)
    (hw : Cv X (d + 2) 164 [.ref 262] m J P (fun m1 J2 P3 => PP P3 ∧ ((0 : Int) ≤ x1 ∧ (x1 : Int) < 16) ∧ Ci X (d + 2) 166 [.ref 262, .ref 281, .int (iz (40 * x1)), .int (iz ((40 * x1) + (m1 283 x1.toNat))), .ref 308, .int (iz 0)] m1 J2 P3 (fun z10 m7 J8 P9 => PP P9 ∧ ((0 : Int) ≤ x2 ∧ (x2 : Int) < 201) ∧ ((0 : Int) ≤ x1 ∧ (x1 : Int) < 16) ∧ Ci X (d + 2) 166 [.ref 262, .ref 282, .int (iz (40 * x1)), .int (iz ((40 * x1) + (m7 284 x1.toNat))), .ref 308, .int (iz 0)] m7 J8 P9 (fun z17 m14 J15 P16 => PP P16 ∧ ((0 : Int) ≤ x3 ∧ (x3 : Int) < 16) ∧ Ci X (d + 2) 166 [.ref 262, .ref 281, .int (iz (40 * x3)), .int (iz ((40 * x3) + (m14 283 x3.toNat))), .ref 309, .int (iz 0)] m14 J15 P16 (fun z23 m20 J21 P22 => PP P22 ∧ ((0 : Int) ≤ x3 ∧ (x3 : Int) < 16) ∧ Ci X (d + 2) 166 [.ref 262, .ref 282, .int (iz (40 * x3)), .int (iz ((40 * x3) + (m20 284 x3.toNat))), .ref 309, .int (iz 0)] m20 J21 P22 (fun z29 m26 J27 P28 => PP P28 ∧ Ci X (d + 2) 168 [.ref 262, .int (iz (m7 312 x2.toNat)), .int (iz z23)] m26 J27 P28 (fun z34 m31 J32 P33 => PP P33 ∧ Zr (z34) ∧ (((¬ z34 = 0) → Cv X (d + 2) 171 [.ref 262] (mu m31 262 87 0) J32 P33 (fun m37 J38 P39 => PP P39 ∧ Ci X (d + 2) 172 [.ref 262, .int (iz z17), .int (iz ((-1))), .int (iz ((-1))), .int (iz 0), .int (iz 200), .ref 319, .int (iz 0)] m37 J38 P39 (fun z45 m42 J43 P44 => PP P44 ∧ Ci X (d + 2) 172 [.ref 262, .int (iz z10), .int (iz (m7 312 x2.toNat)), .int (iz z29), .int (iz 0), .int (iz 200), .ref 320, .int (iz 0)] (mu m42 262 90 z45) J43 P44 (fun z50 m47 J48 P49 => PP P49 ∧ post 1 (mu m47 262 91 z50) J48 P49)))) ∧ (¬ (¬ z34 = 0) → post 0 m31 J32 P33))))))))) : Rn X (d + 3) 163 0 [some (.ref 262), some (.int (iz x1)), some (.int (iz x2)), some (.int (iz x3)), none, none, none, none, none] [] (SS m J P) (QI post) := by
  refine s_aload_n (pc := 0) rfl rfl ?_
  refine s_cv (pc := 1) (d := (d + 2)) (t := []) rfl rfl (am_ca_v (ps := []) rfl ko_262) (Nat.le_of_ble_eq_true rfl) (Cv.weak hw fun m1 J2 P3 hw => ?_)
  obtain ⟨hp5, hw⟩ := hw
  refine s_aload_n (pc := 4) rfl rfl ?_
  refine s_aload_n (pc := 5) rfl rfl ?_
  refine s_getA (pc := 6) rfl ko_262 (po_262_38 hp5) ?_
  refine s_bipush (pc := 9) rfl (by decide) ?_
  refine s_iload_n (pc := 11) rfl rfl ?_
  refine s_imul (pc := 12) rfl ?_
  refine s_bipush (pc := 13) rfl (by decide) ?_
  refine s_iload_n (pc := 15) rfl rfl ?_
  refine s_imul (pc := 16) rfl ?_
  refine s_aload_n (pc := 17) rfl rfl ?_
  refine s_getA (pc := 18) rfl ko_262 (po_262_40 hp5) ?_
  refine s_iload_n (pc := 21) rfl rfl ?_
  obtain ⟨hb6, hw⟩ := hw
  refine s_iald (pc := 22) rfl ka_283 (by decide) hb6 ?_
  refine s_iadd (pc := 23) rfl ?_
  refine s_aload_n (pc := 24) rfl rfl ?_
  refine s_getA (pc := 25) rfl ko_262 (po_262_75 hp5) ?_
  refine s_iconst (pc := 28) rfl ?_
  refine s_ci (pc := 29) (d := (d + 2)) (t := []) rfl rfl (am_ca_v (ps := [.int (iz 0), .ref 308, .int (iz ((40 * x1) + (m1 283 x1.toNat))), .int (iz (40 * x1)), .ref 281]) rfl ko_262) (Nat.le_of_ble_eq_true rfl) (Ci.weak hw fun z10 m7 J8 P9 hw => ?_)
  obtain ⟨hp11, hw⟩ := hw
  refine s_istore (pc := 32) (L' := [some (.ref 262), some (.int (iz x1)), some (.int (iz x2)), some (.int (iz x3)), some (.int (iz z10)), none, none, none, none]) rfl (Nat.le_of_ble_eq_true rfl) rfl ?_
  refine s_aload_n (pc := 34) rfl rfl ?_
  refine s_getA (pc := 35) rfl ko_262 (po_262_79 hp11) ?_
  refine s_iload_n (pc := 38) rfl rfl ?_
  obtain ⟨hb12, hw⟩ := hw
  refine s_iald (pc := 39) rfl ka_312 (by decide) hb12 ?_
  refine s_istore (pc := 40) (L' := [some (.ref 262), some (.int (iz x1)), some (.int (iz x2)), some (.int (iz x3)), some (.int (iz z10)), some (.int (iz (m7 312 x2.toNat))), none, none, none]) rfl (Nat.le_of_ble_eq_true rfl) rfl ?_
  refine s_aload_n (pc := 42) rfl rfl ?_
  refine s_aload_n (pc := 43) rfl rfl ?_
  refine s_getA (pc := 44) rfl ko_262 (po_262_39 hp11) ?_
  refine s_bipush (pc := 47) rfl (by decide) ?_
  refine s_iload_n (pc := 49) rfl rfl ?_
  refine s_imul (pc := 50) rfl ?_
  refine s_bipush (pc := 51) rfl (by decide) ?_
  refine s_iload_n (pc := 53) rfl rfl ?_
  refine s_imul (pc := 54) rfl ?_
  refine s_aload_n (pc := 55) rfl rfl ?_
  refine s_getA (pc := 56) rfl ko_262 (po_262_41 hp11) ?_
  refine s_iload_n (pc := 59) rfl rfl ?_
  obtain ⟨hb13, hw⟩ := hw
  refine s_iald (pc := 60) rfl ka_284 (by decide) hb13 ?_
  refine s_iadd (pc := 61) rfl ?_
  refine s_aload_n (pc := 62) rfl rfl ?_
  refine s_getA (pc := 63) rfl ko_262 (po_262_75 hp11) ?_
  refine s_iconst (pc := 66) rfl ?_
  refine s_ci (pc := 67) (d := (d + 2)) (t := []) rfl rfl (am_ca_v (ps := [.int (iz 0), .ref 308, .int (iz ((40 * x1) + (m7 284 x1.toNat))), .int (iz (40 * x1)), .ref 282]) rfl ko_262) (Nat.le_of_ble_eq_true rfl) (Ci.weak hw fun z17 m14 J15 P16 hw => ?_)
  obtain ⟨hp18, hw⟩ := hw
  refine s_istore (pc := 70) (L' := [some (.ref 262), some (.int (iz x1)), some (.int (iz x2)), some (.int (iz x3)), some (.int (iz z10)), some (.int (iz (m7 312 x2.toNat))), some (.int (iz z17)), none, none]) rfl (Nat.le_of_ble_eq_true rfl) rfl ?_
  refine s_aload_n (pc := 72) rfl rfl ?_
  refine s_aload_n (pc := 73) rfl rfl ?_
  refine s_getA (pc := 74) rfl ko_262 (po_262_38 hp18) ?_
  refine s_bipush (pc := 77) rfl (by decide) ?_
  refine s_iload_n (pc := 79) rfl rfl ?_
  refine s_imul (pc := 80) rfl ?_
  refine s_bipush (pc := 81) rfl (by decide) ?_
  refine s_iload_n (pc := 83) rfl rfl ?_
  refine s_imul (pc := 84) rfl ?_
  refine s_aload_n (pc := 85) rfl rfl ?_
  refine s_getA (pc := 86) rfl ko_262 (po_262_40 hp18) ?_
  refine s_iload_n (pc := 89) rfl rfl ?_
  obtain ⟨hb19, hw⟩ := hw
  refine s_iald (pc := 90) rfl ka_283 (by decide) hb19 ?_
  refine s_iadd (pc := 91) rfl ?_
  refine s_aload_n (pc := 92) rfl rfl ?_
  refine s_getA (pc := 93) rfl ko_262 (po_262_76 hp18) ?_
  refine s_iconst (pc := 96) rfl ?_
  refine s_ci (pc := 97) (d := (d + 2)) (t := []) rfl rfl (am_ca_v (ps := [.int (iz 0), .ref 309, .int (iz ((40 * x3) + (m14 283 x3.toNat))), .int (iz (40 * x3)), .ref 281]) rfl ko_262) (Nat.le_of_ble_eq_true rfl) (Ci.weak hw fun z23 m20 J21 P22 hw => ?_)
  obtain ⟨hp24, hw⟩ := hw
  refine s_istore (pc := 100) (L' := [some (.ref 262), some (.int (iz x1)), some (.int (iz x2)), some (.int (iz x3)), some (.int (iz z10)), some (.int (iz (m7 312 x2.toNat))), some (.int (iz z17)), some (.int (iz z23)), none]) rfl (Nat.le_of_ble_eq_true rfl) rfl ?_
  refine s_aload_n (pc := 102) rfl rfl ?_
  refine s_aload_n (pc := 103) rfl rfl ?_
  refine s_getA (pc := 104) rfl ko_262 (po_262_39 hp24) ?_
  refine s_bipush (pc := 107) rfl (by decide) ?_
  refine s_iload_n (pc := 109) rfl rfl ?_
  refine s_imul (pc := 110) rfl ?_
  refine s_bipush (pc := 111) rfl (by decide) ?_
  refine s_iload_n (pc := 113) rfl rfl ?_
  refine s_imul (pc := 114) rfl ?_
  refine s_aload_n (pc := 115) rfl rfl ?_
  refine s_getA (pc := 116) rfl ko_262 (po_262_41 hp24) ?_
  refine s_iload_n (pc := 119) rfl rfl ?_
  obtain ⟨hb25, hw⟩ := hw
  refine s_iald (pc := 120) rfl ka_284 (by decide) hb25 ?_
  refine s_iadd (pc := 121) rfl ?_
  refine s_aload_n (pc := 122) rfl rfl ?_
  refine s_getA (pc := 123) rfl ko_262 (po_262_76 hp24) ?_
  refine s_iconst (pc := 126) rfl ?_
  refine s_ci (pc := 127) (d := (d + 2)) (t := []) rfl rfl (am_ca_v (ps := [.int (iz 0), .ref 309, .int (iz ((40 * x3) + (m20 284 x3.toNat))), .int (iz (40 * x3)), .ref 282]) rfl ko_262) (Nat.le_of_ble_eq_true rfl) (Ci.weak hw fun z29 m26 J27 P28 hw => ?_)
  obtain ⟨hp30, hw⟩ := hw
  refine s_istore (pc := 130) (L' := [some (.ref 262), some (.int (iz x1)), some (.int (iz x2)), some (.int (iz x3)), some (.int (iz z10)), some (.int (iz (m7 312 x2.toNat))), some (.int (iz z17)), some (.int (iz z23)), some (.int (iz z29))]) rfl (Nat.le_of_ble_eq_true rfl) rfl ?_
  refine s_aload_n (pc := 132) rfl rfl ?_
  refine s_iload (pc := 133) rfl rfl ?_
  refine s_iload (pc := 135) rfl rfl ?_
  refine s_ci (pc := 137) (d := (d + 2)) (t := []) rfl rfl (am_ca_v (ps := [.int (iz z23), .int (iz (m7 312 x2.toNat))]) rfl ko_262) (Nat.le_of_ble_eq_true rfl) (Ci.weak hw fun z34 m31 J32 P33 hw => ?_)
  obtain ⟨hp35, hw⟩ := hw
  obtain ⟨hz36, hw⟩ := hw
  refine s_if_ne (pc := 140) (tgt := 145) rfl rfl hz36 (fun hc => ?_) (fun hc => ?_)
  · replace hw := hw.1 hc
    refine s_aload_n (pc := 145) rfl rfl ?_
    refine s_iconst (pc := 146) rfl ?_
    refine s_putZ (pc := 147) rfl ko_262 (by decide) ?_
    refine s_aload_n (pc := 150) rfl rfl ?_
    refine s_cv (pc := 151) (d := (d + 2)) (t := []) rfl rfl (am_ca_v (ps := []) rfl ko_262) (Nat.le_of_ble_eq_true rfl) (Cv.weak hw fun m37 J38 P39 hw => ?_)
    obtain ⟨hp41, hw⟩ := hw
    refine s_aload_n (pc := 154) rfl rfl ?_
    refine s_aload_n (pc := 155) rfl rfl ?_
    refine s_iload (pc := 156) rfl rfl ?_
    refine s_iconst (pc := 158) rfl ?_
    refine s_iconst (pc := 159) rfl ?_
    refine s_iconst (pc := 160) rfl ?_
    refine s_sipush (pc := 161) rfl (by decide) ?_
    refine s_aload_n (pc := 164) rfl rfl ?_
    refine s_getA (pc := 165) rfl ko_262 (po_262_88 hp41) ?_
    refine s_iconst (pc := 168) rfl ?_
    refine s_ci (pc := 169) (d := (d + 2)) (t := [.ref 262]) rfl rfl (am_ca_v (ps := [.int (iz 0), .ref 319, .int (iz 200), .int (iz 0), .int (iz ((-1))), .int (iz ((-1))), .int (iz z17)]) rfl ko_262) (Nat.le_of_ble_eq_true rfl) (Ci.weak hw fun z45 m42 J43 P44 hw => ?_)
    obtain ⟨hp46, hw⟩ := hw
    refine s_putI (pc := 172) rfl ko_262 ?_
    refine s_aload_n (pc := 175) rfl rfl ?_
    refine s_aload_n (pc := 176) rfl rfl ?_
    refine s_iload (pc := 177) rfl rfl ?_
    refine s_iload (pc := 179) rfl rfl ?_
    refine s_iload (pc := 181) rfl rfl ?_
    refine s_iconst (pc := 183) rfl ?_
    refine s_sipush (pc := 184) rfl (by decide) ?_
    refine s_aload_n (pc := 187) rfl rfl ?_
    refine s_getA (pc := 188) rfl ko_262 (po_262_89 hp46) ?_
    refine s_iconst (pc := 191) rfl ?_
    refine s_ci (pc := 192) (d := (d + 2)) (t := [.ref 262]) rfl rfl (am_ca_v (ps := [.int (iz 0), .ref 320, .int (iz 200), .int (iz 0), .int (iz z29), .int (iz (m7 312 x2.toNat)), .int (iz z10)]) rfl ko_262) (Nat.le_of_ble_eq_true rfl) (Ci.weak hw fun z50 m47 J48 P49 hw => ?_)
    obtain ⟨hp51, hw⟩ := hw
    refine s_putI (pc := 195) rfl ko_262 ?_
    refine s_iconst (pc := 198) rfl ?_
    exact s_retz (pc := 199) rfl rfl (by decide) hw
  · replace hw := hw.2 hc
    refine s_iconst (pc := 143) rfl ?_
    exact s_retz (pc := 144) rfl rfl (by decide) hw

set_option maxRecDepth 20000 in
set_option maxHeartbeats 4000000 in
theorem b_Mdl_clearPool_0 {X : aX} {d : Nat}   (m : Mi) (J : Mj) (P : Mp) (hp : PP P) (post : Mi → Mj → Mp → Prop)
    (hw : Rn X (d + 1) 164 7 [some (.ref 262), some (.int (iz 0))] [] (SS (mu m 262 74 0) J P) (QV post)) : Rn X (d + 1) 164 0 [some (.ref 262), none] [] (SS m J P) (QV post) := by
  refine s_aload_n (pc := 0) rfl rfl ?_
  refine s_iconst (pc := 1) rfl ?_
  refine s_putI (pc := 2) rfl ko_262 ?_
  refine s_iconst (pc := 5) rfl ?_
  refine s_istore_n (pc := 6) (L' := [some (.ref 262), some (.int (iz 0))]) rfl (Nat.le_of_ble_eq_true rfl) rfl ?_
  exact hw

set_option maxRecDepth 20000 in
set_option maxHeartbeats 4000000 in
theorem b_Mdl_clearPool_7 {X : aX} {d : Nat} (x1 : Int)  (m : Mi) (J : Mj) (P : Mp) (hp : PP P) (post : Mi → Mj → Mp → Prop)
    (hw : Zr (x1) ∧ (((800 ≤ x1) → Cv X d 165 [.ref 262] m J P (fun m2 J3 P4 => PP P4 ∧ post m2 J3 P4)) ∧ (¬ (800 ≤ x1) → ((0 : Int) ≤ x1 ∧ (x1 : Int) < 800) ∧ Rn X (d + 1) 164 7 [some (.ref 262), some (.int (iz (x1 + 1)))] [] (SS (mu m 308 x1.toNat ((-1))) J P) (QV post)))) : Rn X (d + 1) 164 7 [some (.ref 262), some (.int (iz x1))] [] (SS m J P) (QV post) := by
  refine s_iload_n (pc := 7) rfl rfl ?_
  refine s_sipush (pc := 8) rfl (by decide) ?_
  obtain ⟨hz1, hw⟩ := hw
  refine s_ic_ge (pc := 11) (tgt := 27) rfl rfl hz1 (by decide) (fun hc => ?_) (fun hc => ?_)
  · replace hw := hw.1 hc
    refine s_aload_n (pc := 27) rfl rfl ?_
    refine s_cv (pc := 28) (d := d) (t := []) rfl rfl (am_ca_v (ps := []) rfl ko_262) (Nat.le_of_ble_eq_true rfl) (Cv.weak hw fun m2 J3 P4 hw => ?_)
    obtain ⟨hp6, hw⟩ := hw
    exact s_retv (pc := 31) rfl rfl hw
  · replace hw := hw.2 hc
    refine s_aload_n (pc := 14) rfl rfl ?_
    refine s_getA (pc := 15) rfl ko_262 (po_262_75 hp) ?_
    refine s_iload_n (pc := 18) rfl rfl ?_
    refine s_iconst (pc := 19) rfl ?_
    obtain ⟨hb7, hw⟩ := hw
    refine s_iast (pc := 20) rfl ka_308 (by decide) hb7 ?_
    refine s_iinc (pc := 21) (L' := [some (.ref 262), some (.int (iz (x1 + 1)))]) rfl rfl (Nat.le_of_ble_eq_true rfl) rfl ?_
    refine s_goto (pc := 24) (tgt := 7) rfl rfl ?_
    exact hw

set_option maxRecDepth 20000 in
set_option maxHeartbeats 4000000 in
theorem b_Mdl_clearRule_0 {X : aX} {d : Nat}   (m : Mi) (J : Mj) (P : Mp) (hp : PP P) (post : Mi → Mj → Mp → Prop)
    (hw : Rn X d 165 2 [some (.ref 262), some (.int (iz 0))] [] (SS m J P) (QV post)) : Rn X d 165 0 [some (.ref 262), none] [] (SS m J P) (QV post) := by
  refine s_iconst (pc := 0) rfl ?_
  refine s_istore_n (pc := 1) (L' := [some (.ref 262), some (.int (iz 0))]) rfl (Nat.le_of_ble_eq_true rfl) rfl ?_
  exact hw

set_option maxRecDepth 20000 in
set_option maxHeartbeats 4000000 in
theorem b_Mdl_clearRule_2 {X : aX} {d : Nat} (x1 : Int)  (m : Mi) (J : Mj) (P : Mp) (hp : PP P) (post : Mi → Mj → Mp → Prop)
    (hw : Zr (x1) ∧ (((8 ≤ x1) → post m J P) ∧ (¬ (8 ≤ x1) → ((0 : Int) ≤ x1 ∧ (x1 : Int) < 8) ∧ Rn X d 165 2 [some (.ref 262), some (.int (iz (x1 + 1)))] [] (SS (mu m 309 x1.toNat ((-1))) J P) (QV post)))) : Rn X d 165 2 [some (.ref 262), some (.int (iz x1))] [] (SS m J P) (QV post) := by
  refine s_iload_n (pc := 2) rfl rfl ?_
  refine s_bipush (pc := 3) rfl (by decide) ?_
  obtain ⟨hz1, hw⟩ := hw
  refine s_ic_ge (pc := 5) (tgt := 21) rfl rfl hz1 (by decide) (fun hc => ?_) (fun hc => ?_)
  · replace hw := hw.1 hc
    exact s_retv (pc := 21) rfl rfl hw
  · replace hw := hw.2 hc
    refine s_aload_n (pc := 8) rfl rfl ?_
    refine s_getA (pc := 9) rfl ko_262 (po_262_76 hp) ?_
    refine s_iload_n (pc := 12) rfl rfl ?_
    refine s_iconst (pc := 13) rfl ?_
    obtain ⟨hb2, hw⟩ := hw
    refine s_iast (pc := 14) rfl ka_309 (by decide) hb2 ?_
    refine s_iinc (pc := 15) (L' := [some (.ref 262), some (.int (iz (x1 + 1)))]) rfl rfl (Nat.le_of_ble_eq_true rfl) rfl ?_
    refine s_goto (pc := 18) (tgt := 2) rfl rfl ?_
    exact hw

set_option maxRecDepth 20000 in
set_option maxHeartbeats 4000000 in
theorem b_Mdl_load_0 {X : aX} {d : Nat} (x1 nx1 : Nat) (x2 : Int) (x3 : Int) (x4 nx4 : Nat) (x5 : Int) (kx1 : am_kd an_K x1 = some (.inr (0, nx1))) (bx1 : nx1 ≤ 100000) (kx4 : am_kd an_K x4 = some (.inr (0, nx4))) (bx4 : nx4 ≤ 100000) (m : Mi) (J : Mj) (P : Mp) (hp : PP P) (post : Int → Mi → Mj → Mp → Prop)
    (hw : Rn X (d + 1) 166 9 [some (.ref 262), some (.ref x1), some (.int (iz x2)), some (.int (iz x3)), some (.ref x4), some (.int (iz x5)), some (.int (iz 0)), some (.int (iz ((-1)))), some (.int (iz x2)), none, none] [] (SS m J P) (QI post)) : Rn X (d + 1) 166 0 [some (.ref 262), some (.ref x1), some (.int (iz x2)), some (.int (iz x3)), some (.ref x4), some (.int (iz x5)), none, none, none, none, none] [] (SS m J P) (QI post) := by
  refine s_iconst (pc := 0) rfl ?_
  refine s_istore (pc := 1) (L' := [some (.ref 262), some (.ref x1), some (.int (iz x2)), some (.int (iz x3)), some (.ref x4), some (.int (iz x5)), some (.int (iz 0)), none, none, none, none]) rfl (Nat.le_of_ble_eq_true rfl) rfl ?_
  refine s_iconst (pc := 3) rfl ?_
  refine s_istore (pc := 4) (L' := [some (.ref 262), some (.ref x1), some (.int (iz x2)), some (.int (iz x3)), some (.ref x4), some (.int (iz x5)), some (.int (iz 0)), some (.int (iz ((-1)))), none, none, none]) rfl (Nat.le_of_ble_eq_true rfl) rfl ?_
  refine s_iload_n (pc := 6) rfl rfl ?_
  refine s_istore (pc := 7) (L' := [some (.ref 262), some (.ref x1), some (.int (iz x2)), some (.int (iz x3)), some (.ref x4), some (.int (iz x5)), some (.int (iz 0)), some (.int (iz ((-1)))), some (.int (iz x2)), none, none]) rfl (Nat.le_of_ble_eq_true rfl) rfl ?_
  exact hw

set_option maxRecDepth 20000 in
set_option maxHeartbeats 4000000 in
theorem b_Mdl_load_9 {X : aX} {d : Nat} (x1 nx1 : Nat) (x2 : Int) (x3 : Int) (x4 nx4 : Nat) (x5 : Int) (x6 : Int) (x7 : Int) (x8 : Int) (kx1 : am_kd an_K x1 = some (.inr (0, nx1))) (bx1 : nx1 ≤ 100000) (kx4 : am_kd an_K x4 = some (.inr (0, nx4))) (bx4 : nx4 ≤ 100000) (m : Mi) (J : Mj) (P : Mp) (hp : PP P) (post : Int → Mi → Mj → Mp → Prop)
    (hw : Zr (x8) ∧ Zr (x3) ∧ (((x3 ≤ x8) → post x7 m J P) ∧ (¬ (x3 ≤ x8) → ((0 : Int) ≤ x8 ∧ (x8 : Int) < nx1) ∧ Zr (m x1 x8.toNat) ∧ (((0 ≤ (m x1 x8.toNat)) → Zr (x5) ∧ (((0 ≤ x5) → Ci X d 167 [.ref 262, .int (iz (zrem (m x1 x8.toNat) 64)), .int (iz x5)] m J P (fun z9 m6 J7 P8 => PP P8 ∧ ((0 : Int) ≤ (x8 - x2) ∧ ((x8 - x2) : Int) < 201) ∧ Zr (x8) ∧ Zr (x2) ∧ (((¬ x8 = x2) → ((0 : Int) ≤ (x6 - 1) ∧ ((x6 - 1) : Int) < 201) ∧ ((0 : Int) ≤ (x6 - 1) ∧ ((x6 - 1) : Int) < 201) ∧ ((0 : Int) ≤ ((4 * ((mu m6 312 (x8 - x2).toNat z9) 310 (x6 - 1).toNat)) + ((mu m6 312 (x8 - x2).toNat z9) 311 (x6 - 1).toNat)) ∧ (((4 * ((mu m6 312 (x8 - x2).toNat z9) 310 (x6 - 1).toNat)) + ((mu m6 312 (x8 - x2).toNat z9) 311 (x6 - 1).toNat)) : Int) < 8000) ∧ Rn X (d + 1) 166 139 [some (.ref 262), some (.ref x1), some (.int (iz x2)), some (.int (iz x3)), some (.ref x4), some (.int (iz x5)), some (.int (iz x6)), some (.int (iz x7)), some (.int (iz x8)), some (.int (iz (m x1 x8.toNat))), some (.int (iz z9))] [] (SS (mu (mu m6 312 (x8 - x2).toNat z9) 307 ((4 * ((mu m6 312 (x8 - x2).toNat z9) 310 (x6 - 1).toNat)) + ((mu m6 312 (x8 - x2).toNat z9) 311 (x6 - 1).toNat)).toNat z9) J7 P8) (QI post)) ∧ (¬ (¬ x8 = x2) → Rn X (d + 1) 166 139 [some (.ref 262), some (.ref x1), some (.int (iz x2)), some (.int (iz x3)), some (.ref x4), some (.int (iz x5)), some (.int (iz x6)), some (.int (iz z9)), some (.int (iz x8)), some (.int (iz (m x1 x8.toNat))), some (.int (iz z9))] [] (SS (mu m6 312 (x8 - x2).toNat z9) J7 P8) (QI post))))) ∧ (¬ (0 ≤ x5) → Ci X d 167 [.ref 262, .int (iz (zrem (m x1 x8.toNat) 64)), .int (iz (zdiv (m x1 x8.toNat) 64))] m J P (fun z20 m17 J18 P19 => PP P19 ∧ ((0 : Int) ≤ (x8 - x2) ∧ ((x8 - x2) : Int) < 201) ∧ Zr (x8) ∧ Zr (x2) ∧ (((¬ x8 = x2) → ((0 : Int) ≤ (x6 - 1) ∧ ((x6 - 1) : Int) < 201) ∧ ((0 : Int) ≤ (x6 - 1) ∧ ((x6 - 1) : Int) < 201) ∧ ((0 : Int) ≤ ((4 * ((mu m17 312 (x8 - x2).toNat z20) 310 (x6 - 1).toNat)) + ((mu m17 312 (x8 - x2).toNat z20) 311 (x6 - 1).toNat)) ∧ (((4 * ((mu m17 312 (x8 - x2).toNat z20) 310 (x6 - 1).toNat)) + ((mu m17 312 (x8 - x2).toNat z20) 311 (x6 - 1).toNat)) : Int) < 8000) ∧ Rn X (d + 1) 166 139 [some (.ref 262), some (.ref x1), some (.int (iz x2)), some (.int (iz x3)), some (.ref x4), some (.int (iz x5)), some (.int (iz x6)), some (.int (iz x7)), some (.int (iz x8)), some (.int (iz (m x1 x8.toNat))), some (.int (iz z20))] [] (SS (mu (mu m17 312 (x8 - x2).toNat z20) 307 ((4 * ((mu m17 312 (x8 - x2).toNat z20) 310 (x6 - 1).toNat)) + ((mu m17 312 (x8 - x2).toNat z20) 311 (x6 - 1).toNat)).toNat z20) J18 P19) (QI post)) ∧ (¬ (¬ x8 = x2) → Rn X (d + 1) 166 139 [some (.ref 262), some (.ref x1), some (.int (iz x2)), some (.int (iz x3)), some (.ref x4), some (.int (iz x5)), some (.int (iz x6)), some (.int (iz z20)), some (.int (iz x8)), some (.int (iz (m x1 x8.toNat))), some (.int (iz z20))] [] (SS (mu m17 312 (x8 - x2).toNat z20) J18 P19) (QI post))))))) ∧ (¬ (0 ≤ (m x1 x8.toNat)) → ((0 : Int) ≤ (((-1)) - (m x1 x8.toNat)) ∧ ((((-1)) - (m x1 x8.toNat)) : Int) < nx4) ∧ Zr (m x4 (((-1)) - (m x1 x8.toNat)).toNat) ∧ (((0 ≤ (m x4 (((-1)) - (m x1 x8.toNat)).toNat)) → ((0 : Int) ≤ (((-1)) - (m x1 x8.toNat)) ∧ ((((-1)) - (m x1 x8.toNat)) : Int) < nx4) ∧ ((0 : Int) ≤ (x8 - x2) ∧ ((x8 - x2) : Int) < 201) ∧ Zr (x8) ∧ Zr (x2) ∧ (((¬ x8 = x2) → ((0 : Int) ≤ (x6 - 1) ∧ ((x6 - 1) : Int) < 201) ∧ ((0 : Int) ≤ (x6 - 1) ∧ ((x6 - 1) : Int) < 201) ∧ ((0 : Int) ≤ ((4 * ((mu m 312 (x8 - x2).toNat (m x4 (((-1)) - (m x1 x8.toNat)).toNat)) 310 (x6 - 1).toNat)) + ((mu m 312 (x8 - x2).toNat (m x4 (((-1)) - (m x1 x8.toNat)).toNat)) 311 (x6 - 1).toNat)) ∧ (((4 * ((mu m 312 (x8 - x2).toNat (m x4 (((-1)) - (m x1 x8.toNat)).toNat)) 310 (x6 - 1).toNat)) + ((mu m 312 (x8 - x2).toNat (m x4 (((-1)) - (m x1 x8.toNat)).toNat)) 311 (x6 - 1).toNat)) : Int) < 8000) ∧ Rn X (d + 1) 166 139 [some (.ref 262), some (.ref x1), some (.int (iz x2)), some (.int (iz x3)), some (.ref x4), some (.int (iz x5)), some (.int (iz x6)), some (.int (iz x7)), some (.int (iz x8)), some (.int (iz (m x1 x8.toNat))), some (.int (iz (m x4 (((-1)) - (m x1 x8.toNat)).toNat)))] [] (SS (mu (mu m 312 (x8 - x2).toNat (m x4 (((-1)) - (m x1 x8.toNat)).toNat)) 307 ((4 * ((mu m 312 (x8 - x2).toNat (m x4 (((-1)) - (m x1 x8.toNat)).toNat)) 310 (x6 - 1).toNat)) + ((mu m 312 (x8 - x2).toNat (m x4 (((-1)) - (m x1 x8.toNat)).toNat)) 311 (x6 - 1).toNat)).toNat (m x4 (((-1)) - (m x1 x8.toNat)).toNat)) J P) (QI post)) ∧ (¬ (¬ x8 = x2) → Rn X (d + 1) 166 139 [some (.ref 262), some (.ref x1), some (.int (iz x2)), some (.int (iz x3)), some (.ref x4), some (.int (iz x5)), some (.int (iz x6)), some (.int (iz (m x4 (((-1)) - (m x1 x8.toNat)).toNat))), some (.int (iz x8)), some (.int (iz (m x1 x8.toNat))), some (.int (iz (m x4 (((-1)) - (m x1 x8.toNat)).toNat)))] [] (SS (mu m 312 (x8 - x2).toNat (m x4 (((-1)) - (m x1 x8.toNat)).toNat)) J P) (QI post)))) ∧ (¬ (0 ≤ (m x4 (((-1)) - (m x1 x8.toNat)).toNat)) → Ci X d 167 [.ref 262, .int (iz ((-1))), .int (iz 0)] m J P (fun z40 m37 J38 P39 => PP P39 ∧ ((0 : Int) ≤ (((-1)) - (m x1 x8.toNat)) ∧ ((((-1)) - (m x1 x8.toNat)) : Int) < nx4) ∧ ((0 : Int) ≤ (((-1)) - (m x1 x8.toNat)) ∧ ((((-1)) - (m x1 x8.toNat)) : Int) < nx4) ∧ ((0 : Int) ≤ (x8 - x2) ∧ ((x8 - x2) : Int) < 201) ∧ Zr (x8) ∧ Zr (x2) ∧ (((¬ x8 = x2) → ((0 : Int) ≤ (x6 - 1) ∧ ((x6 - 1) : Int) < 201) ∧ ((0 : Int) ≤ (x6 - 1) ∧ ((x6 - 1) : Int) < 201) ∧ ((0 : Int) ≤ ((4 * ((mu (mu m37 x4 (((-1)) - (m x1 x8.toNat)).toNat z40) 312 (x8 - x2).toNat ((mu m37 x4 (((-1)) - (m x1 x8.toNat)).toNat z40) x4 (((-1)) - (m x1 x8.toNat)).toNat)) 310 (x6 - 1).toNat)) + ((mu (mu m37 x4 (((-1)) - (m x1 x8.toNat)).toNat z40) 312 (x8 - x2).toNat ((mu m37 x4 (((-1)) - (m x1 x8.toNat)).toNat z40) x4 (((-1)) - (m x1 x8.toNat)).toNat)) 311 (x6 - 1).toNat)) ∧ (((4 * ((mu (mu m37 x4 (((-1)) - (m x1 x8.toNat)).toNat z40) 312 (x8 - x2).toNat ((mu m37 x4 (((-1)) - (m x1 x8.toNat)).toNat z40) x4 (((-1)) - (m x1 x8.toNat)).toNat)) 310 (x6 - 1).toNat)) + ((mu (mu m37 x4 (((-1)) - (m x1 x8.toNat)).toNat z40) 312 (x8 - x2).toNat ((mu m37 x4 (((-1)) - (m x1 x8.toNat)).toNat z40) x4 (((-1)) - (m x1 x8.toNat)).toNat)) 311 (x6 - 1).toNat)) : Int) < 8000) ∧ Rn X (d + 1) 166 139 [some (.ref 262), some (.ref x1), some (.int (iz x2)), some (.int (iz x3)), some (.ref x4), some (.int (iz x5)), some (.int (iz x6)), some (.int (iz x7)), some (.int (iz x8)), some (.int (iz (m x1 x8.toNat))), some (.int (iz ((mu m37 x4 (((-1)) - (m x1 x8.toNat)).toNat z40) x4 (((-1)) - (m x1 x8.toNat)).toNat)))] [] (SS (mu (mu (mu m37 x4 (((-1)) - (m x1 x8.toNat)).toNat z40) 312 (x8 - x2).toNat ((mu m37 x4 (((-1)) - (m x1 x8.toNat)).toNat z40) x4 (((-1)) - (m x1 x8.toNat)).toNat)) 307 ((4 * ((mu (mu m37 x4 (((-1)) - (m x1 x8.toNat)).toNat z40) 312 (x8 - x2).toNat ((mu m37 x4 (((-1)) - (m x1 x8.toNat)).toNat z40) x4 (((-1)) - (m x1 x8.toNat)).toNat)) 310 (x6 - 1).toNat)) + ((mu (mu m37 x4 (((-1)) - (m x1 x8.toNat)).toNat z40) 312 (x8 - x2).toNat ((mu m37 x4 (((-1)) - (m x1 x8.toNat)).toNat z40) x4 (((-1)) - (m x1 x8.toNat)).toNat)) 311 (x6 - 1).toNat)).toNat ((mu m37 x4 (((-1)) - (m x1 x8.toNat)).toNat z40) x4 (((-1)) - (m x1 x8.toNat)).toNat)) J38 P39) (QI post)) ∧ (¬ (¬ x8 = x2) → Rn X (d + 1) 166 139 [some (.ref 262), some (.ref x1), some (.int (iz x2)), some (.int (iz x3)), some (.ref x4), some (.int (iz x5)), some (.int (iz x6)), some (.int (iz ((mu m37 x4 (((-1)) - (m x1 x8.toNat)).toNat z40) x4 (((-1)) - (m x1 x8.toNat)).toNat))), some (.int (iz x8)), some (.int (iz (m x1 x8.toNat))), some (.int (iz ((mu m37 x4 (((-1)) - (m x1 x8.toNat)).toNat z40) x4 (((-1)) - (m x1 x8.toNat)).toNat)))] [] (SS (mu (mu m37 x4 (((-1)) - (m x1 x8.toNat)).toNat z40) 312 (x8 - x2).toNat ((mu m37 x4 (((-1)) - (m x1 x8.toNat)).toNat z40) x4 (((-1)) - (m x1 x8.toNat)).toNat)) J38 P39) (QI post))))))))))) : Rn X (d + 1) 166 9 [some (.ref 262), some (.ref x1), some (.int (iz x2)), some (.int (iz x3)), some (.ref x4), some (.int (iz x5)), some (.int (iz x6)), some (.int (iz x7)), some (.int (iz x8)), none, none] [] (SS m J P) (QI post) := by
  refine s_iload (pc := 9) rfl rfl ?_
  refine s_iload_n (pc := 11) rfl rfl ?_
  obtain ⟨hz1, hw⟩ := hw
  obtain ⟨hz2, hw⟩ := hw
  refine s_ic_ge (pc := 12) (tgt := 231) rfl rfl hz1 hz2 (fun hc => ?_) (fun hc => ?_)
  · replace hw := hw.1 hc
    refine s_iload (pc := 231) rfl rfl ?_
    exact s_reti (pc := 233) rfl rfl hw
  · replace hw := hw.2 hc
    refine s_aload_n (pc := 15) rfl rfl ?_
    refine s_iload (pc := 16) rfl rfl ?_
    obtain ⟨hb3, hw⟩ := hw
    refine s_iald (pc := 18) rfl kx1 bx1 hb3 ?_
    refine s_istore (pc := 19) (L' := [some (.ref 262), some (.ref x1), some (.int (iz x2)), some (.int (iz x3)), some (.ref x4), some (.int (iz x5)), some (.int (iz x6)), some (.int (iz x7)), some (.int (iz x8)), some (.int (iz (m x1 x8.toNat))), none]) rfl (Nat.le_of_ble_eq_true rfl) rfl ?_
    refine s_iload (pc := 21) rfl rfl ?_
    obtain ⟨hz4, hw⟩ := hw
    refine s_if_ge (pc := 23) (tgt := 61) rfl rfl hz4 (fun hc => ?_) (fun hc => ?_)
    · replace hw := hw.1 hc
      refine s_aload_n (pc := 61) rfl rfl ?_
      refine s_iload (pc := 62) rfl rfl ?_
      refine s_bipush (pc := 64) rfl (by decide) ?_
      refine s_irem (pc := 66) rfl (by decide) ?_
      refine s_iload (pc := 67) rfl rfl ?_
      obtain ⟨hz5, hw⟩ := hw
      refine s_if_ge (pc := 69) (tgt := 80) rfl rfl hz5 (fun hc => ?_) (fun hc => ?_)
      · replace hw := hw.1 hc
        refine s_iload (pc := 80) rfl rfl ?_
        refine s_ci (pc := 82) (d := d) (t := []) rfl rfl (am_ca_v (ps := [.int (iz x5), .int (iz (zrem (m x1 x8.toNat) 64))]) rfl ko_262) (Nat.le_of_ble_eq_true rfl) (Ci.weak hw fun z9 m6 J7 P8 hw => ?_)
        obtain ⟨hp10, hw⟩ := hw
        refine s_istore (pc := 85) (L' := [some (.ref 262), some (.ref x1), some (.int (iz x2)), some (.int (iz x3)), some (.ref x4), some (.int (iz x5)), some (.int (iz x6)), some (.int (iz x7)), some (.int (iz x8)), some (.int (iz (m x1 x8.toNat))), some (.int (iz z9))]) rfl (Nat.le_of_ble_eq_true rfl) rfl ?_
        refine s_aload_n (pc := 87) rfl rfl ?_
        refine s_getA (pc := 88) rfl ko_262 (po_262_79 hp10) ?_
        refine s_iload (pc := 91) rfl rfl ?_
        refine s_iload_n (pc := 93) rfl rfl ?_
        refine s_isub (pc := 94) rfl ?_
        refine s_iload (pc := 95) rfl rfl ?_
        obtain ⟨hb11, hw⟩ := hw
        refine s_iast (pc := 97) rfl ka_312 (by decide) hb11 ?_
        refine s_iload (pc := 98) rfl rfl ?_
        refine s_iload_n (pc := 100) rfl rfl ?_
        obtain ⟨hz12, hw⟩ := hw
        obtain ⟨hz13, hw⟩ := hw
        refine s_ic_ne (pc := 101) (tgt := 111) rfl rfl hz12 hz13 (fun hc => ?_) (fun hc => ?_)
        · replace hw := hw.1 hc
          refine s_aload_n (pc := 111) rfl rfl ?_
          refine s_getA (pc := 112) rfl ko_262 (po_262_73 hp10) ?_
          refine s_iconst (pc := 115) rfl ?_
          refine s_aload_n (pc := 116) rfl rfl ?_
          refine s_getA (pc := 117) rfl ko_262 (po_262_77 hp10) ?_
          refine s_iload (pc := 120) rfl rfl ?_
          refine s_iconst (pc := 122) rfl ?_
          refine s_isub (pc := 123) rfl ?_
          obtain ⟨hb14, hw⟩ := hw
          refine s_iald (pc := 124) rfl ka_310 (by decide) hb14 ?_
          refine s_imul (pc := 125) rfl ?_
          refine s_aload_n (pc := 126) rfl rfl ?_
          refine s_getA (pc := 127) rfl ko_262 (po_262_78 hp10) ?_
          refine s_iload (pc := 130) rfl rfl ?_
          refine s_iconst (pc := 132) rfl ?_
          refine s_isub (pc := 133) rfl ?_
          obtain ⟨hb15, hw⟩ := hw
          refine s_iald (pc := 134) rfl ka_311 (by decide) hb15 ?_
          refine s_iadd (pc := 135) rfl ?_
          refine s_iload (pc := 136) rfl rfl ?_
          obtain ⟨hb16, hw⟩ := hw
          refine s_iast (pc := 138) rfl ka_307 (by decide) hb16 ?_
          exact hw
        · replace hw := hw.2 hc
          refine s_iload (pc := 104) rfl rfl ?_
          refine s_istore (pc := 106) (L' := [some (.ref 262), some (.ref x1), some (.int (iz x2)), some (.int (iz x3)), some (.ref x4), some (.int (iz x5)), some (.int (iz x6)), some (.int (iz z9)), some (.int (iz x8)), some (.int (iz (m x1 x8.toNat))), some (.int (iz z9))]) rfl (Nat.le_of_ble_eq_true rfl) rfl ?_
          refine s_goto (pc := 108) (tgt := 139) rfl rfl ?_
          exact hw
      · replace hw := hw.2 hc
        refine s_iload (pc := 72) rfl rfl ?_
        refine s_bipush (pc := 74) rfl (by decide) ?_
        refine s_idiv (pc := 76) rfl (by decide) ?_
        refine s_goto (pc := 77) (tgt := 82) rfl rfl ?_
        refine s_ci (pc := 82) (d := d) (t := []) rfl rfl (am_ca_v (ps := [.int (iz (zdiv (m x1 x8.toNat) 64)), .int (iz (zrem (m x1 x8.toNat) 64))]) rfl ko_262) (Nat.le_of_ble_eq_true rfl) (Ci.weak hw fun z20 m17 J18 P19 hw => ?_)
        obtain ⟨hp21, hw⟩ := hw
        refine s_istore (pc := 85) (L' := [some (.ref 262), some (.ref x1), some (.int (iz x2)), some (.int (iz x3)), some (.ref x4), some (.int (iz x5)), some (.int (iz x6)), some (.int (iz x7)), some (.int (iz x8)), some (.int (iz (m x1 x8.toNat))), some (.int (iz z20))]) rfl (Nat.le_of_ble_eq_true rfl) rfl ?_
        refine s_aload_n (pc := 87) rfl rfl ?_
        refine s_getA (pc := 88) rfl ko_262 (po_262_79 hp21) ?_
        refine s_iload (pc := 91) rfl rfl ?_
        refine s_iload_n (pc := 93) rfl rfl ?_
        refine s_isub (pc := 94) rfl ?_
        refine s_iload (pc := 95) rfl rfl ?_
        obtain ⟨hb22, hw⟩ := hw
        refine s_iast (pc := 97) rfl ka_312 (by decide) hb22 ?_
        refine s_iload (pc := 98) rfl rfl ?_
        refine s_iload_n (pc := 100) rfl rfl ?_
        obtain ⟨hz23, hw⟩ := hw
        obtain ⟨hz24, hw⟩ := hw
        refine s_ic_ne (pc := 101) (tgt := 111) rfl rfl hz23 hz24 (fun hc => ?_) (fun hc => ?_)
        · replace hw := hw.1 hc
          refine s_aload_n (pc := 111) rfl rfl ?_
          refine s_getA (pc := 112) rfl ko_262 (po_262_73 hp21) ?_
          refine s_iconst (pc := 115) rfl ?_
          refine s_aload_n (pc := 116) rfl rfl ?_
          refine s_getA (pc := 117) rfl ko_262 (po_262_77 hp21) ?_
          refine s_iload (pc := 120) rfl rfl ?_
          refine s_iconst (pc := 122) rfl ?_
          refine s_isub (pc := 123) rfl ?_
          obtain ⟨hb25, hw⟩ := hw
          refine s_iald (pc := 124) rfl ka_310 (by decide) hb25 ?_
          refine s_imul (pc := 125) rfl ?_
          refine s_aload_n (pc := 126) rfl rfl ?_
          refine s_getA (pc := 127) rfl ko_262 (po_262_78 hp21) ?_
          refine s_iload (pc := 130) rfl rfl ?_
          refine s_iconst (pc := 132) rfl ?_
          refine s_isub (pc := 133) rfl ?_
          obtain ⟨hb26, hw⟩ := hw
          refine s_iald (pc := 134) rfl ka_311 (by decide) hb26 ?_
          refine s_iadd (pc := 135) rfl ?_
          refine s_iload (pc := 136) rfl rfl ?_
          obtain ⟨hb27, hw⟩ := hw
          refine s_iast (pc := 138) rfl ka_307 (by decide) hb27 ?_
          exact hw
        · replace hw := hw.2 hc
          refine s_iload (pc := 104) rfl rfl ?_
          refine s_istore (pc := 106) (L' := [some (.ref 262), some (.ref x1), some (.int (iz x2)), some (.int (iz x3)), some (.ref x4), some (.int (iz x5)), some (.int (iz x6)), some (.int (iz z20)), some (.int (iz x8)), some (.int (iz (m x1 x8.toNat))), some (.int (iz z20))]) rfl (Nat.le_of_ble_eq_true rfl) rfl ?_
          refine s_goto (pc := 108) (tgt := 139) rfl rfl ?_
          exact hw
    · replace hw := hw.2 hc
      refine s_aload (pc := 26) rfl rfl ?_
      refine s_iconst (pc := 28) rfl ?_
      refine s_iload (pc := 29) rfl rfl ?_
      refine s_isub (pc := 31) rfl ?_
      obtain ⟨hb28, hw⟩ := hw
      refine s_iald (pc := 32) rfl kx4 bx4 hb28 ?_
      obtain ⟨hz29, hw⟩ := hw
      refine s_if_ge (pc := 33) (tgt := 49) rfl rfl hz29 (fun hc => ?_) (fun hc => ?_)
      · replace hw := hw.1 hc
        refine s_aload (pc := 49) rfl rfl ?_
        refine s_iconst (pc := 51) rfl ?_
        refine s_iload (pc := 52) rfl rfl ?_
        refine s_isub (pc := 54) rfl ?_
        obtain ⟨hb30, hw⟩ := hw
        refine s_iald (pc := 55) rfl kx4 bx4 hb30 ?_
        refine s_istore (pc := 56) (L' := [some (.ref 262), some (.ref x1), some (.int (iz x2)), some (.int (iz x3)), some (.ref x4), some (.int (iz x5)), some (.int (iz x6)), some (.int (iz x7)), some (.int (iz x8)), some (.int (iz (m x1 x8.toNat))), some (.int (iz (m x4 (((-1)) - (m x1 x8.toNat)).toNat)))]) rfl (Nat.le_of_ble_eq_true rfl) rfl ?_
        refine s_goto (pc := 58) (tgt := 87) rfl rfl ?_
        refine s_aload_n (pc := 87) rfl rfl ?_
        refine s_getA (pc := 88) rfl ko_262 (po_262_79 hp) ?_
        refine s_iload (pc := 91) rfl rfl ?_
        refine s_iload_n (pc := 93) rfl rfl ?_
        refine s_isub (pc := 94) rfl ?_
        refine s_iload (pc := 95) rfl rfl ?_
        obtain ⟨hb31, hw⟩ := hw
        refine s_iast (pc := 97) rfl ka_312 (by decide) hb31 ?_
        refine s_iload (pc := 98) rfl rfl ?_
        refine s_iload_n (pc := 100) rfl rfl ?_
        obtain ⟨hz32, hw⟩ := hw
        obtain ⟨hz33, hw⟩ := hw
        refine s_ic_ne (pc := 101) (tgt := 111) rfl rfl hz32 hz33 (fun hc => ?_) (fun hc => ?_)
        · replace hw := hw.1 hc
          refine s_aload_n (pc := 111) rfl rfl ?_
          refine s_getA (pc := 112) rfl ko_262 (po_262_73 hp) ?_
          refine s_iconst (pc := 115) rfl ?_
          refine s_aload_n (pc := 116) rfl rfl ?_
          refine s_getA (pc := 117) rfl ko_262 (po_262_77 hp) ?_
          refine s_iload (pc := 120) rfl rfl ?_
          refine s_iconst (pc := 122) rfl ?_
          refine s_isub (pc := 123) rfl ?_
          obtain ⟨hb34, hw⟩ := hw
          refine s_iald (pc := 124) rfl ka_310 (by decide) hb34 ?_
          refine s_imul (pc := 125) rfl ?_
          refine s_aload_n (pc := 126) rfl rfl ?_
          refine s_getA (pc := 127) rfl ko_262 (po_262_78 hp) ?_
          refine s_iload (pc := 130) rfl rfl ?_
          refine s_iconst (pc := 132) rfl ?_
          refine s_isub (pc := 133) rfl ?_
          obtain ⟨hb35, hw⟩ := hw
          refine s_iald (pc := 134) rfl ka_311 (by decide) hb35 ?_
          refine s_iadd (pc := 135) rfl ?_
          refine s_iload (pc := 136) rfl rfl ?_
          obtain ⟨hb36, hw⟩ := hw
          refine s_iast (pc := 138) rfl ka_307 (by decide) hb36 ?_
          exact hw
        · replace hw := hw.2 hc
          refine s_iload (pc := 104) rfl rfl ?_
          refine s_istore (pc := 106) (L' := [some (.ref 262), some (.ref x1), some (.int (iz x2)), some (.int (iz x3)), some (.ref x4), some (.int (iz x5)), some (.int (iz x6)), some (.int (iz (m x4 (((-1)) - (m x1 x8.toNat)).toNat))), some (.int (iz x8)), some (.int (iz (m x1 x8.toNat))), some (.int (iz (m x4 (((-1)) - (m x1 x8.toNat)).toNat)))]) rfl (Nat.le_of_ble_eq_true rfl) rfl ?_
          refine s_goto (pc := 108) (tgt := 139) rfl rfl ?_
          exact hw
      · replace hw := hw.2 hc
        refine s_aload (pc := 36) rfl rfl ?_
        refine s_iconst (pc := 38) rfl ?_
        refine s_iload (pc := 39) rfl rfl ?_
        refine s_isub (pc := 41) rfl ?_
        refine s_aload_n (pc := 42) rfl rfl ?_
        refine s_iconst (pc := 43) rfl ?_
        refine s_iconst (pc := 44) rfl ?_
        refine s_ci (pc := 45) (d := d) (t := [.int (iz (((-1)) - (m x1 x8.toNat))), .ref x4]) rfl rfl (am_ca_v (ps := [.int (iz 0), .int (iz ((-1)))]) rfl ko_262) (Nat.le_of_ble_eq_true rfl) (Ci.weak hw fun z40 m37 J38 P39 hw => ?_)
        obtain ⟨hp41, hw⟩ := hw
        obtain ⟨hb42, hw⟩ := hw
        refine s_iast (pc := 48) rfl kx4 bx4 hb42 ?_
        refine s_aload (pc := 49) rfl rfl ?_
        refine s_iconst (pc := 51) rfl ?_
        refine s_iload (pc := 52) rfl rfl ?_
        refine s_isub (pc := 54) rfl ?_
        obtain ⟨hb43, hw⟩ := hw
        refine s_iald (pc := 55) rfl kx4 bx4 hb43 ?_
        refine s_istore (pc := 56) (L' := [some (.ref 262), some (.ref x1), some (.int (iz x2)), some (.int (iz x3)), some (.ref x4), some (.int (iz x5)), some (.int (iz x6)), some (.int (iz x7)), some (.int (iz x8)), some (.int (iz (m x1 x8.toNat))), some (.int (iz ((mu m37 x4 (((-1)) - (m x1 x8.toNat)).toNat z40) x4 (((-1)) - (m x1 x8.toNat)).toNat)))]) rfl (Nat.le_of_ble_eq_true rfl) rfl ?_
        refine s_goto (pc := 58) (tgt := 87) rfl rfl ?_
        refine s_aload_n (pc := 87) rfl rfl ?_
        refine s_getA (pc := 88) rfl ko_262 (po_262_79 hp41) ?_
        refine s_iload (pc := 91) rfl rfl ?_
        refine s_iload_n (pc := 93) rfl rfl ?_
        refine s_isub (pc := 94) rfl ?_
        refine s_iload (pc := 95) rfl rfl ?_
        obtain ⟨hb44, hw⟩ := hw
        refine s_iast (pc := 97) rfl ka_312 (by decide) hb44 ?_
        refine s_iload (pc := 98) rfl rfl ?_
        refine s_iload_n (pc := 100) rfl rfl ?_
        obtain ⟨hz45, hw⟩ := hw
        obtain ⟨hz46, hw⟩ := hw
        refine s_ic_ne (pc := 101) (tgt := 111) rfl rfl hz45 hz46 (fun hc => ?_) (fun hc => ?_)
        · replace hw := hw.1 hc
          refine s_aload_n (pc := 111) rfl rfl ?_
          refine s_getA (pc := 112) rfl ko_262 (po_262_73 hp41) ?_
          refine s_iconst (pc := 115) rfl ?_
          refine s_aload_n (pc := 116) rfl rfl ?_
          refine s_getA (pc := 117) rfl ko_262 (po_262_77 hp41) ?_
          refine s_iload (pc := 120) rfl rfl ?_
          refine s_iconst (pc := 122) rfl ?_
          refine s_isub (pc := 123) rfl ?_
          obtain ⟨hb47, hw⟩ := hw
          refine s_iald (pc := 124) rfl ka_310 (by decide) hb47 ?_
          refine s_imul (pc := 125) rfl ?_
          refine s_aload_n (pc := 126) rfl rfl ?_
          refine s_getA (pc := 127) rfl ko_262 (po_262_78 hp41) ?_
          refine s_iload (pc := 130) rfl rfl ?_
          refine s_iconst (pc := 132) rfl ?_
          refine s_isub (pc := 133) rfl ?_
          obtain ⟨hb48, hw⟩ := hw
          refine s_iald (pc := 134) rfl ka_311 (by decide) hb48 ?_
          refine s_iadd (pc := 135) rfl ?_
          refine s_iload (pc := 136) rfl rfl ?_
          obtain ⟨hb49, hw⟩ := hw
          refine s_iast (pc := 138) rfl ka_307 (by decide) hb49 ?_
          exact hw
        · replace hw := hw.2 hc
          refine s_iload (pc := 104) rfl rfl ?_
          refine s_istore (pc := 106) (L' := [some (.ref 262), some (.ref x1), some (.int (iz x2)), some (.int (iz x3)), some (.ref x4), some (.int (iz x5)), some (.int (iz x6)), some (.int (iz ((mu m37 x4 (((-1)) - (m x1 x8.toNat)).toNat z40) x4 (((-1)) - (m x1 x8.toNat)).toNat))), some (.int (iz x8)), some (.int (iz (m x1 x8.toNat))), some (.int (iz ((mu m37 x4 (((-1)) - (m x1 x8.toNat)).toNat z40) x4 (((-1)) - (m x1 x8.toNat)).toNat)))]) rfl (Nat.le_of_ble_eq_true rfl) rfl ?_
          refine s_goto (pc := 108) (tgt := 139) rfl rfl ?_
          exact hw

set_option maxRecDepth 20000 in
set_option maxHeartbeats 4000000 in
theorem b_Mdl_load_139 {X : aX} {d : Nat} (x1 nx1 : Nat) (x2 : Int) (x3 : Int) (x4 nx4 : Nat) (x5 : Int) (x6 : Int) (x7 : Int) (x8 : Int) (x9 : Int) (x10 : Int) (kx1 : am_kd an_K x1 = some (.inr (0, nx1))) (bx1 : nx1 ≤ 100000) (kx4 : am_kd an_K x4 = some (.inr (0, nx4))) (bx4 : nx4 ≤ 100000) (m : Mi) (J : Mj) (P : Mp) (hp : PP P) (post : Int → Mi → Mj → Mp → Prop)
    (hw : Zr (x8) ∧ Zr (x2) ∧ (((x8 ≤ x2) → Zr (x9) ∧ (((x9 < 0) → Rn X (d + 1) 166 183 [some (.ref 262), some (.ref x1), some (.int (iz x2)), some (.int (iz x3)), some (.ref x4), some (.int (iz x5)), some (.int (iz x6)), some (.int (iz x7)), some (.int (iz x8)), some (.int (iz x9)), some (.int (iz x10))] [] (SS m J P) (QI post)) ∧ (¬ (x9 < 0) → ((0 : Int) ≤ x6 ∧ (x6 : Int) < 201) ∧ ((0 : Int) ≤ x6 ∧ (x6 : Int) < 201) ∧ Rn X (d + 1) 166 183 [some (.ref 262), some (.ref x1), some (.int (iz x2)), some (.int (iz x3)), some (.ref x4), some (.int (iz x5)), some (.int (iz (x6 + 1))), some (.int (iz x7)), some (.int (iz x8)), some (.int (iz x9)), some (.int (iz x10))] [] (SS (mu (mu m 310 x6.toNat x10) 311 x6.toNat 0) J P) (QI post)))) ∧ (¬ (x8 ≤ x2) → ((0 : Int) ≤ (x6 - 1) ∧ ((x6 - 1) : Int) < 201) ∧ ((0 : Int) ≤ (x6 - 1) ∧ ((x6 - 1) : Int) < 201) ∧ Zr (x9) ∧ (((x9 < 0) → Rn X (d + 1) 166 183 [some (.ref 262), some (.ref x1), some (.int (iz x2)), some (.int (iz x3)), some (.ref x4), some (.int (iz x5)), some (.int (iz x6)), some (.int (iz x7)), some (.int (iz x8)), some (.int (iz x9)), some (.int (iz x10))] [] (SS (mu m 311 (x6 - 1).toNat ((m 311 (x6 - 1).toNat) + 1)) J P) (QI post)) ∧ (¬ (x9 < 0) → ((0 : Int) ≤ x6 ∧ (x6 : Int) < 201) ∧ ((0 : Int) ≤ x6 ∧ (x6 : Int) < 201) ∧ Rn X (d + 1) 166 183 [some (.ref 262), some (.ref x1), some (.int (iz x2)), some (.int (iz x3)), some (.ref x4), some (.int (iz x5)), some (.int (iz (x6 + 1))), some (.int (iz x7)), some (.int (iz x8)), some (.int (iz x9)), some (.int (iz x10))] [] (SS (mu (mu (mu m 311 (x6 - 1).toNat ((m 311 (x6 - 1).toNat) + 1)) 310 x6.toNat x10) 311 x6.toNat 0) J P) (QI post)))))) : Rn X (d + 1) 166 139 [some (.ref 262), some (.ref x1), some (.int (iz x2)), some (.int (iz x3)), some (.ref x4), some (.int (iz x5)), some (.int (iz x6)), some (.int (iz x7)), some (.int (iz x8)), some (.int (iz x9)), some (.int (iz x10))] [] (SS m J P) (QI post) := by
  refine s_iload (pc := 139) rfl rfl ?_
  refine s_iload_n (pc := 141) rfl rfl ?_
  obtain ⟨hz1, hw⟩ := hw
  obtain ⟨hz2, hw⟩ := hw
  refine s_ic_le (pc := 142) (tgt := 158) rfl rfl hz1 hz2 (fun hc => ?_) (fun hc => ?_)
  · replace hw := hw.1 hc
    refine s_iload (pc := 158) rfl rfl ?_
    obtain ⟨hz3, hw⟩ := hw
    refine s_if_lt (pc := 160) (tgt := 183) rfl rfl hz3 (fun hc => ?_) (fun hc => ?_)
    · replace hw := hw.1 hc
      exact hw
    · replace hw := hw.2 hc
      refine s_aload_n (pc := 163) rfl rfl ?_
      refine s_getA (pc := 164) rfl ko_262 (po_262_77 hp) ?_
      refine s_iload (pc := 167) rfl rfl ?_
      refine s_iload (pc := 169) rfl rfl ?_
      obtain ⟨hb4, hw⟩ := hw
      refine s_iast (pc := 171) rfl ka_310 (by decide) hb4 ?_
      refine s_aload_n (pc := 172) rfl rfl ?_
      refine s_getA (pc := 173) rfl ko_262 (po_262_78 hp) ?_
      refine s_iload (pc := 176) rfl rfl ?_
      refine s_iconst (pc := 178) rfl ?_
      obtain ⟨hb5, hw⟩ := hw
      refine s_iast (pc := 179) rfl ka_311 (by decide) hb5 ?_
      refine s_iinc (pc := 180) (L' := [some (.ref 262), some (.ref x1), some (.int (iz x2)), some (.int (iz x3)), some (.ref x4), some (.int (iz x5)), some (.int (iz (x6 + 1))), some (.int (iz x7)), some (.int (iz x8)), some (.int (iz x9)), some (.int (iz x10))]) rfl rfl (Nat.le_of_ble_eq_true rfl) rfl ?_
      exact hw
  · replace hw := hw.2 hc
    refine s_aload_n (pc := 145) rfl rfl ?_
    refine s_getA (pc := 146) rfl ko_262 (po_262_78 hp) ?_
    refine s_iload (pc := 149) rfl rfl ?_
    refine s_iconst (pc := 151) rfl ?_
    refine s_isub (pc := 152) rfl ?_
    refine s_dup2 (pc := 153) rfl ⟨rfl, rfl⟩ ?_
    obtain ⟨hb6, hw⟩ := hw
    refine s_iald (pc := 154) rfl ka_311 (by decide) hb6 ?_
    refine s_iconst (pc := 155) rfl ?_
    refine s_iadd (pc := 156) rfl ?_
    obtain ⟨hb7, hw⟩ := hw
    refine s_iast (pc := 157) rfl ka_311 (by decide) hb7 ?_
    refine s_iload (pc := 158) rfl rfl ?_
    obtain ⟨hz8, hw⟩ := hw
    refine s_if_lt (pc := 160) (tgt := 183) rfl rfl hz8 (fun hc => ?_) (fun hc => ?_)
    · replace hw := hw.1 hc
      exact hw
    · replace hw := hw.2 hc
      refine s_aload_n (pc := 163) rfl rfl ?_
      refine s_getA (pc := 164) rfl ko_262 (po_262_77 hp) ?_
      refine s_iload (pc := 167) rfl rfl ?_
      refine s_iload (pc := 169) rfl rfl ?_
      obtain ⟨hb9, hw⟩ := hw
      refine s_iast (pc := 171) rfl ka_310 (by decide) hb9 ?_
      refine s_aload_n (pc := 172) rfl rfl ?_
      refine s_getA (pc := 173) rfl ko_262 (po_262_78 hp) ?_
      refine s_iload (pc := 176) rfl rfl ?_
      refine s_iconst (pc := 178) rfl ?_
      obtain ⟨hb10, hw⟩ := hw
      refine s_iast (pc := 179) rfl ka_311 (by decide) hb10 ?_
      refine s_iinc (pc := 180) (L' := [some (.ref 262), some (.ref x1), some (.int (iz x2)), some (.int (iz x3)), some (.ref x4), some (.int (iz x5)), some (.int (iz (x6 + 1))), some (.int (iz x7)), some (.int (iz x8)), some (.int (iz x9)), some (.int (iz x10))]) rfl rfl (Nat.le_of_ble_eq_true rfl) rfl ?_
      exact hw

set_option maxRecDepth 20000 in
set_option maxHeartbeats 4000000 in
theorem b_Mdl_load_183 {X : aX} {d : Nat} (x1 nx1 : Nat) (x2 : Int) (x3 : Int) (x4 nx4 : Nat) (x5 : Int) (x6 : Int) (x7 : Int) (x8 : Int) (x9 : Int) (x10 : Int) (kx1 : am_kd an_K x1 = some (.inr (0, nx1))) (bx1 : nx1 ≤ 100000) (kx4 : am_kd an_K x4 = some (.inr (0, nx4))) (bx4 : nx4 ≤ 100000) (m : Mi) (J : Mj) (P : Mp) (hp : PP P) (post : Int → Mi → Mj → Mp → Prop)
    (hw : Zr (x6) ∧ (((x6 ≤ 0) → Rn X (d + 1) 166 9 [some (.ref 262), some (.ref x1), some (.int (iz x2)), some (.int (iz x3)), some (.ref x4), some (.int (iz x5)), some (.int (iz x6)), some (.int (iz x7)), some (.int (iz (x8 + 1))), none, none] [] (SS m J P) (QI post)) ∧ (¬ (x6 ≤ 0) → ((0 : Int) ≤ (x6 - 1) ∧ ((x6 - 1) : Int) < 201) ∧ ((0 : Int) ≤ (x6 - 1) ∧ ((x6 - 1) : Int) < 201) ∧ ((0 : Int) ≤ (m 310 (x6 - 1).toNat) ∧ ((m 310 (x6 - 1).toNat) : Int) < 2000) ∧ ((0 : Int) ≤ (m 302 (m 310 (x6 - 1).toNat).toNat) ∧ ((m 302 (m 310 (x6 - 1).toNat).toNat) : Int) < 16) ∧ Zr (m 311 (x6 - 1).toNat) ∧ Zr (m 280 (m 302 (m 310 (x6 - 1).toNat).toNat).toNat) ∧ (((¬ (m 311 (x6 - 1).toNat) = (m 280 (m 302 (m 310 (x6 - 1).toNat).toNat).toNat)) → Rn X (d + 1) 166 9 [some (.ref 262), some (.ref x1), some (.int (iz x2)), some (.int (iz x3)), some (.ref x4), some (.int (iz x5)), some (.int (iz x6)), some (.int (iz x7)), some (.int (iz (x8 + 1))), none, none] [] (SS m J P) (QI post)) ∧ (¬ (¬ (m 311 (x6 - 1).toNat) = (m 280 (m 302 (m 310 (x6 - 1).toNat).toNat).toNat)) → Rn X (d + 1) 166 183 [some (.ref 262), some (.ref x1), some (.int (iz x2)), some (.int (iz x3)), some (.ref x4), some (.int (iz x5)), some (.int (iz (x6 + (-1)))), some (.int (iz x7)), some (.int (iz x8)), some (.int (iz x9)), some (.int (iz x10))] [] (SS m J P) (QI post)))))) : Rn X (d + 1) 166 183 [some (.ref 262), some (.ref x1), some (.int (iz x2)), some (.int (iz x3)), some (.ref x4), some (.int (iz x5)), some (.int (iz x6)), some (.int (iz x7)), some (.int (iz x8)), some (.int (iz x9)), some (.int (iz x10))] [] (SS m J P) (QI post) := by
  refine s_iload (pc := 183) rfl rfl ?_
  obtain ⟨hz1, hw⟩ := hw
  refine s_if_le (pc := 185) (tgt := 225) rfl rfl hz1 (fun hc => ?_) (fun hc => ?_)
  · replace hw := hw.1 hc
    refine s_iinc (pc := 225) (L' := [some (.ref 262), some (.ref x1), some (.int (iz x2)), some (.int (iz x3)), some (.ref x4), some (.int (iz x5)), some (.int (iz x6)), some (.int (iz x7)), some (.int (iz (x8 + 1))), some (.int (iz x9)), some (.int (iz x10))]) rfl rfl (Nat.le_of_ble_eq_true rfl) rfl ?_
    refine s_goto (pc := 228) (tgt := 9) rfl rfl ?_
    exact Rn.weakL hw (LLe.keep _ (LLe.keep _ (LLe.keep _ (LLe.keep _ (LLe.keep _ (LLe.keep _ (LLe.keep _ (LLe.keep _ (LLe.keep _ (LLe.drop _ (LLe.drop _ (LLe.nil))))))))))))
  · replace hw := hw.2 hc
    refine s_aload_n (pc := 188) rfl rfl ?_
    refine s_getA (pc := 189) rfl ko_262 (po_262_78 hp) ?_
    refine s_iload (pc := 192) rfl rfl ?_
    refine s_iconst (pc := 194) rfl ?_
    refine s_isub (pc := 195) rfl ?_
    obtain ⟨hb2, hw⟩ := hw
    refine s_iald (pc := 196) rfl ka_311 (by decide) hb2 ?_
    refine s_aload_n (pc := 197) rfl rfl ?_
    refine s_getA (pc := 198) rfl ko_262 (po_262_37 hp) ?_
    refine s_aload_n (pc := 201) rfl rfl ?_
    refine s_getA (pc := 202) rfl ko_262 (po_262_68 hp) ?_
    refine s_aload_n (pc := 205) rfl rfl ?_
    refine s_getA (pc := 206) rfl ko_262 (po_262_77 hp) ?_
    refine s_iload (pc := 209) rfl rfl ?_
    refine s_iconst (pc := 211) rfl ?_
    refine s_isub (pc := 212) rfl ?_
    obtain ⟨hb3, hw⟩ := hw
    refine s_iald (pc := 213) rfl ka_310 (by decide) hb3 ?_
    obtain ⟨hb4, hw⟩ := hw
    refine s_iald (pc := 214) rfl ka_302 (by decide) hb4 ?_
    obtain ⟨hb5, hw⟩ := hw
    refine s_iald (pc := 215) rfl ka_280 (by decide) hb5 ?_
    obtain ⟨hz6, hw⟩ := hw
    obtain ⟨hz7, hw⟩ := hw
    refine s_ic_ne (pc := 216) (tgt := 225) rfl rfl hz6 hz7 (fun hc => ?_) (fun hc => ?_)
    · replace hw := hw.1 hc
      refine s_iinc (pc := 225) (L' := [some (.ref 262), some (.ref x1), some (.int (iz x2)), some (.int (iz x3)), some (.ref x4), some (.int (iz x5)), some (.int (iz x6)), some (.int (iz x7)), some (.int (iz (x8 + 1))), some (.int (iz x9)), some (.int (iz x10))]) rfl rfl (Nat.le_of_ble_eq_true rfl) rfl ?_
      refine s_goto (pc := 228) (tgt := 9) rfl rfl ?_
      exact Rn.weakL hw (LLe.keep _ (LLe.keep _ (LLe.keep _ (LLe.keep _ (LLe.keep _ (LLe.keep _ (LLe.keep _ (LLe.keep _ (LLe.keep _ (LLe.drop _ (LLe.drop _ (LLe.nil))))))))))))
    · replace hw := hw.2 hc
      refine s_iinc (pc := 219) (L' := [some (.ref 262), some (.ref x1), some (.int (iz x2)), some (.int (iz x3)), some (.ref x4), some (.int (iz x5)), some (.int (iz (x6 + (-1)))), some (.int (iz x7)), some (.int (iz x8)), some (.int (iz x9)), some (.int (iz x10))]) rfl rfl (Nat.le_of_ble_eq_true rfl) rfl ?_
      refine s_goto (pc := 222) (tgt := 183) rfl rfl ?_
      exact hw

set_option maxRecDepth 20000 in
set_option maxHeartbeats 4000000 in
theorem b_Mdl_newNode_0 {X : aX} {d : Nat} (x1 : Int) (x2 : Int)  (m : Mi) (J : Mj) (P : Mp) (hp : PP P) (post : Int → Mi → Mj → Mp → Prop)
    (hw : ((0 : Int) ≤ (m 262 74) ∧ ((m 262 74) : Int) < 2000) ∧ ((0 : Int) ≤ ((mu m 302 (m 262 74).toNat x1) 262 74) ∧ (((mu m 302 (m 262 74).toNat x1) 262 74) : Int) < 2000) ∧ ((0 : Int) ≤ ((mu (mu m 302 (m 262 74).toNat x1) 303 ((mu m 302 (m 262 74).toNat x1) 262 74).toNat ((-1))) 262 74) ∧ (((mu (mu m 302 (m 262 74).toNat x1) 303 ((mu m 302 (m 262 74).toNat x1) 262 74).toNat ((-1))) 262 74) : Int) < 2000) ∧ ((0 : Int) ≤ ((mu (mu (mu m 302 (m 262 74).toNat x1) 303 ((mu m 302 (m 262 74).toNat x1) 262 74).toNat ((-1))) 304 ((mu (mu m 302 (m 262 74).toNat x1) 303 ((mu m 302 (m 262 74).toNat x1) 262 74).toNat ((-1))) 262 74).toNat x2) 262 74) ∧ (((mu (mu (mu m 302 (m 262 74).toNat x1) 303 ((mu m 302 (m 262 74).toNat x1) 262 74).toNat ((-1))) 304 ((mu (mu m 302 (m 262 74).toNat x1) 303 ((mu m 302 (m 262 74).toNat x1) 262 74).toNat ((-1))) 262 74).toNat x2) 262 74) : Int) < 2000) ∧ ((0 : Int) ≤ ((mu (mu (mu (mu m 302 (m 262 74).toNat x1) 303 ((mu m 302 (m 262 74).toNat x1) 262 74).toNat ((-1))) 304 ((mu (mu m 302 (m 262 74).toNat x1) 303 ((mu m 302 (m 262 74).toNat x1) 262 74).toNat ((-1))) 262 74).toNat x2) 305 ((mu (mu (mu m 302 (m 262 74).toNat x1) 303 ((mu m 302 (m 262 74).toNat x1) 262 74).toNat ((-1))) 304 ((mu (mu m 302 (m 262 74).toNat x1) 303 ((mu m 302 (m 262 74).toNat x1) 262 74).toNat ((-1))) 262 74).toNat x2) 262 74).toNat 0) 262 74) ∧ (((mu (mu (mu (mu m 302 (m 262 74).toNat x1) 303 ((mu m 302 (m 262 74).toNat x1) 262 74).toNat ((-1))) 304 ((mu (mu m 302 (m 262 74).toNat x1) 303 ((mu m 302 (m 262 74).toNat x1) 262 74).toNat ((-1))) 262 74).toNat x2) 305 ((mu (mu (mu m 302 (m 262 74).toNat x1) 303 ((mu m 302 (m 262 74).toNat x1) 262 74).toNat ((-1))) 304 ((mu (mu m 302 (m 262 74).toNat x1) 303 ((mu m 302 (m 262 74).toNat x1) 262 74).toNat ((-1))) 262 74).toNat x2) 262 74).toNat 0) 262 74) : Int) < 2000) ∧ post (((mu (mu (mu (mu (mu (mu m 302 (m 262 74).toNat x1) 303 ((mu m 302 (m 262 74).toNat x1) 262 74).toNat ((-1))) 304 ((mu (mu m 302 (m 262 74).toNat x1) 303 ((mu m 302 (m 262 74).toNat x1) 262 74).toNat ((-1))) 262 74).toNat x2) 305 ((mu (mu (mu m 302 (m 262 74).toNat x1) 303 ((mu m 302 (m 262 74).toNat x1) 262 74).toNat ((-1))) 304 ((mu (mu m 302 (m 262 74).toNat x1) 303 ((mu m 302 (m 262 74).toNat x1) 262 74).toNat ((-1))) 262 74).toNat x2) 262 74).toNat 0) 306 ((mu (mu (mu (mu m 302 (m 262 74).toNat x1) 303 ((mu m 302 (m 262 74).toNat x1) 262 74).toNat ((-1))) 304 ((mu (mu m 302 (m 262 74).toNat x1) 303 ((mu m 302 (m 262 74).toNat x1) 262 74).toNat ((-1))) 262 74).toNat x2) 305 ((mu (mu (mu m 302 (m 262 74).toNat x1) 303 ((mu m 302 (m 262 74).toNat x1) 262 74).toNat ((-1))) 304 ((mu (mu m 302 (m 262 74).toNat x1) 303 ((mu m 302 (m 262 74).toNat x1) 262 74).toNat ((-1))) 262 74).toNat x2) 262 74).toNat 0) 262 74).toNat ((-1))) 262 74 (((mu (mu (mu (mu (mu m 302 (m 262 74).toNat x1) 303 ((mu m 302 (m 262 74).toNat x1) 262 74).toNat ((-1))) 304 ((mu (mu m 302 (m 262 74).toNat x1) 303 ((mu m 302 (m 262 74).toNat x1) 262 74).toNat ((-1))) 262 74).toNat x2) 305 ((mu (mu (mu m 302 (m 262 74).toNat x1) 303 ((mu m 302 (m 262 74).toNat x1) 262 74).toNat ((-1))) 304 ((mu (mu m 302 (m 262 74).toNat x1) 303 ((mu m 302 (m 262 74).toNat x1) 262 74).toNat ((-1))) 262 74).toNat x2) 262 74).toNat 0) 306 ((mu (mu (mu (mu m 302 (m 262 74).toNat x1) 303 ((mu m 302 (m 262 74).toNat x1) 262 74).toNat ((-1))) 304 ((mu (mu m 302 (m 262 74).toNat x1) 303 ((mu m 302 (m 262 74).toNat x1) 262 74).toNat ((-1))) 262 74).toNat x2) 305 ((mu (mu (mu m 302 (m 262 74).toNat x1) 303 ((mu m 302 (m 262 74).toNat x1) 262 74).toNat ((-1))) 304 ((mu (mu m 302 (m 262 74).toNat x1) 303 ((mu m 302 (m 262 74).toNat x1) 262 74).toNat ((-1))) 262 74).toNat x2) 262 74).toNat 0) 262 74).toNat ((-1))) 262 74) + 1)) 262 74) - 1) (mu (mu (mu (mu (mu (mu m 302 (m 262 74).toNat x1) 303 ((mu m 302 (m 262 74).toNat x1) 262 74).toNat ((-1))) 304 ((mu (mu m 302 (m 262 74).toNat x1) 303 ((mu m 302 (m 262 74).toNat x1) 262 74).toNat ((-1))) 262 74).toNat x2) 305 ((mu (mu (mu m 302 (m 262 74).toNat x1) 303 ((mu m 302 (m 262 74).toNat x1) 262 74).toNat ((-1))) 304 ((mu (mu m 302 (m 262 74).toNat x1) 303 ((mu m 302 (m 262 74).toNat x1) 262 74).toNat ((-1))) 262 74).toNat x2) 262 74).toNat 0) 306 ((mu (mu (mu (mu m 302 (m 262 74).toNat x1) 303 ((mu m 302 (m 262 74).toNat x1) 262 74).toNat ((-1))) 304 ((mu (mu m 302 (m 262 74).toNat x1) 303 ((mu m 302 (m 262 74).toNat x1) 262 74).toNat ((-1))) 262 74).toNat x2) 305 ((mu (mu (mu m 302 (m 262 74).toNat x1) 303 ((mu m 302 (m 262 74).toNat x1) 262 74).toNat ((-1))) 304 ((mu (mu m 302 (m 262 74).toNat x1) 303 ((mu m 302 (m 262 74).toNat x1) 262 74).toNat ((-1))) 262 74).toNat x2) 262 74).toNat 0) 262 74).toNat ((-1))) 262 74 (((mu (mu (mu (mu (mu m 302 (m 262 74).toNat x1) 303 ((mu m 302 (m 262 74).toNat x1) 262 74).toNat ((-1))) 304 ((mu (mu m 302 (m 262 74).toNat x1) 303 ((mu m 302 (m 262 74).toNat x1) 262 74).toNat ((-1))) 262 74).toNat x2) 305 ((mu (mu (mu m 302 (m 262 74).toNat x1) 303 ((mu m 302 (m 262 74).toNat x1) 262 74).toNat ((-1))) 304 ((mu (mu m 302 (m 262 74).toNat x1) 303 ((mu m 302 (m 262 74).toNat x1) 262 74).toNat ((-1))) 262 74).toNat x2) 262 74).toNat 0) 306 ((mu (mu (mu (mu m 302 (m 262 74).toNat x1) 303 ((mu m 302 (m 262 74).toNat x1) 262 74).toNat ((-1))) 304 ((mu (mu m 302 (m 262 74).toNat x1) 303 ((mu m 302 (m 262 74).toNat x1) 262 74).toNat ((-1))) 262 74).toNat x2) 305 ((mu (mu (mu m 302 (m 262 74).toNat x1) 303 ((mu m 302 (m 262 74).toNat x1) 262 74).toNat ((-1))) 304 ((mu (mu m 302 (m 262 74).toNat x1) 303 ((mu m 302 (m 262 74).toNat x1) 262 74).toNat ((-1))) 262 74).toNat x2) 262 74).toNat 0) 262 74).toNat ((-1))) 262 74) + 1)) J P) : Rn X d 167 0 [some (.ref 262), some (.int (iz x1)), some (.int (iz x2))] [] (SS m J P) (QI post) := by
  refine s_aload_n (pc := 0) rfl rfl ?_
  refine s_getA (pc := 1) rfl ko_262 (po_262_68 hp) ?_
  refine s_aload_n (pc := 4) rfl rfl ?_
  refine s_getI (pc := 5) rfl ko_262 ?_
  refine s_iload_n (pc := 8) rfl rfl ?_
  obtain ⟨hb1, hw⟩ := hw
  refine s_iast (pc := 9) rfl ka_302 (by decide) hb1 ?_
  refine s_aload_n (pc := 10) rfl rfl ?_
  refine s_getA (pc := 11) rfl ko_262 (po_262_69 hp) ?_
  refine s_aload_n (pc := 14) rfl rfl ?_
  refine s_getI (pc := 15) rfl ko_262 ?_
  refine s_iconst (pc := 18) rfl ?_
  obtain ⟨hb2, hw⟩ := hw
  refine s_iast (pc := 19) rfl ka_303 (by decide) hb2 ?_
  refine s_aload_n (pc := 20) rfl rfl ?_
  refine s_getA (pc := 21) rfl ko_262 (po_262_70 hp) ?_
  refine s_aload_n (pc := 24) rfl rfl ?_
  refine s_getI (pc := 25) rfl ko_262 ?_
  refine s_iload_n (pc := 28) rfl rfl ?_
  obtain ⟨hb3, hw⟩ := hw
  refine s_iast (pc := 29) rfl ka_304 (by decide) hb3 ?_
  refine s_aload_n (pc := 30) rfl rfl ?_
  refine s_getA (pc := 31) rfl ko_262 (po_262_71 hp) ?_
  refine s_aload_n (pc := 34) rfl rfl ?_
  refine s_getI (pc := 35) rfl ko_262 ?_
  refine s_iconst (pc := 38) rfl ?_
  obtain ⟨hb4, hw⟩ := hw
  refine s_iast (pc := 39) rfl ka_305 (by decide) hb4 ?_
  refine s_aload_n (pc := 40) rfl rfl ?_
  refine s_getA (pc := 41) rfl ko_262 (po_262_72 hp) ?_
  refine s_aload_n (pc := 44) rfl rfl ?_
  refine s_getI (pc := 45) rfl ko_262 ?_
  refine s_iconst (pc := 48) rfl ?_
  obtain ⟨hb5, hw⟩ := hw
  refine s_iast (pc := 49) rfl ka_306 (by decide) hb5 ?_
  refine s_aload_n (pc := 50) rfl rfl ?_
  refine s_dup (pc := 51) rfl rfl ?_
  refine s_getI (pc := 52) rfl ko_262 ?_
  refine s_iconst (pc := 55) rfl ?_
  refine s_iadd (pc := 56) rfl ?_
  refine s_putI (pc := 57) rfl ko_262 ?_
  refine s_aload_n (pc := 60) rfl rfl ?_
  refine s_getI (pc := 61) rfl ko_262 ?_
  refine s_iconst (pc := 64) rfl ?_
  refine s_isub (pc := 65) rfl ?_
  exact s_reti (pc := 66) rfl rfl hw

set_option maxRecDepth 20000 in
set_option maxHeartbeats 4000000 in
theorem b_Mdl_one_0 {X : aX} {d : Nat} (x1 : Int) (x2 : Int)  (m : Mi) (J : Mj) (P : Mp) (hp : PP P) (post : Int → Mi → Mj → Mp → Prop)
    (hw : ((0 : Int) ≤ 0 ∧ (0 : Int) < 8000) ∧ ((0 : Int) ≤ 0 ∧ (0 : Int) < 8000) ∧ Rn X (d + 2) 168 16 [some (.ref 262), some (.int (iz x1)), some (.int (iz x2)), some (.int (iz 1)), none, none, none] [] (SS (mu (mu m 313 (0 : Int).toNat x1) 314 (0 : Int).toNat x2) J P) (QI post)) : Rn X (d + 2) 168 0 [some (.ref 262), some (.int (iz x1)), some (.int (iz x2)), none, none, none, none] [] (SS m J P) (QI post) := by
  refine s_iconst (pc := 0) rfl ?_
  refine s_istore_n (pc := 1) (L' := [some (.ref 262), some (.int (iz x1)), some (.int (iz x2)), some (.int (iz 1)), none, none, none]) rfl (Nat.le_of_ble_eq_true rfl) rfl ?_
  refine s_aload_n (pc := 2) rfl rfl ?_
  refine s_getA (pc := 3) rfl ko_262 (po_262_80 hp) ?_
  refine s_iconst (pc := 6) rfl ?_
  refine s_iload_n (pc := 7) rfl rfl ?_
  obtain ⟨hb1, hw⟩ := hw
  refine s_iast (pc := 8) rfl ka_313 (by decide) hb1 ?_
  refine s_aload_n (pc := 9) rfl rfl ?_
  refine s_getA (pc := 10) rfl ko_262 (po_262_81 hp) ?_
  refine s_iconst (pc := 13) rfl ?_
  refine s_iload_n (pc := 14) rfl rfl ?_
  obtain ⟨hb2, hw⟩ := hw
  refine s_iast (pc := 15) rfl ka_314 (by decide) hb2 ?_
  exact hw

set_option maxRecDepth 20000 in
set_option maxHeartbeats 4000000 in
theorem b_Mdl_one_16 {X : aX} {d : Nat} (x1 : Int) (x2 : Int) (x3 : Int)  (m : Mi) (J : Mj) (P : Mp) (hp : PP P) (post : Int → Mi → Mj → Mp → Prop)
    (hw : Zr (x3) ∧ (((x3 ≤ 0) → Ci X (d + 1) 170 [.ref 262, .int (iz x1)] m J P (fun z5 m2 J3 P4 => PP P4 ∧ Zr (z5) ∧ (((¬ z5 = 0) → post 0 m2 J3 P4) ∧ (¬ (¬ z5 = 0) → post 1 m2 J3 P4)))) ∧ (¬ (x3 ≤ 0) → ((0 : Int) ≤ (x3 + (-1)) ∧ ((x3 + (-1)) : Int) < 8000) ∧ Ci X (d + 1) 169 [.ref 262, .int (iz (m 313 (x3 + (-1)).toNat))] m J P (fun z12 m9 J10 P11 => PP P11 ∧ ((0 : Int) ≤ (x3 + (-1)) ∧ ((x3 + (-1)) : Int) < 8000) ∧ Ci X (d + 1) 169 [.ref 262, .int (iz (m9 314 (x3 + (-1)).toNat))] m9 J10 P11 (fun z18 m15 J16 P17 => PP P17 ∧ Zr (z12) ∧ Zr (z18) ∧ (((¬ z12 = z18) → ((0 : Int) ≤ z12 ∧ (z12 : Int) < 2000) ∧ Zr (m15 302 z12.toNat) ∧ (((0 ≤ (m15 302 z12.toNat)) → ((0 : Int) ≤ z18 ∧ (z18 : Int) < 2000) ∧ Zr (m15 302 z18.toNat) ∧ (((0 ≤ (m15 302 z18.toNat)) → ((0 : Int) ≤ z12 ∧ (z12 : Int) < 2000) ∧ ((0 : Int) ≤ z18 ∧ (z18 : Int) < 2000) ∧ Zr (m15 302 z12.toNat) ∧ Zr (m15 302 z18.toNat) ∧ ((((m15 302 z12.toNat) = (m15 302 z18.toNat)) → ((0 : Int) ≤ z12 ∧ (z12 : Int) < 2000) ∧ Rn X (d + 2) 168 132 [some (.ref 262), some (.int (iz x1)), some (.int (iz x2)), some (.int (iz (x3 + (-1)))), some (.int (iz z12)), some (.int (iz z18)), some (.int (iz 0))] [] (SS (mu m15 303 z12.toNat z18) J16 P17) (QI post)) ∧ (¬ ((m15 302 z12.toNat) = (m15 302 z18.toNat)) → post 0 m15 J16 P17))) ∧ (¬ (0 ≤ (m15 302 z18.toNat)) → ((0 : Int) ≤ z18 ∧ (z18 : Int) < 2000) ∧ Rn X (d + 2) 168 16 [some (.ref 262), some (.int (iz x1)), some (.int (iz x2)), some (.int (iz (x3 + (-1)))), none, none, none] [] (SS (mu m15 303 z18.toNat z12) J16 P17) (QI post)))) ∧ (¬ (0 ≤ (m15 302 z12.toNat)) → ((0 : Int) ≤ z12 ∧ (z12 : Int) < 2000) ∧ Rn X (d + 2) 168 16 [some (.ref 262), some (.int (iz x1)), some (.int (iz x2)), some (.int (iz (x3 + (-1)))), none, none, none] [] (SS (mu m15 303 z12.toNat z18) J16 P17) (QI post)))) ∧ (¬ (¬ z12 = z18) → Rn X (d + 2) 168 16 [some (.ref 262), some (.int (iz x1)), some (.int (iz x2)), some (.int (iz (x3 + (-1)))), none, none, none] [] (SS m15 J16 P17) (QI post)))))))) : Rn X (d + 2) 168 16 [some (.ref 262), some (.int (iz x1)), some (.int (iz x2)), some (.int (iz x3)), none, none, none] [] (SS m J P) (QI post) := by
  refine s_iload_n (pc := 16) rfl rfl ?_
  obtain ⟨hz1, hw⟩ := hw
  refine s_if_le (pc := 17) (tgt := 197) rfl rfl hz1 (fun hc => ?_) (fun hc => ?_)
  · replace hw := hw.1 hc
    refine s_aload_n (pc := 197) rfl rfl ?_
    refine s_iload_n (pc := 198) rfl rfl ?_
    refine s_ci (pc := 199) (d := (d + 1)) (t := []) rfl rfl (am_ca_v (ps := [.int (iz x1)]) rfl ko_262) (Nat.le_of_ble_eq_true rfl) (Ci.weak hw fun z5 m2 J3 P4 hw => ?_)
    obtain ⟨hp6, hw⟩ := hw
    obtain ⟨hz7, hw⟩ := hw
    refine s_if_ne (pc := 202) (tgt := 209) rfl rfl hz7 (fun hc => ?_) (fun hc => ?_)
    · replace hw := hw.1 hc
      refine s_iconst (pc := 209) rfl ?_
      exact s_retz (pc := 210) rfl rfl (by decide) hw
    · replace hw := hw.2 hc
      refine s_iconst (pc := 205) rfl ?_
      refine s_goto (pc := 206) (tgt := 210) rfl rfl ?_
      exact s_retz (pc := 210) rfl rfl (by decide) hw
  · replace hw := hw.2 hc
    refine s_iinc (pc := 20) (L' := [some (.ref 262), some (.int (iz x1)), some (.int (iz x2)), some (.int (iz (x3 + (-1)))), none, none, none]) rfl rfl (Nat.le_of_ble_eq_true rfl) rfl ?_
    refine s_aload_n (pc := 23) rfl rfl ?_
    refine s_aload_n (pc := 24) rfl rfl ?_
    refine s_getA (pc := 25) rfl ko_262 (po_262_80 hp) ?_
    refine s_iload_n (pc := 28) rfl rfl ?_
    obtain ⟨hb8, hw⟩ := hw
    refine s_iald (pc := 29) rfl ka_313 (by decide) hb8 ?_
    refine s_ci (pc := 30) (d := (d + 1)) (t := []) rfl rfl (am_ca_v (ps := [.int (iz (m 313 (x3 + (-1)).toNat))]) rfl ko_262) (Nat.le_of_ble_eq_true rfl) (Ci.weak hw fun z12 m9 J10 P11 hw => ?_)
    obtain ⟨hp13, hw⟩ := hw
    refine s_istore (pc := 33) (L' := [some (.ref 262), some (.int (iz x1)), some (.int (iz x2)), some (.int (iz (x3 + (-1)))), some (.int (iz z12)), none, none]) rfl (Nat.le_of_ble_eq_true rfl) rfl ?_
    refine s_aload_n (pc := 35) rfl rfl ?_
    refine s_aload_n (pc := 36) rfl rfl ?_
    refine s_getA (pc := 37) rfl ko_262 (po_262_81 hp13) ?_
    refine s_iload_n (pc := 40) rfl rfl ?_
    obtain ⟨hb14, hw⟩ := hw
    refine s_iald (pc := 41) rfl ka_314 (by decide) hb14 ?_
    refine s_ci (pc := 42) (d := (d + 1)) (t := []) rfl rfl (am_ca_v (ps := [.int (iz (m9 314 (x3 + (-1)).toNat))]) rfl ko_262) (Nat.le_of_ble_eq_true rfl) (Ci.weak hw fun z18 m15 J16 P17 hw => ?_)
    obtain ⟨hp19, hw⟩ := hw
    refine s_istore (pc := 45) (L' := [some (.ref 262), some (.int (iz x1)), some (.int (iz x2)), some (.int (iz (x3 + (-1)))), some (.int (iz z12)), some (.int (iz z18)), none]) rfl (Nat.le_of_ble_eq_true rfl) rfl ?_
    refine s_iload (pc := 47) rfl rfl ?_
    refine s_iload (pc := 49) rfl rfl ?_
    obtain ⟨hz20, hw⟩ := hw
    obtain ⟨hz21, hw⟩ := hw
    refine s_ic_ne (pc := 51) (tgt := 57) rfl rfl hz20 hz21 (fun hc => ?_) (fun hc => ?_)
    · replace hw := hw.1 hc
      refine s_aload_n (pc := 57) rfl rfl ?_
      refine s_getA (pc := 58) rfl ko_262 (po_262_68 hp19) ?_
      refine s_iload (pc := 61) rfl rfl ?_
      obtain ⟨hb22, hw⟩ := hw
      refine s_iald (pc := 63) rfl ka_302 (by decide) hb22 ?_
      obtain ⟨hz23, hw⟩ := hw
      refine s_if_ge (pc := 64) (tgt := 79) rfl rfl hz23 (fun hc => ?_) (fun hc => ?_)
      · replace hw := hw.1 hc
        refine s_aload_n (pc := 79) rfl rfl ?_
        refine s_getA (pc := 80) rfl ko_262 (po_262_68 hp19) ?_
        refine s_iload (pc := 83) rfl rfl ?_
        obtain ⟨hb24, hw⟩ := hw
        refine s_iald (pc := 85) rfl ka_302 (by decide) hb24 ?_
        obtain ⟨hz25, hw⟩ := hw
        refine s_if_ge (pc := 86) (tgt := 101) rfl rfl hz25 (fun hc => ?_) (fun hc => ?_)
        · replace hw := hw.1 hc
          refine s_aload_n (pc := 101) rfl rfl ?_
          refine s_getA (pc := 102) rfl ko_262 (po_262_68 hp19) ?_
          refine s_iload (pc := 105) rfl rfl ?_
          obtain ⟨hb26, hw⟩ := hw
          refine s_iald (pc := 107) rfl ka_302 (by decide) hb26 ?_
          refine s_aload_n (pc := 108) rfl rfl ?_
          refine s_getA (pc := 109) rfl ko_262 (po_262_68 hp19) ?_
          refine s_iload (pc := 112) rfl rfl ?_
          obtain ⟨hb27, hw⟩ := hw
          refine s_iald (pc := 114) rfl ka_302 (by decide) hb27 ?_
          obtain ⟨hz28, hw⟩ := hw
          obtain ⟨hz29, hw⟩ := hw
          refine s_ic_eq (pc := 115) (tgt := 120) rfl rfl hz28 hz29 (fun hc => ?_) (fun hc => ?_)
          · replace hw := hw.1 hc
            refine s_aload_n (pc := 120) rfl rfl ?_
            refine s_getA (pc := 121) rfl ko_262 (po_262_69 hp19) ?_
            refine s_iload (pc := 124) rfl rfl ?_
            refine s_iload (pc := 126) rfl rfl ?_
            obtain ⟨hb30, hw⟩ := hw
            refine s_iast (pc := 128) rfl ka_303 (by decide) hb30 ?_
            refine s_iconst (pc := 129) rfl ?_
            refine s_istore (pc := 130) (L' := [some (.ref 262), some (.int (iz x1)), some (.int (iz x2)), some (.int (iz (x3 + (-1)))), some (.int (iz z12)), some (.int (iz z18)), some (.int (iz 0))]) rfl (Nat.le_of_ble_eq_true rfl) rfl ?_
            exact hw
          · replace hw := hw.2 hc
            refine s_iconst (pc := 118) rfl ?_
            exact s_retz (pc := 119) rfl rfl (by decide) hw
        · replace hw := hw.2 hc
          refine s_aload_n (pc := 89) rfl rfl ?_
          refine s_getA (pc := 90) rfl ko_262 (po_262_69 hp19) ?_
          refine s_iload (pc := 93) rfl rfl ?_
          refine s_iload (pc := 95) rfl rfl ?_
          obtain ⟨hb31, hw⟩ := hw
          refine s_iast (pc := 97) rfl ka_303 (by decide) hb31 ?_
          refine s_goto (pc := 98) (tgt := 194) rfl rfl ?_
          refine s_goto (pc := 194) (tgt := 16) rfl rfl ?_
          exact Rn.weakL hw (LLe.keep _ (LLe.keep _ (LLe.keep _ (LLe.keep _ (LLe.drop _ (LLe.drop _ (LLe.keep _ (LLe.nil))))))))
      · replace hw := hw.2 hc
        refine s_aload_n (pc := 67) rfl rfl ?_
        refine s_getA (pc := 68) rfl ko_262 (po_262_69 hp19) ?_
        refine s_iload (pc := 71) rfl rfl ?_
        refine s_iload (pc := 73) rfl rfl ?_
        obtain ⟨hb32, hw⟩ := hw
        refine s_iast (pc := 75) rfl ka_303 (by decide) hb32 ?_
        refine s_goto (pc := 76) (tgt := 194) rfl rfl ?_
        refine s_goto (pc := 194) (tgt := 16) rfl rfl ?_
        exact Rn.weakL hw (LLe.keep _ (LLe.keep _ (LLe.keep _ (LLe.keep _ (LLe.drop _ (LLe.drop _ (LLe.keep _ (LLe.nil))))))))
    · replace hw := hw.2 hc
      refine s_goto (pc := 54) (tgt := 16) rfl rfl ?_
      exact Rn.weakL hw (LLe.keep _ (LLe.keep _ (LLe.keep _ (LLe.keep _ (LLe.drop _ (LLe.drop _ (LLe.keep _ (LLe.nil))))))))

set_option maxRecDepth 20000 in
set_option maxHeartbeats 4000000 in
theorem b_Mdl_one_132 {X : aX} {d : Nat} (x1 : Int) (x2 : Int) (x3 : Int) (x4 : Int) (x5 : Int) (x6 : Int)  (m : Mi) (J : Mj) (P : Mp) (hp : PP P) (post : Int → Mi → Mj → Mp → Prop)
    (hw : ((0 : Int) ≤ x4 ∧ (x4 : Int) < 2000) ∧ ((0 : Int) ≤ (m 302 x4.toNat) ∧ ((m 302 x4.toNat) : Int) < 16) ∧ Zr (x6) ∧ Zr (m 280 (m 302 x4.toNat).toNat) ∧ ((((m 280 (m 302 x4.toNat).toNat) ≤ x6) → Rn X (d + 2) 168 16 [some (.ref 262), some (.int (iz x1)), some (.int (iz x2)), some (.int (iz x3)), none, none, none] [] (SS m J P) (QI post)) ∧ (¬ ((m 280 (m 302 x4.toNat).toNat) ≤ x6) → ((0 : Int) ≤ ((4 * x4) + x6) ∧ (((4 * x4) + x6) : Int) < 8000) ∧ ((0 : Int) ≤ x3 ∧ (x3 : Int) < 8000) ∧ ((0 : Int) ≤ ((4 * x5) + x6) ∧ (((4 * x5) + x6) : Int) < 8000) ∧ ((0 : Int) ≤ x3 ∧ (x3 : Int) < 8000) ∧ Rn X (d + 2) 168 132 [some (.ref 262), some (.int (iz x1)), some (.int (iz x2)), some (.int (iz (x3 + 1))), some (.int (iz x4)), some (.int (iz x5)), some (.int (iz (x6 + 1)))] [] (SS (mu (mu m 313 x3.toNat (m 307 ((4 * x4) + x6).toNat)) 314 x3.toNat ((mu m 313 x3.toNat (m 307 ((4 * x4) + x6).toNat)) 307 ((4 * x5) + x6).toNat)) J P) (QI post)))) : Rn X (d + 2) 168 132 [some (.ref 262), some (.int (iz x1)), some (.int (iz x2)), some (.int (iz x3)), some (.int (iz x4)), some (.int (iz x5)), some (.int (iz x6))] [] (SS m J P) (QI post) := by
  refine s_iload (pc := 132) rfl rfl ?_
  refine s_aload_n (pc := 134) rfl rfl ?_
  refine s_getA (pc := 135) rfl ko_262 (po_262_37 hp) ?_
  refine s_aload_n (pc := 138) rfl rfl ?_
  refine s_getA (pc := 139) rfl ko_262 (po_262_68 hp) ?_
  refine s_iload (pc := 142) rfl rfl ?_
  obtain ⟨hb1, hw⟩ := hw
  refine s_iald (pc := 144) rfl ka_302 (by decide) hb1 ?_
  obtain ⟨hb2, hw⟩ := hw
  refine s_iald (pc := 145) rfl ka_280 (by decide) hb2 ?_
  obtain ⟨hz3, hw⟩ := hw
  obtain ⟨hz4, hw⟩ := hw
  refine s_ic_ge (pc := 146) (tgt := 194) rfl rfl hz3 hz4 (fun hc => ?_) (fun hc => ?_)
  · replace hw := hw.1 hc
    refine s_goto (pc := 194) (tgt := 16) rfl rfl ?_
    exact Rn.weakL hw (LLe.keep _ (LLe.keep _ (LLe.keep _ (LLe.keep _ (LLe.drop _ (LLe.drop _ (LLe.drop _ (LLe.nil))))))))
  · replace hw := hw.2 hc
    refine s_aload_n (pc := 149) rfl rfl ?_
    refine s_getA (pc := 150) rfl ko_262 (po_262_80 hp) ?_
    refine s_iload_n (pc := 153) rfl rfl ?_
    refine s_aload_n (pc := 154) rfl rfl ?_
    refine s_getA (pc := 155) rfl ko_262 (po_262_73 hp) ?_
    refine s_iconst (pc := 158) rfl ?_
    refine s_iload (pc := 159) rfl rfl ?_
    refine s_imul (pc := 161) rfl ?_
    refine s_iload (pc := 162) rfl rfl ?_
    refine s_iadd (pc := 164) rfl ?_
    obtain ⟨hb5, hw⟩ := hw
    refine s_iald (pc := 165) rfl ka_307 (by decide) hb5 ?_
    obtain ⟨hb6, hw⟩ := hw
    refine s_iast (pc := 166) rfl ka_313 (by decide) hb6 ?_
    refine s_aload_n (pc := 167) rfl rfl ?_
    refine s_getA (pc := 168) rfl ko_262 (po_262_81 hp) ?_
    refine s_iload_n (pc := 171) rfl rfl ?_
    refine s_aload_n (pc := 172) rfl rfl ?_
    refine s_getA (pc := 173) rfl ko_262 (po_262_73 hp) ?_
    refine s_iconst (pc := 176) rfl ?_
    refine s_iload (pc := 177) rfl rfl ?_
    refine s_imul (pc := 179) rfl ?_
    refine s_iload (pc := 180) rfl rfl ?_
    refine s_iadd (pc := 182) rfl ?_
    obtain ⟨hb7, hw⟩ := hw
    refine s_iald (pc := 183) rfl ka_307 (by decide) hb7 ?_
    obtain ⟨hb8, hw⟩ := hw
    refine s_iast (pc := 184) rfl ka_314 (by decide) hb8 ?_
    refine s_iinc (pc := 185) (L' := [some (.ref 262), some (.int (iz x1)), some (.int (iz x2)), some (.int (iz (x3 + 1))), some (.int (iz x4)), some (.int (iz x5)), some (.int (iz x6))]) rfl rfl (Nat.le_of_ble_eq_true rfl) rfl ?_
    refine s_iinc (pc := 188) (L' := [some (.ref 262), some (.int (iz x1)), some (.int (iz x2)), some (.int (iz (x3 + 1))), some (.int (iz x4)), some (.int (iz x5)), some (.int (iz (x6 + 1)))]) rfl rfl (Nat.le_of_ble_eq_true rfl) rfl ?_
    refine s_goto (pc := 191) (tgt := 132) rfl rfl ?_
    exact hw

set_option maxRecDepth 20000 in
set_option maxHeartbeats 4000000 in
theorem b_Mdl_find_0 {X : aX} {d : Nat} (x1 : Int)  (m : Mi) (J : Mj) (P : Mp) (hp : PP P) (post : Int → Mi → Mj → Mp → Prop)
    (hw : Rn X d 169 2 [some (.ref 262), some (.int (iz x1)), some (.int (iz x1))] [] (SS m J P) (QI post)) : Rn X d 169 0 [some (.ref 262), some (.int (iz x1)), none] [] (SS m J P) (QI post) := by
  refine s_iload_n (pc := 0) rfl rfl ?_
  refine s_istore_n (pc := 1) (L' := [some (.ref 262), some (.int (iz x1)), some (.int (iz x1))]) rfl (Nat.le_of_ble_eq_true rfl) rfl ?_
  exact hw

set_option maxRecDepth 20000 in
set_option maxHeartbeats 4000000 in
theorem b_Mdl_find_2 {X : aX} {d : Nat} (x1 : Int) (x2 : Int)  (m : Mi) (J : Mj) (P : Mp) (hp : PP P) (post : Int → Mi → Mj → Mp → Prop)
    (hw : ((0 : Int) ≤ x2 ∧ (x2 : Int) < 2000) ∧ Zr (m 303 x2.toNat) ∧ ((((m 303 x2.toNat) < 0) → post x2 m J P) ∧ (¬ ((m 303 x2.toNat) < 0) → ((0 : Int) ≤ x2 ∧ (x2 : Int) < 2000) ∧ Rn X d 169 2 [some (.ref 262), some (.int (iz x1)), some (.int (iz (m 303 x2.toNat)))] [] (SS m J P) (QI post)))) : Rn X d 169 2 [some (.ref 262), some (.int (iz x1)), some (.int (iz x2))] [] (SS m J P) (QI post) := by
  refine s_aload_n (pc := 2) rfl rfl ?_
  refine s_getA (pc := 3) rfl ko_262 (po_262_69 hp) ?_
  refine s_iload_n (pc := 6) rfl rfl ?_
  obtain ⟨hb1, hw⟩ := hw
  refine s_iald (pc := 7) rfl ka_303 (by decide) hb1 ?_
  obtain ⟨hz2, hw⟩ := hw
  refine s_if_lt (pc := 8) (tgt := 21) rfl rfl hz2 (fun hc => ?_) (fun hc => ?_)
  · replace hw := hw.1 hc
    refine s_iload_n (pc := 21) rfl rfl ?_
    exact s_reti (pc := 22) rfl rfl hw
  · replace hw := hw.2 hc
    refine s_aload_n (pc := 11) rfl rfl ?_
    refine s_getA (pc := 12) rfl ko_262 (po_262_69 hp) ?_
    refine s_iload_n (pc := 15) rfl rfl ?_
    obtain ⟨hb3, hw⟩ := hw
    refine s_iald (pc := 16) rfl ka_303 (by decide) hb3 ?_
    refine s_istore_n (pc := 17) (L' := [some (.ref 262), some (.int (iz x1)), some (.int (iz (m 303 x2.toNat)))]) rfl (Nat.le_of_ble_eq_true rfl) rfl ?_
    refine s_goto (pc := 18) (tgt := 2) rfl rfl ?_
    exact hw

set_option maxRecDepth 20000 in
set_option maxHeartbeats 4000000 in
theorem b_Mdl_isRing_0 {X : aX} {d : Nat} (x1 : Int)  (m : Mi) (J : Mj) (P : Mp) (hp : PP P) (post : Int → Mi → Mj → Mp → Prop)
    (hw : Rn X (d + 1) 170 2 [some (.ref 262), some (.int (iz x1)), some (.int (iz 0)), none, none, none] [] (SS m J P) (QI post)) : Rn X (d + 1) 170 0 [some (.ref 262), some (.int (iz x1)), none, none, none, none] [] (SS m J P) (QI post) := by
  refine s_iconst (pc := 0) rfl ?_
  refine s_istore_n (pc := 1) (L' := [some (.ref 262), some (.int (iz x1)), some (.int (iz 0)), none, none, none]) rfl (Nat.le_of_ble_eq_true rfl) rfl ?_
  exact hw

set_option maxRecDepth 20000 in
set_option maxHeartbeats 4000000 in
theorem b_Mdl_isRing_2 {X : aX} {d : Nat} (x1 : Int) (x2 : Int)  (m : Mi) (J : Mj) (P : Mp) (hp : PP P) (post : Int → Mi → Mj → Mp → Prop)
    (hw : Zr (x2) ∧ Zr (m 262 74) ∧ ((((m 262 74) ≤ x2) → Ci X d 169 [.ref 262, .int (iz x1)] m J P (fun z6 m3 J4 P5 => PP P5 ∧ ((0 : Int) ≤ 0 ∧ (0 : Int) < 2000) ∧ ((0 : Int) ≤ 0 ∧ (0 : Int) < 2000) ∧ ((0 : Int) ≤ 0 ∧ (0 : Int) < 2000) ∧ ((0 : Int) ≤ ((mu (mu m3 315 (0 : Int).toNat z6) 316 (0 : Int).toNat 0) 315 (0 : Int).toNat) ∧ (((mu (mu m3 315 (0 : Int).toNat z6) 316 (0 : Int).toNat 0) 315 (0 : Int).toNat) : Int) < 2000) ∧ Rn X (d + 1) 170 57 [some (.ref 262), some (.int (iz x1)), some (.int (iz 1)), none, none, none] [] (SS (mu (mu (mu m3 315 (0 : Int).toNat z6) 316 (0 : Int).toNat 0) 305 ((mu (mu m3 315 (0 : Int).toNat z6) 316 (0 : Int).toNat 0) 315 (0 : Int).toNat).toNat 1) J4 P5) (QI post))) ∧ (¬ ((m 262 74) ≤ x2) → ((0 : Int) ≤ x2 ∧ (x2 : Int) < 2000) ∧ Rn X (d + 1) 170 2 [some (.ref 262), some (.int (iz x1)), some (.int (iz (x2 + 1))), none, none, none] [] (SS (mu m 305 x2.toNat 0) J P) (QI post)))) : Rn X (d + 1) 170 2 [some (.ref 262), some (.int (iz x1)), some (.int (iz x2)), none, none, none] [] (SS m J P) (QI post) := by
  refine s_iload_n (pc := 2) rfl rfl ?_
  refine s_aload_n (pc := 3) rfl rfl ?_
  refine s_getI (pc := 4) rfl ko_262 ?_
  obtain ⟨hz1, hw⟩ := hw
  obtain ⟨hz2, hw⟩ := hw
  refine s_ic_ge (pc := 7) (tgt := 23) rfl rfl hz1 hz2 (fun hc => ?_) (fun hc => ?_)
  · replace hw := hw.1 hc
    refine s_iconst (pc := 23) rfl ?_
    refine s_istore_n (pc := 24) (L' := [some (.ref 262), some (.int (iz x1)), some (.int (iz 0)), none, none, none]) rfl (Nat.le_of_ble_eq_true rfl) rfl ?_
    refine s_aload_n (pc := 25) rfl rfl ?_
    refine s_getA (pc := 26) rfl ko_262 (po_262_82 hp) ?_
    refine s_iconst (pc := 29) rfl ?_
    refine s_aload_n (pc := 30) rfl rfl ?_
    refine s_iload_n (pc := 31) rfl rfl ?_
    refine s_ci (pc := 32) (d := d) (t := [.int (iz 0), .ref 315]) rfl rfl (am_ca_v (ps := [.int (iz x1)]) rfl ko_262) (Nat.le_of_ble_eq_true rfl) (Ci.weak hw fun z6 m3 J4 P5 hw => ?_)
    obtain ⟨hp7, hw⟩ := hw
    obtain ⟨hb8, hw⟩ := hw
    refine s_iast (pc := 35) rfl ka_315 (by decide) hb8 ?_
    refine s_aload_n (pc := 36) rfl rfl ?_
    refine s_getA (pc := 37) rfl ko_262 (po_262_83 hp7) ?_
    refine s_iconst (pc := 40) rfl ?_
    refine s_iconst (pc := 41) rfl ?_
    obtain ⟨hb9, hw⟩ := hw
    refine s_iast (pc := 42) rfl ka_316 (by decide) hb9 ?_
    refine s_aload_n (pc := 43) rfl rfl ?_
    refine s_getA (pc := 44) rfl ko_262 (po_262_71 hp7) ?_
    refine s_aload_n (pc := 47) rfl rfl ?_
    refine s_getA (pc := 48) rfl ko_262 (po_262_82 hp7) ?_
    refine s_iconst (pc := 51) rfl ?_
    obtain ⟨hb10, hw⟩ := hw
    refine s_iald (pc := 52) rfl ka_315 (by decide) hb10 ?_
    refine s_iconst (pc := 53) rfl ?_
    obtain ⟨hb11, hw⟩ := hw
    refine s_iast (pc := 54) rfl ka_305 (by decide) hb11 ?_
    refine s_iconst (pc := 55) rfl ?_
    refine s_istore_n (pc := 56) (L' := [some (.ref 262), some (.int (iz x1)), some (.int (iz 1)), none, none, none]) rfl (Nat.le_of_ble_eq_true rfl) rfl ?_
    exact hw
  · replace hw := hw.2 hc
    refine s_aload_n (pc := 10) rfl rfl ?_
    refine s_getA (pc := 11) rfl ko_262 (po_262_71 hp) ?_
    refine s_iload_n (pc := 14) rfl rfl ?_
    refine s_iconst (pc := 15) rfl ?_
    obtain ⟨hb12, hw⟩ := hw
    refine s_iast (pc := 16) rfl ka_305 (by decide) hb12 ?_
    refine s_iinc (pc := 17) (L' := [some (.ref 262), some (.int (iz x1)), some (.int (iz (x2 + 1))), none, none, none]) rfl rfl (Nat.le_of_ble_eq_true rfl) rfl ?_
    refine s_goto (pc := 20) (tgt := 2) rfl rfl ?_
    exact hw

set_option maxRecDepth 20000 in
set_option maxHeartbeats 4000000 in
theorem b_Mdl_isRing_57 {X : aX} {d : Nat} (x1 : Int) (x2 : Int)  (m : Mi) (J : Mj) (P : Mp) (hp : PP P) (post : Int → Mi → Mj → Mp → Prop)
    (hw : Zr (x2) ∧ (((x2 ≤ 0) → post 0 m J P) ∧ (¬ (x2 ≤ 0) → ((0 : Int) ≤ (x2 - 1) ∧ ((x2 - 1) : Int) < 2000) ∧ ((0 : Int) ≤ (x2 - 1) ∧ ((x2 - 1) : Int) < 2000) ∧ ((0 : Int) ≤ (m 315 (x2 - 1).toNat) ∧ ((m 315 (x2 - 1).toNat) : Int) < 2000) ∧ Zr (m 302 (m 315 (x2 - 1).toNat).toNat) ∧ ((((m 302 (m 315 (x2 - 1).toNat).toNat) < 0) → ((0 : Int) ≤ (m 315 (x2 - 1).toNat) ∧ ((m 315 (x2 - 1).toNat) : Int) < 2000) ∧ Rn X (d + 1) 170 57 [some (.ref 262), some (.int (iz x1)), some (.int (iz (x2 + (-1)))), none, none, none] [] (SS (mu m 305 (m 315 (x2 - 1).toNat).toNat 2) J P) (QI post)) ∧ (¬ ((m 302 (m 315 (x2 - 1).toNat).toNat) < 0) → ((0 : Int) ≤ (m 315 (x2 - 1).toNat) ∧ ((m 315 (x2 - 1).toNat) : Int) < 2000) ∧ ((0 : Int) ≤ (m 302 (m 315 (x2 - 1).toNat).toNat) ∧ ((m 302 (m 315 (x2 - 1).toNat).toNat) : Int) < 16) ∧ Zr (m 316 (x2 - 1).toNat) ∧ Zr (m 280 (m 302 (m 315 (x2 - 1).toNat).toNat).toNat) ∧ (((¬ (m 316 (x2 - 1).toNat) = (m 280 (m 302 (m 315 (x2 - 1).toNat).toNat).toNat)) → ((0 : Int) ≤ (x2 - 1) ∧ ((x2 - 1) : Int) < 2000) ∧ ((0 : Int) ≤ (x2 - 1) ∧ ((x2 - 1) : Int) < 2000) ∧ ((0 : Int) ≤ ((4 * (m 315 (x2 - 1).toNat)) + (m 316 (x2 - 1).toNat)) ∧ (((4 * (m 315 (x2 - 1).toNat)) + (m 316 (x2 - 1).toNat)) : Int) < 8000) ∧ Ci X d 169 [.ref 262, .int (iz ((mu m 316 (x2 - 1).toNat ((m 316 (x2 - 1).toNat) + 1)) 307 ((4 * (m 315 (x2 - 1).toNat)) + (m 316 (x2 - 1).toNat)).toNat))] (mu m 316 (x2 - 1).toNat ((m 316 (x2 - 1).toNat) + 1)) J P (fun z17 m14 J15 P16 => PP P16 ∧ ((0 : Int) ≤ z17 ∧ (z17 : Int) < 2000) ∧ Zr (m14 305 z17.toNat) ∧ (((¬ (m14 305 z17.toNat) = 1) → ((0 : Int) ≤ z17 ∧ (z17 : Int) < 2000) ∧ Zr (m14 305 z17.toNat) ∧ (((¬ (m14 305 z17.toNat) = 2) → ((0 : Int) ≤ x2 ∧ (x2 : Int) < 2000) ∧ ((0 : Int) ≤ x2 ∧ (x2 : Int) < 2000) ∧ ((0 : Int) ≤ z17 ∧ (z17 : Int) < 2000) ∧ Rn X (d + 1) 170 57 [some (.ref 262), some (.int (iz x1)), some (.int (iz (x2 + 1))), none, none, none] [] (SS (mu (mu (mu m14 315 x2.toNat z17) 316 x2.toNat 0) 305 z17.toNat 1) J15 P16) (QI post)) ∧ (¬ (¬ (m14 305 z17.toNat) = 2) → Rn X (d + 1) 170 57 [some (.ref 262), some (.int (iz x1)), some (.int (iz x2)), none, none, none] [] (SS m14 J15 P16) (QI post)))) ∧ (¬ (¬ (m14 305 z17.toNat) = 1) → post 1 m14 J15 P16)))) ∧ (¬ (¬ (m 316 (x2 - 1).toNat) = (m 280 (m 302 (m 315 (x2 - 1).toNat).toNat).toNat)) → ((0 : Int) ≤ (m 315 (x2 - 1).toNat) ∧ ((m 315 (x2 - 1).toNat) : Int) < 2000) ∧ Rn X (d + 1) 170 57 [some (.ref 262), some (.int (iz x1)), some (.int (iz (x2 + (-1)))), none, none, none] [] (SS (mu m 305 (m 315 (x2 - 1).toNat).toNat 2) J P) (QI post)))))))) : Rn X (d + 1) 170 57 [some (.ref 262), some (.int (iz x1)), some (.int (iz x2)), none, none, none] [] (SS m J P) (QI post) := by
  refine s_iload_n (pc := 57) rfl rfl ?_
  obtain ⟨hz1, hw⟩ := hw
  refine s_if_le (pc := 58) (tgt := 203) rfl rfl hz1 (fun hc => ?_) (fun hc => ?_)
  · replace hw := hw.1 hc
    refine s_iconst (pc := 203) rfl ?_
    exact s_retz (pc := 204) rfl rfl (by decide) hw
  · replace hw := hw.2 hc
    refine s_aload_n (pc := 61) rfl rfl ?_
    refine s_getA (pc := 62) rfl ko_262 (po_262_82 hp) ?_
    refine s_iload_n (pc := 65) rfl rfl ?_
    refine s_iconst (pc := 66) rfl ?_
    refine s_isub (pc := 67) rfl ?_
    obtain ⟨hb2, hw⟩ := hw
    refine s_iald (pc := 68) rfl ka_315 (by decide) hb2 ?_
    refine s_istore_n (pc := 69) (L' := [some (.ref 262), some (.int (iz x1)), some (.int (iz x2)), some (.int (iz (m 315 (x2 - 1).toNat))), none, none]) rfl (Nat.le_of_ble_eq_true rfl) rfl ?_
    refine s_aload_n (pc := 70) rfl rfl ?_
    refine s_getA (pc := 71) rfl ko_262 (po_262_83 hp) ?_
    refine s_iload_n (pc := 74) rfl rfl ?_
    refine s_iconst (pc := 75) rfl ?_
    refine s_isub (pc := 76) rfl ?_
    obtain ⟨hb3, hw⟩ := hw
    refine s_iald (pc := 77) rfl ka_316 (by decide) hb3 ?_
    refine s_istore (pc := 78) (L' := [some (.ref 262), some (.int (iz x1)), some (.int (iz x2)), some (.int (iz (m 315 (x2 - 1).toNat))), some (.int (iz (m 316 (x2 - 1).toNat))), none]) rfl (Nat.le_of_ble_eq_true rfl) rfl ?_
    refine s_aload_n (pc := 80) rfl rfl ?_
    refine s_getA (pc := 81) rfl ko_262 (po_262_68 hp) ?_
    refine s_iload_n (pc := 84) rfl rfl ?_
    obtain ⟨hb4, hw⟩ := hw
    refine s_iald (pc := 85) rfl ka_302 (by decide) hb4 ?_
    obtain ⟨hz5, hw⟩ := hw
    refine s_if_lt (pc := 86) (tgt := 105) rfl rfl hz5 (fun hc => ?_) (fun hc => ?_)
    · replace hw := hw.1 hc
      refine s_aload_n (pc := 105) rfl rfl ?_
      refine s_getA (pc := 106) rfl ko_262 (po_262_71 hp) ?_
      refine s_iload_n (pc := 109) rfl rfl ?_
      refine s_iconst (pc := 110) rfl ?_
      obtain ⟨hb6, hw⟩ := hw
      refine s_iast (pc := 111) rfl ka_305 (by decide) hb6 ?_
      refine s_iinc (pc := 112) (L' := [some (.ref 262), some (.int (iz x1)), some (.int (iz (x2 + (-1)))), some (.int (iz (m 315 (x2 - 1).toNat))), some (.int (iz (m 316 (x2 - 1).toNat))), none]) rfl rfl (Nat.le_of_ble_eq_true rfl) rfl ?_
      refine s_goto (pc := 115) (tgt := 57) rfl rfl ?_
      exact Rn.weakL hw (LLe.keep _ (LLe.keep _ (LLe.keep _ (LLe.drop _ (LLe.drop _ (LLe.keep _ (LLe.nil)))))))
    · replace hw := hw.2 hc
      refine s_iload (pc := 89) rfl rfl ?_
      refine s_aload_n (pc := 91) rfl rfl ?_
      refine s_getA (pc := 92) rfl ko_262 (po_262_37 hp) ?_
      refine s_aload_n (pc := 95) rfl rfl ?_
      refine s_getA (pc := 96) rfl ko_262 (po_262_68 hp) ?_
      refine s_iload_n (pc := 99) rfl rfl ?_
      obtain ⟨hb7, hw⟩ := hw
      refine s_iald (pc := 100) rfl ka_302 (by decide) hb7 ?_
      obtain ⟨hb8, hw⟩ := hw
      refine s_iald (pc := 101) rfl ka_280 (by decide) hb8 ?_
      obtain ⟨hz9, hw⟩ := hw
      obtain ⟨hz10, hw⟩ := hw
      refine s_ic_ne (pc := 102) (tgt := 118) rfl rfl hz9 hz10 (fun hc => ?_) (fun hc => ?_)
      · replace hw := hw.1 hc
        refine s_aload_n (pc := 118) rfl rfl ?_
        refine s_getA (pc := 119) rfl ko_262 (po_262_83 hp) ?_
        refine s_iload_n (pc := 122) rfl rfl ?_
        refine s_iconst (pc := 123) rfl ?_
        refine s_isub (pc := 124) rfl ?_
        refine s_dup2 (pc := 125) rfl ⟨rfl, rfl⟩ ?_
        obtain ⟨hb11, hw⟩ := hw
        refine s_iald (pc := 126) rfl ka_316 (by decide) hb11 ?_
        refine s_iconst (pc := 127) rfl ?_
        refine s_iadd (pc := 128) rfl ?_
        obtain ⟨hb12, hw⟩ := hw
        refine s_iast (pc := 129) rfl ka_316 (by decide) hb12 ?_
        refine s_aload_n (pc := 130) rfl rfl ?_
        refine s_aload_n (pc := 131) rfl rfl ?_
        refine s_getA (pc := 132) rfl ko_262 (po_262_73 hp) ?_
        refine s_iconst (pc := 135) rfl ?_
        refine s_iload_n (pc := 136) rfl rfl ?_
        refine s_imul (pc := 137) rfl ?_
        refine s_iload (pc := 138) rfl rfl ?_
        refine s_iadd (pc := 140) rfl ?_
        obtain ⟨hb13, hw⟩ := hw
        refine s_iald (pc := 141) rfl ka_307 (by decide) hb13 ?_
        refine s_ci (pc := 142) (d := d) (t := []) rfl rfl (am_ca_v (ps := [.int (iz ((mu m 316 (x2 - 1).toNat ((m 316 (x2 - 1).toNat) + 1)) 307 ((4 * (m 315 (x2 - 1).toNat)) + (m 316 (x2 - 1).toNat)).toNat))]) rfl ko_262) (Nat.le_of_ble_eq_true rfl) (Ci.weak hw fun z17 m14 J15 P16 hw => ?_)
        obtain ⟨hp18, hw⟩ := hw
        refine s_istore (pc := 145) (L' := [some (.ref 262), some (.int (iz x1)), some (.int (iz x2)), some (.int (iz (m 315 (x2 - 1).toNat))), some (.int (iz (m 316 (x2 - 1).toNat))), some (.int (iz z17))]) rfl (Nat.le_of_ble_eq_true rfl) rfl ?_
        refine s_aload_n (pc := 147) rfl rfl ?_
        refine s_getA (pc := 148) rfl ko_262 (po_262_71 hp18) ?_
        refine s_iload (pc := 151) rfl rfl ?_
        obtain ⟨hb19, hw⟩ := hw
        refine s_iald (pc := 153) rfl ka_305 (by decide) hb19 ?_
        refine s_iconst (pc := 154) rfl ?_
        obtain ⟨hz20, hw⟩ := hw
        refine s_ic_ne (pc := 155) (tgt := 160) rfl rfl hz20 (by decide) (fun hc => ?_) (fun hc => ?_)
        · replace hw := hw.1 hc
          refine s_aload_n (pc := 160) rfl rfl ?_
          refine s_getA (pc := 161) rfl ko_262 (po_262_71 hp18) ?_
          refine s_iload (pc := 164) rfl rfl ?_
          obtain ⟨hb21, hw⟩ := hw
          refine s_iald (pc := 166) rfl ka_305 (by decide) hb21 ?_
          refine s_iconst (pc := 167) rfl ?_
          obtain ⟨hz22, hw⟩ := hw
          refine s_ic_ne (pc := 168) (tgt := 174) rfl rfl hz22 (by decide) (fun hc => ?_) (fun hc => ?_)
          · replace hw := hw.1 hc
            refine s_aload_n (pc := 174) rfl rfl ?_
            refine s_getA (pc := 175) rfl ko_262 (po_262_82 hp18) ?_
            refine s_iload_n (pc := 178) rfl rfl ?_
            refine s_iload (pc := 179) rfl rfl ?_
            obtain ⟨hb23, hw⟩ := hw
            refine s_iast (pc := 181) rfl ka_315 (by decide) hb23 ?_
            refine s_aload_n (pc := 182) rfl rfl ?_
            refine s_getA (pc := 183) rfl ko_262 (po_262_83 hp18) ?_
            refine s_iload_n (pc := 186) rfl rfl ?_
            refine s_iconst (pc := 187) rfl ?_
            obtain ⟨hb24, hw⟩ := hw
            refine s_iast (pc := 188) rfl ka_316 (by decide) hb24 ?_
            refine s_aload_n (pc := 189) rfl rfl ?_
            refine s_getA (pc := 190) rfl ko_262 (po_262_71 hp18) ?_
            refine s_iload (pc := 193) rfl rfl ?_
            refine s_iconst (pc := 195) rfl ?_
            obtain ⟨hb25, hw⟩ := hw
            refine s_iast (pc := 196) rfl ka_305 (by decide) hb25 ?_
            refine s_iinc (pc := 197) (L' := [some (.ref 262), some (.int (iz x1)), some (.int (iz (x2 + 1))), some (.int (iz (m 315 (x2 - 1).toNat))), some (.int (iz (m 316 (x2 - 1).toNat))), some (.int (iz z17))]) rfl rfl (Nat.le_of_ble_eq_true rfl) rfl ?_
            refine s_goto (pc := 200) (tgt := 57) rfl rfl ?_
            exact Rn.weakL hw (LLe.keep _ (LLe.keep _ (LLe.keep _ (LLe.drop _ (LLe.drop _ (LLe.drop _ (LLe.nil)))))))
          · replace hw := hw.2 hc
            refine s_goto (pc := 171) (tgt := 57) rfl rfl ?_
            exact Rn.weakL hw (LLe.keep _ (LLe.keep _ (LLe.keep _ (LLe.drop _ (LLe.drop _ (LLe.drop _ (LLe.nil)))))))
        · replace hw := hw.2 hc
          refine s_iconst (pc := 158) rfl ?_
          exact s_retz (pc := 159) rfl rfl (by decide) hw
      · replace hw := hw.2 hc
        refine s_aload_n (pc := 105) rfl rfl ?_
        refine s_getA (pc := 106) rfl ko_262 (po_262_71 hp) ?_
        refine s_iload_n (pc := 109) rfl rfl ?_
        refine s_iconst (pc := 110) rfl ?_
        obtain ⟨hb26, hw⟩ := hw
        refine s_iast (pc := 111) rfl ka_305 (by decide) hb26 ?_
        refine s_iinc (pc := 112) (L' := [some (.ref 262), some (.int (iz x1)), some (.int (iz (x2 + (-1)))), some (.int (iz (m 315 (x2 - 1).toNat))), some (.int (iz (m 316 (x2 - 1).toNat))), none]) rfl rfl (Nat.le_of_ble_eq_true rfl) rfl ?_
        refine s_goto (pc := 115) (tgt := 57) rfl rfl ?_
        exact Rn.weakL hw (LLe.keep _ (LLe.keep _ (LLe.keep _ (LLe.drop _ (LLe.drop _ (LLe.keep _ (LLe.nil)))))))

set_option maxRecDepth 20000 in
set_option maxHeartbeats 4000000 in
theorem b_Mdl_clearNumbers_0 {X : aX} {d : Nat}   (m : Mi) (J : Mj) (P : Mp) (hp : PP P) (post : Mi → Mj → Mp → Prop)
    (hw : Rn X d 171 7 [some (.ref 262), some (.int (iz 0))] [] (SS (mu m 262 86 0) J P) (QV post)) : Rn X d 171 0 [some (.ref 262), none] [] (SS m J P) (QV post) := by
  refine s_aload_n (pc := 0) rfl rfl ?_
  refine s_iconst (pc := 1) rfl ?_
  refine s_putI (pc := 2) rfl ko_262 ?_
  refine s_iconst (pc := 5) rfl ?_
  refine s_istore_n (pc := 6) (L' := [some (.ref 262), some (.int (iz 0))]) rfl (Nat.le_of_ble_eq_true rfl) rfl ?_
  exact hw

set_option maxRecDepth 20000 in
set_option maxHeartbeats 4000000 in
theorem b_Mdl_clearNumbers_7 {X : aX} {d : Nat} (x1 : Int)  (m : Mi) (J : Mj) (P : Mp) (hp : PP P) (post : Mi → Mj → Mp → Prop)
    (hw : Zr (x1) ∧ Zr (m 262 74) ∧ ((((m 262 74) ≤ x1) → post m J P) ∧ (¬ ((m 262 74) ≤ x1) → ((0 : Int) ≤ x1 ∧ (x1 : Int) < 2000) ∧ Rn X d 171 7 [some (.ref 262), some (.int (iz (x1 + 1)))] [] (SS (mu m 306 x1.toNat ((-1))) J P) (QV post)))) : Rn X d 171 7 [some (.ref 262), some (.int (iz x1))] [] (SS m J P) (QV post) := by
  refine s_iload_n (pc := 7) rfl rfl ?_
  refine s_aload_n (pc := 8) rfl rfl ?_
  refine s_getI (pc := 9) rfl ko_262 ?_
  obtain ⟨hz1, hw⟩ := hw
  obtain ⟨hz2, hw⟩ := hw
  refine s_ic_ge (pc := 12) (tgt := 28) rfl rfl hz1 hz2 (fun hc => ?_) (fun hc => ?_)
  · replace hw := hw.1 hc
    exact s_retv (pc := 28) rfl rfl hw
  · replace hw := hw.2 hc
    refine s_aload_n (pc := 15) rfl rfl ?_
    refine s_getA (pc := 16) rfl ko_262 (po_262_72 hp) ?_
    refine s_iload_n (pc := 19) rfl rfl ?_
    refine s_iconst (pc := 20) rfl ?_
    obtain ⟨hb3, hw⟩ := hw
    refine s_iast (pc := 21) rfl ka_306 (by decide) hb3 ?_
    refine s_iinc (pc := 22) (L' := [some (.ref 262), some (.int (iz (x1 + 1)))]) rfl rfl (Nat.le_of_ble_eq_true rfl) rfl ?_
    refine s_goto (pc := 25) (tgt := 7) rfl rfl ?_
    exact hw

set_option maxRecDepth 20000 in
set_option maxHeartbeats 4000000 in
theorem b_Mdl_write_0 {X : aX} {d : Nat} (x1 : Int) (x2 : Int) (x3 : Int) (x4 : Int) (x5 : Int) (x6 nx6 : Nat) (x7 : Int) (kx6 : am_kd an_K x6 = some (.inr (0, nx6))) (bx6 : nx6 ≤ 100000) (m : Mi) (J : Mj) (P : Mp) (hp : PP P) (post : Int → Mi → Mj → Mp → Prop)
    (hw : ((0 : Int) ≤ 0 ∧ (0 : Int) < 2000) ∧ Zr (x4) ∧ (((x4 = 0) → ((0 : Int) ≤ 0 ∧ (0 : Int) < 2000) ∧ Rn X (d + 1) 172 29 [some (.ref 262), some (.int (iz x1)), some (.int (iz x2)), some (.int (iz x3)), some (.int (iz x4)), some (.int (iz x5)), some (.ref x6), some (.int (iz x7)), some (.int (iz 1)), some (.int (iz 0)), none, none, none, none] [] (SS (mu (mu m 317 (0 : Int).toNat x1) 318 (0 : Int).toNat 0) J P) (QI post)) ∧ (¬ (x4 = 0) → ((0 : Int) ≤ 0 ∧ (0 : Int) < 2000) ∧ Rn X (d + 1) 172 29 [some (.ref 262), some (.int (iz x1)), some (.int (iz x2)), some (.int (iz x3)), some (.int (iz x4)), some (.int (iz x5)), some (.ref x6), some (.int (iz x7)), some (.int (iz 1)), some (.int (iz 0)), none, none, none, none] [] (SS (mu (mu m 317 (0 : Int).toNat x1) 318 (0 : Int).toNat 1) J P) (QI post)))) : Rn X (d + 1) 172 0 [some (.ref 262), some (.int (iz x1)), some (.int (iz x2)), some (.int (iz x3)), some (.int (iz x4)), some (.int (iz x5)), some (.ref x6), some (.int (iz x7)), none, none, none, none, none, none] [] (SS m J P) (QI post) := by
  refine s_iconst (pc := 0) rfl ?_
  refine s_istore (pc := 1) (L' := [some (.ref 262), some (.int (iz x1)), some (.int (iz x2)), some (.int (iz x3)), some (.int (iz x4)), some (.int (iz x5)), some (.ref x6), some (.int (iz x7)), some (.int (iz 1)), none, none, none, none, none]) rfl (Nat.le_of_ble_eq_true rfl) rfl ?_
  refine s_iconst (pc := 3) rfl ?_
  refine s_istore (pc := 4) (L' := [some (.ref 262), some (.int (iz x1)), some (.int (iz x2)), some (.int (iz x3)), some (.int (iz x4)), some (.int (iz x5)), some (.ref x6), some (.int (iz x7)), some (.int (iz 1)), some (.int (iz 0)), none, none, none, none]) rfl (Nat.le_of_ble_eq_true rfl) rfl ?_
  refine s_aload_n (pc := 6) rfl rfl ?_
  refine s_getA (pc := 7) rfl ko_262 (po_262_84 hp) ?_
  refine s_iconst (pc := 10) rfl ?_
  refine s_iload_n (pc := 11) rfl rfl ?_
  obtain ⟨hb1, hw⟩ := hw
  refine s_iast (pc := 12) rfl ka_317 (by decide) hb1 ?_
  refine s_aload_n (pc := 13) rfl rfl ?_
  refine s_getA (pc := 14) rfl ko_262 (po_262_85 hp) ?_
  refine s_iconst (pc := 17) rfl ?_
  refine s_iload (pc := 18) rfl rfl ?_
  obtain ⟨hz2, hw⟩ := hw
  refine s_if_eq (pc := 20) (tgt := 27) rfl rfl hz2 (fun hc => ?_) (fun hc => ?_)
  · replace hw := hw.1 hc
    refine s_iconst (pc := 27) rfl ?_
    obtain ⟨hb3, hw⟩ := hw
    refine s_iast (pc := 28) rfl ka_318 (by decide) hb3 ?_
    exact hw
  · replace hw := hw.2 hc
    refine s_iconst (pc := 23) rfl ?_
    refine s_goto (pc := 24) (tgt := 28) rfl rfl ?_
    obtain ⟨hb4, hw⟩ := hw
    refine s_iast (pc := 28) rfl ka_318 (by decide) hb4 ?_
    exact hw

set_option maxRecDepth 20000 in
set_option maxHeartbeats 4000000 in
theorem b_Mdl_write_29 {X : aX} {d : Nat} (x1 : Int) (x2 : Int) (x3 : Int) (x4 : Int) (x5 : Int) (x6 nx6 : Nat) (x7 : Int) (x8 : Int) (x9 : Int) (kx6 : am_kd an_K x6 = some (.inr (0, nx6))) (bx6 : nx6 ≤ 100000) (m : Mi) (J : Mj) (P : Mp) (hp : PP P) (post : Int → Mi → Mj → Mp → Prop)
    (hw : Zr (x8) ∧ (((x8 ≤ 0) → post x9 m J P) ∧ (¬ (x8 ≤ 0) → Zr (x9) ∧ Zr (x5) ∧ (((¬ x9 = x5) → ((0 : Int) ≤ (x8 + (-1)) ∧ ((x8 + (-1)) : Int) < 2000) ∧ ((0 : Int) ≤ (x8 + (-1)) ∧ ((x8 + (-1)) : Int) < 2000) ∧ Zr (m 318 (x8 + (-1)).toNat) ∧ (((¬ (m 318 (x8 + (-1)).toNat) = 1) → Zr (m 317 (x8 + (-1)).toNat) ∧ Zr (x2) ∧ (((¬ (m 317 (x8 + (-1)).toNat) = x2) → Rn X (d + 1) 172 87 [some (.ref 262), some (.int (iz x1)), some (.int (iz x2)), some (.int (iz x3)), some (.int (iz x4)), some (.int (iz x5)), some (.ref x6), some (.int (iz x7)), some (.int (iz (x8 + (-1)))), some (.int (iz x9)), some (.int (iz (m 317 (x8 + (-1)).toNat))), some (.int (iz 0)), none, none] [] (SS m J P) (QI post)) ∧ (¬ (¬ (m 317 (x8 + (-1)).toNat) = x2) → Rn X (d + 1) 172 87 [some (.ref 262), some (.int (iz x1)), some (.int (iz x2)), some (.int (iz x3)), some (.int (iz x4)), some (.int (iz x5)), some (.ref x6), some (.int (iz x7)), some (.int (iz (x8 + (-1)))), some (.int (iz x9)), some (.int (iz x3)), some (.int (iz 0)), none, none] [] (SS m J P) (QI post)))) ∧ (¬ (¬ (m 318 (x8 + (-1)).toNat) = 1) → Rn X (d + 1) 172 87 [some (.ref 262), some (.int (iz x1)), some (.int (iz x2)), some (.int (iz x3)), some (.int (iz x4)), some (.int (iz x5)), some (.ref x6), some (.int (iz x7)), some (.int (iz (x8 + (-1)))), some (.int (iz x9)), some (.int (iz (m 317 (x8 + (-1)).toNat))), some (.int (iz 1)), none, none] [] (SS m J P) (QI post)))) ∧ (¬ (¬ x9 = x5) → post ((-1)) m J P))))) : Rn X (d + 1) 172 29 [some (.ref 262), some (.int (iz x1)), some (.int (iz x2)), some (.int (iz x3)), some (.int (iz x4)), some (.int (iz x5)), some (.ref x6), some (.int (iz x7)), some (.int (iz x8)), some (.int (iz x9)), none, none, none, none] [] (SS m J P) (QI post) := by
  refine s_iload (pc := 29) rfl rfl ?_
  obtain ⟨hz1, hw⟩ := hw
  refine s_if_le (pc := 31) (tgt := 290) rfl rfl hz1 (fun hc => ?_) (fun hc => ?_)
  · replace hw := hw.1 hc
    refine s_iload (pc := 290) rfl rfl ?_
    exact s_reti (pc := 292) rfl rfl hw
  · replace hw := hw.2 hc
    refine s_iinc (pc := 34) (L' := [some (.ref 262), some (.int (iz x1)), some (.int (iz x2)), some (.int (iz x3)), some (.int (iz x4)), some (.int (iz x5)), some (.ref x6), some (.int (iz x7)), some (.int (iz (x8 + (-1)))), some (.int (iz x9)), none, none, none, none]) rfl rfl (Nat.le_of_ble_eq_true rfl) rfl ?_
    refine s_iload (pc := 37) rfl rfl ?_
    refine s_iload (pc := 39) rfl rfl ?_
    obtain ⟨hz2, hw⟩ := hw
    obtain ⟨hz3, hw⟩ := hw
    refine s_ic_ne (pc := 41) (tgt := 46) rfl rfl hz2 hz3 (fun hc => ?_) (fun hc => ?_)
    · replace hw := hw.1 hc
      refine s_aload_n (pc := 46) rfl rfl ?_
      refine s_getA (pc := 47) rfl ko_262 (po_262_84 hp) ?_
      refine s_iload (pc := 50) rfl rfl ?_
      obtain ⟨hb4, hw⟩ := hw
      refine s_iald (pc := 52) rfl ka_317 (by decide) hb4 ?_
      refine s_istore (pc := 53) (L' := [some (.ref 262), some (.int (iz x1)), some (.int (iz x2)), some (.int (iz x3)), some (.int (iz x4)), some (.int (iz x5)), some (.ref x6), some (.int (iz x7)), some (.int (iz (x8 + (-1)))), some (.int (iz x9)), some (.int (iz (m 317 (x8 + (-1)).toNat))), none, none, none]) rfl (Nat.le_of_ble_eq_true rfl) rfl ?_
      refine s_aload_n (pc := 55) rfl rfl ?_
      refine s_getA (pc := 56) rfl ko_262 (po_262_85 hp) ?_
      refine s_iload (pc := 59) rfl rfl ?_
      obtain ⟨hb5, hw⟩ := hw
      refine s_iald (pc := 61) rfl ka_318 (by decide) hb5 ?_
      refine s_iconst (pc := 62) rfl ?_
      obtain ⟨hz6, hw⟩ := hw
      refine s_ic_ne (pc := 63) (tgt := 70) rfl rfl hz6 (by decide) (fun hc => ?_) (fun hc => ?_)
      · replace hw := hw.1 hc
        refine s_iconst (pc := 70) rfl ?_
        refine s_istore (pc := 71) (L' := [some (.ref 262), some (.int (iz x1)), some (.int (iz x2)), some (.int (iz x3)), some (.int (iz x4)), some (.int (iz x5)), some (.ref x6), some (.int (iz x7)), some (.int (iz (x8 + (-1)))), some (.int (iz x9)), some (.int (iz (m 317 (x8 + (-1)).toNat))), some (.int (iz 0)), none, none]) rfl (Nat.le_of_ble_eq_true rfl) rfl ?_
        refine s_iload (pc := 73) rfl rfl ?_
        refine s_if_ne (pc := 75) (tgt := 87) rfl rfl (by decide) (fun hc => ?_) (fun hc => ?_)
        · exact absurd hc (by decide)
        refine s_iload (pc := 78) rfl rfl ?_
        refine s_iload_n (pc := 80) rfl rfl ?_
        obtain ⟨hz7, hw⟩ := hw
        obtain ⟨hz8, hw⟩ := hw
        refine s_ic_ne (pc := 81) (tgt := 87) rfl rfl hz7 hz8 (fun hc => ?_) (fun hc => ?_)
        · replace hw := hw.1 hc
          exact hw
        · replace hw := hw.2 hc
          refine s_iload_n (pc := 84) rfl rfl ?_
          refine s_istore (pc := 85) (L' := [some (.ref 262), some (.int (iz x1)), some (.int (iz x2)), some (.int (iz x3)), some (.int (iz x4)), some (.int (iz x5)), some (.ref x6), some (.int (iz x7)), some (.int (iz (x8 + (-1)))), some (.int (iz x9)), some (.int (iz x3)), some (.int (iz 0)), none, none]) rfl (Nat.le_of_ble_eq_true rfl) rfl ?_
          exact hw
      · replace hw := hw.2 hc
        refine s_iconst (pc := 66) rfl ?_
        refine s_goto (pc := 67) (tgt := 71) rfl rfl ?_
        refine s_istore (pc := 71) (L' := [some (.ref 262), some (.int (iz x1)), some (.int (iz x2)), some (.int (iz x3)), some (.int (iz x4)), some (.int (iz x5)), some (.ref x6), some (.int (iz x7)), some (.int (iz (x8 + (-1)))), some (.int (iz x9)), some (.int (iz (m 317 (x8 + (-1)).toNat))), some (.int (iz 1)), none, none]) rfl (Nat.le_of_ble_eq_true rfl) rfl ?_
        refine s_iload (pc := 73) rfl rfl ?_
        refine s_if_ne (pc := 75) (tgt := 87) rfl rfl (by decide) (fun hc => ?_) (fun hc => ?_)
        rotate_left
        · exact absurd hc (by decide)
        exact hw
    · replace hw := hw.2 hc
      refine s_iconst (pc := 44) rfl ?_
      exact s_reti (pc := 45) rfl rfl hw

set_option maxRecDepth 20000 in
set_option maxHeartbeats 4000000 in
theorem b_Mdl_write_87 {X : aX} {d : Nat} (x1 : Int) (x2 : Int) (x3 : Int) (x4 : Int) (x5 : Int) (x6 nx6 : Nat) (x7 : Int) (x8 : Int) (x9 : Int) (x10 : Int) (x11 : Int) (kx6 : am_kd an_K x6 = some (.inr (0, nx6))) (bx6 : nx6 ≤ 100000) (m : Mi) (J : Mj) (P : Mp) (hp : PP P) (post : Int → Mi → Mj → Mp → Prop)
    (hw : ((0 : Int) ≤ x10 ∧ (x10 : Int) < 2000) ∧ Zr (x11) ∧ (((¬ x11 = 0) → Ci X d 169 [.ref 262, .int (iz x10)] m J P (fun z6 m3 J4 P5 => PP P5 ∧ Zr (m3 262 87) ∧ ((((m3 262 87) = 0) → Rn X (d + 1) 172 136 [some (.ref 262), some (.int (iz x1)), some (.int (iz x2)), some (.int (iz x3)), some (.int (iz x4)), some (.int (iz x5)), some (.ref x6), some (.int (iz x7)), some (.int (iz x8)), some (.int (iz x9)), some (.int (iz z6)), some (.int (iz 1)), some (.int (iz 0)), none] [] (SS m3 J4 P5) (QI post)) ∧ (¬ ((m3 262 87) = 0) → Rn X (d + 1) 172 136 [some (.ref 262), some (.int (iz x1)), some (.int (iz x2)), some (.int (iz x3)), some (.int (iz x4)), some (.int (iz x5)), some (.ref x6), some (.int (iz x7)), some (.int (iz x8)), some (.int (iz x9)), some (.int (iz z6)), some (.int (iz 1)), some (.int (iz 1)), none] [] (SS m3 J4 P5) (QI post))))) ∧ (¬ (¬ x11 = 0) → ((0 : Int) ≤ x10 ∧ (x10 : Int) < 2000) ∧ Zr (m 302 x10.toNat) ∧ (((0 ≤ (m 302 x10.toNat)) → Rn X (d + 1) 172 136 [some (.ref 262), some (.int (iz x1)), some (.int (iz x2)), some (.int (iz x3)), some (.int (iz x4)), some (.int (iz x5)), some (.ref x6), some (.int (iz x7)), some (.int (iz x8)), some (.int (iz x9)), some (.int (iz x10)), some (.int (iz x11)), some (.int (iz (m 304 x10.toNat))), none] [] (SS m J P) (QI post)) ∧ (¬ (0 ≤ (m 302 x10.toNat)) → Ci X d 169 [.ref 262, .int (iz x10)] m J P (fun z14 m11 J12 P13 => PP P13 ∧ Zr (m11 262 87) ∧ ((((m11 262 87) = 0) → Rn X (d + 1) 172 136 [some (.ref 262), some (.int (iz x1)), some (.int (iz x2)), some (.int (iz x3)), some (.int (iz x4)), some (.int (iz x5)), some (.ref x6), some (.int (iz x7)), some (.int (iz x8)), some (.int (iz x9)), some (.int (iz z14)), some (.int (iz 1)), some (.int (iz 0)), none] [] (SS m11 J12 P13) (QI post)) ∧ (¬ ((m11 262 87) = 0) → Rn X (d + 1) 172 136 [some (.ref 262), some (.int (iz x1)), some (.int (iz x2)), some (.int (iz x3)), some (.int (iz x4)), some (.int (iz x5)), some (.ref x6), some (.int (iz x7)), some (.int (iz x8)), some (.int (iz x9)), some (.int (iz z14)), some (.int (iz 1)), some (.int (iz 1)), none] [] (SS m11 J12 P13) (QI post))))))))) : Rn X (d + 1) 172 87 [some (.ref 262), some (.int (iz x1)), some (.int (iz x2)), some (.int (iz x3)), some (.int (iz x4)), some (.int (iz x5)), some (.ref x6), some (.int (iz x7)), some (.int (iz x8)), some (.int (iz x9)), some (.int (iz x10)), some (.int (iz x11)), none, none] [] (SS m J P) (QI post) := by
  refine s_aload_n (pc := 87) rfl rfl ?_
  refine s_getA (pc := 88) rfl ko_262 (po_262_70 hp) ?_
  refine s_iload (pc := 91) rfl rfl ?_
  obtain ⟨hb1, hw⟩ := hw
  refine s_iald (pc := 93) rfl ka_304 (by decide) hb1 ?_
  refine s_istore (pc := 94) (L' := [some (.ref 262), some (.int (iz x1)), some (.int (iz x2)), some (.int (iz x3)), some (.int (iz x4)), some (.int (iz x5)), some (.ref x6), some (.int (iz x7)), some (.int (iz x8)), some (.int (iz x9)), some (.int (iz x10)), some (.int (iz x11)), some (.int (iz (m 304 x10.toNat))), none]) rfl (Nat.le_of_ble_eq_true rfl) rfl ?_
  refine s_iload (pc := 96) rfl rfl ?_
  obtain ⟨hz2, hw⟩ := hw
  refine s_if_ne (pc := 98) (tgt := 111) rfl rfl hz2 (fun hc => ?_) (fun hc => ?_)
  · replace hw := hw.1 hc
    refine s_aload_n (pc := 111) rfl rfl ?_
    refine s_iload (pc := 112) rfl rfl ?_
    refine s_ci (pc := 114) (d := d) (t := []) rfl rfl (am_ca_v (ps := [.int (iz x10)]) rfl ko_262) (Nat.le_of_ble_eq_true rfl) (Ci.weak hw fun z6 m3 J4 P5 hw => ?_)
    obtain ⟨hp7, hw⟩ := hw
    refine s_istore (pc := 117) (L' := [some (.ref 262), some (.int (iz x1)), some (.int (iz x2)), some (.int (iz x3)), some (.int (iz x4)), some (.int (iz x5)), some (.ref x6), some (.int (iz x7)), some (.int (iz x8)), some (.int (iz x9)), some (.int (iz z6)), some (.int (iz x11)), some (.int (iz (m 304 x10.toNat))), none]) rfl (Nat.le_of_ble_eq_true rfl) rfl ?_
    refine s_iconst (pc := 119) rfl ?_
    refine s_istore (pc := 120) (L' := [some (.ref 262), some (.int (iz x1)), some (.int (iz x2)), some (.int (iz x3)), some (.int (iz x4)), some (.int (iz x5)), some (.ref x6), some (.int (iz x7)), some (.int (iz x8)), some (.int (iz x9)), some (.int (iz z6)), some (.int (iz 1)), some (.int (iz (m 304 x10.toNat))), none]) rfl (Nat.le_of_ble_eq_true rfl) rfl ?_
    refine s_aload_n (pc := 122) rfl rfl ?_
    refine s_getZ (pc := 123) rfl ko_262 ?_
    obtain ⟨hz8, hw⟩ := hw
    refine s_if_eq (pc := 126) (tgt := 133) rfl rfl hz8 (fun hc => ?_) (fun hc => ?_)
    · replace hw := hw.1 hc
      refine s_iconst (pc := 133) rfl ?_
      refine s_istore (pc := 134) (L' := [some (.ref 262), some (.int (iz x1)), some (.int (iz x2)), some (.int (iz x3)), some (.int (iz x4)), some (.int (iz x5)), some (.ref x6), some (.int (iz x7)), some (.int (iz x8)), some (.int (iz x9)), some (.int (iz z6)), some (.int (iz 1)), some (.int (iz 0)), none]) rfl (Nat.le_of_ble_eq_true rfl) rfl ?_
      exact hw
    · replace hw := hw.2 hc
      refine s_iconst (pc := 129) rfl ?_
      refine s_goto (pc := 130) (tgt := 134) rfl rfl ?_
      refine s_istore (pc := 134) (L' := [some (.ref 262), some (.int (iz x1)), some (.int (iz x2)), some (.int (iz x3)), some (.int (iz x4)), some (.int (iz x5)), some (.ref x6), some (.int (iz x7)), some (.int (iz x8)), some (.int (iz x9)), some (.int (iz z6)), some (.int (iz 1)), some (.int (iz 1)), none]) rfl (Nat.le_of_ble_eq_true rfl) rfl ?_
      exact hw
  · replace hw := hw.2 hc
    refine s_aload_n (pc := 101) rfl rfl ?_
    refine s_getA (pc := 102) rfl ko_262 (po_262_68 hp) ?_
    refine s_iload (pc := 105) rfl rfl ?_
    obtain ⟨hb9, hw⟩ := hw
    refine s_iald (pc := 107) rfl ka_302 (by decide) hb9 ?_
    obtain ⟨hz10, hw⟩ := hw
    refine s_if_ge (pc := 108) (tgt := 136) rfl rfl hz10 (fun hc => ?_) (fun hc => ?_)
    · replace hw := hw.1 hc
      exact hw
    · replace hw := hw.2 hc
      refine s_aload_n (pc := 111) rfl rfl ?_
      refine s_iload (pc := 112) rfl rfl ?_
      refine s_ci (pc := 114) (d := d) (t := []) rfl rfl (am_ca_v (ps := [.int (iz x10)]) rfl ko_262) (Nat.le_of_ble_eq_true rfl) (Ci.weak hw fun z14 m11 J12 P13 hw => ?_)
      obtain ⟨hp15, hw⟩ := hw
      refine s_istore (pc := 117) (L' := [some (.ref 262), some (.int (iz x1)), some (.int (iz x2)), some (.int (iz x3)), some (.int (iz x4)), some (.int (iz x5)), some (.ref x6), some (.int (iz x7)), some (.int (iz x8)), some (.int (iz x9)), some (.int (iz z14)), some (.int (iz x11)), some (.int (iz (m 304 x10.toNat))), none]) rfl (Nat.le_of_ble_eq_true rfl) rfl ?_
      refine s_iconst (pc := 119) rfl ?_
      refine s_istore (pc := 120) (L' := [some (.ref 262), some (.int (iz x1)), some (.int (iz x2)), some (.int (iz x3)), some (.int (iz x4)), some (.int (iz x5)), some (.ref x6), some (.int (iz x7)), some (.int (iz x8)), some (.int (iz x9)), some (.int (iz z14)), some (.int (iz 1)), some (.int (iz (m 304 x10.toNat))), none]) rfl (Nat.le_of_ble_eq_true rfl) rfl ?_
      refine s_aload_n (pc := 122) rfl rfl ?_
      refine s_getZ (pc := 123) rfl ko_262 ?_
      obtain ⟨hz16, hw⟩ := hw
      refine s_if_eq (pc := 126) (tgt := 133) rfl rfl hz16 (fun hc => ?_) (fun hc => ?_)
      · replace hw := hw.1 hc
        refine s_iconst (pc := 133) rfl ?_
        refine s_istore (pc := 134) (L' := [some (.ref 262), some (.int (iz x1)), some (.int (iz x2)), some (.int (iz x3)), some (.int (iz x4)), some (.int (iz x5)), some (.ref x6), some (.int (iz x7)), some (.int (iz x8)), some (.int (iz x9)), some (.int (iz z14)), some (.int (iz 1)), some (.int (iz 0)), none]) rfl (Nat.le_of_ble_eq_true rfl) rfl ?_
        exact hw
      · replace hw := hw.2 hc
        refine s_iconst (pc := 129) rfl ?_
        refine s_goto (pc := 130) (tgt := 134) rfl rfl ?_
        refine s_istore (pc := 134) (L' := [some (.ref 262), some (.int (iz x1)), some (.int (iz x2)), some (.int (iz x3)), some (.int (iz x4)), some (.int (iz x5)), some (.ref x6), some (.int (iz x7)), some (.int (iz x8)), some (.int (iz x9)), some (.int (iz z14)), some (.int (iz 1)), some (.int (iz 1)), none]) rfl (Nat.le_of_ble_eq_true rfl) rfl ?_
        exact hw

set_option maxRecDepth 20000 in
set_option maxHeartbeats 4000000 in
theorem b_Mdl_write_136 {X : aX} {d : Nat} (x1 : Int) (x2 : Int) (x3 : Int) (x4 : Int) (x5 : Int) (x6 nx6 : Nat) (x7 : Int) (x8 : Int) (x9 : Int) (x10 : Int) (x11 : Int) (x12 : Int) (kx6 : am_kd an_K x6 = some (.inr (0, nx6))) (bx6 : nx6 ≤ 100000) (m : Mi) (J : Mj) (P : Mp) (hp : PP P) (post : Int → Mi → Mj → Mp → Prop)
    (hw : ((0 : Int) ≤ x10 ∧ (x10 : Int) < 2000) ∧ Zr (m 302 x10.toNat) ∧ (((0 ≤ (m 302 x10.toNat)) → ((0 : Int) ≤ x10 ∧ (x10 : Int) < 2000) ∧ ((0 : Int) ≤ (x7 + x9) ∧ ((x7 + x9) : Int) < nx6) ∧ ((0 : Int) ≤ x10 ∧ (x10 : Int) < 2000) ∧ ((0 : Int) ≤ ((mu m x6 (x7 + x9).toNat ((m 302 x10.toNat) + (64 * x12))) 302 x10.toNat) ∧ (((mu m x6 (x7 + x9).toNat ((m 302 x10.toNat) + (64 * x12))) 302 x10.toNat) : Int) < 16) ∧ Rn X (d + 1) 172 234 [some (.ref 262), some (.int (iz x1)), some (.int (iz x2)), some (.int (iz x3)), some (.int (iz x4)), some (.int (iz x5)), some (.ref x6), some (.int (iz x7)), some (.int (iz x8)), some (.int (iz x9)), some (.int (iz x10)), some (.int (iz x11)), some (.int (iz x12)), some (.int (iz (((mu m x6 (x7 + x9).toNat ((m 302 x10.toNat) + (64 * x12))) 280 ((mu m x6 (x7 + x9).toNat ((m 302 x10.toNat) + (64 * x12))) 302 x10.toNat).toNat) - 1)))] [] (SS (mu m x6 (x7 + x9).toNat ((m 302 x10.toNat) + (64 * x12))) J P) (QI post)) ∧ (¬ (0 ≤ (m 302 x10.toNat)) → ((0 : Int) ≤ x10 ∧ (x10 : Int) < 2000) ∧ Zr (m 306 x10.toNat) ∧ (((0 ≤ (m 306 x10.toNat)) → ((0 : Int) ≤ x10 ∧ (x10 : Int) < 2000) ∧ ((0 : Int) ≤ (x7 + x9) ∧ ((x7 + x9) : Int) < nx6) ∧ Rn X (d + 1) 172 29 [some (.ref 262), some (.int (iz x1)), some (.int (iz x2)), some (.int (iz x3)), some (.int (iz x4)), some (.int (iz x5)), some (.ref x6), some (.int (iz x7)), some (.int (iz x8)), some (.int (iz (x9 + 1))), none, none, none, none] [] (SS (mu m x6 (x7 + x9).toNat (((-1)) - (m 306 x10.toNat))) J P) (QI post)) ∧ (¬ (0 ≤ (m 306 x10.toNat)) → ((0 : Int) ≤ x10 ∧ (x10 : Int) < 2000) ∧ ((0 : Int) ≤ x10 ∧ (x10 : Int) < 2000) ∧ ((0 : Int) ≤ (x7 + x9) ∧ ((x7 + x9) : Int) < nx6) ∧ Rn X (d + 1) 172 29 [some (.ref 262), some (.int (iz x1)), some (.int (iz x2)), some (.int (iz x3)), some (.int (iz x4)), some (.int (iz x5)), some (.ref x6), some (.int (iz x7)), some (.int (iz x8)), some (.int (iz (x9 + 1))), none, none, none, none] [] (SS (mu (mu (mu m 306 x10.toNat (m 262 86)) 262 86 (((mu m 306 x10.toNat (m 262 86)) 262 86) + 1)) x6 (x7 + x9).toNat (((-1)) - ((mu (mu m 306 x10.toNat (m 262 86)) 262 86 (((mu m 306 x10.toNat (m 262 86)) 262 86) + 1)) 306 x10.toNat))) J P) (QI post)))))) : Rn X (d + 1) 172 136 [some (.ref 262), some (.int (iz x1)), some (.int (iz x2)), some (.int (iz x3)), some (.int (iz x4)), some (.int (iz x5)), some (.ref x6), some (.int (iz x7)), some (.int (iz x8)), some (.int (iz x9)), some (.int (iz x10)), some (.int (iz x11)), some (.int (iz x12)), none] [] (SS m J P) (QI post) := by
  refine s_aload_n (pc := 136) rfl rfl ?_
  refine s_getA (pc := 137) rfl ko_262 (po_262_68 hp) ?_
  refine s_iload (pc := 140) rfl rfl ?_
  obtain ⟨hb1, hw⟩ := hw
  refine s_iald (pc := 142) rfl ka_302 (by decide) hb1 ?_
  obtain ⟨hz2, hw⟩ := hw
  refine s_if_ge (pc := 143) (tgt := 197) rfl rfl hz2 (fun hc => ?_) (fun hc => ?_)
  · replace hw := hw.1 hc
    refine s_aload (pc := 197) rfl rfl ?_
    refine s_iload (pc := 199) rfl rfl ?_
    refine s_iload (pc := 201) rfl rfl ?_
    refine s_iadd (pc := 203) rfl ?_
    refine s_aload_n (pc := 204) rfl rfl ?_
    refine s_getA (pc := 205) rfl ko_262 (po_262_68 hp) ?_
    refine s_iload (pc := 208) rfl rfl ?_
    obtain ⟨hb3, hw⟩ := hw
    refine s_iald (pc := 210) rfl ka_302 (by decide) hb3 ?_
    refine s_bipush (pc := 211) rfl (by decide) ?_
    refine s_iload (pc := 213) rfl rfl ?_
    refine s_imul (pc := 215) rfl ?_
    refine s_iadd (pc := 216) rfl ?_
    obtain ⟨hb4, hw⟩ := hw
    refine s_iast (pc := 217) rfl kx6 bx6 hb4 ?_
    refine s_aload_n (pc := 218) rfl rfl ?_
    refine s_getA (pc := 219) rfl ko_262 (po_262_37 hp) ?_
    refine s_aload_n (pc := 222) rfl rfl ?_
    refine s_getA (pc := 223) rfl ko_262 (po_262_68 hp) ?_
    refine s_iload (pc := 226) rfl rfl ?_
    obtain ⟨hb5, hw⟩ := hw
    refine s_iald (pc := 228) rfl ka_302 (by decide) hb5 ?_
    obtain ⟨hb6, hw⟩ := hw
    refine s_iald (pc := 229) rfl ka_280 (by decide) hb6 ?_
    refine s_iconst (pc := 230) rfl ?_
    refine s_isub (pc := 231) rfl ?_
    refine s_istore (pc := 232) (L' := [some (.ref 262), some (.int (iz x1)), some (.int (iz x2)), some (.int (iz x3)), some (.int (iz x4)), some (.int (iz x5)), some (.ref x6), some (.int (iz x7)), some (.int (iz x8)), some (.int (iz x9)), some (.int (iz x10)), some (.int (iz x11)), some (.int (iz x12)), some (.int (iz (((mu m x6 (x7 + x9).toNat ((m 302 x10.toNat) + (64 * x12))) 280 ((mu m x6 (x7 + x9).toNat ((m 302 x10.toNat) + (64 * x12))) 302 x10.toNat).toNat) - 1)))]) rfl (Nat.le_of_ble_eq_true rfl) rfl ?_
    exact hw
  · replace hw := hw.2 hc
    refine s_aload_n (pc := 146) rfl rfl ?_
    refine s_getA (pc := 147) rfl ko_262 (po_262_72 hp) ?_
    refine s_iload (pc := 150) rfl rfl ?_
    obtain ⟨hb7, hw⟩ := hw
    refine s_iald (pc := 152) rfl ka_306 (by decide) hb7 ?_
    obtain ⟨hz8, hw⟩ := hw
    refine s_if_ge (pc := 153) (tgt := 177) rfl rfl hz8 (fun hc => ?_) (fun hc => ?_)
    · replace hw := hw.1 hc
      refine s_aload (pc := 177) rfl rfl ?_
      refine s_iload (pc := 179) rfl rfl ?_
      refine s_iload (pc := 181) rfl rfl ?_
      refine s_iadd (pc := 183) rfl ?_
      refine s_iconst (pc := 184) rfl ?_
      refine s_aload_n (pc := 185) rfl rfl ?_
      refine s_getA (pc := 186) rfl ko_262 (po_262_72 hp) ?_
      refine s_iload (pc := 189) rfl rfl ?_
      obtain ⟨hb9, hw⟩ := hw
      refine s_iald (pc := 191) rfl ka_306 (by decide) hb9 ?_
      refine s_isub (pc := 192) rfl ?_
      obtain ⟨hb10, hw⟩ := hw
      refine s_iast (pc := 193) rfl kx6 bx6 hb10 ?_
      refine s_goto (pc := 194) (tgt := 284) rfl rfl ?_
      refine s_iinc (pc := 284) (L' := [some (.ref 262), some (.int (iz x1)), some (.int (iz x2)), some (.int (iz x3)), some (.int (iz x4)), some (.int (iz x5)), some (.ref x6), some (.int (iz x7)), some (.int (iz x8)), some (.int (iz (x9 + 1))), some (.int (iz x10)), some (.int (iz x11)), some (.int (iz x12)), none]) rfl rfl (Nat.le_of_ble_eq_true rfl) rfl ?_
      refine s_goto (pc := 287) (tgt := 29) rfl rfl ?_
      exact Rn.weakL hw (LLe.keep _ (LLe.keep _ (LLe.keep _ (LLe.keep _ (LLe.keep _ (LLe.keep _ (LLe.keep _ (LLe.keep _ (LLe.keep _ (LLe.keep _ (LLe.drop _ (LLe.drop _ (LLe.drop _ (LLe.keep _ (LLe.nil)))))))))))))))
    · replace hw := hw.2 hc
      refine s_aload_n (pc := 156) rfl rfl ?_
      refine s_getA (pc := 157) rfl ko_262 (po_262_72 hp) ?_
      refine s_iload (pc := 160) rfl rfl ?_
      refine s_aload_n (pc := 162) rfl rfl ?_
      refine s_getI (pc := 163) rfl ko_262 ?_
      obtain ⟨hb11, hw⟩ := hw
      refine s_iast (pc := 166) rfl ka_306 (by decide) hb11 ?_
      refine s_aload_n (pc := 167) rfl rfl ?_
      refine s_dup (pc := 168) rfl rfl ?_
      refine s_getI (pc := 169) rfl ko_262 ?_
      refine s_iconst (pc := 172) rfl ?_
      refine s_iadd (pc := 173) rfl ?_
      refine s_putI (pc := 174) rfl ko_262 ?_
      refine s_aload (pc := 177) rfl rfl ?_
      refine s_iload (pc := 179) rfl rfl ?_
      refine s_iload (pc := 181) rfl rfl ?_
      refine s_iadd (pc := 183) rfl ?_
      refine s_iconst (pc := 184) rfl ?_
      refine s_aload_n (pc := 185) rfl rfl ?_
      refine s_getA (pc := 186) rfl ko_262 (po_262_72 hp) ?_
      refine s_iload (pc := 189) rfl rfl ?_
      obtain ⟨hb12, hw⟩ := hw
      refine s_iald (pc := 191) rfl ka_306 (by decide) hb12 ?_
      refine s_isub (pc := 192) rfl ?_
      obtain ⟨hb13, hw⟩ := hw
      refine s_iast (pc := 193) rfl kx6 bx6 hb13 ?_
      refine s_goto (pc := 194) (tgt := 284) rfl rfl ?_
      refine s_iinc (pc := 284) (L' := [some (.ref 262), some (.int (iz x1)), some (.int (iz x2)), some (.int (iz x3)), some (.int (iz x4)), some (.int (iz x5)), some (.ref x6), some (.int (iz x7)), some (.int (iz x8)), some (.int (iz (x9 + 1))), some (.int (iz x10)), some (.int (iz x11)), some (.int (iz x12)), none]) rfl rfl (Nat.le_of_ble_eq_true rfl) rfl ?_
      refine s_goto (pc := 287) (tgt := 29) rfl rfl ?_
      exact Rn.weakL hw (LLe.keep _ (LLe.keep _ (LLe.keep _ (LLe.keep _ (LLe.keep _ (LLe.keep _ (LLe.keep _ (LLe.keep _ (LLe.keep _ (LLe.keep _ (LLe.drop _ (LLe.drop _ (LLe.drop _ (LLe.keep _ (LLe.nil)))))))))))))))

set_option maxRecDepth 20000 in
set_option maxHeartbeats 4000000 in
theorem b_Mdl_write_234 {X : aX} {d : Nat} (x1 : Int) (x2 : Int) (x3 : Int) (x4 : Int) (x5 : Int) (x6 nx6 : Nat) (x7 : Int) (x8 : Int) (x9 : Int) (x10 : Int) (x11 : Int) (x12 : Int) (x13 : Int) (kx6 : am_kd an_K x6 = some (.inr (0, nx6))) (bx6 : nx6 ≤ 100000) (m : Mi) (J : Mj) (P : Mp) (hp : PP P) (post : Int → Mi → Mj → Mp → Prop)
    (hw : Zr (x13) ∧ (((x13 < 0) → Rn X (d + 1) 172 29 [some (.ref 262), some (.int (iz x1)), some (.int (iz x2)), some (.int (iz x3)), some (.int (iz x4)), some (.int (iz x5)), some (.ref x6), some (.int (iz x7)), some (.int (iz x8)), some (.int (iz (x9 + 1))), none, none, none, none] [] (SS m J P) (QI post)) ∧ (¬ (x13 < 0) → ((0 : Int) ≤ ((4 * x10) + x13) ∧ (((4 * x10) + x13) : Int) < 8000) ∧ ((0 : Int) ≤ x8 ∧ (x8 : Int) < 2000) ∧ Zr (x11) ∧ (((x11 = 0) → ((0 : Int) ≤ x8 ∧ (x8 : Int) < 2000) ∧ Rn X (d + 1) 172 234 [some (.ref 262), some (.int (iz x1)), some (.int (iz x2)), some (.int (iz x3)), some (.int (iz x4)), some (.int (iz x5)), some (.ref x6), some (.int (iz x7)), some (.int (iz (x8 + 1))), some (.int (iz x9)), some (.int (iz x10)), some (.int (iz x11)), some (.int (iz x12)), some (.int (iz (x13 + (-1))))] [] (SS (mu (mu m 317 x8.toNat (m 307 ((4 * x10) + x13).toNat)) 318 x8.toNat 0) J P) (QI post)) ∧ (¬ (x11 = 0) → ((0 : Int) ≤ x8 ∧ (x8 : Int) < 2000) ∧ Rn X (d + 1) 172 234 [some (.ref 262), some (.int (iz x1)), some (.int (iz x2)), some (.int (iz x3)), some (.int (iz x4)), some (.int (iz x5)), some (.ref x6), some (.int (iz x7)), some (.int (iz (x8 + 1))), some (.int (iz x9)), some (.int (iz x10)), some (.int (iz x11)), some (.int (iz x12)), some (.int (iz (x13 + (-1))))] [] (SS (mu (mu m 317 x8.toNat (m 307 ((4 * x10) + x13).toNat)) 318 x8.toNat 1) J P) (QI post)))))) : Rn X (d + 1) 172 234 [some (.ref 262), some (.int (iz x1)), some (.int (iz x2)), some (.int (iz x3)), some (.int (iz x4)), some (.int (iz x5)), some (.ref x6), some (.int (iz x7)), some (.int (iz x8)), some (.int (iz x9)), some (.int (iz x10)), some (.int (iz x11)), some (.int (iz x12)), some (.int (iz x13))] [] (SS m J P) (QI post) := by
  refine s_iload (pc := 234) rfl rfl ?_
  obtain ⟨hz1, hw⟩ := hw
  refine s_if_lt (pc := 236) (tgt := 284) rfl rfl hz1 (fun hc => ?_) (fun hc => ?_)
  · replace hw := hw.1 hc
    refine s_iinc (pc := 284) (L' := [some (.ref 262), some (.int (iz x1)), some (.int (iz x2)), some (.int (iz x3)), some (.int (iz x4)), some (.int (iz x5)), some (.ref x6), some (.int (iz x7)), some (.int (iz x8)), some (.int (iz (x9 + 1))), some (.int (iz x10)), some (.int (iz x11)), some (.int (iz x12)), some (.int (iz x13))]) rfl rfl (Nat.le_of_ble_eq_true rfl) rfl ?_
    refine s_goto (pc := 287) (tgt := 29) rfl rfl ?_
    exact Rn.weakL hw (LLe.keep _ (LLe.keep _ (LLe.keep _ (LLe.keep _ (LLe.keep _ (LLe.keep _ (LLe.keep _ (LLe.keep _ (LLe.keep _ (LLe.keep _ (LLe.drop _ (LLe.drop _ (LLe.drop _ (LLe.drop _ (LLe.nil)))))))))))))))
  · replace hw := hw.2 hc
    refine s_aload_n (pc := 239) rfl rfl ?_
    refine s_getA (pc := 240) rfl ko_262 (po_262_84 hp) ?_
    refine s_iload (pc := 243) rfl rfl ?_
    refine s_aload_n (pc := 245) rfl rfl ?_
    refine s_getA (pc := 246) rfl ko_262 (po_262_73 hp) ?_
    refine s_iconst (pc := 249) rfl ?_
    refine s_iload (pc := 250) rfl rfl ?_
    refine s_imul (pc := 252) rfl ?_
    refine s_iload (pc := 253) rfl rfl ?_
    refine s_iadd (pc := 255) rfl ?_
    obtain ⟨hb2, hw⟩ := hw
    refine s_iald (pc := 256) rfl ka_307 (by decide) hb2 ?_
    obtain ⟨hb3, hw⟩ := hw
    refine s_iast (pc := 257) rfl ka_317 (by decide) hb3 ?_
    refine s_aload_n (pc := 258) rfl rfl ?_
    refine s_getA (pc := 259) rfl ko_262 (po_262_85 hp) ?_
    refine s_iload (pc := 262) rfl rfl ?_
    refine s_iload (pc := 264) rfl rfl ?_
    obtain ⟨hz4, hw⟩ := hw
    refine s_if_eq (pc := 266) (tgt := 273) rfl rfl hz4 (fun hc => ?_) (fun hc => ?_)
    · replace hw := hw.1 hc
      refine s_iconst (pc := 273) rfl ?_
      obtain ⟨hb5, hw⟩ := hw
      refine s_iast (pc := 274) rfl ka_318 (by decide) hb5 ?_
      refine s_iinc (pc := 275) (L' := [some (.ref 262), some (.int (iz x1)), some (.int (iz x2)), some (.int (iz x3)), some (.int (iz x4)), some (.int (iz x5)), some (.ref x6), some (.int (iz x7)), some (.int (iz (x8 + 1))), some (.int (iz x9)), some (.int (iz x10)), some (.int (iz x11)), some (.int (iz x12)), some (.int (iz x13))]) rfl rfl (Nat.le_of_ble_eq_true rfl) rfl ?_
      refine s_iinc (pc := 278) (L' := [some (.ref 262), some (.int (iz x1)), some (.int (iz x2)), some (.int (iz x3)), some (.int (iz x4)), some (.int (iz x5)), some (.ref x6), some (.int (iz x7)), some (.int (iz (x8 + 1))), some (.int (iz x9)), some (.int (iz x10)), some (.int (iz x11)), some (.int (iz x12)), some (.int (iz (x13 + (-1))))]) rfl rfl (Nat.le_of_ble_eq_true rfl) rfl ?_
      refine s_goto (pc := 281) (tgt := 234) rfl rfl ?_
      exact hw
    · replace hw := hw.2 hc
      refine s_iconst (pc := 269) rfl ?_
      refine s_goto (pc := 270) (tgt := 274) rfl rfl ?_
      obtain ⟨hb6, hw⟩ := hw
      refine s_iast (pc := 274) rfl ka_318 (by decide) hb6 ?_
      refine s_iinc (pc := 275) (L' := [some (.ref 262), some (.int (iz x1)), some (.int (iz x2)), some (.int (iz x3)), some (.int (iz x4)), some (.int (iz x5)), some (.ref x6), some (.int (iz x7)), some (.int (iz (x8 + 1))), some (.int (iz x9)), some (.int (iz x10)), some (.int (iz x11)), some (.int (iz x12)), some (.int (iz x13))]) rfl rfl (Nat.le_of_ble_eq_true rfl) rfl ?_
      refine s_iinc (pc := 278) (L' := [some (.ref 262), some (.int (iz x1)), some (.int (iz x2)), some (.int (iz x3)), some (.int (iz x4)), some (.int (iz x5)), some (.ref x6), some (.int (iz x7)), some (.int (iz (x8 + 1))), some (.int (iz x9)), some (.int (iz x10)), some (.int (iz x11)), some (.int (iz x12)), some (.int (iz (x13 + (-1))))]) rfl rfl (Nat.le_of_ble_eq_true rfl) rfl ?_
      refine s_goto (pc := 281) (tgt := 234) rfl rfl ?_
      exact hw

set_option maxRecDepth 20000 in
set_option maxHeartbeats 4000000 in
theorem b_Mdl_areOne_0 {X : aX} {d : Nat} (x1 nx1 : Nat) (x2 : Int) (x3 nx3 : Nat) (x4 : Int) (kx1 : am_kd an_K x1 = some (.inr (0, nx1))) (bx1 : nx1 ≤ 100000) (kx3 : am_kd an_K x3 = some (.inr (0, nx3))) (bx3 : nx3 ≤ 100000) (m : Mi) (J : Mj) (P : Mp) (hp : PP P) (post : Int → Mi → Mj → Mp → Prop)
    (hw : Zr (x2) ∧ (((x2 < 0) → post 2 m J P) ∧ (¬ (x2 < 0) → Zr (x4) ∧ (((0 ≤ x4) → Cv X (d + 4) 174 [.ref 262, .ref x1, .int (iz x2)] m J P (fun m3 J4 P5 => PP P5 ∧ Ci X (d + 4) 175 [.ref 262] m3 J4 P5 (fun z11 m8 J9 P10 => PP P10 ∧ Zr (z11) ∧ (((z11 = 0) → Rn X (d + 5) 173 35 [some (.ref 262), some (.ref x1), some (.int (iz x2)), some (.ref x3), some (.int (iz x4)), some (.int (iz (m8 262 61))), some (.int (iz 0)), none] [] (SS m8 J9 P10) (QI post)) ∧ (¬ (z11 = 0) → post 2 m8 J9 P10))))) ∧ (¬ (0 ≤ x4) → post 2 m J P))))) : Rn X (d + 5) 173 0 [some (.ref 262), some (.ref x1), some (.int (iz x2)), some (.ref x3), some (.int (iz x4)), none, none, none] [] (SS m J P) (QI post) := by
  refine s_iload_n (pc := 0) rfl rfl ?_
  obtain ⟨hz1, hw⟩ := hw
  refine s_if_lt (pc := 1) (tgt := 9) rfl rfl hz1 (fun hc => ?_) (fun hc => ?_)
  · replace hw := hw.1 hc
    refine s_iconst (pc := 9) rfl ?_
    exact s_reti (pc := 10) rfl rfl hw
  · replace hw := hw.2 hc
    refine s_iload (pc := 4) rfl rfl ?_
    obtain ⟨hz2, hw⟩ := hw
    refine s_if_ge (pc := 6) (tgt := 11) rfl rfl hz2 (fun hc => ?_) (fun hc => ?_)
    · replace hw := hw.1 hc
      refine s_aload_n (pc := 11) rfl rfl ?_
      refine s_aload_n (pc := 12) rfl rfl ?_
      refine s_iload_n (pc := 13) rfl rfl ?_
      refine s_cv (pc := 14) (d := (d + 4)) (t := []) rfl rfl (am_ca_v (ps := [.int (iz x2), .ref x1]) rfl ko_262) (Nat.le_of_ble_eq_true rfl) (Cv.weak hw fun m3 J4 P5 hw => ?_)
      obtain ⟨hp7, hw⟩ := hw
      refine s_aload_n (pc := 17) rfl rfl ?_
      refine s_ci (pc := 18) (d := (d + 4)) (t := []) rfl rfl (am_ca_v (ps := []) rfl ko_262) (Nat.le_of_ble_eq_true rfl) (Ci.weak hw fun z11 m8 J9 P10 hw => ?_)
      obtain ⟨hp12, hw⟩ := hw
      obtain ⟨hz13, hw⟩ := hw
      refine s_if_eq (pc := 21) (tgt := 26) rfl rfl hz13 (fun hc => ?_) (fun hc => ?_)
      · replace hw := hw.1 hc
        refine s_aload_n (pc := 26) rfl rfl ?_
        refine s_getI (pc := 27) rfl ko_262 ?_
        refine s_istore (pc := 30) (L' := [some (.ref 262), some (.ref x1), some (.int (iz x2)), some (.ref x3), some (.int (iz x4)), some (.int (iz (m8 262 61))), none, none]) rfl (Nat.le_of_ble_eq_true rfl) rfl ?_
        refine s_iconst (pc := 32) rfl ?_
        refine s_istore (pc := 33) (L' := [some (.ref 262), some (.ref x1), some (.int (iz x2)), some (.ref x3), some (.int (iz x4)), some (.int (iz (m8 262 61))), some (.int (iz 0)), none]) rfl (Nat.le_of_ble_eq_true rfl) rfl ?_
        exact hw
      · replace hw := hw.2 hc
        refine s_iconst (pc := 24) rfl ?_
        exact s_reti (pc := 25) rfl rfl hw
    · replace hw := hw.2 hc
      refine s_iconst (pc := 9) rfl ?_
      exact s_reti (pc := 10) rfl rfl hw

set_option maxRecDepth 20000 in
set_option maxHeartbeats 4000000 in
theorem b_Mdl_areOne_35 {X : aX} {d : Nat} (x1 nx1 : Nat) (x2 : Int) (x3 nx3 : Nat) (x4 : Int) (x5 : Int) (x6 : Int) (kx1 : am_kd an_K x1 = some (.inr (0, nx1))) (bx1 : nx1 ≤ 100000) (kx3 : am_kd an_K x3 = some (.inr (0, nx3))) (bx3 : nx3 ≤ 100000) (m : Mi) (J : Mj) (P : Mp) (hp : PP P) (post : Int → Mi → Mj → Mp → Prop)
    (hw : Zr (x6) ∧ Zr (m 262 61) ∧ ((((m 262 61) ≤ x6) → Cv X (d + 4) 174 [.ref 262, .ref x3, .int (iz x4)] m J P (fun m3 J4 P5 => PP P5 ∧ Ci X (d + 4) 175 [.ref 262] m3 J4 P5 (fun z11 m8 J9 P10 => PP P10 ∧ Zr (z11) ∧ (((z11 = 0) → Zr (m8 262 61) ∧ Zr (x5) ∧ (((¬ (m8 262 61) = x5) → Rn X (d + 5) 173 99 [some (.ref 262), some (.ref x1), some (.int (iz x2)), some (.ref x3), some (.int (iz x4)), some (.int (iz x5)), some (.int (iz 0)), some (.int (iz 0))] [] (SS m8 J9 P10) (QI post)) ∧ (¬ (¬ (m8 262 61) = x5) → Rn X (d + 5) 173 99 [some (.ref 262), some (.ref x1), some (.int (iz x2)), some (.ref x3), some (.int (iz x4)), some (.int (iz x5)), some (.int (iz 1)), some (.int (iz 0))] [] (SS m8 J9 P10) (QI post)))) ∧ (¬ (z11 = 0) → post 2 m8 J9 P10))))) ∧ (¬ ((m 262 61) ≤ x6) → (∃ q16, P 262 59 = some q16 ∧ am_kd an_K q16 = some (.inr (0, 201)) ∧ ((0 : Int) ≤ x6 ∧ (x6 : Int) < 201) ∧ ((0 : Int) ≤ x6 ∧ (x6 : Int) < 201) ∧ Rn X (d + 5) 173 35 [some (.ref 262), some (.ref x1), some (.int (iz x2)), some (.ref x3), some (.int (iz x4)), some (.int (iz x5)), some (.int (iz (x6 + 1))), none] [] (SS (mu m 321 x6.toNat (m q16 x6.toNat)) J P) (QI post))))) : Rn X (d + 5) 173 35 [some (.ref 262), some (.ref x1), some (.int (iz x2)), some (.ref x3), some (.int (iz x4)), some (.int (iz x5)), some (.int (iz x6)), none] [] (SS m J P) (QI post) := by
  refine s_iload (pc := 35) rfl rfl ?_
  refine s_aload_n (pc := 37) rfl rfl ?_
  refine s_getI (pc := 38) rfl ko_262 ?_
  obtain ⟨hz1, hw⟩ := hw
  obtain ⟨hz2, hw⟩ := hw
  refine s_ic_ge (pc := 41) (tgt := 64) rfl rfl hz1 hz2 (fun hc => ?_) (fun hc => ?_)
  · replace hw := hw.1 hc
    refine s_aload_n (pc := 64) rfl rfl ?_
    refine s_aload_n (pc := 65) rfl rfl ?_
    refine s_iload (pc := 66) rfl rfl ?_
    refine s_cv (pc := 68) (d := (d + 4)) (t := []) rfl rfl (am_ca_v (ps := [.int (iz x4), .ref x3]) rfl ko_262) (Nat.le_of_ble_eq_true rfl) (Cv.weak hw fun m3 J4 P5 hw => ?_)
    obtain ⟨hp7, hw⟩ := hw
    refine s_aload_n (pc := 71) rfl rfl ?_
    refine s_ci (pc := 72) (d := (d + 4)) (t := []) rfl rfl (am_ca_v (ps := []) rfl ko_262) (Nat.le_of_ble_eq_true rfl) (Ci.weak hw fun z11 m8 J9 P10 hw => ?_)
    obtain ⟨hp12, hw⟩ := hw
    obtain ⟨hz13, hw⟩ := hw
    refine s_if_eq (pc := 75) (tgt := 80) rfl rfl hz13 (fun hc => ?_) (fun hc => ?_)
    · replace hw := hw.1 hc
      refine s_aload_n (pc := 80) rfl rfl ?_
      refine s_getI (pc := 81) rfl ko_262 ?_
      refine s_iload (pc := 84) rfl rfl ?_
      obtain ⟨hz14, hw⟩ := hw
      obtain ⟨hz15, hw⟩ := hw
      refine s_ic_ne (pc := 86) (tgt := 93) rfl rfl hz14 hz15 (fun hc => ?_) (fun hc => ?_)
      · replace hw := hw.1 hc
        refine s_iconst (pc := 93) rfl ?_
        refine s_istore (pc := 94) (L' := [some (.ref 262), some (.ref x1), some (.int (iz x2)), some (.ref x3), some (.int (iz x4)), some (.int (iz x5)), some (.int (iz 0)), none]) rfl (Nat.le_of_ble_eq_true rfl) rfl ?_
        refine s_iconst (pc := 96) rfl ?_
        refine s_istore (pc := 97) (L' := [some (.ref 262), some (.ref x1), some (.int (iz x2)), some (.ref x3), some (.int (iz x4)), some (.int (iz x5)), some (.int (iz 0)), some (.int (iz 0))]) rfl (Nat.le_of_ble_eq_true rfl) rfl ?_
        exact hw
      · replace hw := hw.2 hc
        refine s_iconst (pc := 89) rfl ?_
        refine s_goto (pc := 90) (tgt := 94) rfl rfl ?_
        refine s_istore (pc := 94) (L' := [some (.ref 262), some (.ref x1), some (.int (iz x2)), some (.ref x3), some (.int (iz x4)), some (.int (iz x5)), some (.int (iz 1)), none]) rfl (Nat.le_of_ble_eq_true rfl) rfl ?_
        refine s_iconst (pc := 96) rfl ?_
        refine s_istore (pc := 97) (L' := [some (.ref 262), some (.ref x1), some (.int (iz x2)), some (.ref x3), some (.int (iz x4)), some (.int (iz x5)), some (.int (iz 1)), some (.int (iz 0))]) rfl (Nat.le_of_ble_eq_true rfl) rfl ?_
        exact hw
    · replace hw := hw.2 hc
      refine s_iconst (pc := 78) rfl ?_
      exact s_reti (pc := 79) rfl rfl hw
  · replace hw := hw.2 hc
    refine s_aload_n (pc := 44) rfl rfl ?_
    refine s_getA (pc := 45) rfl ko_262 (po_262_92 hp) ?_
    refine s_iload (pc := 48) rfl rfl ?_
    refine s_aload_n (pc := 50) rfl rfl ?_
    obtain ⟨q16, hq16, kq16, hw⟩ := hw
    refine s_getA (pc := 51) rfl ko_262 hq16 ?_
    refine s_iload (pc := 54) rfl rfl ?_
    obtain ⟨hb17, hw⟩ := hw
    refine s_iald (pc := 56) rfl kq16 (by decide) hb17 ?_
    obtain ⟨hb18, hw⟩ := hw
    refine s_iast (pc := 57) rfl ka_321 (by decide) hb18 ?_
    refine s_iinc (pc := 58) (L' := [some (.ref 262), some (.ref x1), some (.int (iz x2)), some (.ref x3), some (.int (iz x4)), some (.int (iz x5)), some (.int (iz (x6 + 1))), none]) rfl rfl (Nat.le_of_ble_eq_true rfl) rfl ?_
    refine s_goto (pc := 61) (tgt := 35) rfl rfl ?_
    exact hw

set_option maxRecDepth 20000 in
set_option maxHeartbeats 4000000 in
theorem b_Mdl_areOne_99 {X : aX} {d : Nat} (x1 nx1 : Nat) (x2 : Int) (x3 nx3 : Nat) (x4 : Int) (x5 : Int) (x6 : Int) (x7 : Int) (kx1 : am_kd an_K x1 = some (.inr (0, nx1))) (bx1 : nx1 ≤ 100000) (kx3 : am_kd an_K x3 = some (.inr (0, nx3))) (bx3 : nx3 ≤ 100000) (m : Mi) (J : Mj) (P : Mp) (hp : PP P) (post : Int → Mi → Mj → Mp → Prop)
    (hw : Zr (x7) ∧ Zr (m 262 61) ∧ ((((m 262 61) ≤ x7) → Zr (x6) ∧ (((x6 = 0) → post 0 m J P) ∧ (¬ (x6 = 0) → post 1 m J P))) ∧ (¬ ((m 262 61) ≤ x7) → Zr (x6) ∧ (((x6 = 0) → Zr (x6) ∧ (((x6 = 0) → post 0 m J P) ∧ (¬ (x6 = 0) → post 1 m J P))) ∧ (¬ (x6 = 0) → (∃ q6, P 262 59 = some q6 ∧ am_kd an_K q6 = some (.inr (0, 201)) ∧ ((0 : Int) ≤ x7 ∧ (x7 : Int) < 201) ∧ ((0 : Int) ≤ x7 ∧ (x7 : Int) < 201) ∧ Zr (m q6 x7.toNat) ∧ Zr (m 321 x7.toNat) ∧ (((¬ (m q6 x7.toNat) = (m 321 x7.toNat)) → Rn X (d + 5) 173 99 [some (.ref 262), some (.ref x1), some (.int (iz x2)), some (.ref x3), some (.int (iz x4)), some (.int (iz x5)), some (.int (iz 0)), some (.int (iz (x7 + 1)))] [] (SS m J P) (QI post)) ∧ (¬ (¬ (m q6 x7.toNat) = (m 321 x7.toNat)) → Rn X (d + 5) 173 99 [some (.ref 262), some (.ref x1), some (.int (iz x2)), some (.ref x3), some (.int (iz x4)), some (.int (iz x5)), some (.int (iz 1)), some (.int (iz (x7 + 1)))] [] (SS m J P) (QI post))))))))) : Rn X (d + 5) 173 99 [some (.ref 262), some (.ref x1), some (.int (iz x2)), some (.ref x3), some (.int (iz x4)), some (.int (iz x5)), some (.int (iz x6)), some (.int (iz x7))] [] (SS m J P) (QI post) := by
  refine s_iload (pc := 99) rfl rfl ?_
  refine s_aload_n (pc := 101) rfl rfl ?_
  refine s_getI (pc := 102) rfl ko_262 ?_
  obtain ⟨hz1, hw⟩ := hw
  obtain ⟨hz2, hw⟩ := hw
  refine s_ic_ge (pc := 105) (tgt := 143) rfl rfl hz1 hz2 (fun hc => ?_) (fun hc => ?_)
  · replace hw := hw.1 hc
    refine s_iload (pc := 143) rfl rfl ?_
    obtain ⟨hz3, hw⟩ := hw
    refine s_if_eq (pc := 145) (tgt := 152) rfl rfl hz3 (fun hc => ?_) (fun hc => ?_)
    · replace hw := hw.1 hc
      refine s_iconst (pc := 152) rfl ?_
      exact s_reti (pc := 153) rfl rfl hw
    · replace hw := hw.2 hc
      refine s_iconst (pc := 148) rfl ?_
      refine s_goto (pc := 149) (tgt := 153) rfl rfl ?_
      exact s_reti (pc := 153) rfl rfl hw
  · replace hw := hw.2 hc
    refine s_iload (pc := 108) rfl rfl ?_
    obtain ⟨hz4, hw⟩ := hw
    refine s_if_eq (pc := 110) (tgt := 143) rfl rfl hz4 (fun hc => ?_) (fun hc => ?_)
    · replace hw := hw.1 hc
      refine s_iload (pc := 143) rfl rfl ?_
      obtain ⟨hz5, hw⟩ := hw
      refine s_if_eq (pc := 145) (tgt := 152) rfl rfl hz5 (fun hc => ?_) (fun hc => ?_)
      · replace hw := hw.1 hc
        refine s_iconst (pc := 152) rfl ?_
        exact s_reti (pc := 153) rfl rfl hw
      · replace hw := hw.2 hc
        refine s_iconst (pc := 148) rfl ?_
        refine s_goto (pc := 149) (tgt := 153) rfl rfl ?_
        exact s_reti (pc := 153) rfl rfl hw
    · replace hw := hw.2 hc
      refine s_aload_n (pc := 113) rfl rfl ?_
      obtain ⟨q6, hq6, kq6, hw⟩ := hw
      refine s_getA (pc := 114) rfl ko_262 hq6 ?_
      refine s_iload (pc := 117) rfl rfl ?_
      obtain ⟨hb7, hw⟩ := hw
      refine s_iald (pc := 119) rfl kq6 (by decide) hb7 ?_
      refine s_aload_n (pc := 120) rfl rfl ?_
      refine s_getA (pc := 121) rfl ko_262 (po_262_92 hp) ?_
      refine s_iload (pc := 124) rfl rfl ?_
      obtain ⟨hb8, hw⟩ := hw
      refine s_iald (pc := 126) rfl ka_321 (by decide) hb8 ?_
      obtain ⟨hz9, hw⟩ := hw
      obtain ⟨hz10, hw⟩ := hw
      refine s_ic_ne (pc := 127) (tgt := 134) rfl rfl hz9 hz10 (fun hc => ?_) (fun hc => ?_)
      · replace hw := hw.1 hc
        refine s_iconst (pc := 134) rfl ?_
        refine s_istore (pc := 135) (L' := [some (.ref 262), some (.ref x1), some (.int (iz x2)), some (.ref x3), some (.int (iz x4)), some (.int (iz x5)), some (.int (iz 0)), some (.int (iz x7))]) rfl (Nat.le_of_ble_eq_true rfl) rfl ?_
        refine s_iinc (pc := 137) (L' := [some (.ref 262), some (.ref x1), some (.int (iz x2)), some (.ref x3), some (.int (iz x4)), some (.int (iz x5)), some (.int (iz 0)), some (.int (iz (x7 + 1)))]) rfl rfl (Nat.le_of_ble_eq_true rfl) rfl ?_
        refine s_goto (pc := 140) (tgt := 99) rfl rfl ?_
        exact hw
      · replace hw := hw.2 hc
        refine s_iconst (pc := 130) rfl ?_
        refine s_goto (pc := 131) (tgt := 135) rfl rfl ?_
        refine s_istore (pc := 135) (L' := [some (.ref 262), some (.ref x1), some (.int (iz x2)), some (.ref x3), some (.int (iz x4)), some (.int (iz x5)), some (.int (iz 1)), some (.int (iz x7))]) rfl (Nat.le_of_ble_eq_true rfl) rfl ?_
        refine s_iinc (pc := 137) (L' := [some (.ref 262), some (.ref x1), some (.int (iz x2)), some (.ref x3), some (.int (iz x4)), some (.int (iz x5)), some (.int (iz 1)), some (.int (iz (x7 + 1)))]) rfl rfl (Nat.le_of_ble_eq_true rfl) rfl ?_
        refine s_goto (pc := 140) (tgt := 99) rfl rfl ?_
        exact hw

set_option maxRecDepth 20000 in
set_option maxHeartbeats 4000000 in
theorem b_Mdl_take_0 {X : aX} {d : Nat} (x1 nx1 : Nat) (x2 : Int) (kx1 : am_kd an_K x1 = some (.inr (0, nx1))) (bx1 : nx1 ≤ 100000) (m : Mi) (J : Mj) (P : Mp) (hp : PP P) (post : Mi → Mj → Mp → Prop)
    (hw : Rn X d 174 2 [some (.ref 262), some (.ref x1), some (.int (iz x2)), some (.int (iz 0))] [] (SS m J P) (QV post)) : Rn X d 174 0 [some (.ref 262), some (.ref x1), some (.int (iz x2)), none] [] (SS m J P) (QV post) := by
  refine s_iconst (pc := 0) rfl ?_
  refine s_istore_n (pc := 1) (L' := [some (.ref 262), some (.ref x1), some (.int (iz x2)), some (.int (iz 0))]) rfl (Nat.le_of_ble_eq_true rfl) rfl ?_
  exact hw

set_option maxRecDepth 20000 in
set_option maxHeartbeats 4000000 in
theorem b_Mdl_take_2 {X : aX} {d : Nat} (x1 nx1 : Nat) (x2 : Int) (x3 : Int) (kx1 : am_kd an_K x1 = some (.inr (0, nx1))) (bx1 : nx1 ≤ 100000) (m : Mi) (J : Mj) (P : Mp) (hp : PP P) (post : Mi → Mj → Mp → Prop)
    (hw : Zr (x3) ∧ Zr (x2) ∧ (((x2 ≤ x3) → post (mu m 262 61 x2) J P) ∧ (¬ (x2 ≤ x3) → (∃ q3, P 262 59 = some q3 ∧ am_kd an_K q3 = some (.inr (0, 201)) ∧ ((0 : Int) ≤ x3 ∧ (x3 : Int) < nx1) ∧ ((0 : Int) ≤ x3 ∧ (x3 : Int) < 201) ∧ Rn X d 174 2 [some (.ref 262), some (.ref x1), some (.int (iz x2)), some (.int (iz (x3 + 1)))] [] (SS (mu m q3 x3.toNat (m x1 x3.toNat)) J P) (QV post))))) : Rn X d 174 2 [some (.ref 262), some (.ref x1), some (.int (iz x2)), some (.int (iz x3))] [] (SS m J P) (QV post) := by
  refine s_iload_n (pc := 2) rfl rfl ?_
  refine s_iload_n (pc := 3) rfl rfl ?_
  obtain ⟨hz1, hw⟩ := hw
  obtain ⟨hz2, hw⟩ := hw
  refine s_ic_ge (pc := 4) (tgt := 22) rfl rfl hz1 hz2 (fun hc => ?_) (fun hc => ?_)
  · replace hw := hw.1 hc
    refine s_aload_n (pc := 22) rfl rfl ?_
    refine s_iload_n (pc := 23) rfl rfl ?_
    refine s_putI (pc := 24) rfl ko_262 ?_
    exact s_retv (pc := 27) rfl rfl hw
  · replace hw := hw.2 hc
    refine s_aload_n (pc := 7) rfl rfl ?_
    obtain ⟨q3, hq3, kq3, hw⟩ := hw
    refine s_getA (pc := 8) rfl ko_262 hq3 ?_
    refine s_iload_n (pc := 11) rfl rfl ?_
    refine s_aload_n (pc := 12) rfl rfl ?_
    refine s_iload_n (pc := 13) rfl rfl ?_
    obtain ⟨hb4, hw⟩ := hw
    refine s_iald (pc := 14) rfl kx1 bx1 hb4 ?_
    obtain ⟨hb5, hw⟩ := hw
    refine s_iast (pc := 15) rfl kq3 (by decide) hb5 ?_
    refine s_iinc (pc := 16) (L' := [some (.ref 262), some (.ref x1), some (.int (iz x2)), some (.int (iz (x3 + 1)))]) rfl rfl (Nat.le_of_ble_eq_true rfl) rfl ?_
    refine s_goto (pc := 19) (tgt := 2) rfl rfl ?_
    exact hw

set_option maxRecDepth 20000 in
set_option maxHeartbeats 4000000 in
theorem b_Mdl_normalize_0 {X : aX} {d : Nat}   (m : Mi) (J : Mj) (P : Mp) (hp : PP P) (post : Int → Mi → Mj → Mp → Prop)
    (hw : Ci X (d + 3) 176 [.ref 262, .int (iz 0)] (mu m 262 62 0) J P (fun z4 m1 J2 P3 => PP P3 ∧ Rn X (d + 4) 175 11 [some (.ref 262), some (.int (iz z4)), none, none, none, none, none] [] (SS m1 J2 P3) (QI post))) : Rn X (d + 4) 175 0 [some (.ref 262), none, none, none, none, none, none] [] (SS m J P) (QI post) := by
  refine s_aload_n (pc := 0) rfl rfl ?_
  refine s_iconst (pc := 1) rfl ?_
  refine s_putI (pc := 2) rfl ko_262 ?_
  refine s_aload_n (pc := 5) rfl rfl ?_
  refine s_iconst (pc := 6) rfl ?_
  refine s_ci (pc := 7) (d := (d + 3)) (t := []) rfl rfl (am_ca_v (ps := [.int (iz 0)]) rfl ko_262) (Nat.le_of_ble_eq_true rfl) (Ci.weak hw fun z4 m1 J2 P3 hw => ?_)
  obtain ⟨hp5, hw⟩ := hw
  refine s_istore_n (pc := 10) (L' := [some (.ref 262), some (.int (iz z4)), none, none, none, none, none]) rfl (Nat.le_of_ble_eq_true rfl) rfl ?_
  exact hw

set_option maxRecDepth 20000 in
set_option maxHeartbeats 4000000 in
theorem b_Mdl_normalize_11 {X : aX} {d : Nat} (x1 : Int)  (m : Mi) (J : Mj) (P : Mp) (hp : PP P) (post : Int → Mi → Mj → Mp → Prop)
    (hw : Zr (x1) ∧ (((x1 < 0) → post 0 m J P) ∧ (¬ (x1 < 0) → Zr (m 262 62) ∧ (((¬ (m 262 62) = 1000) → (∃ q3, P 262 59 = some q3 ∧ am_kd an_K q3 = some (.inr (0, 201)) ∧ Ci X (d + 3) 179 [.ref 262, .ref q3, .int (iz x1)] m J P (fun z7 m4 J5 P6 => PP P6 ∧ Rn X (d + 4) 175 55 [some (.ref 262), some (.int (iz x1)), some (.int (iz z7)), some (.int (iz (m4 262 67))), some (.int (iz ((m4 262 61) - (z7 - x1)))), some (.int (iz 0)), none] [] (SS m4 J5 P6) (QI post)))) ∧ (¬ (¬ (m 262 62) = 1000) → post 2 m J P))))) : Rn X (d + 4) 175 11 [some (.ref 262), some (.int (iz x1)), none, none, none, none, none] [] (SS m J P) (QI post) := by
  refine s_iload_n (pc := 11) rfl rfl ?_
  obtain ⟨hz1, hw⟩ := hw
  refine s_if_lt (pc := 12) (tgt := 155) rfl rfl hz1 (fun hc => ?_) (fun hc => ?_)
  · replace hw := hw.1 hc
    refine s_iconst (pc := 155) rfl ?_
    exact s_reti (pc := 156) rfl rfl hw
  · replace hw := hw.2 hc
    refine s_aload_n (pc := 15) rfl rfl ?_
    refine s_getI (pc := 16) rfl ko_262 ?_
    refine s_sipush (pc := 19) rfl (by decide) ?_
    obtain ⟨hz2, hw⟩ := hw
    refine s_ic_ne (pc := 22) (tgt := 27) rfl rfl hz2 (by decide) (fun hc => ?_) (fun hc => ?_)
    · replace hw := hw.1 hc
      refine s_aload_n (pc := 27) rfl rfl ?_
      refine s_aload_n (pc := 28) rfl rfl ?_
      obtain ⟨q3, hq3, kq3, hw⟩ := hw
      refine s_getA (pc := 29) rfl ko_262 hq3 ?_
      refine s_iload_n (pc := 32) rfl rfl ?_
      refine s_ci (pc := 33) (d := (d + 3)) (t := []) rfl rfl (am_ca_v (ps := [.int (iz x1), .ref q3]) rfl ko_262) (Nat.le_of_ble_eq_true rfl) (Ci.weak hw fun z7 m4 J5 P6 hw => ?_)
      obtain ⟨hp8, hw⟩ := hw
      refine s_istore_n (pc := 36) (L' := [some (.ref 262), some (.int (iz x1)), some (.int (iz z7)), none, none, none, none]) rfl (Nat.le_of_ble_eq_true rfl) rfl ?_
      refine s_aload_n (pc := 37) rfl rfl ?_
      refine s_getI (pc := 38) rfl ko_262 ?_
      refine s_istore_n (pc := 41) (L' := [some (.ref 262), some (.int (iz x1)), some (.int (iz z7)), some (.int (iz (m4 262 67))), none, none, none]) rfl (Nat.le_of_ble_eq_true rfl) rfl ?_
      refine s_aload_n (pc := 42) rfl rfl ?_
      refine s_getI (pc := 43) rfl ko_262 ?_
      refine s_iload_n (pc := 46) rfl rfl ?_
      refine s_iload_n (pc := 47) rfl rfl ?_
      refine s_isub (pc := 48) rfl ?_
      refine s_isub (pc := 49) rfl ?_
      refine s_istore (pc := 50) (L' := [some (.ref 262), some (.int (iz x1)), some (.int (iz z7)), some (.int (iz (m4 262 67))), some (.int (iz ((m4 262 61) - (z7 - x1)))), none, none]) rfl (Nat.le_of_ble_eq_true rfl) rfl ?_
      refine s_iconst (pc := 52) rfl ?_
      refine s_istore (pc := 53) (L' := [some (.ref 262), some (.int (iz x1)), some (.int (iz z7)), some (.int (iz (m4 262 67))), some (.int (iz ((m4 262 61) - (z7 - x1)))), some (.int (iz 0)), none]) rfl (Nat.le_of_ble_eq_true rfl) rfl ?_
      exact hw
    · replace hw := hw.2 hc
      refine s_iconst (pc := 25) rfl ?_
      exact s_reti (pc := 26) rfl rfl hw

set_option maxRecDepth 20000 in
set_option maxHeartbeats 4000000 in
theorem b_Mdl_normalize_55 {X : aX} {d : Nat} (x1 : Int) (x2 : Int) (x3 : Int) (x4 : Int) (x5 : Int)  (m : Mi) (J : Mj) (P : Mp) (hp : PP P) (post : Int → Mi → Mj → Mp → Prop)
    (hw : ((0 : Int) ≤ x3 ∧ (x3 : Int) < 16) ∧ Zr (x5) ∧ Zr (m 284 x3.toNat) ∧ ((((m 284 x3.toNat) ≤ x5) → Zr (x4) ∧ (((x4 ≤ 200) → Cv X (d + 3) 180 [.ref 262, .int (iz x1), .int (iz x2), .int (iz x3)] m J P (fun m5 J6 P7 => PP P7 ∧ Ci X (d + 3) 176 [.ref 262, .int (iz x1)] (mu m5 262 62 ((m5 262 62) + 1)) J6 P7 (fun z13 m10 J11 P12 => PP P12 ∧ Rn X (d + 4) 175 11 [some (.ref 262), some (.int (iz z13)), none, none, none, none, none] [] (SS m10 J11 P12) (QI post)))) ∧ (¬ (x4 ≤ 200) → post 1 m J P))) ∧ (¬ ((m 284 x3.toNat) ≤ x5) → ((0 : Int) ≤ ((40 * x3) + x5) ∧ (((40 * x3) + x5) : Int) < 640) ∧ Zr (m 282 ((40 * x3) + x5).toNat) ∧ ((((m 282 ((40 * x3) + x5).toNat) < 0) → ((0 : Int) ≤ (((-1)) - (m 282 ((40 * x3) + x5).toNat)) ∧ ((((-1)) - (m 282 ((40 * x3) + x5).toNat)) : Int) < 8) ∧ ((0 : Int) ≤ (((-1)) - (m 282 ((40 * x3) + x5).toNat)) ∧ ((((-1)) - (m 282 ((40 * x3) + x5).toNat)) : Int) < 8) ∧ Rn X (d + 4) 175 55 [some (.ref 262), some (.int (iz x1)), some (.int (iz x2)), some (.int (iz x3)), some (.int (iz (x4 + ((m 301 (((-1)) - (m 282 ((40 * x3) + x5).toNat)).toNat) - (m 300 (((-1)) - (m 282 ((40 * x3) + x5).toNat)).toNat))))), some (.int (iz (x5 + 1))), none] [] (SS m J P) (QI post)) ∧ (¬ ((m 282 ((40 * x3) + x5).toNat) < 0) → Rn X (d + 4) 175 55 [some (.ref 262), some (.int (iz x1)), some (.int (iz x2)), some (.int (iz x3)), some (.int (iz (x4 + 1))), some (.int (iz (x5 + 1))), none] [] (SS m J P) (QI post)))))) : Rn X (d + 4) 175 55 [some (.ref 262), some (.int (iz x1)), some (.int (iz x2)), some (.int (iz x3)), some (.int (iz x4)), some (.int (iz x5)), none] [] (SS m J P) (QI post) := by
  refine s_iload (pc := 55) rfl rfl ?_
  refine s_aload_n (pc := 57) rfl rfl ?_
  refine s_getA (pc := 58) rfl ko_262 (po_262_41 hp) ?_
  refine s_iload_n (pc := 61) rfl rfl ?_
  obtain ⟨hb1, hw⟩ := hw
  refine s_iald (pc := 62) rfl ka_284 (by decide) hb1 ?_
  obtain ⟨hz2, hw⟩ := hw
  obtain ⟨hz3, hw⟩ := hw
  refine s_ic_ge (pc := 63) (tgt := 119) rfl rfl hz2 hz3 (fun hc => ?_) (fun hc => ?_)
  · replace hw := hw.1 hc
    refine s_iload (pc := 119) rfl rfl ?_
    refine s_sipush (pc := 121) rfl (by decide) ?_
    obtain ⟨hz4, hw⟩ := hw
    refine s_ic_le (pc := 124) (tgt := 129) rfl rfl hz4 (by decide) (fun hc => ?_) (fun hc => ?_)
    · replace hw := hw.1 hc
      refine s_aload_n (pc := 129) rfl rfl ?_
      refine s_iload_n (pc := 130) rfl rfl ?_
      refine s_iload_n (pc := 131) rfl rfl ?_
      refine s_iload_n (pc := 132) rfl rfl ?_
      refine s_cv (pc := 133) (d := (d + 3)) (t := []) rfl rfl (am_ca_v (ps := [.int (iz x3), .int (iz x2), .int (iz x1)]) rfl ko_262) (Nat.le_of_ble_eq_true rfl) (Cv.weak hw fun m5 J6 P7 hw => ?_)
      obtain ⟨hp9, hw⟩ := hw
      refine s_aload_n (pc := 136) rfl rfl ?_
      refine s_dup (pc := 137) rfl rfl ?_
      refine s_getI (pc := 138) rfl ko_262 ?_
      refine s_iconst (pc := 141) rfl ?_
      refine s_iadd (pc := 142) rfl ?_
      refine s_putI (pc := 143) rfl ko_262 ?_
      refine s_aload_n (pc := 146) rfl rfl ?_
      refine s_iload_n (pc := 147) rfl rfl ?_
      refine s_ci (pc := 148) (d := (d + 3)) (t := []) rfl rfl (am_ca_v (ps := [.int (iz x1)]) rfl ko_262) (Nat.le_of_ble_eq_true rfl) (Ci.weak hw fun z13 m10 J11 P12 hw => ?_)
      obtain ⟨hp14, hw⟩ := hw
      refine s_istore_n (pc := 151) (L' := [some (.ref 262), some (.int (iz z13)), some (.int (iz x2)), some (.int (iz x3)), some (.int (iz x4)), some (.int (iz x5)), none]) rfl (Nat.le_of_ble_eq_true rfl) rfl ?_
      refine s_goto (pc := 152) (tgt := 11) rfl rfl ?_
      exact Rn.weakL hw (LLe.keep _ (LLe.keep _ (LLe.drop _ (LLe.drop _ (LLe.drop _ (LLe.drop _ (LLe.keep _ (LLe.nil))))))))
    · replace hw := hw.2 hc
      refine s_iconst (pc := 127) rfl ?_
      exact s_reti (pc := 128) rfl rfl hw
  · replace hw := hw.2 hc
    refine s_aload_n (pc := 66) rfl rfl ?_
    refine s_getA (pc := 67) rfl ko_262 (po_262_39 hp) ?_
    refine s_bipush (pc := 70) rfl (by decide) ?_
    refine s_iload_n (pc := 72) rfl rfl ?_
    refine s_imul (pc := 73) rfl ?_
    refine s_iload (pc := 74) rfl rfl ?_
    refine s_iadd (pc := 76) rfl ?_
    obtain ⟨hb15, hw⟩ := hw
    refine s_iald (pc := 77) rfl ka_282 (by decide) hb15 ?_
    refine s_istore (pc := 78) (L' := [some (.ref 262), some (.int (iz x1)), some (.int (iz x2)), some (.int (iz x3)), some (.int (iz x4)), some (.int (iz x5)), some (.int (iz (m 282 ((40 * x3) + x5).toNat)))]) rfl (Nat.le_of_ble_eq_true rfl) rfl ?_
    refine s_iload (pc := 80) rfl rfl ?_
    refine s_iload (pc := 82) rfl rfl ?_
    obtain ⟨hz16, hw⟩ := hw
    refine s_if_lt (pc := 84) (tgt := 91) rfl rfl hz16 (fun hc => ?_) (fun hc => ?_)
    · replace hw := hw.1 hc
      refine s_aload_n (pc := 91) rfl rfl ?_
      refine s_getA (pc := 92) rfl ko_262 (po_262_66 hp) ?_
      refine s_iconst (pc := 95) rfl ?_
      refine s_iload (pc := 96) rfl rfl ?_
      refine s_isub (pc := 98) rfl ?_
      obtain ⟨hb17, hw⟩ := hw
      refine s_iald (pc := 99) rfl ka_301 (by decide) hb17 ?_
      refine s_aload_n (pc := 100) rfl rfl ?_
      refine s_getA (pc := 101) rfl ko_262 (po_262_65 hp) ?_
      refine s_iconst (pc := 104) rfl ?_
      refine s_iload (pc := 105) rfl rfl ?_
      refine s_isub (pc := 107) rfl ?_
      obtain ⟨hb18, hw⟩ := hw
      refine s_iald (pc := 108) rfl ka_300 (by decide) hb18 ?_
      refine s_isub (pc := 109) rfl ?_
      refine s_iadd (pc := 110) rfl ?_
      refine s_istore (pc := 111) (L' := [some (.ref 262), some (.int (iz x1)), some (.int (iz x2)), some (.int (iz x3)), some (.int (iz (x4 + ((m 301 (((-1)) - (m 282 ((40 * x3) + x5).toNat)).toNat) - (m 300 (((-1)) - (m 282 ((40 * x3) + x5).toNat)).toNat))))), some (.int (iz x5)), some (.int (iz (m 282 ((40 * x3) + x5).toNat)))]) rfl (Nat.le_of_ble_eq_true rfl) rfl ?_
      refine s_iinc (pc := 113) (L' := [some (.ref 262), some (.int (iz x1)), some (.int (iz x2)), some (.int (iz x3)), some (.int (iz (x4 + ((m 301 (((-1)) - (m 282 ((40 * x3) + x5).toNat)).toNat) - (m 300 (((-1)) - (m 282 ((40 * x3) + x5).toNat)).toNat))))), some (.int (iz (x5 + 1))), some (.int (iz (m 282 ((40 * x3) + x5).toNat)))]) rfl rfl (Nat.le_of_ble_eq_true rfl) rfl ?_
      refine s_goto (pc := 116) (tgt := 55) rfl rfl ?_
      exact Rn.weakL hw (LLe.keep _ (LLe.keep _ (LLe.keep _ (LLe.keep _ (LLe.keep _ (LLe.keep _ (LLe.drop _ (LLe.nil))))))))
    · replace hw := hw.2 hc
      refine s_iconst (pc := 87) rfl ?_
      refine s_goto (pc := 88) (tgt := 110) rfl rfl ?_
      refine s_iadd (pc := 110) rfl ?_
      refine s_istore (pc := 111) (L' := [some (.ref 262), some (.int (iz x1)), some (.int (iz x2)), some (.int (iz x3)), some (.int (iz (x4 + 1))), some (.int (iz x5)), some (.int (iz (m 282 ((40 * x3) + x5).toNat)))]) rfl (Nat.le_of_ble_eq_true rfl) rfl ?_
      refine s_iinc (pc := 113) (L' := [some (.ref 262), some (.int (iz x1)), some (.int (iz x2)), some (.int (iz x3)), some (.int (iz (x4 + 1))), some (.int (iz (x5 + 1))), some (.int (iz (m 282 ((40 * x3) + x5).toNat)))]) rfl rfl (Nat.le_of_ble_eq_true rfl) rfl ?_
      refine s_goto (pc := 116) (tgt := 55) rfl rfl ?_
      exact Rn.weakL hw (LLe.keep _ (LLe.keep _ (LLe.keep _ (LLe.keep _ (LLe.keep _ (LLe.keep _ (LLe.drop _ (LLe.nil))))))))

set_option maxRecDepth 20000 in
set_option maxHeartbeats 4000000 in
theorem b_Mdl_redex_0 {X : aX} {d : Nat} (x1 : Int)  (m : Mi) (J : Mj) (P : Mp) (hp : PP P) (post : Int → Mi → Mj → Mp → Prop)
    (hw : Rn X (d + 3) 176 4 [some (.ref 262), some (.int (iz x1)), some (.int (iz 0)), some (.int (iz 0)), none, none] [] (SS m J P) (QI post)) : Rn X (d + 3) 176 0 [some (.ref 262), some (.int (iz x1)), none, none, none, none] [] (SS m J P) (QI post) := by
  refine s_iconst (pc := 0) rfl ?_
  refine s_istore_n (pc := 1) (L' := [some (.ref 262), some (.int (iz x1)), some (.int (iz 0)), none, none, none]) rfl (Nat.le_of_ble_eq_true rfl) rfl ?_
  refine s_iconst (pc := 2) rfl ?_
  refine s_istore_n (pc := 3) (L' := [some (.ref 262), some (.int (iz x1)), some (.int (iz 0)), some (.int (iz 0)), none, none]) rfl (Nat.le_of_ble_eq_true rfl) rfl ?_
  exact hw

set_option maxRecDepth 20000 in
set_option maxHeartbeats 4000000 in
theorem b_Mdl_redex_4 {X : aX} {d : Nat} (x1 : Int) (x2 : Int) (x3 : Int)  (m : Mi) (J : Mj) (P : Mp) (hp : PP P) (post : Int → Mi → Mj → Mp → Prop)
    (hw : Zr (x3) ∧ Zr (m 262 61) ∧ ((((m 262 61) ≤ x3) → post ((-1)) m J P) ∧ (¬ ((m 262 61) ≤ x3) → ((0 : Int) ≤ x2 ∧ (x2 : Int) < 201) ∧ (∃ q4, P 262 59 = some q4 ∧ am_kd an_K q4 = some (.inr (0, 201)) ∧ ((0 : Int) ≤ x3 ∧ (x3 : Int) < 201) ∧ Zr ((mu m 298 x2.toNat x3) q4 x3.toNat) ∧ (((0 ≤ ((mu m 298 x2.toNat x3) q4 x3.toNat)) → (∃ q7, P 262 59 = some q7 ∧ am_kd an_K q7 = some (.inr (0, 201)) ∧ ((0 : Int) ≤ x3 ∧ (x3 : Int) < 201) ∧ ((0 : Int) ≤ ((mu m 298 x2.toNat x3) q7 x3.toNat) ∧ (((mu m 298 x2.toNat x3) q7 x3.toNat) : Int) < 16) ∧ ((0 : Int) ≤ x2 ∧ (x2 : Int) < 201) ∧ Rn X (d + 3) 176 55 [some (.ref 262), some (.int (iz x1)), some (.int (iz (x2 + 1))), some (.int (iz x3)), some (.int (iz 1)), none] [] (SS (mu (mu m 298 x2.toNat x3) 299 x2.toNat ((mu m 298 x2.toNat x3) 280 ((mu m 298 x2.toNat x3) q7 x3.toNat).toNat)) J P) (QI post))) ∧ (¬ (0 ≤ ((mu m 298 x2.toNat x3) q4 x3.toNat)) → ((0 : Int) ≤ x2 ∧ (x2 : Int) < 201) ∧ Rn X (d + 3) 176 55 [some (.ref 262), some (.int (iz x1)), some (.int (iz (x2 + 1))), some (.int (iz x3)), some (.int (iz 1)), none] [] (SS (mu (mu m 298 x2.toNat x3) 299 x2.toNat 0) J P) (QI post))))))) : Rn X (d + 3) 176 4 [some (.ref 262), some (.int (iz x1)), some (.int (iz x2)), some (.int (iz x3)), none, none] [] (SS m J P) (QI post) := by
  refine s_iload_n (pc := 4) rfl rfl ?_
  refine s_aload_n (pc := 5) rfl rfl ?_
  refine s_getI (pc := 6) rfl ko_262 ?_
  obtain ⟨hz1, hw⟩ := hw
  obtain ⟨hz2, hw⟩ := hw
  refine s_ic_ge (pc := 9) (tgt := 161) rfl rfl hz1 hz2 (fun hc => ?_) (fun hc => ?_)
  · replace hw := hw.1 hc
    refine s_iconst (pc := 161) rfl ?_
    exact s_reti (pc := 162) rfl rfl hw
  · replace hw := hw.2 hc
    refine s_aload_n (pc := 12) rfl rfl ?_
    refine s_getA (pc := 13) rfl ko_262 (po_262_63 hp) ?_
    refine s_iload_n (pc := 16) rfl rfl ?_
    refine s_iload_n (pc := 17) rfl rfl ?_
    obtain ⟨hb3, hw⟩ := hw
    refine s_iast (pc := 18) rfl ka_298 (by decide) hb3 ?_
    refine s_aload_n (pc := 19) rfl rfl ?_
    refine s_getA (pc := 20) rfl ko_262 (po_262_64 hp) ?_
    refine s_iload_n (pc := 23) rfl rfl ?_
    refine s_aload_n (pc := 24) rfl rfl ?_
    obtain ⟨q4, hq4, kq4, hw⟩ := hw
    refine s_getA (pc := 25) rfl ko_262 hq4 ?_
    refine s_iload_n (pc := 28) rfl rfl ?_
    obtain ⟨hb5, hw⟩ := hw
    refine s_iald (pc := 29) rfl kq4 (by decide) hb5 ?_
    obtain ⟨hz6, hw⟩ := hw
    refine s_if_ge (pc := 30) (tgt := 37) rfl rfl hz6 (fun hc => ?_) (fun hc => ?_)
    · replace hw := hw.1 hc
      refine s_aload_n (pc := 37) rfl rfl ?_
      refine s_getA (pc := 38) rfl ko_262 (po_262_37 hp) ?_
      refine s_aload_n (pc := 41) rfl rfl ?_
      obtain ⟨q7, hq7, kq7, hw⟩ := hw
      refine s_getA (pc := 42) rfl ko_262 hq7 ?_
      refine s_iload_n (pc := 45) rfl rfl ?_
      obtain ⟨hb8, hw⟩ := hw
      refine s_iald (pc := 46) rfl kq7 (by decide) hb8 ?_
      obtain ⟨hb9, hw⟩ := hw
      refine s_iald (pc := 47) rfl ka_280 (by decide) hb9 ?_
      obtain ⟨hb10, hw⟩ := hw
      refine s_iast (pc := 48) rfl ka_299 (by decide) hb10 ?_
      refine s_iinc (pc := 49) (L' := [some (.ref 262), some (.int (iz x1)), some (.int (iz (x2 + 1))), some (.int (iz x3)), none, none]) rfl rfl (Nat.le_of_ble_eq_true rfl) rfl ?_
      refine s_iconst (pc := 52) rfl ?_
      refine s_istore (pc := 53) (L' := [some (.ref 262), some (.int (iz x1)), some (.int (iz (x2 + 1))), some (.int (iz x3)), some (.int (iz 1)), none]) rfl (Nat.le_of_ble_eq_true rfl) rfl ?_
      exact hw
    · replace hw := hw.2 hc
      refine s_iconst (pc := 33) rfl ?_
      refine s_goto (pc := 34) (tgt := 48) rfl rfl ?_
      obtain ⟨hb11, hw⟩ := hw
      refine s_iast (pc := 48) rfl ka_299 (by decide) hb11 ?_
      refine s_iinc (pc := 49) (L' := [some (.ref 262), some (.int (iz x1)), some (.int (iz (x2 + 1))), some (.int (iz x3)), none, none]) rfl rfl (Nat.le_of_ble_eq_true rfl) rfl ?_
      refine s_iconst (pc := 52) rfl ?_
      refine s_istore (pc := 53) (L' := [some (.ref 262), some (.int (iz x1)), some (.int (iz (x2 + 1))), some (.int (iz x3)), some (.int (iz 1)), none]) rfl (Nat.le_of_ble_eq_true rfl) rfl ?_
      exact hw

set_option maxRecDepth 20000 in
set_option maxHeartbeats 4000000 in
theorem b_Mdl_redex_55 {X : aX} {d : Nat} (x1 : Int) (x2 : Int) (x3 : Int) (x4 : Int)  (m : Mi) (J : Mj) (P : Mp) (hp : PP P) (post : Int → Mi → Mj → Mp → Prop)
    (hw : Zr (x4) ∧ (((x4 = 0) → Rn X (d + 3) 176 4 [some (.ref 262), some (.int (iz x1)), some (.int (iz x2)), some (.int (iz (x3 + 1))), none, none] [] (SS m J P) (QI post)) ∧ (¬ (x4 = 0) → Zr (x2) ∧ (((x2 ≤ 0) → Rn X (d + 3) 176 55 [some (.ref 262), some (.int (iz x1)), some (.int (iz x2)), some (.int (iz x3)), some (.int (iz 0)), none] [] (SS m J P) (QI post)) ∧ (¬ (x2 ≤ 0) → ((0 : Int) ≤ (x2 - 1) ∧ ((x2 - 1) : Int) < 201) ∧ Zr (m 299 (x2 - 1).toNat) ∧ (((¬ (m 299 (x2 - 1).toNat) = 0) → Rn X (d + 3) 176 55 [some (.ref 262), some (.int (iz x1)), some (.int (iz x2)), some (.int (iz x3)), some (.int (iz 0)), none] [] (SS m J P) (QI post)) ∧ (¬ (¬ (m 299 (x2 - 1).toNat) = 0) → ((0 : Int) ≤ (x2 + (-1)) ∧ ((x2 + (-1)) : Int) < 201) ∧ Zr (x3) ∧ Zr (x1) ∧ (((x3 < x1) → Rn X (d + 3) 176 136 [some (.ref 262), some (.int (iz x1)), some (.int (iz (x2 + (-1)))), some (.int (iz x3)), some (.int (iz 1)), some (.int (iz (m 298 (x2 + (-1)).toNat)))] [] (SS m J P) (QI post)) ∧ (¬ (x3 < x1) → (∃ q8, P 262 59 = some q8 ∧ am_kd an_K q8 = some (.inr (0, 201)) ∧ ((0 : Int) ≤ (m 298 (x2 + (-1)).toNat) ∧ ((m 298 (x2 + (-1)).toNat) : Int) < 201) ∧ Zr (m q8 (m 298 (x2 + (-1)).toNat).toNat) ∧ ((((m q8 (m 298 (x2 + (-1)).toNat).toNat) < 0) → Rn X (d + 3) 176 136 [some (.ref 262), some (.int (iz x1)), some (.int (iz (x2 + (-1)))), some (.int (iz x3)), some (.int (iz 1)), some (.int (iz (m 298 (x2 + (-1)).toNat)))] [] (SS m J P) (QI post)) ∧ (¬ ((m q8 (m 298 (x2 + (-1)).toNat).toNat) < 0) → Ci X (d + 2) 177 [.ref 262, .int (iz (m 298 (x2 + (-1)).toNat))] m J P (fun z14 m11 J12 P13 => PP P13 ∧ Zr ((mu m11 262 67 z14) 262 67) ∧ (((((mu m11 262 67 z14) 262 67) < 0) → Rn X (d + 3) 176 136 [some (.ref 262), some (.int (iz x1)), some (.int (iz (x2 + (-1)))), some (.int (iz x3)), some (.int (iz 1)), some (.int (iz (m 298 (x2 + (-1)).toNat)))] [] (SS (mu m11 262 67 z14) J12 P13) (QI post)) ∧ (¬ (((mu m11 262 67 z14) 262 67) < 0) → post (m 298 (x2 + (-1)).toNat) (mu m11 262 67 z14) J12 P13))))))))))))))) : Rn X (d + 3) 176 55 [some (.ref 262), some (.int (iz x1)), some (.int (iz x2)), some (.int (iz x3)), some (.int (iz x4)), none] [] (SS m J P) (QI post) := by
  refine s_iload (pc := 55) rfl rfl ?_
  obtain ⟨hz1, hw⟩ := hw
  refine s_if_eq (pc := 57) (tgt := 155) rfl rfl hz1 (fun hc => ?_) (fun hc => ?_)
  · replace hw := hw.1 hc
    refine s_iinc (pc := 155) (L' := [some (.ref 262), some (.int (iz x1)), some (.int (iz x2)), some (.int (iz (x3 + 1))), some (.int (iz x4)), none]) rfl rfl (Nat.le_of_ble_eq_true rfl) rfl ?_
    refine s_goto (pc := 158) (tgt := 4) rfl rfl ?_
    exact Rn.weakL hw (LLe.keep _ (LLe.keep _ (LLe.keep _ (LLe.keep _ (LLe.drop _ (LLe.keep _ (LLe.nil)))))))
  · replace hw := hw.2 hc
    refine s_iload_n (pc := 60) rfl rfl ?_
    obtain ⟨hz2, hw⟩ := hw
    refine s_if_le (pc := 61) (tgt := 79) rfl rfl hz2 (fun hc => ?_) (fun hc => ?_)
    · replace hw := hw.1 hc
      refine s_iconst (pc := 79) rfl ?_
      refine s_istore (pc := 80) (L' := [some (.ref 262), some (.int (iz x1)), some (.int (iz x2)), some (.int (iz x3)), some (.int (iz 0)), none]) rfl (Nat.le_of_ble_eq_true rfl) rfl ?_
      refine s_iload (pc := 82) rfl rfl ?_
      refine s_if_ne (pc := 84) (tgt := 90) rfl rfl (by decide) (fun hc => ?_) (fun hc => ?_)
      · exact absurd hc (by decide)
      refine s_goto (pc := 87) (tgt := 55) rfl rfl ?_
      exact hw
    · replace hw := hw.2 hc
      refine s_aload_n (pc := 64) rfl rfl ?_
      refine s_getA (pc := 65) rfl ko_262 (po_262_64 hp) ?_
      refine s_iload_n (pc := 68) rfl rfl ?_
      refine s_iconst (pc := 69) rfl ?_
      refine s_isub (pc := 70) rfl ?_
      obtain ⟨hb3, hw⟩ := hw
      refine s_iald (pc := 71) rfl ka_299 (by decide) hb3 ?_
      obtain ⟨hz4, hw⟩ := hw
      refine s_if_ne (pc := 72) (tgt := 79) rfl rfl hz4 (fun hc => ?_) (fun hc => ?_)
      · replace hw := hw.1 hc
        refine s_iconst (pc := 79) rfl ?_
        refine s_istore (pc := 80) (L' := [some (.ref 262), some (.int (iz x1)), some (.int (iz x2)), some (.int (iz x3)), some (.int (iz 0)), none]) rfl (Nat.le_of_ble_eq_true rfl) rfl ?_
        refine s_iload (pc := 82) rfl rfl ?_
        refine s_if_ne (pc := 84) (tgt := 90) rfl rfl (by decide) (fun hc => ?_) (fun hc => ?_)
        · exact absurd hc (by decide)
        refine s_goto (pc := 87) (tgt := 55) rfl rfl ?_
        exact hw
      · replace hw := hw.2 hc
        refine s_iconst (pc := 75) rfl ?_
        refine s_goto (pc := 76) (tgt := 80) rfl rfl ?_
        refine s_istore (pc := 80) (L' := [some (.ref 262), some (.int (iz x1)), some (.int (iz x2)), some (.int (iz x3)), some (.int (iz 1)), none]) rfl (Nat.le_of_ble_eq_true rfl) rfl ?_
        refine s_iload (pc := 82) rfl rfl ?_
        refine s_if_ne (pc := 84) (tgt := 90) rfl rfl (by decide) (fun hc => ?_) (fun hc => ?_)
        rotate_left
        · exact absurd hc (by decide)
        refine s_iinc (pc := 90) (L' := [some (.ref 262), some (.int (iz x1)), some (.int (iz (x2 + (-1)))), some (.int (iz x3)), some (.int (iz 1)), none]) rfl rfl (Nat.le_of_ble_eq_true rfl) rfl ?_
        refine s_aload_n (pc := 93) rfl rfl ?_
        refine s_getA (pc := 94) rfl ko_262 (po_262_63 hp) ?_
        refine s_iload_n (pc := 97) rfl rfl ?_
        obtain ⟨hb5, hw⟩ := hw
        refine s_iald (pc := 98) rfl ka_298 (by decide) hb5 ?_
        refine s_istore (pc := 99) (L' := [some (.ref 262), some (.int (iz x1)), some (.int (iz (x2 + (-1)))), some (.int (iz x3)), some (.int (iz 1)), some (.int (iz (m 298 (x2 + (-1)).toNat)))]) rfl (Nat.le_of_ble_eq_true rfl) rfl ?_
        refine s_iload_n (pc := 101) rfl rfl ?_
        refine s_iload_n (pc := 102) rfl rfl ?_
        obtain ⟨hz6, hw⟩ := hw
        obtain ⟨hz7, hw⟩ := hw
        refine s_ic_lt (pc := 103) (tgt := 136) rfl rfl hz6 hz7 (fun hc => ?_) (fun hc => ?_)
        · replace hw := hw.1 hc
          exact hw
        · replace hw := hw.2 hc
          refine s_aload_n (pc := 106) rfl rfl ?_
          obtain ⟨q8, hq8, kq8, hw⟩ := hw
          refine s_getA (pc := 107) rfl ko_262 hq8 ?_
          refine s_iload (pc := 110) rfl rfl ?_
          obtain ⟨hb9, hw⟩ := hw
          refine s_iald (pc := 112) rfl kq8 (by decide) hb9 ?_
          obtain ⟨hz10, hw⟩ := hw
          refine s_if_lt (pc := 113) (tgt := 136) rfl rfl hz10 (fun hc => ?_) (fun hc => ?_)
          · replace hw := hw.1 hc
            exact hw
          · replace hw := hw.2 hc
            refine s_aload_n (pc := 116) rfl rfl ?_
            refine s_aload_n (pc := 117) rfl rfl ?_
            refine s_iload (pc := 118) rfl rfl ?_
            refine s_ci (pc := 120) (d := (d + 2)) (t := [.ref 262]) rfl rfl (am_ca_v (ps := [.int (iz (m 298 (x2 + (-1)).toNat))]) rfl ko_262) (Nat.le_of_ble_eq_true rfl) (Ci.weak hw fun z14 m11 J12 P13 hw => ?_)
            obtain ⟨hp15, hw⟩ := hw
            refine s_putI (pc := 123) rfl ko_262 ?_
            refine s_aload_n (pc := 126) rfl rfl ?_
            refine s_getI (pc := 127) rfl ko_262 ?_
            obtain ⟨hz16, hw⟩ := hw
            refine s_if_lt (pc := 130) (tgt := 136) rfl rfl hz16 (fun hc => ?_) (fun hc => ?_)
            · replace hw := hw.1 hc
              exact hw
            · replace hw := hw.2 hc
              refine s_iload (pc := 133) rfl rfl ?_
              exact s_reti (pc := 135) rfl rfl hw

set_option maxRecDepth 20000 in
set_option maxHeartbeats 4000000 in
theorem b_Mdl_redex_136 {X : aX} {d : Nat} (x1 : Int) (x2 : Int) (x3 : Int) (x4 : Int) (x5 : Int)  (m : Mi) (J : Mj) (P : Mp) (hp : PP P) (post : Int → Mi → Mj → Mp → Prop)
    (hw : Zr (x2) ∧ (((x2 ≤ 0) → Rn X (d + 3) 176 55 [some (.ref 262), some (.int (iz x1)), some (.int (iz x2)), some (.int (iz x3)), some (.int (iz x4)), none] [] (SS m J P) (QI post)) ∧ (¬ (x2 ≤ 0) → ((0 : Int) ≤ (x2 - 1) ∧ ((x2 - 1) : Int) < 201) ∧ ((0 : Int) ≤ (x2 - 1) ∧ ((x2 - 1) : Int) < 201) ∧ Rn X (d + 3) 176 55 [some (.ref 262), some (.int (iz x1)), some (.int (iz x2)), some (.int (iz x3)), some (.int (iz x4)), none] [] (SS (mu m 299 (x2 - 1).toNat ((m 299 (x2 - 1).toNat) - 1)) J P) (QI post)))) : Rn X (d + 3) 176 136 [some (.ref 262), some (.int (iz x1)), some (.int (iz x2)), some (.int (iz x3)), some (.int (iz x4)), some (.int (iz x5))] [] (SS m J P) (QI post) := by
  refine s_iload_n (pc := 136) rfl rfl ?_
  obtain ⟨hz1, hw⟩ := hw
  refine s_if_le (pc := 137) (tgt := 152) rfl rfl hz1 (fun hc => ?_) (fun hc => ?_)
  · replace hw := hw.1 hc
    refine s_goto (pc := 152) (tgt := 55) rfl rfl ?_
    exact Rn.weakL hw (LLe.keep _ (LLe.keep _ (LLe.keep _ (LLe.keep _ (LLe.keep _ (LLe.drop _ (LLe.nil)))))))
  · replace hw := hw.2 hc
    refine s_aload_n (pc := 140) rfl rfl ?_
    refine s_getA (pc := 141) rfl ko_262 (po_262_64 hp) ?_
    refine s_iload_n (pc := 144) rfl rfl ?_
    refine s_iconst (pc := 145) rfl ?_
    refine s_isub (pc := 146) rfl ?_
    refine s_dup2 (pc := 147) rfl ⟨rfl, rfl⟩ ?_
    obtain ⟨hb2, hw⟩ := hw
    refine s_iald (pc := 148) rfl ka_299 (by decide) hb2 ?_
    refine s_iconst (pc := 149) rfl ?_
    refine s_isub (pc := 150) rfl ?_
    obtain ⟨hb3, hw⟩ := hw
    refine s_iast (pc := 151) rfl ka_299 (by decide) hb3 ?_
    refine s_goto (pc := 152) (tgt := 55) rfl rfl ?_
    exact Rn.weakL hw (LLe.keep _ (LLe.keep _ (LLe.keep _ (LLe.keep _ (LLe.keep _ (LLe.drop _ (LLe.nil)))))))

set_option maxRecDepth 20000 in
set_option maxHeartbeats 4000000 in
theorem b_Mdl_ruleAt_0 {X : aX} {d : Nat} (x1 : Int)  (m : Mi) (J : Mj) (P : Mp) (hp : PP P) (post : Int → Mi → Mj → Mp → Prop)
    (hw : Rn X (d + 2) 177 2 [some (.ref 262), some (.int (iz x1)), some (.int (iz 0))] [] (SS m J P) (QI post)) : Rn X (d + 2) 177 0 [some (.ref 262), some (.int (iz x1)), none] [] (SS m J P) (QI post) := by
  refine s_iconst (pc := 0) rfl ?_
  refine s_istore_n (pc := 1) (L' := [some (.ref 262), some (.int (iz x1)), some (.int (iz 0))]) rfl (Nat.le_of_ble_eq_true rfl) rfl ?_
  exact hw

set_option maxRecDepth 20000 in
set_option maxHeartbeats 4000000 in
theorem b_Mdl_ruleAt_2 {X : aX} {d : Nat} (x1 : Int) (x2 : Int)  (m : Mi) (J : Mj) (P : Mp) (hp : PP P) (post : Int → Mi → Mj → Mp → Prop)
    (hw : Zr (x2) ∧ Zr (m 262 35) ∧ ((((m 262 35) ≤ x2) → post ((-1)) m J P) ∧ (¬ ((m 262 35) ≤ x2) → ((0 : Int) ≤ (40 * x2) ∧ ((40 * x2) : Int) < 640) ∧ (∃ q4, P 262 59 = some q4 ∧ am_kd an_K q4 = some (.inr (0, 201)) ∧ ((0 : Int) ≤ x1 ∧ (x1 : Int) < 201) ∧ Zr (m 281 (40 * x2).toNat) ∧ Zr (m q4 x1.toNat) ∧ (((¬ (m 281 (40 * x2).toNat) = (m q4 x1.toNat)) → Rn X (d + 2) 177 2 [some (.ref 262), some (.int (iz x1)), some (.int (iz (x2 + 1)))] [] (SS m J P) (QI post)) ∧ (¬ (¬ (m 281 (40 * x2).toNat) = (m q4 x1.toNat)) → Ci X (d + 1) 178 [.ref 262, .int (iz x2), .int (iz x1)] m J P (fun z11 m8 J9 P10 => PP P10 ∧ Zr (z11) ∧ (((z11 = 0) → Rn X (d + 2) 177 2 [some (.ref 262), some (.int (iz x1)), some (.int (iz (x2 + 1)))] [] (SS m8 J9 P10) (QI post)) ∧ (¬ (z11 = 0) → post x2 m8 J9 P10))))))))) : Rn X (d + 2) 177 2 [some (.ref 262), some (.int (iz x1)), some (.int (iz x2))] [] (SS m J P) (QI post) := by
  refine s_iload_n (pc := 2) rfl rfl ?_
  refine s_aload_n (pc := 3) rfl rfl ?_
  refine s_getI (pc := 4) rfl ko_262 ?_
  obtain ⟨hz1, hw⟩ := hw
  obtain ⟨hz2, hw⟩ := hw
  refine s_ic_ge (pc := 7) (tgt := 45) rfl rfl hz1 hz2 (fun hc => ?_) (fun hc => ?_)
  · replace hw := hw.1 hc
    refine s_iconst (pc := 45) rfl ?_
    exact s_reti (pc := 46) rfl rfl hw
  · replace hw := hw.2 hc
    refine s_aload_n (pc := 10) rfl rfl ?_
    refine s_getA (pc := 11) rfl ko_262 (po_262_38 hp) ?_
    refine s_bipush (pc := 14) rfl (by decide) ?_
    refine s_iload_n (pc := 16) rfl rfl ?_
    refine s_imul (pc := 17) rfl ?_
    obtain ⟨hb3, hw⟩ := hw
    refine s_iald (pc := 18) rfl ka_281 (by decide) hb3 ?_
    refine s_aload_n (pc := 19) rfl rfl ?_
    obtain ⟨q4, hq4, kq4, hw⟩ := hw
    refine s_getA (pc := 20) rfl ko_262 hq4 ?_
    refine s_iload_n (pc := 23) rfl rfl ?_
    obtain ⟨hb5, hw⟩ := hw
    refine s_iald (pc := 24) rfl kq4 (by decide) hb5 ?_
    obtain ⟨hz6, hw⟩ := hw
    obtain ⟨hz7, hw⟩ := hw
    refine s_ic_ne (pc := 25) (tgt := 39) rfl rfl hz6 hz7 (fun hc => ?_) (fun hc => ?_)
    · replace hw := hw.1 hc
      refine s_iinc (pc := 39) (L' := [some (.ref 262), some (.int (iz x1)), some (.int (iz (x2 + 1)))]) rfl rfl (Nat.le_of_ble_eq_true rfl) rfl ?_
      refine s_goto (pc := 42) (tgt := 2) rfl rfl ?_
      exact hw
    · replace hw := hw.2 hc
      refine s_aload_n (pc := 28) rfl rfl ?_
      refine s_iload_n (pc := 29) rfl rfl ?_
      refine s_iload_n (pc := 30) rfl rfl ?_
      refine s_ci (pc := 31) (d := (d + 1)) (t := []) rfl rfl (am_ca_v (ps := [.int (iz x1), .int (iz x2)]) rfl ko_262) (Nat.le_of_ble_eq_true rfl) (Ci.weak hw fun z11 m8 J9 P10 hw => ?_)
      obtain ⟨hp12, hw⟩ := hw
      obtain ⟨hz13, hw⟩ := hw
      refine s_if_eq (pc := 34) (tgt := 39) rfl rfl hz13 (fun hc => ?_) (fun hc => ?_)
      · replace hw := hw.1 hc
        refine s_iinc (pc := 39) (L' := [some (.ref 262), some (.int (iz x1)), some (.int (iz (x2 + 1)))]) rfl rfl (Nat.le_of_ble_eq_true rfl) rfl ?_
        refine s_goto (pc := 42) (tgt := 2) rfl rfl ?_
        exact hw
      · replace hw := hw.2 hc
        refine s_iload_n (pc := 37) rfl rfl ?_
        exact s_reti (pc := 38) rfl rfl hw

set_option maxRecDepth 20000 in
set_option maxHeartbeats 4000000 in
theorem b_Mdl_matches_0 {X : aX} {d : Nat} (x1 : Int) (x2 : Int)  (m : Mi) (J : Mj) (P : Mp) (hp : PP P) (post : Int → Mi → Mj → Mp → Prop)
    (hw : Rn X (d + 1) 178 2 [some (.ref 262), some (.int (iz x1)), some (.int (iz x2)), some (.int (iz 0)), none, none, none, none, none] [] (SS m J P) (QI post)) : Rn X (d + 1) 178 0 [some (.ref 262), some (.int (iz x1)), some (.int (iz x2)), none, none, none, none, none, none] [] (SS m J P) (QI post) := by
  refine s_iconst (pc := 0) rfl ?_
  refine s_istore_n (pc := 1) (L' := [some (.ref 262), some (.int (iz x1)), some (.int (iz x2)), some (.int (iz 0)), none, none, none, none, none]) rfl (Nat.le_of_ble_eq_true rfl) rfl ?_
  exact hw

set_option maxRecDepth 20000 in
set_option maxHeartbeats 4000000 in
theorem b_Mdl_matches_2 {X : aX} {d : Nat} (x1 : Int) (x2 : Int) (x3 : Int)  (m : Mi) (J : Mj) (P : Mp) (hp : PP P) (post : Int → Mi → Mj → Mp → Prop)
    (hw : ((0 : Int) ≤ x1 ∧ (x1 : Int) < 16) ∧ Zr (x3) ∧ Zr (m 285 x1.toNat) ∧ ((((m 285 x1.toNat) ≤ x3) → Rn X (d + 1) 178 30 [some (.ref 262), some (.int (iz x1)), some (.int (iz x2)), some (.int (iz x2)), some (.int (iz 0)), none, none, none, none] [] (SS m J P) (QI post)) ∧ (¬ ((m 285 x1.toNat) ≤ x3) → ((0 : Int) ≤ x3 ∧ (x3 : Int) < 8) ∧ Rn X (d + 1) 178 2 [some (.ref 262), some (.int (iz x1)), some (.int (iz x2)), some (.int (iz (x3 + 1))), none, none, none, none, none] [] (SS (mu m 300 x3.toNat ((-1))) J P) (QI post)))) : Rn X (d + 1) 178 2 [some (.ref 262), some (.int (iz x1)), some (.int (iz x2)), some (.int (iz x3)), none, none, none, none, none] [] (SS m J P) (QI post) := by
  refine s_iload_n (pc := 2) rfl rfl ?_
  refine s_aload_n (pc := 3) rfl rfl ?_
  refine s_getA (pc := 4) rfl ko_262 (po_262_42 hp) ?_
  refine s_iload_n (pc := 7) rfl rfl ?_
  obtain ⟨hb1, hw⟩ := hw
  refine s_iald (pc := 8) rfl ka_285 (by decide) hb1 ?_
  obtain ⟨hz2, hw⟩ := hw
  obtain ⟨hz3, hw⟩ := hw
  refine s_ic_ge (pc := 9) (tgt := 25) rfl rfl hz2 hz3 (fun hc => ?_) (fun hc => ?_)
  · replace hw := hw.1 hc
    refine s_iload_n (pc := 25) rfl rfl ?_
    refine s_istore_n (pc := 26) (L' := [some (.ref 262), some (.int (iz x1)), some (.int (iz x2)), some (.int (iz x2)), none, none, none, none, none]) rfl (Nat.le_of_ble_eq_true rfl) rfl ?_
    refine s_iconst (pc := 27) rfl ?_
    refine s_istore (pc := 28) (L' := [some (.ref 262), some (.int (iz x1)), some (.int (iz x2)), some (.int (iz x2)), some (.int (iz 0)), none, none, none, none]) rfl (Nat.le_of_ble_eq_true rfl) rfl ?_
    exact hw
  · replace hw := hw.2 hc
    refine s_aload_n (pc := 12) rfl rfl ?_
    refine s_getA (pc := 13) rfl ko_262 (po_262_65 hp) ?_
    refine s_iload_n (pc := 16) rfl rfl ?_
    refine s_iconst (pc := 17) rfl ?_
    obtain ⟨hb4, hw⟩ := hw
    refine s_iast (pc := 18) rfl ka_300 (by decide) hb4 ?_
    refine s_iinc (pc := 19) (L' := [some (.ref 262), some (.int (iz x1)), some (.int (iz x2)), some (.int (iz (x3 + 1))), none, none, none, none, none]) rfl rfl (Nat.le_of_ble_eq_true rfl) rfl ?_
    refine s_goto (pc := 22) (tgt := 2) rfl rfl ?_
    exact hw

set_option maxRecDepth 20000 in
set_option maxHeartbeats 4000000 in
theorem b_Mdl_matches_30 {X : aX} {d : Nat} (x1 : Int) (x2 : Int) (x3 : Int) (x4 : Int)  (m : Mi) (J : Mj) (P : Mp) (hp : PP P) (post : Int → Mi → Mj → Mp → Prop)
    (hw : ((0 : Int) ≤ x1 ∧ (x1 : Int) < 16) ∧ Zr (x4) ∧ Zr (m 283 x1.toNat) ∧ ((((m 283 x1.toNat) ≤ x4) → post 1 m J P) ∧ (¬ ((m 283 x1.toNat) ≤ x4) → ((0 : Int) ≤ ((40 * x1) + x4) ∧ (((40 * x1) + x4) : Int) < 640) ∧ Zr (m 281 ((40 * x1) + x4).toNat) ∧ ((((m 281 ((40 * x1) + x4).toNat) < 0) → (∃ q6, P 262 59 = some q6 ∧ am_kd an_K q6 = some (.inr (0, 201)) ∧ Ci X d 179 [.ref 262, .ref q6, .int (iz x3)] m J P (fun z10 m7 J8 P9 => PP P9 ∧ ((0 : Int) ≤ (((-1)) - (m 281 ((40 * x1) + x4).toNat)) ∧ ((((-1)) - (m 281 ((40 * x1) + x4).toNat)) : Int) < 8) ∧ Zr (m7 300 (((-1)) - (m 281 ((40 * x1) + x4).toNat)).toNat) ∧ (((0 ≤ (m7 300 (((-1)) - (m 281 ((40 * x1) + x4).toNat)).toNat)) → ((0 : Int) ≤ (((-1)) - (m 281 ((40 * x1) + x4).toNat)) ∧ ((((-1)) - (m 281 ((40 * x1) + x4).toNat)) : Int) < 8) ∧ ((0 : Int) ≤ (((-1)) - (m 281 ((40 * x1) + x4).toNat)) ∧ ((((-1)) - (m 281 ((40 * x1) + x4).toNat)) : Int) < 8) ∧ Zr (z10 - x3) ∧ Zr ((m7 301 (((-1)) - (m 281 ((40 * x1) + x4).toNat)).toNat) - (m7 300 (((-1)) - (m 281 ((40 * x1) + x4).toNat)).toNat)) ∧ ((((z10 - x3) = ((m7 301 (((-1)) - (m 281 ((40 * x1) + x4).toNat)).toNat) - (m7 300 (((-1)) - (m 281 ((40 * x1) + x4).toNat)).toNat))) → Rn X (d + 1) 178 153 [some (.ref 262), some (.int (iz x1)), some (.int (iz x2)), some (.int (iz x3)), some (.int (iz x4)), some (.int (iz (m 281 ((40 * x1) + x4).toNat))), some (.int (iz (((-1)) - (m 281 ((40 * x1) + x4).toNat)))), some (.int (iz z10)), some (.int (iz 0))] [] (SS m7 J8 P9) (QI post)) ∧ (¬ ((z10 - x3) = ((m7 301 (((-1)) - (m 281 ((40 * x1) + x4).toNat)).toNat) - (m7 300 (((-1)) - (m 281 ((40 * x1) + x4).toNat)).toNat))) → post 0 m7 J8 P9))) ∧ (¬ (0 ≤ (m7 300 (((-1)) - (m 281 ((40 * x1) + x4).toNat)).toNat)) → ((0 : Int) ≤ (((-1)) - (m 281 ((40 * x1) + x4).toNat)) ∧ ((((-1)) - (m 281 ((40 * x1) + x4).toNat)) : Int) < 8) ∧ ((0 : Int) ≤ (((-1)) - (m 281 ((40 * x1) + x4).toNat)) ∧ ((((-1)) - (m 281 ((40 * x1) + x4).toNat)) : Int) < 8) ∧ Rn X (d + 1) 178 30 [some (.ref 262), some (.int (iz x1)), some (.int (iz x2)), some (.int (iz z10)), some (.int (iz (x4 + 1))), none, none, none, none] [] (SS (mu (mu m7 300 (((-1)) - (m 281 ((40 * x1) + x4).toNat)).toNat x3) 301 (((-1)) - (m 281 ((40 * x1) + x4).toNat)).toNat z10) J8 P9) (QI post)))))) ∧ (¬ ((m 281 ((40 * x1) + x4).toNat) < 0) → (∃ q20, P 262 59 = some q20 ∧ am_kd an_K q20 = some (.inr (0, 201)) ∧ ((0 : Int) ≤ x3 ∧ (x3 : Int) < 201) ∧ Zr (m q20 x3.toNat) ∧ Zr (m 281 ((40 * x1) + x4).toNat) ∧ ((((m q20 x3.toNat) = (m 281 ((40 * x1) + x4).toNat)) → Rn X (d + 1) 178 30 [some (.ref 262), some (.int (iz x1)), some (.int (iz x2)), some (.int (iz (x3 + 1))), some (.int (iz (x4 + 1))), none, none, none, none] [] (SS m J P) (QI post)) ∧ (¬ ((m q20 x3.toNat) = (m 281 ((40 * x1) + x4).toNat)) → post 0 m J P)))))))) : Rn X (d + 1) 178 30 [some (.ref 262), some (.int (iz x1)), some (.int (iz x2)), some (.int (iz x3)), some (.int (iz x4)), none, none, none, none] [] (SS m J P) (QI post) := by
  refine s_iload (pc := 30) rfl rfl ?_
  refine s_aload_n (pc := 32) rfl rfl ?_
  refine s_getA (pc := 33) rfl ko_262 (po_262_40 hp) ?_
  refine s_iload_n (pc := 36) rfl rfl ?_
  obtain ⟨hb1, hw⟩ := hw
  refine s_iald (pc := 37) rfl ka_283 (by decide) hb1 ?_
  obtain ⟨hz2, hw⟩ := hw
  obtain ⟨hz3, hw⟩ := hw
  refine s_ic_ge (pc := 38) (tgt := 206) rfl rfl hz2 hz3 (fun hc => ?_) (fun hc => ?_)
  · replace hw := hw.1 hc
    refine s_iconst (pc := 206) rfl ?_
    exact s_retz (pc := 207) rfl rfl (by decide) hw
  · replace hw := hw.2 hc
    refine s_aload_n (pc := 41) rfl rfl ?_
    refine s_getA (pc := 42) rfl ko_262 (po_262_38 hp) ?_
    refine s_bipush (pc := 45) rfl (by decide) ?_
    refine s_iload_n (pc := 47) rfl rfl ?_
    refine s_imul (pc := 48) rfl ?_
    refine s_iload (pc := 49) rfl rfl ?_
    refine s_iadd (pc := 51) rfl ?_
    obtain ⟨hb4, hw⟩ := hw
    refine s_iald (pc := 52) rfl ka_281 (by decide) hb4 ?_
    refine s_istore (pc := 53) (L' := [some (.ref 262), some (.int (iz x1)), some (.int (iz x2)), some (.int (iz x3)), some (.int (iz x4)), some (.int (iz (m 281 ((40 * x1) + x4).toNat))), none, none, none]) rfl (Nat.le_of_ble_eq_true rfl) rfl ?_
    refine s_iload (pc := 55) rfl rfl ?_
    obtain ⟨hz5, hw⟩ := hw
    refine s_if_lt (pc := 57) (tgt := 79) rfl rfl hz5 (fun hc => ?_) (fun hc => ?_)
    · replace hw := hw.1 hc
      refine s_iconst (pc := 79) rfl ?_
      refine s_iload (pc := 80) rfl rfl ?_
      refine s_isub (pc := 82) rfl ?_
      refine s_istore (pc := 83) (L' := [some (.ref 262), some (.int (iz x1)), some (.int (iz x2)), some (.int (iz x3)), some (.int (iz x4)), some (.int (iz (m 281 ((40 * x1) + x4).toNat))), some (.int (iz (((-1)) - (m 281 ((40 * x1) + x4).toNat)))), none, none]) rfl (Nat.le_of_ble_eq_true rfl) rfl ?_
      refine s_aload_n (pc := 85) rfl rfl ?_
      refine s_aload_n (pc := 86) rfl rfl ?_
      obtain ⟨q6, hq6, kq6, hw⟩ := hw
      refine s_getA (pc := 87) rfl ko_262 hq6 ?_
      refine s_iload_n (pc := 90) rfl rfl ?_
      refine s_ci (pc := 91) (d := d) (t := []) rfl rfl (am_ca_v (ps := [.int (iz x3), .ref q6]) rfl ko_262) (Nat.le_of_ble_eq_true rfl) (Ci.weak hw fun z10 m7 J8 P9 hw => ?_)
      obtain ⟨hp11, hw⟩ := hw
      refine s_istore (pc := 94) (L' := [some (.ref 262), some (.int (iz x1)), some (.int (iz x2)), some (.int (iz x3)), some (.int (iz x4)), some (.int (iz (m 281 ((40 * x1) + x4).toNat))), some (.int (iz (((-1)) - (m 281 ((40 * x1) + x4).toNat)))), some (.int (iz z10)), none]) rfl (Nat.le_of_ble_eq_true rfl) rfl ?_
      refine s_aload_n (pc := 96) rfl rfl ?_
      refine s_getA (pc := 97) rfl ko_262 (po_262_65 hp11) ?_
      refine s_iload (pc := 100) rfl rfl ?_
      obtain ⟨hb12, hw⟩ := hw
      refine s_iald (pc := 102) rfl ka_300 (by decide) hb12 ?_
      obtain ⟨hz13, hw⟩ := hw
      refine s_if_ge (pc := 103) (tgt := 126) rfl rfl hz13 (fun hc => ?_) (fun hc => ?_)
      · replace hw := hw.1 hc
        refine s_iload (pc := 126) rfl rfl ?_
        refine s_iload_n (pc := 128) rfl rfl ?_
        refine s_isub (pc := 129) rfl ?_
        refine s_aload_n (pc := 130) rfl rfl ?_
        refine s_getA (pc := 131) rfl ko_262 (po_262_66 hp11) ?_
        refine s_iload (pc := 134) rfl rfl ?_
        obtain ⟨hb14, hw⟩ := hw
        refine s_iald (pc := 136) rfl ka_301 (by decide) hb14 ?_
        refine s_aload_n (pc := 137) rfl rfl ?_
        refine s_getA (pc := 138) rfl ko_262 (po_262_65 hp11) ?_
        refine s_iload (pc := 141) rfl rfl ?_
        obtain ⟨hb15, hw⟩ := hw
        refine s_iald (pc := 143) rfl ka_300 (by decide) hb15 ?_
        refine s_isub (pc := 144) rfl ?_
        obtain ⟨hz16, hw⟩ := hw
        obtain ⟨hz17, hw⟩ := hw
        refine s_ic_eq (pc := 145) (tgt := 150) rfl rfl hz16 hz17 (fun hc => ?_) (fun hc => ?_)
        · replace hw := hw.1 hc
          refine s_iconst (pc := 150) rfl ?_
          refine s_istore (pc := 151) (L' := [some (.ref 262), some (.int (iz x1)), some (.int (iz x2)), some (.int (iz x3)), some (.int (iz x4)), some (.int (iz (m 281 ((40 * x1) + x4).toNat))), some (.int (iz (((-1)) - (m 281 ((40 * x1) + x4).toNat)))), some (.int (iz z10)), some (.int (iz 0))]) rfl (Nat.le_of_ble_eq_true rfl) rfl ?_
          exact hw
        · replace hw := hw.2 hc
          refine s_iconst (pc := 148) rfl ?_
          exact s_retz (pc := 149) rfl rfl (by decide) hw
      · replace hw := hw.2 hc
        refine s_aload_n (pc := 106) rfl rfl ?_
        refine s_getA (pc := 107) rfl ko_262 (po_262_65 hp11) ?_
        refine s_iload (pc := 110) rfl rfl ?_
        refine s_iload_n (pc := 112) rfl rfl ?_
        obtain ⟨hb18, hw⟩ := hw
        refine s_iast (pc := 113) rfl ka_300 (by decide) hb18 ?_
        refine s_aload_n (pc := 114) rfl rfl ?_
        refine s_getA (pc := 115) rfl ko_262 (po_262_66 hp11) ?_
        refine s_iload (pc := 118) rfl rfl ?_
        refine s_iload (pc := 120) rfl rfl ?_
        obtain ⟨hb19, hw⟩ := hw
        refine s_iast (pc := 122) rfl ka_301 (by decide) hb19 ?_
        refine s_goto (pc := 123) (tgt := 197) rfl rfl ?_
        refine s_iload (pc := 197) rfl rfl ?_
        refine s_istore_n (pc := 199) (L' := [some (.ref 262), some (.int (iz x1)), some (.int (iz x2)), some (.int (iz z10)), some (.int (iz x4)), some (.int (iz (m 281 ((40 * x1) + x4).toNat))), some (.int (iz (((-1)) - (m 281 ((40 * x1) + x4).toNat)))), some (.int (iz z10)), none]) rfl (Nat.le_of_ble_eq_true rfl) rfl ?_
        refine s_iinc (pc := 200) (L' := [some (.ref 262), some (.int (iz x1)), some (.int (iz x2)), some (.int (iz z10)), some (.int (iz (x4 + 1))), some (.int (iz (m 281 ((40 * x1) + x4).toNat))), some (.int (iz (((-1)) - (m 281 ((40 * x1) + x4).toNat)))), some (.int (iz z10)), none]) rfl rfl (Nat.le_of_ble_eq_true rfl) rfl ?_
        refine s_goto (pc := 203) (tgt := 30) rfl rfl ?_
        exact Rn.weakL hw (LLe.keep _ (LLe.keep _ (LLe.keep _ (LLe.keep _ (LLe.keep _ (LLe.drop _ (LLe.drop _ (LLe.drop _ (LLe.keep _ (LLe.nil))))))))))
    · replace hw := hw.2 hc
      refine s_aload_n (pc := 60) rfl rfl ?_
      obtain ⟨q20, hq20, kq20, hw⟩ := hw
      refine s_getA (pc := 61) rfl ko_262 hq20 ?_
      refine s_iload_n (pc := 64) rfl rfl ?_
      obtain ⟨hb21, hw⟩ := hw
      refine s_iald (pc := 65) rfl kq20 (by decide) hb21 ?_
      refine s_iload (pc := 66) rfl rfl ?_
      obtain ⟨hz22, hw⟩ := hw
      obtain ⟨hz23, hw⟩ := hw
      refine s_ic_eq (pc := 68) (tgt := 73) rfl rfl hz22 hz23 (fun hc => ?_) (fun hc => ?_)
      · replace hw := hw.1 hc
        refine s_iinc (pc := 73) (L' := [some (.ref 262), some (.int (iz x1)), some (.int (iz x2)), some (.int (iz (x3 + 1))), some (.int (iz x4)), some (.int (iz (m 281 ((40 * x1) + x4).toNat))), none, none, none]) rfl rfl (Nat.le_of_ble_eq_true rfl) rfl ?_
        refine s_goto (pc := 76) (tgt := 200) rfl rfl ?_
        refine s_iinc (pc := 200) (L' := [some (.ref 262), some (.int (iz x1)), some (.int (iz x2)), some (.int (iz (x3 + 1))), some (.int (iz (x4 + 1))), some (.int (iz (m 281 ((40 * x1) + x4).toNat))), none, none, none]) rfl rfl (Nat.le_of_ble_eq_true rfl) rfl ?_
        refine s_goto (pc := 203) (tgt := 30) rfl rfl ?_
        exact Rn.weakL hw (LLe.keep _ (LLe.keep _ (LLe.keep _ (LLe.keep _ (LLe.keep _ (LLe.drop _ (LLe.keep _ (LLe.keep _ (LLe.keep _ (LLe.nil))))))))))
      · replace hw := hw.2 hc
        refine s_iconst (pc := 71) rfl ?_
        exact s_retz (pc := 72) rfl rfl (by decide) hw

set_option maxRecDepth 20000 in
set_option maxHeartbeats 4000000 in
theorem b_Mdl_matches_153 {X : aX} {d : Nat} (x1 : Int) (x2 : Int) (x3 : Int) (x4 : Int) (x5 : Int) (x6 : Int) (x7 : Int) (x8 : Int)  (m : Mi) (J : Mj) (P : Mp) (hp : PP P) (post : Int → Mi → Mj → Mp → Prop)
    (hw : Zr (x8) ∧ Zr (x7 - x3) ∧ ((((x7 - x3) ≤ x8) → Rn X (d + 1) 178 30 [some (.ref 262), some (.int (iz x1)), some (.int (iz x2)), some (.int (iz x7)), some (.int (iz (x4 + 1))), none, none, none, none] [] (SS m J P) (QI post)) ∧ (¬ ((x7 - x3) ≤ x8) → (∃ q3, P 262 59 = some q3 ∧ am_kd an_K q3 = some (.inr (0, 201)) ∧ ((0 : Int) ≤ (x3 + x8) ∧ ((x3 + x8) : Int) < 201) ∧ (∃ q5, P 262 59 = some q5 ∧ am_kd an_K q5 = some (.inr (0, 201)) ∧ ((0 : Int) ≤ x6 ∧ (x6 : Int) < 8) ∧ ((0 : Int) ≤ ((m 300 x6.toNat) + x8) ∧ (((m 300 x6.toNat) + x8) : Int) < 201) ∧ Zr (m q3 (x3 + x8).toNat) ∧ Zr (m q5 ((m 300 x6.toNat) + x8).toNat) ∧ ((((m q3 (x3 + x8).toNat) = (m q5 ((m 300 x6.toNat) + x8).toNat)) → Rn X (d + 1) 178 153 [some (.ref 262), some (.int (iz x1)), some (.int (iz x2)), some (.int (iz x3)), some (.int (iz x4)), some (.int (iz x5)), some (.int (iz x6)), some (.int (iz x7)), some (.int (iz (x8 + 1)))] [] (SS m J P) (QI post)) ∧ (¬ ((m q3 (x3 + x8).toNat) = (m q5 ((m 300 x6.toNat) + x8).toNat)) → post 0 m J P))))))) : Rn X (d + 1) 178 153 [some (.ref 262), some (.int (iz x1)), some (.int (iz x2)), some (.int (iz x3)), some (.int (iz x4)), some (.int (iz x5)), some (.int (iz x6)), some (.int (iz x7)), some (.int (iz x8))] [] (SS m J P) (QI post) := by
  refine s_iload (pc := 153) rfl rfl ?_
  refine s_iload (pc := 155) rfl rfl ?_
  refine s_iload_n (pc := 157) rfl rfl ?_
  refine s_isub (pc := 158) rfl ?_
  obtain ⟨hz1, hw⟩ := hw
  obtain ⟨hz2, hw⟩ := hw
  refine s_ic_ge (pc := 159) (tgt := 197) rfl rfl hz1 hz2 (fun hc => ?_) (fun hc => ?_)
  · replace hw := hw.1 hc
    refine s_iload (pc := 197) rfl rfl ?_
    refine s_istore_n (pc := 199) (L' := [some (.ref 262), some (.int (iz x1)), some (.int (iz x2)), some (.int (iz x7)), some (.int (iz x4)), some (.int (iz x5)), some (.int (iz x6)), some (.int (iz x7)), some (.int (iz x8))]) rfl (Nat.le_of_ble_eq_true rfl) rfl ?_
    refine s_iinc (pc := 200) (L' := [some (.ref 262), some (.int (iz x1)), some (.int (iz x2)), some (.int (iz x7)), some (.int (iz (x4 + 1))), some (.int (iz x5)), some (.int (iz x6)), some (.int (iz x7)), some (.int (iz x8))]) rfl rfl (Nat.le_of_ble_eq_true rfl) rfl ?_
    refine s_goto (pc := 203) (tgt := 30) rfl rfl ?_
    exact Rn.weakL hw (LLe.keep _ (LLe.keep _ (LLe.keep _ (LLe.keep _ (LLe.keep _ (LLe.drop _ (LLe.drop _ (LLe.drop _ (LLe.drop _ (LLe.nil))))))))))
  · replace hw := hw.2 hc
    refine s_aload_n (pc := 162) rfl rfl ?_
    obtain ⟨q3, hq3, kq3, hw⟩ := hw
    refine s_getA (pc := 163) rfl ko_262 hq3 ?_
    refine s_iload_n (pc := 166) rfl rfl ?_
    refine s_iload (pc := 167) rfl rfl ?_
    refine s_iadd (pc := 169) rfl ?_
    obtain ⟨hb4, hw⟩ := hw
    refine s_iald (pc := 170) rfl kq3 (by decide) hb4 ?_
    refine s_aload_n (pc := 171) rfl rfl ?_
    obtain ⟨q5, hq5, kq5, hw⟩ := hw
    refine s_getA (pc := 172) rfl ko_262 hq5 ?_
    refine s_aload_n (pc := 175) rfl rfl ?_
    refine s_getA (pc := 176) rfl ko_262 (po_262_65 hp) ?_
    refine s_iload (pc := 179) rfl rfl ?_
    obtain ⟨hb6, hw⟩ := hw
    refine s_iald (pc := 181) rfl ka_300 (by decide) hb6 ?_
    refine s_iload (pc := 182) rfl rfl ?_
    refine s_iadd (pc := 184) rfl ?_
    obtain ⟨hb7, hw⟩ := hw
    refine s_iald (pc := 185) rfl kq5 (by decide) hb7 ?_
    obtain ⟨hz8, hw⟩ := hw
    obtain ⟨hz9, hw⟩ := hw
    refine s_ic_eq (pc := 186) (tgt := 191) rfl rfl hz8 hz9 (fun hc => ?_) (fun hc => ?_)
    · replace hw := hw.1 hc
      refine s_iinc (pc := 191) (L' := [some (.ref 262), some (.int (iz x1)), some (.int (iz x2)), some (.int (iz x3)), some (.int (iz x4)), some (.int (iz x5)), some (.int (iz x6)), some (.int (iz x7)), some (.int (iz (x8 + 1)))]) rfl rfl (Nat.le_of_ble_eq_true rfl) rfl ?_
      refine s_goto (pc := 194) (tgt := 153) rfl rfl ?_
      exact hw
    · replace hw := hw.2 hc
      refine s_iconst (pc := 189) rfl ?_
      exact s_retz (pc := 190) rfl rfl (by decide) hw

set_option maxRecDepth 20000 in
set_option maxHeartbeats 4000000 in
theorem b_Mdl_endOf_0 {X : aX} {d : Nat} (x1 nx1 : Nat) (x2 : Int) (kx1 : am_kd an_K x1 = some (.inr (0, nx1))) (bx1 : nx1 ≤ 100000) (m : Mi) (J : Mj) (P : Mp) (hp : PP P) (post : Int → Mi → Mj → Mp → Prop)
    (hw : Rn X d 179 5 [some (.ref 262), some (.ref x1), some (.int (iz x2)), some (.int (iz x2)), some (.int (iz 1))] [] (SS m J P) (QI post)) : Rn X d 179 0 [some (.ref 262), some (.ref x1), some (.int (iz x2)), none, none] [] (SS m J P) (QI post) := by
  refine s_iload_n (pc := 0) rfl rfl ?_
  refine s_istore_n (pc := 1) (L' := [some (.ref 262), some (.ref x1), some (.int (iz x2)), some (.int (iz x2)), none]) rfl (Nat.le_of_ble_eq_true rfl) rfl ?_
  refine s_iconst (pc := 2) rfl ?_
  refine s_istore (pc := 3) (L' := [some (.ref 262), some (.ref x1), some (.int (iz x2)), some (.int (iz x2)), some (.int (iz 1))]) rfl (Nat.le_of_ble_eq_true rfl) rfl ?_
  exact hw

set_option maxRecDepth 20000 in
set_option maxHeartbeats 4000000 in
theorem b_Mdl_endOf_5 {X : aX} {d : Nat} (x1 nx1 : Nat) (x2 : Int) (x3 : Int) (x4 : Int) (kx1 : am_kd an_K x1 = some (.inr (0, nx1))) (bx1 : nx1 ≤ 100000) (m : Mi) (J : Mj) (P : Mp) (hp : PP P) (post : Int → Mi → Mj → Mp → Prop)
    (hw : Zr (x4) ∧ (((x4 ≤ 0) → post x3 m J P) ∧ (¬ (x4 ≤ 0) → ((0 : Int) ≤ x3 ∧ (x3 : Int) < nx1) ∧ Zr (m x1 x3.toNat) ∧ (((0 ≤ (m x1 x3.toNat)) → ((0 : Int) ≤ x3 ∧ (x3 : Int) < nx1) ∧ ((0 : Int) ≤ (m x1 x3.toNat) ∧ ((m x1 x3.toNat) : Int) < 16) ∧ Rn X d 179 5 [some (.ref 262), some (.ref x1), some (.int (iz x2)), some (.int (iz (x3 + 1))), some (.int (iz (x4 + ((m 280 (m x1 x3.toNat).toNat) - 1))))] [] (SS m J P) (QI post)) ∧ (¬ (0 ≤ (m x1 x3.toNat)) → Rn X d 179 5 [some (.ref 262), some (.ref x1), some (.int (iz x2)), some (.int (iz (x3 + 1))), some (.int (iz (x4 + ((-1)))))] [] (SS m J P) (QI post)))))) : Rn X d 179 5 [some (.ref 262), some (.ref x1), some (.int (iz x2)), some (.int (iz x3)), some (.int (iz x4))] [] (SS m J P) (QI post) := by
  refine s_iload (pc := 5) rfl rfl ?_
  obtain ⟨hz1, hw⟩ := hw
  refine s_if_le (pc := 7) (tgt := 41) rfl rfl hz1 (fun hc => ?_) (fun hc => ?_)
  · replace hw := hw.1 hc
    refine s_iload_n (pc := 41) rfl rfl ?_
    exact s_reti (pc := 42) rfl rfl hw
  · replace hw := hw.2 hc
    refine s_iload (pc := 10) rfl rfl ?_
    refine s_aload_n (pc := 12) rfl rfl ?_
    refine s_iload_n (pc := 13) rfl rfl ?_
    obtain ⟨hb2, hw⟩ := hw
    refine s_iald (pc := 14) rfl kx1 bx1 hb2 ?_
    obtain ⟨hz3, hw⟩ := hw
    refine s_if_ge (pc := 15) (tgt := 22) rfl rfl hz3 (fun hc => ?_) (fun hc => ?_)
    · replace hw := hw.1 hc
      refine s_aload_n (pc := 22) rfl rfl ?_
      refine s_getA (pc := 23) rfl ko_262 (po_262_37 hp) ?_
      refine s_aload_n (pc := 26) rfl rfl ?_
      refine s_iload_n (pc := 27) rfl rfl ?_
      obtain ⟨hb4, hw⟩ := hw
      refine s_iald (pc := 28) rfl kx1 bx1 hb4 ?_
      obtain ⟨hb5, hw⟩ := hw
      refine s_iald (pc := 29) rfl ka_280 (by decide) hb5 ?_
      refine s_iconst (pc := 30) rfl ?_
      refine s_isub (pc := 31) rfl ?_
      refine s_iadd (pc := 32) rfl ?_
      refine s_istore (pc := 33) (L' := [some (.ref 262), some (.ref x1), some (.int (iz x2)), some (.int (iz x3)), some (.int (iz (x4 + ((m 280 (m x1 x3.toNat).toNat) - 1))))]) rfl (Nat.le_of_ble_eq_true rfl) rfl ?_
      refine s_iinc (pc := 35) (L' := [some (.ref 262), some (.ref x1), some (.int (iz x2)), some (.int (iz (x3 + 1))), some (.int (iz (x4 + ((m 280 (m x1 x3.toNat).toNat) - 1))))]) rfl rfl (Nat.le_of_ble_eq_true rfl) rfl ?_
      refine s_goto (pc := 38) (tgt := 5) rfl rfl ?_
      exact hw
    · replace hw := hw.2 hc
      refine s_iconst (pc := 18) rfl ?_
      refine s_goto (pc := 19) (tgt := 32) rfl rfl ?_
      refine s_iadd (pc := 32) rfl ?_
      refine s_istore (pc := 33) (L' := [some (.ref 262), some (.ref x1), some (.int (iz x2)), some (.int (iz x3)), some (.int (iz (x4 + ((-1)))))]) rfl (Nat.le_of_ble_eq_true rfl) rfl ?_
      refine s_iinc (pc := 35) (L' := [some (.ref 262), some (.ref x1), some (.int (iz x2)), some (.int (iz (x3 + 1))), some (.int (iz (x4 + ((-1)))))]) rfl rfl (Nat.le_of_ble_eq_true rfl) rfl ?_
      refine s_goto (pc := 38) (tgt := 5) rfl rfl ?_
      exact hw

set_option maxRecDepth 20000 in
set_option maxHeartbeats 4000000 in
theorem b_Mdl_replace_0 {X : aX} {d : Nat} (x1 : Int) (x2 : Int) (x3 : Int)  (m : Mi) (J : Mj) (P : Mp) (hp : PP P) (post : Mi → Mj → Mp → Prop)
    (hw : Rn X d 180 6 [some (.ref 262), some (.int (iz x1)), some (.int (iz x2)), some (.int (iz x3)), some (.int (iz 0)), some (.int (iz 0)), none, none] [] (SS m J P) (QV post)) : Rn X d 180 0 [some (.ref 262), some (.int (iz x1)), some (.int (iz x2)), some (.int (iz x3)), none, none, none, none] [] (SS m J P) (QV post) := by
  refine s_iconst (pc := 0) rfl ?_
  refine s_istore (pc := 1) (L' := [some (.ref 262), some (.int (iz x1)), some (.int (iz x2)), some (.int (iz x3)), some (.int (iz 0)), none, none, none]) rfl (Nat.le_of_ble_eq_true rfl) rfl ?_
  refine s_iconst (pc := 3) rfl ?_
  refine s_istore (pc := 4) (L' := [some (.ref 262), some (.int (iz x1)), some (.int (iz x2)), some (.int (iz x3)), some (.int (iz 0)), some (.int (iz 0)), none, none]) rfl (Nat.le_of_ble_eq_true rfl) rfl ?_
  exact hw

set_option maxRecDepth 20000 in
set_option maxHeartbeats 4000000 in
theorem b_Mdl_replace_6 {X : aX} {d : Nat} (x1 : Int) (x2 : Int) (x3 : Int) (x4 : Int) (x5 : Int)  (m : Mi) (J : Mj) (P : Mp) (hp : PP P) (post : Mi → Mj → Mp → Prop)
    (hw : Zr (x5) ∧ Zr (x1) ∧ (((x1 ≤ x5) → Rn X d 180 38 [some (.ref 262), some (.int (iz x1)), some (.int (iz x2)), some (.int (iz x3)), some (.int (iz x4)), some (.int (iz 0)), none, none] [] (SS m J P) (QV post)) ∧ (¬ (x1 ≤ x5) → (∃ q3, P 262 60 = some q3 ∧ am_kd an_K q3 = some (.inr (0, 201)) ∧ (∃ q4, P 262 59 = some q4 ∧ am_kd an_K q4 = some (.inr (0, 201)) ∧ ((0 : Int) ≤ x5 ∧ (x5 : Int) < 201) ∧ ((0 : Int) ≤ x4 ∧ (x4 : Int) < 201) ∧ Rn X d 180 6 [some (.ref 262), some (.int (iz x1)), some (.int (iz x2)), some (.int (iz x3)), some (.int (iz (x4 + 1))), some (.int (iz (x5 + 1))), none, none] [] (SS (mu m q3 x4.toNat (m q4 x5.toNat)) J P) (QV post)))))) : Rn X d 180 6 [some (.ref 262), some (.int (iz x1)), some (.int (iz x2)), some (.int (iz x3)), some (.int (iz x4)), some (.int (iz x5)), none, none] [] (SS m J P) (QV post) := by
  refine s_iload (pc := 6) rfl rfl ?_
  refine s_iload_n (pc := 8) rfl rfl ?_
  obtain ⟨hz1, hw⟩ := hw
  obtain ⟨hz2, hw⟩ := hw
  refine s_ic_ge (pc := 9) (tgt := 35) rfl rfl hz1 hz2 (fun hc => ?_) (fun hc => ?_)
  · replace hw := hw.1 hc
    refine s_iconst (pc := 35) rfl ?_
    refine s_istore (pc := 36) (L' := [some (.ref 262), some (.int (iz x1)), some (.int (iz x2)), some (.int (iz x3)), some (.int (iz x4)), some (.int (iz 0)), none, none]) rfl (Nat.le_of_ble_eq_true rfl) rfl ?_
    exact hw
  · replace hw := hw.2 hc
    refine s_aload_n (pc := 12) rfl rfl ?_
    obtain ⟨q3, hq3, kq3, hw⟩ := hw
    refine s_getA (pc := 13) rfl ko_262 hq3 ?_
    refine s_iload (pc := 16) rfl rfl ?_
    refine s_iinc (pc := 18) (L' := [some (.ref 262), some (.int (iz x1)), some (.int (iz x2)), some (.int (iz x3)), some (.int (iz (x4 + 1))), some (.int (iz x5)), none, none]) rfl rfl (Nat.le_of_ble_eq_true rfl) rfl ?_
    refine s_aload_n (pc := 21) rfl rfl ?_
    obtain ⟨q4, hq4, kq4, hw⟩ := hw
    refine s_getA (pc := 22) rfl ko_262 hq4 ?_
    refine s_iload (pc := 25) rfl rfl ?_
    obtain ⟨hb5, hw⟩ := hw
    refine s_iald (pc := 27) rfl kq4 (by decide) hb5 ?_
    obtain ⟨hb6, hw⟩ := hw
    refine s_iast (pc := 28) rfl kq3 (by decide) hb6 ?_
    refine s_iinc (pc := 29) (L' := [some (.ref 262), some (.int (iz x1)), some (.int (iz x2)), some (.int (iz x3)), some (.int (iz (x4 + 1))), some (.int (iz (x5 + 1))), none, none]) rfl rfl (Nat.le_of_ble_eq_true rfl) rfl ?_
    refine s_goto (pc := 32) (tgt := 6) rfl rfl ?_
    exact hw

set_option maxRecDepth 20000 in
set_option maxHeartbeats 4000000 in
theorem b_Mdl_replace_38 {X : aX} {d : Nat} (x1 : Int) (x2 : Int) (x3 : Int) (x4 : Int) (x5 : Int)  (m : Mi) (J : Mj) (P : Mp) (hp : PP P) (post : Mi → Mj → Mp → Prop)
    (hw : ((0 : Int) ≤ x3 ∧ (x3 : Int) < 16) ∧ Zr (x5) ∧ Zr (m 284 x3.toNat) ∧ ((((m 284 x3.toNat) ≤ x5) → Rn X d 180 140 [some (.ref 262), some (.int (iz x1)), some (.int (iz x2)), some (.int (iz x3)), some (.int (iz x4)), some (.int (iz x2)), none, none] [] (SS m J P) (QV post)) ∧ (¬ ((m 284 x3.toNat) ≤ x5) → ((0 : Int) ≤ ((40 * x3) + x5) ∧ (((40 * x3) + x5) : Int) < 640) ∧ Zr (m 282 ((40 * x3) + x5).toNat) ∧ ((((m 282 ((40 * x3) + x5).toNat) < 0) → ((0 : Int) ≤ (((-1)) - (m 282 ((40 * x3) + x5).toNat)) ∧ ((((-1)) - (m 282 ((40 * x3) + x5).toNat)) : Int) < 8) ∧ Rn X d 180 94 [some (.ref 262), some (.int (iz x1)), some (.int (iz x2)), some (.int (iz x3)), some (.int (iz x4)), some (.int (iz x5)), some (.int (iz (m 282 ((40 * x3) + x5).toNat))), some (.int (iz (m 300 (((-1)) - (m 282 ((40 * x3) + x5).toNat)).toNat)))] [] (SS m J P) (QV post)) ∧ (¬ ((m 282 ((40 * x3) + x5).toNat) < 0) → (∃ q7, P 262 60 = some q7 ∧ am_kd an_K q7 = some (.inr (0, 201)) ∧ ((0 : Int) ≤ x4 ∧ (x4 : Int) < 201) ∧ Rn X d 180 38 [some (.ref 262), some (.int (iz x1)), some (.int (iz x2)), some (.int (iz x3)), some (.int (iz (x4 + 1))), some (.int (iz (x5 + 1))), none, none] [] (SS (mu m q7 x4.toNat (m 282 ((40 * x3) + x5).toNat)) J P) (QV post))))))) : Rn X d 180 38 [some (.ref 262), some (.int (iz x1)), some (.int (iz x2)), some (.int (iz x3)), some (.int (iz x4)), some (.int (iz x5)), none, none] [] (SS m J P) (QV post) := by
  refine s_iload (pc := 38) rfl rfl ?_
  refine s_aload_n (pc := 40) rfl rfl ?_
  refine s_getA (pc := 41) rfl ko_262 (po_262_41 hp) ?_
  refine s_iload_n (pc := 44) rfl rfl ?_
  obtain ⟨hb1, hw⟩ := hw
  refine s_iald (pc := 45) rfl ka_284 (by decide) hb1 ?_
  obtain ⟨hz2, hw⟩ := hw
  obtain ⟨hz3, hw⟩ := hw
  refine s_ic_ge (pc := 46) (tgt := 137) rfl rfl hz2 hz3 (fun hc => ?_) (fun hc => ?_)
  · replace hw := hw.1 hc
    refine s_iload_n (pc := 137) rfl rfl ?_
    refine s_istore (pc := 138) (L' := [some (.ref 262), some (.int (iz x1)), some (.int (iz x2)), some (.int (iz x3)), some (.int (iz x4)), some (.int (iz x2)), none, none]) rfl (Nat.le_of_ble_eq_true rfl) rfl ?_
    exact hw
  · replace hw := hw.2 hc
    refine s_aload_n (pc := 49) rfl rfl ?_
    refine s_getA (pc := 50) rfl ko_262 (po_262_39 hp) ?_
    refine s_bipush (pc := 53) rfl (by decide) ?_
    refine s_iload_n (pc := 55) rfl rfl ?_
    refine s_imul (pc := 56) rfl ?_
    refine s_iload (pc := 57) rfl rfl ?_
    refine s_iadd (pc := 59) rfl ?_
    obtain ⟨hb4, hw⟩ := hw
    refine s_iald (pc := 60) rfl ka_282 (by decide) hb4 ?_
    refine s_istore (pc := 61) (L' := [some (.ref 262), some (.int (iz x1)), some (.int (iz x2)), some (.int (iz x3)), some (.int (iz x4)), some (.int (iz x5)), some (.int (iz (m 282 ((40 * x3) + x5).toNat))), none]) rfl (Nat.le_of_ble_eq_true rfl) rfl ?_
    refine s_iload (pc := 63) rfl rfl ?_
    obtain ⟨hz5, hw⟩ := hw
    refine s_if_lt (pc := 65) (tgt := 83) rfl rfl hz5 (fun hc => ?_) (fun hc => ?_)
    · replace hw := hw.1 hc
      refine s_aload_n (pc := 83) rfl rfl ?_
      refine s_getA (pc := 84) rfl ko_262 (po_262_65 hp) ?_
      refine s_iconst (pc := 87) rfl ?_
      refine s_iload (pc := 88) rfl rfl ?_
      refine s_isub (pc := 90) rfl ?_
      obtain ⟨hb6, hw⟩ := hw
      refine s_iald (pc := 91) rfl ka_300 (by decide) hb6 ?_
      refine s_istore (pc := 92) (L' := [some (.ref 262), some (.int (iz x1)), some (.int (iz x2)), some (.int (iz x3)), some (.int (iz x4)), some (.int (iz x5)), some (.int (iz (m 282 ((40 * x3) + x5).toNat))), some (.int (iz (m 300 (((-1)) - (m 282 ((40 * x3) + x5).toNat)).toNat)))]) rfl (Nat.le_of_ble_eq_true rfl) rfl ?_
      exact hw
    · replace hw := hw.2 hc
      refine s_aload_n (pc := 68) rfl rfl ?_
      obtain ⟨q7, hq7, kq7, hw⟩ := hw
      refine s_getA (pc := 69) rfl ko_262 hq7 ?_
      refine s_iload (pc := 72) rfl rfl ?_
      refine s_iinc (pc := 74) (L' := [some (.ref 262), some (.int (iz x1)), some (.int (iz x2)), some (.int (iz x3)), some (.int (iz (x4 + 1))), some (.int (iz x5)), some (.int (iz (m 282 ((40 * x3) + x5).toNat))), none]) rfl rfl (Nat.le_of_ble_eq_true rfl) rfl ?_
      refine s_iload (pc := 77) rfl rfl ?_
      obtain ⟨hb8, hw⟩ := hw
      refine s_iast (pc := 79) rfl kq7 (by decide) hb8 ?_
      refine s_goto (pc := 80) (tgt := 131) rfl rfl ?_
      refine s_iinc (pc := 131) (L' := [some (.ref 262), some (.int (iz x1)), some (.int (iz x2)), some (.int (iz x3)), some (.int (iz (x4 + 1))), some (.int (iz (x5 + 1))), some (.int (iz (m 282 ((40 * x3) + x5).toNat))), none]) rfl rfl (Nat.le_of_ble_eq_true rfl) rfl ?_
      refine s_goto (pc := 134) (tgt := 38) rfl rfl ?_
      exact Rn.weakL hw (LLe.keep _ (LLe.keep _ (LLe.keep _ (LLe.keep _ (LLe.keep _ (LLe.keep _ (LLe.drop _ (LLe.keep _ (LLe.nil)))))))))

set_option maxRecDepth 20000 in
set_option maxHeartbeats 4000000 in
theorem b_Mdl_replace_94 {X : aX} {d : Nat} (x1 : Int) (x2 : Int) (x3 : Int) (x4 : Int) (x5 : Int) (x6 : Int) (x7 : Int)  (m : Mi) (J : Mj) (P : Mp) (hp : PP P) (post : Mi → Mj → Mp → Prop)
    (hw : ((0 : Int) ≤ (((-1)) - x6) ∧ ((((-1)) - x6) : Int) < 8) ∧ Zr (x7) ∧ Zr (m 301 (((-1)) - x6).toNat) ∧ ((((m 301 (((-1)) - x6).toNat) ≤ x7) → Rn X d 180 38 [some (.ref 262), some (.int (iz x1)), some (.int (iz x2)), some (.int (iz x3)), some (.int (iz x4)), some (.int (iz (x5 + 1))), none, none] [] (SS m J P) (QV post)) ∧ (¬ ((m 301 (((-1)) - x6).toNat) ≤ x7) → (∃ q4, P 262 60 = some q4 ∧ am_kd an_K q4 = some (.inr (0, 201)) ∧ (∃ q5, P 262 59 = some q5 ∧ am_kd an_K q5 = some (.inr (0, 201)) ∧ ((0 : Int) ≤ x7 ∧ (x7 : Int) < 201) ∧ ((0 : Int) ≤ x4 ∧ (x4 : Int) < 201) ∧ Rn X d 180 94 [some (.ref 262), some (.int (iz x1)), some (.int (iz x2)), some (.int (iz x3)), some (.int (iz (x4 + 1))), some (.int (iz x5)), some (.int (iz x6)), some (.int (iz (x7 + 1)))] [] (SS (mu m q4 x4.toNat (m q5 x7.toNat)) J P) (QV post)))))) : Rn X d 180 94 [some (.ref 262), some (.int (iz x1)), some (.int (iz x2)), some (.int (iz x3)), some (.int (iz x4)), some (.int (iz x5)), some (.int (iz x6)), some (.int (iz x7))] [] (SS m J P) (QV post) := by
  refine s_iload (pc := 94) rfl rfl ?_
  refine s_aload_n (pc := 96) rfl rfl ?_
  refine s_getA (pc := 97) rfl ko_262 (po_262_66 hp) ?_
  refine s_iconst (pc := 100) rfl ?_
  refine s_iload (pc := 101) rfl rfl ?_
  refine s_isub (pc := 103) rfl ?_
  obtain ⟨hb1, hw⟩ := hw
  refine s_iald (pc := 104) rfl ka_301 (by decide) hb1 ?_
  obtain ⟨hz2, hw⟩ := hw
  obtain ⟨hz3, hw⟩ := hw
  refine s_ic_ge (pc := 105) (tgt := 131) rfl rfl hz2 hz3 (fun hc => ?_) (fun hc => ?_)
  · replace hw := hw.1 hc
    refine s_iinc (pc := 131) (L' := [some (.ref 262), some (.int (iz x1)), some (.int (iz x2)), some (.int (iz x3)), some (.int (iz x4)), some (.int (iz (x5 + 1))), some (.int (iz x6)), some (.int (iz x7))]) rfl rfl (Nat.le_of_ble_eq_true rfl) rfl ?_
    refine s_goto (pc := 134) (tgt := 38) rfl rfl ?_
    exact Rn.weakL hw (LLe.keep _ (LLe.keep _ (LLe.keep _ (LLe.keep _ (LLe.keep _ (LLe.keep _ (LLe.drop _ (LLe.drop _ (LLe.nil)))))))))
  · replace hw := hw.2 hc
    refine s_aload_n (pc := 108) rfl rfl ?_
    obtain ⟨q4, hq4, kq4, hw⟩ := hw
    refine s_getA (pc := 109) rfl ko_262 hq4 ?_
    refine s_iload (pc := 112) rfl rfl ?_
    refine s_iinc (pc := 114) (L' := [some (.ref 262), some (.int (iz x1)), some (.int (iz x2)), some (.int (iz x3)), some (.int (iz (x4 + 1))), some (.int (iz x5)), some (.int (iz x6)), some (.int (iz x7))]) rfl rfl (Nat.le_of_ble_eq_true rfl) rfl ?_
    refine s_aload_n (pc := 117) rfl rfl ?_
    obtain ⟨q5, hq5, kq5, hw⟩ := hw
    refine s_getA (pc := 118) rfl ko_262 hq5 ?_
    refine s_iload (pc := 121) rfl rfl ?_
    obtain ⟨hb6, hw⟩ := hw
    refine s_iald (pc := 123) rfl kq5 (by decide) hb6 ?_
    obtain ⟨hb7, hw⟩ := hw
    refine s_iast (pc := 124) rfl kq4 (by decide) hb7 ?_
    refine s_iinc (pc := 125) (L' := [some (.ref 262), some (.int (iz x1)), some (.int (iz x2)), some (.int (iz x3)), some (.int (iz (x4 + 1))), some (.int (iz x5)), some (.int (iz x6)), some (.int (iz (x7 + 1)))]) rfl rfl (Nat.le_of_ble_eq_true rfl) rfl ?_
    refine s_goto (pc := 128) (tgt := 94) rfl rfl ?_
    exact hw

set_option maxRecDepth 20000 in
set_option maxHeartbeats 4000000 in
theorem b_Mdl_replace_140 {X : aX} {d : Nat} (x1 : Int) (x2 : Int) (x3 : Int) (x4 : Int) (x5 : Int)  (m : Mi) (J : Mj) (P : Mp) (hp : PP P) (post : Mi → Mj → Mp → Prop)
    (hw : Zr (x5) ∧ Zr (m 262 61) ∧ ((((m 262 61) ≤ x5) → (∃ q3, P 262 59 = some q3 ∧ am_kd an_K q3 = some (.inr (0, 201)) ∧ (∃ q4, P 262 60 = some q4 ∧ am_kd an_K q4 = some (.inr (0, 201)) ∧ PP (mpu P 262 59 (some q4)) ∧ PP (mpu (mpu P 262 59 (some q4)) 262 60 (some q3)) ∧ post (mu m 262 61 x4) J (mpu (mpu P 262 59 (some q4)) 262 60 (some q3))))) ∧ (¬ ((m 262 61) ≤ x5) → (∃ q7, P 262 60 = some q7 ∧ am_kd an_K q7 = some (.inr (0, 201)) ∧ (∃ q8, P 262 59 = some q8 ∧ am_kd an_K q8 = some (.inr (0, 201)) ∧ ((0 : Int) ≤ x5 ∧ (x5 : Int) < 201) ∧ ((0 : Int) ≤ x4 ∧ (x4 : Int) < 201) ∧ Rn X d 180 140 [some (.ref 262), some (.int (iz x1)), some (.int (iz x2)), some (.int (iz x3)), some (.int (iz (x4 + 1))), some (.int (iz (x5 + 1))), none, none] [] (SS (mu m q7 x4.toNat (m q8 x5.toNat)) J P) (QV post)))))) : Rn X d 180 140 [some (.ref 262), some (.int (iz x1)), some (.int (iz x2)), some (.int (iz x3)), some (.int (iz x4)), some (.int (iz x5)), none, none] [] (SS m J P) (QV post) := by
  refine s_iload (pc := 140) rfl rfl ?_
  refine s_aload_n (pc := 142) rfl rfl ?_
  refine s_getI (pc := 143) rfl ko_262 ?_
  obtain ⟨hz1, hw⟩ := hw
  obtain ⟨hz2, hw⟩ := hw
  refine s_ic_ge (pc := 146) (tgt := 172) rfl rfl hz1 hz2 (fun hc => ?_) (fun hc => ?_)
  · replace hw := hw.1 hc
    refine s_aload_n (pc := 172) rfl rfl ?_
    obtain ⟨q3, hq3, kq3, hw⟩ := hw
    refine s_getA (pc := 173) rfl ko_262 hq3 ?_
    refine s_astore (pc := 176) (L' := [some (.ref 262), some (.int (iz x1)), some (.int (iz x2)), some (.int (iz x3)), some (.int (iz x4)), some (.ref q3), none, none]) rfl (Nat.le_of_ble_eq_true rfl) rfl ?_
    refine s_aload_n (pc := 178) rfl rfl ?_
    refine s_aload_n (pc := 179) rfl rfl ?_
    obtain ⟨q4, hq4, kq4, hw⟩ := hw
    refine s_getA (pc := 180) rfl ko_262 hq4 ?_
    refine s_putA (pc := 183) rfl ko_262 ?_
    obtain ⟨hp5, hw⟩ := hw
    refine s_aload_n (pc := 186) rfl rfl ?_
    refine s_aload (pc := 187) rfl rfl ?_
    refine s_putA (pc := 189) rfl ko_262 ?_
    obtain ⟨hp6, hw⟩ := hw
    refine s_aload_n (pc := 192) rfl rfl ?_
    refine s_iload (pc := 193) rfl rfl ?_
    refine s_putI (pc := 195) rfl ko_262 ?_
    exact s_retv (pc := 198) rfl rfl hw
  · replace hw := hw.2 hc
    refine s_aload_n (pc := 149) rfl rfl ?_
    obtain ⟨q7, hq7, kq7, hw⟩ := hw
    refine s_getA (pc := 150) rfl ko_262 hq7 ?_
    refine s_iload (pc := 153) rfl rfl ?_
    refine s_iinc (pc := 155) (L' := [some (.ref 262), some (.int (iz x1)), some (.int (iz x2)), some (.int (iz x3)), some (.int (iz (x4 + 1))), some (.int (iz x5)), none, none]) rfl rfl (Nat.le_of_ble_eq_true rfl) rfl ?_
    refine s_aload_n (pc := 158) rfl rfl ?_
    obtain ⟨q8, hq8, kq8, hw⟩ := hw
    refine s_getA (pc := 159) rfl ko_262 hq8 ?_
    refine s_iload (pc := 162) rfl rfl ?_
    obtain ⟨hb9, hw⟩ := hw
    refine s_iald (pc := 164) rfl kq8 (by decide) hb9 ?_
    obtain ⟨hb10, hw⟩ := hw
    refine s_iast (pc := 165) rfl kq7 (by decide) hb10 ?_
    refine s_iinc (pc := 166) (L' := [some (.ref 262), some (.int (iz x1)), some (.int (iz x2)), some (.int (iz x3)), some (.int (iz (x4 + 1))), some (.int (iz (x5 + 1))), none, none]) rfl rfl (Nat.le_of_ble_eq_true rfl) rfl ?_
    refine s_goto (pc := 169) (tgt := 140) rfl rfl ?_
    exact hw

set_option maxRecDepth 20000 in
set_option maxHeartbeats 4000000 in
theorem b_Mdl_fault_0 {X : aX} {d : Nat} (x1 : Int)  (m : Mi) (J : Mj) (P : Mp) (hp : PP P) (post : Int → Mi → Mj → Mp → Prop)
    (hw : Zr (x1) ∧ (((¬ x1 = 0) → Zr (x1) ∧ (((¬ x1 = 1) → post ((-1)) m J P) ∧ (¬ (¬ x1 = 1) → post (m 262 13) m J P))) ∧ (¬ (¬ x1 = 0) → post (m 262 12) m J P))) : Rn X d 181 0 [some (.ref 262), some (.int (iz x1))] [] (SS m J P) (QI post) := by
  refine s_iload_n (pc := 0) rfl rfl ?_
  obtain ⟨hz1, hw⟩ := hw
  refine s_if_ne (pc := 1) (tgt := 11) rfl rfl hz1 (fun hc => ?_) (fun hc => ?_)
  · replace hw := hw.1 hc
    refine s_iload_n (pc := 11) rfl rfl ?_
    refine s_iconst (pc := 12) rfl ?_
    obtain ⟨hz2, hw⟩ := hw
    refine s_ic_ne (pc := 13) (tgt := 23) rfl rfl hz2 (by decide) (fun hc => ?_) (fun hc => ?_)
    · replace hw := hw.1 hc
      refine s_iconst (pc := 23) rfl ?_
      exact s_reti (pc := 24) rfl rfl hw
    · replace hw := hw.2 hc
      refine s_aload_n (pc := 16) rfl rfl ?_
      refine s_getI (pc := 17) rfl ko_262 ?_
      refine s_goto (pc := 20) (tgt := 24) rfl rfl ?_
      exact s_reti (pc := 24) rfl rfl hw
  · replace hw := hw.2 hc
    refine s_aload_n (pc := 4) rfl rfl ?_
    refine s_getI (pc := 5) rfl ko_262 ?_
    refine s_goto (pc := 8) (tgt := 24) rfl rfl ?_
    exact s_reti (pc := 24) rfl rfl hw

set_option maxRecDepth 20000 in
set_option maxHeartbeats 4000000 in
theorem b_Mdl_count_0 {X : aX} {d : Nat} (x1 : Int)  (m : Mi) (J : Mj) (P : Mp) (hp : PP P) (post : Int → Mi → Mj → Mp → Prop)
    (hw : Zr (x1) ∧ (((x1 = 0) → post (m 262 34) m J P) ∧ ((x1 = 1) → post (m 262 35) m J P) ∧ ((x1 = 2) → post (m 262 44) m J P) ∧ ((x1 = 3) → post (m 262 46) m J P) ∧ ((x1 = 4) → post (m 262 47) m J P) ∧ ((x1 = 5) → post (m 262 136) m J P) ∧ ((x1 < 0 ∨ 5 < x1) → post ((-1)) m J P))) : Rn X d 182 0 [some (.ref 262), some (.int (iz x1))] [] (SS m J P) (QI post) := by
  refine s_iload_n (pc := 0) rfl rfl ?_
  obtain ⟨hz1, hw⟩ := hw
  by_cases hs0 : x1 = 0
  · replace hw := hw.1 hs0
    refine s_tsw_at (pc := 1) (v := 0) (tgt := 40) rfl hz1 hs0 (by decide) rfl rfl ?_
    refine s_aload_n (pc := 40) rfl rfl ?_
    refine s_getI (pc := 41) rfl ko_262 ?_
    exact s_reti (pc := 44) rfl rfl hw
  replace hw := hw.2
  by_cases hs1 : x1 = 1
  · replace hw := hw.1 hs1
    refine s_tsw_at (pc := 1) (v := 1) (tgt := 45) rfl hz1 hs1 (by decide) rfl rfl ?_
    refine s_aload_n (pc := 45) rfl rfl ?_
    refine s_getI (pc := 46) rfl ko_262 ?_
    exact s_reti (pc := 49) rfl rfl hw
  replace hw := hw.2
  by_cases hs2 : x1 = 2
  · replace hw := hw.1 hs2
    refine s_tsw_at (pc := 1) (v := 2) (tgt := 50) rfl hz1 hs2 (by decide) rfl rfl ?_
    refine s_aload_n (pc := 50) rfl rfl ?_
    refine s_getI (pc := 51) rfl ko_262 ?_
    exact s_reti (pc := 54) rfl rfl hw
  replace hw := hw.2
  by_cases hs3 : x1 = 3
  · replace hw := hw.1 hs3
    refine s_tsw_at (pc := 1) (v := 3) (tgt := 55) rfl hz1 hs3 (by decide) rfl rfl ?_
    refine s_aload_n (pc := 55) rfl rfl ?_
    refine s_getI (pc := 56) rfl ko_262 ?_
    exact s_reti (pc := 59) rfl rfl hw
  replace hw := hw.2
  by_cases hs4 : x1 = 4
  · replace hw := hw.1 hs4
    refine s_tsw_at (pc := 1) (v := 4) (tgt := 60) rfl hz1 hs4 (by decide) rfl rfl ?_
    refine s_aload_n (pc := 60) rfl rfl ?_
    refine s_getI (pc := 61) rfl ko_262 ?_
    exact s_reti (pc := 64) rfl rfl hw
  replace hw := hw.2
  by_cases hs5 : x1 = 5
  · replace hw := hw.1 hs5
    refine s_tsw_at (pc := 1) (v := 5) (tgt := 65) rfl hz1 hs5 (by decide) rfl rfl ?_
    refine s_aload_n (pc := 65) rfl rfl ?_
    refine s_getI (pc := 66) rfl ko_262 ?_
    exact s_reti (pc := 69) rfl rfl hw
  replace hw := hw.2
  have hs : x1 < 0 ∨ 5 < x1 := by omega
  replace hw := hw hs
  refine s_tsw_out (pc := 1) (tgt := 70) rfl hz1 hs rfl ?_
  refine s_iconst (pc := 70) rfl ?_
  exact s_reti (pc := 71) rfl rfl hw

set_option maxRecDepth 20000 in
set_option maxHeartbeats 4000000 in
theorem b_Mdl_pair_0 {X : aX} {d : Nat} (x1 : Int) (x2 : Int)  (m : Mi) (J : Mj) (P : Mp) (hp : PP P) (post : Int → Mi → Mj → Mp → Prop)
    (hw : Zr (x1) ∧ (((x1 < 0) → post ((-1)) m J P) ∧ (¬ (x1 < 0) → Zr (x1) ∧ Zr (m 262 45) ∧ (((x1 < (m 262 45)) → Zr (x2) ∧ (((x2 = 0) → ((0 : Int) ≤ x1 ∧ (x1 : Int) < 200) ∧ post (m 287 x1.toNat) m J P) ∧ ((x2 = 1) → ((0 : Int) ≤ x1 ∧ (x1 : Int) < 200) ∧ post (m 288 x1.toNat) m J P) ∧ ((x2 = 2) → ((0 : Int) ≤ x1 ∧ (x1 : Int) < 200) ∧ post (m 289 x1.toNat) m J P) ∧ ((x2 = 3) → ((0 : Int) ≤ x1 ∧ (x1 : Int) < 200) ∧ post (m 290 x1.toNat) m J P) ∧ ((x2 < 0 ∨ 3 < x2) → post ((-1)) m J P))) ∧ (¬ (x1 < (m 262 45)) → post ((-1)) m J P))))) : Rn X d 183 0 [some (.ref 262), some (.int (iz x1)), some (.int (iz x2))] [] (SS m J P) (QI post) := by
  refine s_iload_n (pc := 0) rfl rfl ?_
  obtain ⟨hz1, hw⟩ := hw
  refine s_if_lt (pc := 1) (tgt := 12) rfl rfl hz1 (fun hc => ?_) (fun hc => ?_)
  · replace hw := hw.1 hc
    refine s_iconst (pc := 12) rfl ?_
    exact s_reti (pc := 13) rfl rfl hw
  · replace hw := hw.2 hc
    refine s_iload_n (pc := 4) rfl rfl ?_
    refine s_aload_n (pc := 5) rfl rfl ?_
    refine s_getI (pc := 6) rfl ko_262 ?_
    obtain ⟨hz2, hw⟩ := hw
    obtain ⟨hz3, hw⟩ := hw
    refine s_ic_lt (pc := 9) (tgt := 14) rfl rfl hz2 hz3 (fun hc => ?_) (fun hc => ?_)
    · replace hw := hw.1 hc
      refine s_iload_n (pc := 14) rfl rfl ?_
      obtain ⟨hz4, hw⟩ := hw
      by_cases hs0 : x2 = 0
      · replace hw := hw.1 hs0
        refine s_tsw_at (pc := 15) (v := 0) (tgt := 44) rfl hz4 hs0 (by decide) rfl rfl ?_
        refine s_aload_n (pc := 44) rfl rfl ?_
        refine s_getA (pc := 45) rfl ko_262 (po_262_48 hp) ?_
        refine s_iload_n (pc := 48) rfl rfl ?_
        obtain ⟨hb5, hw⟩ := hw
        refine s_iald (pc := 49) rfl ka_287 (by decide) hb5 ?_
        exact s_reti (pc := 50) rfl rfl hw
      replace hw := hw.2
      by_cases hs1 : x2 = 1
      · replace hw := hw.1 hs1
        refine s_tsw_at (pc := 15) (v := 1) (tgt := 51) rfl hz4 hs1 (by decide) rfl rfl ?_
        refine s_aload_n (pc := 51) rfl rfl ?_
        refine s_getA (pc := 52) rfl ko_262 (po_262_49 hp) ?_
        refine s_iload_n (pc := 55) rfl rfl ?_
        obtain ⟨hb6, hw⟩ := hw
        refine s_iald (pc := 56) rfl ka_288 (by decide) hb6 ?_
        exact s_reti (pc := 57) rfl rfl hw
      replace hw := hw.2
      by_cases hs2 : x2 = 2
      · replace hw := hw.1 hs2
        refine s_tsw_at (pc := 15) (v := 2) (tgt := 58) rfl hz4 hs2 (by decide) rfl rfl ?_
        refine s_aload_n (pc := 58) rfl rfl ?_
        refine s_getA (pc := 59) rfl ko_262 (po_262_50 hp) ?_
        refine s_iload_n (pc := 62) rfl rfl ?_
        obtain ⟨hb7, hw⟩ := hw
        refine s_iald (pc := 63) rfl ka_289 (by decide) hb7 ?_
        exact s_reti (pc := 64) rfl rfl hw
      replace hw := hw.2
      by_cases hs3 : x2 = 3
      · replace hw := hw.1 hs3
        refine s_tsw_at (pc := 15) (v := 3) (tgt := 65) rfl hz4 hs3 (by decide) rfl rfl ?_
        refine s_aload_n (pc := 65) rfl rfl ?_
        refine s_getA (pc := 66) rfl ko_262 (po_262_51 hp) ?_
        refine s_iload_n (pc := 69) rfl rfl ?_
        obtain ⟨hb8, hw⟩ := hw
        refine s_iald (pc := 70) rfl ka_290 (by decide) hb8 ?_
        exact s_reti (pc := 71) rfl rfl hw
      replace hw := hw.2
      have hs : x2 < 0 ∨ 3 < x2 := by omega
      replace hw := hw hs
      refine s_tsw_out (pc := 15) (tgt := 72) rfl hz4 hs rfl ?_
      refine s_iconst (pc := 72) rfl ?_
      exact s_reti (pc := 73) rfl rfl hw
    · replace hw := hw.2 hc
      refine s_iconst (pc := 12) rfl ?_
      exact s_reti (pc := 13) rfl rfl hw

set_option maxRecDepth 20000 in
set_option maxHeartbeats 4000000 in
theorem b_Mdl_normal_0 {X : aX} {d : Nat} (x1 : Int)  (m : Mi) (J : Mj) (P : Mp) (hp : PP P) (post : Int → Mi → Mj → Mp → Prop)
    (hw : Zr (m 262 33) ∧ ((((m 262 33) = 0) → post ((-1)) m J P) ∧ (¬ ((m 262 33) = 0) → Zr (x1) ∧ (((x1 < 0) → post ((-1)) m J P) ∧ (¬ (x1 < 0) → Zr (x1) ∧ Zr (m 262 1) ∧ (((x1 ≤ (m 262 1)) → Ci X (d + 4) 185 [.ref 262, .int (iz x1), .int (iz 0)] m J P (fun z8 m5 J6 P7 => PP P7 ∧ Zr (z8) ∧ (((¬ z8 = 0) → Cv X (d + 4) 174 [.ref 262, .ref 341, .int (iz (m5 262 129))] m5 J6 P7 (fun m11 J12 P13 => PP P13 ∧ Ci X (d + 4) 175 [.ref 262] m11 J12 P13 (fun z19 m16 J17 P18 => PP P18 ∧ Zr (z19) ∧ (((z19 = 0) → Cv X (d + 4) 188 [.ref 262] m16 J17 P18 (fun m22 J23 P24 => PP P24 ∧ Rn X (d + 5) 184 73 [some (.ref 262), some (.int (iz x1)), some (.int (iz z19)), some (.int (iz 0))] [] (SS m22 J23 P24) (QI post))) ∧ (¬ (z19 = 0) → Zr (z19) ∧ (((¬ z19 = 1) → post ((-3)) m16 J17 P18) ∧ (¬ (¬ z19 = 1) → post ((-2)) m16 J17 P18))))))) ∧ (¬ (¬ z8 = 0) → post ((-4)) m5 J6 P7)))) ∧ (¬ (x1 ≤ (m 262 1)) → post ((-1)) m J P))))))) : Rn X (d + 5) 184 0 [some (.ref 262), some (.int (iz x1)), none, none] [] (SS m J P) (QI post) := by
  refine s_aload_n (pc := 0) rfl rfl ?_
  refine s_getZ (pc := 1) rfl ko_262 ?_
  obtain ⟨hz1, hw⟩ := hw
  refine s_if_eq (pc := 4) (tgt := 19) rfl rfl hz1 (fun hc => ?_) (fun hc => ?_)
  · replace hw := hw.1 hc
    refine s_iconst (pc := 19) rfl ?_
    exact s_reti (pc := 20) rfl rfl hw
  · replace hw := hw.2 hc
    refine s_iload_n (pc := 7) rfl rfl ?_
    obtain ⟨hz2, hw⟩ := hw
    refine s_if_lt (pc := 8) (tgt := 19) rfl rfl hz2 (fun hc => ?_) (fun hc => ?_)
    · replace hw := hw.1 hc
      refine s_iconst (pc := 19) rfl ?_
      exact s_reti (pc := 20) rfl rfl hw
    · replace hw := hw.2 hc
      refine s_iload_n (pc := 11) rfl rfl ?_
      refine s_aload_n (pc := 12) rfl rfl ?_
      refine s_getI (pc := 13) rfl ko_262 ?_
      obtain ⟨hz3, hw⟩ := hw
      obtain ⟨hz4, hw⟩ := hw
      refine s_ic_le (pc := 16) (tgt := 21) rfl rfl hz3 hz4 (fun hc => ?_) (fun hc => ?_)
      · replace hw := hw.1 hc
        refine s_aload_n (pc := 21) rfl rfl ?_
        refine s_iload_n (pc := 22) rfl rfl ?_
        refine s_iconst (pc := 23) rfl ?_
        refine s_ci (pc := 24) (d := (d + 4)) (t := []) rfl rfl (am_ca_v (ps := [.int (iz 0), .int (iz x1)]) rfl ko_262) (Nat.le_of_ble_eq_true rfl) (Ci.weak hw fun z8 m5 J6 P7 hw => ?_)
        obtain ⟨hp9, hw⟩ := hw
        obtain ⟨hz10, hw⟩ := hw
        refine s_if_ne (pc := 27) (tgt := 33) rfl rfl hz10 (fun hc => ?_) (fun hc => ?_)
        · replace hw := hw.1 hc
          refine s_aload_n (pc := 33) rfl rfl ?_
          refine s_aload_n (pc := 34) rfl rfl ?_
          refine s_getA (pc := 35) rfl ko_262 (po_262_127 hp9) ?_
          refine s_aload_n (pc := 38) rfl rfl ?_
          refine s_getI (pc := 39) rfl ko_262 ?_
          refine s_cv (pc := 42) (d := (d + 4)) (t := []) rfl rfl (am_ca_v (ps := [.int (iz (m5 262 129)), .ref 341]) rfl ko_262) (Nat.le_of_ble_eq_true rfl) (Cv.weak hw fun m11 J12 P13 hw => ?_)
          obtain ⟨hp15, hw⟩ := hw
          refine s_aload_n (pc := 45) rfl rfl ?_
          refine s_ci (pc := 46) (d := (d + 4)) (t := []) rfl rfl (am_ca_v (ps := []) rfl ko_262) (Nat.le_of_ble_eq_true rfl) (Ci.weak hw fun z19 m16 J17 P18 hw => ?_)
          obtain ⟨hp20, hw⟩ := hw
          refine s_istore_n (pc := 49) (L' := [some (.ref 262), some (.int (iz x1)), some (.int (iz z19)), none]) rfl (Nat.le_of_ble_eq_true rfl) rfl ?_
          refine s_iload_n (pc := 50) rfl rfl ?_
          obtain ⟨hz21, hw⟩ := hw
          refine s_if_eq (pc := 51) (tgt := 67) rfl rfl hz21 (fun hc => ?_) (fun hc => ?_)
          · replace hw := hw.1 hc
            refine s_aload_n (pc := 67) rfl rfl ?_
            refine s_cv (pc := 68) (d := (d + 4)) (t := []) rfl rfl (am_ca_v (ps := []) rfl ko_262) (Nat.le_of_ble_eq_true rfl) (Cv.weak hw fun m22 J23 P24 hw => ?_)
            obtain ⟨hp26, hw⟩ := hw
            refine s_iconst (pc := 71) rfl ?_
            refine s_istore_n (pc := 72) (L' := [some (.ref 262), some (.int (iz x1)), some (.int (iz z19)), some (.int (iz 0))]) rfl (Nat.le_of_ble_eq_true rfl) rfl ?_
            exact hw
          · replace hw := hw.2 hc
            refine s_iload_n (pc := 54) rfl rfl ?_
            refine s_iconst (pc := 55) rfl ?_
            obtain ⟨hz27, hw⟩ := hw
            refine s_ic_ne (pc := 56) (tgt := 64) rfl rfl hz27 (by decide) (fun hc => ?_) (fun hc => ?_)
            · replace hw := hw.1 hc
              refine s_bipush (pc := 64) rfl (by decide) ?_
              exact s_reti (pc := 66) rfl rfl hw
            · replace hw := hw.2 hc
              refine s_bipush (pc := 59) rfl (by decide) ?_
              refine s_goto (pc := 61) (tgt := 66) rfl rfl ?_
              exact s_reti (pc := 66) rfl rfl hw
        · replace hw := hw.2 hc
          refine s_bipush (pc := 30) rfl (by decide) ?_
          exact s_reti (pc := 32) rfl rfl hw
      · replace hw := hw.2 hc
        refine s_iconst (pc := 19) rfl ?_
        exact s_reti (pc := 20) rfl rfl hw

set_option maxRecDepth 20000 in
set_option maxHeartbeats 4000000 in
theorem b_Mdl_normal_73 {X : aX} {d : Nat} (x1 : Int) (x2 : Int) (x3 : Int)  (m : Mi) (J : Mj) (P : Mp) (hp : PP P) (post : Int → Mi → Mj → Mp → Prop)
    (hw : Zr (x3) ∧ Zr (m 262 17) ∧ ((((m 262 17) ≤ x3) → (∃ q3, P 262 59 = some q3 ∧ am_kd an_K q3 = some (.inr (0, 201)) ∧ Cv X (d + 4) 189 [.ref 262, .ref q3, .int (iz 0), .int (iz (m 262 61))] m J P (fun m4 J5 P6 => PP P6 ∧ post (m4 262 62) m4 J5 P6))) ∧ (¬ ((m 262 17) ≤ x3) → ((0 : Int) ≤ x3 ∧ (x3 : Int) < 8) ∧ ((0 : Int) ≤ x3 ∧ (x3 : Int) < 800) ∧ Rn X (d + 5) 184 73 [some (.ref 262), some (.int (iz x1)), some (.int (iz x2)), some (.int (iz (x3 + 1)))] [] (SS m (mju J 348 x3.toNat (J 266 x3.toNat)) P) (QI post)))) : Rn X (d + 5) 184 73 [some (.ref 262), some (.int (iz x1)), some (.int (iz x2)), some (.int (iz x3))] [] (SS m J P) (QI post) := by
  refine s_iload_n (pc := 73) rfl rfl ?_
  refine s_aload_n (pc := 74) rfl rfl ?_
  refine s_getI (pc := 75) rfl ko_262 ?_
  obtain ⟨hz1, hw⟩ := hw
  obtain ⟨hz2, hw⟩ := hw
  refine s_ic_ge (pc := 78) (tgt := 99) rfl rfl hz1 hz2 (fun hc => ?_) (fun hc => ?_)
  · replace hw := hw.1 hc
    refine s_aload_n (pc := 99) rfl rfl ?_
    refine s_aload_n (pc := 100) rfl rfl ?_
    obtain ⟨q3, hq3, kq3, hw⟩ := hw
    refine s_getA (pc := 101) rfl ko_262 hq3 ?_
    refine s_iconst (pc := 104) rfl ?_
    refine s_aload_n (pc := 105) rfl rfl ?_
    refine s_getI (pc := 106) rfl ko_262 ?_
    refine s_cv (pc := 109) (d := (d + 4)) (t := []) rfl rfl (am_ca_v (ps := [.int (iz (m 262 61)), .int (iz 0), .ref q3]) rfl ko_262) (Nat.le_of_ble_eq_true rfl) (Cv.weak hw fun m4 J5 P6 hw => ?_)
    obtain ⟨hp8, hw⟩ := hw
    refine s_aload_n (pc := 112) rfl rfl ?_
    refine s_getI (pc := 113) rfl ko_262 ?_
    exact s_reti (pc := 116) rfl rfl hw
  · replace hw := hw.2 hc
    refine s_aload_n (pc := 81) rfl rfl ?_
    refine s_getA (pc := 82) rfl ko_262 (po_262_137 hp) ?_
    refine s_iload_n (pc := 85) rfl rfl ?_
    refine s_aload_n (pc := 86) rfl rfl ?_
    refine s_getA (pc := 87) rfl ko_262 (po_262_20 hp) ?_
    refine s_iload_n (pc := 90) rfl rfl ?_
    obtain ⟨hb9, hw⟩ := hw
    refine s_lald (pc := 91) rfl ka_266 (by decide) hb9 ?_
    obtain ⟨hb10, hw⟩ := hw
    refine s_last (pc := 92) rfl ka_348 (by decide) hb10 ?_
    refine s_iinc (pc := 93) (L' := [some (.ref 262), some (.int (iz x1)), some (.int (iz x2)), some (.int (iz (x3 + 1)))]) rfl rfl (Nat.le_of_ble_eq_true rfl) rfl ?_
    refine s_goto (pc := 96) (tgt := 73) rfl rfl ?_
    exact hw
