/-! a SYSTEM is judged: reference and class -/
section JAL
variable {X : aX} {d : Nat} {P : Mp} {b o sc base u : Nat} {Sn : Nat → Nat} {ar : Nat → Int} {n most : Int} {m : Mi} {J : Mj} {Z : Mi} {R : Nat → Mi}
noncomputable def jT (Sn : Nat → Nat) (sc : Nat) (ar : Nat → Int) (R : Nat → Mi) : Nat → Nat → Int × Int
  | 0, _ => (0, -1)
  | k + 1, u => if (jR Sn sc ar (R u)).1 ≠ 0 then jR Sn sc ar (R u) else jT Sn sc ar R k (u + 1)
noncomputable def jAll (Sn : Nat → Nat) (sc : Nat) (ar pl : Nat → Int) (R : Nat → Mi) (N : Nat) : Int × Int := if 0 ≤ jS Sn sc 0 then (4, pl (jS Sn sc 0).toNat) else jT Sn sc ar R N 0
theorem jR_bd (Z : Mi) : 0 ≤ (jR Sn sc ar Z).1 ∧ (jR Sn sc ar Z).1 ≤ 7 := by
  have := jN_bd (Sn := Sn) (sc := sc) ar Z (Z 0 3).toNat 0
  unfold jR
  (repeat' split)
  · omega
  · show (0 : Int) ≤ 7 ∧ (7 : Int) ≤ 7; decide
  · show (0 : Int) ≤ 7 ∧ (7 : Int) ≤ 7; decide
  · show (0 : Int) ≤ 0 ∧ (0 : Int) ≤ 7; decide
  · show (0 : Int) ≤ 7 ∧ (7 : Int) ≤ 7; decide
theorem jT_bd : ∀ k u, 0 ≤ (jT Sn sc ar R k u).1 ∧ (jT Sn sc ar R k u).1 ≤ 7
  | 0, u => by unfold jT; decide
  | k + 1, u => by
    have := jR_bd (Sn := Sn) (sc := sc) (ar := ar) (R u)
    have ih := jT_bd k (u + 1)
    unfold jT
    split
    · exact this
    · exact ih
theorem r_judgeRules {N : Nat} {bs : Nat → Nat} (hp : PP P) (hN16 : N ≤ 16) (hbs : ∀ v, v < N → bs v + 80 ≤ 2000) (hm : most ≤ 8) (hn : n ≤ 1600) (hZ : ∀ v, v < N → yZ n most (R v)) {m0 : Mi} {post : Mi → Mj → Mp → Prop} : ∀ (k u : Nat) (m : Mi), u + k = N → RN sc Sn ar m J → m 262 15 = N → (∀ v, v < N → RR v (bs v) (R v) m J) → m 262 10 = 0 → jF m0 m → ((jT Sn sc ar R k u).1 = 0 → ∀ m', m' 262 10 = 0 → jF m0 m' → post m' J P) → ((jT Sn sc ar R k u).1 ≠ 0 → ∀ m', m' 262 10 = (jT Sn sc ar R k u).1 → m' 262 11 = (jT Sn sc ar R k u).2 → jF m0 m' → post m' J P) → Rn X (d + 4) 149 54 [some (.ref 262), some (.int (iz (u : Int)))] [] (SS m J P) (QV post) := by
  intro k
  induction k with
  | zero =>
    intro u m hu hRN h15 hRR h10 hf k1 k2
    exact b_Mdl_judgeSystem_54 u m J P hp post ⟨by constructor <;> omega, by rw [h15]; constructor <;> omega, fun _ => k1 rfl m h10 hf, fun h => absurd (by rw [h15]; omega) h⟩
  | succ k ih =>
    intro u m hu hRN h15 hRR h10 hf k1 k2
    have bR := jR_bd (Sn := Sn) (sc := sc) (ar := ar) (R u)
    refine b_Mdl_judgeSystem_54 u m J P hp post ⟨by constructor <;> omega, by rw [h15]; constructor <;> omega, fun h => absurd h (by rw [h15]; omega), fun _ => ⟨by rw [h10]; exact zr0, fun h => absurd h10 h, fun _ => ?_⟩⟩
    refine r_judgeRule hp (by omega) (hbs u (by omega)) (hZ u (by omega)) hm hn hRN (hRR u (by omega)) h10 (fun g m1 q1 q2 => ⟨hp, ?_⟩) (fun g m1 q1 q2 q3 => ⟨hp, ?_⟩)
    · have e : jT Sn sc ar R (k + 1) u = jT Sn sc ar R k (u + 1) := by rw [jT, if_neg (fun h => h g)]
      rw [e] at k1 k2
      exact ih (u + 1) m1 (by omega) (RN_j hRN q2) ((q2 _ _ (by decide) (by decide)).trans h15) (fun v hv => RR_j (hRR v hv) q2) q1 (jF_trans hf q2) k1 k2
    · have e : jT Sn sc ar R (k + 1) u = jR Sn sc ar (R u) := by rw [jT, if_pos g]
      rw [e] at k2
      have done := k2 g m1 q1 q2 (jF_trans hf q3)
      have h15' : m1 262 15 = N := (q3 _ _ (by decide) (by decide)).trans h15
      exact b_Mdl_judgeSystem_54 _ m1 J P hp post ⟨by constructor <;> omega, by rw [h15']; constructor <;> omega, fun _ => done, fun _ => ⟨by rw [q1]; constructor <;> omega, fun _ => done, fun h => absurd (fun e => g (q1.symm.trans e)) h⟩⟩
theorem r_judgeSystem {N : Nat} {bs : Nat → Nat} {pl : Nat → Int} (hp : PP P) (hN16 : N ≤ 16) (hbs : ∀ v, v < N → bs v + 80 ≤ 2000) (hm : most ≤ 8) (hn : n ≤ 1600) (hZ : ∀ v, v < N → yZ n most (R v)) (hRN : RN sc Sn ar m J) (hpl : ∀ i : Nat, i < sc → m 267 i = pl i) (h15 : m 262 15 = N) (hRR : ∀ v, v < N → RR v (bs v) (R v) m J) (h10 : m 262 10 = 0) {post : Mi → Mj → Mp → Prop} (k1 : (jAll Sn sc ar pl R N).1 = 0 → ∀ m', m' 262 10 = 0 → jF m m' → post m' J P) (k2 : (jAll Sn sc ar pl R N).1 ≠ 0 → ∀ m', m' 262 10 = (jAll Sn sc ar pl R N).1 → m' 262 11 = (jAll Sn sc ar pl R N).2 → jF m m' → post m' J P) : Cv X (d + 4) 149 [.ref 262] m J P post := by
  have jb := jS_bd Sn sc 0
  refine Cv.of rfl rfl rfl (b_Mdl_judgeSystem_0 m J P hp post (r_judgeSym hp hRN.1.1 hRN.1.2 hRN.2.1 h10 sc 0 (by omega) (fun g => ?_) (fun g => ?_)))
  · have e : jAll Sn sc ar pl R N = jT Sn sc ar R N 0 := by rw [jAll, if_neg (by omega)]
    rw [e] at k1 k2
    exact r_judgeRules hp hN16 hbs hm hn hZ N 0 m (by omega) hRN h15 hRR h10 jF_refl k1 k2
  · have e : jAll Sn sc ar pl R N = (4, pl (jS Sn sc 0).toNat) := by rw [jAll, if_pos g]
    rw [e] at k2
    rw [hpl _ (by omega)]
    have q10 : mu (mu m 262 10 4) 262 11 (pl (jS Sn sc 0).toNat) 262 10 = 4 := by rw [mu_ne _ _ (by decide), mu_at]
    have q15 : mu (mu m 262 10 4) 262 11 (pl (jS Sn sc 0).toNat) 262 15 = N := by rw [mu_ne _ _ (by decide), mu_ne _ _ (by decide)]; exact h15
    have done := k2 (show (4 : Int) ≠ 0 by decide) _ q10 (mu_at _ _ _ _) jF_bad
    exact b_Mdl_judgeSystem_54 _ _ J P hp post ⟨by constructor <;> omega, by rw [q15]; constructor <;> omega, fun _ => done, fun _ => ⟨by rw [q10]; constructor <;> decide, fun _ => done, fun h => absurd (by rw [q10]; decide) h⟩⟩
theorem AC_Z (hZ : yZ n most Z) (hm : most ≤ 8) (hs : sc ≤ 16) (hQ : EQ o Sn sc Z m J) (hN : (jN Sn sc ar Z (Z 0 3).toNat 0).1 = 0) : AC o (Z 0 7).toNat (Z 0 3).toNat (cdZ Sn sc Z) (nxY Z) m := by
  have h1 := hZ.1
  refine ⟨⟨by rw [hQ.2.1]; omega, by rw [hQ.1.1]; omega⟩, fun c hc => ?_⟩
  have q := hQ.1.2.1 c (by omega)
  have z := (hZ.2.2.1 c (by omega)).1
  refine ⟨?_, by rw [q.2.1]; unfold nxY; omega⟩
  rw [q.1, ce, cdZ]
  by_cases v : 0 ≤ Z 1 c
  · rw [if_pos v, if_pos v]
  · rw [if_neg v, if_neg v, sy, if_neg]
    have := (jN_ok _ 0 hN c (Nat.zero_le _) (by omega) (by omega)).1
    omega
theorem c_checkRule (hp : PP P) (ko : am_kd an_K o = some (.inl 8)) (ho : 39 ≤ o) (hZ : yZ n most Z) (hm : most ≤ 8) (hn : n ≤ 1600) (hs : sc ≤ 16) (hA : ∀ i : Nat, i < sc → 0 ≤ ar i ∧ ar i ≤ 4) (hQ : EQ o Sn sc Z m J) (hN : (jN Sn sc ar Z (Z 0 3).toNat 0).1 = 0) {post : Int → Mi → Mj → Mp → Prop} (k1 : (jR Sn sc ar Z).1 = 0 → ∀ m', (∀ a k, a ≠ 6 → m' a k = m a k) → post 1 m' J P) (k2 : (jR Sn sc ar Z).1 ≠ 0 → ∀ m', m' 4 3 = (jR Sn sc ar Z).1 → m' 4 4 = (jR Sn sc ar Z).2 → (∀ a k, a ≠ 6 → a ≠ 4 → m' a k = m a k) → post 0 m' J P) : Ci X (d + 4) 41 [.ref 4, .ref o] m J P post := by
  have h1 := hZ.1
  have hAC := AC_Z hZ hm hs hQ hN
  have hRw := Rw_Z hZ hm hs hA hN
  have hLE := Rw_LE hRw
  have e0 : (0 : Int).toNat = 0 := rfl
  have ejR : jR Sn sc ar Z = if 0 ≤ Z 1 0 then (7, Z 3 0) else if 0 ≤ jV Z ((Z 0 3).toNat - (Z 0 7).toNat) (Z 0 7).toNat then (7, Z 3 (jV Z ((Z 0 3).toNat - (Z 0 7).toNat) (Z 0 7).toNat).toNat) else @ite _ (abT (cdZ Sn sc Z) (nxY Z) (ptY Z) (Z 0 3).toNat 0 (Z 0 7).toNat) (Classical.propDecidable _) (0, -1) (7, Z 0 9) := by rw [jR, if_neg (fun h => h hN)]
  have cb := cdZ_bd hZ hm hs hN (c := 0) (by omega)
  have p3 : ∀ c : Nat, (c : Int) < Z 0 3 → m (o + 3) c = Z 3 c := fun c hc => (hQ.1.2.1 c hc).2.2
  have refuse : ∀ p : Int, jR Sn sc ar Z = (7, p) → post 0 (mu (mu m 4 3 7) 4 4 p) J P := fun p e => by
    rw [e] at k2
    exact k2 (show (7 : Int) ≠ 0 by decide) _ (by rw [mu_ne _ _ (by decide), mu_at]) (mu_at _ _ _ _) (fun a k _ h => by rw [mu_ne _ _ (by omega), mu_ne _ _ (by omega)])
  refine Ci.of rfl rfl rfl (b_Reader_checkRule_0 o ko m J P hp post ⟨by decide, ?_⟩)
  rw [e0, (hAC.2 0 (by omega)).1, p3 0 (by omega)]
  refine ⟨by constructor <;> omega, fun v => ?_, fun v => ⟨by decide, c_refuse hp ⟨hp, Or.inl rfl, refuse _ (by rw [ejR, if_pos (cb.2.1 (by omega))])⟩⟩⟩
  have v1 := (cb.2.2 v).1
  rw [if_neg (by omega)] at ejR
  have loop : ∀ (q c : Nat), c + q = (Z 0 3).toNat → (Z 0 7).toNat ≤ c → (jV Z q c < 0 → Rn X (d + 4) 41 27 [some (.ref 4), some (.ref o), some (.int (iz (Z 0 3)))] [] (SS m J P) (QI post)) → (0 ≤ jV Z q c → post 0 (mu (mu m 4 3 7) 4 4 (Z 3 (jV Z q c).toNat)) J P) → Rn X (d + 4) 41 27 [some (.ref 4), some (.ref o), some (.int (iz (c : Int)))] [] (SS m J P) (QI post) := by
    intro q
    induction q with
    | zero =>
      intro c hc hl w1 w2
      have := w1 (show (-1 : Int) < 0 by decide)
      rw [show Z 0 3 = ((c : Nat) : Int) by omega] at this
      exact this
    | succ q ih =>
      intro c hc hl w1 w2
      have ec : ((c : Nat) : Int).toNat = c := by omega
      have cc := cdZ_bd hZ hm hs hN (c := c) (by omega)
      have bc := (hZ.2.2.1 c (by omega)).2.2.1
      have hcd : ¬ (-1 - cdZ Sn sc Z c < Z 0 8) ↔ Z 0 8 ≤ Z 1 c := by
        by_cases g : 0 ≤ cdZ Sn sc Z c
        · have := (cc.2.2 g).1
          constructor <;> intro h <;> omega
        · have := cc.2.1 (by omega)
          unfold cdZ at g ⊢
          rw [if_pos this] at g ⊢
          constructor <;> intro h <;> omega
      refine b_Reader_checkRule_27 o c ko m J P hp post ⟨by constructor <;> omega, by rw [hQ.1.1]; constructor <;> omega, fun h => absurd h (by rw [hQ.1.1]; omega), fun _ => ⟨by omega, ?_⟩⟩
      rw [ec, (hAC.2 c (by omega)).1, p3 c (by omega), hQ.2.2.1]
      refine ⟨by constructor <;> omega, by constructor <;> omega, fun h => ?_, fun h => ⟨by omega, c_refuse hp ⟨hp, Or.inl rfl, ?_⟩⟩⟩
      · have e : jV Z (q + 1) c = jV Z q (c + 1) := by rw [jV, if_neg (fun g => hcd.mpr g h)]
        rw [e] at w1 w2
        exact ih (c + 1) (by omega) (by omega) w1 w2
      · have e : jV Z (q + 1) c = c := by rw [jV, if_pos (hcd.mp h)]
        rw [e, ec] at w2
        exact w2 (by omega)
  have jv := jV_bd Z ((Z 0 3).toNat - (Z 0 7).toNat) (Z 0 7).toNat
  rw [hQ.2.1]
  have := loop ((Z 0 3).toNat - (Z 0 7).toNat) (Z 0 7).toNat (by omega) (Nat.le_refl _) (fun w => ?_) (fun w => refuse _ (by rw [ejR, if_pos w]))
  · rw [show (((Z 0 7).toNat : Nat) : Int) = Z 0 7 by omega] at this
    exact this
  · rw [if_neg (by omega)] at ejR
    refine b_Reader_checkRule_27 o _ ko m J P hp post ⟨by constructor <;> omega, by rw [hQ.1.1]; constructor <;> omega, fun _ => ?_, fun h => absurd (by rw [hQ.1.1]; omega) h⟩
    refine c_isAbove hp ko ho hRw (by omega) (by omega) hAC (fun g m' h => ⟨hp, zr1, fun _ => ?_, fun h => absurd (by decide) h⟩) (fun g m' h => ⟨hp, zr0, fun h => absurd rfl h, fun _ => ?_⟩)
    · rw [if_pos g] at ejR
      rw [ejR] at k1
      exact k1 rfl m' h
    · rw [if_neg g] at ejR
      rw [h _ _ (by omega), hQ.2.2.2]
      rw [ejR] at k2
      exact c_refuse hp ⟨hp, zr0, fun _ => k2 (show (7 : Int) ≠ 0 by decide) _ (by rw [mu_ne _ _ (by decide), mu_at]) (mu_at _ _ _ _) (fun a k w1 w2 => by rw [mu_ne _ _ (by omega), mu_ne _ _ (by omega)]; exact h a k w1), fun h => absurd rfl h⟩
end JAL
