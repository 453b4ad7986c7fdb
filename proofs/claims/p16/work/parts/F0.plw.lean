/-! the law's loop of this part -/
theorem p_loop (n0 : Nat) (xs : Nat → Int32) (hL : n0 ≤ 3072) : ∀ (k : Nat) (i : Int) (m : Mi) (J : Mj) (P : Mp), (n0 : Int) - i < k → 0 ≤ i → i ≤ 3078 → IV (70000 * i) m J P → Rn (some (n0, xs)) 11 0 18 [some (.ref 0), some (.ref 1), some (.ref 262), some (.int (iz i))] [] (SS m J P) (QI fun z _ _ _ => z = 1) := by
  intro k
  induction k with
  | zero =>
    intro i m J P hk h0 h1 hI
    refine b_Law_law_18 n0 xs (by omega) (d := 2) i m J P (IV_PP hI) _ ⟨by constructor <;> omega, by constructor <;> omega, fun _ => rfl, fun h => ?_⟩
    exact absurd hk (by omega)
  | succ k ih =>
    intro i m J P hk h0 h1 hI
    refine b_Law_law_18 n0 xs (by omega) (d := 2) i m J P (IV_PP hI) _ ⟨by constructor <;> omega, by constructor <;> omega, fun _ => rfl, fun h => ⟨⟨by omega, by omega⟩, iz_zr _, ?_⟩⟩
    have h6 : i + 6 ≤ n0 := by omega
    have b1 : (0 : Int) ≤ i + 1 ∧ i + 1 < n0 := by omega
    have b2 : (0 : Int) ≤ i + 2 ∧ i + 2 < n0 := by omega
    have b3 : (0 : Int) ≤ i + 3 ∧ i + 3 < n0 := by omega
    have b4 : (0 : Int) ≤ i + 4 ∧ i + 4 < n0 := by omega
    have b5 : (0 : Int) ≤ i + 5 ∧ i + 5 < n0 := by omega
    have nx : ∀ m J P, IV (70000 * i + 400000) m J P → Rn (some (n0, xs)) (2 + 9) 0 569 [some (.ref 0), some (.ref 1), some (.ref 262), some (.int (iz i))] [] (SS m J P) (QI fun z _ _ _ => z = 1) := fun m J P hI' => b_Law_law_569 n0 xs (by omega) (d := 2) i m J P (IV_PP hI') _ (ih (i + 6) m J P (by omega) (by omega) (by omega) (IV_up hI' (by omega)))
    obtain ⟨o0, o1, o2, o3, o4, o5, o6, o7, o8, o9, o10, o11, o12, o13, o14⟩ := v_ops (X := some (n0, xs)) hI (by omega) (iz_zr (xs (i + 1).toNat)) (iz_zr (xs (i + 2).toNat)) (iz_zr (xs (i + 3).toNat)) (iz_zr (xs (i + 4).toNat)) (iz_zr (xs (i + 5).toNat))
    refine ⟨fun _ => ?_, fun _ => ?_, fun _ => ?_, fun _ => ?_, fun _ => ?_, fun _ => ?_, fun _ => ?_, fun _ => ?_, fun _ => ?_, fun _ => ?_, fun _ => ?_, fun _ => ?_, fun _ => ?_, fun _ => ?_, fun _ => ?_, fun _ => nx m J P (IV_up hI (by omega))⟩
    · exact ⟨b1, b2, b3, b4, b5, Ci.weak o0.toPw fun z1 m1 J1 P1 ⟨hp1, h2⟩ => ⟨hp1, b1, b2, b3, b4, b5, Ci.weak h2 fun z2 m2 J2 P2 ⟨hp2, g4⟩ => ⟨hp2, nx _ _ _ g4⟩⟩⟩
    · exact ⟨b1, Ci.weak o1.toPw fun z1 m1 J1 P1 ⟨hp1, h2⟩ => ⟨hp1, b1, Ci.weak h2 fun z2 m2 J2 P2 ⟨hp2, g4⟩ => ⟨hp2, nx _ _ _ g4⟩⟩⟩
    · exact ⟨b1, Ci.weak o2.toPw fun z1 m1 J1 P1 ⟨hp1, h2⟩ => ⟨hp1, b1, Ci.weak h2 fun z2 m2 J2 P2 ⟨hp2, g4⟩ => ⟨hp2, nx _ _ _ g4⟩⟩⟩
    · exact ⟨b1, Ci.weak o3.2 fun z1 m1 J1 P1 ⟨hp1, h2⟩ => ⟨hp1, b1, Ci.weak h2 fun z2 m2 J2 P2 ⟨hp2, g4⟩ => ⟨hp2, nx _ _ _ g4⟩⟩⟩
    · exact ⟨b1, b2, Ci.weak o4.toPw fun z1 m1 J1 P1 ⟨hp1, h2⟩ => ⟨hp1, b1, b2, Ci.weak h2 fun z2 m2 J2 P2 ⟨hp2, g4⟩ => ⟨hp2, nx _ _ _ g4⟩⟩⟩
    · exact ⟨b1, Ci.weak o5.toPw fun z1 m1 J1 P1 ⟨hp1, h2⟩ => ⟨hp1, b1, Ci.weak h2 fun z2 m2 J2 P2 ⟨hp2, g4⟩ => ⟨hp2, nx _ _ _ g4⟩⟩⟩
    · exact ⟨b1, Ci.weak o6.toPw fun z1 m1 J1 P1 ⟨hp1, h2⟩ => ⟨hp1, b1, Ci.weak h2 fun z2 m2 J2 P2 ⟨hp2, g4⟩ => ⟨hp2, nx _ _ _ g4⟩⟩⟩
    · refine ⟨b1, b2, iz_zr _, fun hz => ?_, fun hz => ?_⟩
      · rw [if_pos hz] at o7
        exact Ci.weak o7.toPw fun z1 m1 J1 P1 ⟨hp1, h2⟩ => ⟨hp1, b1, b2, iz_zr _, fun _ => Ci.weak h2 fun z2 m2 J2 P2 ⟨hp2, g4⟩ => ⟨hp2, nx _ _ _ g4⟩, fun hn => absurd hz hn⟩
      · rw [if_neg hz] at o7
        exact Ci.weak o7.toPw fun z1 m1 J1 P1 ⟨hp1, h2⟩ => ⟨hp1, b1, b2, iz_zr _, fun hn => absurd hn hz, fun _ => Ci.weak h2 fun z2 m2 J2 P2 ⟨hp2, g4⟩ => ⟨hp2, nx _ _ _ g4⟩⟩
    · exact ⟨b1, Ci.weak o8.toPw fun z1 m1 J1 P1 ⟨hp1, h2⟩ => ⟨hp1, b1, Ci.weak h2 fun z2 m2 J2 P2 ⟨hp2, g4⟩ => ⟨hp2, nx _ _ _ g4⟩⟩⟩
    · exact ⟨b1, Ci.weak o9.toPw fun z1 m1 J1 P1 ⟨hp1, h2⟩ => ⟨hp1, b1, Ci.weak h2 fun z2 m2 J2 P2 ⟨hp2, g4⟩ => ⟨hp2, nx _ _ _ g4⟩⟩⟩
    · exact ⟨b1, b2, Ci.weak o10.toPw fun z1 m1 J1 P1 ⟨hp1, h2⟩ => ⟨hp1, b1, b2, Ci.weak h2 fun z2 m2 J2 P2 ⟨hp2, g4⟩ => ⟨hp2, nx _ _ _ g4⟩⟩⟩
    · exact ⟨b1, b2, Ci.weak o11.toPw fun z1 m1 J1 P1 ⟨hp1, h2⟩ => ⟨hp1, b1, b2, Ci.weak h2 fun z2 m2 J2 P2 ⟨hp2, g4⟩ => ⟨hp2, nx _ _ _ g4⟩⟩⟩
    · exact ⟨b1, b2, Ci.weak o12.toPw fun z1 m1 J1 P1 ⟨hp1, h2⟩ => ⟨hp1, b1, b2, Ci.weak h2 fun z2 m2 J2 P2 ⟨hp2, g4⟩ => ⟨hp2, nx _ _ _ g4⟩⟩⟩
    · exact ⟨b1, b2, Ci.weak o13.toPw fun z1 m1 J1 P1 ⟨hp1, h2⟩ => ⟨hp1, b1, b2, Ci.weak h2 fun z2 m2 J2 P2 ⟨hp2, g4⟩ => ⟨hp2, nx _ _ _ g4⟩⟩⟩
    · exact ⟨b1, Ci.weak o14 fun z1 m1 J1 P1 ⟨hp1, h2⟩ => ⟨hp1, b1, Ci.weak h2 fun z2 m2 J2 P2 ⟨hp2, g1, g2, g3, g4⟩ => ⟨hp2, g1, g2, fun _ => nx _ _ _ g4, fun hne => absurd g3 hne⟩⟩⟩
/-- the claim -/
theorem p_claim {n0 : Nat} {xs : Nat → Int32} (hL : n0 ≤ 3072) : ∃ n τ, am (some (n0, xs)) an_ec an_mtf an_cd n 11 0 0 (am_en [.ref 0] 4) [] an_s0 = some (some (.int 1), τ) ∧ τ.1.length ≤ 600000 ∧ am_sz an_cl τ.1 ≤ 7302249 := by
  obtain ⟨n, r, h1, z, m, J, P, h2, h3, h4⟩ := law_start (p_loop n0 xs hL (n0 + 1) 0 an_m0 an_J0 an_P0 (by omega) (by omega) (by omega) an_iv0)
  subst h4
  obtain ⟨v, τ⟩ := r
  dsimp only at h2 h3
  subst h2; subst h3
  refine ⟨n, _, h1, ?_, ?_⟩
  · show an_K.length ≤ 600000
    decide +kernel
  · show am_sz an_cl an_K ≤ 7302249
    decide +kernel
