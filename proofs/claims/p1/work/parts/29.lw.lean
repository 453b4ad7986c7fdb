/-! the law's loop -/
/-- one call of the class and the same of the reference: both end, with one answer, and K holds behind them -/
def Pr (X : aX) (d c1 c2 : Nat) (as : List Value) (m : Mi) (J : Mj) (P : Mp) (K : Mi → Mj → Mp → Prop) : Prop := Ci X d c1 (.ref 1 :: as) m J P (fun z1 m1 J1 P1 => PP P1 ∧ Ci X d c2 (.ref 262 :: as) m1 J1 P1 (fun z2 m2 J2 P2 => PP P2 ∧ Zr z1 ∧ Zr z2 ∧ z1 = z2 ∧ K m2 J2 P2))
theorem Pr.weak {X : aX} {d c1 c2 : Nat} {as : List Value} {m : Mi} {J : Mj} {P : Mp} {K K2 : Mi → Mj → Mp → Prop} (h : Pr X d c1 c2 as m J P K) (hk : ∀ m J P, K m J P → K2 m J P) : Pr X d c1 c2 as m J P K2 := Ci.weak h fun _ _ _ _ ⟨h1, h2⟩ => ⟨h1, h2.weak fun _ _ _ _ ⟨g1, g2, g3, g4, g5⟩ => ⟨g1, g2, g3, g4, hk _ _ _ g5⟩⟩
abbrev vi (x : Int) : Value := .int (iz x)
/-- what is owed of the calls: from a memory where I holds each pair of calls ends alike, with K behind it -/
def OPS (X : aX) (d : Nat) (I K : Mi → Mj → Mp → Prop) : Prop := ∀ m J P, I m J P → ∀ a1 a2 a3 a4 a5 : Int, Zr a1 → Zr a2 → Zr a3 → Zr a4 → Zr a5 →
  Pr X d 12 134 [vi a1, vi a2, vi a3, vi a4, vi a5] m J P K ∧
  Pr X d 14 136 [vi a1] m J P K ∧
  Pr X d 73 181 [vi a1] m J P K ∧
  Pr X d 74 182 [vi a1] m J P K ∧
  Pr X d 76 183 [vi a1, vi a2] m J P K ∧
  Pr X d 79 184 [vi a1] m J P K ∧
  Pr X d 90 194 [vi a1] m J P K ∧
  Pr X d 97 198 [vi a1, vi (if a2 = 0 then 0 else 1)] m J P K ∧
  Pr X d 105 203 [vi a1] m J P K ∧
  Pr X d 110 206 [vi a1] m J P K ∧
  Pr X d 112 207 [vi a1, vi a2] m J P K ∧
  Pr X d 118 209 [vi a1, vi a2] m J P K ∧
  Pr X d 122 213 [vi a1, vi a2] m J P K ∧
  Pr X d 125 215 [vi a1, vi a2] m J P K ∧
  Pr X d 131 216 [vi a1] m J P K
theorem law_loop (n0 : Nat) (xs : Nat → Int32) (hL : n0 ≤ 3072) (I : Int → Mi → Mj → Mp → Prop) (hPP : ∀ i m J P, I i m J P → PP P) (hstay : ∀ i m J P, I i m J P → i + 6 ≤ n0 → I (i + 6) m J P) (hop : ∀ i : Int, 0 ≤ i → i + 6 ≤ n0 → OPS (some (n0, xs)) 10 (I i) (I (i + 6))) : ∀ (k : Nat) (i : Int) (m : Mi) (J : Mj) (P : Mp), (n0 : Int) - i < k → 0 ≤ i → i ≤ 3078 → I i m J P → Rn (some (n0, xs)) 11 0 18 [some (.ref 0), some (.ref 1), some (.ref 262), some (.int (iz i))] [] (SS m J P) (QI fun z _ _ _ => z = 1) := by
  intro k
  induction k with
  | zero =>
    intro i m J P hk h0 h1 hI
    refine b_Law_law_18 n0 xs (by omega) (d := 2) i m J P (hPP _ _ _ _ hI) _ ⟨by constructor <;> omega, by constructor <;> omega, fun _ => rfl, fun h => ?_⟩
    exact absurd hk (by omega)
  | succ k ih =>
    intro i m J P hk h0 h1 hI
    refine b_Law_law_18 n0 xs (by omega) (d := 2) i m J P (hPP _ _ _ _ hI) _ ⟨by constructor <;> omega, by constructor <;> omega, fun _ => rfl, fun h => ⟨⟨by omega, by omega⟩, iz_zr _, ?_⟩⟩
    have h6 : i + 6 ≤ n0 := by omega
    have b1 : (0 : Int) ≤ i + 1 ∧ i + 1 < n0 := by omega
    have b2 : (0 : Int) ≤ i + 2 ∧ i + 2 < n0 := by omega
    have b3 : (0 : Int) ≤ i + 3 ∧ i + 3 < n0 := by omega
    have b4 : (0 : Int) ≤ i + 4 ∧ i + 4 < n0 := by omega
    have b5 : (0 : Int) ≤ i + 5 ∧ i + 5 < n0 := by omega
    have nx : ∀ m J P, I (i + 6) m J P → Rn (some (n0, xs)) (2 + 9) 0 569 [some (.ref 0), some (.ref 1), some (.ref 262), some (.int (iz i))] [] (SS m J P) (QI fun z _ _ _ => z = 1) := fun m J P hI' => b_Law_law_569 n0 xs (by omega) (d := 2) i m J P (hPP _ _ _ _ hI') _ (ih (i + 6) m J P (by omega) (by omega) (by omega) hI')
    obtain ⟨o0, o1, o2, o3, o4, o5, o6, o7, o8, o9, o10, o11, o12, o13, o14⟩ := hop i h0 h6 m J P hI (xs (i + 1).toNat).toInt (xs (i + 2).toNat).toInt (xs (i + 3).toNat).toInt (xs (i + 4).toNat).toInt (xs (i + 5).toNat).toInt (iz_zr _) (iz_zr _) (iz_zr _) (iz_zr _) (iz_zr _)
    refine ⟨fun _ => ?_, fun _ => ?_, fun _ => ?_, fun _ => ?_, fun _ => ?_, fun _ => ?_, fun _ => ?_, fun _ => ?_, fun _ => ?_, fun _ => ?_, fun _ => ?_, fun _ => ?_, fun _ => ?_, fun _ => ?_, fun _ => ?_, fun _ => nx m J P (hstay _ _ _ _ hI h6)⟩
    · exact ⟨b1, b2, b3, b4, b5, Ci.weak o0 fun z1 m1 J1 P1 ⟨hp1, h2⟩ => ⟨hp1, b1, b2, b3, b4, b5, Ci.weak h2 fun z2 m2 J2 P2 ⟨hp2, g1, g2, g3, g4⟩ => ⟨hp2, g1, g2, fun _ => nx _ _ _ g4, fun hne => absurd g3 hne⟩⟩⟩
    · exact ⟨b1, Ci.weak o1 fun z1 m1 J1 P1 ⟨hp1, h2⟩ => ⟨hp1, b1, Ci.weak h2 fun z2 m2 J2 P2 ⟨hp2, g1, g2, g3, g4⟩ => ⟨hp2, g1, g2, fun _ => nx _ _ _ g4, fun hne => absurd g3 hne⟩⟩⟩
    · exact ⟨b1, Ci.weak o2 fun z1 m1 J1 P1 ⟨hp1, h2⟩ => ⟨hp1, b1, Ci.weak h2 fun z2 m2 J2 P2 ⟨hp2, g1, g2, g3, g4⟩ => ⟨hp2, g1, g2, fun _ => nx _ _ _ g4, fun hne => absurd g3 hne⟩⟩⟩
    · exact ⟨b1, Ci.weak o3 fun z1 m1 J1 P1 ⟨hp1, h2⟩ => ⟨hp1, b1, Ci.weak h2 fun z2 m2 J2 P2 ⟨hp2, g1, g2, g3, g4⟩ => ⟨hp2, g1, g2, fun _ => nx _ _ _ g4, fun hne => absurd g3 hne⟩⟩⟩
    · exact ⟨b1, b2, Ci.weak o4 fun z1 m1 J1 P1 ⟨hp1, h2⟩ => ⟨hp1, b1, b2, Ci.weak h2 fun z2 m2 J2 P2 ⟨hp2, g1, g2, g3, g4⟩ => ⟨hp2, g1, g2, fun _ => nx _ _ _ g4, fun hne => absurd g3 hne⟩⟩⟩
    · exact ⟨b1, Ci.weak o5 fun z1 m1 J1 P1 ⟨hp1, h2⟩ => ⟨hp1, b1, Ci.weak h2 fun z2 m2 J2 P2 ⟨hp2, g1, g2, g3, g4⟩ => ⟨hp2, g1, g2, fun _ => nx _ _ _ g4, fun hne => absurd g3 hne⟩⟩⟩
    · exact ⟨b1, Ci.weak o6 fun z1 m1 J1 P1 ⟨hp1, h2⟩ => ⟨hp1, b1, Ci.weak h2 fun z2 m2 J2 P2 ⟨hp2, g1, g2, g3, g4⟩ => ⟨hp2, g1, g2, fun _ => nx _ _ _ g4, fun hne => absurd g3 hne⟩⟩⟩
    · refine ⟨b1, b2, iz_zr _, fun hz => ?_, fun hz => ?_⟩
      · rw [if_pos hz] at o7
        exact Ci.weak o7 fun z1 m1 J1 P1 ⟨hp1, h2⟩ => ⟨hp1, b1, b2, iz_zr _, fun _ => Ci.weak h2 fun z2 m2 J2 P2 ⟨hp2, g1, g2, g3, g4⟩ => ⟨hp2, g1, g2, fun _ => nx _ _ _ g4, fun hne => absurd g3 hne⟩, fun hn => absurd hz hn⟩
      · rw [if_neg hz] at o7
        exact Ci.weak o7 fun z1 m1 J1 P1 ⟨hp1, h2⟩ => ⟨hp1, b1, b2, iz_zr _, fun hn => absurd hn hz, fun _ => Ci.weak h2 fun z2 m2 J2 P2 ⟨hp2, g1, g2, g3, g4⟩ => ⟨hp2, g1, g2, fun _ => nx _ _ _ g4, fun hne => absurd g3 hne⟩⟩
    · exact ⟨b1, Ci.weak o8 fun z1 m1 J1 P1 ⟨hp1, h2⟩ => ⟨hp1, b1, Ci.weak h2 fun z2 m2 J2 P2 ⟨hp2, g1, g2, g3, g4⟩ => ⟨hp2, g1, g2, fun _ => nx _ _ _ g4, fun hne => absurd g3 hne⟩⟩⟩
    · exact ⟨b1, Ci.weak o9 fun z1 m1 J1 P1 ⟨hp1, h2⟩ => ⟨hp1, b1, Ci.weak h2 fun z2 m2 J2 P2 ⟨hp2, g1, g2, g3, g4⟩ => ⟨hp2, g1, g2, fun _ => nx _ _ _ g4, fun hne => absurd g3 hne⟩⟩⟩
    · exact ⟨b1, b2, Ci.weak o10 fun z1 m1 J1 P1 ⟨hp1, h2⟩ => ⟨hp1, b1, b2, Ci.weak h2 fun z2 m2 J2 P2 ⟨hp2, g1, g2, g3, g4⟩ => ⟨hp2, g1, g2, fun _ => nx _ _ _ g4, fun hne => absurd g3 hne⟩⟩⟩
    · exact ⟨b1, b2, Ci.weak o11 fun z1 m1 J1 P1 ⟨hp1, h2⟩ => ⟨hp1, b1, b2, Ci.weak h2 fun z2 m2 J2 P2 ⟨hp2, g1, g2, g3, g4⟩ => ⟨hp2, g1, g2, fun _ => nx _ _ _ g4, fun hne => absurd g3 hne⟩⟩⟩
    · exact ⟨b1, b2, Ci.weak o12 fun z1 m1 J1 P1 ⟨hp1, h2⟩ => ⟨hp1, b1, b2, Ci.weak h2 fun z2 m2 J2 P2 ⟨hp2, g1, g2, g3, g4⟩ => ⟨hp2, g1, g2, fun _ => nx _ _ _ g4, fun hne => absurd g3 hne⟩⟩⟩
    · exact ⟨b1, b2, Ci.weak o13 fun z1 m1 J1 P1 ⟨hp1, h2⟩ => ⟨hp1, b1, b2, Ci.weak h2 fun z2 m2 J2 P2 ⟨hp2, g1, g2, g3, g4⟩ => ⟨hp2, g1, g2, fun _ => nx _ _ _ g4, fun hne => absurd g3 hne⟩⟩⟩
    · exact ⟨b1, Ci.weak o14 fun z1 m1 J1 P1 ⟨hp1, h2⟩ => ⟨hp1, b1, Ci.weak h2 fun z2 m2 J2 P2 ⟨hp2, g1, g2, g3, g4⟩ => ⟨hp2, g1, g2, fun _ => nx _ _ _ g4, fun hne => absurd g3 hne⟩⟩⟩
