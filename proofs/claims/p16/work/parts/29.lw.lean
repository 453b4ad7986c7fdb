/-! the law's loop -/
/-- one call of the class and the same of the reference: both end, with one answer, and K holds behind them -/
def Pr (X : aX) (d c1 c2 : Nat) (as : List Value) (m : Mi) (J : Mj) (P : Mp) (K : Mi → Mj → Mp → Prop) : Prop := Ci X d c1 (.ref 1 :: as) m J P (fun z1 m1 J1 P1 => PP P1 ∧ Ci X d c2 (.ref 262 :: as) m1 J1 P1 (fun z2 m2 J2 P2 => PP P2 ∧ Zr z1 ∧ Zr z2 ∧ z1 = z2 ∧ K m2 J2 P2))
theorem Pr.weak {X : aX} {d c1 c2 : Nat} {as : List Value} {m : Mi} {J : Mj} {P : Mp} {K K2 : Mi → Mj → Mp → Prop} (h : Pr X d c1 c2 as m J P K) (hk : ∀ m J P, K m J P → K2 m J P) : Pr X d c1 c2 as m J P K2 := Ci.weak h fun _ _ _ _ ⟨h1, h2⟩ => ⟨h1, h2.weak fun _ _ _ _ ⟨g1, g2, g3, g4, g5⟩ => ⟨g1, g2, g3, g4, hk _ _ _ g5⟩⟩
abbrev vi (x : Int) : Value := .int (iz x)
/-- what is owed of the calls: from a memory where I holds each pair of calls ends alike, with K behind it -/
def OPS (X : aX) (d : Nat) (I K : Mi → Mj → Mp → Prop) : Prop := ∀ m J P, I m J P → ∀ a1 a2 a3 a4 a5 : Int, Zr a1 → Zr a2 → Zr a3 → Zr a4 → Zr a5 →
  Pr X d 12 134 [vi a1, vi a2, vi a3, vi a4, vi a5] m J P K ∧
  Pr X d 14 136 [vi a1] m J P K ∧
  Pr X d 73 181 [vi a1] m J P K ∧
  Pr X d 74 182 [vi a1] m J P K ∧
  Pr X d 76 183 [vi a1, vi a2] m J P K ∧
  Pr X d 79 184 [vi a1] m J P K ∧
  Pr X d 90 194 [vi a1] m J P K ∧
  Pr X d 97 198 [vi a1, vi (if a2 = 0 then 0 else 1)] m J P K ∧
  Pr X d 105 203 [vi a1] m J P K ∧
  Pr X d 110 206 [vi a1] m J P K ∧
  Pr X d 112 207 [vi a1, vi a2] m J P K ∧
  Pr X d 118 209 [vi a1, vi a2] m J P K ∧
  Pr X d 122 213 [vi a1, vi a2] m J P K ∧
  Pr X d 125 215 [vi a1, vi a2] m J P K ∧
  Pr X d 131 216 [vi a1] m J P K
