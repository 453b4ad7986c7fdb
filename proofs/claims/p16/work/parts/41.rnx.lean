/-! the reference's tokens -/
section RNX
variable {X : aX} {d : Nat} {m : Mi} {J : Mj} {P : Mp}
/-- behind the blanks -/
def sk (t : Int → Int) (n : Int) : Nat → Int → Int
  | 0, p => p
  | f + 1, p => if p < n ∧ (t p = 10 ∨ t p = 32) then sk t n f (p + 1) else p
/-- behind the word -/
def we (t : Int → Int) : Nat → Int → Int
  | 0, p => p
  | f + 1, p => if 0 < cd (t p) then we t f (p + 1) else p
/-- the number of a word of the reference -/
def nmR (t : Int → Int) (p : Int) : Nat → Int64
  | 0 => 0
  | k + 1 => Int64.ofNat 64 * nmR t p k + zi2l (cd (t (p + k)))
def tA (t : Int → Int) (n b : Int) : Int := sk t n (n - b).toNat b
def tW (t : Int → Int) (n p : Int) : Int := we t (n - p).toNat p
def tS (t : Int → Int) (n p : Int) : Int := if n ≤ p then 0 else if 48 ≤ t p ∧ t p ≤ 57 then 3 else if 0 < cd (t p) then (if 8 < tW t n p - p then 5 else if t p ≤ 90 then 2 else if nmR t p (tW t n p - p).toNat = 79437 then 6 else if nmR t p (tW t n p - p).toNat = 4805381 then 7 else 1) else if t p = 45 then (if t (p + 1) = 62 then 4 else 5) else if t p = 40 ∨ t p = 41 ∨ t p = 44 ∨ t p = 59 ∨ t p = 61 then 4 else 5
def tB (t : Int → Int) (n p : Int) : Int := if n ≤ p then p else if 48 ≤ t p ∧ t p ≤ 57 then p + 1 else if 0 < cd (t p) then tW t n p else if t p = 45 ∧ t (p + 1) = 62 then p + 2 else p + 1
theorem sk_le (t : Int → Int) (n : Int) : ∀ f p, p ≤ sk t n f p
  | 0, p => by simp [sk]
  | f + 1, p => by
    unfold sk
    split
    · have := sk_le t n f (p + 1)
      omega
    · omega
theorem sk_lt (t : Int → Int) (n : Int) : ∀ f p, p ≤ n → sk t n f p ≤ n
  | 0, p, h => by simpa [sk] using h
  | f + 1, p, h => by
    unfold sk
    split
    · rename_i g
      exact sk_lt t n f (p + 1) (by omega)
    · exact h
theorem we_le (t : Int → Int) : ∀ f p, p ≤ we t f p
  | 0, p => by simp [we]
  | f + 1, p => by
    unfold we
    split
    · have := we_le t f (p + 1)
      omega
    · omega
theorem we_lt (t : Int → Int) : ∀ f p, we t f p ≤ p + f
  | 0, p => by simp [we]
  | f + 1, p => by
    unfold we
    split
    · have := we_lt t f (p + 1)
      push_cast
      omega
    · push_cast
      omega
end RNX
