/-! names: the class's and the reference's numbers of one word say the same -/
section NAM
def vR (t : Int → Int) (p : Int) : Nat → Nat
  | 0 => 0
  | k + 1 => 64 * vR t p k + (cd (t (p + k))).toNat
def vC (t : Int → Int) (p : Int) : Nat → Nat
  | 0 => 0
  | k + 1 => 256 * vC t p k + (t (p + k)).toNat
theorem zi2l_small {x : Int} (h : 0 ≤ x ∧ x ≤ 255) : zi2l x = Int64.ofNat x.toNat := by
  have hk : ((List.range 256).all fun n => decide (zi2l (n : Int) = Int64.ofNat n)) = true := by decide +kernel
  have := of_decide_eq_true (List.all_eq_true.mp hk x.toNat (List.mem_range.mpr (by omega)))
  rw [show ((x.toNat : Nat) : Int) = x by omega] at this
  exact this
theorem nmR_v (t : Int → Int) (p : Int) : ∀ k, nmR t p k = Int64.ofNat (vR t p k)
  | 0 => rfl
  | k + 1 => by
    have h := cd_bd (t (p + k))
    rw [nmR, vR, nmR_v t p k, zi2l_small (by omega), Int64.ofNat_add, Int64.ofNat_mul]
theorem shl8 {v c : Nat} (hv : v < 2 ^ 56) (hc : c < 256) : (Int64.ofNat v <<< ((iz 8).toInt64 &&& 63)) ||| Int64.ofNat c = Int64.ofNat (256 * v + c) := by
  have e8 : ((iz 8).toInt64 &&& 63) = 8 := by decide +kernel
  rw [e8]
  apply Int64.toBitVec_inj.mp
  show ((Int64.ofNat v <<< 8).toBitVec ||| (Int64.ofNat c).toBitVec) = (Int64.ofNat (256 * v + c)).toBitVec
  have e1 : (Int64.ofNat v <<< 8).toBitVec = BitVec.ofNat 64 v <<< 8 := by
    rw [Int64.toBitVec_shiftLeft]
    rfl
  rw [e1]
  show (BitVec.ofNat 64 v <<< 8 ||| BitVec.ofNat 64 c) = BitVec.ofNat 64 (256 * v + c)
  apply BitVec.eq_of_toNat_eq
  rw [BitVec.toNat_or, BitVec.toNat_shiftLeft, BitVec.toNat_ofNat, BitVec.toNat_ofNat, BitVec.toNat_ofNat, Nat.shiftLeft_eq]
  have h1 : v % 2 ^ 64 = v := Nat.mod_eq_of_lt (by omega)
  have h2 : c % 2 ^ 64 = c := Nat.mod_eq_of_lt (by omega)
  have h3 : (256 * v + c) % 2 ^ 64 = 256 * v + c := Nat.mod_eq_of_lt (by omega)
  have h4 : v * 2 ^ 8 % 2 ^ 64 = 2 ^ 8 * v := by rw [Nat.mod_eq_of_lt (by omega), Nat.mul_comm]
  rw [h1, h2, h3, h4, ← Nat.two_pow_add_eq_or_of_lt (i := 8) (by omega)]
theorem vC_lt {t : Int → Int} (ht : ∀ x, 0 ≤ t x ∧ t x ≤ 255) (p : Int) : ∀ k, vC t p k < 256 ^ k
  | 0 => by simp [vC]
  | k + 1 => by
    have h := ht (p + k)
    have ih := vC_lt ht p k
    rw [vC, Nat.pow_succ]
    omega
theorem vR_lt (t : Int → Int) (p : Int) : ∀ k, vR t p k < 64 ^ k
  | 0 => by simp [vR]
  | k + 1 => by
    have h := cd_bd (t (p + k))
    have ih := vR_lt t p k
    rw [vR, Nat.pow_succ]
    omega
theorem nmC_v {t : Int → Int} (ht : ∀ x, 0 ≤ t x ∧ t x ≤ 255) (p : Int) : ∀ k, k ≤ 8 → nmC t p k = Int64.ofNat (vC t p k)
  | 0, _ => rfl
  | k + 1, hk => by
    have h := ht (p + k)
    have h1 := vC_lt ht p k
    have h2 : 256 ^ k ≤ 256 ^ 7 := Nat.pow_le_pow_right (by decide) (by omega)
    rw [nmC, vC, nmC_v ht p k (by omega), zi2l_small h, shl8 (Nat.lt_of_lt_of_le h1 h2) (by omega)]
theorem ofNat_inj64 {a b : Nat} (ha : a < 2 ^ 64) (hb : b < 2 ^ 64) (h : Int64.ofNat a = Int64.ofNat b) : a = b := by
  have h1 : (BitVec.ofNat 64 a) = BitVec.ofNat 64 b := congrArg Int64.toBitVec h
  have h2 := congrArg BitVec.toNat h1
  rw [BitVec.toNat_ofNat, BitVec.toNat_ofNat, Nat.mod_eq_of_lt ha, Nat.mod_eq_of_lt hb] at h2
  exact h2
theorem cd_inj {a b : Int} (h : cd a = cd b) (ha : 0 < cd a) : a = b := by
  revert h ha
  unfold cd
  (repeat' split) <;> omega
/-- two words are one -/
def one_word (t : Int → Int) (p : Int) (k : Nat) (u : Int → Int) (q : Int) (j : Nat) : Prop := k = j ∧ ∀ i : Nat, i < k → t (p + i) = u (q + i)
theorem vR_inj {t u : Int → Int} {p q : Int} : ∀ k j, (∀ i : Nat, i < k → 0 < cd (t (p + i))) → (∀ i : Nat, i < j → 0 < cd (u (q + i))) → vR t p k = vR u q j → one_word t p k u q j
  | 0, 0, _, _, _ => ⟨rfl, fun i h => absurd h (by omega)⟩
  | 0, j + 1, _, hu, h => by
    have h1 := hu j (by omega)
    rw [vR, vR] at h
    omega
  | k + 1, 0, ht, _, h => by
    have h1 := ht k (by omega)
    rw [vR, vR] at h
    omega
  | k + 1, j + 1, ht, hu, h => by
    have h1 := ht k (by omega)
    have h2 := hu j (by omega)
    have b1 := cd_bd (t (p + k))
    have b2 := cd_bd (u (q + j))
    rw [vR, vR] at h
    obtain ⟨e, hi⟩ := vR_inj k j (fun i g => ht i (by omega)) (fun i g => hu i (by omega)) (by omega)
    subst e
    refine ⟨rfl, fun i g => ?_⟩
    by_cases hik : i = k
    · subst hik
      exact cd_inj (by omega) h1
    · exact hi i (by omega)
theorem vC_inj {t u : Int → Int} {p q : Int} (bt : ∀ x, 0 ≤ t x ∧ t x ≤ 255) (bu : ∀ x, 0 ≤ u x ∧ u x ≤ 255) : ∀ k j, (∀ i : Nat, i < k → 0 < cd (t (p + i))) → (∀ i : Nat, i < j → 0 < cd (u (q + i))) → vC t p k = vC u q j → one_word t p k u q j
  | 0, 0, _, _, _ => ⟨rfl, fun i h => absurd h (by omega)⟩
  | 0, j + 1, _, hu, h => by
    have h1 := hu j (by omega)
    have b2 := bu (q + j)
    have h3 : u (q + j) ≠ 0 := fun e => by rw [e] at h1; exact absurd h1 (by decide)
    rw [vC, vC] at h
    omega
  | k + 1, 0, ht, _, h => by
    have h1 := ht k (by omega)
    have b1 := bt (p + k)
    have h3 : t (p + k) ≠ 0 := fun e => by rw [e] at h1; exact absurd h1 (by decide)
    rw [vC, vC] at h
    omega
  | k + 1, j + 1, ht, hu, h => by
    have b1 := bt (p + k)
    have b2 := bu (q + j)
    rw [vC, vC] at h
    obtain ⟨e, hi⟩ := vC_inj bt bu k j (fun i g => ht i (by omega)) (fun i g => hu i (by omega)) (by omega)
    subst e
    refine ⟨rfl, fun i g => ?_⟩
    by_cases hik : i = k
    · subst hik; omega
    · exact hi i (by omega)
theorem vR_same {t u : Int → Int} {p q : Int} : ∀ k, (∀ i : Nat, i < k → t (p + i) = u (q + i)) → vR t p k = vR u q k
  | 0, _ => rfl
  | k + 1, h => by rw [vR, vR, vR_same k (fun i g => h i (by omega)), h k (by omega)]
theorem vC_same {t u : Int → Int} {p q : Int} : ∀ k, (∀ i : Nat, i < k → t (p + i) = u (q + i)) → vC t p k = vC u q k
  | 0, _ => rfl
  | k + 1, h => by rw [vC, vC, vC_same k (fun i g => h i (by omega)), h k (by omega)]
/-- of two words of at most eight signs the class's numbers are one just where the reference's are -/
theorem nm_iff {t u : Int → Int} {p q : Int} {k j : Nat} (bt : ∀ x, 0 ≤ t x ∧ t x ≤ 255) (bu : ∀ x, 0 ≤ u x ∧ u x ≤ 255) (hk : k ≤ 8) (hj : j ≤ 8) (ht : ∀ i : Nat, i < k → 0 < cd (t (p + i))) (hu : ∀ i : Nat, i < j → 0 < cd (u (q + i))) : nmC t p k = nmC u q j ↔ nmR t p k = nmR u q j := by
  have p8 : (256 : Nat) ^ 8 = 2 ^ 64 := by decide
  have c1 := Nat.lt_of_lt_of_le (vC_lt bt p k) (Nat.pow_le_pow_right (by decide) hk)
  have c2 := Nat.lt_of_lt_of_le (vC_lt bu q j) (Nat.pow_le_pow_right (by decide) hj)
  have r1 := Nat.lt_of_lt_of_le (vR_lt t p k) (Nat.pow_le_pow_right (by decide) hk)
  have r2 := Nat.lt_of_lt_of_le (vR_lt u q j) (Nat.pow_le_pow_right (by decide) hj)
  rw [p8] at c1 c2
  have q8 : (64 : Nat) ^ 8 ≤ 2 ^ 64 := by decide
  rw [nmC_v bt p k hk, nmC_v bu q j hj, nmR_v, nmR_v]
  constructor
  · intro h
    obtain ⟨e, hi⟩ := vC_inj bt bu k j ht hu (ofNat_inj64 c1 c2 h)
    subst e
    rw [vR_same k hi]
  · intro h
    obtain ⟨e, hi⟩ := vR_inj k j ht hu (ofNat_inj64 (Nat.lt_of_lt_of_le r1 q8) (Nat.lt_of_lt_of_le r2 q8) h)
    subst e
    rw [vC_same k hi]
end NAM
