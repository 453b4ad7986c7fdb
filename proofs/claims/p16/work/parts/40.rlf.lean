/-! the reference's small methods -/
section RLF
variable {X : aX} {d : Nat} {m : Mi} {J : Mj} {P : Mp}
/-- the code of a sign -/
def cd (c : Int) : Int := if 97 ≤ c ∧ c ≤ 122 then c - 96 else if 65 ≤ c ∧ c ≤ 90 then c - 38 else if 48 ≤ c ∧ c ≤ 57 then c + 5 else 0
theorem cd_bd (c : Int) : 0 ≤ cd c ∧ cd c ≤ 62 := by
  unfold cd
  (repeat' split) <;> omega
theorem r_code {c : Int} (hp : PP P) (hc : Zr c) {post : Int → Mi → Mj → Mp → Prop} (k : post (cd c) m J P) : Ci X d 133 [.int (iz c)] m J P post := by
  have e : ∀ v, v = cd c → post v m J P := fun v h => by rw [h]; exact k
  have z : cd c = 0 → Rn X d 133 65 [some (.int (iz c))] [] (SS m J P) (QI post) := fun h => b_Mdl_code_65 c m J P hp post (e 0 h.symm)
  unfold cd at e z
  refine Ci.of rfl rfl rfl (b_Mdl_code_0 c m J P hp post ⟨hc, fun g1 => ⟨hc, fun g2 => ⟨hc, fun g3 => z ?_, fun g3 => ⟨hc, fun g4 => z ?_, fun g4 => e _ ?_⟩⟩, fun g2 => ⟨hc, fun g3 => ⟨hc, fun g4 => z ?_, fun g4 => ⟨hc, fun g5 => z ?_, fun g5 => e _ ?_⟩⟩, fun g3 => e _ ?_⟩⟩, fun g1 => ⟨hc, fun g2 => ⟨hc, fun g3 => ⟨hc, fun g4 => z ?_, fun g4 => ⟨hc, fun g5 => z ?_, fun g5 => e _ ?_⟩⟩, fun g3 => ⟨hc, fun g4 => ⟨hc, fun g5 => z ?_, fun g5 => ⟨hc, fun g6 => z ?_, fun g6 => e _ ?_⟩⟩, fun g4 => e _ ?_⟩⟩, fun g2 => e _ ?_⟩⟩) <;> (repeat' split) <;> omega
/-- the sign at a place, 0 behind the text -/
def lk (m : Mi) (x : Int) : Int := if m 262 2 ≤ x then 0 else zand (m 263 x.toNat) 255
theorem zand_255 (x : Int) : 0 ≤ zand x 255 ∧ zand x 255 ≤ 255 := by
  unfold zand
  have h : (iz x &&& iz 255).toInt = ((iz x &&& iz 255).toBitVec).toInt := rfl
  have e : (iz x &&& iz 255).toBitVec = (iz x).toBitVec &&& 255#32 := rfl
  rw [h, e, BitVec.toInt_eq_toNat_of_lt]
  · rw [BitVec.toNat_and]
    have h2 : (iz x).toBitVec.toNat &&& (255#32).toNat ≤ (255#32).toNat := Nat.and_le_right
    have h3 : (255#32).toNat = 255 := rfl
    omega
  · rw [BitVec.toNat_and]
    have h2 : (iz x).toBitVec.toNat &&& (255#32).toNat ≤ (255#32).toNat := Nat.and_le_right
    have h3 : (255#32).toNat = 255 := rfl
    omega
theorem lk_bd (m : Mi) (x : Int) : 0 ≤ lk m x ∧ lk m x ≤ 255 := by
  unfold lk
  split
  · omega
  · exact zand_255 _
theorem lk_end {m : Mi} {x : Int} (h : lk m x ≠ 0) : x < m 262 2 := by
  unfold lk at h
  split at h
  · exact absurd rfl h
  · omega
theorem r_look {x : Int} (hp : PP P) (hx : 0 ≤ x ∧ x ≤ 100000) (he : 0 ≤ m 262 2 ∧ m 262 2 ≤ 1600) {post : Int → Mi → Mj → Mp → Prop} (k : post (lk m x) m J P) : Ci X d 139 [.ref 262, .int (iz x)] m J P post := by
  unfold lk at k
  refine Ci.of rfl rfl rfl (b_Mdl_look_0 x m J P hp post ⟨by constructor <;> omega, by constructor <;> omega, fun g => ?_, fun g => ⟨by omega, ?_⟩⟩)
  · rw [if_pos g] at k; exact k
  · rw [if_neg g] at k; exact k
theorem r_is {c : Int} (hp : PP P) (hc : Zr c) (h1 : Zr (m 262 3)) (h2 : Zr (m 262 6)) {post : Int → Mi → Mj → Mp → Prop} (k : post (if m 262 3 = 4 ∧ m 262 6 = c then 1 else 0) m J P) : Ci X d 144 [.ref 262, .int (iz c)] m J P post := by
  refine Ci.of rfl rfl rfl (b_Mdl_is_0 c m J P hp post ⟨h1, fun g => ?_, fun g => ⟨h2, hc, fun g2 => ?_, fun g2 => ?_⟩⟩)
  · rw [if_neg (fun h => g h.1)] at k; exact k
  · rw [if_neg (fun h => g2 h.2)] at k; exact k
  · rw [if_pos ⟨by omega, by omega⟩] at k; exact k
/-- a fault is told, the first one stays -/
def rf (m : Mi) (kind place : Int) : Mi := if m 262 10 ≤ 0 then mu (mu m 262 10 kind) 262 11 place else m
theorem r_fail {a b : Int} (hp : PP P) (h1 : Zr (m 262 10)) {post : Mi → Mj → Mp → Prop} (k : post (rf m a b) J P) : Cv X d 143 [.ref 262, .int (iz a), .int (iz b)] m J P post := by
  unfold rf at k
  refine Cv.of rfl rfl rfl (b_Mdl_fail_0 a b m J P hp post ⟨h1, fun g => ?_, fun g => ?_⟩)
  · rw [if_pos g] at k; exact k
  · rw [if_neg g] at k; exact k
def rw_ (m : Mi) : Mi := rf m (if m 262 3 = 5 then 1 else 2) (m 262 4)
theorem r_wrong (hp : PP P) (h1 : Zr (m 262 10)) (h2 : Zr (m 262 3)) {post : Mi → Mj → Mp → Prop} (k : post (rw_ m) J P) : Cv X (d + 1) 142 [.ref 262] m J P post := by
  unfold rw_ at k
  refine Cv.of rfl rfl rfl (b_Mdl_wrong_0 m J P hp post ⟨h2, fun g => r_fail hp h1 ⟨hp, ?_⟩, fun g => r_fail hp h1 ⟨hp, ?_⟩⟩)
  · rw [if_neg g] at k; exact k
  · rw [if_pos (by omega)] at k; exact k
/-- the first place in a row of longs with a value -/
def fd (J : Mj) (a : Nat) (n : Int64) : Nat → Nat → Int
  | _, 0 => -1
  | i, k + 1 => if J a i = n then (i : Int) else fd J a n (i + 1) k
theorem zcmp_0 (x y : Int64) : zcmp x y = 0 ↔ x = y := by
  unfold zcmp lg_cmp
  constructor
  · intro h
    by_cases h1 : x = y
    · exact h1
    · exfalso
      revert h
      split <;> simp_all
  · rintro rfl
    simp
theorem zcmp_zr (x y : Int64) : Zr (zcmp x y) := iz_zr _
end RLF
