/-! steps over a memory of whole numbers -/
abbrev Mi : Type := Nat → Nat → Int
abbrev Mj : Type := Nat → Nat → Int64
abbrev Mp : Type := Nat → Nat → Option Nat
def iz (z : Int) : Int32 := Int32.ofInt z
abbrev Zr (z : Int) : Prop := -2147483648 ≤ z ∧ z ≤ 2147483647
theorem iz_to {z : Int} (h : Zr z) : (iz z).toInt = z := Int32.toInt_ofInt_of_le (by have := h.1; omega) (by have := h.2; omega)
theorem iz_of (x : Int32) : iz x.toInt = x := Int32.ofInt_toInt x
theorem iz_zr (x : Int32) : Zr x.toInt := by
  have h1 := Int32.le_toInt x
  have h2 := Int32.toInt_lt x
  constructor <;> omega
theorem iz_add (x y : Int) : iz x + iz y = iz (x + y) := (Int32.ofInt_add x y).symm
theorem iz_sub (x y : Int) : iz x - iz y = iz (x - y) := (Int32.ofInt_sub x y).symm
theorem iz_mul (x y : Int) : iz x * iz y = iz (x * y) := (Int32.ofInt_mul x y).symm
theorem iz_neg (x : Int) : -iz x = iz (-x) := (Int32.ofInt_neg x).symm
theorem iz_nat (n : Nat) : Int32.ofNat n = iz n := Int32.ofInt_eq_ofNat.symm
theorem iz_lt {x y : Int} (hx : Zr x) (hy : Zr y) : iz x < iz y ↔ x < y := by rw [Int32.lt_iff_toInt_lt, iz_to hx, iz_to hy]
theorem iz_le {x y : Int} (hx : Zr x) (hy : Zr y) : iz x ≤ iz y ↔ x ≤ y := by rw [Int32.le_iff_toInt_le, iz_to hx, iz_to hy]
theorem iz_eq {x y : Int} (hx : Zr x) (hy : Zr y) : iz x = iz y ↔ x = y := by rw [← Int32.toInt_inj, iz_to hx, iz_to hy]
theorem iz_0 : (0 : Int32) = iz 0 := rfl
theorem iz_cl {x : Int} (h : Zr x) : (iz x).toNatClampNeg = x.toNat := by rw [← Int32.toNat_toInt, iz_to h]
theorem iz_in {x : Int} {n : Nat} (hn : n ≤ 100000) (h : 0 ≤ x ∧ x < n) : ¬ (iz x < 0 ∨ n ≤ (iz x).toNatClampNeg) ∧ (iz x).toNatClampNeg = x.toNat := by
  have hz : Zr x := by constructor <;> omega
  rw [iz_cl hz, iz_0, iz_lt hz (by constructor <;> decide)]
  refine ⟨?_, rfl⟩
  omega
/-- what has no plain name over whole numbers -/
def zand (x y : Int) : Int := (iz x &&& iz y).toInt
def zor (x y : Int) : Int := (iz x ||| iz y).toInt
def zxor (x y : Int) : Int := (iz x ^^^ iz y).toInt
def zshl (x y : Int) : Int := (iz x <<< (iz y &&& 31)).toInt
def zshr (x y : Int) : Int := (iz x >>> (iz y &&& 31)).toInt
def zushr (x y : Int) : Int := ((iz x).toUInt32 >>> ((iz y).toUInt32 &&& Int32.toUInt32 31)).toInt32.toInt
def zdiv (x y : Int) : Int := (iz x / iz y).toInt
def zrem (x y : Int) : Int := (iz x - iz x / iz y * iz y).toInt
def zi2b (x : Int) : Int := (iz x).toInt8.toInt32.toInt
def zcmp (x y : Int64) : Int := (lg_cmp x y).toInt
def zl2i (x : Int64) : Int := x.toInt32.toInt
def zi2l (x : Int) : Int64 := (iz x).toInt64
def mu (m : Mi) (a k : Nat) (v : Int) : Mi := fun x y => if x = a ∧ y = k then v else m x y
def mju (m : Mj) (a k : Nat) (v : Int64) : Mj := fun x y => if x = a ∧ y = k then v else m x y
def mpu (m : Mp) (a k : Nat) (v : Option Nat) : Mp := fun x y => if x = a ∧ y = k then v else m x y
def mcp (m : Mi) (a0 a sp dp n : Nat) : Mi := fun x y => if x = a ∧ dp ≤ y ∧ y < dp + n then m a0 (sp + (y - dp)) else m x y
def an_K_0 : List am_K := [.inl 0, .inl 1, .inr (0, 1600), .inl 2, .inl 3, .inr (2, 1600), .inr (0, 40), .inl 4, .inr (0, 880), .inr (0, 880), .inr (0, 1688), .inr (0, 1688), .inr (0, 1688), .inr (0, 1688), .inr (0, 2048), .inr (0, 800), .inr (0, 808), .inl 4, .inr (0, 880), .inr (0, 880), .inr (0, 1688), .inr (0, 1688), .inr (0, 1688), .inr (0, 1688), .inr (0, 2048), .inr (0, 800), .inr (0, 808), .inl 5, .inr (0, 200), .inr (0, 200), .inr (0, 200), .inr (0, 200), .inr (0, 8), .inr (0, 200), .inr (0, 200), .inl 6, .inr (0, 800), .inl 7, .inl 8, .inr (0, 80), .inr (0, 80), .inr (0, 80), .inr (0, 80), .inr (3, 8), .inr (0, 30000), .inr (0, 9000), .inr (0, 300), .inr (0, 300), .inr (0, 800), .inl 9, .inr (0, 1000), .inr (3, 808), .inr (0, 200), .inl 10, .inr (3, 16), .inr (0, 16), .inr (0, 16), .inr (4, 16), .inl 8, .inr (0, 80)]
def an_K_1 : List am_K := [.inr (0, 80), .inr (0, 80), .inr (0, 80), .inr (3, 8), .inl 8, .inr (0, 80), .inr (0, 80), .inr (0, 80), .inr (0, 80), .inr (3, 8), .inl 8, .inr (0, 80), .inr (0, 80), .inr (0, 80), .inr (0, 80), .inr (3, 8), .inl 8, .inr (0, 80), .inr (0, 80), .inr (0, 80), .inr (0, 80), .inr (3, 8), .inl 8, .inr (0, 80), .inr (0, 80), .inr (0, 80), .inr (0, 80), .inr (3, 8), .inl 8, .inr (0, 80), .inr (0, 80), .inr (0, 80), .inr (0, 80), .inr (3, 8), .inl 8, .inr (0, 80), .inr (0, 80), .inr (0, 80), .inr (0, 80), .inr (3, 8), .inl 8, .inr (0, 80), .inr (0, 80), .inr (0, 80), .inr (0, 80), .inr (3, 8), .inl 8, .inr (0, 80), .inr (0, 80), .inr (0, 80), .inr (0, 80), .inr (3, 8), .inl 8, .inr (0, 80), .inr (0, 80), .inr (0, 80), .inr (0, 80), .inr (3, 8), .inl 8, .inr (0, 80)]
def an_K_2 : List am_K := [.inr (0, 80), .inr (0, 80), .inr (0, 80), .inr (3, 8), .inl 8, .inr (0, 80), .inr (0, 80), .inr (0, 80), .inr (0, 80), .inr (3, 8), .inl 8, .inr (0, 80), .inr (0, 80), .inr (0, 80), .inr (0, 80), .inr (3, 8), .inl 8, .inr (0, 80), .inr (0, 80), .inr (0, 80), .inr (0, 80), .inr (3, 8), .inl 8, .inr (0, 80), .inr (0, 80), .inr (0, 80), .inr (0, 80), .inr (3, 8), .inl 8, .inr (0, 80), .inr (0, 80), .inr (0, 80), .inr (0, 80), .inr (3, 8), .inl 10, .inr (3, 16), .inr (0, 16), .inr (0, 16), .inr (4, 16), .inl 8, .inr (0, 80), .inr (0, 80), .inr (0, 80), .inr (0, 80), .inr (3, 8), .inl 8, .inr (0, 80), .inr (0, 80), .inr (0, 80), .inr (0, 80), .inr (3, 8), .inl 8, .inr (0, 80), .inr (0, 80), .inr (0, 80), .inr (0, 80), .inr (3, 8), .inl 8, .inr (0, 80), .inr (0, 80)]
def an_K_3 : List am_K := [.inr (0, 80), .inr (0, 80), .inr (3, 8), .inl 8, .inr (0, 80), .inr (0, 80), .inr (0, 80), .inr (0, 80), .inr (3, 8), .inl 8, .inr (0, 80), .inr (0, 80), .inr (0, 80), .inr (0, 80), .inr (3, 8), .inl 8, .inr (0, 80), .inr (0, 80), .inr (0, 80), .inr (0, 80), .inr (3, 8), .inl 8, .inr (0, 80), .inr (0, 80), .inr (0, 80), .inr (0, 80), .inr (3, 8), .inl 8, .inr (0, 80), .inr (0, 80), .inr (0, 80), .inr (0, 80), .inr (3, 8), .inl 8, .inr (0, 80), .inr (0, 80), .inr (0, 80), .inr (0, 80), .inr (3, 8), .inl 8, .inr (0, 80), .inr (0, 80), .inr (0, 80), .inr (0, 80), .inr (3, 8), .inl 8, .inr (0, 80), .inr (0, 80), .inr (0, 80), .inr (0, 80), .inr (3, 8), .inl 8, .inr (0, 80), .inr (0, 80), .inr (0, 80), .inr (0, 80), .inr (3, 8), .inl 8, .inr (0, 80), .inr (0, 80)]
def an_K_4 : List am_K := [.inr (0, 80), .inr (0, 80), .inr (3, 8), .inl 8, .inr (0, 80), .inr (0, 80), .inr (0, 80), .inr (0, 80), .inr (3, 8), .inl 8, .inr (0, 80), .inr (0, 80), .inr (0, 80), .inr (0, 80), .inr (3, 8), .inl 8, .inr (0, 80), .inr (0, 80), .inr (0, 80), .inr (0, 80), .inr (3, 8), .inl 11, .inr (1, 1600), .inr (3, 16), .inr (3, 2000), .inr (3, 8), .inr (0, 16), .inr (0, 16), .inr (0, 2000), .inr (0, 2000), .inr (0, 2000), .inr (0, 16), .inr (0, 16), .inr (0, 16), .inr (0, 16), .inr (0, 16), .inr (3, 128), .inr (0, 48), .inr (3, 16), .inr (0, 16), .inr (0, 640), .inr (0, 640), .inr (0, 16), .inr (0, 16), .inr (0, 16), .inr (3, 128), .inr (0, 200), .inr (0, 200), .inr (0, 200), .inr (0, 200), .inr (0, 40), .inr (0, 40), .inr (0, 40), .inr (0, 40), .inr (2, 1600), .inr (0, 201), .inr (0, 201), .inr (0, 201), .inr (0, 201), .inr (0, 8)]
def an_K_5 : List am_K := [.inr (0, 8), .inr (0, 2000), .inr (0, 2000), .inr (0, 2000), .inr (0, 2000), .inr (0, 2000), .inr (0, 8000), .inr (0, 800), .inr (0, 8), .inr (0, 201), .inr (0, 201), .inr (0, 201), .inr (0, 8000), .inr (0, 8000), .inr (0, 2000), .inr (0, 2000), .inr (0, 2000), .inr (0, 2000), .inr (0, 200), .inr (0, 200), .inr (0, 201), .inr (3, 6), .inr (0, 40000), .inr (0, 1000), .inr (0, 1000), .inr (0, 1000), .inr (0, 1000), .inr (0, 1000), .inr (0, 1000), .inr (0, 1000), .inr (0, 1000), .inr (0, 1000), .inr (0, 6000), .inr (0, 300), .inr (0, 300), .inr (0, 1800), .inr (0, 800), .inr (0, 6), .inr (0, 6), .inr (0, 200), .inr (0, 40), .inr (0, 40), .inr (0, 200), .inr (0, 200), .inr (0, 800), .inr (0, 800), .inr (1, 1000), .inr (3, 800), .inr (0, 800)]
/-- the cells that both constructors have made -/
def an_K : List am_K := an_K_0 ++ an_K_1 ++ an_K_2 ++ an_K_3 ++ an_K_4 ++ an_K_5
def SS (m : Mi) (J : Mj) (P : Mp) : am_S := (an_K, fun a k => iz (m a k), J, P)
theorem SS_mu (m : Mi) (J : Mj) (P : Mp) (a k : Nat) (v : Int) : ((SS m J P).1, am_up (SS m J P).2.1 a k (iz v), (SS m J P).2.2) = SS (mu m a k v) J P := by
  simp only [SS, mu, Prod.mk.injEq, true_and, and_true]
  funext x y
  by_cases hx : x = a <;> by_cases hy : y = k <;> simp [am_up, hx, hy]
theorem SS_mju (m : Mi) (J : Mj) (P : Mp) (a k : Nat) (v : Int64) : ((SS m J P).1, (SS m J P).2.1, am_up (SS m J P).2.2.1 a k v, (SS m J P).2.2.2) = SS m (mju J a k v) P := by
  simp only [SS, Prod.mk.injEq, true_and, and_true]
  funext x y
  by_cases hx : x = a <;> by_cases hy : y = k <;> simp [am_up, mju, hx, hy]
theorem SS_mpu (m : Mi) (J : Mj) (P : Mp) (a k : Nat) (v : Option Nat) : ((SS m J P).1, (SS m J P).2.1, (SS m J P).2.2.1, am_up (SS m J P).2.2.2 a k v) = SS m J (mpu P a k v) := by
  simp only [SS, Prod.mk.injEq, true_and, and_true]
  funext x y
  by_cases hx : x = a <;> by_cases hy : y = k <;> simp [am_up, mpu, hx, hy]
def QI (post : Int → Mi → Mj → Mp → Prop) : Option Value → am_S → Prop := fun v τ => ∃ z m J P, v = some (.int (iz z)) ∧ τ = SS m J P ∧ post z m J P
def QV (post : Mi → Mj → Mp → Prop) : Option Value → am_S → Prop := fun v τ => ∃ m J P, v = none ∧ τ = SS m J P ∧ post m J P
abbrev aX : Type := Option (Nat × (Nat → Int32))
/-- the contract of a method that answers an int: called with as over m, J, P it ends, and post holds -/
def Ci (X : aX) (d mid : Nat) (as : List Value) (m : Mi) (J : Mj) (P : Mp) (post : Int → Mi → Mj → Mp → Prop) : Prop := Rc X d mid as (SS m J P) (QI post)
def Cv (X : aX) (d mid : Nat) (as : List Value) (m : Mi) (J : Mj) (P : Mp) (post : Mi → Mj → Mp → Prop) : Prop := Rc X d mid as (SS m J P) (QV post)
section WP
variable {X : aX} {d mid pc r1 r2 r3 : Nat} {L L' : am_L} {st t : List Value} {σ : am_S} {Q : Option Value → am_S → Prop} {m : Mi} {J : Mj} {P : Mp}
theorem Ci.weak {as : List Value} {p1 p2 : Int → Mi → Mj → Mp → Prop} (h : Ci X d mid as m J P p1) (hw : ∀ z m' J' P', p1 z m' J' P' → p2 z m' J' P') : Ci X d mid as m J P p2 := Rc.weak h fun _ _ ⟨z, m', J', P', h1, h2, h3⟩ => ⟨z, m', J', P', h1, h2, hw _ _ _ _ h3⟩
theorem Cv.weak {as : List Value} {p1 p2 : Mi → Mj → Mp → Prop} (h : Cv X d mid as m J P p1) (hw : ∀ m' J' P', p1 m' J' P' → p2 m' J' P') : Cv X d mid as m J P p2 := Rc.weak h fun _ _ ⟨m', J', P', h1, h2, h3⟩ => ⟨m', J', P', h1, h2, hw _ _ _ h3⟩
theorem an_cd_mt {e : am_E} (hc : an_cd mid pc = some e) : ∃ M, an_mtf mid = some M := by
  unfold an_cd at hc
  unfold an_mtf
  cases h : an_all[mid]? with
  | none => rw [h] at hc; cases hc
  | some q => exact ⟨q.1, rfl⟩
theorem rn_ins {i : Instr} {q : am_R} (hc : an_cd mid pc = some (i, r1, r2, r3)) (hi : am_isCall i r1 = false) (h1 : i ≠ .return_) (h2 : i ≠ .ireturn) (h : am_ins X an_ec d i r1 r2 r3 pc L st σ = some q) (k : Rn X d mid q.1 q.2.1 q.2.2.1 q.2.2.2 Q) : Rn X d mid pc L st σ Q := by
  obtain ⟨M, hM⟩ := an_cd_mt hc
  obtain ⟨n, r, g1, g2⟩ := k
  exact ⟨n + 1, r, am_mk_s hM hc hi h1 h2 h g1, g2⟩
theorem s_iconst {n : Int} (hc : an_cd mid pc = some (.iconst n, r1, r2, r3)) (k : Rn X d mid (pc + 1) L (.int (iz n) :: st) σ Q) : Rn X d mid pc L st σ Q := rn_ins hc rfl nofun nofun rfl k
theorem s_bipush {n : Int} (hc : an_cd mid pc = some (.bipush n, r1, r2, r3)) (hn : (Int8.ofInt n).toInt32 = iz n) (k : Rn X d mid (pc + 2) L (.int (iz n) :: st) σ Q) : Rn X d mid pc L st σ Q := rn_ins hc rfl nofun nofun rfl (by rw [hn]; exact k)
theorem s_sipush {n : Int} (hc : an_cd mid pc = some (.sipush n, r1, r2, r3)) (hn : (Int16.ofInt n).toInt32 = iz n) (k : Rn X d mid (pc + 3) L (.int (iz n) :: st) σ Q) : Rn X d mid pc L st σ Q := rn_ins hc rfl nofun nofun rfl (by rw [hn]; exact k)
theorem s_lconst {n : Fin 2} (hc : an_cd mid pc = some (.lconst n, r1, r2, r3)) (k : Rn X d mid (pc + 1) L (.long (Int64.ofNat n) :: st) σ Q) : Rn X d mid pc L st σ Q := rn_ins hc rfl nofun nofun rfl k
theorem s_ldc {n : Nat} (hc : an_cd mid pc = some (.ldc n, r1, r2, r3)) (k : Rn X d mid (pc + 2) L (.int (iz r1) :: st) σ Q) : Rn X d mid pc L st σ Q := rn_ins hc rfl nofun nofun rfl (by rw [iz_nat]; exact k)
theorem s_ldc2 {n : Nat} (hc : an_cd mid pc = some (.ldc2_w n, r1, r2, r3)) (k : Rn X d mid (pc + 3) L (.long (Int64.ofNat r1) :: st) σ Q) : Rn X d mid pc L st σ Q := rn_ins hc rfl nofun nofun rfl k
theorem s_iload_n {n : Fin 4} {x : Int32} (hc : an_cd mid pc = some (.iload_n n, r1, r2, r3)) (hl : am_ld L n = some (.int x)) (k : Rn X d mid (pc + 1) L (.int x :: st) σ Q) : Rn X d mid pc L st σ Q := rn_ins (q := (pc + 1, L, .int x :: st, σ)) hc rfl nofun nofun (by show am_ti (am_ld L n) _ = _; rw [hl]; rfl) k
theorem s_iload {n : Nat} {x : Int32} (hc : an_cd mid pc = some (.iload n, r1, r2, r3)) (hl : am_ld L n = some (.int x)) (k : Rn X d mid (pc + 2) L (.int x :: st) σ Q) : Rn X d mid pc L st σ Q := rn_ins (q := (pc + 2, L, .int x :: st, σ)) hc rfl nofun nofun (by show am_ti (am_ld L n) _ = _; rw [hl]; rfl) k
theorem s_lload_n {n : Fin 4} {x : Int64} (hc : an_cd mid pc = some (.lload_n n, r1, r2, r3)) (hl : am_ld L n = some (.long x)) (k : Rn X d mid (pc + 1) L (.long x :: st) σ Q) : Rn X d mid pc L st σ Q := rn_ins (q := (pc + 1, L, .long x :: st, σ)) hc rfl nofun nofun (by show am_tl (am_ld L n) _ = _; rw [hl]; rfl) k
theorem s_lload {n : Nat} {x : Int64} (hc : an_cd mid pc = some (.lload n, r1, r2, r3)) (hl : am_ld L n = some (.long x)) (k : Rn X d mid (pc + 2) L (.long x :: st) σ Q) : Rn X d mid pc L st σ Q := rn_ins (q := (pc + 2, L, .long x :: st, σ)) hc rfl nofun nofun (by show am_tl (am_ld L n) _ = _; rw [hl]; rfl) k
theorem s_aload_n {n : Fin 4} {x : Nat} (hc : an_cd mid pc = some (.aload_n n, r1, r2, r3)) (hl : am_ld L n = some (.ref x)) (k : Rn X d mid (pc + 1) L (.ref x :: st) σ Q) : Rn X d mid pc L st σ Q := rn_ins (q := (pc + 1, L, .ref x :: st, σ)) hc rfl nofun nofun (by show am_ta (am_ld L n) _ = _; rw [hl]; rfl) k
theorem s_aload {n : Nat} {x : Nat} (hc : an_cd mid pc = some (.aload n, r1, r2, r3)) (hl : am_ld L n = some (.ref x)) (k : Rn X d mid (pc + 2) L (.ref x :: st) σ Q) : Rn X d mid pc L st σ Q := rn_ins (q := (pc + 2, L, .ref x :: st, σ)) hc rfl nofun nofun (by show am_ta (am_ld L n) _ = _; rw [hl]; rfl) k
theorem s_istore_n {n : Fin 4} {x : Int32} (hc : an_cd mid pc = some (.istore_n n, r1, r2, r3)) (hn : (n : Nat) < L.length) (hl : am_s1 L n (.int x) = L') (k : Rn X d mid (pc + 1) L' st σ Q) : Rn X d mid pc L (.int x :: st) σ Q := rn_ins (q := (pc + 1, L', st, σ)) hc rfl nofun nofun (by show (if (n : Nat) < L.length then _ else _) = _; rw [if_pos hn, hl]) k
theorem s_istore {n : Nat} {x : Int32} (hc : an_cd mid pc = some (.istore n, r1, r2, r3)) (hn : (n : Nat) < L.length) (hl : am_s1 L n (.int x) = L') (k : Rn X d mid (pc + 2) L' st σ Q) : Rn X d mid pc L (.int x :: st) σ Q := rn_ins (q := (pc + 2, L', st, σ)) hc rfl nofun nofun (by show (if (n : Nat) < L.length then _ else _) = _; rw [if_pos hn, hl]) k
theorem s_lstore_n {n : Fin 4} {x : Int64} (hc : an_cd mid pc = some (.lstore_n n, r1, r2, r3)) (hn : (n : Nat) + 1 < L.length) (hl : am_s2 L n (.long x) = L') (k : Rn X d mid (pc + 1) L' st σ Q) : Rn X d mid pc L (.long x :: st) σ Q := rn_ins (q := (pc + 1, L', st, σ)) hc rfl nofun nofun (by show (if (n : Nat) + 1 < L.length then _ else _) = _; rw [if_pos hn, hl]) k
theorem s_lstore {n : Nat} {x : Int64} (hc : an_cd mid pc = some (.lstore n, r1, r2, r3)) (hn : (n : Nat) + 1 < L.length) (hl : am_s2 L n (.long x) = L') (k : Rn X d mid (pc + 2) L' st σ Q) : Rn X d mid pc L (.long x :: st) σ Q := rn_ins (q := (pc + 2, L', st, σ)) hc rfl nofun nofun (by show (if (n : Nat) + 1 < L.length then _ else _) = _; rw [if_pos hn, hl]) k
theorem s_astore_n {n : Fin 4} {x : Nat} (hc : an_cd mid pc = some (.astore_n n, r1, r2, r3)) (hn : (n : Nat) < L.length) (hl : am_s1 L n (.ref x) = L') (k : Rn X d mid (pc + 1) L' st σ Q) : Rn X d mid pc L (.ref x :: st) σ Q := rn_ins (q := (pc + 1, L', st, σ)) hc rfl nofun nofun (by show (if (n : Nat) < L.length then _ else _) = _; rw [if_pos hn, hl]) k
theorem s_astore {n : Nat} {x : Nat} (hc : an_cd mid pc = some (.astore n, r1, r2, r3)) (hn : (n : Nat) < L.length) (hl : am_s1 L n (.ref x) = L') (k : Rn X d mid (pc + 2) L' st σ Q) : Rn X d mid pc L (.ref x :: st) σ Q := rn_ins (q := (pc + 2, L', st, σ)) hc rfl nofun nofun (by show (if (n : Nat) < L.length then _ else _) = _; rw [if_pos hn, hl]) k
theorem s_iinc {n : Nat} {c : Int} {x : Int} (hc : an_cd mid pc = some (.iinc n c, r1, r2, r3)) (hx : am_ld L n = some (.int (iz x))) (hn : (n : Nat) < L.length) (hl : am_s1 L n (.int (iz (x + c))) = L') (k : Rn X d mid (pc + 3) L' st σ Q) : Rn X d mid pc L st σ Q := rn_ins (q := (pc + 3, L', st, σ)) hc rfl nofun nofun (by show am_ti (am_ld L n) _ = _; rw [hx]; show (if n < L.length then _ else _) = _; rw [if_pos hn, ← hl, ← iz_add]; rfl) k
theorem s_iadd {x y : Int} (hc : an_cd mid pc = some (.iadd, r1, r2, r3)) (k : Rn X d mid (pc + 1) L (.int (iz (x + y)) :: st) σ Q) : Rn X d mid pc L (.int (iz y) :: .int (iz x) :: st) σ Q := rn_ins hc rfl nofun nofun rfl (by rw [iz_add]; exact k)
theorem s_isub {x y : Int} (hc : an_cd mid pc = some (.isub, r1, r2, r3)) (k : Rn X d mid (pc + 1) L (.int (iz (x - y)) :: st) σ Q) : Rn X d mid pc L (.int (iz y) :: .int (iz x) :: st) σ Q := rn_ins hc rfl nofun nofun rfl (by rw [iz_sub]; exact k)
theorem s_imul {x y : Int} (hc : an_cd mid pc = some (.imul, r1, r2, r3)) (k : Rn X d mid (pc + 1) L (.int (iz (x * y)) :: st) σ Q) : Rn X d mid pc L (.int (iz y) :: .int (iz x) :: st) σ Q := rn_ins hc rfl nofun nofun rfl (by rw [iz_mul]; exact k)
theorem s_iand {x y : Int} (hc : an_cd mid pc = some (.iand, r1, r2, r3)) (k : Rn X d mid (pc + 1) L (.int (iz (zand x y)) :: st) σ Q) : Rn X d mid pc L (.int (iz y) :: .int (iz x) :: st) σ Q := rn_ins hc rfl nofun nofun rfl (by rw [zand, iz_of] at k; exact k)
theorem s_ior {x y : Int} (hc : an_cd mid pc = some (.ior, r1, r2, r3)) (k : Rn X d mid (pc + 1) L (.int (iz (zor x y)) :: st) σ Q) : Rn X d mid pc L (.int (iz y) :: .int (iz x) :: st) σ Q := rn_ins hc rfl nofun nofun rfl (by rw [zor, iz_of] at k; exact k)
theorem s_ixor {x y : Int} (hc : an_cd mid pc = some (.ixor, r1, r2, r3)) (k : Rn X d mid (pc + 1) L (.int (iz (zxor x y)) :: st) σ Q) : Rn X d mid pc L (.int (iz y) :: .int (iz x) :: st) σ Q := rn_ins hc rfl nofun nofun rfl (by rw [zxor, iz_of] at k; exact k)
theorem s_ishl {x y : Int} (hc : an_cd mid pc = some (.ishl, r1, r2, r3)) (k : Rn X d mid (pc + 1) L (.int (iz (zshl x y)) :: st) σ Q) : Rn X d mid pc L (.int (iz y) :: .int (iz x) :: st) σ Q := rn_ins hc rfl nofun nofun rfl (by rw [zshl, iz_of] at k; exact k)
theorem s_ishr {x y : Int} (hc : an_cd mid pc = some (.ishr, r1, r2, r3)) (k : Rn X d mid (pc + 1) L (.int (iz (zshr x y)) :: st) σ Q) : Rn X d mid pc L (.int (iz y) :: .int (iz x) :: st) σ Q := rn_ins hc rfl nofun nofun rfl (by rw [zshr, iz_of] at k; exact k)
theorem s_iushr {x y : Int} (hc : an_cd mid pc = some (.iushr, r1, r2, r3)) (k : Rn X d mid (pc + 1) L (.int (iz (zushr x y)) :: st) σ Q) : Rn X d mid pc L (.int (iz y) :: .int (iz x) :: st) σ Q := rn_ins hc rfl nofun nofun rfl (by rw [zushr, iz_of] at k; exact k)
theorem s_idiv {x y : Int} (hc : an_cd mid pc = some (.idiv, r1, r2, r3)) (hy : ¬ iz y = 0) (k : Rn X d mid (pc + 1) L (.int (iz (zdiv x y)) :: st) σ Q) : Rn X d mid pc L (.int (iz y) :: .int (iz x) :: st) σ Q := rn_ins (q := (pc + 1, L, .int (iz x / iz y) :: st, σ)) hc rfl nofun nofun (by show (if iz y = 0 then _ else _) = _; rw [if_neg hy]) (by rw [zdiv, iz_of] at k; exact k)
theorem s_irem {x y : Int} (hc : an_cd mid pc = some (.irem, r1, r2, r3)) (hy : ¬ iz y = 0) (k : Rn X d mid (pc + 1) L (.int (iz (zrem x y)) :: st) σ Q) : Rn X d mid pc L (.int (iz y) :: .int (iz x) :: st) σ Q := rn_ins (q := (pc + 1, L, .int (iz x - iz x / iz y * iz y) :: st, σ)) hc rfl nofun nofun (by show (if iz y = 0 then _ else _) = _; rw [if_neg hy]) (by rw [zrem, iz_of] at k; exact k)
theorem s_ineg {x : Int} (hc : an_cd mid pc = some (.ineg, r1, r2, r3)) (k : Rn X d mid (pc + 1) L (.int (iz (-x)) :: st) σ Q) : Rn X d mid pc L (.int (iz x) :: st) σ Q := rn_ins hc rfl nofun nofun rfl (by rw [iz_neg]; exact k)
theorem s_i2l {x : Int} (hc : an_cd mid pc = some (.i2l, r1, r2, r3)) (k : Rn X d mid (pc + 1) L (.long (zi2l x) :: st) σ Q) : Rn X d mid pc L (.int (iz x) :: st) σ Q := rn_ins hc rfl nofun nofun rfl k
theorem s_i2b {x : Int} (hc : an_cd mid pc = some (.i2b, r1, r2, r3)) (k : Rn X d mid (pc + 1) L (.int (iz (zi2b x)) :: st) σ Q) : Rn X d mid pc L (.int (iz x) :: st) σ Q := rn_ins hc rfl nofun nofun rfl (by rw [zi2b, iz_of] at k; exact k)
theorem s_l2i {x : Int64} (hc : an_cd mid pc = some (.l2i, r1, r2, r3)) (k : Rn X d mid (pc + 1) L (.int (iz (zl2i x)) :: st) σ Q) : Rn X d mid pc L (.long x :: st) σ Q := rn_ins hc rfl nofun nofun rfl (by rw [zl2i, iz_of] at k; exact k)
theorem s_ladd {x y : Int64} (hc : an_cd mid pc = some (.ladd, r1, r2, r3)) (k : Rn X d mid (pc + 1) L (.long (x + y) :: st) σ Q) : Rn X d mid pc L (.long y :: .long x :: st) σ Q := rn_ins hc rfl nofun nofun rfl k
theorem s_lmul {x y : Int64} (hc : an_cd mid pc = some (.lmul, r1, r2, r3)) (k : Rn X d mid (pc + 1) L (.long (x * y) :: st) σ Q) : Rn X d mid pc L (.long y :: .long x :: st) σ Q := rn_ins hc rfl nofun nofun rfl k
theorem s_land {x y : Int64} (hc : an_cd mid pc = some (.land, r1, r2, r3)) (k : Rn X d mid (pc + 1) L (.long (x &&& y) :: st) σ Q) : Rn X d mid pc L (.long y :: .long x :: st) σ Q := rn_ins hc rfl nofun nofun rfl k
theorem s_lor {x y : Int64} (hc : an_cd mid pc = some (.lor, r1, r2, r3)) (k : Rn X d mid (pc + 1) L (.long (x ||| y) :: st) σ Q) : Rn X d mid pc L (.long y :: .long x :: st) σ Q := rn_ins hc rfl nofun nofun rfl k
theorem s_ldiv {x y : Int64} (hc : an_cd mid pc = some (.ldiv, r1, r2, r3)) (hy : ¬ y = 0) (k : Rn X d mid (pc + 1) L (.long (x / y) :: st) σ Q) : Rn X d mid pc L (.long y :: .long x :: st) σ Q := rn_ins (q := (pc + 1, L, .long (x / y) :: st, σ)) hc rfl nofun nofun (by show (if y = 0 then _ else _) = _; rw [if_neg hy]) k
theorem s_lrem {x y : Int64} (hc : an_cd mid pc = some (.lrem, r1, r2, r3)) (hy : ¬ y = 0) (k : Rn X d mid (pc + 1) L (.long (x - x / y * y) :: st) σ Q) : Rn X d mid pc L (.long y :: .long x :: st) σ Q := rn_ins (q := (pc + 1, L, .long (x - x / y * y) :: st, σ)) hc rfl nofun nofun (by show (if y = 0 then _ else _) = _; rw [if_neg hy]) k
theorem s_lcmp {x y : Int64} (hc : an_cd mid pc = some (.lcmp, r1, r2, r3)) (k : Rn X d mid (pc + 1) L (.int (iz (zcmp x y)) :: st) σ Q) : Rn X d mid pc L (.long y :: .long x :: st) σ Q := rn_ins hc rfl nofun nofun rfl (by rw [zcmp, iz_of] at k; exact k)
theorem s_lneg {x : Int64} (hc : an_cd mid pc = some (.lneg, r1, r2, r3)) (k : Rn X d mid (pc + 1) L (.long (-x) :: st) σ Q) : Rn X d mid pc L (.long x :: st) σ Q := rn_ins hc rfl nofun nofun rfl k
theorem s_lshl {x : Int64} {y : Int} (hc : an_cd mid pc = some (.lshl, r1, r2, r3)) (k : Rn X d mid (pc + 1) L (.long (x <<< ((iz y).toInt64 &&& 63)) :: st) σ Q) : Rn X d mid pc L (.int (iz y) :: .long x :: st) σ Q := rn_ins hc rfl nofun nofun rfl k
theorem s_lushr {x : Int64} {y : Int} (hc : an_cd mid pc = some (.lushr, r1, r2, r3)) (k : Rn X d mid (pc + 1) L (.long (x.toUInt64 >>> ((iz y).toInt64.toUInt64 &&& Int64.toUInt64 63)).toInt64 :: st) σ Q) : Rn X d mid pc L (.int (iz y) :: .long x :: st) σ Q := rn_ins hc rfl nofun nofun rfl k
theorem s_dup {v : Value} (hc : an_cd mid pc = some (.dup, r1, r2, r3)) (hv : v.category = 1) (k : Rn X d mid (pc + 1) L (v :: v :: st) σ Q) : Rn X d mid pc L (v :: st) σ Q := rn_ins (q := (pc + 1, L, v :: v :: st, σ)) hc rfl nofun nofun (by show (if v.category = 1 then _ else _) = _; rw [if_pos hv]) k
theorem s_pop {v : Value} (hc : an_cd mid pc = some (.pop, r1, r2, r3)) (hv : v.category = 1) (k : Rn X d mid (pc + 1) L st σ Q) : Rn X d mid pc L (v :: st) σ Q := rn_ins (q := (pc + 1, L, st, σ)) hc rfl nofun nofun (by show (if v.category = 1 then _ else _) = _; rw [if_pos hv]) k
theorem s_dup_x1 {v w : Value} (hc : an_cd mid pc = some (.dup_x1, r1, r2, r3)) (hv : v.category = 1 ∧ w.category = 1) (k : Rn X d mid (pc + 1) L (v :: w :: v :: st) σ Q) : Rn X d mid pc L (v :: w :: st) σ Q := rn_ins (q := (pc + 1, L, v :: w :: v :: st, σ)) hc rfl nofun nofun (by show (if v.category = 1 ∧ w.category = 1 then _ else _) = _; rw [if_pos hv]) k
theorem s_dup2 {v w : Value} (hc : an_cd mid pc = some (.dup2, r1, r2, r3)) (hv : v.category = 1 ∧ w.category = 1) (k : Rn X d mid (pc + 1) L (v :: w :: v :: w :: st) σ Q) : Rn X d mid pc L (v :: w :: st) σ Q := rn_ins (q := (pc + 1, L, v :: w :: v :: w :: st, σ)) hc rfl nofun nofun (by show (if v.category = 1 ∧ w.category = 1 then _ else _) = _; rw [if_pos hv]) k
theorem s_goto {off : Int} {tgt : Nat} (hc : an_cd mid pc = some (.goto off, r1, r2, r3)) (ht : (pc : Int) + off = tgt) (k : Rn X d mid tgt L st σ Q) : Rn X d mid pc L st σ Q := rn_ins (q := (tgt, L, st, σ)) hc rfl nofun nofun (by show am_to pc off L st σ = _; unfold am_to; rw [ht, if_pos (by omega)]; rfl) k
theorem s_br {c : Prop} [Decidable c] {off : Int} {tgt : Nat} {i : Instr} {st0 : List Value} (hc : an_cd mid pc = some (i, r1, r2, r3)) (hi : am_isCall i r1 = false) (h1 : i ≠ .return_) (h2 : i ≠ .ireturn) (h : am_ins X an_ec d i r1 r2 r3 pc L st0 σ = am_br (decide c) pc off L st σ) (ht : (pc : Int) + off = tgt) (k1 : c → Rn X d mid tgt L st σ Q) (k2 : ¬ c → Rn X d mid (pc + 3) L st σ Q) : Rn X d mid pc L st0 σ Q := by
  unfold am_br at h
  rw [ht, if_pos (by omega)] at h
  by_cases hc' : c
  · rw [decide_eq_true hc', if_pos rfl] at h
    exact rn_ins hc hi h1 h2 h (k1 hc')
  · rw [decide_eq_false hc', if_neg (by decide)] at h
    exact rn_ins hc hi h1 h2 h (k2 hc')
theorem s_if_eq {x off : Int} {tgt : Nat} (hc : an_cd mid pc = some (.ifCond .eq off, r1, r2, r3)) (ht : (pc : Int) + off = tgt) (hz : Zr x) (k1 : x = 0 → Rn X d mid tgt L st σ Q) (k2 : ¬ (x = 0) → Rn X d mid (pc + 3) L st σ Q) : Rn X d mid pc L (.int (iz x) :: st) σ Q := by
  have hz0 : Zr 0 := by constructor <;> decide
  have e : (iz x = 0) ↔ (x = 0) := iz_eq hz hz0
  exact s_br (c := iz x = 0) hc rfl nofun nofun rfl ht (fun h => k1 (e.mp h)) (fun h => k2 (fun g => h (e.mpr g)))
theorem s_if_ne {x off : Int} {tgt : Nat} (hc : an_cd mid pc = some (.ifCond .ne off, r1, r2, r3)) (ht : (pc : Int) + off = tgt) (hz : Zr x) (k1 : ¬ x = 0 → Rn X d mid tgt L st σ Q) (k2 : ¬ (¬ x = 0) → Rn X d mid (pc + 3) L st σ Q) : Rn X d mid pc L (.int (iz x) :: st) σ Q := by
  have hz0 : Zr 0 := by constructor <;> decide
  have e : (¬ iz x = 0) ↔ (¬ x = 0) := not_congr (iz_eq hz hz0)
  exact s_br (c := ¬ iz x = 0) hc rfl nofun nofun rfl ht (fun h => k1 (e.mp h)) (fun h => k2 (fun g => h (e.mpr g)))
theorem s_if_lt {x off : Int} {tgt : Nat} (hc : an_cd mid pc = some (.ifCond .lt off, r1, r2, r3)) (ht : (pc : Int) + off = tgt) (hz : Zr x) (k1 : x < 0 → Rn X d mid tgt L st σ Q) (k2 : ¬ (x < 0) → Rn X d mid (pc + 3) L st σ Q) : Rn X d mid pc L (.int (iz x) :: st) σ Q := by
  have hz0 : Zr 0 := by constructor <;> decide
  have e : (iz x < 0) ↔ (x < 0) := iz_lt hz hz0
  exact s_br (c := iz x < 0) hc rfl nofun nofun rfl ht (fun h => k1 (e.mp h)) (fun h => k2 (fun g => h (e.mpr g)))
theorem s_if_ge {x off : Int} {tgt : Nat} (hc : an_cd mid pc = some (.ifCond .ge off, r1, r2, r3)) (ht : (pc : Int) + off = tgt) (hz : Zr x) (k1 : 0 ≤ x → Rn X d mid tgt L st σ Q) (k2 : ¬ (0 ≤ x) → Rn X d mid (pc + 3) L st σ Q) : Rn X d mid pc L (.int (iz x) :: st) σ Q := by
  have hz0 : Zr 0 := by constructor <;> decide
  have e : (0 ≤ iz x) ↔ (0 ≤ x) := iz_le hz0 hz
  exact s_br (c := 0 ≤ iz x) hc rfl nofun nofun rfl ht (fun h => k1 (e.mp h)) (fun h => k2 (fun g => h (e.mpr g)))
theorem s_if_gt {x off : Int} {tgt : Nat} (hc : an_cd mid pc = some (.ifCond .gt off, r1, r2, r3)) (ht : (pc : Int) + off = tgt) (hz : Zr x) (k1 : 0 < x → Rn X d mid tgt L st σ Q) (k2 : ¬ (0 < x) → Rn X d mid (pc + 3) L st σ Q) : Rn X d mid pc L (.int (iz x) :: st) σ Q := by
  have hz0 : Zr 0 := by constructor <;> decide
  have e : (0 < iz x) ↔ (0 < x) := iz_lt hz0 hz
  exact s_br (c := 0 < iz x) hc rfl nofun nofun rfl ht (fun h => k1 (e.mp h)) (fun h => k2 (fun g => h (e.mpr g)))
theorem s_if_le {x off : Int} {tgt : Nat} (hc : an_cd mid pc = some (.ifCond .le off, r1, r2, r3)) (ht : (pc : Int) + off = tgt) (hz : Zr x) (k1 : x ≤ 0 → Rn X d mid tgt L st σ Q) (k2 : ¬ (x ≤ 0) → Rn X d mid (pc + 3) L st σ Q) : Rn X d mid pc L (.int (iz x) :: st) σ Q := by
  have hz0 : Zr 0 := by constructor <;> decide
  have e : (iz x ≤ 0) ↔ (x ≤ 0) := iz_le hz hz0
  exact s_br (c := iz x ≤ 0) hc rfl nofun nofun rfl ht (fun h => k1 (e.mp h)) (fun h => k2 (fun g => h (e.mpr g)))
theorem s_ic_eq {x y off : Int} {tgt : Nat} (hc : an_cd mid pc = some (.if_icmp .eq off, r1, r2, r3)) (ht : (pc : Int) + off = tgt) (hx : Zr x) (hy : Zr y) (k1 : x = y → Rn X d mid tgt L st σ Q) (k2 : ¬ (x = y) → Rn X d mid (pc + 3) L st σ Q) : Rn X d mid pc L (.int (iz y) :: .int (iz x) :: st) σ Q := by
  have e : (iz x = iz y) ↔ (x = y) := iz_eq hx hy
  exact s_br (c := iz x = iz y) hc rfl nofun nofun rfl ht (fun h => k1 (e.mp h)) (fun h => k2 (fun g => h (e.mpr g)))
theorem s_ic_ne {x y off : Int} {tgt : Nat} (hc : an_cd mid pc = some (.if_icmp .ne off, r1, r2, r3)) (ht : (pc : Int) + off = tgt) (hx : Zr x) (hy : Zr y) (k1 : ¬ x = y → Rn X d mid tgt L st σ Q) (k2 : ¬ (¬ x = y) → Rn X d mid (pc + 3) L st σ Q) : Rn X d mid pc L (.int (iz y) :: .int (iz x) :: st) σ Q := by
  have e : (¬ iz x = iz y) ↔ (¬ x = y) := not_congr (iz_eq hx hy)
  exact s_br (c := ¬ iz x = iz y) hc rfl nofun nofun rfl ht (fun h => k1 (e.mp h)) (fun h => k2 (fun g => h (e.mpr g)))
theorem s_ic_lt {x y off : Int} {tgt : Nat} (hc : an_cd mid pc = some (.if_icmp .lt off, r1, r2, r3)) (ht : (pc : Int) + off = tgt) (hx : Zr x) (hy : Zr y) (k1 : x < y → Rn X d mid tgt L st σ Q) (k2 : ¬ (x < y) → Rn X d mid (pc + 3) L st σ Q) : Rn X d mid pc L (.int (iz y) :: .int (iz x) :: st) σ Q := by
  have e : (iz x < iz y) ↔ (x < y) := iz_lt hx hy
  exact s_br (c := iz x < iz y) hc rfl nofun nofun rfl ht (fun h => k1 (e.mp h)) (fun h => k2 (fun g => h (e.mpr g)))
theorem s_ic_ge {x y off : Int} {tgt : Nat} (hc : an_cd mid pc = some (.if_icmp .ge off, r1, r2, r3)) (ht : (pc : Int) + off = tgt) (hx : Zr x) (hy : Zr y) (k1 : y ≤ x → Rn X d mid tgt L st σ Q) (k2 : ¬ (y ≤ x) → Rn X d mid (pc + 3) L st σ Q) : Rn X d mid pc L (.int (iz y) :: .int (iz x) :: st) σ Q := by
  have e : (iz y ≤ iz x) ↔ (y ≤ x) := iz_le hy hx
  exact s_br (c := iz y ≤ iz x) hc rfl nofun nofun rfl ht (fun h => k1 (e.mp h)) (fun h => k2 (fun g => h (e.mpr g)))
theorem s_ic_gt {x y off : Int} {tgt : Nat} (hc : an_cd mid pc = some (.if_icmp .gt off, r1, r2, r3)) (ht : (pc : Int) + off = tgt) (hx : Zr x) (hy : Zr y) (k1 : y < x → Rn X d mid tgt L st σ Q) (k2 : ¬ (y < x) → Rn X d mid (pc + 3) L st σ Q) : Rn X d mid pc L (.int (iz y) :: .int (iz x) :: st) σ Q := by
  have e : (iz y < iz x) ↔ (y < x) := iz_lt hy hx
  exact s_br (c := iz y < iz x) hc rfl nofun nofun rfl ht (fun h => k1 (e.mp h)) (fun h => k2 (fun g => h (e.mpr g)))
theorem s_ic_le {x y off : Int} {tgt : Nat} (hc : an_cd mid pc = some (.if_icmp .le off, r1, r2, r3)) (ht : (pc : Int) + off = tgt) (hx : Zr x) (hy : Zr y) (k1 : x ≤ y → Rn X d mid tgt L st σ Q) (k2 : ¬ (x ≤ y) → Rn X d mid (pc + 3) L st σ Q) : Rn X d mid pc L (.int (iz y) :: .int (iz x) :: st) σ Q := by
  have e : (iz x ≤ iz y) ↔ (x ≤ y) := iz_le hx hy
  exact s_br (c := iz x ≤ iz y) hc rfl nofun nofun rfl ht (fun h => k1 (e.mp h)) (fun h => k2 (fun g => h (e.mpr g)))
theorem s_tsw_at {dflt lo hi x v off : Int} {offs : Array Int} {tgt : Nat} (hc : an_cd mid pc = some (.tableswitch dflt lo hi offs, r1, r2, r3)) (hz : Zr x) (hx : x = v) (hv : lo ≤ v ∧ v ≤ hi) (ho : offs[(v - lo).toNat]? = some off) (ht : (pc : Int) + off = tgt) (k : Rn X d mid tgt L st σ Q) : Rn X d mid pc L (.int (iz x) :: st) σ Q := by
  refine rn_ins (q := (tgt, L, st, σ)) hc rfl nofun nofun ?_ k
  show (if (iz x).toInt < lo ∨ hi < (iz x).toInt then _ else _) = _
  rw [iz_to hz, hx, if_neg (by omega), ho]
  show am_to pc off L st σ = _
  unfold am_to
  rw [ht, if_pos (by omega)]
  rfl
theorem s_tsw_out {dflt lo hi x : Int} {offs : Array Int} {tgt : Nat} (hc : an_cd mid pc = some (.tableswitch dflt lo hi offs, r1, r2, r3)) (hz : Zr x) (hx : x < lo ∨ hi < x) (ht : (pc : Int) + dflt = tgt) (k : Rn X d mid tgt L st σ Q) : Rn X d mid pc L (.int (iz x) :: st) σ Q := by
  refine rn_ins (q := (tgt, L, st, σ)) hc rfl nofun nofun ?_ k
  show (if (iz x).toInt < lo ∨ hi < (iz x).toInt then _ else _) = _
  rw [iz_to hz, if_pos hx]
  unfold am_to
  rw [ht, if_pos (by omega)]
  rfl
theorem s_lsw {dflt x off : Int} {ps : Array (Int × Int)} {tgt : Nat} (hc : an_cd mid pc = some (.lookupswitch dflt ps, r1, r2, r3)) (hp : (ps.toList.zip (ps.toList.drop 1)).all (fun (a, next) => a.1 < next.1) = true) (hz : Zr x) (ho : Op.lookupswitch.offset ps.toList dflt x = off) (ht : (pc : Int) + off = tgt) (k : Rn X d mid tgt L st σ Q) : Rn X d mid pc L (.int (iz x) :: st) σ Q := by
  refine rn_ins (q := (tgt, L, st, σ)) hc rfl nofun nofun ?_ k
  show (if _ then am_to pc (Op.lookupswitch.offset ps.toList dflt (iz x).toInt) L st σ else none) = _
  rw [if_pos hp, iz_to hz, ho]
  unfold am_to
  rw [ht, if_pos (by omega)]
  rfl
theorem s_getI {a k ci idx : Nat} (hc : an_cd mid pc = some (.getfield idx, ci, k, 0)) (hk : am_kd an_K a = some (.inl ci)) (kk : Rn X d mid (pc + 3) L (.int (iz (m a k)) :: st) (SS m J P) Q) : Rn X d mid pc L (.ref a :: st) (SS m J P) Q := rn_ins (q := (pc + 3, L, .int (iz (m a k)) :: st, SS m J P)) hc rfl nofun nofun (by show (if am_kd an_K a = some (.inl ci) then _ else _) = _; rw [if_pos hk]; rfl) kk
theorem s_getZ {a k ci idx : Nat} (hc : an_cd mid pc = some (.getfield idx, ci, k, 3)) (hk : am_kd an_K a = some (.inl ci)) (kk : Rn X d mid (pc + 3) L (.int (iz (m a k)) :: st) (SS m J P) Q) : Rn X d mid pc L (.ref a :: st) (SS m J P) Q := rn_ins (q := (pc + 3, L, .int (iz (m a k)) :: st, SS m J P)) hc rfl nofun nofun (by show (if am_kd an_K a = some (.inl ci) then _ else _) = _; rw [if_pos hk]; rfl) kk
theorem s_getJ {a k ci idx : Nat} (hc : an_cd mid pc = some (.getfield idx, ci, k, 1)) (hk : am_kd an_K a = some (.inl ci)) (kk : Rn X d mid (pc + 3) L (.long (J a k) :: st) (SS m J P) Q) : Rn X d mid pc L (.ref a :: st) (SS m J P) Q := rn_ins (q := (pc + 3, L, .long (J a k) :: st, SS m J P)) hc rfl nofun nofun (by show (if am_kd an_K a = some (.inl ci) then _ else _) = _; rw [if_pos hk]; rfl) kk
theorem s_getA {a k ci idx q : Nat} (hc : an_cd mid pc = some (.getfield idx, ci, k, 2)) (hk : am_kd an_K a = some (.inl ci)) (hp : P a k = some q) (kk : Rn X d mid (pc + 3) L (.ref q :: st) (SS m J P) Q) : Rn X d mid pc L (.ref a :: st) (SS m J P) Q := rn_ins (q := (pc + 3, L, .ref q :: st, SS m J P)) hc rfl nofun nofun (by
  show (if am_kd an_K a = some (.inl ci) then some (pc + 3, L, va_rf (P a k) :: st, SS m J P) else _) = _
  rw [if_pos hk, hp]; rfl) kk
theorem s_putI {a k ci idx : Nat} {v : Int} (hc : an_cd mid pc = some (.putfield idx, ci, k, 0)) (hk : am_kd an_K a = some (.inl ci)) (kk : Rn X d mid (pc + 3) L st (SS (mu m a k v) J P) Q) : Rn X d mid pc L (.int (iz v) :: .ref a :: st) (SS m J P) Q := rn_ins (q := (pc + 3, L, st, SS (mu m a k v) J P)) hc rfl nofun nofun (by
  show (if am_kd an_K a = some (.inl ci) then _ else _) = _
  rw [if_pos hk, ← SS_mu]; rfl) kk
theorem s_putZ {a k ci idx : Nat} {v : Int} (hc : an_cd mid pc = some (.putfield idx, ci, k, 3)) (hk : am_kd an_K a = some (.inl ci)) (hv : v = 0 ∨ v = 1) (kk : Rn X d mid (pc + 3) L st (SS (mu m a k v) J P) Q) : Rn X d mid pc L (.int (iz v) :: .ref a :: st) (SS m J P) Q := rn_ins (q := (pc + 3, L, st, SS (mu m a k v) J P)) hc rfl nofun nofun (by
  have hv2 : iz v = 0 ∨ iz v = 1 := by rcases hv with rfl | rfl <;> decide
  show (if am_kd an_K a = some (.inl ci) then Option.bind (if iz v = 0 ∨ iz v = 1 then _ else _) _ else _) = _
  rw [if_pos hk, if_pos hv2, ← SS_mu]; rfl) kk
theorem s_putJ {a k ci idx : Nat} {v : Int64} (hc : an_cd mid pc = some (.putfield idx, ci, k, 1)) (hk : am_kd an_K a = some (.inl ci)) (kk : Rn X d mid (pc + 3) L st (SS m (mju J a k v) P) Q) : Rn X d mid pc L (.long v :: .ref a :: st) (SS m J P) Q := rn_ins (q := (pc + 3, L, st, SS m (mju J a k v) P)) hc rfl nofun nofun (by
  show (if am_kd an_K a = some (.inl ci) then _ else _) = _
  rw [if_pos hk, ← SS_mju]; rfl) kk
theorem s_putA {a k ci idx v : Nat} (hc : an_cd mid pc = some (.putfield idx, ci, k, 2)) (hk : am_kd an_K a = some (.inl ci)) (kk : Rn X d mid (pc + 3) L st (SS m J (mpu P a k (some v))) Q) : Rn X d mid pc L (.ref v :: .ref a :: st) (SS m J P) Q := rn_ins (q := (pc + 3, L, st, SS m J (mpu P a k (some v)))) hc rfl nofun nofun (by
  show (if am_kd an_K a = some (.inl ci) then _ else _) = _
  rw [if_pos hk, ← SS_mpu]; rfl) kk
theorem s_iald {a n : Nat} {x : Int} (hc : an_cd mid pc = some (.iaload, r1, r2, r3)) (hk : am_kd an_K a = some (.inr (0, n))) (hn : n ≤ 100000) (hb : 0 ≤ x ∧ x < n) (kk : Rn X d mid (pc + 1) L (.int (iz (m a x.toNat)) :: st) (SS m J P) Q) : Rn X d mid pc L (.int (iz x) :: .ref a :: st) (SS m J P) Q := rn_ins (q := (pc + 1, L, .int (iz (m a x.toNat)) :: st, SS m J P)) hc rfl nofun nofun (by
  obtain ⟨h1, h2⟩ := iz_in hn hb
  have ha : ¬ a = 0 := by intro e; subst e; cases hk
  show (if a = 0 then _ else am_rw (am_kd an_K a) _) = _
  rw [if_neg ha, hk]
  show (if 0 = 0 then (if iz x < 0 ∨ n ≤ (iz x).toNatClampNeg then none else some (pc + 1, L, .int (iz (m a (iz x).toNatClampNeg)) :: st, SS m J P)) else none) = _
  rw [if_pos rfl, if_neg h1, h2]) kk
theorem s_bald {a n t : Nat} {x : Int} (hc : an_cd mid pc = some (.baload, r1, r2, r3)) (hk : am_kd an_K a = some (.inr (t, n))) (ht : t = 1 ∨ t = 2) (hn : n ≤ 100000) (hb : 0 ≤ x ∧ x < n) (kk : Rn X d mid (pc + 1) L (.int (iz (m a x.toNat)) :: st) (SS m J P) Q) : Rn X d mid pc L (.int (iz x) :: .ref a :: st) (SS m J P) Q := rn_ins (q := (pc + 1, L, .int (iz (m a x.toNat)) :: st, SS m J P)) hc rfl nofun nofun (by
  obtain ⟨h1, h2⟩ := iz_in hn hb
  show am_rw (am_kd an_K a) _ = _
  rw [hk]
  show (if t = 1 ∨ t = 2 then (if iz x < 0 ∨ n ≤ (iz x).toNatClampNeg then none else some (pc + 1, L, .int (iz (m a (iz x).toNatClampNeg)) :: st, SS m J P)) else none) = _
  rw [if_pos ht, if_neg h1, h2]) kk
theorem s_lald {a n : Nat} {x : Int} (hc : an_cd mid pc = some (.laload, r1, r2, r3)) (hk : am_kd an_K a = some (.inr (3, n))) (hn : n ≤ 100000) (hb : 0 ≤ x ∧ x < n) (kk : Rn X d mid (pc + 1) L (.long (J a x.toNat) :: st) (SS m J P) Q) : Rn X d mid pc L (.int (iz x) :: .ref a :: st) (SS m J P) Q := rn_ins (q := (pc + 1, L, .long (J a x.toNat) :: st, SS m J P)) hc rfl nofun nofun (by
  obtain ⟨h1, h2⟩ := iz_in hn hb
  show am_rw (am_kd an_K a) _ = _
  rw [hk]
  show (if 3 = 3 then (if iz x < 0 ∨ n ≤ (iz x).toNatClampNeg then none else some (pc + 1, L, .long (J a (iz x).toNatClampNeg) :: st, SS m J P)) else none) = _
  rw [if_pos rfl, if_neg h1, h2]) kk
theorem s_aald {a n q : Nat} {x : Int} (hc : an_cd mid pc = some (.aaload, r1, r2, r3)) (hk : am_kd an_K a = some (.inr (4, n))) (hn : n ≤ 100000) (hb : 0 ≤ x ∧ x < n) (hp : P a x.toNat = some q) (kk : Rn X d mid (pc + 1) L (.ref q :: st) (SS m J P) Q) : Rn X d mid pc L (.int (iz x) :: .ref a :: st) (SS m J P) Q := rn_ins (q := (pc + 1, L, .ref q :: st, SS m J P)) hc rfl nofun nofun (by
  obtain ⟨h1, h2⟩ := iz_in hn hb
  show am_rw (am_kd an_K a) _ = _
  rw [hk]
  show (if 4 = 4 then (if iz x < 0 ∨ n ≤ (iz x).toNatClampNeg then none else some (pc + 1, L, va_rf (P a (iz x).toNatClampNeg) :: st, SS m J P)) else none) = _
  rw [if_pos rfl, if_neg h1, h2, hp]; rfl) kk
theorem s_iast {a n : Nat} {x v : Int} (hc : an_cd mid pc = some (.iastore, r1, r2, r3)) (hk : am_kd an_K a = some (.inr (0, n))) (hn : n ≤ 100000) (hb : 0 ≤ x ∧ x < n) (kk : Rn X d mid (pc + 1) L st (SS (mu m a x.toNat v) J P) Q) : Rn X d mid pc L (.int (iz v) :: .int (iz x) :: .ref a :: st) (SS m J P) Q := rn_ins (q := (pc + 1, L, st, SS (mu m a x.toNat v) J P)) hc rfl nofun nofun (by
  obtain ⟨h1, h2⟩ := iz_in hn hb
  show am_rw (am_kd an_K a) _ = _
  rw [hk]
  show (if 0 = 0 then (if iz x < 0 ∨ n ≤ (iz x).toNatClampNeg then none else _) else none) = _
  rw [if_pos rfl, if_neg h1, h2, ← SS_mu]) kk
theorem s_bast {a n t : Nat} {x v : Int} (hc : an_cd mid pc = some (.bastore, r1, r2, r3)) (hk : am_kd an_K a = some (.inr (t, n))) (hv : (t = 1 ∧ zi2b v = v ∧ Zr v) ∨ (t = 2 ∧ (v = 0 ∨ v = 1))) (hn : n ≤ 100000) (hb : 0 ≤ x ∧ x < n) (kk : Rn X d mid (pc + 1) L st (SS (mu m a x.toNat v) J P) Q) : Rn X d mid pc L (.int (iz v) :: .int (iz x) :: .ref a :: st) (SS m J P) Q := rn_ins (q := (pc + 1, L, st, SS (mu m a x.toNat v) J P)) hc rfl nofun nofun (by
  obtain ⟨h1, h2⟩ := iz_in hn hb
  have hv2 : (t = 1 ∧ (iz v).toInt8.toInt32 = iz v) ∨ (t = 2 ∧ (iz v = 0 ∨ iz v = 1)) := by
    rcases hv with ⟨e1, e2, e3⟩ | ⟨e1, e2⟩
    · exact Or.inl ⟨e1, by rw [← Int32.toInt_inj, iz_to e3]; exact e2⟩
    · exact Or.inr ⟨e1, by rcases e2 with rfl | rfl <;> decide⟩
  show am_rw (am_kd an_K a) _ = _
  rw [hk]
  show (if (t = 1 ∧ (iz v).toInt8.toInt32 = iz v) ∨ (t = 2 ∧ (iz v = 0 ∨ iz v = 1)) then (if iz x < 0 ∨ n ≤ (iz x).toNatClampNeg then none else _) else none) = _
  rw [if_pos hv2, if_neg h1, h2, ← SS_mu]) kk
theorem s_last {a n : Nat} {x : Int} {v : Int64} (hc : an_cd mid pc = some (.lastore, r1, r2, r3)) (hk : am_kd an_K a = some (.inr (3, n))) (hn : n ≤ 100000) (hb : 0 ≤ x ∧ x < n) (kk : Rn X d mid (pc + 1) L st (SS m (mju J a x.toNat v) P) Q) : Rn X d mid pc L (.long v :: .int (iz x) :: .ref a :: st) (SS m J P) Q := rn_ins (q := (pc + 1, L, st, SS m (mju J a x.toNat v) P)) hc rfl nofun nofun (by
  obtain ⟨h1, h2⟩ := iz_in hn hb
  show am_rw (am_kd an_K a) _ = _
  rw [hk]
  show (if 3 = 3 then (if iz x < 0 ∨ n ≤ (iz x).toNatClampNeg then none else _) else none) = _
  rw [if_pos rfl, if_neg h1, h2, ← SS_mju]) kk
theorem s_alen {a n t : Nat} (hc : an_cd mid pc = some (.arraylength, r1, r2, r3)) (hk : am_kd an_K a = some (.inr (t, n))) (ht : t ≤ 4) (kk : Rn X d mid (pc + 1) L (.int (iz n) :: st) (SS m J P) Q) : Rn X d mid pc L (.ref a :: st) (SS m J P) Q := rn_ins (q := (pc + 1, L, .int (iz n) :: st, SS m J P)) hc rfl nofun nofun (by
  have ha : ¬ a = 0 := by intro e; subst e; cases hk
  show (if a = 0 then _ else am_rw (am_kd an_K a) _) = _
  rw [if_neg ha, hk]
  show (if t ≤ 4 then some (pc + 1, L, .int (Int32.ofNat n) :: st, SS m J P) else none) = _
  rw [if_pos ht, iz_nat]) kk
theorem s_max {idx : Nat} {x y : Int} (hc : an_cd mid pc = some (.invokestatic idx, 5, r2, r3)) (hx : Zr x) (hy : Zr y) (ht : am_ct st ≤ 8) (kk : Rn X (d + 1) mid (pc + 3) L (.int (iz (if x < y then y else x)) :: st) σ Q) : Rn X (d + 1) mid pc L (.int (iz y) :: .int (iz x) :: st) σ Q := rn_ins (q := (pc + 3, L, .int (iz (if x < y then y else x)) :: st, σ)) hc rfl nofun nofun (by
  show (if 1 ≤ d + 1 ∧ am_ct st ≤ 8 then some (pc + 3, L, .int (if iz x < iz y then iz y else iz x) :: st, σ) else none) = _
  rw [if_pos ⟨by omega, ht⟩]
  by_cases h : x < y
  · rw [if_pos h, if_pos ((iz_lt hx hy).mpr h)]
  · rw [if_neg h, if_neg (fun g => h ((iz_lt hx hy).mp g))]) kk
theorem s_min {idx : Nat} {x y : Int} (hc : an_cd mid pc = some (.invokestatic idx, 6, r2, r3)) (hx : Zr x) (hy : Zr y) (ht : am_ct st ≤ 8) (kk : Rn X (d + 1) mid (pc + 3) L (.int (iz (if y < x then y else x)) :: st) σ Q) : Rn X (d + 1) mid pc L (.int (iz y) :: .int (iz x) :: st) σ Q := rn_ins (q := (pc + 3, L, .int (iz (if y < x then y else x)) :: st, σ)) hc rfl nofun nofun (by
  show (if 1 ≤ d + 1 ∧ am_ct st ≤ 8 then some (pc + 3, L, .int (if iz y < iz x then iz y else iz x) :: st, σ) else none) = _
  rw [if_pos ⟨by omega, ht⟩]
  by_cases h : y < x
  · rw [if_pos h, if_pos ((iz_lt hy hx).mpr h)]
  · rw [if_neg h, if_neg (fun g => h ((iz_lt hy hx).mp g))]) kk
theorem s_acpy {idx a0 a n0 n1 : Nat} {sp dp n : Int} (hc : an_cd mid pc = some (.invokestatic idx, 7, r2, r3)) (hk0 : am_kd an_K a0 = some (.inr (0, n0))) (hk1 : am_kd an_K a = some (.inr (0, n1))) (b0 : n0 ≤ 100000) (b1 : n1 ≤ 100000) (ht : am_ct st ≤ 8) (hb : 0 ≤ sp ∧ 0 ≤ dp ∧ 0 ≤ n ∧ sp + n ≤ n0 ∧ dp + n ≤ n1) (kk : Rn X (d + 1) mid (pc + 3) L st (SS (mcp m a0 a sp.toNat dp.toNat n.toNat) J P) Q) : Rn X (d + 1) mid pc L (.int (iz n) :: .int (iz dp) :: .ref a :: .int (iz sp) :: .ref a0 :: st) (SS m J P) Q := rn_ins (q := (pc + 3, L, st, SS (mcp m a0 a sp.toNat dp.toNat n.toNat) J P)) hc rfl nofun nofun (by
  obtain ⟨h1, h2, h3, h4, h5⟩ := hb
  have z1 : Zr sp := by constructor <;> omega
  have z2 : Zr dp := by constructor <;> omega
  have z3 : Zr n := by constructor <;> omega
  have z0 : Zr 0 := by constructor <;> decide
  have g1 : ¬ iz sp < 0 := fun h => by have := (iz_lt z1 z0).mp h; omega
  have g2 : ¬ iz dp < 0 := fun h => by have := (iz_lt z2 z0).mp h; omega
  have g3 : ¬ iz n < 0 := fun h => by have := (iz_lt z3 z0).mp h; omega
  show (if 1 ≤ d + 1 ∧ am_ct st ≤ 8 ∧ ¬ iz sp < 0 ∧ ¬ iz dp < 0 ∧ ¬ iz n < 0 then am_rw (am_kd an_K a0) _ else none) = _
  rw [if_pos ⟨by omega, ht, g1, g2, g3⟩, hk0]
  show am_rw (am_kd an_K a) _ = _
  rw [hk1]
  show (if 0 = 0 ∧ 0 = 0 ∧ (iz sp).toNatClampNeg + (iz n).toNatClampNeg ≤ n0 ∧ (iz dp).toNatClampNeg + (iz n).toNatClampNeg ≤ n1 then _ else none) = _
  rw [iz_cl z1, iz_cl z2, iz_cl z3, if_pos ⟨rfl, rfl, by omega, by omega⟩]
  congr 5
  simp only [SS, Prod.mk.injEq, true_and, and_true]
  funext x y
  by_cases hx : x = a
  · subst hx
    simp only [if_true, va_cpy, mcp, true_and]
    split <;> rfl
  · simp [hx, mcp]) kk
theorem s_ci {i : Instr} {as : List Value} (hc : an_cd mid pc = some (i, r1, r2, r3)) (hi : am_isCall i r1 = true) (ha : am_ca i r1 r3 st an_K = some (as, t)) (ht : am_ct t ≤ 8) (k : Ci X d r2 as m J P (fun z m' J' P' => Rn X (d + 1) mid (pc + 3) L (.int (iz z) :: t) (SS m' J' P') Q)) : Rn X (d + 1) mid pc L st (SS m J P) Q :=
  rn_c (an_cd_mt hc) hc hi ha ht k fun v τ ⟨z, m', J', P', h1, h2, h3⟩ => by rw [h1, h2]; exact h3
theorem s_cv {i : Instr} {as : List Value} (hc : an_cd mid pc = some (i, r1, r2, r3)) (hi : am_isCall i r1 = true) (ha : am_ca i r1 r3 st an_K = some (as, t)) (ht : am_ct t ≤ 8) (k : Cv X d r2 as m J P (fun m' J' P' => Rn X (d + 1) mid (pc + 3) L t (SS m' J' P') Q)) : Rn X (d + 1) mid pc L st (SS m J P) Q :=
  rn_c (an_cd_mt hc) hc hi ha ht k fun v τ ⟨m', J', P', h1, h2, h3⟩ => by rw [h1, h2]; exact h3
theorem s_reti {z : Int} {post : Int → Mi → Mj → Mp → Prop} (hc : an_cd mid pc = some (.ireturn, r1, r2, r3)) (hM : (an_mtf mid).map (fun M => M.2.2.2.1) = some (some .int)) (h : post z m J P) : Rn X d mid pc L [.int (iz z)] (SS m J P) (QI post) := by
  obtain ⟨M, h1, h2⟩ := Option.map_eq_some_iff.mp hM
  exact rn_i ⟨M, h1, by rw [h2]; rfl⟩ hc ⟨z, m, J, P, rfl, rfl, h⟩
theorem s_retz {z : Int} {post : Int → Mi → Mj → Mp → Prop} (hc : an_cd mid pc = some (.ireturn, r1, r2, r3)) (hM : (an_mtf mid).map (fun M => M.2.2.2.1) = some (some .boolean)) (hz : z = 0 ∨ z = 1) (h : post z m J P) : Rn X d mid pc L [.int (iz z)] (SS m J P) (QI post) := by
  obtain ⟨M, h1, h2⟩ := Option.map_eq_some_iff.mp hM
  exact rn_i ⟨M, h1, by rw [h2]; rcases hz with rfl | rfl <;> decide⟩ hc ⟨z, m, J, P, rfl, rfl, h⟩
theorem s_retv {post : Mi → Mj → Mp → Prop} (hc : an_cd mid pc = some (.return_, r1, r2, r3)) (hM : (an_mtf mid).map (fun M => M.2.2.2.1) = some none) (h : post m J P) : Rn X d mid pc L [] (SS m J P) (QV post) := by
  obtain ⟨M, h1, h2⟩ := Option.map_eq_some_iff.mp hM
  exact rn_v ⟨M, h1, h2⟩ hc ⟨m, J, P, rfl, rfl, h⟩
theorem Ci.of {as : List Value} {post : Int → Mi → Mj → Mp → Prop} {n : Nat} (hN : (an_mtf mid).map (fun M => M.2.2.1) = some n) (hl : am_en as n = L) (hn : L.length = n) (h : Rn X d mid 0 L [] (SS m J P) (QI post)) : Ci X d mid as m J P post := by
  obtain ⟨M, h1, h2⟩ := Option.map_eq_some_iff.mp hN
  subst h2
  exact ⟨M, h1, by rw [hl]; exact hn, by rw [hl]; exact h⟩
theorem Cv.of {as : List Value} {post : Mi → Mj → Mp → Prop} {n : Nat} (hN : (an_mtf mid).map (fun M => M.2.2.1) = some n) (hl : am_en as n = L) (hn : L.length = n) (h : Rn X d mid 0 L [] (SS m J P) (QV post)) : Cv X d mid as m J P post := by
  obtain ⟨M, h1, h2⟩ := Option.map_eq_some_iff.mp hN
  subst h2
  exact ⟨M, h1, by rw [hl]; exact hn, by rw [hl]; exact h⟩
end WP
