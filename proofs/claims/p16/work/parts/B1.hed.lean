/-! OUT: numbers, labels, heads; class and reference -/
section OHD
variable {X : aX} {d : Nat} {P : Mp} {J J' : Mj} {m m' : Mi}
theorem zdiv_nat {a b : Nat} (ha : a < 2 ^ 31) (hb : b < 2 ^ 31) : zdiv (a : Int) (b : Int) = ((a / b : Nat) : Int) := by
  have h3 : a / b ≤ a := Nat.div_le_self _ _
  unfold zdiv
  rw [Int32.toInt_div, iz_to (by constructor <;> omega), iz_to (by constructor <;> omega), Int.tdiv_eq_ediv_of_nonneg (by omega)]
  have : ((a : Int) / (b : Int)) = ((a / b : Nat) : Int) := rfl
  rw [this]
  generalize a / b = q at *
  rw [Int.bmod_eq_of_le] <;> omega
theorem zrem_10 {a : Nat} (ha : a < 2 ^ 31) : zrem (a : Int) 10 = ((a % 10 : Nat) : Int) := by
  have h3 : a / 10 ≤ a := Nat.div_le_self _ _
  have hq : zdiv (a : Int) ((10 : Nat) : Int) = ((a / 10 : Nat) : Int) := zdiv_nat ha (by decide)
  unfold zdiv at hq
  unfold zrem
  rw [Int32.toInt_sub, Int32.toInt_mul]
  rw [show (iz ((10 : Nat) : Int)) = iz 10 from rfl] at hq
  rw [hq, iz_to (by constructor <;> omega), iz_to (by constructor <;> omega)]
  rw [Int.bmod_eq_of_le (n := ((a / 10 : Nat) : Int) * 10) (by omega) (by omega), Int.bmod_eq_of_le (by omega) (by omega)]
  omega
/-- a number's signs -/
def unt (x : Nat) : Nat → Nat → Nat
  | 0, u => u
  | f + 1, u => if x / u < 10 then u else unt x f (u * 10)
def dgs (x : Nat) : Nat → Nat → List Int
  | 0, _ => []
  | f + 1, u => if u = 0 then [] else ((48 + x / u % 10 : Nat) : Int) :: dgs x f (u / 10)
def decs (x : Nat) : List Int := dgs x 10 (unt x 9 1)
theorem dgs_len {x : Nat} : ∀ {f u : Nat}, (dgs x f u).length ≤ f
  | 0, _ => Nat.le_refl _
  | f + 1, u => by
    rw [dgs]
    split
    · rw [List.length_nil]; omega
    · rw [List.length_cons]
      have := dgs_len (x := x) (f := f) (u := u / 10)
      omega
theorem decs_len {x : Nat} : (decs x).length ≤ 10 := dgs_len
theorem unt_lt {x : Nat} : ∀ {f k : Nat}, unt x f (10 ^ k) < 10 ^ (f + k + 1)
  | 0, k => by
    rw [unt, Nat.zero_add]
    exact Nat.pow_lt_pow_right (by decide) (by omega)
  | f + 1, k => by
    rw [unt]
    split
    · exact Nat.pow_lt_pow_right (by decide) (by omega)
    · have := unt_lt (x := x) (f := f) (k := k + 1)
      rw [Nat.pow_succ] at this
      rw [show f + 1 + k + 1 = f + (k + 1) + 1 by omega]
      exact this
theorem pw10 {k : Nat} (h : k ≤ 9) : 0 < 10 ^ k ∧ 10 ^ k < 2 ^ 31 := by
  have : (10 : Nat) ^ k ≤ 10 ^ 9 := Nat.pow_le_pow_right (by decide) h
  have h0 : 0 < (10 : Nat) ^ k := Nat.pow_pos (by decide)
  omega
theorem iz_ne0 {u : Nat} (h : 0 < u) (h2 : u < 2 ^ 31) : ¬ iz (u : Int) = 0 := fun e => by
  have := congrArg Int32.toInt e
  rw [iz_to (by constructor <;> omega)] at this
  have z : (0 : Int32).toInt = 0 := by decide
  omega
theorem c_dgs {x : Nat} {x2 : Int} (hp : PP P) (hx : x < 2 ^ 31) {m0 : Mi} {post : Mi → Mj → Mp → Prop} : ∀ (f u : Nat) (l : List Int) (m : Mi), u < 10 ^ f → u < 2 ^ 31 → OC l m → l.length + f < 1000000 → ocF m0 m → (∀ m', OC (l ++ dgs x f u) m' → ocF m0 m' → post m' J P) → Rn X (d + 1) 88 37 [some (.ref 50), some (.int (iz (x : Int))), some (.int (iz x2)), some (.int (iz (u : Int)))] [] (SS m J P) (QV post) := by
  intro f
  induction f with
  | zero =>
    intro u l m hu _ h1 h2 h3 k
    have u0 : u = 0 := by rw [Nat.pow_zero] at hu; omega
    subst u0
    refine b_Page_writeNumber_37 x x2 _ m J P hp post ⟨by decide, fun _ => ?_, fun g => absurd (by decide) g⟩
    rw [dgs, List.append_nil] at k
    exact k m h1 h3
  | succ f ih =>
    intro u l m hu hu2 h1 h2 h3 k
    refine b_Page_writeNumber_37 x x2 _ m J P hp post ⟨by constructor <;> omega, fun g => ?_, fun g => ⟨iz_ne0 (by omega) hu2, ?_⟩⟩
    · rw [dgs, if_pos (by omega), List.append_nil] at k
      exact k m h1 h3
    · have h4 : x / u ≤ x := Nat.div_le_self _ _
      rw [zdiv_nat hx hu2, zrem_10 (by omega), show (10 : Int) = ((10 : Nat) : Int) from rfl, zdiv_nat hu2 (by decide), show (48 : Int) + ((x / u % 10 : Nat) : Int) = ((48 + x / u % 10 : Nat) : Int) by omega]
      rw [dgs, if_neg (by omega)] at k
      refine c_write hp h1 (by omega) fun m1 w1 w2 => ⟨hp, ?_⟩
      refine ih (u / 10) _ m1 (by rw [Nat.pow_succ] at hu; omega) (by omega) w1 (by rw [List.length_append, List.length_singleton]; omega) (ocF_trans h3 w2) fun m2 v1 v2 => ?_
      rw [List.append_assoc] at v1
      exact k m2 v1 v2
theorem c_writeNumber {x : Nat} {l : List Int} (hp : PP P) (hx : x < 10000) (h : OC l m) (hl : l.length + 20 < 1000000) {post : Mi → Mj → Mp → Prop} (k : ∀ m', OC (l ++ 95 :: decs x) m' → ocF m m' → post m' J P) : Cv X (d + 1) 88 [.ref 50, .int (iz (x : Int))] m J P post := by
  refine Cv.of rfl rfl rfl (b_Page_writeNumber_0 x m J P hp post (c_write hp h (by omega) fun m1 w1 w2 => ⟨hp, ?_⟩))
  have ll : (l ++ [(95 : Int)]).length = l.length + 1 := by rw [List.length_append]; rfl
  have loop : ∀ (f k : Nat), f + k = 9 → unt x 9 1 = unt x f (10 ^ k) → Rn X (d + 1) 88 10 [some (.ref 50), some (.int (iz (x : Int))), some (.int (iz ((10 ^ k : Nat) : Int))), some (.int (iz (k : Int)))] [] (SS m1 J P) (QV post) := by
    intro f
    induction f with
    | zero =>
      intro k1 hk e
      have e9 := unt_lt (x := x) (f := 9) (k := 0)
      rw [show (10 : Nat) ^ 0 = 1 from rfl, e] at e9
      have p := pw10 (k := k1) (by omega)
      refine b_Page_writeNumber_10 x _ _ m1 J P hp post ⟨by constructor <;> omega, fun _ => ?_, fun g => absurd (by omega) g⟩
      refine c_dgs hp (by omega) 10 _ _ m1 e9 p.2 w1 (by omega) w2 fun m2 v1 v2 => ?_
      refine k m2 ?_ v2
      rw [List.append_assoc] at v1
      unfold decs
      rw [e]
      exact v1
    | succ f ih =>
      intro k1 hk e
      have p := pw10 (k := k1) (by omega)
      have h4 : x / 10 ^ k1 ≤ x := Nat.div_le_self _ _
      have eu1 : x / 10 ^ k1 < 10 → unt x (f + 1) (10 ^ k1) = 10 ^ k1 := fun h => by rw [unt, if_pos h]
      have eu2 : ¬ x / 10 ^ k1 < 10 → unt x (f + 1) (10 ^ k1) = unt x f (10 ^ (k1 + 1)) := fun h => by rw [unt, if_neg h, ← Nat.pow_succ]
      refine b_Page_writeNumber_10 x _ _ m1 J P hp post ?_
      rw [zdiv_nat (by omega) p.2]
      generalize x / 10 ^ k1 = q at h4 eu1 eu2 ⊢
      refine ⟨by constructor <;> omega, fun g => absurd g (by omega), fun _ => ⟨iz_ne0 p.1 p.2, by constructor <;> omega, fun g => ?_, fun g => ?_⟩⟩
      · rw [eu1 (by omega)] at e
        have e9 := unt_lt (x := x) (f := 9) (k := 0)
        rw [show (10 : Nat) ^ 0 = 1 from rfl, e] at e9
        refine c_dgs hp (by omega) 10 _ _ m1 e9 p.2 w1 (by omega) w2 fun m2 v1 v2 => ?_
        refine k m2 ?_ v2
        rw [List.append_assoc] at v1
        unfold decs
        rw [e]
        exact v1
      · rw [eu2 (by omega)] at e
        have := ih (k1 + 1) (by omega) e
        rw [Nat.pow_succ] at this
        rw [show ((10 ^ k1 : Nat) : Int) * 10 = ((10 ^ k1 * 10 : Nat) : Int) by omega]
        exact this
  exact loop 9 0 rfl rfl
theorem r_dgs {x v : Nat} (hp : PP P) (hx : x < 2 ^ 31) (hv : v < 800) {m0 : Mi} {post : Mi → Mj → Mp → Prop} : ∀ (f u : Nat) (l : List Int) (m : Mi), m 349 v = (x : Int) → u < 10 ^ f → u < 2 ^ 31 → OR l m → l.length + f < 1000000 → orF m0 m → (∀ m', OR (l ++ dgs x f u) m' → orF m0 m' → post m' J P) → Rn X (d + 2) 190 80 [some (.ref 262), some (.int (iz (v : Int))), some (.int (iz (u : Int)))] [] (SS m J P) (QV post) := by
  intro f
  induction f with
  | zero =>
    intro u l m hm hu _ h1 h2 h3 k
    have u0 : u = 0 := by rw [Nat.pow_zero] at hu; omega
    subst u0
    refine b_Mdl_putVariable_80 v _ m J P hp post ⟨by decide, fun _ => ?_, fun g => absurd (by decide) g⟩
    rw [dgs, List.append_nil] at k
    exact k m h1 h3
  | succ f ih =>
    intro u l m hm hu hu2 h1 h2 h3 k
    refine b_Mdl_putVariable_80 v _ m J P hp post ⟨by constructor <;> omega, fun g => ?_, fun g => ⟨by omega, iz_ne0 (by omega) hu2, ?_⟩⟩
    · rw [dgs, if_pos (by omega), List.append_nil] at k
      exact k m h1 h3
    · have h4 : x / u ≤ x := Nat.div_le_self _ _
      rw [Int.toNat_natCast, hm, zdiv_nat hx hu2, zrem_10 (by omega), show (10 : Int) = ((10 : Nat) : Int) from rfl, zdiv_nat hu2 (by decide), show (48 : Int) + ((x / u % 10 : Nat) : Int) = ((48 + x / u % 10 : Nat) : Int) by omega]
      rw [dgs, if_neg (by omega)] at k
      refine r_put hp h1 (by omega) (by omega) fun m1 w1 w2 => ⟨hp, ?_⟩
      refine ih (u / 10) _ m1 ((w2 _ _ (by decide) (by omega)).trans hm) (by rw [Nat.pow_succ] at hu; omega) (by omega) w1 (by rw [List.length_append, List.length_singleton]; omega) (orF_trans h3 w2) fun m2 v1 v2 => ?_
      rw [List.append_assoc] at v1
      exact k m2 v1 v2
/-- what a VARIABLE with a number is shown as, in the reference -/
theorem r_number {x v : Nat} {l : List Int} (hp : PP P) (hx : x < 10000) (hv : v < 800) {m0 : Mi} (hm : m 349 v = (x : Int)) (h : OR l m) (hl : l.length + 20 < 1000000) (h0 : orF m0 m) {post : Mi → Mj → Mp → Prop} (k : ∀ m', OR (l ++ decs x) m' → orF m0 m' → post m' J P) : Rn X (d + 2) 190 59 [some (.ref 262), some (.int (iz (v : Int))), some (.int (iz 1))] [] (SS m J P) (QV post) := by
  have loop : ∀ (f k : Nat), f + k = 9 → unt x 9 1 = unt x f (10 ^ k) → Rn X (d + 2) 190 59 [some (.ref 262), some (.int (iz (v : Int))), some (.int (iz ((10 ^ k : Nat) : Int)))] [] (SS m J P) (QV post) := by
    intro f
    induction f with
    | zero =>
      intro k1 hk e
      have e9 := unt_lt (x := x) (f := 9) (k := 0)
      rw [show (10 : Nat) ^ 0 = 1 from rfl, e] at e9
      have p := pw10 (k := k1) (by omega)
      have hk1 : k1 = 9 := by omega
      refine b_Mdl_putVariable_59 v _ m J P hp post ?_
      rw [Int.toNat_natCast, hm, zdiv_nat (by omega) p.2]
      have hz : x / 10 ^ k1 = 0 := by rw [hk1]; exact Nat.div_eq_of_lt (by omega)
      rw [hz]
      refine ⟨by omega, iz_ne0 p.1 p.2, by decide, fun _ => ?_, fun g => absurd (by decide) g⟩
      refine r_dgs hp (by omega) hv 10 _ _ m hm e9 p.2 h (by omega) h0 fun m2 v1 v2 => ?_
      refine k m2 ?_ v2
      unfold decs
      rw [e]
      exact v1
    | succ f ih =>
      intro k1 hk e
      have p := pw10 (k := k1) (by omega)
      have h4 : x / 10 ^ k1 ≤ x := Nat.div_le_self _ _
      have eu1 : x / 10 ^ k1 < 10 → unt x (f + 1) (10 ^ k1) = 10 ^ k1 := fun h => by rw [unt, if_pos h]
      have eu2 : ¬ x / 10 ^ k1 < 10 → unt x (f + 1) (10 ^ k1) = unt x f (10 ^ (k1 + 1)) := fun h => by rw [unt, if_neg h, ← Nat.pow_succ]
      refine b_Mdl_putVariable_59 v _ m J P hp post ?_
      rw [Int.toNat_natCast, hm, zdiv_nat (by omega) p.2]
      generalize x / 10 ^ k1 = q at h4 eu1 eu2 ⊢
      refine ⟨by omega, iz_ne0 p.1 p.2, by constructor <;> omega, fun g => ?_, fun g => ?_⟩
      · rw [eu1 (by omega)] at e
        have e9 := unt_lt (x := x) (f := 9) (k := 0)
        rw [show (10 : Nat) ^ 0 = 1 from rfl, e] at e9
        refine r_dgs hp (by omega) hv 10 _ _ m hm e9 p.2 h (by omega) h0 fun m2 v1 v2 => ?_
        refine k m2 ?_ v2
        unfold decs
        rw [e]
        exact v1
      · rw [eu2 (by omega)] at e
        have := ih (k1 + 1) (by omega) e
        rw [Nat.pow_succ] at this
        rw [show ((10 ^ k1 : Nat) : Int) * 10 = ((10 ^ k1 * 10 : Nat) : Int) by omega]
        exact this
  exact loop 9 0 rfl rfl
/-- what a page holds: its signs, what VARIABLES are shown as (a NAME, minus a number, or 0), how many numbers -/
abbrev Ws := List Int × (Nat → Int) × Nat
def lbC (z : Int) : Int64 := if 0 < z then cN z.toNat else Int64.ofInt z
def WC (s : Ws) (m : Mi) (J : Mj) : Prop := OC s.1 m ∧ m 50 3 = (s.2.2 : Int) ∧ ∀ v, v < 800 → J 52 v = lbC (s.2.1 v)
def WR (s : Ws) (m : Mi) (J : Mj) : Prop := OR s.1 m ∧ m 262 139 = (s.2.2 : Int) ∧ ∀ v, v < 800 → J 348 v = (if 0 < s.2.1 v then rN (s.2.1 v).toNat else 0) ∧ m 349 v = if s.2.1 v < 0 then -(s.2.1 v) else 0
/-- after n cells -/
def Wb (n : Nat) (s : Ws) : Prop := (s.1.length ≤ 256 * n ∧ s.2.2 ≤ n ∧ n ≤ 3000) ∧ ∀ v, (0 < s.2.1 v → isN (s.2.1 v).toNat) ∧ -(s.2.2 : Int) ≤ s.2.1 v
def lup (L : Nat → Int) (v : Nat) (z : Int) : Nat → Int := fun w => if w = v then z else L w
def whv (v : Nat) (s : Ws) : Ws := if 0 < s.2.1 v then (s.1 ++ nbs (s.2.1 v).toNat, s.2.1, s.2.2) else if s.2.1 v = 0 then (s.1 ++ 95 :: decs (s.2.2 + 1), lup s.2.1 v (-((s.2.2 : Int) + 1)), s.2.2 + 1) else (s.1 ++ 95 :: decs (-(s.2.1 v)).toNat, s.2.1, s.2.2)
def whd (Sn : Nat → Nat) (c : Int) (s : Ws) : Ws := if 0 ≤ c then (s.1 ++ nbs (Sn c.toNat), s.2.1, s.2.2) else whv (-1 - c).toNat s
/-- one cell more: at most 20 signs -/
theorem Wb_hd {Sn : Nat → Nat} {c : Int} {s : Ws} {n : Nat} (h : Wb n s) (hn : n + 1 ≤ 3000) : (whd Sn c s).1.length ≤ s.1.length + 11 ∧ (whd Sn c s).2.2 ≤ s.2.2 + 1 ∧ ∀ v, (0 < (whd Sn c s).2.1 v → isN ((whd Sn c s).2.1 v).toNat) ∧ -((whd Sn c s).2.2 : Int) ≤ (whd Sn c s).2.1 v := by
  unfold whd whv
  have n1 := @nbs_len
  have n2 := @decs_len
  (repeat' split)
  · refine ⟨?_, Nat.le_succ _, h.2⟩
    have := @n1 (Sn c.toNat)
    show (s.1 ++ nbs (Sn c.toNat)).length ≤ _
    rw [List.length_append]; omega
  · refine ⟨?_, Nat.le_succ _, h.2⟩
    have := @n1 (s.2.1 (-1 - c).toNat).toNat
    show (s.1 ++ nbs (s.2.1 (-1 - c).toNat).toNat).length ≤ _
    rw [List.length_append]; omega
  · refine ⟨?_, Nat.le_refl _, fun v => ?_⟩
    · have := @n2 (s.2.2 + 1)
      show (s.1 ++ 95 :: decs (s.2.2 + 1)).length ≤ _
      rw [List.length_append, List.length_cons]; omega
    · have := h.2 v
      show (0 < lup s.2.1 (-1 - c).toNat (-((s.2.2 : Int) + 1)) v → isN (lup s.2.1 (-1 - c).toNat (-((s.2.2 : Int) + 1)) v).toNat) ∧ -((s.2.2 + 1 : Nat) : Int) ≤ lup s.2.1 (-1 - c).toNat (-((s.2.2 : Int) + 1)) v
      unfold lup
      split
      · exact ⟨fun g => absurd g (by omega), by omega⟩
      · exact ⟨this.1, by omega⟩
  · refine ⟨?_, Nat.le_succ _, h.2⟩
    have := @n2 (-(s.2.1 (-1 - c).toNat)).toNat
    show (s.1 ++ 95 :: decs (-(s.2.1 (-1 - c).toNat)).toNat).length ≤ _
    rw [List.length_append, List.length_cons]; omega
end OHD
