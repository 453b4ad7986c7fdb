/-! THE SMALL MACHINE: the instructions that the class, the reference and the law use, over a flat memory. A reference is an ordinal: 0 is the script, i + 1 the i-th cell made. -/
abbrev am_K : Type := Nat ⊕ (Nat × Nat)
abbrev am_S : Type := List am_K × (Nat → Nat → Int32) × (Nat → Nat → Int64) × (Nat → Nat → Option Nat)
abbrev am_L : Type := List (Option Value)
abbrev am_R : Type := Nat × am_L × List Value × am_S
def am_up {α : Type} (f : Nat → Nat → α) (a k : Nat) (v : α) : Nat → Nat → α := fun x => if x = a then (fun y => if y = k then v else f x y) else f x
def am_z {α : Type} (f : Nat → Nat → α) (a : Nat) (v : α) : Nat → Nat → α := fun x => if x = a then (fun _ => v) else f x
def am_kd (K : List am_K) : Nat → Option am_K
  | 0 => none
  | i + 1 => K[i]?
def am_ld (L : am_L) (k : Nat) : Option Value := match L[k]? with
  | some (some v) => some v
  | _ => none
def am_cl (L : am_L) : Nat → am_L
  | 0 => L
  | j + 1 => match L[j]? with
    | some (some v) => if v.category = 2 then L.set j none else L
    | _ => L
def am_s1 (L : am_L) (k : Nat) (v : Value) : am_L := (am_cl L k).set k (some v)
def am_s2 (L : am_L) (k : Nat) (v : Value) : am_L := ((am_cl L k).set (k + 1) none).set k (some v)
def am_i1 {ρ : Type} (st : List Value) (f : Int32 → List Value → Option ρ) : Option ρ := match st with
  | .int x :: r => f x r
  | _ => none
def am_i2 {ρ : Type} (st : List Value) (f : Int32 → Int32 → List Value → Option ρ) : Option ρ := match st with
  | .int y :: .int x :: r => f x y r
  | _ => none
def am_l1 {ρ : Type} (st : List Value) (f : Int64 → List Value → Option ρ) : Option ρ := match st with
  | .long x :: r => f x r
  | _ => none
def am_l2 {ρ : Type} (st : List Value) (f : Int64 → Int64 → List Value → Option ρ) : Option ρ := match st with
  | .long y :: .long x :: r => f x y r
  | _ => none
def am_li {ρ : Type} (st : List Value) (f : Int64 → Int32 → List Value → Option ρ) : Option ρ := match st with
  | .int y :: .long x :: r => f x y r
  | _ => none
def am_a1 {ρ : Type} (st : List Value) (f : Nat → List Value → Option ρ) : Option ρ := match st with
  | .ref a :: r => f a r
  | _ => none
def am_ai {ρ : Type} (st : List Value) (f : Nat → Int32 → List Value → Option ρ) : Option ρ := match st with
  | .int i :: .ref a :: r => f a i r
  | _ => none
def am_aii {ρ : Type} (st : List Value) (f : Nat → Int32 → Int32 → List Value → Option ρ) : Option ρ := match st with
  | .int x :: .int i :: .ref a :: r => f a i x r
  | _ => none
def am_ail {ρ : Type} (st : List Value) (f : Nat → Int32 → Int64 → List Value → Option ρ) : Option ρ := match st with
  | .long x :: .int i :: .ref a :: r => f a i x r
  | _ => none
def am_aia {ρ : Type} (st : List Value) (f : Nat → Int32 → Nat → List Value → Option ρ) : Option ρ := match st with
  | .ref x :: .int i :: .ref a :: r => f a i x r
  | _ => none
def am_v1 {ρ : Type} (st : List Value) (f : Value → List Value → Option ρ) : Option ρ := match st with
  | v :: r => f v r
  | _ => none
def am_v2 {ρ : Type} (st : List Value) (f : Value → Value → List Value → Option ρ) : Option ρ := match st with
  | v :: w :: r => f v w r
  | _ => none
def am_av {ρ : Type} (st : List Value) (f : Nat → Value → List Value → Option ρ) : Option ρ := match st with
  | v :: .ref a :: r => f a v r
  | _ => none
def am_cp {ρ : Type} (st : List Value) (f : Nat → Int32 → Nat → Int32 → Int32 → List Value → Option ρ) : Option ρ := match st with
  | .int n :: .int dp :: .ref a :: .int sp :: .ref a0 :: r => f a0 sp a dp n r
  | _ => none
def am_ti {ρ : Type} (v : Option Value) (f : Int32 → Option ρ) : Option ρ := match v with
  | some (.int x) => f x
  | _ => none
def am_tl {ρ : Type} (v : Option Value) (f : Int64 → Option ρ) : Option ρ := match v with
  | some (.long x) => f x
  | _ => none
def am_ta {ρ : Type} (v : Option Value) (f : Nat → Option ρ) : Option ρ := match v with
  | some (.ref x) => f x
  | _ => none
def am_rw {ρ : Type} (k : Option am_K) (f : Nat → Nat → Option ρ) : Option ρ := match k with
  | some (.inr (t, n)) => f t n
  | _ => none
def am_to (pc : Nat) (off : Int) (L : am_L) (st : List Value) (σ : am_S) : Option am_R := if 0 ≤ (pc : Int) + off then some (((pc : Int) + off).toNat, L, st, σ) else none
def am_br (c : Bool) (pc : Nat) (off : Int) (L : am_L) (st : List Value) (σ : am_S) : Option am_R := if 0 ≤ (pc : Int) + off then some ((if c = true then ((pc : Int) + off).toNat else pc + 3), L, st, σ) else none
def am_ct (st : List Value) : Nat := (st.map fun v => v.category).sum
def am_fv (σ : am_S) (a k t : Nat) : Value := match t with
  | 1 => .long (σ.2.2.1 a k)
  | 2 => va_rf (σ.2.2.2 a k)
  | _ => .int (σ.2.1 a k)
def am_sf (σ : am_S) (a k t : Nat) (v : Value) : Option am_S := match t, v with
  | 0, .int x => some (σ.1, am_up σ.2.1 a k x, σ.2.2)
  | 3, .int x => if x = 0 ∨ x = 1 then some (σ.1, am_up σ.2.1 a k x, σ.2.2) else none
  | 1, .long x => some (σ.1, σ.2.1, am_up σ.2.2.1 a k x, σ.2.2.2)
  | 2, .null => some (σ.1, σ.2.1, σ.2.2.1, am_up σ.2.2.2 a k none)
  | 2, .ref q => some (σ.1, σ.2.1, σ.2.2.1, am_up σ.2.2.2 a k (some q))
  | _, _ => none
def am_nw (σ : am_S) (k : am_K) : am_S := (σ.1 ++ [k], am_z σ.2.1 (σ.1.length + 1) 0, am_z σ.2.2.1 (σ.1.length + 1) 0, am_z σ.2.2.2 (σ.1.length + 1) none)
def am_out (i : Int32) (n : Nat) : Prop := i < 0 ∨ n ≤ i.toNatClampNeg
def am_sx {ρ : Type} (X : Option (Nat × (Nat → Int32))) (f : Nat → (Nat → Int32) → Option ρ) : Option ρ := match X with
  | some x => f x.1 x.2
  | none => none
/-- one instruction: no call of a method of ours, no return -/
def am_ins (X : Option (Nat × (Nat → Int32))) (ec d : Nat) (i : Instr) (r1 r2 r3 pc : Nat) (L : am_L) (st : List Value) (σ : am_S) : Option am_R := match i with
  | .iconst n => some (pc + 1, L, .int (Int32.ofInt n) :: st, σ)
  | .bipush n => some (pc + 2, L, .int (Int8.ofInt n).toInt32 :: st, σ)
  | .sipush n => some (pc + 3, L, .int (Int16.ofInt n).toInt32 :: st, σ)
  | .lconst n => some (pc + 1, L, .long (Int64.ofNat n) :: st, σ)
  | .ldc _ => some (pc + 2, L, .int (Int32.ofNat r1) :: st, σ)
  | .ldc2_w _ => some (pc + 3, L, .long (Int64.ofNat r1) :: st, σ)
  | .iload_n k => am_ti (am_ld L k) fun x => some (pc + 1, L, .int x :: st, σ)
  | .iload k => am_ti (am_ld L k) fun x => some (pc + 2, L, .int x :: st, σ)
  | .lload_n k => am_tl (am_ld L k) fun x => some (pc + 1, L, .long x :: st, σ)
  | .lload k => am_tl (am_ld L k) fun x => some (pc + 2, L, .long x :: st, σ)
  | .aload_n k => am_ta (am_ld L k) fun x => some (pc + 1, L, .ref x :: st, σ)
  | .aload k => am_ta (am_ld L k) fun x => some (pc + 2, L, .ref x :: st, σ)
  | .istore_n k => am_i1 st fun x r => if (k : Nat) < L.length then some (pc + 1, am_s1 L k (.int x), r, σ) else none
  | .istore k => am_i1 st fun x r => if k < L.length then some (pc + 2, am_s1 L k (.int x), r, σ) else none
  | .lstore_n k => am_l1 st fun x r => if (k : Nat) + 1 < L.length then some (pc + 1, am_s2 L k (.long x), r, σ) else none
  | .lstore k => am_l1 st fun x r => if k + 1 < L.length then some (pc + 2, am_s2 L k (.long x), r, σ) else none
  | .astore_n k => am_a1 st fun x r => if (k : Nat) < L.length then some (pc + 1, am_s1 L k (.ref x), r, σ) else none
  | .astore k => am_a1 st fun x r => if k < L.length then some (pc + 2, am_s1 L k (.ref x), r, σ) else none
  | .iinc k n => am_ti (am_ld L k) fun x => if k < L.length then some (pc + 3, am_s1 L k (.int (x + Int32.ofInt n)), st, σ) else none
  | .iadd => am_i2 st fun x y r => some (pc + 1, L, .int (x + y) :: r, σ)
  | .isub => am_i2 st fun x y r => some (pc + 1, L, .int (x - y) :: r, σ)
  | .imul => am_i2 st fun x y r => some (pc + 1, L, .int (x * y) :: r, σ)
  | .iand => am_i2 st fun x y r => some (pc + 1, L, .int (x &&& y) :: r, σ)
  | .ior => am_i2 st fun x y r => some (pc + 1, L, .int (x ||| y) :: r, σ)
  | .ixor => am_i2 st fun x y r => some (pc + 1, L, .int (x ^^^ y) :: r, σ)
  | .idiv => am_i2 st fun x y r => if y = 0 then none else some (pc + 1, L, .int (x / y) :: r, σ)
  | .irem => am_i2 st fun x y r => if y = 0 then none else some (pc + 1, L, .int (x - x / y * y) :: r, σ)
  | .ishl => am_i2 st fun x y r => some (pc + 1, L, .int (x <<< (y &&& 31)) :: r, σ)
  | .ishr => am_i2 st fun x y r => some (pc + 1, L, .int (x >>> (y &&& 31)) :: r, σ)
  | .iushr => am_i2 st fun x y r => some (pc + 1, L, .int (x.toUInt32 >>> (y.toUInt32 &&& Int32.toUInt32 31)).toInt32 :: r, σ)
  | .ineg => am_i1 st fun x r => some (pc + 1, L, .int (-x) :: r, σ)
  | .i2l => am_i1 st fun x r => some (pc + 1, L, .long x.toInt64 :: r, σ)
  | .i2b => am_i1 st fun x r => some (pc + 1, L, .int x.toInt8.toInt32 :: r, σ)
  | .ladd => am_l2 st fun x y r => some (pc + 1, L, .long (x + y) :: r, σ)
  | .lmul => am_l2 st fun x y r => some (pc + 1, L, .long (x * y) :: r, σ)
  | .land => am_l2 st fun x y r => some (pc + 1, L, .long (x &&& y) :: r, σ)
  | .lor => am_l2 st fun x y r => some (pc + 1, L, .long (x ||| y) :: r, σ)
  | .ldiv => am_l2 st fun x y r => if y = 0 then none else some (pc + 1, L, .long (x / y) :: r, σ)
  | .lrem => am_l2 st fun x y r => if y = 0 then none else some (pc + 1, L, .long (x - x / y * y) :: r, σ)
  | .lcmp => am_l2 st fun x y r => some (pc + 1, L, .int (lg_cmp x y) :: r, σ)
  | .lneg => am_l1 st fun x r => some (pc + 1, L, .long (-x) :: r, σ)
  | .l2i => am_l1 st fun x r => some (pc + 1, L, .int x.toInt32 :: r, σ)
  | .lshl => am_li st fun x y r => some (pc + 1, L, .long (x <<< (y.toInt64 &&& 63)) :: r, σ)
  | .lushr => am_li st fun x y r => some (pc + 1, L, .long (x.toUInt64 >>> (y.toInt64.toUInt64 &&& Int64.toUInt64 63)).toInt64 :: r, σ)
  | .dup => am_v1 st fun v r => if v.category = 1 then some (pc + 1, L, v :: v :: r, σ) else none
  | .pop => am_v1 st fun v r => if v.category = 1 then some (pc + 1, L, r, σ) else none
  | .dup_x1 => am_v2 st fun v w r => if v.category = 1 ∧ w.category = 1 then some (pc + 1, L, v :: w :: v :: r, σ) else none
  | .dup2 => am_v2 st fun v w r => if v.category = 1 ∧ w.category = 1 then some (pc + 1, L, v :: w :: v :: w :: r, σ) else none
  | .goto off => am_to pc off L st σ
  | .ifCond c off => match c with
    | .eq => am_i1 st fun x r => am_br (decide (x = 0)) pc off L r σ
    | .ne => am_i1 st fun x r => am_br (decide (¬ x = 0)) pc off L r σ
    | .lt => am_i1 st fun x r => am_br (decide (x < 0)) pc off L r σ
    | .ge => am_i1 st fun x r => am_br (decide (0 ≤ x)) pc off L r σ
    | .gt => am_i1 st fun x r => am_br (decide (0 < x)) pc off L r σ
    | .le => am_i1 st fun x r => am_br (decide (x ≤ 0)) pc off L r σ
  | .if_icmp c off => match c with
    | .eq => am_i2 st fun x y r => am_br (decide (x = y)) pc off L r σ
    | .ne => am_i2 st fun x y r => am_br (decide (¬ x = y)) pc off L r σ
    | .lt => am_i2 st fun x y r => am_br (decide (x < y)) pc off L r σ
    | .ge => am_i2 st fun x y r => am_br (decide (y ≤ x)) pc off L r σ
    | .gt => am_i2 st fun x y r => am_br (decide (y < x)) pc off L r σ
    | .le => am_i2 st fun x y r => am_br (decide (x ≤ y)) pc off L r σ
  | .tableswitch dflt lo hi offs => am_i1 st fun x r => if x.toInt < lo ∨ hi < x.toInt then am_to pc dflt L r σ else match offs[(x.toInt - lo).toNat]? with
    | some off => am_to pc off L r σ
    | none => none
  | .lookupswitch dflt ps => am_i1 st fun x r => if (ps.toList.zip (ps.toList.drop 1)).all (fun (a, next) => a.1 < next.1) = true then am_to pc (Op.lookupswitch.offset ps.toList dflt x.toInt) L r σ else none
  | .getfield _ => am_a1 st fun a r => if am_kd σ.1 a = some (.inl r1) then some (pc + 3, L, am_fv σ a r2 r3 :: r, σ) else none
  | .putfield _ => am_av st fun a v r => if am_kd σ.1 a = some (.inl r1) then (am_sf σ a r2 r3 v).bind fun τ => some (pc + 3, L, r, τ) else none
  | .iaload => am_ai st fun a i r => if a = 0 then (am_sx X fun n f => if i < 0 ∨ n ≤ i.toNatClampNeg then none else some (pc + 1, L, .int (f i.toNatClampNeg) :: r, σ)) else am_rw (am_kd σ.1 a) fun t n => if t = 0 then (if i < 0 ∨ n ≤ i.toNatClampNeg then none else some (pc + 1, L, .int (σ.2.1 a i.toNatClampNeg) :: r, σ)) else none
  | .baload => am_ai st fun a i r => am_rw (am_kd σ.1 a) fun t n => if t = 1 ∨ t = 2 then (if i < 0 ∨ n ≤ i.toNatClampNeg then none else some (pc + 1, L, .int (σ.2.1 a i.toNatClampNeg) :: r, σ)) else none
  | .laload => am_ai st fun a i r => am_rw (am_kd σ.1 a) fun t n => if t = 3 then (if i < 0 ∨ n ≤ i.toNatClampNeg then none else some (pc + 1, L, .long (σ.2.2.1 a i.toNatClampNeg) :: r, σ)) else none
  | .aaload => am_ai st fun a i r => am_rw (am_kd σ.1 a) fun t n => if t = 4 then (if i < 0 ∨ n ≤ i.toNatClampNeg then none else some (pc + 1, L, va_rf (σ.2.2.2 a i.toNatClampNeg) :: r, σ)) else none
  | .iastore => am_aii st fun a i x r => am_rw (am_kd σ.1 a) fun t n => if t = 0 then (if i < 0 ∨ n ≤ i.toNatClampNeg then none else some (pc + 1, L, r, (σ.1, am_up σ.2.1 a i.toNatClampNeg x, σ.2.2))) else none
  | .bastore => am_aii st fun a i x r => am_rw (am_kd σ.1 a) fun t n => if (t = 1 ∧ x.toInt8.toInt32 = x) ∨ (t = 2 ∧ (x = 0 ∨ x = 1)) then (if i < 0 ∨ n ≤ i.toNatClampNeg then none else some (pc + 1, L, r, (σ.1, am_up σ.2.1 a i.toNatClampNeg x, σ.2.2))) else none
  | .lastore => am_ail st fun a i x r => am_rw (am_kd σ.1 a) fun t n => if t = 3 then (if i < 0 ∨ n ≤ i.toNatClampNeg then none else some (pc + 1, L, r, (σ.1, σ.2.1, am_up σ.2.2.1 a i.toNatClampNeg x, σ.2.2.2))) else none
  | .aastore => am_aia st fun a i x r => am_rw (am_kd σ.1 a) fun t n => if t = 4 ∧ am_kd σ.1 x = some (.inl ec) then (if i < 0 ∨ n ≤ i.toNatClampNeg then none else some (pc + 1, L, r, (σ.1, σ.2.1, σ.2.2.1, am_up σ.2.2.2 a i.toNatClampNeg (some x)))) else none
  | .arraylength => am_a1 st fun a r => if a = 0 then (am_sx X fun n _ => some (pc + 1, L, .int (Int32.ofNat n) :: r, σ)) else am_rw (am_kd σ.1 a) fun t n => if t ≤ 4 then some (pc + 1, L, .int (Int32.ofNat n) :: r, σ) else none
  | .new _ => some (pc + 3, L, .ref (σ.1.length + 1) :: st, am_nw σ (.inl r1))
  | .newarray _ => am_i1 st fun x r => if x < 0 ∨ 100000 < x.toNatClampNeg then none else some (pc + 2, L, .ref (σ.1.length + 1) :: r, am_nw σ (.inr (r1, x.toNatClampNeg)))
  | .anewarray _ => am_i1 st fun x r => if x < 0 ∨ 100000 < x.toNatClampNeg then none else some (pc + 3, L, .ref (σ.1.length + 1) :: r, am_nw σ (.inr (4, x.toNatClampNeg)))
  | .invokespecial _ => am_a1 st fun _ r => if r1 = 4 ∧ 1 ≤ d ∧ am_ct r ≤ 8 then some (pc + 3, L, r, σ) else none
  | .invokestatic _ => match r1 with
    | 5 => am_i2 st fun x y r => if 1 ≤ d ∧ am_ct r ≤ 8 then some (pc + 3, L, .int (if x < y then y else x) :: r, σ) else none
    | 6 => am_i2 st fun x y r => if 1 ≤ d ∧ am_ct r ≤ 8 then some (pc + 3, L, .int (if y < x then y else x) :: r, σ) else none
    | 7 => am_cp st fun a0 sp a dp n r => if 1 ≤ d ∧ am_ct r ≤ 8 ∧ ¬ sp < 0 ∧ ¬ dp < 0 ∧ ¬ n < 0 then am_rw (am_kd σ.1 a0) fun t0 n0 => am_rw (am_kd σ.1 a) fun t1 n1 => if t0 = 0 ∧ t1 = 0 ∧ sp.toNatClampNeg + n.toNatClampNeg ≤ n0 ∧ dp.toNatClampNeg + n.toNatClampNeg ≤ n1 then some (pc + 3, L, r, (σ.1, (fun x => if x = a then va_cpy (σ.2.1 a0) (σ.2.1 a) sp.toNatClampNeg dp.toNatClampNeg n.toNatClampNeg else σ.2.1 x), σ.2.2)) else none else none
    | _ => none
  | _ => none
/-- a method: its name, its bytes, its locals, what it answers, the class that it stands in, whether it is a constructor -/
abbrev am_M : Type := MethodName × ByteArray × Nat × Option FieldType × String × Bool
/-- an instruction of a method, with what its pool number stands for -/
abbrev am_E : Type := Instr × Nat × Nat × Nat
def am_en (as : List Value) (n : Nat) : am_L := (as.flatMap fun v => if v.category = 2 then [some v, none] else [some v]) ++ List.replicate (n - (as.flatMap fun v => if v.category = 2 then [some v, none] else [some v]).length) none
def am_isCall (i : Instr) (r1 : Nat) : Bool := match i with
  | .invokevirtual _ => true
  | .invokespecial _ => !(r1 == 4)
  | .invokestatic _ => r1 == 2
  | _ => false
/-- a call's arguments in order, the receiver first, and what stays on the stack -/
def am_ca (i : Instr) (r1 r3 : Nat) (st : List Value) (K : List am_K) : Option (List Value × List Value) := match i with
  | .invokestatic _ => if r3 ≤ st.length then some ((st.take r3).reverse, st.drop r3) else none
  | .invokespecial _ => am_a1 (st.drop r3) fun a r => some (.ref a :: (st.take r3).reverse, r)
  | _ => am_a1 (st.drop r3) fun a r => if am_kd K a = some (.inl r1) then some (.ref a :: (st.take r3).reverse, r) else none
def am_rok (ret : Option FieldType) (x : Int32) : Bool := match ret with
  | some .int => true
  | some .boolean => x == 0 || x == 1
  | _ => false
/-- n instructions at most, calls d deep at most: what the method answers, and the memory behind it -/
def am (X : Option (Nat × (Nat → Int32))) (ec : Nat) (mt : Nat → Option am_M) (cd : Nat → Nat → Option am_E) : Nat → Nat → Nat → Nat → am_L → List Value → am_S → Option (Option Value × am_S)
  | 0, _, _, _, _, _, _ => none
  | n + 1, d, mid, pc, L, st, σ => match mt mid, cd mid pc with
    | some M, some (i, r1, r2, r3) =>
      match i with
      | .return_ => if M.2.2.2.1 = none ∧ st = [] then some (none, σ) else none
      | .ireturn => match st with
        | [.int x] => if am_rok M.2.2.2.1 x = true then some (some (.int x), σ) else none
        | _ => none
      | _ => if am_isCall i r1 = true then
          match d, mt r2, am_ca i r1 r3 st σ.1 with
          | d' + 1, some N, some (as, r) => if am_ct r ≤ 8 ∧ (am_en as N.2.2.1).length = N.2.2.1 then
              (am X ec mt cd n d' r2 0 (am_en as N.2.2.1) [] σ).bind fun q => am X ec mt cd n d mid (pc + 3) L (q.1.toList ++ r) q.2
            else none
          | _, _, _ => none
        else (am_ins X ec d i r1 r2 r3 pc L st σ).bind fun q => am X ec mt cd n d mid q.1 q.2.1 q.2.2.1 q.2.2.2
    | _, _ => none
