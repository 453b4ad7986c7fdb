/-! OUT: bytes, NAMES, numbers; class and reference -/
section ONM
variable {X : aX} {d : Nat} {P : Mp} {J : Mj} {m m' : Mi}
theorem i64_nat {v : Nat} (h : v < 2 ^ 63) : (Int64.ofNat v).toInt = (v : Int) := by
  rw [Int64.toInt_ofNat_of_lt h]
theorem i64_ext {x y : Int64} (h : x.toInt = y.toInt) : x = y := Int64.toInt_inj.mp h
theorem i64_div {v u : Nat} (hv : v < 2 ^ 63) (hu : u < 2 ^ 63) : Int64.ofNat v / Int64.ofNat u = Int64.ofNat (v / u) := by
  apply i64_ext
  have h3 : v / u ≤ v := Nat.div_le_self _ _
  rw [Int64.toInt_div, i64_nat hv, i64_nat hu, i64_nat (by omega)]
  rw [Int.tdiv_eq_ediv_of_nonneg (by omega)]
  have : ((v : Int) / (u : Int)) = ((v / u : Nat) : Int) := rfl
  rw [this]
  generalize v / u = q at *
  rw [Int.bmod_eq_of_le] <;> omega
theorem i64_l2i {v : Nat} (hv : v < 2 ^ 31) : zl2i (Int64.ofNat v) = (v : Int) := by
  unfold zl2i
  rw [Int64.toInt_toInt32, i64_nat (by omega), Int.bmod_eq_of_le] <;> omega
theorem i64_rem {v : Nat} (hv : v < 2 ^ 63) : Int64.ofNat v - Int64.ofNat v / Int64.ofNat 64 * Int64.ofNat 64 = Int64.ofNat (v % 64) := by
  rw [i64_div hv (by decide), ← Int64.ofNat_mul]
  apply i64_ext
  rw [Int64.toInt_sub, i64_nat hv, i64_nat (by omega), i64_nat (by omega), Int.bmod_eq_of_le] <;> omega
theorem sh_k : ∀ j : Nat, j < 8 → ((iz (8 * (j : Int))).toInt64.toUInt64 &&& Int64.toUInt64 63) = UInt64.ofNat (8 * j) := by
  intro j hj
  have hk : ((List.range 8).all fun j => decide (((iz (8 * ((j : Nat) : Int))).toInt64.toUInt64 &&& Int64.toUInt64 63) = UInt64.ofNat (8 * j))) = true := by decide +kernel
  exact of_decide_eq_true (List.all_eq_true.mp hk j (List.mem_range.mpr hj))
theorem byte_k {w j : Nat} (hw : w < 2 ^ 64) (hj : j < 8) : zl2i ((((Int64.ofNat w).toUInt64 >>> ((iz (8 * (j : Int))).toInt64.toUInt64 &&& Int64.toUInt64 63)).toInt64) &&& (Int64.ofNat 255)) = ((w / 256 ^ j % 256 : Nat) : Int) := by
  rw [sh_k j hj]
  have e : (((Int64.ofNat w).toUInt64 >>> UInt64.ofNat (8 * j)).toInt64 &&& Int64.ofNat 255) = Int64.ofNat (w / 256 ^ j % 256) := by
    apply Int64.toBitVec_inj.mp
    rw [Int64.toBitVec_and]
    apply BitVec.eq_of_toNat_eq
    rw [BitVec.toNat_and]
    have e1 : ((Int64.ofNat w).toUInt64 >>> UInt64.ofNat (8 * j)).toInt64.toBitVec.toNat = ((Int64.ofNat w).toUInt64 >>> UInt64.ofNat (8 * j)).toNat := rfl
    have e2 : (Int64.ofNat w).toUInt64.toNat = w := by
      show (BitVec.ofNat 64 w).toNat = w
      rw [BitVec.toNat_ofNat, Nat.mod_eq_of_lt hw]
    have e3 : (UInt64.ofNat (8 * j)).toNat = 8 * j := by
      rw [UInt64.toNat_ofNat', Nat.mod_eq_of_lt (by omega)]
    have e4 : (Int64.ofNat 255).toBitVec.toNat = 255 := by decide
    have e5 : (Int64.ofNat (w / 256 ^ j % 256)).toBitVec.toNat = w / 256 ^ j % 256 := by
      show (BitVec.ofNat 64 _).toNat = _
      rw [BitVec.toNat_ofNat, Nat.mod_eq_of_lt (by omega)]
    rw [e1, e4, e5, UInt64.toNat_shiftRight, e2, e3, Nat.mod_eq_of_lt (by omega), Nat.shiftRight_eq_div_pow, show (255 : Nat) = 2 ^ 8 - 1 from rfl, Nat.and_two_pow_sub_one_eq_mod, Nat.pow_mul]
  rw [e, i64_l2i (by omega)]
theorem zcmp_lt (x y : Int64) : zcmp x y < 0 ↔ x.toInt < y.toInt := by
  unfold zcmp lg_cmp
  simp only [gt_iff_lt, Int64.lt_iff_toInt_lt, ← Int64.toInt_inj]
  (repeat' split)
  all_goals (constructor <;> intro hh <;> first | omega | decide | exact absurd hh (by decide))
theorem zcmp_le (x y : Int64) : zcmp x y ≤ 0 ↔ x.toInt ≤ y.toInt := by
  unfold zcmp lg_cmp
  simp only [gt_iff_lt, Int64.lt_iff_toInt_lt, ← Int64.toInt_inj]
  (repeat' split)
  all_goals (constructor <;> intro hh <;> first | omega | decide | exact absurd hh (by decide))
/-- what stands in OUT -/
def OC (l : List Int) (m : Mi) : Prop := m 50 1 = (l.length : Int) ∧ ∀ k, k < l.length → k < 1000 → m 51 k = cl l k
def OR (l : List Int) (m : Mi) : Prop := m 262 136 = (l.length : Int) ∧ ∀ k, k < l.length → k < 1000 → m 347 k = cl l k
theorem OC_fr {l : List Int} (h : OC l m) (f0 : m' 50 1 = m 50 1) (f : ∀ k, m' 51 k = m 51 k) : OC l m' := ⟨f0.trans h.1, fun k h1 h2 => (f k).trans (h.2 k h1 h2)⟩
theorem OR_fr {l : List Int} (h : OR l m) (f0 : m' 262 136 = m 262 136) (f : ∀ k, m' 347 k = m 347 k) : OR l m' := ⟨f0.trans h.1, fun k h1 h2 => (f k).trans (h.2 k h1 h2)⟩
/-- what writing may change -/
def ocF (m m' : Mi) : Prop := ∀ a k, a ≠ 51 → ¬ (a = 50 ∧ k = 1) → m' a k = m a k
def orF (m m' : Mi) : Prop := ∀ a k, a ≠ 347 → ¬ (a = 262 ∧ k = 136) → m' a k = m a k
theorem ocF_trans {m'' : Mi} (h : ocF m m') (h2 : ocF m' m'') : ocF m m'' := fun a k g1 g2 => (h2 a k g1 g2).trans (h a k g1 g2)
theorem orF_trans {m'' : Mi} (h : orF m m') (h2 : orF m' m'') : orF m m'' := fun a k g1 g2 => (h2 a k g1 g2).trans (h a k g1 g2)
theorem cl_end {l : List Int} {c : Int} : cl (l ++ [c]) l.length = c := cl_of (L := l ++ [c]) (p := l) (q := []) rfl
theorem c_write {l : List Int} {c : Int} (hp : PP P) (h : OC l m) (hl : l.length < 1000000) {post : Mi → Mj → Mp → Prop} (k : ∀ m', OC (l ++ [c]) m' → ocF m m' → post m' J P) : Cv X d 87 [.ref 50, .int (iz c)] m J P post := by
  refine Cv.of rfl rfl rfl (b_Page_write_0 c m J P hp post ?_)
  rw [h.1]
  have e : ((l.length : Int) + 1) = ((l ++ [c]).length : Int) := by rw [List.length_append]; rfl
  refine ⟨by constructor <;> omega, fun g => ?_, fun g => ⟨by omega, ?_⟩⟩
  · rw [e]
    refine k _ ⟨mu_at _ _ _ _, fun q h1 h2 => ?_⟩ (fun a q g1 g2 => mu_ne _ _ (by omega))
    rw [mu_ne _ _ (by omega), h.2 q (by omega) h2, cl_app (by omega)]
  · have e2 : mu m 51 (l.length : Int).toNat c 50 1 = (l.length : Int) := (mu_ne _ _ (by omega)).trans h.1
    rw [e2, e, Int.toNat_natCast]
    refine k _ ⟨mu_at _ _ _ _, fun q h1 h2 => ?_⟩ (fun a q g1 g2 => by rw [mu_ne _ _ (by omega), mu_ne _ _ (by omega)])
    rw [mu_ne _ _ (by omega)]
    by_cases hq : q = l.length
    · rw [hq, mu_at, cl_end]
    · rw [List.length_append, List.length_singleton] at h1
      rw [mu_ne _ _ (by omega), h.2 q (by omega) h2, cl_app (by omega)]
theorem zi2b_sm {c : Int} (h : 0 ≤ c ∧ c ≤ 127) : zi2b c = c := by
  have hk : ((List.range 128).all fun n => decide (zi2b (n : Int) = (n : Int))) = true := by decide +kernel
  have := of_decide_eq_true (List.all_eq_true.mp hk c.toNat (List.mem_range.mpr (by omega)))
  rw [show ((c.toNat : Nat) : Int) = c by omega] at this
  exact this
theorem r_put {l : List Int} {c : Int} (hp : PP P) (h : OR l m) (hl : l.length < 1000000) (hc : 0 ≤ c ∧ c ≤ 127) {post : Mi → Mj → Mp → Prop} (k : ∀ m', OR (l ++ [c]) m' → orF m m' → post m' J P) : Cv X d 193 [.ref 262, .int (iz c)] m J P post := by
  refine Cv.of rfl rfl rfl (b_Mdl_put_0 c m J P hp post ?_)
  rw [h.1, zi2b_sm hc, zi2b_sm hc]
  have e : ((l.length : Int) + 1) = ((l ++ [c]).length : Int) := by rw [List.length_append]; rfl
  refine ⟨by constructor <;> omega, fun g => ?_, fun g => ⟨by omega, ⟨rfl, by constructor <;> omega⟩, ?_⟩⟩
  · rw [e]
    refine k _ ⟨mu_at _ _ _ _, fun q h1 h2 => ?_⟩ (fun a q g1 g2 => mu_ne _ _ (by omega))
    rw [mu_ne _ _ (by omega), h.2 q (by omega) h2, cl_app (by omega)]
  · have e2 : mu m 347 (l.length : Int).toNat c 262 136 = (l.length : Int) := (mu_ne _ _ (by omega)).trans h.1
    rw [e2, e, Int.toNat_natCast]
    refine k _ ⟨mu_at _ _ _ _, fun q h1 h2 => ?_⟩ (fun a q g1 g2 => by rw [mu_ne _ _ (by omega), mu_ne _ _ (by omega)])
    rw [mu_ne _ _ (by omega)]
    by_cases hq : q = l.length
    · rw [hq, mu_at, cl_end]
    · rw [List.length_append, List.length_singleton] at h1
      rw [mu_ne _ _ (by omega), h.2 q (by omega) h2, cl_app (by omega)]
/-- the signs of a NAME -/
def nbd (v : Nat) : Nat → List Int
  | 0 => []
  | i + 1 => (if v / 64 ^ i % 64 = 0 then [] else [(lt_ (v / 64 ^ i % 64) : Int)]) ++ nbd v i
def nbs (v : Nat) : List Int := nbd v 8
theorem nbd_len {v : Nat} : ∀ {i : Nat}, (nbd v i).length ≤ i
  | 0 => Nat.le_refl _
  | i + 1 => by
    rw [nbd, List.length_append]
    have := nbd_len (v := v) (i := i)
    split
    · rw [List.length_nil]; omega
    · rw [List.length_singleton]; omega
theorem nbs_len {v : Nat} : (nbs v).length ≤ 8 := nbd_len
theorem lt_bd {c : Nat} (h : 0 < c) (h2 : c < 64) : 0 < lt_ c ∧ lt_ c ≤ 127 := by
  unfold lt_
  (repeat' split) <;> omega
theorem cv_dig : ∀ {k v j : Nat}, j < k → cv k v / 256 ^ j % 256 = if v / 64 ^ j % 64 = 0 then 0 else lt_ (v / 64 ^ j % 64)
  | 0, _, _, h => absurd h (Nat.not_lt_zero _)
  | k + 1, v, 0, _ => by
    have hb : (if v % 64 = 0 then 0 else lt_ (v % 64)) < 256 := by
      split
      · decide
      · have := (lt_bd (c := v % 64) (by omega) (by omega)).2
        omega
    simp only [Nat.pow_zero, Nat.div_one]
    rw [cv, Nat.mul_add_mod, Nat.mod_eq_of_lt hb]
  | k + 1, v, j + 1, h => by
    have hb : (if v % 64 = 0 then 0 else lt_ (v % 64)) < 256 := by
      split
      · decide
      · have := (lt_bd (c := v % 64) (by omega) (by omega)).2
        omega
    rw [Nat.pow_succ, Nat.mul_comm (256 ^ j) 256, ← Nat.div_div_eq_div_mul, cv, Nat.mul_add_div (by decide), Nat.div_eq_of_lt hb, Nat.add_zero, cv_dig (by omega), Nat.pow_succ, Nat.mul_comm (64 ^ j) 64, ← Nat.div_div_eq_div_mul]
theorem cv_lt : ∀ {k v : Nat}, cv k v < 256 ^ k
  | 0, _ => by rw [cv]; decide
  | k + 1, v => by
    have hb : (if v % 64 = 0 then 0 else lt_ (v % 64)) < 256 := by
      split
      · decide
      · have := (lt_bd (c := v % 64) (by omega) (by omega)).2
        omega
    have := cv_lt (k := k) (v := v / 64)
    rw [cv, Nat.pow_succ]
    omega
theorem c_writeName {v : Nat} {l : List Int} (hp : PP P) (h : OC l m) (hl : l.length + 8 < 1000000) {post : Mi → Mj → Mp → Prop} (k : ∀ m', OC (l ++ nbs v) m' → ocF m m' → post m' J P) : Cv X (d + 1) 86 [.ref 50, .long (cN v)] m J P post := by
  have h8 := cv_lt (k := 8) (v := v)
  have h82 : cv 8 v < 2 ^ 64 := by
    have : (256 : Nat) ^ 8 = 2 ^ 64 := by decide
    omega
  have loop : ∀ (q : Nat) (l1 : List Int) (m1 : Mi), q ≤ 8 → OC l1 m1 → l1.length + q < 1000000 → ocF m m1 → l ++ nbs v = l1 ++ nbd v q → Rn X (d + 1) 86 3 [some (.ref 50), some (.long (cN v)), none, some (.int (iz (8 * (q : Int) - 8))), none] [] (SS m1 J P) (QV post) := by
    intro q
    induction q with
    | zero =>
      intro l1 m1 _ h1 h2 h3 e
      refine b_Page_writeName_3 (cN v) _ m1 J P hp post ⟨by decide, fun _ => ?_, fun g => absurd (by decide) g⟩
      rw [nbd, List.append_nil] at e
      rw [← e] at h1
      exact k m1 h1 h3
    | succ q ih =>
      intro l1 m1 hq h1 h2 h3 e
      have es : (8 * ((q + 1 : Nat) : Int) - 8) = 8 * (q : Int) := by omega
      rw [es]
      have eb : zl2i ((((cN v).toUInt64 >>> ((iz (8 * (q : Int))).toInt64.toUInt64 &&& Int64.toUInt64 63)).toInt64) &&& (Int64.ofNat 255)) = ((cv 8 v / 256 ^ q % 256 : Nat) : Int) := byte_k h82 (by omega)
      rw [cv_dig (by omega)] at eb
      have nx : (8 * (q : Int) + (-8)) = 8 * (q : Int) - 8 := by omega
      refine b_Page_writeName_3 (cN v) _ m1 J P hp post ?_
      rw [eb, nx]
      have hl7 : v / 64 ^ q % 64 ≠ 0 → 0 < lt_ (v / 64 ^ q % 64) ∧ lt_ (v / 64 ^ q % 64) ≤ 127 := fun g => lt_bd (by omega) (by omega)
      rw [nbd] at e
      refine ⟨by constructor <;> omega, fun g => absurd g (by omega), fun _ => ?_⟩
      by_cases g : v / 64 ^ q % 64 = 0
      · rw [if_pos g] at e ⊢
        exact ⟨zr0, fun _ => ih l1 m1 (by omega) h1 (by omega) h3 e, fun g2 => absurd rfl g2⟩
      · rw [if_neg g] at e ⊢
        have := hl7 g
        refine ⟨by constructor <;> omega, fun g2 => absurd g2 (by omega), fun _ => c_write hp h1 (by omega) fun m2 w1 w2 => ⟨hp, ?_⟩⟩
        refine ih _ m2 (by omega) w1 (by rw [List.length_append, List.length_singleton]; omega) (ocF_trans h3 w2) ?_
        rw [e, List.append_assoc]
  refine Cv.of rfl rfl rfl (b_Page_writeName_0 (cN v) m J P hp post ?_)
  exact loop 8 l m (Nat.le_refl _) h hl (fun _ _ _ _ => rfl) rfl
/-- the signs of a word are there -/
theorem isN_dig {v : Nat} (h : isN v) : ∃ k, 0 < k ∧ k ≤ 8 ∧ v < 64 ^ k ∧ 64 ^ (k - 1) ≤ v ∧ ∀ i, i < k → v / 64 ^ i % 64 ≠ 0 := by
  obtain ⟨t, p, k, bt, ⟨h0, h8⟩, hw, rfl⟩ := h
  have dig : ∀ k, (∀ i : Nat, i < k → 0 < cd (t (p + i))) → ∀ i, i < k → vR t p k / 64 ^ i % 64 ≠ 0 := by
    intro k
    induction k with
    | zero => intro _ i hi; exact absurd hi (Nat.not_lt_zero _)
    | succ k ih =>
      intro hw i hi
      have b := cd_bd (t (p + k))
      have h1 := hw k (by omega)
      cases i with
      | zero => rw [vR, Nat.pow_zero, Nat.div_one]; omega
      | succ i =>
        rw [Nat.pow_succ, Nat.mul_comm (64 ^ i) 64, ← Nat.div_div_eq_div_mul, vR, show (64 * vR t p k + (cd (t (p + k))).toNat) / 64 = vR t p k by omega]
        exact ih (fun i g => hw i (by omega)) i (by omega)
  have low : ∀ k, (∀ i : Nat, i < k + 1 → 0 < cd (t (p + i))) → 64 ^ k ≤ vR t p (k + 1) := by
    intro k
    induction k with
    | zero =>
      intro hw
      have := hw 0 (by omega)
      rw [vR]
      simp only [Nat.pow_zero]
      have e : (t (p + ((0 : Nat) : Int))) = t (p + (0 : Nat)) := rfl
      omega
    | succ k ih =>
      intro hw
      have := ih fun i g => hw i (by omega)
      rw [vR, Nat.pow_succ]
      omega
  refine ⟨k, h0, h8, vR_lt t p k, ?_, dig k hw⟩
  have := low (k - 1) (by rw [show k - 1 + 1 = k by omega]; exact hw)
  rw [show k - 1 + 1 = k by omega] at this
  exact this
theorem nbd_top {v k : Nat} (hv : v < 64 ^ k) : ∀ j, nbd v (k + j) = nbd v k
  | 0 => rfl
  | j + 1 => by
    rw [show k + (j + 1) = (k + j) + 1 from rfl, nbd, nbd_top hv j]
    have : v / 64 ^ (k + j) = 0 := Nat.div_eq_of_lt (Nat.lt_of_lt_of_le hv (Nat.pow_le_pow_right (by decide) (by omega)))
    rw [this]
    rfl
theorem r_letter {c : Nat} (h : 0 < c) (h2 : c < 64) {post : Int → Mi → Mj → Mp → Prop} (hp : PP P) (k : post (lt_ c : Int) m J P) : Ci X d 192 [.int (iz (c : Int))] m J P post := by
  refine Ci.of rfl rfl rfl (b_Mdl_letter_0 c m J P hp post ⟨by constructor <;> omega, fun g => ⟨by constructor <;> omega, fun g2 => ?_, fun g2 => ?_⟩, fun g => ?_⟩)
  · rw [show (48 + (c : Int)) - 53 = (lt_ c : Int) by unfold lt_; rw [if_neg (by omega), if_neg (by omega)]; omega]; exact k
  · rw [show (65 + (c : Int)) - 27 = (lt_ c : Int) by unfold lt_; rw [if_neg (by omega), if_pos (by omega)]; omega]; exact k
  · rw [show (97 + (c : Int)) - 1 = (lt_ c : Int) by unfold lt_; rw [if_pos (by omega)]; omega]; exact k
theorem r_putName {v : Nat} {l : List Int} (hp : PP P) (hv : isN v) (h : OR l m) (hl : l.length + 8 < 1000000) {post : Mi → Mj → Mp → Prop} (k : ∀ m', OR (l ++ nbs v) m' → orF m m' → post m' J P) : Cv X (d + 1) 191 [.ref 262, .long (rN v)] m J P post := by
  obtain ⟨n, n0, n8, n1, n2, n3⟩ := isN_dig hv
  have p8 : (64 : Nat) ^ n ≤ 64 ^ 8 := Nat.pow_le_pow_right (by decide) n8
  have p9 : (64 : Nat) ^ 8 = 281474976710656 := by decide
  have hv63 : v < 2 ^ 63 := by omega
  have pw : ∀ i, i ≤ n → (64 : Nat) ^ i ≤ 281474976710656 := fun i hi => by
    have : (64 : Nat) ^ i ≤ 64 ^ n := Nat.pow_le_pow_right (by decide) hi
    omega
  have p0 : ∀ i, 0 < (64 : Nat) ^ i := fun i => Nat.pow_pos (by decide)
  have ne0 : ∀ u : Nat, 0 < u → u < 2 ^ 63 → ¬ Int64.ofNat u = 0 := fun u h1 h2 e => by
    have := congrArg Int64.toInt e
    rw [i64_nat h2] at this
    have z : (0 : Int64).toInt = 0 := by decide
    omega
  have out : ∀ (i : Nat) (l1 : List Int) (m1 : Mi), i ≤ n → OR l1 m1 → l1.length + i < 1000000 → orF m m1 → l ++ nbs v = l1 ++ nbd v i → Rn X (d + 1) 191 21 [some (.ref 262), some (.long (rN v)), none, some (.long (Int64.ofNat (64 ^ i / 64))), none] [] (SS m1 J P) (QV post) := by
    intro i
    induction i with
    | zero =>
      intro l1 m1 _ h1 h2 h3 e
      refine b_Mdl_putName_21 (rN v) _ m1 J P hp post ⟨zcmp_zr _ _, fun _ => ?_, fun g => absurd ((zcmp_le _ _).mpr (by decide)) g⟩
      rw [nbd, List.append_nil] at e
      rw [← e] at h1
      exact k m1 h1 h3
    | succ i ih =>
      intro l1 m1 hi h1 h2 h3 e
      have e6 : (64 : Nat) ^ (i + 1) / 64 = 64 ^ i := by rw [Nat.pow_succ]; omega
      have b1 := pw i (by omega)
      have b0 := p0 i
      have hd := n3 i (by omega)
      rw [e6]
      refine b_Mdl_putName_21 (rN v) _ m1 J P hp post ⟨zcmp_zr _ _, fun g => ?_, fun _ => ⟨ne0 _ b0 (by omega), ne0 64 (by decide) (by decide), ?_⟩⟩
      · exfalso
        have := (zcmp_le _ _).mp g
        rw [i64_nat (by omega)] at this
        have z : (Int64.ofNat 0).toInt = 0 := by decide
        omega
      · have hle : v / 64 ^ i ≤ v := Nat.div_le_self _ _
        have q1 : rN v / Int64.ofNat (64 ^ i) = Int64.ofNat (v / 64 ^ i) := i64_div hv63 (by omega)
        rw [q1, i64_rem (by omega), i64_l2i (by omega), i64_div (by omega) (by decide)]
        refine r_letter (by omega) (by omega) hp ⟨hp, ?_⟩
        have := lt_bd (c := v / 64 ^ i % 64) (by omega) (by omega)
        refine r_put hp h1 (by omega) (by omega) fun m2 w1 w2 => ⟨hp, ne0 64 (by decide) (by decide), ?_⟩
        refine ih _ m2 (by omega) w1 (by rw [List.length_append, List.length_singleton]; omega) (orF_trans h3 w2) ?_
        rw [e, nbd, if_neg hd, List.append_assoc]
  have eN : nbs v = nbd v n := by
    have := nbd_top n1 (8 - n)
    rw [show n + (8 - n) = 8 by omega] at this
    exact this
  have up : ∀ (q i : Nat), i + 1 + q = n → Rn X (d + 1) 191 2 [some (.ref 262), some (.long (rN v)), none, some (.long (Int64.ofNat (64 ^ i))), none] [] (SS m J P) (QV post) := by
    intro q
    induction q with
    | zero =>
      intro i hi
      have b1 := pw i (by omega)
      have q1 : rN v / Int64.ofNat (64 ^ i) = Int64.ofNat (v / 64 ^ i) := i64_div hv63 (by omega)
      have q2 : v / 64 ^ i < 64 := Nat.div_lt_of_lt_mul (by rw [← Nat.pow_succ, show i.succ = n by omega]; exact n1)
      refine b_Mdl_putName_2 (rN v) _ m J P hp post ⟨ne0 _ (p0 i) (by omega), zcmp_zr _ _, fun _ => ?_, fun g => absurd ((zcmp_lt _ _).mpr ?_) g⟩
      · have e6 : (64 : Nat) ^ n / 64 = 64 ^ i := by rw [show n = i + 1 by omega, Nat.pow_succ]; omega
        rw [← e6]
        exact out n l m (Nat.le_refl _) h (by omega) (fun _ _ _ _ => rfl) (by rw [eN])
      · rw [q1, i64_nat (by omega), i64_nat (by decide)]
        omega
    | succ q ih =>
      intro i hi
      have b1 := pw i (by omega)
      have b2 := pw (i + 1) (by omega)
      have q1 : rN v / Int64.ofNat (64 ^ i) = Int64.ofNat (v / 64 ^ i) := i64_div hv63 (by omega)
      have hle : v / 64 ^ i ≤ v := Nat.div_le_self _ _
      have q3 : (64 : Nat) ^ (i + 1) ≤ v := Nat.le_trans (Nat.pow_le_pow_right (by decide) (by omega)) n2
      have q2 : 64 ≤ v / 64 ^ i := by
        rw [Nat.le_div_iff_mul_le (p0 i), Nat.mul_comm, ← Nat.pow_succ]
        exact q3
      refine b_Mdl_putName_2 (rN v) _ m J P hp post ⟨ne0 _ (p0 i) (by omega), zcmp_zr _ _, fun g => ?_, fun _ => ?_⟩
      · exfalso
        have := (zcmp_lt _ _).mp g
        rw [q1, i64_nat (by omega), i64_nat (by decide)] at this
        omega
      · rw [← Int64.ofNat_mul, ← Nat.pow_succ]
        exact ih (i + 1) (by omega)
  refine Cv.of rfl rfl rfl (b_Mdl_putName_0 (rN v) m J P hp post ?_)
  exact up (n - 1) 0 (by omega)
end ONM
