/-! OUT: heads of TERMS; class and reference -/
section OHC
variable {X : aX} {d : Nat} {P : Mp} {J J' : Mj} {m m' : Mi} {Sn : Nat → Nat} {sc : Nat}
theorem i64_int {z : Int} (h : -10000 ≤ z ∧ z ≤ 10000) : (Int64.ofInt z).toInt = z := Int64.toInt_ofInt_of_le (by omega) (by omega)
theorem zi2l_int {z : Int} (h : -10000 ≤ z ∧ z ≤ 10000) : zi2l z = Int64.ofInt z := by
  apply i64_ext
  unfold zi2l
  rw [Int32.toInt_toInt64, iz_to (by constructor <;> omega), i64_int h]
theorem zl2i_neg {z : Int} (h : -10000 ≤ z ∧ z ≤ 10000) : zl2i (-(Int64.ofInt z)) = -z := by
  unfold zl2i
  rw [Int64.toInt_toInt32, Int64.toInt_neg, i64_int h]
  rw [Int.bmod_eq_of_le (n := -z) (m := 2 ^ 64) (by omega) (by omega), Int.bmod_eq_of_le (by omega) (by omega)]
theorem cv_lt7 : ∀ {k v : Nat}, cv (k + 1) v < 128 * 256 ^ k
  | 0, v => by
    have hb : (if v % 64 = 0 then 0 else lt_ (v % 64)) < 128 := by
      split
      · decide
      · have := (lt_bd (c := v % 64) (by omega) (by omega)).2
        omega
    rw [cv, cv]
    omega
  | k + 1, v => by
    have hb : (if v % 64 = 0 then 0 else lt_ (v % 64)) < 256 := by
      split
      · decide
      · have := (lt_bd (c := v % 64) (by omega) (by omega)).2
        omega
    have := cv_lt7 (k := k) (v := v / 64)
    rw [cv, Nat.pow_succ]
    omega
theorem cN_pos {v : Nat} (h : isN v) : 0 < (cN v).toInt := by
  obtain ⟨n, n0, n8, n1, n2, n3⟩ := isN_dig h
  have h7 := cv_lt7 (k := 7) (v := v)
  have p : (128 : Nat) * 256 ^ 7 = 2 ^ 63 := by decide
  have h0 := n3 0 n0
  rw [Nat.pow_zero, Nat.div_one] at h0
  have hl := lt_bd (c := v % 64) (by omega) (by omega)
  unfold cN
  rw [i64_nat (by omega), show (8 : Nat) = 7 + 1 from rfl, cv, if_neg h0]
  omega
theorem rN_pos {v : Nat} (h : isN v) : 0 < (rN v).toInt := by
  obtain ⟨n, n0, n8, n1, n2, n3⟩ := isN_dig h
  have p8 : (64 : Nat) ^ n ≤ 64 ^ 8 := Nat.pow_le_pow_right (by decide) n8
  have p9 : (64 : Nat) ^ 8 = 281474976710656 := by decide
  have h0 := n3 0 n0
  rw [Nat.pow_zero, Nat.div_one] at h0
  unfold rN
  rw [i64_nat (by omega)]
  omega
theorem i64_z : (Int64.ofNat 0).toInt = 0 := by decide
/-- a cell of the class, of the reference, and the plain one -/
def plC (c x : Int) : Prop := (c < 0 → x = c) ∧ (0 ≤ c → (0 ≤ x ∧ x < 64) ∧ x % 32 = c)
def plR (c x : Int) : Prop := (c < 0 → x = c) ∧ (0 ≤ c → (0 ≤ x ∧ x < 128) ∧ x % 64 = c)
/-- what writing TERMS may change -/
def wcF (m : Mi) (J : Mj) (m' : Mi) (J' : Mj) : Prop := (∀ a k, a ≠ 51 → a ≠ 53 → ¬ (a = 50 ∧ (k = 1 ∨ k = 3)) → m' a k = m a k) ∧ ∀ a k, a ≠ 52 → J' a k = J a k
def wrF_ (m : Mi) (J : Mj) (m' : Mi) (J' : Mj) : Prop := (∀ a k, a ≠ 347 → a ≠ 299 → a ≠ 349 → ¬ (a = 262 ∧ (k = 136 ∨ k = 139)) → m' a k = m a k) ∧ ∀ a k, a ≠ 348 → J' a k = J a k
theorem wcF_trans {m'' : Mi} {J'' : Mj} (h : wcF m J m' J') (h2 : wcF m' J' m'' J'') : wcF m J m'' J'' := ⟨fun a k g1 g2 g3 => (h2.1 a k g1 g2 g3).trans (h.1 a k g1 g2 g3), fun a k g => (h2.2 a k g).trans (h.2 a k g)⟩
theorem wrF__trans {m'' : Mi} {J'' : Mj} (h : wrF_ m J m' J') (h2 : wrF_ m' J' m'' J'') : wrF_ m J m'' J'' := ⟨fun a k g1 g2 g3 g4 => (h2.1 a k g1 g2 g3 g4).trans (h.1 a k g1 g2 g3 g4), fun a k g => (h2.2 a k g).trans (h.2 a k g)⟩
theorem ocF_wc (h : ocF m m') : wcF m J m' J := ⟨fun a k g1 g2 g3 => h a k g1 (by omega), fun _ _ _ => rfl⟩
theorem orF_wr (h : orF m m') : wrF_ m J m' J := ⟨fun a k g1 g2 g3 g4 => h a k g1 (by omega), fun _ _ _ => rfl⟩
theorem WC_oc {s : Ws} {l : List Int} (h : WC s m J) (w : OC l m') (f : ocF m m') : WC (l, s.2.1, s.2.2) m' J := ⟨w, (f _ _ (by decide) (by decide)).trans h.2.1, h.2.2⟩
theorem WR_or {s : Ws} {l : List Int} (h : WR s m J) (w : OR l m') (f : orF m m') : WR (l, s.2.1, s.2.2) m' J := ⟨w, (f _ _ (by decide) (by decide)).trans h.2.1, fun v hv => ⟨(h.2.2 v hv).1, (f _ _ (by decide) (by omega)).trans (h.2.2 v hv).2⟩⟩
/-- what writing a head may change -/
def hcF (m : Mi) (J : Mj) (m' : Mi) (J' : Mj) : Prop := (∀ a k, a ≠ 51 → ¬ (a = 50 ∧ (k = 1 ∨ k = 3)) → m' a k = m a k) ∧ ∀ a k, a ≠ 52 → J' a k = J a k
theorem hcF_wc (h : hcF m J m' J') : wcF m J m' J' := ⟨fun a k g1 _ g3 => h.1 a k g1 g3, h.2⟩
theorem ocF_hc (h : ocF m m') : hcF m J m' J := ⟨fun a k g1 g3 => h a k g1 (by omega), fun _ _ _ => rfl⟩
theorem c_writeHead {b n : Nat} {c x : Int} {s : Ws} (hp : PP P) (hb : b = 54 ∨ b = 155) (hB : BN b Sn sc m J) (hc : -800 ≤ c ∧ c < sc) (hx : plC c x) (h : WC s m J) (hw : Wb n s) {post : Mi → Mj → Mp → Prop} (k : ∀ m' J', WC (whd Sn c s) m' J' → hcF m J m' J' → post m' J' P) : Cv X (d + 2) 85 [.ref 50, .int (iz x), .ref b] m J P post := by
  have kb := kd_book hb
  have hw1 := hw.1
  have hs16 := hB.1.2
  refine Cv.of rfl rfl rfl (b_Page_writeHead_0 x b kb m J P hp post ?_)
  by_cases g : 0 ≤ c
  · obtain ⟨x1, x2⟩ := hx.2 g
    have e31 : zand x 31 = c := by rw [zand_31 (by omega), x2]
    rw [e31]
    refine ⟨by constructor <;> omega, fun g2 => absurd g2 (by omega), fun _ => ⟨by constructor <;> omega, fun g2 => absurd g2 (by omega), fun _ => ⟨by omega, ?_⟩⟩⟩
    have ej : J (b + 1) c.toNat = cN (Sn c.toNat) := (hB.2 c.toNat (by omega)).1
    rw [ej]
    refine c_writeName hp h.1 (by omega) fun m1 w1 w2 => ⟨hp, k m1 J ?_ (ocF_hc w2)⟩
    unfold whd
    rw [if_pos g]
    exact WC_oc h w1 w2
  · have ex : x = c := hx.1 (by omega)
    subst ex
    obtain ⟨v, hv⟩ : ∃ v : Nat, (-1) - x = (v : Int) := ⟨(-1 - x).toNat, by omega⟩
    have hv8 : v < 800 := by omega
    have ev : whd Sn x s = whv v s := by
      unfold whd
      rw [if_neg g, show (-1 - x).toNat = v by omega]
    rw [ev] at k
    rw [hv, Int.toNat_natCast]
    have eL := h.2.2 v hv8
    have hL := hw.2 v
    refine ⟨by constructor <;> omega, fun _ => ⟨by omega, zcmp_zr _ _, fun g1 => ⟨by omega, zcmp_zr _ _, fun g2 => ⟨by omega, ?_⟩, fun g2 => ⟨by omega, ?_⟩⟩, fun g1 => ⟨by omega, by omega, zcmp_zr _ _, fun g2 => ⟨by omega, ?_⟩, fun g2 => ?_⟩⟩, fun g2 => absurd (by omega) g2⟩
    · -- a number it has
      rw [eL] at g1 g2 ⊢
      have hz : s.2.1 v < 0 := by
        apply Classical.byContradiction
        intro g3
        by_cases g4 : s.2.1 v = 0
        · apply g1
          rw [g4]
          decide
        · have := (zcmp_le _ _).mp g2
          unfold lbC at this
          rw [if_pos (by omega), i64_z] at this
          have := cN_pos (hL.1 (by omega))
          omega
      unfold lbC
      rw [if_neg (by omega), zl2i_neg (by omega)]
      obtain ⟨y, hy⟩ : ∃ y : Nat, -(s.2.1 v) = (y : Int) := ⟨(-(s.2.1 v)).toNat, by omega⟩
      rw [hy]
      refine c_writeNumber hp (by omega) h.1 (by omega) fun m1 w1 w2 => ⟨hp, k m1 J ?_ (ocF_hc w2)⟩
      unfold whv
      rw [if_neg (by omega), if_neg (by omega), show (-(s.2.1 v)).toNat = y by omega]
      exact WC_oc h w1 w2
    · rw [eL] at g1 g2 ⊢
      have hz : 0 < s.2.1 v := by
        apply Classical.byContradiction
        intro g3
        apply g2
        rw [zcmp_le, i64_z]
        unfold lbC
        rw [if_neg g3, i64_int (by omega)]
        omega
      unfold lbC
      rw [if_pos hz]
      refine c_writeName hp h.1 (by omega) fun m1 w1 w2 => ⟨hp, k m1 J ?_ (ocF_hc w2)⟩
      unfold whv
      rw [if_pos hz]
      exact WC_oc h w1 w2
    all_goals
      have hz : s.2.1 v = 0 := by
        have g3 := (zcmp_0 _ _).mp (Classical.not_not.mp g1)
        rw [eL] at g3
        have g4 := congrArg Int64.toInt g3
        rw [i64_z] at g4
        unfold lbC at g4
        by_cases g5 : 0 < s.2.1 v
        · rw [if_pos g5] at g4
          have := cN_pos (hL.1 g5)
          omega
        · rw [if_neg g5, i64_int (by omega)] at g4
          exact g4
      have e3 : mu m 50 3 (m 50 3 + 1) 50 3 = (s.2.2 : Int) + 1 := by rw [mu_at, h.2.1]
      have ei : zi2l (-((s.2.2 : Int) + 1)) = Int64.ofInt (-((s.2.2 : Int) + 1)) := zi2l_int (by omega)
      rw [e3, ei, mju_at] at g2
    · rw [e3, ei, mju_at, zl2i_neg (by omega)]
      have e4 : (-(-((s.2.2 : Int) + 1))) = ((s.2.2 + 1 : Nat) : Int) := by omega
      rw [e4]
      have f0 : ∀ a q, ¬ (a = 50 ∧ q = 3) → mu m 50 3 (m 50 3 + 1) a q = m a q := fun a q g => mu_ne _ _ (by omega)
      refine c_writeNumber hp (by omega) (OC_fr h.1 (f0 _ _ (by decide)) (fun q => f0 _ _ (by omega))) (by omega) fun m1 w1 w2 => ⟨hp, k m1 _ ?_ ?_⟩
      · unfold whv
        rw [if_neg (by omega), if_pos hz]
        refine ⟨w1, ((w2 _ _ (by decide) (by decide)).trans e3).trans (show ((s.2.2 : Int) + 1) = ((s.2.2 + 1 : Nat) : Int) by omega), fun w hw => ?_⟩
        show mju J 52 v _ 52 w = lbC (lup s.2.1 v (-((s.2.2 : Int) + 1)) w)
        unfold lup
        by_cases q : w = v
        · rw [q, mju_at, if_pos rfl]
          unfold lbC
          rw [if_neg (by omega)]
        · rw [mju_ne _ _ (by omega), if_neg q]
          exact h.2.2 w hw
      · exact ⟨fun a q h1 h2 => (w2 a q h1 (by omega)).trans (f0 a q (by omega)), fun a q h1 => mju_ne _ _ (by omega)⟩
    · exfalso
      apply g2
      rw [zcmp_le, i64_z, i64_int (by omega)]
      omega
theorem r_putVariable {v n : Nat} {s : Ws} (hp : PP P) (hv : v < 800) (h : WR s m J) (hw : Wb n s) {post : Mi → Mj → Mp → Prop} (k : ∀ m', WR (whv v s) m' J → (∀ a k, a ≠ 347 → a ≠ 349 → ¬ (a = 262 ∧ (k = 136 ∨ k = 139)) → m' a k = m a k) → post m' J P) : Cv X (d + 2) 190 [.ref 262, .int (iz (v : Int))] m J P post := by
  have hw1 := hw.1
  obtain ⟨eL, eN⟩ := h.2.2 v hv
  have hL := hw.2 v
  refine Cv.of rfl rfl rfl (b_Mdl_putVariable_0 v m J P hp post ?_)
  rw [Int.toNat_natCast, eL, eN]
  refine ⟨by omega, zcmp_zr _ _, fun g1 => ?_, fun g1 => ⟨by omega, ?_⟩⟩
  · have hz : ¬ 0 < s.2.1 v := fun g => by
      have := (zcmp_le _ _).mp g1
      rw [if_pos g, i64_z] at this
      have := rN_pos (hL.1 g)
      omega
    refine ⟨by omega, by split <;> constructor <;> omega, fun g2 => ?_, fun g2 => ⟨by omega, ?_⟩⟩
    · have hn : s.2.1 v < 0 := by
        apply Classical.byContradiction
        intro g3
        rw [if_neg g3] at g2
        exact g2 rfl
      rw [if_pos hn] at eN
      obtain ⟨y, hy⟩ : ∃ y : Nat, -(s.2.1 v) = (y : Int) := ⟨(-(s.2.1 v)).toNat, by omega⟩
      refine r_put hp h.1 (by omega) (by decide) fun m1 w1 w2 => ⟨hp, ?_⟩
      refine r_number (x := y) hp (by omega) hv ((w2 _ _ (by decide) (by omega)).trans (eN.trans hy)) w1 (by rw [List.length_append, List.length_singleton]; omega) w2 fun m2 v1 v2 => k m2 ?_ (fun a q h1 _ h3 => v2 a q h1 (by omega))
      unfold whv
      rw [if_neg hz, if_neg (by omega), show (-(s.2.1 v)).toNat = y by omega]
      rw [List.append_assoc] at v1
      exact WR_or h v1 v2
    · have hn : s.2.1 v = 0 := by
        have g3 := Classical.not_not.mp g2
        by_cases g4 : s.2.1 v < 0
        · rw [if_pos g4] at g3; omega
        · omega
      have e3 : mu m 262 139 (m 262 139 + 1) 262 139 = ((s.2.2 + 1 : Nat) : Int) := by rw [mu_at, h.2.1]; omega
      rw [e3]
      have f0 : ∀ a q, ¬ (a = 262 ∧ q = 139) → ¬ (a = 349 ∧ q = v) → mu (mu m 262 139 (m 262 139 + 1)) 349 v ((s.2.2 + 1 : Nat) : Int) a q = m a q := fun a q g g' => by rw [mu_ne _ _ (by omega), mu_ne _ _ (by omega)]
      refine r_put hp (OR_fr h.1 (f0 _ _ (by decide) (by omega)) (fun q => f0 _ _ (by omega) (by omega))) (by omega) (by decide) fun m1 w1 w2 => ⟨hp, ?_⟩
      refine r_number (x := s.2.2 + 1) hp (by omega) hv ((w2 _ _ (by decide) (by omega)).trans (mu_at _ _ _ _)) w1 (by rw [List.length_append, List.length_singleton]; omega) w2 fun m2 v1 v2 => k m2 ?_ ?_
      · unfold whv
        rw [if_neg hz, if_pos hn]
        rw [List.append_assoc] at v1
        refine ⟨v1, ((v2 _ _ (by decide) (by decide)).trans ((mu_ne _ _ (by omega)).trans e3)), fun w hw2 => ?_⟩
        show J 348 w = (if 0 < lup s.2.1 v (-((s.2.2 : Int) + 1)) w then rN (lup s.2.1 v (-((s.2.2 : Int) + 1)) w).toNat else 0) ∧ m2 349 w = if lup s.2.1 v (-((s.2.2 : Int) + 1)) w < 0 then -(lup s.2.1 v (-((s.2.2 : Int) + 1)) w) else 0
        unfold lup
        by_cases q : w = v
        · rw [q, if_pos rfl, if_neg (by omega), if_pos (by omega), v2 _ _ (by decide) (by omega), mu_at, eL, if_neg hz]
          exact ⟨rfl, by omega⟩
        · rw [if_neg q, v2 _ _ (by decide) (by omega), f0 _ _ (by omega) (by omega)]
          exact h.2.2 w hw2
      · exact fun a q h1 h3 h4 => (v2 a q h1 (by omega)).trans (f0 a q (by omega) (by omega))
  · have hz : 0 < s.2.1 v := by
      apply Classical.byContradiction
      intro g
      apply g1
      rw [zcmp_le, i64_z, if_neg g]
      decide
    rw [if_pos hz]
    refine r_putName hp (hL.1 hz) h.1 (by omega) fun m1 w1 w2 => ⟨hp, k m1 ?_ (fun a q h1 _ h3 => w2 a q h1 (by omega))⟩
    unfold whv
    rw [if_pos hz]
    exact WR_or h w1 w2
end OHC
