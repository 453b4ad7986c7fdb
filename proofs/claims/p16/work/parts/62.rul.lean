/-! the RULES of a SYSTEM, told once, and how the class reads them -/
section RUL
variable {X : aX} {d : Nat} {P : Mp} {b sc : Nat} {Sn : Nat → Nat} {t : Int → Int} {n most p p1 : Int} {m : Mi} {J : Mj}
def rp (t : Int → Int) (n p1 : Int) : Nat → Int
  | 0 => p1
  | u + 1 => nxp t n (yTwo t n 9 8 (nxp t n (rp t n p1 u)) 0 0)
def Ru (t : Int → Int) (n p1 : Int) (u : Nat) : Mi := yTwo t n 9 8 (nxp t n (rp t n p1 u))
/-- the FAULT (0 without), its place, how many RULES -/
def rE (t : Int → Int) (n p1 : Int) : Nat → Nat → Int × Int × Nat
  | 0, u => if tK t n (rp t n p1 u) = 11 then (3, rp t n p1 u, u) else if tK t n (rp t n p1 u) = 0 then (0, -1, u) else (ft t n (rp t n p1 u), rp t n p1 u, u)
  | k + 1, u => if tK t n (rp t n p1 u) = 11 then (if Ru t n p1 u 0 5 ≠ 0 then (Ru t n p1 u 0 5, Ru t n p1 u 0 6, u + 1) else if tK t n (Ru t n p1 u 0 0) ≠ 7 then (ft t n (Ru t n p1 u 0 0), Ru t n p1 u 0 0, u + 1) else rE t n p1 k (u + 1)) else if tK t n (rp t n p1 u) = 0 then (0, -1, u) else (ft t n (rp t n p1 u), rp t n p1 u, u)
theorem yTwo_bd {sign : Int} (hT : Tx t n) (hp : 0 ≤ p ∧ p ≤ n) (hm : 0 ≤ most) : (0 ≤ yTwo t n sign most p 0 0 ∧ yTwo t n sign most p 0 0 ≤ n) ∧ (0 ≤ yTwo t n sign most p 0 5 ∧ yTwo t n sign most p 0 5 ≤ 3) := by
  have hA := yA_I (most := most) hT hp hm
  have hft := ft_bd t n (yA t n most p 0 0)
  have i9 := hA.1.2.2.2.2.2.2.2.2
  unfold yTwo
  by_cases h5 : yA t n most p 0 5 ≠ 0
  · rw [if_pos h5]; exact ⟨hA.1.1, by omega⟩
  rw [if_neg h5]
  by_cases g : tK t n (yA t n most p 0 0) ≠ sign
  · rw [if_pos g]
    have e1 : yBad (yA t n most p) (ft t n (yA t n most p 0 0)) (yA t n most p 0 0) 0 0 = yA t n most p 0 0 := by simp [yBad, mu]
    have e2 : yBad (yA t n most p) (ft t n (yA t n most p 0 0)) (yA t n most p 0 0) 0 5 = ft t n (yA t n most p 0 0) := by simp [yBad, mu]
    rw [e1, e2]
    exact ⟨hA.1.1, by omega⟩
  rw [if_neg g]
  have h := (yB_E (most := most) hT hp hm (Classical.not_not.mp h5)).1
  have j9 := h.2.2.2.2.2.2.2.2
  exact ⟨h.1, by omega⟩
theorem rp_bd (hT : Tx t n) (h1 : 0 ≤ p1 ∧ p1 ≤ n) : ∀ u, 0 ≤ rp t n p1 u ∧ rp t n p1 u ≤ n
  | 0 => h1
  | u + 1 => by
    have h := rp_bd hT h1 u
    have a := nxp_le hT h.2
    have b := (yTwo_bd (sign := 9) (most := 8) hT (p := nxp t n (rp t n p1 u)) (by omega) (by decide)).1
    have c := nxp_le hT b.2
    rw [rp]
    omega
theorem rE_bd (hT : Tx t n) (h1 : 0 ≤ p1 ∧ p1 ≤ n) : ∀ k u, (0 ≤ (rE t n p1 k u).1 ∧ (rE t n p1 k u).1 ≤ 3) ∧ (rE t n p1 k u).2.2 ≤ u + k ∧ u ≤ (rE t n p1 k u).2.2
  | 0, u => by
    have hft := ft_bd t n (rp t n p1 u)
    unfold rE
    (repeat' split) <;> exact ⟨by constructor <;> simp <;> omega, by simp, by simp⟩
  | k + 1, u => by
    have hft := ft_bd t n (rp t n p1 u)
    have hft2 := ft_bd t n (Ru t n p1 u 0 0)
    have a := nxp_le hT (rp_bd hT h1 u).2
    have h := rp_bd hT h1 u
    have b : 0 ≤ Ru t n p1 u 0 5 ∧ Ru t n p1 u 0 5 ≤ 3 := (yTwo_bd (sign := 9) (most := 8) hT (p := nxp t n (rp t n p1 u)) (by omega) (by decide)).2
    have ih := rE_bd hT h1 k (u + 1)
    unfold rE
    split
    · split
      · exact ⟨b, by show u + 1 ≤ _; omega, by show u ≤ u + 1; omega⟩
      · split
        · exact ⟨by show 0 ≤ ft t n (Ru t n p1 u 0 0) ∧ ft t n (Ru t n p1 u 0 0) ≤ 3; omega, by show u + 1 ≤ _; omega, by show u ≤ u + 1; omega⟩
        · exact ⟨ih.1, by omega, by omega⟩
    · split
      · exact ⟨by show (0 : Int) ≤ 0 ∧ (0 : Int) ≤ 3; omega, by show u ≤ _; omega, by show u ≤ u; omega⟩
      · exact ⟨by show 0 ≤ ft t n (rp t n p1 u) ∧ ft t n (rp t n p1 u) ≤ 3; omega, by show u ≤ _; omega, by show u ≤ u; omega⟩
theorem kd_rule {b : Nat} (hb : b = 54 ∨ b = 155) {u : Nat} (hu : u < 16) : am_kd an_K (b + 5 + 6 * u) = some (.inl 8) := by
  have h : ((List.range 16).all fun u => decide (am_kd an_K (54 + 5 + 6 * u) = some (.inl 8) ∧ am_kd an_K (155 + 5 + 6 * u) = some (.inl 8))) = true := by decide +kernel
  have g := of_decide_eq_true (List.all_eq_true.mp h u (List.mem_range.mpr hu))
  rcases hb with e | e
  · rw [e]; exact g.1
  · rw [e]; exact g.2
theorem kd_book {b : Nat} (hb : b = 54 ∨ b = 155) : am_kd an_K b = some (.inl 10) := by
  rcases hb with e | e <;> rw [e] <;> decide +kernel
/-- what reading a SYSTEM may change in the class -/
def sysF (b : Nat) (m : Mi) (J : Mj) (m' : Mi) (J' : Mj) : Prop := (∀ a k, a ≠ 2 → a ≠ 4 → a ≠ 7 → (a < b ∨ b + 101 ≤ a) → m' a k = m a k) ∧ m' 2 1 = m 2 1 ∧ (∀ a k, a ≠ 2 → (a < b ∨ b + 101 ≤ a) → J' a k = J a k)
theorem sysF_refl : sysF b m J m J := ⟨fun _ _ _ _ _ _ => rfl, rfl, fun _ _ _ _ => rfl⟩
theorem sysF_trans {m' m'' : Mi} {J' J'' : Mj} (h1 : sysF b m J m' J') (h2 : sysF b m' J' m'' J'') : sysF b m J m'' J'' :=
  ⟨fun a k g g2 g3 g4 => (h2.1 a k g g2 g3 g4).trans (h1.1 a k g g2 g3 g4), h2.2.1.trans h1.2.1, fun a k g g2 => (h2.2.2 a k g g2).trans (h1.2.2 a k g g2)⟩
theorem sysF_q {m' : Mi} {J' : Mj} {u : Nat} (hu : u < 16) (h : qT (b + 5 + 6 * u) m J m' J') : sysF b m J m' J' :=
  ⟨fun a k g g2 g3 g4 => h.1 a k g g2 g3 (by omega), h.2.1, fun a k g g2 => h.2.2 a k g (by omega)⟩
theorem sysF_adv {m' : Mi} {J' : Mj} (h : cF m J m' J') : sysF b m J m' J' :=
  ⟨fun a k g _ _ _ => h.1 a k (fun e => g e.1), h.1 _ _ (by decide), fun a k g _ => h.2 a k (fun e => g e.1)⟩
theorem sysF_ref {x y : Int} : sysF b m J (mu (mu m 4 3 x) 4 4 y) J :=
  ⟨fun a k _ g _ _ => by rw [mu_ne _ _ (by omega), mu_ne _ _ (by omega)], by rw [mu_ne _ _ (by omega), mu_ne _ _ (by omega)], fun _ _ _ _ => rfl⟩
theorem sysF_b {k : Nat} {x : Int} (hb : 39 ≤ b) : sysF b m J (mu m b k x) J :=
  ⟨fun a k _ _ _ _ => mu_ne _ _ (by omega), mu_ne _ _ (by omega), fun _ _ _ _ => rfl⟩
theorem sysF_sym {m' : Mi} {J' : Mj} (h : bF b m J m' J') : sysF b m J m' J' :=
  ⟨fun a k g g2 _ g4 => h.1 a k g g2 (by omega), h.2.1, fun a k g g2 => h.2.2.1 a k g (by omega)⟩
theorem EQ_fr {o : Nat} {Z m m' : Mi} {J J' : Mj} (h : EQ o Sn sc Z m J) (f1 : ∀ a k, o ≤ a → a ≤ o + 3 → m' a k = m a k) (f2 : ∀ k, J' (o + 5) k = J (o + 5) k) : EQ o Sn sc Z m' J' :=
  ⟨EY_fr h.1 f1 f2, (f1 _ _ (by omega) (by omega)).trans h.2.1, (f1 _ _ (by omega) (by omega)).trans h.2.2.1, (f1 _ _ (by omega) (by omega)).trans h.2.2.2⟩
theorem c_hasNoMore (hp : PP P) (hC : cC t n p m J) {post : Int → Mi → Mj → Mp → Prop} (k1 : tK t n p = 11 → post 0 (mu (mu m 4 3 3) 4 4 p) J P) (k2 : tK t n p = 0 → post 1 m J P) (k3 : tK t n p ≠ 11 → tK t n p ≠ 0 → post 0 (mu (mu m 4 3 (ft t n p)) 4 4 p) J P) : Ci X (d + 2) 36 [.ref 4] m J P post := by
  have hkb := tK_bd t n p
  have e4 : m 2 4 = tK t n p := hC.1.2.2.1
  have e5 : m 2 5 = p := hC.1.1
  refine Ci.of rfl rfl rfl (b_Reader_hasNoMoreRules_0 m J P hp post ⟨by rw [e4]; constructor <;> omega, fun g => c_isLast hp hC zr0 (fun g2 => ⟨hp, Or.inr rfl, k2 g2⟩) (fun g2 => ⟨hp, Or.inl rfl, k3 (by rw [e4] at g; exact g) g2⟩), fun g => c_refuse hp ⟨hp, Or.inl rfl, ?_⟩⟩)
  rw [e4] at g
  rw [e5]
  exact k1 (Classical.not_not.mp g)
theorem c_rs_130_0 {x1 x4 : Int} (hp : PP P) (kb : am_kd an_K b = some (.inl 10)) (h5 : 0 ≤ m b 5 ∧ m b 5 ≤ 16) (h4 : 0 ≤ x4 ∧ x4 ≤ 16) {post : Int → Mi → Mj → Mp → Prop} (k : post (m 4 3) m J P) : Rn X (d + 6) 16 130 [some (.ref 4), some (.int (iz x1)), some (.ref b), some (.int (iz 0)), some (.int (iz x4))] [] (SS m J P) (QI post) :=
  b_Reader_readSystem_130 x1 b 0 x4 kb m J P hp post ⟨by constructor <;> omega, by constructor <;> omega, fun _ => k, fun _ => ⟨zr0, fun _ => k, fun h => absurd rfl h⟩⟩
theorem c_rs_125 {x1 x3 x4 : Int} (hp : PP P) (kb : am_kd an_K b = some (.inl 10)) (h5 : 0 ≤ m b 5 ∧ m b 5 ≤ 16) {post : Int → Mi → Mj → Mp → Prop} (k : post (m 4 3) m J P) : Rn X (d + 6) 16 125 [some (.ref 4), some (.int (iz x1)), some (.ref b), some (.int (iz x3)), some (.int (iz x4))] [] (SS m J P) (QI post) :=
  b_Reader_readSystem_125 x1 b x3 x4 kb m J P hp post (c_rs_130_0 hp kb h5 (by decide) k)
theorem c_rs_24_0 {x1 x4 : Int} (hp : PP P) (kb : am_kd an_K b = some (.inl 10)) (h5 : 0 ≤ m b 5 ∧ m b 5 ≤ 16) (h4 : 0 ≤ x4 ∧ x4 ≤ 16) {post : Int → Mi → Mj → Mp → Prop} (k : post (m 4 3) m J P) : Rn X (d + 6) 16 24 [some (.ref 4), some (.int (iz x1)), some (.ref b), some (.int (iz 0)), some (.int (iz x4))] [] (SS m J P) (QI post) :=
  b_Reader_readSystem_24 x1 b 0 x4 kb m J P hp post ⟨by constructor <;> omega, fun _ => ⟨zr0, fun _ => c_rs_125 hp kb h5 k, fun h => absurd rfl h⟩, fun _ => ⟨zr0, fun _ => ⟨zr0, fun _ => c_rs_125 hp kb h5 k, fun h => absurd rfl h⟩, fun h => absurd rfl h⟩⟩
theorem c_rules_24 (hp : PP P) (hb : b = 54 ∨ b = 155) (hT : Tx t n) (h1 : 0 ≤ p1 ∧ p1 ≤ n) {x1 : Int} {post : Int → Mi → Mj → Mp → Prop} : ∀ (j u : Nat), u + j = 16 → ∀ (m : Mi) (J : Mj), cC t n (rp t n p1 u) m J → BN b Sn sc m J → m b 5 = u → (∀ v, v < u → EQ (b + 5 + 6 * v) Sn sc (Ru t n p1 v) m J) → ((rE t n p1 j u).1 ≠ 0 → ∀ m' J', m' 4 3 = (rE t n p1 j u).1 → m' 4 4 = (rE t n p1 j u).2.1 → sysF b m J m' J' → post (m' 4 3) m' J' P) → ((rE t n p1 j u).1 = 0 → ∀ m' J' (x3 x4 : Int), m' b 5 = (((rE t n p1 j u).2.2 : Nat) : Int) → (∀ v, v < (rE t n p1 j u).2.2 → EQ (b + 5 + 6 * v) Sn sc (Ru t n p1 v) m' J') → BN b Sn sc m' J' → sysF b m J m' J' → (∀ k, m' 4 k = m 4 k) → (∀ a k, b ≤ a → a < b + 5 → ¬ (a = b ∧ k = 5) → m' a k = m a k) → (∀ a k, b ≤ a → a < b + 5 → J' a k = J a k) → Ci X (d + 5) 37 [.ref 4, .ref b] m' J' P (fun z12 m9 J10 P11 => PP P11 ∧ Zr z12 ∧ ((z12 = 0 → Rn X (d + 6) 16 125 [some (.ref 4), some (.int (iz x1)), some (.ref b), some (.int (iz x3)), some (.int (iz x4))] [] (SS m9 J10 P11) (QI post)) ∧ (¬ (z12 = 0) → Rn X (d + 6) 16 130 [some (.ref 4), some (.int (iz x1)), some (.ref b), some (.int (iz 1)), some (.int (iz 0))] [] (SS m9 J10 P11) (QI post))))) → Rn X (d + 6) 16 24 [some (.ref 4), some (.int (iz x1)), some (.ref b), some (.int (iz 1)), some (.int (iz (u : Int)))] [] (SS m J P) (QI post) := by
  have kb := kd_book hb
  intro j
  induction j with
  | zero =>
    intro u hu m J hC hB h5 hQ kF kD
    have hft := ft_bd t n (rp t n p1 u)
    refine b_Reader_readSystem_24 x1 b 1 u kb m J P hp post ⟨by constructor <;> omega, fun _ => ⟨zr1, fun h => absurd h (by decide), fun _ => ?_⟩, fun h => absurd (by omega) h⟩
    refine c_hasNoMore hp hC (fun g => ⟨hp, zr0, fun _ => ?_, fun h => absurd rfl h⟩) (fun g => ⟨hp, zr1, fun h => absurd h (by decide), fun _ => ?_⟩) (fun g g2 => ⟨hp, zr0, fun _ => ?_, fun h => absurd rfl h⟩)
    · have e : rE t n p1 0 u = (3, rp t n p1 u, u) := by rw [rE, if_pos g]
      rw [e] at kF
      have kF := kF (show (3 : Int) ≠ 0 by decide)
      refine c_rs_125 hp kb (by rw [mu_ne _ _ (by omega), mu_ne _ _ (by omega), h5]; omega) (kF _ _ ?_ (mu_at _ _ _ _) sysF_ref)
      rw [mu_ne _ _ (by decide), mu_at]
    · have e : rE t n p1 0 u = (0, -1, u) := by rw [rE, if_neg (by omega), if_pos g]
      rw [e] at kD
      exact kD rfl m J 1 u h5 hQ hB sysF_refl (fun _ => rfl) (fun _ _ _ _ _ => rfl) (fun _ _ _ _ => rfl)
    · have e : rE t n p1 0 u = (ft t n (rp t n p1 u), rp t n p1 u, u) := by rw [rE, if_neg g, if_neg g2]
      rw [e] at kF
      have kF := kF (show ft t n (rp t n p1 u) ≠ 0 by omega)
      refine c_rs_125 hp kb (by rw [mu_ne _ _ (by omega), mu_ne _ _ (by omega), h5]; omega) (kF _ _ ?_ (mu_at _ _ _ _) sysF_ref)
      rw [mu_ne _ _ (by decide), mu_at]
  | succ j ih =>
    intro u hu m J hC hB h5 hQ kF kD
    have hft := ft_bd t n (rp t n p1 u)
    have hkb := tK_bd t n (rp t n p1 u)
    have e4 : m 2 4 = tK t n (rp t n p1 u) := hC.1.2.2.1
    refine b_Reader_readSystem_24 x1 b 1 u kb m J P hp post ⟨by constructor <;> omega, fun h => absurd h (by omega), fun _ => ⟨zr1, fun h => absurd h (by decide), fun _ => ⟨by rw [e4]; constructor <;> omega, fun g11 => ⟨zr1, fun h => absurd h (by decide), fun _ => ?_⟩, fun g11 => ?_⟩⟩⟩
    · rw [e4] at g11
      refine c_hasNoMore hp hC (fun g => absurd g g11) (fun g => ⟨hp, zr1, fun h => absurd h (by decide), fun _ => ?_⟩) (fun g g2 => ⟨hp, zr0, fun _ => ?_, fun h => absurd rfl h⟩)
      · have e : rE t n p1 (j + 1) u = (0, -1, u) := by rw [rE, if_neg g11, if_pos g]
        rw [e] at kD
        exact kD rfl m J 1 u h5 hQ hB sysF_refl (fun _ => rfl) (fun _ _ _ _ _ => rfl) (fun _ _ _ _ => rfl)
      · have e : rE t n p1 (j + 1) u = (ft t n (rp t n p1 u), rp t n p1 u, u) := by rw [rE, if_neg g11, if_neg g2]
        rw [e] at kF
        have kF := kF (show ft t n (rp t n p1 u) ≠ 0 by omega)
        refine c_rs_125 hp kb (by rw [mu_ne _ _ (by omega), mu_ne _ _ (by omega), h5]; omega) (kF _ _ ?_ (mu_at _ _ _ _) sysF_ref)
        rw [mu_ne _ _ (by decide), mu_at]
    · rw [e4] at g11
      have g11 := Classical.not_not.mp g11
      have hr := rp_bd hT h1 u
      have ha := nxp_le hT hr.2
      have hE : EB (b + 5 + 6 * u) b := by unfold EB; omega
      have ko := kd_rule hb (u := u) (by omega)
      refine c_adv hp hT hr hC fun m1 J1 c1 c2 => ⟨hp, by omega, ?_⟩
      have eu : b + 5 + 6 * ((u : Nat) : Int).toNat = b + 5 + 6 * u := by omega
      rw [eu]
      have f1 : ∀ a k, a ≠ 2 → m1 a k = m a k := fun a k h => c2.1 a k (fun e => h e.1)
      have g1 : ∀ a k, a ≠ 2 → J1 a k = J a k := fun a k h => c2.2 a k (fun e => h e.1)
      have hB1 : BN b Sn sc m1 J1 := BN_fr hB (fun k => f1 _ _ (by omega)) (fun k => g1 _ _ (by omega))
      have eR : rE t n p1 (j + 1) u = if Ru t n p1 u 0 5 ≠ 0 then (Ru t n p1 u 0 5, Ru t n p1 u 0 6, u + 1) else if tK t n (Ru t n p1 u 0 0) ≠ 7 then (ft t n (Ru t n p1 u 0 0), Ru t n p1 u 0 0, u + 1) else rE t n p1 j (u + 1) := by rw [rE, if_pos g11]
      refine c_readTwo (o := b + 5 + 6 * u) (sign := 9) (most := 8) hp kb ko hE hT (by decide) (by constructor <;> decide) ⟨by omega, ha.2⟩ c1 hB1 (fun h m2 J2 d1 d2 d3 d4 => ⟨hp, zr1, fun h => absurd h (by decide), fun _ => ?_⟩) (fun h m2 J2 d1 d2 d3 => ⟨hp, zr0, fun _ => ?_, fun h => absurd rfl h⟩)
      · have h' : Ru t n p1 u 0 5 = 0 := h
        have d1' : cC t n (Ru t n p1 u 0 0) m2 J2 := d1
        have d2' : EQ (b + 5 + 6 * u) Sn sc (Ru t n p1 u) m2 J2 := d2
        have hz := (yTwo_bd (sign := 9) (most := 8) hT (p := nxp t n (rp t n p1 u)) (by omega) (by decide)).1
        have hz' : 0 ≤ Ru t n p1 u 0 0 ∧ Ru t n p1 u 0 0 ≤ n := hz
        have hft2 := ft_bd t n (Ru t n p1 u 0 0)
        rw [if_neg (fun g => g h')] at eR
        refine c_take (K := 7) hp hT hz' d1' (by constructor <;> decide) (fun g7 m3 J3 e1 e2 => ⟨hp, zr1, fun h => absurd h (by decide), fun _ => ?_⟩) (fun g7 => ⟨hp, zr0, fun _ => ?_, fun h => absurd rfl h⟩)
        · rw [if_neg (fun g => g g7)] at eR
          rw [eR] at kF kD
          have q : sysF b m J (mu m3 b 5 ((u : Int) + 1)) J3 := sysF_trans (sysF_adv c2) (sysF_trans (sysF_q (by omega) d3) (sysF_trans (sysF_adv e2) (sysF_b (by omega))))
          have f3 : ∀ a k, a ≠ 2 → m3 a k = m2 a k := fun a k h => e2.1 a k (fun e => h e.1)
          have g3 : ∀ a k, a ≠ 2 → J3 a k = J2 a k := fun a k h => e2.2 a k (fun e => h e.1)
          have fb : ∀ a k, b ≤ a → a < b + 5 → ¬ (a = b ∧ k = 5) → mu m3 b 5 ((u : Int) + 1) a k = m a k := fun a k q1 q2 q3 => by rw [mu_ne _ _ (by omega), f3 _ _ (by omega), d3.1 _ _ (by omega) (by omega) (by omega) (by omega), f1 _ _ (by omega)]
          have gb : ∀ a k, b ≤ a → a < b + 5 → J3 a k = J a k := fun a k q1 q2 => by rw [g3 _ _ (by omega), d3.2.2 _ _ (by omega) (by omega), g1 _ _ (by omega)]
          refine ih (u + 1) (by omega) (mu m3 b 5 ((u : Int) + 1)) J3 (cC_fr e1 (fun k => mu_ne _ _ (by omega)) (fun k => mu_ne _ _ (by omega)) (fun _ => rfl)) ?_ (mu_at _ _ _ _) (fun v hv => ?_) (fun h m' J' q1 q2 q3 => kF h m' J' q1 q2 (sysF_trans q q3)) (fun h m' J' x3 x4 q1 q2 q3 q4 q5 q6 q7 => kD h m' J' x3 x4 q1 q2 q3 (sysF_trans q q4) (fun k => ?_) (fun a k z1 z2 z3 => (q6 a k z1 z2 z3).trans (fb a k z1 z2 z3)) (fun a k z1 z2 => (q7 a k z1 z2).trans (gb a k z1 z2)))
          · obtain ⟨⟨r1, r2⟩, r3⟩ := hB
            exact ⟨⟨by rw [fb _ _ (by omega) (by omega) (fun e => absurd e.2 (by decide))]; exact r1, r2⟩, fun i hi => by rw [gb _ _ (by omega) (by omega)]; exact r3 i hi⟩
          · by_cases e : v = u
            · rw [e]
              exact EQ_fr d2' (fun a k q1 q2 => by rw [mu_ne _ _ (by omega), f3 _ _ (by omega)]) (fun k => g3 _ _ (by omega))
            · refine EQ_fr (hQ v (by omega)) (fun a k q1 q2 => ?_) (fun k => ?_)
              · rw [mu_ne _ _ (by omega), f3 _ _ (by omega), d3.1 _ _ (by omega) (by omega) (by omega) (by omega), f1 _ _ (by omega)]
              · rw [g3 _ _ (by omega), d3.2.2 _ _ (by omega) (by omega), g1 _ _ (by omega)]
          · rw [q5, mu_ne _ _ (by omega), f3 _ _ (by omega), d4, f1 _ _ (by omega)]
        · rw [if_pos g7] at eR
          rw [eR] at kF
          have kF := kF (show ft t n (Ru t n p1 u 0 0) ≠ 0 by omega)
          refine c_rs_24_0 hp kb (by rw [mu_at]; omega) (by omega) (kF _ _ ?_ ?_ (sysF_trans (sysF_adv c2) (sysF_trans (sysF_q (by omega) d3) (sysF_trans sysF_ref (sysF_b (by omega))))))
          · rw [mu_ne _ _ (by omega), mu_ne _ _ (by decide), mu_at]
          · rw [mu_ne _ _ (by omega), mu_at]
      · have h' : Ru t n p1 u 0 5 ≠ 0 := h
        rw [if_pos h'] at eR
        rw [eR] at kF
        have kF := kF h'
        refine c_rs_24_0 hp kb (by rw [mu_at]; omega) (by omega) (kF _ _ ?_ ?_ (sysF_trans (sysF_adv c2) (sysF_trans (sysF_q (by omega) d3) (sysF_b (by omega)))))
        · rw [mu_ne _ _ (by omega)]; exact d1
        · rw [mu_ne _ _ (by omega)]; exact d2
end RUL
