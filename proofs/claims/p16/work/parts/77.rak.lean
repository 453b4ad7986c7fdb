/-! GOALS and TERMS that are asked about: the reference -/
section RAK
variable {X : aX} {d : Nat} {P : Mp} {sc : Nat} {Sn : Nat → Nat} {ar : Nat → Int} {t : Int → Int} {n most p : Int} {m : Mi} {J : Mj} {Z : Mi}
/-- the reference's SYSTEM has these SYMBOLS -/
def RK (sc : Nat) (Sn : Nat → Nat) (ar : Nat → Int) (m : Mi) (J : Mj) : Prop := (m 262 34 = sc ∧ sc ≤ 16) ∧ (∀ i : Nat, i < sc → J 279 i = rN (Sn i) ∧ isN (Sn i)) ∧ ∀ i : Nat, i < sc → m 280 i = ar i ∧ 0 ≤ ar i ∧ ar i ≤ 4
theorem RK_fr {m' : Mi} {J' : Mj} (h : RK sc Sn ar m J) (f1 : m' 262 34 = m 262 34) (f2 : ∀ k, m' 280 k = m 280 k) (f3 : ∀ k, J' 279 k = J 279 k) : RK sc Sn ar m' J' :=
  ⟨⟨f1.trans h.1.1, h.1.2⟩, fun i hi => by rw [f3]; exact h.2.1 i hi, fun i hi => by rw [f2]; exact h.2.2 i hi⟩
theorem r_numbered {x3 n3 lo hi : Nat} (hp : PP P) (k3 : am_kd an_K x3 = some (.inr (0, n3))) (b3 : n3 ≤ 100000) (h3 : 280 < x3) (hn3 : hi - lo ≤ n3) (hlo : lo ≤ hi) (hZ : yU n most Z) (hm : most ≤ 8) (hhi : (hi : Int) ≤ Z 0 3) {m0 : Mi} (hK : RK sc Sn ar m0 J) (hR : ∀ c : Nat, (c : Int) < Z 0 3 → m0 269 c = Z 1 c ∧ J 265 c = rN (Z 2 c).toNat) {post : Int → Mi → Mj → Mp → Prop} (k : ∀ (m' : Mi), (∀ j, lo + j < hi → m' x3 j = cdZ Sn sc Z (lo + j)) → (∀ a k, a ≠ x3 → m' a k = m0 a k) → post ((hi : Int) - lo) m' J P) : Ci X (d + 1) 187 [.ref 262, .int (iz (lo : Int)), .int (iz (hi : Int)), .ref x3] m0 J P post := by
  have h1 := hZ.1
  have loop : ∀ (q j : Nat) (m : Mi), lo + j + q = hi → (∀ i, i < j → m x3 i = cdZ Sn sc Z (lo + i)) → (∀ a k, a ≠ x3 → m a k = m0 a k) → ∀ x4 : Int, x4 = lo + j → Rn X (d + 1) 187 3 [some (.ref 262), some (.int (iz (lo : Int))), some (.int (iz (hi : Int))), some (.ref x3), some (.int (iz x4))] [] (SS m J P) (QI post) := by
    intro q
    induction q with
    | zero =>
      intro j m hj g1 g2 x4 hx
      exact b_Mdl_numbered_3 lo hi x3 n3 x4 k3 b3 m J P hp post ⟨by constructor <;> omega, by constructor <;> omega, fun _ => k m (fun i hi => g1 i (by omega)) g2, fun h => absurd (by omega) h⟩
    | succ q ih =>
      intro j m hj g1 g2 x4 hx
      have e4 : x4.toNat = lo + j := by omega
      have e5 : (x4 - (lo : Int)).toNat = j := by omega
      have r := hR (lo + j) (by omega)
      obtain ⟨z1, z2, z3, z4, z5⟩ := hZ.2.2.1 (lo + j) (by omega)
      have f1 : m 269 (lo + j) = Z 1 (lo + j) := by rw [g2 _ _ (by omega)]; exact r.1
      have f2 : m 262 34 = sc := by rw [g2 _ _ (by omega)]; exact hK.1.1
      have step : ∀ z, z = cdZ Sn sc Z (lo + j) → Rn X (d + 1) 187 3 [some (.ref 262), some (.int (iz (lo : Int))), some (.int (iz (hi : Int))), some (.ref x3), some (.int (iz (x4 + 1)))] [] (SS (mu m x3 j z) J P) (QI post) := fun z hz => by
        refine ih (j + 1) _ (by omega) (fun i hi => ?_) (fun a k q => by rw [mu_ne _ _ (by omega)]; exact g2 a k q) (x4 + 1) (by omega)
        by_cases e : i = j
        · rw [e, mu_at]; exact hz
        · rw [mu_ne _ _ (by omega)]; exact g1 i (by omega)
      refine b_Mdl_numbered_3 lo hi x3 n3 x4 k3 b3 m J P hp post ⟨by constructor <;> omega, by constructor <;> omega, fun h => absurd h (by omega), fun _ => ⟨by omega, ?_⟩⟩
      rw [e4, e5, f1, r.2, f2]
      refine ⟨by constructor <;> omega, fun v => ⟨by omega, ?_⟩, fun v => ⟨by omega, by omega, step _ ?_⟩⟩
      · refine r_symbolOf (na := 16) (sc := sc) (Sn := Sn) hp (by decide +kernel) (by decide) hK.1.2 hK.2.1 z4.2 rfl ⟨hp, by omega, step _ ?_⟩
        rw [cdZ, if_neg (by omega)]
      · rw [cdZ, if_pos (by omega)]
  exact Ci.of rfl rfl rfl (b_Mdl_numbered_0 lo hi x3 n3 k3 b3 m0 J P hp post (loop (hi - lo) 0 m0 (by omega) (fun i hi => absurd hi (Nat.not_lt_zero _)) (fun _ _ _ => rfl) lo (by omega)))
theorem r_tells {k p : Int} (hp : PP P) (h10 : m 262 10 = k) (h11 : k ≠ 0 → m 262 11 = p) (h11' : k = 0 → p = -1) (hk : 0 ≤ k ∧ k ≤ 9) {post : Mi → Mj → Mp → Prop} (w : post (mu (mu m 262 12 k) 262 13 p) J P) : Cv X d 159 [.ref 262] m J P post := by
  have e10 : mu m 262 12 k 262 10 = k := by rw [mu_ne _ _ (by decide)]; exact h10
  refine Cv.of rfl rfl rfl (b_Mdl_tells_0 m J P hp post ?_)
  rw [h10, e10]
  refine ⟨by constructor <;> omega, fun g => ?_, fun g => ?_⟩
  · rw [mu_ne _ _ (by decide), h11 g]; exact w
  · rw [← h11' (Classical.not_not.mp g)]; exact w
theorem r_ends0 (hp : PP P) (hT : Tx t n) (hC : rC t n p m J) (h10 : m 262 10 = 0) {post : Mi → Mj → Mp → Prop} (k1 : tK t n p = 0 → post m J P) (k2 : tK t n p ≠ 0 → post (mu (mu m 262 10 (ft t n p)) 262 11 p) J P) : Cv X (d + 2) 186 [.ref 262] m J P post := by
  have hsb := tS_bd (p := p) hT
  have hsa := tS_all (p := p) hT
  have es : m 262 3 = tS t n p := hC.1.2.2.1
  have z10 : Zr (m 262 10) := by rw [h10]; exact zr0
  refine Cv.of rfl rfl rfl (b_Mdl_ends_0 m J P hp post ⟨z10, fun h => absurd h10 h, fun _ => ⟨by rw [es]; constructor <;> omega, fun g => ?_, fun g => ?_⟩⟩)
  · rw [es, hsa.1] at g
    exact k1 g
  · rw [es, hsa.1] at g
    refine r_wrongT hp hT hC z10 ⟨hp, ?_⟩
    rw [rf_0 h10]
    exact k2 g
theorem r_ends1 (hp : PP P) (h10 : 0 < m 262 10 ∧ m 262 10 ≤ 9) {post : Mi → Mj → Mp → Prop} (k : post m J P) : Cv X (d + 2) 186 [.ref 262] m J P post :=
  Cv.of rfl rfl rfl (b_Mdl_ends_0 m J P hp post ⟨by constructor <;> omega, fun _ => k, fun h => absurd (by omega) h⟩)
/-- what asking may change in the reference -/
def kF (m : Mi) (J : Mj) (m' : Mi) (J' : Mj) : Prop := (∀ a k, ¬ (a = 262 ∧ (k = 1 ∨ k = 2 ∨ k = 3 ∨ k = 4 ∨ k = 5 ∨ k = 6 ∨ k = 10 ∨ k = 11 ∨ k = 12 ∨ k = 13 ∨ k = 16 ∨ k = 17 ∨ k = 129 ∨ k = 130)) → ¬ (269 ≤ a ∧ a ≤ 278) → a ≠ 341 → a ≠ 342 → m' a k = m a k) ∧ (∀ a k, ¬ (a = 262 ∧ k = 7) → a ≠ 265 → a ≠ 266 → J' a k = J a k) ∧ m' 262 1 = 0
/-- what is known when a GOAL or a TERM is fine -/
def kQ (L : Int) (Sn : Nat → Nat) (sc : Nat) (Z : Mi) (m : Mi) (J : Mj) : Prop := (m 262 129 = L ∧ m 262 130 = Z 0 3 - L) ∧ (∀ j : Nat, (j : Int) < L → m 341 j = cdZ Sn sc Z j) ∧ (∀ j : Nat, L + j < Z 0 3 → m 342 j = cdZ Sn sc Z (L.toNat + j)) ∧ m 262 17 = Z 0 4 ∧ ∀ v : Nat, (v : Int) < Z 0 4 → J 266 v = rN (Z 7 v).toNat
/-- frame of what is read behind begin(): m1 is the memory behind it -/
def lF (m : Mi) (J : Mj) (m' : Mi) (J' : Mj) : Prop := (∀ a k, ¬ (a = 262 ∧ (k = 3 ∨ k = 4 ∨ k = 5 ∨ k = 6 ∨ k = 10 ∨ k = 11 ∨ k = 16 ∨ k = 17)) → ¬ (269 ≤ a ∧ a ≤ 278) → m' a k = m a k) ∧ (∀ a k, ¬ (a = 262 ∧ k = 7) → a ≠ 265 → a ≠ 266 → J' a k = J a k)
theorem lF_trans {m' m'' : Mi} {J' J'' : Mj} (h1 : lF m J m' J') (h2 : lF m' J' m'' J'') : lF m J m'' J'' :=
  ⟨fun a k g g2 => (h2.1 a k g g2).trans (h1.1 a k g g2), fun a k g g2 g3 => (h2.2 a k g g2 g3).trans (h1.2 a k g g2 g3)⟩
theorem lF_t {base : Nat} {m' : Mi} {J' : Mj} (h : tF base m J m' J') : lF m J m' J' :=
  ⟨fun a k g g2 => h.1 a k g (fun e => by omega) (by omega), fun a k g g2 g3 => h.2 a k g (fun e => g2 e.1) g3⟩
theorem lF_n {m' : Mi} {J' : Mj} (h : rF m J m' J') : lF m J m' J' := lF_t (base := 0) (tF_nxt h)
theorem lF_bad {x y : Int} : lF m J (mu (mu m 262 10 x) 262 11 y) J :=
  ⟨fun a k g _ => by rw [mu_ne _ _ (by omega), mu_ne _ _ (by omega)], fun _ _ _ _ _ => rfl⟩
theorem lF_s {k0 : Nat} {x : Int} (h : k0 = 16 ∨ k0 = 17) : lF m J (mu m 262 k0 x) J :=
  ⟨fun a k g _ => mu_ne _ _ (fun e => g ⟨e.1, by omega⟩), fun _ _ _ _ _ => rfl⟩
theorem kF_of {m1 m2 m3 : Mi} {J1 J2 : Mj} (h1 : bgR m J m1 J1) (h2 : lF m1 J1 m2 J2) (h3 : ∀ a k, ¬ (a = 262 ∧ (k = 12 ∨ k = 13 ∨ k = 129 ∨ k = 130)) → a ≠ 341 → a ≠ 342 → m3 a k = m2 a k) : kF m J m3 J2 :=
  ⟨fun a k g g2 g3 g4 => by rw [h3 a k (fun e => g ⟨e.1, by omega⟩) g3 g4, h2.1 a k (fun e => g ⟨e.1, by omega⟩) g2, h1.1 a k (fun e => g ⟨e.1, by omega⟩)], fun a k g g2 g3 => (h2.2 a k g g2 g3).trans (h1.2.1 a k g), by rw [h3 _ _ (by decide) (by decide) (by decide), h2.1 _ _ (by decide) (by decide)]; exact h1.2.2.1⟩
/-- asks() from its judging on: a FAULT -/
theorem r_asks81_bad {x1 x2 x3 k p : Int} {m1 : Mi} {J1 : Mj} {m0 : Mi} {J0 : Mj} (hp : PP P) (hb : bgR m0 J0 m1 J1) (hl : lF m1 J1 m J) (h10 : m 262 10 = k) (h11 : m 262 11 = p) (hk : 0 < k ∧ k ≤ 9) {post : Int → Mi → Mj → Mp → Prop} (w : ∀ m', m' 262 12 = k → m' 262 13 = p → m' 262 10 = k → kF m0 J0 m' J → post 0 m' J P) : Rn X (d + 4) 185 81 [some (.ref 262), some (.int (iz x1)), some (.int (iz x2)), some (.int (iz x3))] [] (SS m J P) (QI post) := by
  refine b_Mdl_asks_81 x1 x2 x3 m J P hp post (r_tells hp h10 (fun _ => h11) (fun e => absurd e (by omega)) (by omega) ⟨hp, ?_⟩)
  have e10 : mu (mu m 262 12 k) 262 13 p 262 10 = k := by rw [mu_ne _ _ (by decide), mu_ne _ _ (by decide)]; exact h10
  exact ⟨by rw [e10]; constructor <;> omega, fun g => absurd g (by rw [e10]; omega), fun _ => w _ (by rw [mu_ne _ _ (by decide), mu_at]) (mu_at _ _ _ _) e10 (kF_of hb hl (fun a k g _ _ => by rw [mu_ne _ _ (by omega), mu_ne _ _ (by omega)]))⟩
/-- asks() from its judging on: none -/
theorem r_asks81 {x1 x2 L : Int} {m1 : Mi} {J1 : Mj} {m0 : Mi} {J0 : Mj} (hp : PP P) (hb : bgR m0 J0 m1 J1) (hl : lF m1 J1 m J) (h10 : m 262 10 = 0) (hZ : yU n most Z) (hm : most ≤ 8) (hL : 0 ≤ L ∧ L ≤ 40 ∧ L ≤ Z 0 3 ∧ Z 0 3 ≤ L + 40) (hK : RK sc Sn ar m J) (hY : RY 0 Z m J) {post : Int → Mi → Mj → Mp → Prop} (w : ∀ m', m' 262 12 = 0 → m' 262 13 = -1 → m' 262 10 = 0 → kQ L Sn sc Z m' J → kF m0 J0 m' J → post 1 m' J P) : Rn X (d + 4) 185 81 [some (.ref 262), some (.int (iz x1)), some (.int (iz x2)), some (.int (iz L))] [] (SS m J P) (QI post) := by
  obtain ⟨y1, y2, y3, y4⟩ := hY
  refine b_Mdl_asks_81 x1 x2 L m J P hp post (r_tells (k := 0) (p := -1) hp h10 (fun e => absurd rfl e) (fun _ => rfl) (by decide) ⟨hp, ?_⟩)
  have f1 : ∀ a k, ¬ (a = 262 ∧ (k = 12 ∨ k = 13)) → mu (mu m 262 12 0) 262 13 (-1) a k = m a k := fun a k h => by rw [mu_ne _ _ (by omega), mu_ne _ _ (by omega)]
  have e10 : mu (mu m 262 12 0) 262 13 (-1) 262 10 = 0 := (f1 _ _ (by decide)).trans h10
  refine ⟨by rw [e10]; exact zr0, fun _ => ?_, fun g => absurd (by omega) g⟩
  have eL : L = ((L.toNat : Nat) : Int) := by omega
  have eE : Z 0 3 = (((Z 0 3).toNat : Nat) : Int) := by omega
  have hK1 : RK sc Sn ar (mu (mu m 262 12 0) 262 13 (-1)) J := RK_fr hK (f1 _ _ (by decide)) (fun k => f1 _ _ (by omega)) (fun _ => rfl)
  have hR1 : ∀ c : Nat, (c : Int) < Z 0 3 → mu (mu m 262 12 0) 262 13 (-1) 269 c = Z 1 c ∧ J 265 c = rN (Z 2 c).toNat := fun c hc => by
    have := y2 c hc
    rw [Nat.zero_add] at this
    rw [f1 _ _ (by omega)]
    exact ⟨this.1, this.2.2.2⟩
  have A : Ci X (d + 3) 187 [.ref 262, .int (iz ((0 : Nat) : Int)), .int (iz ((L.toNat : Nat) : Int)), .ref 341] (mu (mu m 262 12 0) 262 13 (-1)) J P _ := r_numbered (lo := 0) (hi := L.toNat) (n3 := 40) (x3 := 341) (Z := Z) (n := n) (most := most) hp (by decide +kernel) (by decide) (by decide) (by omega) (Nat.zero_le _) hZ hm (by omega) hK1 hR1 (post := fun z10 m7 J8 P9 => PP P9 ∧ Ci X (d + 3) 187 [.ref 262, .int (iz L), .int (iz (mu m7 262 129 z10 262 16)), .ref 342] (mu m7 262 129 z10) J8 P9 (fun z15 m12 J13 P14 => PP P14 ∧ post 1 (mu m12 262 130 z15) J13 P14)) (fun m2 g1 g2 => ⟨hp, ?_⟩)
  · rw [← eL] at A
    exact A
  · have f2 : ∀ x : Int, ∀ a k, a ≠ 341 → ¬ (a = 262 ∧ (k = 12 ∨ k = 13 ∨ k = 129)) → mu m2 262 129 x a k = m a k := fun x a k h h2 => by rw [mu_ne _ _ (by omega), g2 a k h, f1 a k (by omega)]
    have e16 : ∀ x : Int, mu m2 262 129 x 262 16 = (((Z 0 3).toNat : Nat) : Int) := fun x => by rw [f2 _ _ _ (by decide) (by decide), y1, ← eE]; omega
    rw [e16]
    have B : Ci X (d + 3) 187 [.ref 262, .int (iz ((L.toNat : Nat) : Int)), .int (iz (((Z 0 3).toNat : Nat) : Int)), .ref 342] (mu m2 262 129 (((L.toNat : Nat) : Int) - ((0 : Nat) : Int))) J P (fun z15 m12 J13 P14 => PP P14 ∧ post 1 (mu m12 262 130 z15) J13 P14) := r_numbered (lo := L.toNat) (hi := (Z 0 3).toNat) (n3 := 40) (x3 := 342) (Z := Z) (n := n) (most := most) hp (by decide +kernel) (by decide) (by decide) (by omega) (by omega) hZ hm (by omega) (RK_fr hK (f2 _ _ _ (by decide) (by decide)) (fun k => f2 _ _ _ (by decide) (by omega)) (fun _ => rfl)) (fun c hc => ⟨by rw [f2 _ _ _ (by decide) (by omega), ← f1 _ _ (by omega)]; exact (hR1 c hc).1, (hR1 c hc).2⟩) (fun m3 q1 q2 => ⟨hp, w _ ?_ ?_ ?_ ⟨⟨?_, ?_⟩, fun j hj => ?_, fun j hj => ?_, ?_, y4⟩ (kF_of hb hl (fun a k g1 g2 g3 => ?_))⟩)
    · rw [← eL] at B ⊢
      exact B
    · rw [mu_ne _ _ (by decide), q2 _ _ (by decide), mu_ne _ _ (by decide), g2 _ _ (by decide), mu_ne _ _ (by decide), mu_at]
    · rw [mu_ne _ _ (by decide), q2 _ _ (by decide), mu_ne _ _ (by decide), g2 _ _ (by decide), mu_at]
    · rw [mu_ne _ _ (by decide), q2 _ _ (by decide), f2 _ _ _ (by decide) (by decide)]; exact h10
    · rw [mu_ne _ _ (by decide), q2 _ _ (by decide), mu_at]; omega
    · rw [mu_at]; omega
    · rw [mu_ne _ _ (by omega), q2 _ _ (by decide), mu_ne _ _ (by omega), g1 j (by omega), Nat.zero_add]
    · rw [mu_ne _ _ (by omega)]; exact q1 j (by omega)
    · rw [mu_ne _ _ (by decide), q2 _ _ (by decide), f2 _ _ _ (by decide) (by decide)]; exact y3
    · rw [mu_ne _ _ (by omega), q2 _ _ g3, f2 _ _ _ g2 (by omega)]
theorem r_judgeAsk {Z : Mi} (hp : PP P) (hZ : yU n most Z) (hm : most ≤ 8) (hn : n ≤ 1600) (hK : RK sc Sn ar m J) (hY : RY 0 Z m J) (h10 : m 262 10 = 0) {post : Mi → Mj → Mp → Prop} (k1 : (jN Sn sc ar Z (Z 0 3).toNat 0).1 = 0 → post m J P) (k2 : (jN Sn sc ar Z (Z 0 3).toNat 0).1 ≠ 0 → post (mu (mu m 262 10 (jN Sn sc ar Z (Z 0 3).toNat 0).1) 262 11 (jN Sn sc ar Z (Z 0 3).toNat 0).2) J P) : Cv X (d + 1) 152 [.ref 262, .int (iz 0), .int (iz (m 262 16)), .ref 279, .int (iz (m 262 34)), .ref 280] m J P post := by
  have h1 := hZ.1
  have e16 : m 262 16 = Z 0 3 := by rw [hY.1]; omega
  refine Cv.of rfl rfl rfl (b_Mdl_judgeNames_0 0 _ 279 16 _ 280 16 (by decide +kernel) (by decide) (by decide +kernel) (by decide) m J P hp post ?_)
  have := r_judgeNames_3 (X := X) (d := d) (na := 16) (nq := 16) (sc := sc) (Sn := Sn) (ar := ar) (base := 0) (Z := Z) (x1 := 0) (x2 := m 262 16) (x4 := m 262 34) (hi := (Z 0 3).toNat) (a := 279) (q := 280) hp (by decide +kernel) (by decide) (by decide +kernel) (by decide) hK.1.2 ⟨hK.1.2, hK.1.2⟩ hK.2.1 hK.1.1 hK.2.2 hZ hm hn (by omega) h10 (fun c hc => hY.2.1 c hc) (by omega) (by rw [e16]; omega) (post := post) (Z 0 3).toNat 0 (by omega) k1 k2
  exact this
end RAK
