/-! a SYSTEM without a FAULT, and how the reference takes it -/
section TSY
variable {X : aX} {d : Nat} {P : Mp} {sc base u N : Nat} {Sn : Nat → Nat} {ar : Nat → Int} {t : Int → Int} {n most : Int} {m : Mi} {J : Mj} {Z : Mi} {R : Nat → Mi}
/-- a RULE without a FAULT -/
def RO (sc : Nat) (ar : Nat → Int) (L E : Nat) (cd : Nat → Int) (nx pt : Nat → Nat) : Prop := Rw cd nx pt L E ∧ (L ≤ 40 ∧ E ≤ L + 40) ∧ 0 ≤ cd 0 ∧ (∀ c, L ≤ c → c < E → cd c < 0 → ∃ c', c' < L ∧ cd c' = cd c) ∧ (∀ c, c < E → 0 ≤ cd c → cd c < sc ∧ ar (cd c).toNat = pt c)
theorem jR_0 (h : (jR Sn sc ar Z).1 = 0) : (jN Sn sc ar Z (Z 0 3).toNat 0).1 = 0 ∧ Z 1 0 < 0 ∧ jV Z ((Z 0 3).toNat - (Z 0 7).toNat) (Z 0 7).toNat < 0 := by
  unfold jR at h
  by_cases g : (jN Sn sc ar Z (Z 0 3).toNat 0).1 ≠ 0
  · rw [if_pos g] at h; exact absurd h g
  rw [if_neg g] at h
  by_cases g2 : 0 ≤ Z 1 0
  · rw [if_pos g2] at h; exact absurd h (show ¬ (7 : Int) = 0 by decide)
  rw [if_neg g2] at h
  by_cases g3 : 0 ≤ jV Z ((Z 0 3).toNat - (Z 0 7).toNat) (Z 0 7).toNat
  · rw [if_pos g3] at h; exact absurd h (show ¬ (7 : Int) = 0 by decide)
  exact ⟨Classical.not_not.mp g, by omega, by omega⟩
theorem jV_neg : ∀ (k c : Nat), jV Z k c < 0 → ∀ i, c ≤ i → i < c + k → Z 1 i < Z 0 8
  | 0, c, _, i, h1, h2 => absurd h2 (by omega)
  | k + 1, c, h, i, h1, h2 => by
    rw [jV] at h
    by_cases g : Z 0 8 ≤ Z 1 c
    · rw [if_pos g] at h; omega
    · rw [if_neg g] at h
      by_cases e : i = c
      · rw [e]; omega
      · exact jV_neg k (c + 1) h i (by omega) (by omega)
theorem RO_Z (hZ : yZ n most Z) (hm : most ≤ 8) (hs : sc ≤ 16) (hA : ∀ i : Nat, i < sc → 0 ≤ ar i ∧ ar i ≤ 4) (h : (jR Sn sc ar Z).1 = 0) : RO sc ar (Z 0 7).toNat (Z 0 3).toNat (cdZ Sn sc Z) (nxY Z) (ptY Z) := by
  obtain ⟨hN, h0, hV⟩ := jR_0 h
  have h1 := hZ.1
  have hR := Rw_Z hZ hm hs hA hN
  have hLE := Rw_LE hR
  refine ⟨hR, by omega, ?_, fun c c1 c2 v => ?_, fun c hc v => ?_⟩
  · have := jN_ok _ 0 hN 0 (Nat.le_refl _) (by omega) h0
    rw [cdZ, if_neg (by omega)]
    exact this.1
  · have b := (cdZ_bd hZ hm hs hN c2).2.1 v
    have := jV_neg _ _ hV c c1 (by omega)
    obtain ⟨c', q1, q2⟩ := hZ.2.2.2.2.1 (Z 1 c).toNat (by omega)
    refine ⟨c', by omega, ?_⟩
    rw [cdZ, cdZ, if_pos (by omega), if_pos b]
    omega
  · have b := (cdZ_bd hZ hm hs hN hc).2.2 v
    have i4 := (hZ.2.2.1 c (by omega)).1
    refine ⟨b.2.1, ?_⟩
    unfold ptY
    rw [b.2.2]; omega
theorem jT_0 : ∀ (k u : Nat), (jT Sn sc ar R k u).1 = 0 → ∀ v, u ≤ v → v < u + k → (jR Sn sc ar (R v)).1 = 0
  | 0, u, _, v, h1, h2 => absurd h2 (by omega)
  | k + 1, u, h, v, h1, h2 => by
    rw [jT] at h
    by_cases g : (jR Sn sc ar (R u)).1 ≠ 0
    · rw [if_pos g] at h; exact absurd h g
    · rw [if_neg g] at h
      by_cases e : v = u
      · rw [e]; exact Classical.not_not.mp g
      · exact jT_0 k (u + 1) h v (by omega) (by omega)
/-- a SYSTEM without a FAULT: SYMBOLS, names, ARITIES, RULES -/
def Sq (sc : Nat) (Sn : Nat → Nat) (ar : Nat → Int) (N : Nat) (R : Nat → Mi) : Prop := (sc ≤ 16 ∧ N ≤ 16) ∧ (∀ i : Nat, i < sc → isN (Sn i) ∧ 0 ≤ ar i ∧ ar i ≤ 4) ∧ ∀ v, v < N → yZ 1600 8 (R v) ∧ RO sc ar (R v 0 7).toNat (R v 0 3).toNat (cdZ Sn sc (R v)) (nxY (R v)) (ptY (R v))
theorem yZ_mono {n' : Int} (h : yZ n most Z) (hn : n ≤ n') : yZ n' most Z := by
  obtain ⟨⟨a1, a2, a3, a4⟩, b, c, e⟩ := h
  refine ⟨⟨a1, a2, a3, a4.1, by omega⟩, b, fun i hi => ?_, e⟩
  have := c i hi
  exact ⟨this.1, this.2.1, this.2.2.1, this.2.2.2.1, this.2.2.2.2.1, by omega⟩
theorem qJ_Sq (hT : Tx t n) (h : (qJ t n).1 = 0) : Sq (qsc t n) (qSn t n) (qar t n) (qN t n) (qR t n) := by
  have hS := sAll_I hT (tA_bd (t := t) hT.2.2.1)
  have hS3 := hS.2.2.1
  have esc : ((qsc t n : Nat) : Int) = sAll t n (tA t n 0) 0 3 := by
    unfold qsc qS
    omega
  have hF : (qF_ t n).1 = 0 := Classical.byContradiction fun g => by
    rw [qJ, if_pos g] at h
    exact g h
  have hJ : (jT (qSn t n) (qsc t n) (qar t n) (qR t n) (qN t n) 0).1 = 0 := by
    rw [qJ, if_neg (fun g => g hF), jAll] at h
    by_cases g : 0 ≤ jS (qSn t n) (qsc t n) 0
    · rw [if_pos g] at h; exact absurd h (show ¬ (4 : Int) = 0 by decide)
    · rw [if_neg g] at h; exact h
  have hA : ∀ i : Nat, i < qsc t n → isN (qSn t n i) ∧ 0 ≤ qar t n i ∧ qar t n i ≤ 4 := fun i hi => by
    have := hS.2.2.2.1 i (by omega)
    exact ⟨this.1.2, this.2.2⟩
  refine ⟨⟨by omega, qN_le hT⟩, hA, fun v hv => ?_⟩
  have hz := qR_Z hT hF hv
  exact ⟨yZ_mono hz hT.2.2.2, RO_Z hz (by decide) (by omega) (fun i hi => (hA i hi).2) (jT_0 _ 0 hJ v (Nat.zero_le _) (by omega))⟩
/-- the RULE u as the reference holds it -/
def RT (Sn : Nat → Nat) (sc u : Nat) (Z : Mi) (m : Mi) (J : Mj) : Prop := (m 283 u = Z 0 7 ∧ m 284 u = Z 0 3 - Z 0 7 ∧ m 285 u = Z 0 4) ∧ (∀ j : Nat, (j : Int) < Z 0 7 → m 281 (40 * u + j) = cdZ Sn sc Z j) ∧ (∀ j : Nat, Z 0 7 + j < Z 0 3 → m 282 (40 * u + j) = cdZ Sn sc Z ((Z 0 7).toNat + j)) ∧ ∀ v : Nat, (v : Int) < Z 0 4 → J 286 (8 * u + v) = rN (Z 7 v).toNat
/-- the SYSTEM as the reference holds it -/
def RSy (sc : Nat) (Sn : Nat → Nat) (ar : Nat → Int) (N : Nat) (R : Nat → Mi) (m : Mi) (J : Mj) : Prop := RK sc Sn ar m J ∧ m 262 35 = N ∧ ∀ v, v < N → RT Sn sc v (R v) m J
/-- what taking a SYSTEM may change -/
def tkF (m : Mi) (J : Mj) (m' : Mi) (J' : Mj) : Prop := (∀ a k, ¬ (a = 262 ∧ (k = 33 ∨ k = 34 ∨ k = 35)) → ¬ (279 ≤ a ∧ a ≤ 286) → a ≠ 291 → a ≠ 292 → m' a k = m a k) ∧ (∀ a k, a ≠ 279 → a ≠ 286 → J' a k = J a k)
theorem tkF_trans {m' m'' : Mi} {J' J'' : Mj} (h1 : tkF m J m' J') (h2 : tkF m' J' m'' J'') : tkF m J m'' J'' :=
  ⟨fun a k g g2 g3 g4 => (h2.1 a k g g2 g3 g4).trans (h1.1 a k g g2 g3 g4), fun a k g g2 => (h2.2 a k g g2).trans (h1.2 a k g g2)⟩
theorem RN_tk {m' : Mi} {J' : Mj} (h : RN sc Sn ar m J) (f : tkF m J m' J') : RN sc Sn ar m' J' :=
  RN_fr h (f.1 _ _ (by decide) (by decide) (by decide) (by decide)) (fun k => f.1 _ _ (by omega) (by decide) (by decide) (by decide)) (fun k => f.2 _ _ (by decide) (by decide))
theorem RR_tk {m' : Mi} {J' : Mj} (h : RR u base Z m J) (f : tkF m J m' J') : RR u base Z m' J' := by
  obtain ⟨⟨s1, s2, s3, s4, s5⟩, s6, s7⟩ := h
  refine ⟨⟨?_, ?_, ?_, ?_, ?_⟩, fun c hc => ?_, fun v hv => ?_⟩
  · rw [f.1 _ _ (by omega) (by decide) (by decide) (by decide)]; exact s1
  · rw [f.1 _ _ (by omega) (by decide) (by decide) (by decide)]; exact s2
  · rw [f.1 _ _ (by omega) (by decide) (by decide) (by decide)]; exact s3
  · rw [f.1 _ _ (by omega) (by decide) (by decide) (by decide)]; exact s4
  · rw [f.1 _ _ (by omega) (by decide) (by decide) (by decide)]; exact s5
  · rw [f.1 _ _ (by omega) (by decide) (by decide) (by decide), f.1 _ _ (by omega) (by decide) (by decide) (by decide), f.1 _ _ (by omega) (by decide) (by decide) (by decide), f.2 _ _ (by decide) (by decide)]; exact s6 c hc
  · rw [f.2 _ _ (by decide) (by decide)]; exact s7 v hv
/-- the last loop: names -/
theorem r_take_235 {u : Nat} (hp : PP P) (hu : u < 16) {post : Mi → Mj → Mp → Prop} : ∀ (q i : Nat) (J : Mj), i + q = 8 → (∀ J', (∀ a k, ¬ (a = 286 ∧ 8 * u + i ≤ k ∧ k < 8 * u + 8) → J' a k = J a k) → (∀ v, i ≤ v → v < 8 → J' 286 (8 * u + v) = J 277 (8 * u + v)) → Rn X (d + 2) 160 63 [some (.ref 262), some (.int (iz ((u : Int) + 1))), none] [] (SS m J' P) (QV post)) → Rn X (d + 2) 160 235 [some (.ref 262), some (.int (iz (u : Int))), some (.int (iz (i : Int)))] [] (SS m J P) (QV post) := by
  intro q
  induction q with
  | zero =>
    intro i J hi k
    exact b_Mdl_takeSystem_235 u i m J P hp post ⟨by constructor <;> omega, fun _ => k J (fun _ _ _ => rfl) (fun v h1 h2 => by omega), fun h => absurd (by omega) h⟩
  | succ q ih =>
    intro i J hi k
    have e : (8 * ((u : Nat) : Int) + ((i : Nat) : Int)).toNat = 8 * u + i := by omega
    refine b_Mdl_takeSystem_235 u i m J P hp post ⟨by constructor <;> omega, fun h => absurd h (by omega), fun _ => ⟨by omega, by omega, ?_⟩⟩
    rw [e]
    refine ih (i + 1) _ (by omega) fun J' q1 q2 => k J' (fun a k h => ?_) (fun v h1 h2 => ?_)
    · rw [q1 a k (fun e => h ⟨e.1, by omega, e.2.2⟩), mju_ne _ _ (fun e => h ⟨e.1, by omega, by omega⟩)]
    · by_cases e2 : v = i
      · rw [e2, q1 _ _ (by omega), mju_at]
      · rw [q2 v (by omega) h2, mju_ne _ _ (by omega)]
theorem r_take_188 {u : Nat} {s : Int} (hp : PP P) (hu : u < 16) (hs : 0 ≤ s ∧ s ≤ 40) {post : Mi → Mj → Mp → Prop} : ∀ (q i : Nat) (m : Mi), (i : Int) + q = s → m 284 u = s → (∀ m', (∀ a k, ¬ (a = 282 ∧ 40 * u + i ≤ k ∧ (k : Int) < 40 * u + s) → m' a k = m a k) → (∀ j : Nat, i ≤ j → (j : Int) < s → m' 282 (40 * u + j) = m 292 j) → Rn X (d + 2) 160 235 [some (.ref 262), some (.int (iz (u : Int))), some (.int (iz 0))] [] (SS (mu m' 285 u (m' 276 u)) J P) (QV post)) → Rn X (d + 2) 160 188 [some (.ref 262), some (.int (iz (u : Int))), some (.int (iz (i : Int)))] [] (SS m J P) (QV post) := by
  have eu : ((u : Nat) : Int).toNat = u := by omega
  intro q
  induction q with
  | zero =>
    intro i m hi h84 k
    refine b_Mdl_takeSystem_188 u i m J P hp post ⟨by omega, by constructor <;> omega, ?_⟩
    rw [eu, h84]
    exact ⟨by constructor <;> omega, fun _ => ⟨by omega, by omega, k m (fun _ _ _ => rfl) (fun j h1 h2 => by omega)⟩, fun h => absurd (by omega) h⟩
  | succ q ih =>
    intro i m hi h84 k
    have e : (40 * ((u : Nat) : Int) + ((i : Nat) : Int)).toNat = 40 * u + i := by omega
    have ei : ((i : Nat) : Int).toNat = i := by omega
    refine b_Mdl_takeSystem_188 u i m J P hp post ⟨by omega, by constructor <;> omega, ?_⟩
    rw [eu, h84, e, ei]
    refine ⟨by constructor <;> omega, fun h => absurd h (by omega), fun _ => ⟨by omega, by omega, ?_⟩⟩
    refine ih (i + 1) _ (by omega) (by rw [mu_ne _ _ (by omega)]; exact h84) fun m' q1 q2 => k m' (fun a k h => ?_) (fun j h1 h2 => ?_)
    · rw [q1 a k (fun e => h ⟨e.1, by omega, e.2.2⟩), mu_ne _ _ (fun e => h ⟨e.1, by omega, by omega⟩)]
    · by_cases e2 : j = i
      · rw [e2, q1 _ _ (by omega), mu_at]
      · rw [q2 j (by omega) h2, mu_ne _ _ (by omega)]
theorem r_take_153 {u : Nat} {s : Int} (hp : PP P) (hu : u < 16) (hs : 0 ≤ s ∧ s ≤ 40) {post : Mi → Mj → Mp → Prop} : ∀ (q i : Nat) (m : Mi), (i : Int) + q = s → m 283 u = s → (∀ m', (∀ a k, ¬ (a = 281 ∧ 40 * u + i ≤ k ∧ (k : Int) < 40 * u + s) → m' a k = m a k) → (∀ j : Nat, i ≤ j → (j : Int) < s → m' 281 (40 * u + j) = m 291 j) → Rn X (d + 2) 160 188 [some (.ref 262), some (.int (iz (u : Int))), some (.int (iz 0))] [] (SS m' J P) (QV post)) → Rn X (d + 2) 160 153 [some (.ref 262), some (.int (iz (u : Int))), some (.int (iz (i : Int)))] [] (SS m J P) (QV post) := by
  have eu : ((u : Nat) : Int).toNat = u := by omega
  intro q
  induction q with
  | zero =>
    intro i m hi h83 k
    refine b_Mdl_takeSystem_153 u i m J P hp post ⟨by omega, by constructor <;> omega, ?_⟩
    rw [eu, h83]
    exact ⟨by constructor <;> omega, fun _ => k m (fun _ _ _ => rfl) (fun j h1 h2 => by omega), fun h => absurd (by omega) h⟩
  | succ q ih =>
    intro i m hi h83 k
    have e : (40 * ((u : Nat) : Int) + ((i : Nat) : Int)).toNat = 40 * u + i := by omega
    have ei : ((i : Nat) : Int).toNat = i := by omega
    refine b_Mdl_takeSystem_153 u i m J P hp post ⟨by omega, by constructor <;> omega, ?_⟩
    rw [eu, h83, e, ei]
    refine ⟨by constructor <;> omega, fun h => absurd h (by omega), fun _ => ⟨by omega, by omega, ?_⟩⟩
    refine ih (i + 1) _ (by omega) (by rw [mu_ne _ _ (by omega)]; exact h83) fun m' q1 q2 => k m' (fun a k h => ?_) (fun j h1 h2 => ?_)
    · rw [q1 a k (fun e => h ⟨e.1, by omega, e.2.2⟩), mu_ne _ _ (fun e => h ⟨e.1, by omega, by omega⟩)]
    · by_cases e2 : j = i
      · rw [e2, q1 _ _ (by omega), mu_at]
      · rw [q2 j (by omega) h2, mu_ne _ _ (by omega)]
theorem RT_fr {m' : Mi} {J' : Mj} {v u : Nat} (h : RT Sn sc v Z m J) (hvu : v ≠ u) (hZ : yZ n most Z) (hm : most ≤ 8) (f : ∀ a k, (a = 283 ∨ a = 284 ∨ a = 285) → k ≠ u → m' a k = m a k) (g : ∀ a k, (a = 281 ∨ a = 282) → (k < 40 * u ∨ 40 * u + 40 ≤ k) → m' a k = m a k) (w : ∀ k, (k < 8 * u ∨ 8 * u + 8 ≤ k) → J' 286 k = J 286 k) : RT Sn sc v Z m' J' := by
  have h1 := hZ.1
  obtain ⟨⟨s1, s2, s3⟩, s4, s5, s6⟩ := h
  refine ⟨⟨?_, ?_, ?_⟩, fun j hj => ?_, fun j hj => ?_, fun i hi => ?_⟩
  · rw [f _ _ (by decide) hvu]; exact s1
  · rw [f _ _ (by decide) hvu]; exact s2
  · rw [f _ _ (by decide) hvu]; exact s3
  · rw [g _ _ (by decide) (by omega)]; exact s4 j hj
  · rw [g _ _ (by decide) (by omega)]; exact s5 j hj
  · rw [w _ (by omega)]; exact s6 i hi
end TSY
