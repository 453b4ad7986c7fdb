/-! the reference judges RULES -/
section JRR
variable {X : aX} {d : Nat} {P : Mp} {sc base u L E : Nat} {Sn : Nat → Nat} {ar : Nat → Int} {n most : Int} {m : Mi} {J : Mj} {Z : Mi} {cd : Nat → Int} {nx pt : Nat → Nat}
theorem RA_fr {m' : Mi} (h : RA L E cd nx pt m) (f : ∀ a k, a ≠ 295 → m' a k = m a k) : RA L E cd nx pt m' := by
  obtain ⟨⟨h1, h2⟩, h3, h4, h5⟩ := h
  refine ⟨⟨by rw [f _ _ (by decide)]; exact h1, by rw [f _ _ (by decide)]; exact h2⟩, fun c hc => ?_, fun j hj => ?_, fun c hc hv => ?_⟩
  · rw [f _ _ (by decide), f _ _ (by decide)]; exact h3 c hc
  · rw [f _ _ (by decide), f _ _ (by decide)]; exact h4 j hj
  · rw [f _ _ (by decide)]; exact h5 c hc hv
theorem r_aboveAll_45 (hp : PP P) (hR : Rw cd nx pt L E) (hL : L ≤ 40) (hE : E ≤ L + 40) {m0 : Mi} {post : Int → Mi → Mj → Mp → Prop} (k1 : abT cd nx pt E 0 L → ∀ (m' : Mi), (∀ a k, a ≠ 295 → m' a k = m0 a k) → post 1 m' J P) (k2 : ¬ abT cd nx pt E 0 L → ∀ (m' : Mi), (∀ a k, a ≠ 295 → m' a k = m0 a k) → post 0 m' J P) : ∀ (i : Nat) (m : Mi), i ≤ L → RA L E cd nx pt m → (∀ a k, a ≠ 295 → m a k = m0 a k) → (∀ e k, i ≤ e → e < L → L ≤ k → k < E → TC m 295 (40 * e + (k - L)) (abT cd nx pt E e k)) → Rn X (d + 2) 154 45 [some (.ref 262), some (.int (iz ((i : Int) - 1))), none] [] (SS m J P) (QI post) := by
  have hLE := Rw_LE hR
  intro i
  induction i with
  | zero =>
    intro m hi hA hf hT
    have h := hT 0 L (Nat.le_refl _) hLE.1 (Nat.le_refl _) hLE.2
    rw [show 40 * 0 + (L - L) = 0 by omega] at h
    have ez : (0 : Int).toNat = 0 := rfl
    refine b_Mdl_aboveAll_45 _ m J P hp post ⟨by constructor <;> omega, fun _ => ⟨by decide, ?_⟩, fun g => absurd (by omega) g⟩
    rw [ez]
    refine ⟨h.1, ?_⟩
    rcases h.1 with g | g
    · rw [g]; exact k2 (fun q => h.2.mpr q g) m hf
    · rw [g]; exact k1 (h.2.mp (by rw [g]; decide)) m hf
  | succ i ih =>
    intro m hi hA hf hT
    have e1 : ((i + 1 : Nat) : Int) - 1 = (i : Int) := by omega
    have inner : ∀ (j : Nat) (m : Mi), L + j ≤ E → RA L E cd nx pt m → (∀ a k, a ≠ 295 → m a k = m0 a k) → (∀ e k, (i < e ∧ e < L ∧ L ≤ k ∧ k < E) ∨ (e = i ∧ L + j ≤ k ∧ k < E) → TC m 295 (40 * e + (k - L)) (abT cd nx pt E e k)) → Rn X (d + 2) 154 56 [some (.ref 262), some (.int (iz (i : Int))), some (.int (iz ((j : Int) - 1)))] [] (SS m J P) (QI post) := by
      intro j
      induction j with
      | zero =>
        intro m hj hA hf hT
        refine b_Mdl_aboveAll_56 _ _ m J P hp post ⟨by constructor <;> omega, fun _ => ?_, fun g => absurd (by omega) g⟩
        rw [show (i : Int) + (-1) = (i : Int) - 1 by omega]
        exact ih m (by omega) hA hf (fun e k h1 h2 h3 h4 => hT e k (by omega))
      | succ j jh =>
        intro m hj hA hf hT
        have e2 : (((j + 1 : Nat) : Int) - 1) = (j : Int) := by omega
        rw [e2]
        have eix : (40 * ((i : Nat) : Int) + ((j : Nat) : Int)).toNat = 40 * i + (L + j - L) := by omega
        have nxt : ∀ z : Int, (z = 0 ∨ z = 1) → (z ≠ 0 ↔ abT cd nx pt E i (L + j)) → Rn X (d + 2) 154 56 [some (.ref 262), some (.int (iz (i : Int))), some (.int (iz ((j : Int) + (-1))))] [] (SS (mu m 295 (40 * i + (L + j - L)) z) J P) (QI post) := fun z hz hz2 => by
          rw [show (j : Int) + (-1) = (j : Int) - 1 by omega]
          refine jh _ (by omega) (RA_fr hA (fun a k h => mu_ne _ _ (by omega))) (fun a k h => by rw [mu_ne _ _ (by omega)]; exact hf a k h) (fun e k h => ?_)
          by_cases eq : e = i ∧ k = L + j
          · unfold TC
            rw [eq.1, eq.2, mu_at]
            exact ⟨hz, hz2⟩
          · unfold TC
            rw [mu_ne _ _ (by omega)]
            exact hT e k (by omega)
        refine b_Mdl_aboveAll_56 _ _ m J P hp post ⟨by constructor <;> omega, fun g => absurd g (by omega), fun _ => ?_⟩
        refine r_above (t := L + j) hp hA hR hL hE (by omega) (by omega) (by omega) (fun e k h => hT e k (by omega)) (fun g => ⟨hp, by omega, Or.inr rfl, ?_⟩) (fun g => ⟨hp, by omega, Or.inl rfl, ?_⟩)
        · rw [eix]
          exact nxt 1 (Or.inr rfl) ⟨fun _ => g, fun _ => by decide⟩
        · rw [eix]
          exact nxt 0 (Or.inl rfl) ⟨fun h => absurd rfl h, fun h => absurd h g⟩
    rw [e1]
    refine b_Mdl_aboveAll_45 _ m J P hp post ⟨by constructor <;> omega, fun g => absurd g (by omega), fun _ => ?_⟩
    have := inner (E - L) m (by omega) hA hf (fun e k h => hT e k (by omega) (by omega) (by omega) (by omega))
    rw [hA.1.2, show (E : Int) - L = ((E - L : Nat) : Int) by omega]
    exact this
theorem r_aboveAll (hp : PP P) (hR : Rw cd nx pt L E) (hL : L ≤ 40) (hE : E ≤ L + 40) (h56 : m 262 56 = L) (h57 : m 262 57 = (E : Int) - L) (ha : ∀ c, c < L → m 291 c = cd c) (hb : ∀ j, L + j < E → m 292 j = cd (L + j)) (har : ∀ c, c < E → 0 ≤ cd c → m 268 (cd c).toNat = pt c) {post : Int → Mi → Mj → Mp → Prop} (k1 : abT cd nx pt E 0 L → ∀ (m' : Mi), (∀ a k, a ≠ 295 → a ≠ 293 → a ≠ 294 → m' a k = m a k) → post 1 m' J P) (k2 : ¬ abT cd nx pt E 0 L → ∀ (m' : Mi), (∀ a k, a ≠ 295 → a ≠ 293 → a ≠ 294 → m' a k = m a k) → post 0 m' J P) : Ci X (d + 2) 154 [.ref 262] m J P post := by
  have hLE := Rw_LE hR
  refine Ci.of rfl rfl rfl (b_Mdl_aboveAll_0 m J P hp post ?_)
  rw [h56]
  refine Cv.of rfl rfl rfl (b_Mdl_endsOf_0 291 40 L 293 40 268 16 (by decide +kernel) (by decide) (by decide +kernel) (by decide) (by decide +kernel) (by decide) m J P hp _ ?_)
  refine r_endsOf (n0 := 40) (n2 := 40) (n3 := 16) (sz := L) (cdk := cd) (nxk := nx) (ptk := pt) hp (by decide +kernel) (by decide) (by decide +kernel) (by decide) (by decide +kernel) (by decide) (by decide) (by decide) (by omega) (fun c hc => Rw_l hR hc) (fun c hc => hR.2.2.1 c (by omega)) (fun c hc => hR.2.2.2.2.2 c (by omega)) (fun c hc => hR.2.2.2.2.1 c (by omega)) ha (fun c hc => har c (by omega)) (fun m1 g1 g2 => ⟨hp, ?_⟩) L m (Nat.le_refl _) (fun c h1 h2 => absurd h2 (by omega)) (fun _ _ _ => rfl)
  have f57 : m1 262 57 = ((E - L : Nat) : Int) := by rw [g2 _ _ (by decide), h57]; omega
  rw [f57]
  refine Cv.of rfl rfl rfl (b_Mdl_endsOf_0 292 40 _ 294 40 268 16 (by decide +kernel) (by decide) (by decide +kernel) (by decide) (by decide +kernel) (by decide) m1 J P hp _ ?_)
  refine r_endsOf (n0 := 40) (n2 := 40) (n3 := 16) (sz := E - L) (cdk := fun j => cd (L + j)) (nxk := fun j => nx (L + j) - L) (ptk := fun j => pt (L + j)) hp (by decide +kernel) (by decide) (by decide +kernel) (by decide) (by decide +kernel) (by decide) (by decide) (by decide) (by omega) (fun c hc => ?_) (fun c hc => hR.2.2.1 (L + c) (by omega)) (fun c hc => hR.2.2.2.2.2 (L + c) (by omega)) (fun c hc => hR.2.2.2.2.1 (L + c) (by omega)) (fun c hc => by rw [g2 _ _ (by decide)]; exact hb c (by omega)) (fun c hc hv => by rw [g2 _ _ (by decide)]; exact har (L + c) (by omega) hv) (fun m2 q1 q2 => ⟨hp, ?_⟩) (E - L) m1 (Nat.le_refl _) (fun c h1 h2 => absurd h2 (by omega)) (fun _ _ _ => rfl)
  · have r := Rw_r hR (t := L + c) (by omega) (by omega)
    have s := ch_shift (L := L) (by omega) r.2.2
    rw [show L + c + 1 - L = c + 1 by omega] at s
    exact ⟨by show c < nx (L + c) - L; omega, by show nx (L + c) - L ≤ E - L; omega, s⟩
  · have f56 : m2 262 56 = L := by rw [q2 _ _ (by decide), g2 _ _ (by decide)]; exact h56
    have hA : RA L E cd nx pt m2 := by
      refine ⟨⟨f56, by rw [q2 _ _ (by decide), f57]; omega⟩, fun c hc => ⟨?_, ?_⟩, fun j hj => ⟨?_, ?_⟩, fun c hc hv => ?_⟩
      · rw [q2 _ _ (by decide), g2 _ _ (by decide)]; exact ha c hc
      · rw [q2 _ _ (by decide)]; exact g1 c hc
      · rw [q2 _ _ (by decide), g2 _ _ (by decide)]; exact hb j hj
      · have r := Rw_r hR (t := L + j) (by omega) (by omega)
        have := q1 j (by omega)
        rw [this]
        omega
      · rw [q2 _ _ (by decide), g2 _ _ (by decide)]; exact har c hc hv
    have fr : ∀ {m' : Mi}, (∀ a k, a ≠ 295 → m' a k = m2 a k) → ∀ a k, a ≠ 295 → a ≠ 293 → a ≠ 294 → m' a k = m a k := fun h a k w1 w2 w3 => by rw [h a k w1, q2 a k w3, g2 a k w2]
    rw [f56]
    exact r_aboveAll_45 hp hR hL hE (fun g m' h => k1 g m' (fr h)) (fun g m' h => k2 g m' (fr h)) L m2 (Nat.le_refl _) hA (fun _ _ _ => rfl) (fun e k h1 h2 => absurd h2 (by omega))
/-- what judging a RULE may change in the reference -/
def jF (m m' : Mi) : Prop := ∀ a k, ¬ (a = 262 ∧ (k = 10 ∨ k = 11 ∨ k = 56 ∨ k = 57)) → ¬ (291 ≤ a ∧ a ≤ 295) → m' a k = m a k
theorem jF_refl : jF m m := fun _ _ _ _ => rfl
theorem jF_trans {m' m'' : Mi} (h1 : jF m m') (h2 : jF m' m'') : jF m m'' := fun a k g g2 => (h2 a k g g2).trans (h1 a k g g2)
theorem jF_bad {x y : Int} : jF m (mu (mu m 262 10 x) 262 11 y) := fun a k g _ => by rw [mu_ne _ _ (by omega), mu_ne _ _ (by omega)]
theorem r_102_bad {x2 : Int} (hp : PP P) (hu : u < 16) (h10 : 0 < m 262 10 ∧ m 262 10 ≤ 9) (hx : 0 ≤ x2 ∧ x2 ≤ 3000) (he : 0 ≤ m 274 u ∧ m 274 u ≤ 3000) {post : Mi → Mj → Mp → Prop} (k : post m J P) : Rn X (d + 3) 151 102 [some (.ref 262), some (.int (iz (u : Int))), some (.int (iz x2)), none, none] [] (SS m J P) (QV post) := by
  have eu : ((u : Nat) : Int).toNat = u := by omega
  have z10 : Zr (m 262 10) := by constructor <;> omega
  refine b_Mdl_judgeRule_102 u x2 m J P hp post ⟨by omega, by constructor <;> omega, ?_⟩
  rw [eu]
  exact ⟨by constructor <;> omega, fun _ => ⟨z10, fun h => absurd h (by omega), fun _ => k⟩, fun _ => ⟨z10, fun _ => ⟨z10, fun h => absurd h (by omega), fun _ => k⟩, fun h => absurd (by omega) h⟩⟩
theorem r_known {c : Nat} {x2 : Int} (hp : PP P) (hu : u < 16) (hb : base + 80 ≤ 2000) (hZ : yZ n most Z) (hm : most ≤ 8) (hRR : RR u base Z m J) (h10 : m 262 10 = 0) (hc : (c : Int) < Z 0 3) (hx : x2 = base + c) {post : Mi → Mj → Mp → Prop} : ∀ (q i : Nat) (x3 : Int), (i : Int) + q = Z 0 7 → (x3 = 0 ∨ x3 = 1) → ((x3 = 1 ∨ ∃ j : Nat, i ≤ j ∧ (j : Int) < Z 0 7 ∧ Z 1 j = Z 1 c) → Rn X (d + 3) 151 102 [some (.ref 262), some (.int (iz (u : Int))), some (.int (iz (x2 + 1))), none, none] [] (SS m J P) (QV post)) → (¬ (x3 = 1 ∨ ∃ j : Nat, i ≤ j ∧ (j : Int) < Z 0 7 ∧ Z 1 j = Z 1 c) → post (mu (mu m 262 10 7) 262 11 (Z 3 c)) J P) → Rn X (d + 3) 151 142 [some (.ref 262), some (.int (iz (u : Int))), some (.int (iz x2)), some (.int (iz x3)), some (.int (iz ((base : Int) + (i : Nat))))] [] (SS m J P) (QV post) := by
  have h1 := hZ.1
  obtain ⟨⟨s1, s2, s3, s4, s5⟩, s6, s7⟩ := hRR
  have eu : ((u : Nat) : Int).toNat = u := by omega
  have ec : x2.toNat = base + c := by omega
  have z10 : Zr (m 262 10) := by rw [h10]; exact zr0
  have rc := s6 c hc
  have bc := (hZ.2.2.1 c hc).2.2.1
  intro q
  induction q with
  | zero =>
    intro i x3 hi h3 k1 k2
    refine b_Mdl_judgeRule_142 u x2 x3 _ m J P hp post ⟨by omega, by constructor <;> omega, ?_⟩
    rw [eu, s2]
    have z3 : Zr x3 := by rcases h3 with e | e <;> rw [e] <;> constructor <;> decide
    refine ⟨by constructor <;> omega, fun _ => ⟨z3, fun h => k1 (Or.inl (h3.resolve_left h)), fun h => ⟨by omega, ?_⟩⟩, fun h => absurd (by omega) h⟩
    rw [ec, rc.2.1]
    refine r_fail hp z10 ⟨hp, ?_⟩
    rw [rf_0 h10]
    have q10 : mu (mu m 262 10 7) 262 11 (Z 3 c) 262 10 = 7 := by rw [mu_ne _ _ (by decide), mu_at]
    have qe : mu (mu m 262 10 7) 262 11 (Z 3 c) 274 u = base + Z 0 3 := by rw [mu_ne _ _ (by omega), mu_ne _ _ (by omega)]; exact s3
    exact r_102_bad hp hu (by rw [q10]; decide) (by omega) (by rw [qe]; omega) (k2 (fun g => g.elim (fun g => by omega) (fun ⟨j, j1, j2, _⟩ => by omega)))
  | succ q ih =>
    intro i x3 hi h3 k1 k2
    have ei : ((base : Int) + (i : Nat)).toNat = base + i := by omega
    have ri := s6 i (by omega)
    have bi := (hZ.2.2.1 i (by omega)).2.2.1
    have en : (base : Int) + (i : Nat) + 1 = (base : Int) + ((i + 1 : Nat) : Nat) := by omega
    refine b_Mdl_judgeRule_142 u x2 x3 _ m J P hp post ⟨by omega, by constructor <;> omega, ?_⟩
    rw [eu, s2, ei, ec, ri.1, rc.1, en]
    have z3 : Zr x3 := by rcases h3 with e | e <;> rw [e] <;> constructor <;> decide
    refine ⟨by constructor <;> omega, fun h => absurd h (by omega), fun _ => ⟨z3, fun h => ?_, fun h => ⟨by omega, by omega, by constructor <;> omega, by constructor <;> omega, fun g => ?_, fun g => ?_⟩⟩⟩
    · exact ih (i + 1) 1 (by omega) (Or.inr rfl) (fun _ => k1 (Or.inl (h3.resolve_left h))) (fun g => absurd (Or.inl rfl) g)
    · refine ih (i + 1) 0 (by omega) (Or.inl rfl) (fun w => k1 ?_) (fun w => k2 fun w2 => w ?_)
      · rcases w with w | ⟨j, j1, j2, j3⟩
        · exact absurd w (by decide)
        · exact Or.inr ⟨j, by omega, j2, j3⟩
      · rcases w2 with w2 | ⟨j, j1, j2, j3⟩
        · omega
        · refine Or.inr ⟨j, ?_, j2, j3⟩
          have : j ≠ i := fun e => g (by rw [← e]; exact j3)
          omega
    · exact ih (i + 1) 1 (by omega) (Or.inr rfl) (fun _ => k1 (Or.inr ⟨i, Nat.le_refl _, by omega, Classical.not_not.mp g⟩)) (fun g => absurd (Or.inl rfl) g)
end JRR
