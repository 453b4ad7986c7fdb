/-! a RULE is judged, told once; what the reference needs for it -/
section JRL
variable {X : aX} {d : Nat} {P : Mp} {sc base : Nat} {Sn : Nat → Nat} {ar : Nat → Int} {n most : Int} {m : Mi} {J : Mj} {Z : Mi}
/-- the cell of an item whose name is known -/
def cdZ (Sn : Nat → Nat) (sc : Nat) (Z : Mi) (c : Nat) : Int := if 0 ≤ Z 1 c then -1 - Z 1 c else sfi Sn (Z 2 c).toNat 0 sc
/-- the first VARIABLE that is not in the left TERM -/
def jV (Z : Mi) : Nat → Nat → Int
  | 0, _ => -1
  | k + 1, c => if Z 0 8 ≤ Z 1 c then (c : Int) else jV Z k (c + 1)
noncomputable def jR (Sn : Nat → Nat) (sc : Nat) (ar : Nat → Int) (Z : Mi) : Int × Int :=
  if (jN Sn sc ar Z (Z 0 3).toNat 0).1 ≠ 0 then jN Sn sc ar Z (Z 0 3).toNat 0
  else if 0 ≤ Z 1 0 then (7, Z 3 0)
  else if 0 ≤ jV Z ((Z 0 3).toNat - (Z 0 7).toNat) (Z 0 7).toNat then (7, Z 3 (jV Z ((Z 0 3).toNat - (Z 0 7).toNat) (Z 0 7).toNat).toNat)
  else @ite _ (abT (cdZ Sn sc Z) (nxY Z) (ptY Z) (Z 0 3).toNat 0 (Z 0 7).toNat) (Classical.propDecidable _) (0, -1) (7, Z 0 9)
theorem jV_bd (Z : Mi) : ∀ k c, -1 ≤ jV Z k c ∧ jV Z k c < (c + k : Nat)
  | 0, c => by unfold jV; omega
  | k + 1, c => by
    have := jV_bd Z k (c + 1)
    unfold jV
    split <;> omega
theorem jN_ok : ∀ (k c : Nat), (jN Sn sc ar Z k c).1 = 0 → ∀ i, c ≤ i → i < c + k → Z 1 i < 0 → 0 ≤ sfi Sn (Z 2 i).toNat 0 sc ∧ ar (sfi Sn (Z 2 i).toNat 0 sc).toNat = Z 4 i
  | 0, c, _, i, h1, h2, _ => absurd h2 (by omega)
  | k + 1, c, h, i, h1, h2, hv => by
    rw [jN] at h
    by_cases e : i = c
    · rw [e] at hv ⊢
      rw [if_neg (by omega)] at h
      by_cases s : sfi Sn (Z 2 c).toNat 0 sc < 0
      · rw [if_pos s] at h; exact absurd h (show ¬ (5 : Int) = 0 by decide)
      · rw [if_neg s] at h
        by_cases q : ar (sfi Sn (Z 2 c).toNat 0 sc).toNat ≠ Z 4 c
        · rw [if_pos q] at h; exact absurd h (show ¬ (6 : Int) = 0 by decide)
        · exact ⟨by omega, Classical.not_not.mp q⟩
    · have hk : (jN Sn sc ar Z k (c + 1)).1 = 0 := by
        by_cases v : 0 ≤ Z 1 c
        · rw [if_pos v] at h; exact h
        · rw [if_neg v] at h
          by_cases s : sfi Sn (Z 2 c).toNat 0 sc < 0
          · rw [if_pos s] at h; exact absurd h (show ¬ (5 : Int) = 0 by decide)
          · rw [if_neg s] at h
            by_cases q : ar (sfi Sn (Z 2 c).toNat 0 sc).toNat ≠ Z 4 c
            · rw [if_pos q] at h; exact absurd h (show ¬ (6 : Int) = 0 by decide)
            · rw [if_neg q] at h; exact h
      exact jN_ok k (c + 1) hk i (by omega) (by omega) hv
theorem cdZ_bd (hZ : yZ n most Z) (hm : most ≤ 8) (hs : sc ≤ 16) (hN : (jN Sn sc ar Z (Z 0 3).toNat 0).1 = 0) {c : Nat} (hc : c < (Z 0 3).toNat) : (-8 ≤ cdZ Sn sc Z c ∧ cdZ Sn sc Z c < 16) ∧ (cdZ Sn sc Z c < 0 → 0 ≤ Z 1 c) ∧ (0 ≤ cdZ Sn sc Z c → Z 1 c < 0 ∧ cdZ Sn sc Z c < sc ∧ ar (cdZ Sn sc Z c).toNat = Z 4 c) := by
  have h1 := hZ.1
  obtain ⟨z1, z2, z3, z4, z5⟩ := hZ.2.2.1 c (by omega)
  have hb := sfi_bd Sn (Z 2 c).toNat sc 0
  unfold cdZ
  by_cases v : 0 ≤ Z 1 c
  · rw [if_pos v]
    exact ⟨by omega, fun _ => v, fun g => absurd g (by omega)⟩
  · rw [if_neg v]
    have g := jN_ok _ 0 hN c (Nat.zero_le _) (by omega) (by omega)
    exact ⟨by omega, fun q => absurd q (by omega), fun _ => ⟨by omega, by omega, g.2⟩⟩
theorem Rw_Z (hZ : yZ n most Z) (hm : most ≤ 8) (hs : sc ≤ 16) (hA : ∀ i : Nat, i < sc → 0 ≤ ar i ∧ ar i ≤ 4) (hN : (jN Sn sc ar Z (Z 0 3).toNat 0).1 = 0) : Rw (cdZ Sn sc Z) (nxY Z) (ptY Z) (Z 0 7).toNat (Z 0 3).toNat := by
  have h1 := hZ.1
  refine ⟨hZ.2.1.1, hZ.2.1.2, fun c hc v => ?_, fun c c' hc hc' v e => ?_, fun c hc => ?_, fun c hc => (cdZ_bd hZ hm hs hN hc).1⟩
  · have := (hZ.2.2.1 c (by omega)).2.1 ((cdZ_bd hZ hm hs hN hc).2.1 v)
    unfold ptY; omega
  · have a := ((cdZ_bd hZ hm hs hN hc).2.2 v).2.2
    have b := ((cdZ_bd hZ hm hs hN hc').2.2 (by omega)).2.2
    unfold ptY
    rw [← a, ← b, e]
  · by_cases v : cdZ Sn sc Z c < 0
    · have := (hZ.2.2.1 c (by omega)).2.1 ((cdZ_bd hZ hm hs hN hc).2.1 v)
      unfold ptY; omega
    · have a := (cdZ_bd hZ hm hs hN hc).2.2 (by omega)
      have := hA (cdZ Sn sc Z c).toNat (by omega)
      unfold ptY; omega
theorem ch_shift {nx : Nat → Nat} {L e : Nat} : ∀ {k a : Nat}, L ≤ a → ch nx e k a → ch (fun j => nx (L + j) - L) (e - L) k (a - L)
  | 0, a, _, h => by
    unfold ch at h ⊢
    rw [h]
  | k + 1, a, hL, h => by
    unfold ch at h ⊢
    have e1 : L + (a - L) = a := by omega
    rw [e1]
    exact ⟨by omega, by omega, ch_shift (by omega) h.2.2⟩
/-- endsOf(): the items behind, by the ARITIES -/
theorem r_endsOf {x0 x2 x3 n0 n2 n3 sz : Nat} {cdk : Nat → Int} {nxk ptk : Nat → Nat} (hp : PP P) (k0 : am_kd an_K x0 = some (.inr (0, n0))) (b0 : n0 ≤ 100000) (k2 : am_kd an_K x2 = some (.inr (0, n2))) (b2 : n2 ≤ 100000) (k3 : am_kd an_K x3 = some (.inr (0, n3))) (b3 : n3 ≤ 100000) (h20 : x2 ≠ x0) (h23 : x2 ≠ x3) (hs : sz ≤ n0 ∧ sz ≤ n2) (hc : ∀ c, c < sz → c < nxk c ∧ nxk c ≤ sz ∧ ch nxk (nxk c) (ptk c) (c + 1)) (hv : ∀ c, c < sz → cdk c < 0 → ptk c = 0) (hb : ∀ c, c < sz → -8 ≤ cdk c ∧ cdk c < n3) (hp4 : ∀ c, c < sz → ptk c ≤ 4) {m0 : Mi} (hrow : ∀ c, c < sz → m0 x0 c = cdk c) (har : ∀ c, c < sz → 0 ≤ cdk c → m0 x3 (cdk c).toNat = ptk c) {post : Mi → Mj → Mp → Prop} (k : ∀ (m' : Mi), (∀ c, c < sz → m' x2 c = nxk c) → (∀ a k, a ≠ x2 → m' a k = m0 a k) → post m' J P) {x1 : Int} : ∀ (i : Nat) (m : Mi), i ≤ sz → (∀ c, i ≤ c → c < sz → m x2 c = nxk c) → (∀ a k, a ≠ x2 → m a k = m0 a k) → Rn X d 155 5 [some (.ref x0), some (.int (iz x1)), some (.ref x2), some (.ref x3), some (.int (iz ((i : Int) - 1))), none, none] [] (SS m J P) (QV post) := by
  intro i
  induction i with
  | zero =>
    intro m hi h1 h2
    exact b_Mdl_endsOf_5 x0 n0 x1 x2 n2 x3 n3 _ k0 b0 k2 b2 k3 b3 m J P hp post ⟨by constructor <;> omega, fun _ => k m (fun c hc => h1 c (Nat.zero_le _) hc) h2, fun h => absurd (by omega) h⟩
  | succ i ih =>
    intro m hi h1 h2
    have e1 : ((i + 1 : Nat) : Int) - 1 = (i : Int) := by omega
    have ei : ((i : Nat) : Int).toNat = i := by omega
    have hci := hc i (by omega)
    have hbi := hb i (by omega)
    have hp4i := hp4 i (by omega)
    have row : m x0 i = cdk i := by rw [h2 _ _ (Ne.symm h20)]; exact hrow i (by omega)
    have fin : Rn X d 155 5 [some (.ref x0), some (.int (iz x1)), some (.ref x2), some (.ref x3), some (.int (iz ((i : Int) + (-1)))), none, none] [] (SS (mu m x2 i (nxk i)) J P) (QV post) := by
      have := ih (mu m x2 i (nxk i)) (by omega) (fun c q1 q2 => by
        by_cases e : c = i
        · rw [e, mu_at]
        · rw [mu_ne _ _ (by omega)]; exact h1 c (by omega) q2) (fun a k q => by rw [mu_ne _ _ (by omega)]; exact h2 a k q)
      rw [show (i : Int) + (-1) = (i : Int) - 1 by omega]
      exact this
    have inner : ∀ (q g e : Nat), g + q = ptk i → i < e → ch nxk (nxk i) q e → 0 ≤ cdk i → Rn X d 155 19 [some (.ref x0), some (.int (iz x1)), some (.ref x2), some (.ref x3), some (.int (iz (i : Int))), some (.int (iz (e : Int))), some (.int (iz (g : Int)))] [] (SS m J P) (QV post) := by
      intro q
      induction q with
      | zero =>
        intro g e hg he hch hcd
        unfold ch at hch
        have har' : m x3 (cdk i).toNat = ptk i := by rw [h2 _ _ (Ne.symm h23)]; exact har i (by omega) hcd
        refine b_Mdl_endsOf_19 x0 n0 x1 x2 n2 x3 n3 i e g k0 b0 k2 b2 k3 b3 m J P hp post ⟨by omega, ?_⟩
        rw [ei, row, har']
        refine ⟨by constructor <;> omega, fun h => absurd h (by omega), fun _ => ⟨by omega, by omega, by constructor <;> omega, by constructor <;> omega, fun _ => ⟨by omega, ?_⟩, fun h => absurd (by omega) h⟩⟩
        rw [hch]; exact fin
      | succ q jh =>
        intro g e hg he hch hcd
        unfold ch at hch
        have ee : ((e : Nat) : Int).toNat = e := by omega
        have har' : m x3 (cdk i).toNat = ptk i := by rw [h2 _ _ (Ne.symm h23)]; exact har i (by omega) hcd
        refine b_Mdl_endsOf_19 x0 n0 x1 x2 n2 x3 n3 i e g k0 b0 k2 b2 k3 b3 m J P hp post ⟨by omega, ?_⟩
        rw [ei, ee, row, har', h1 e (by omega) (by omega)]
        refine ⟨by constructor <;> omega, fun h => absurd h (by omega), fun _ => ⟨by omega, by omega, by constructor <;> omega, by constructor <;> omega, fun h => absurd h (by omega), fun _ => ⟨by omega, ?_⟩⟩⟩
        exact jh (g + 1) (nxk e) (by omega) (by omega) hch.2.2 hcd
    rw [e1]
    refine b_Mdl_endsOf_5 x0 n0 x1 x2 n2 x3 n3 _ k0 b0 k2 b2 k3 b3 m J P hp post ⟨by constructor <;> omega, fun h => absurd h (by omega), fun _ => ?_⟩
    by_cases v : cdk i < 0
    · have hz := hv i (by omega) v
      have hch := hci.2.2
      rw [hz] at hch
      unfold ch at hch
      refine b_Mdl_endsOf_19 x0 n0 x1 x2 n2 x3 n3 i _ 0 k0 b0 k2 b2 k3 b3 m J P hp post ⟨by omega, ?_⟩
      rw [ei, row]
      refine ⟨by constructor <;> omega, fun _ => ⟨by omega, ?_⟩, fun h => absurd v h⟩
      rw [show (i : Int) + 1 = ((nxk i : Nat) : Int) by omega]
      exact fin
    · exact inner (ptk i) 0 (i + 1) (by omega) (by omega) hci.2.2 (by omega)
/-- numbers(): the cells of items from lo up to hi -/
theorem r_numbers {x3 n3 lo hi : Nat} (hp : PP P) (k3 : am_kd an_K x3 = some (.inr (0, n3))) (b3 : n3 ≤ 100000) (h3 : 278 < x3) (hn3 : hi - lo ≤ n3) (hlo : lo ≤ hi) (hs : sc ≤ 16) (hZ : yZ n most Z) (hm : most ≤ 8) (hhi : (hi : Int) ≤ Z 0 3) (hb : base + 80 ≤ 2000) (hJ : ∀ i : Nat, i < sc → J 264 i = rN (Sn i) ∧ isN (Sn i)) {m0 : Mi} (h14 : m0 262 14 = sc) (hR : ∀ c : Nat, (c : Int) < Z 0 3 → m0 269 (base + c) = Z 1 c ∧ J 265 (base + c) = rN (Z 2 c).toNat) {post : Int → Mi → Mj → Mp → Prop} (k : ∀ (m' : Mi), (∀ j, lo + j < hi → m' x3 j = cdZ Sn sc Z (lo + j)) → (∀ a k, a ≠ x3 → m' a k = m0 a k) → post ((hi : Int) - lo) m' J P) {x1 x2 : Int} (e1 : x1 = base + lo) (e2 : x2 = base + hi) : Ci X (d + 1) 153 [.ref 262, .int (iz x1), .int (iz x2), .ref x3] m0 J P post := by
  have h1 := hZ.1
  have loop : ∀ (q j : Nat) (m : Mi), lo + j + q = hi → (∀ i, i < j → m x3 i = cdZ Sn sc Z (lo + i)) → (∀ a k, a ≠ x3 → m a k = m0 a k) → ∀ x4 : Int, x4 = base + lo + j → Rn X (d + 1) 153 3 [some (.ref 262), some (.int (iz x1)), some (.int (iz x2)), some (.ref x3), some (.int (iz x4))] [] (SS m J P) (QI post) := by
    intro q
    induction q with
    | zero =>
      intro j m hj g1 g2 x4 hx
      refine b_Mdl_numbers_3 x1 x2 x3 n3 x4 k3 b3 m J P hp post ⟨by constructor <;> omega, by constructor <;> omega, fun _ => ?_, fun h => absurd (by omega) h⟩
      rw [show x2 - x1 = (hi : Int) - lo by omega]
      exact k m (fun i hi => g1 i (by omega)) g2
    | succ q ih =>
      intro j m hj g1 g2 x4 hx
      have e4 : x4.toNat = base + (lo + j) := by omega
      have e5 : (x4 - x1).toNat = j := by omega
      have r := hR (lo + j) (by omega)
      obtain ⟨z1, z2, z3, z4, z5⟩ := hZ.2.2.1 (lo + j) (by omega)
      have f1 : m 269 (base + (lo + j)) = Z 1 (lo + j) := by rw [g2 _ _ (by omega)]; exact r.1
      have f2 : m 262 14 = sc := by rw [g2 _ _ (by omega)]; exact h14
      have step : ∀ z, z = cdZ Sn sc Z (lo + j) → Rn X (d + 1) 153 3 [some (.ref 262), some (.int (iz x1)), some (.int (iz x2)), some (.ref x3), some (.int (iz (x4 + 1)))] [] (SS (mu m x3 j z) J P) (QI post) := fun z hz => by
        refine ih (j + 1) _ (by omega) (fun i hi => ?_) (fun a k q => by rw [mu_ne _ _ (by omega)]; exact g2 a k q) (x4 + 1) (by omega)
        by_cases e : i = j
        · rw [e, mu_at]; exact hz
        · rw [mu_ne _ _ (by omega)]; exact g1 i (by omega)
      refine b_Mdl_numbers_3 x1 x2 x3 n3 x4 k3 b3 m J P hp post ⟨by constructor <;> omega, by constructor <;> omega, fun h => absurd h (by omega), fun _ => ⟨by omega, ?_⟩⟩
      rw [e4, e5, f1, r.2, f2]
      refine ⟨by constructor <;> omega, fun v => ⟨by omega, ?_⟩, fun v => ⟨by omega, by omega, step _ ?_⟩⟩
      · refine r_symbolOf (na := 16) (sc := sc) (Sn := Sn) hp (by decide +kernel) (by decide) hs hJ z4.2 rfl ⟨hp, by omega, step _ ?_⟩
        rw [cdZ, if_neg (by omega)]
      · rw [cdZ, if_pos (by omega)]
  exact Ci.of rfl rfl rfl (b_Mdl_numbers_0 x1 x2 x3 n3 k3 b3 m0 J P hp post (loop (hi - lo) 0 m0 (by omega) (fun i hi => absurd hi (Nat.not_lt_zero _)) (fun _ _ _ => rfl) x1 (by omega)))
end JRL
