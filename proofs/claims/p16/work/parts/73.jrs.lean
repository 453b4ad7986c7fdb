/-! the reference judges RULES: to the end -/
section JRS
variable {X : aX} {d : Nat} {P : Mp} {sc base u : Nat} {Sn : Nat → Nat} {ar : Nat → Int} {n most : Int} {m : Mi} {J : Mj} {Z : Mi}
/-- the SYMBOLS as read, in the reference -/
def RN (sc : Nat) (Sn : Nat → Nat) (ar : Nat → Int) (m : Mi) (J : Mj) : Prop := (m 262 14 = sc ∧ sc ≤ 16) ∧ (∀ i : Nat, i < sc → J 264 i = rN (Sn i) ∧ isN (Sn i)) ∧ ∀ i : Nat, i < sc → m 268 i = ar i ∧ 0 ≤ ar i ∧ ar i ≤ 4
theorem RN_fr {m' : Mi} {J' : Mj} (h : RN sc Sn ar m J) (f1 : m' 262 14 = m 262 14) (f2 : ∀ k, m' 268 k = m 268 k) (f3 : ∀ k, J' 264 k = J 264 k) : RN sc Sn ar m' J' :=
  ⟨⟨f1.trans h.1.1, h.1.2⟩, fun i hi => by rw [f3]; exact h.2.1 i hi, fun i hi => by rw [f2]; exact h.2.2 i hi⟩
theorem RR_j {m' : Mi} (h : RR u base Z m J) (f : jF m m') : RR u base Z m' J := by
  obtain ⟨⟨s1, s2, s3, s4, s5⟩, s6, s7⟩ := h
  refine ⟨⟨?_, ?_, ?_, ?_, ?_⟩, fun c hc => ?_, s7⟩
  · rw [f _ _ (by omega) (by omega)]; exact s1
  · rw [f _ _ (by omega) (by omega)]; exact s2
  · rw [f _ _ (by omega) (by omega)]; exact s3
  · rw [f _ _ (by omega) (by omega)]; exact s4
  · rw [f _ _ (by omega) (by omega)]; exact s5
  · rw [f _ _ (by omega) (by omega), f _ _ (by omega) (by omega), f _ _ (by omega) (by omega)]; exact s6 c hc
theorem RN_j {m' : Mi} (h : RN sc Sn ar m J) (f : jF m m') : RN sc Sn ar m' J :=
  RN_fr h (f _ _ (by decide) (by decide)) (fun k => f _ _ (by omega) (by omega)) (fun _ => rfl)
theorem r_judgeFin {x2 : Int} (hp : PP P) (hu : u < 16) (hb : base + 80 ≤ 2000) (hZ : yZ n most Z) (hm : most ≤ 8) (hN : RN sc Sn ar m J) (hRR : RR u base Z m J) (h10 : m 262 10 = 0) (hjN : (jN Sn sc ar Z (Z 0 3).toNat 0).1 = 0) (hx : x2 = base + Z 0 3) {post : Mi → Mj → Mp → Prop} (k1 : abT (cdZ Sn sc Z) (nxY Z) (ptY Z) (Z 0 3).toNat 0 (Z 0 7).toNat → ∀ m', m' 262 10 = 0 → jF m m' → post m' J P) (k2 : ¬ abT (cdZ Sn sc Z) (nxY Z) (ptY Z) (Z 0 3).toNat 0 (Z 0 7).toNat → ∀ m', m' 262 10 = 7 → m' 262 11 = Z 0 9 → jF m m' → post m' J P) : Rn X (d + 3) 151 102 [some (.ref 262), some (.int (iz (u : Int))), some (.int (iz x2)), none, none] [] (SS m J P) (QV post) := by
  have h1 := hZ.1
  have hRw := Rw_Z hZ hm hN.1.2 (fun i hi => (hN.2.2 i hi).2) hjN
  have hLE := Rw_LE hRw
  obtain ⟨⟨s1, s2, s3, s4, s5⟩, s6, s7⟩ := hRR
  have eu : ((u : Nat) : Int).toNat = u := by omega
  have z10 : Zr (m 262 10) := by rw [h10]; exact zr0
  refine b_Mdl_judgeRule_102 u x2 m J P hp post ⟨by omega, by constructor <;> omega, ?_⟩
  rw [eu, s3]
  refine ⟨by constructor <;> omega, fun _ => ⟨z10, fun _ => ⟨by omega, by omega, ?_⟩, fun h => absurd (by omega) h⟩, fun h => absurd (by omega) h⟩
  rw [s1, s2]
  refine r_numbers (lo := 0) (hi := (Z 0 7).toNat) (base := base) (n3 := 40) (Z := Z) (n := n) (most := most) hp (by decide +kernel) (by decide) (by decide) (by omega) (by omega) hN.1.2 hZ hm (by omega) hb hN.2.1 hN.1.1 (fun c hc => ⟨(s6 c hc).1, (s6 c hc).2.2.2⟩) (fun m1 g1 g2 => ⟨hp, by omega, by omega, ?_⟩) (by omega) (by omega)
  rw [mu_ne (x := 273) _ _ (by omega), mu_ne (x := 274) _ _ (by omega), g2 _ _ (by decide), g2 _ _ (by decide), s2, s3]
  have f1 : ∀ a k, a ≠ 291 → ¬ (a = 262 ∧ k = 56) → mu m1 262 56 (((Z 0 7).toNat : Int) - ((0 : Nat) : Int)) a k = m a k := fun a k h h2 => by rw [mu_ne _ _ h2]; exact g2 a k h
  refine r_numbers (lo := (Z 0 7).toNat) (hi := (Z 0 3).toNat) (base := base) (n3 := 40) (Z := Z) (n := n) (most := most) hp (by decide +kernel) (by decide) (by decide) (by omega) (by omega) hN.1.2 hZ hm (by omega) hb hN.2.1 (by rw [f1 _ _ (by decide) (by decide)]; exact hN.1.1) (fun c hc => ⟨by rw [f1 _ _ (by decide) (by omega)]; exact (s6 c hc).1, (s6 c hc).2.2.2⟩) (fun m2 q1 q2 => ⟨hp, ?_⟩) (by omega) (by omega)
  have f2 : ∀ x : Int, ∀ a k, a ≠ 291 → a ≠ 292 → ¬ (a = 262 ∧ (k = 56 ∨ k = 57)) → mu m2 262 57 x a k = m a k := fun x a k h h2 h3 => by rw [mu_ne _ _ (by omega), q2 a k h2, f1 a k h (by omega)]
  have fin : ∀ (x : Int) (m' : Mi), (∀ a k, a ≠ 295 → a ≠ 293 → a ≠ 294 → m' a k = mu m2 262 57 x a k) → jF m m' := fun x m' g a k h h2 => by rw [g a k (by omega) (by omega) (by omega), f2 x a k (by omega) (by omega) (by omega)]
  refine r_aboveAll hp hRw (by omega) (by omega) ?_ ?_ (fun c hc => ?_) (fun j hj => ?_) (fun c hc hv => ?_) (fun g m' h => ⟨hp, zr1, fun _ => k1 g m' ?_ (fin _ m' h), fun h => absurd (by decide) h⟩) (fun g m' h => ⟨hp, zr0, fun h => absurd rfl h, fun _ => ⟨by omega, ?_⟩⟩)
  · rw [mu_ne _ _ (by decide), q2 _ _ (by decide), mu_at]; omega
  · rw [mu_at]
  · rw [mu_ne _ _ (by omega), q2 _ _ (by decide), mu_ne _ _ (by omega), g1 c (by omega), Nat.zero_add]
  · rw [mu_ne _ _ (by omega)]; exact q1 j hj
  · rw [f2 _ _ _ (by decide) (by decide) (by omega)]
    have := (cdZ_bd hZ hm hN.1.2 hjN hc).2.2 hv
    rw [(hN.2.2 _ (by omega)).1, this.2.2]
    have := (hZ.2.2.1 c (by omega)).1
    unfold ptY; omega
  · rw [h _ _ (by decide) (by decide) (by decide), f2 _ _ _ (by decide) (by decide) (by decide)]; exact h10
  · have e10 : m' 262 10 = 0 := by rw [h _ _ (by decide) (by decide) (by decide), f2 _ _ _ (by decide) (by decide) (by decide)]; exact h10
    have e275 : m' 275 u = Z 0 9 := by rw [h _ _ (by decide) (by decide) (by decide), f2 _ _ _ (by decide) (by decide) (by omega)]; exact s4
    rw [e275]
    refine r_fail hp (by rw [e10]; exact zr0) ⟨hp, ?_⟩
    rw [rf_0 e10]
    exact k2 g _ (by rw [mu_ne _ _ (by decide), mu_at]) (mu_at _ _ _ _) (jF_trans (fin _ m' h) jF_bad)
theorem r_judge_102 (hp : PP P) (hu : u < 16) (hb : base + 80 ≤ 2000) (hZ : yZ n most Z) (hm : most ≤ 8) (hRR : RR u base Z m J) (h10 : m 262 10 = 0) {post : Mi → Mj → Mp → Prop} : ∀ (q c : Nat) (x2 : Int), (c : Int) + q = Z 0 3 → Z 0 7 ≤ c → x2 = base + c → (jV Z q c < 0 → Rn X (d + 3) 151 102 [some (.ref 262), some (.int (iz (u : Int))), some (.int (iz ((base : Int) + Z 0 3))), none, none] [] (SS m J P) (QV post)) → (0 ≤ jV Z q c → post (mu (mu m 262 10 7) 262 11 (Z 3 (jV Z q c).toNat)) J P) → Rn X (d + 3) 151 102 [some (.ref 262), some (.int (iz (u : Int))), some (.int (iz x2)), none, none] [] (SS m J P) (QV post) := by
  have h1 := hZ.1
  obtain ⟨⟨s1, s2, s3, s4, s5⟩, s6, s7⟩ := hRR
  have hRR : RR u base Z m J := ⟨⟨s1, s2, s3, s4, s5⟩, s6, s7⟩
  have eu : ((u : Nat) : Int).toNat = u := by omega
  have z10 : Zr (m 262 10) := by rw [h10]; exact zr0
  intro q
  induction q with
  | zero =>
    intro c x2 hc hl hx k1 k2
    have := k1 (show (-1 : Int) < 0 by decide)
    rw [show (base : Int) + Z 0 3 = x2 by omega] at this
    exact this
  | succ q ih =>
    intro c x2 hc hl hx k1 k2
    have ec : x2.toNat = base + c := by omega
    have rc := s6 c (by omega)
    have bc := (hZ.2.2.1 c (by omega)).2.2.1
    have known : ∀ x3 : Int, (x3 = 0 ∨ x3 = 1) → (x3 = 1 → Z 1 c < 0) → (x3 = 0 → 0 ≤ Z 1 c) → Rn X (d + 3) 151 142 [some (.ref 262), some (.int (iz (u : Int))), some (.int (iz x2)), some (.int (iz x3)), some (.int (iz (base : Int)))] [] (SS m J P) (QV post) := fun x3 w0 w1 w2 => by
      have iff : (x3 = 1 ∨ ∃ j : Nat, 0 ≤ j ∧ (j : Int) < Z 0 7 ∧ Z 1 j = Z 1 c) ↔ ¬ Z 0 8 ≤ Z 1 c := by
        constructor
        · rintro (w | ⟨j, _, j2, j3⟩) g
          · have := w1 w; omega
          · have := hZ.2.2.2.1 j j2; omega
        · intro g
          rcases w0 with w | w
          · have := w2 w
            obtain ⟨j, j1, j2⟩ := hZ.2.2.2.2.1 (Z 1 c).toNat (by omega)
            exact Or.inr ⟨j, Nat.zero_le _, j1, by omega⟩
          · exact Or.inl w
      have := r_known (X := X) (d := d) (x2 := x2) (c := c) hp hu hb hZ hm hRR h10 (by omega) hx (post := post) (Z 0 7).toNat 0 x3 (by omega) w0 (fun g => ?_) (fun g => ?_)
      · rw [show (base : Int) + ((0 : Nat) : Int) = base by omega] at this
        exact this
      · have e : jV Z (q + 1) c = jV Z q (c + 1) := by rw [jV, if_neg (iff.mp g)]
        rw [e] at k1 k2
        exact ih (c + 1) (x2 + 1) (by omega) (by omega) (by omega) k1 k2
      · have e : jV Z (q + 1) c = c := by rw [jV, if_pos (Classical.not_not.mp (fun g2 => g (iff.mpr g2)))]
        rw [e, show ((c : Nat) : Int).toNat = c by omega] at k2
        exact k2 (by omega)
    refine b_Mdl_judgeRule_102 u x2 m J P hp post ⟨by omega, by constructor <;> omega, ?_⟩
    rw [eu, ec, s3, s1, rc.1]
    exact ⟨by constructor <;> omega, fun h => absurd h (by omega), fun _ => ⟨z10, fun h => absurd h10 h, fun _ => ⟨by omega, by constructor <;> omega, fun v => ⟨by omega, known 0 (Or.inl rfl) (fun h => absurd h (by decide)) (fun _ => v)⟩, fun v => ⟨by omega, known 1 (Or.inr rfl) (fun _ => by omega) (fun h => absurd h (by decide))⟩⟩⟩⟩
theorem r_judgeRule (hp : PP P) (hu : u < 16) (hb : base + 80 ≤ 2000) (hZ : yZ n most Z) (hm : most ≤ 8) (hn : n ≤ 1600) (hN : RN sc Sn ar m J) (hRR : RR u base Z m J) (h10 : m 262 10 = 0) {post : Mi → Mj → Mp → Prop} (k1 : (jR Sn sc ar Z).1 = 0 → ∀ m', m' 262 10 = 0 → jF m m' → post m' J P) (k2 : (jR Sn sc ar Z).1 ≠ 0 → ∀ m', m' 262 10 = (jR Sn sc ar Z).1 → m' 262 11 = (jR Sn sc ar Z).2 → jF m m' → post m' J P) : Cv X (d + 3) 151 [.ref 262, .int (iz (u : Int))] m J P post := by
  have h1 := hZ.1
  have hLE : 0 < (Z 0 7).toNat ∧ (Z 0 7).toNat < (Z 0 3).toNat := ⟨hZ.2.1.1.1, hZ.2.1.2.1⟩
  obtain ⟨⟨s1, s2, s3, s4, s5⟩, s6, s7⟩ := hRR
  have hRR : RR u base Z m J := ⟨⟨s1, s2, s3, s4, s5⟩, s6, s7⟩
  have eu : ((u : Nat) : Int).toNat = u := by omega
  have z10 : Zr (m 262 10) := by rw [h10]; exact zr0
  have eN : jN Sn sc ar Z (Z 0 3).toNat 0 = if (jN Sn sc ar Z (Z 0 7).toNat 0).1 = 0 then jN Sn sc ar Z ((Z 0 3).toNat - (Z 0 7).toNat) (Z 0 7).toNat else jN Sn sc ar Z (Z 0 7).toNat 0 := by
    rw [show (Z 0 3).toNat = (Z 0 7).toNat + ((Z 0 3).toNat - (Z 0 7).toNat) by omega, jN_app, Nat.zero_add]
    rw [show (Z 0 7).toNat + ((Z 0 3).toNat - (Z 0 7).toNat) - (Z 0 7).toNat = (Z 0 3).toNat - (Z 0 7).toNat by omega]
  have bN := jN_bd (Sn := Sn) (sc := sc) ar Z (Z 0 3).toNat 0
  -- a name told a FAULT
  have badN : (jN Sn sc ar Z (Z 0 3).toNat 0).1 ≠ 0 → ∀ m', m' 262 10 = (jN Sn sc ar Z (Z 0 3).toNat 0).1 → m' 262 11 = (jN Sn sc ar Z (Z 0 3).toNat 0).2 → jF m m' → post m' J P := fun g => by
    have e : jR Sn sc ar Z = jN Sn sc ar Z (Z 0 3).toNat 0 := by rw [jR, if_pos g]
    rw [e] at k2
    exact k2 g
  have hJN := fun (lo hi : Nat) (x1 x2 : Int) (post : Mi → Mj → Mp → Prop) (e1 : x1 = base + lo) (e2 : x2 = base + hi) (hlo : lo ≤ hi) (hhi : (hi : Int) ≤ Z 0 3) (w1 : (jN Sn sc ar Z (hi - lo) lo).1 = 0 → post m J P) (w2 : (jN Sn sc ar Z (hi - lo) lo).1 ≠ 0 → post (mu (mu m 262 10 (jN Sn sc ar Z (hi - lo) lo).1) 262 11 (jN Sn sc ar Z (hi - lo) lo).2) J P) => show Cv X (d + 2) 152 [.ref 262, .int (iz x1), .int (iz x2), .ref 264, .int (iz (m 262 14)), .ref 268] m J P post from by
    refine Cv.of rfl rfl rfl (b_Mdl_judgeNames_0 x1 x2 264 16 _ 268 16 (by decide +kernel) (by decide) (by decide +kernel) (by decide) m J P hp post ?_)
    rw [e1]
    exact r_judgeNames_3 (na := 16) (nq := 16) (sc := sc) (Sn := Sn) (ar := ar) hp (by decide +kernel) (by decide) (by decide +kernel) (by decide) hN.1.2 ⟨hN.1.2, hN.1.2⟩ hN.2.1 hN.1.1 hN.2.2 (yZ_U hZ) hm hn hb h10 s6 hhi e2 (hi - lo) lo (by omega) w1 w2
  refine Cv.of rfl rfl rfl (b_Mdl_judgeRule_0 u m J P hp post ⟨by omega, by omega, ?_⟩)
  rw [eu]
  refine hJN 0 (Z 0 7).toNat _ _ _ (by rw [s1]; omega) (by rw [s2]; omega) (Nat.zero_le _) (by omega) (fun g => ⟨hp, by omega, by omega, ?_⟩) (fun g => ⟨hp, by omega, by omega, ?_⟩)
  · rw [Nat.sub_zero] at g
    rw [if_pos g] at eN
    refine hJN (Z 0 7).toNat (Z 0 3).toNat _ _ _ (by rw [s2]; omega) (by rw [s3]; omega) (by omega) (by omega) (fun g2 => ⟨hp, z10, fun _ => ⟨by omega, by omega, ?_⟩, fun h => absurd (by omega) h⟩) (fun g2 => ⟨hp, ?_⟩)
    · have hjN : (jN Sn sc ar Z (Z 0 3).toNat 0).1 = 0 := by rw [eN]; exact g2
      have eb : (m 272 u).toNat = base + 0 := by rw [s1]; omega
      have r0 := s6 0 (by omega)
      have b0 := (hZ.2.2.1 0 (by omega)).2.2.1
      have jv := jV_bd Z ((Z 0 3).toNat - (Z 0 7).toNat) (Z 0 7).toNat
      rw [eb, r0.1, r0.2.1, s2]
      have ejR : jR Sn sc ar Z = if 0 ≤ Z 1 0 then (7, Z 3 0) else if 0 ≤ jV Z ((Z 0 3).toNat - (Z 0 7).toNat) (Z 0 7).toNat then (7, Z 3 (jV Z ((Z 0 3).toNat - (Z 0 7).toNat) (Z 0 7).toNat).toNat) else @ite _ (abT (cdZ Sn sc Z) (nxY Z) (ptY Z) (Z 0 3).toNat 0 (Z 0 7).toNat) (Classical.propDecidable _) (0, -1) (7, Z 0 9) := by rw [jR, if_neg (fun h => h hjN)]
      refine ⟨by constructor <;> omega, fun v => ⟨by omega, ?_⟩, fun v => ⟨by omega, by omega, r_fail hp z10 ⟨hp, by omega, ?_⟩⟩⟩
      · rw [if_neg (by omega)] at ejR
        refine r_judge_102 hp hu hb hZ hm hRR h10 ((Z 0 3).toNat - (Z 0 7).toNat) (Z 0 7).toNat _ (by omega) (by omega) (by omega) (fun w => ?_) (fun w => ?_)
        · rw [if_neg (by omega)] at ejR
          refine r_judgeFin hp hu hb hZ hm hN hRR h10 hjN rfl (fun w2 m' q1 q2 => ?_) (fun w2 m' q1 q2 q3 => ?_)
          · rw [if_pos w2] at ejR
            rw [ejR] at k1
            exact k1 rfl m' q1 q2
          · rw [if_neg w2] at ejR
            rw [ejR] at k2
            exact k2 (show (7 : Int) ≠ 0 by decide) m' q1 q2 q3
        · rw [if_pos w] at ejR
          rw [ejR] at k2
          exact k2 (show (7 : Int) ≠ 0 by decide) _ (by rw [mu_ne _ _ (by decide), mu_at]) (mu_at _ _ _ _) jF_bad
      · rw [if_pos (by omega)] at ejR
        rw [ejR] at k2
        rw [rf_0 h10]
        have q10 : mu (mu m 262 10 7) 262 11 (Z 3 0) 262 10 = 7 := by rw [mu_ne _ _ (by decide), mu_at]
        have qr : mu (mu m 262 10 7) 262 11 (Z 3 0) 273 u = base + Z 0 7 := by rw [mu_ne _ _ (by omega), mu_ne _ _ (by omega)]; exact s2
        have qe : mu (mu m 262 10 7) 262 11 (Z 3 0) 274 u = base + Z 0 3 := by rw [mu_ne _ _ (by omega), mu_ne _ _ (by omega)]; exact s3
        rw [qr]
        exact r_102_bad hp hu (by rw [q10]; decide) (by omega) (by rw [qe]; omega) (k2 (show (7 : Int) ≠ 0 by decide) _ q10 (mu_at _ _ _ _) jF_bad)
    · rw [← eN] at g2 ⊢
      have q10 : mu (mu m 262 10 (jN Sn sc ar Z (Z 0 3).toNat 0).1) 262 11 (jN Sn sc ar Z (Z 0 3).toNat 0).2 262 10 = (jN Sn sc ar Z (Z 0 3).toNat 0).1 := by rw [mu_ne _ _ (by decide), mu_at]
      exact ⟨by rw [q10]; constructor <;> omega, fun h => absurd h (by rw [q10]; omega), fun _ => badN g2 _ q10 (mu_at _ _ _ _) jF_bad⟩
  · rw [Nat.sub_zero] at g ⊢
    rw [if_neg g] at eN
    rw [← eN] at g ⊢
    have q10 : mu (mu m 262 10 (jN Sn sc ar Z (Z 0 3).toNat 0).1) 262 11 (jN Sn sc ar Z (Z 0 3).toNat 0).2 262 10 = (jN Sn sc ar Z (Z 0 3).toNat 0).1 := by rw [mu_ne _ _ (by decide), mu_at]
    have fq : ∀ a, a ≠ 262 → ∀ k, mu (mu m 262 10 (jN Sn sc ar Z (Z 0 3).toNat 0).1) 262 11 (jN Sn sc ar Z (Z 0 3).toNat 0).2 a k = m a k := fun a h k => by rw [mu_ne _ _ (by omega), mu_ne _ _ (by omega)]
    rw [fq _ (by decide), fq _ (by decide), s2, s3]
    have done := badN g _ q10 (mu_at _ _ _ _) jF_bad
    refine Cv.of rfl rfl rfl (b_Mdl_judgeNames_0 _ _ 264 16 _ 268 16 (by decide +kernel) (by decide) (by decide +kernel) (by decide) _ J P hp _ ?_)
    have last : PP P ∧ Zr (mu (mu m 262 10 (jN Sn sc ar Z (Z 0 3).toNat 0).1) 262 11 (jN Sn sc ar Z (Z 0 3).toNat 0).2 262 10) := ⟨hp, by rw [q10]; constructor <;> omega⟩
    exact b_Mdl_judgeNames_3 _ _ 264 16 _ 268 16 _ (by decide +kernel) (by decide) (by decide +kernel) (by decide) _ J P hp _ ⟨by constructor <;> omega, by constructor <;> omega, fun h => absurd h (by omega), fun _ => ⟨last.2, fun _ => ⟨hp, last.2, fun h => absurd h (by rw [q10]; omega), fun _ => done⟩, fun h => absurd (fun e => g (q10.symm.trans e)) h⟩⟩
end JRS
