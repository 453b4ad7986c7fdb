/-! takeSystem() of the reference -/
section TKY
variable {X : aX} {d : Nat} {P : Mp} {sc N : Nat} {Sn : Nat → Nat} {ar : Nat → Int} {m : Mi} {J : Mj} {R : Nat → Mi} {bs : Nat → Nat}
theorem r_take_63 (hp : PP P) (hS : Sq sc Sn ar N R) (hbs : ∀ v, v < N → bs v + 80 ≤ 2000) {m0 : Mi} {J0 : Mj} {post : Mi → Mj → Mp → Prop} (k : ∀ (m' : Mi) (J' : Mj), m' 262 35 = ((N : Nat) : Int) → (∀ v, v < N → RT Sn sc v (R v) m' J') → tkF m0 J0 m' J' → (∀ i, m' 280 i = m 280 i) → (∀ i, J' 279 i = J 279 i) → m' 262 34 = m 262 34 → m' 262 33 = m 262 33 → post m' J' P) : ∀ (q u : Nat) (m1 : Mi) (J1 : Mj), u + q = N → m1 262 35 = N → RN sc Sn ar m1 J1 → (∀ v, v < N → RR v (bs v) (R v) m1 J1) → (∀ v, v < u → RT Sn sc v (R v) m1 J1) → tkF m0 J0 m1 J1 → (∀ i, m1 280 i = m 280 i) → (∀ i, J1 279 i = J 279 i) → m1 262 34 = m 262 34 → m1 262 33 = m 262 33 → Rn X (d + 2) 160 63 [some (.ref 262), some (.int (iz (u : Int))), none] [] (SS m1 J1 P) (QV post) := by
  intro q
  induction q with
  | zero =>
    intro u m1 J1 hu h35 hRN hRR hRT hf g1 g2 g3 g4
    have hN16 : N ≤ 16 := hS.1.2
    exact b_Mdl_takeSystem_63 u m1 J1 P hp post ⟨by constructor <;> omega, by rw [h35]; constructor <;> omega, fun _ => k m1 J1 h35 (fun v hv => hRT v (by omega)) hf g1 g2 g3 g4, fun h => absurd (by rw [h35]; omega) h⟩
  | succ q ih =>
    intro u m1 J1 hu h35 hRN hRR hRT hf g1 g2 g3 g4
    have hN16 := hS.1.2
    have eu : ((u : Nat) : Int).toNat = u := by omega
    obtain ⟨hZ, hRO⟩ := hS.2.2 u (by omega)
    have h1 := hZ.1
    have hbu := hbs u (by omega)
    obtain ⟨⟨s1, s2, s3, s4, s5⟩, s6, s7⟩ := hRR u (by omega)
    have hLE := Rw_LE hRO.1
    refine b_Mdl_takeSystem_63 u m1 J1 P hp post ⟨by constructor <;> omega, by rw [h35]; constructor <;> omega, fun h => absurd h (by rw [h35]; omega), fun _ => ⟨by omega, by omega, by omega, by omega, by omega, by omega, by omega, by omega, ?_⟩⟩
    rw [eu]
    have f0 : ∀ x y : Int, ∀ a k, ¬ ((a = 283 ∨ a = 284) ∧ k = u) → mu (mu m1 283 u x) 284 u y a k = m1 a k := fun x y a k h => by rw [mu_ne _ _ (by omega), mu_ne _ _ (by omega)]
    rw [f0 _ _ _ _ (by omega), f0 _ _ _ _ (by omega), mu_ne (x := 274) _ _ (by omega), mu_ne (x := 273) _ _ (by omega), s1, s2, s3]
    have e83 : (bs u : Int) + R u 0 7 - (bs u : Int) = R u 0 7 := by omega
    have e84 : (bs u : Int) + R u 0 3 - ((bs u : Int) + R u 0 7) = R u 0 3 - R u 0 7 := by omega
    rw [e83, e84]
    refine r_numbers (lo := 0) (hi := (R u 0 7).toNat) (base := bs u) (n3 := 40) (Z := R u) (n := 1600) (most := 8) hp (by decide +kernel) (by decide) (by decide) (by omega) (by omega) hRN.1.2 hZ (by decide) (by omega) hbu hRN.2.1 (by rw [f0 _ _ _ _ (by omega)]; exact hRN.1.1) (fun c hc => ⟨by rw [f0 _ _ _ _ (by omega)]; exact (s6 c hc).1, (s6 c hc).2.2.2⟩) (fun m2 w1 w2 => ⟨hp, by omega, by omega, ?_⟩) (by omega) (by omega)
    have f2 : ∀ a k, a ≠ 291 → ¬ ((a = 283 ∨ a = 284) ∧ k = u) → m2 a k = m1 a k := fun a k h h2 => (w2 a k h).trans (f0 _ _ a k h2)
    rw [f2 _ _ (by decide) (by omega), f2 _ _ (by decide) (by omega), s2, s3]
    refine r_numbers (lo := (R u 0 7).toNat) (hi := (R u 0 3).toNat) (base := bs u) (n3 := 40) (Z := R u) (n := 1600) (most := 8) hp (by decide +kernel) (by decide) (by decide) (by omega) (by omega) hRN.1.2 hZ (by decide) (by omega) hbu hRN.2.1 (by rw [f2 _ _ (by decide) (by omega)]; exact hRN.1.1) (fun c hc => ⟨by rw [f2 _ _ (by decide) (by omega)]; exact (s6 c hc).1, (s6 c hc).2.2.2⟩) (fun m3 v1 v2 => ⟨hp, ?_⟩) (by omega) (by omega)
    have f3 : ∀ a k, a ≠ 291 → a ≠ 292 → ¬ ((a = 283 ∨ a = 284) ∧ k = u) → m3 a k = m1 a k := fun a k h h2 h3 => (v2 a k h2).trans (f2 a k h h3)
    have t83 : m3 283 u = R u 0 7 := by rw [v2 _ _ (by decide), w2 _ _ (by decide), mu_ne _ _ (by omega), mu_at]
    have t84 : m3 284 u = R u 0 3 - R u 0 7 := by rw [v2 _ _ (by decide), w2 _ _ (by decide), mu_at]
    refine r_take_153 (s := R u 0 7) hp (by omega) (by omega) (R u 0 7).toNat 0 m3 (by omega) t83 fun m4 p1 p2 => ?_
    refine r_take_188 (s := R u 0 3 - R u 0 7) hp (by omega) (by omega) (R u 0 3 - R u 0 7).toNat 0 m4 (by omega) (by rw [p1 _ _ (by omega)]; exact t84) fun m5 y1 y2 => ?_
    have e276 : m5 276 u = R u 0 4 := by rw [y1 _ _ (by omega), p1 _ _ (by omega), f3 _ _ (by decide) (by decide) (by omega)]; exact s5
    rw [e276]
    refine r_take_235 hp (by omega) 8 0 J1 (by decide) fun J2 z1 z2 => ?_
    have fin : ∀ a k, a ≠ 291 → a ≠ 292 → ¬ ((a = 283 ∨ a = 284 ∨ a = 285) ∧ k = u) → ¬ ((a = 281 ∨ a = 282) ∧ 40 * u ≤ k ∧ k < 40 * u + 40) → mu m5 285 u (R u 0 4) a k = m1 a k := fun a k g1 g2 g3 g4 => by
      rw [mu_ne _ _ (by omega), y1 a k (by omega), p1 a k (by omega)]
      exact f3 a k g1 g2 (by omega)
    have tk : tkF m1 J1 (mu m5 285 u (R u 0 4)) J2 := ⟨fun a k q1 q2 q3 q4 => fin a k q3 q4 (by omega) (by omega), fun a k q1 q2 => z1 a k (fun e => q2 e.1)⟩
    have nx : ((u : Nat) : Int) + 1 = ((u + 1 : Nat) : Int) := by omega
    rw [nx]
    refine ih (u + 1) _ J2 (by omega) ((fin _ _ (by decide) (by decide) (by omega) (by omega)).trans h35) (RN_tk hRN tk) (fun v hv => RR_tk (hRR v hv) tk) (fun v hv => ?_) (tkF_trans hf tk) (fun i => (fin _ _ (by decide) (by decide) (by omega) (by omega)).trans (g1 i)) (fun i => (z1 _ _ (fun e => by cases e.1)).trans (g2 i)) ((fin _ _ (by decide) (by decide) (by omega) (by omega)).trans g3) ((fin _ _ (by decide) (by decide) (by omega) (by omega)).trans g4)
    by_cases e : v = u
    · rw [e]
      refine ⟨⟨?_, ?_, mu_at _ _ _ _⟩, fun j hj => ?_, fun j hj => ?_, fun i hi => ?_⟩
      · rw [mu_ne _ _ (by omega), y1 _ _ (by omega), p1 _ _ (by omega)]; exact t83
      · rw [mu_ne _ _ (by omega), y1 _ _ (by omega), p1 _ _ (by omega)]; exact t84
      · rw [mu_ne _ _ (by omega), y1 _ _ (by omega), p2 j (Nat.zero_le _) hj, v2 _ _ (by decide), w1 j (by omega), Nat.zero_add]
      · rw [mu_ne _ _ (by omega), y2 j (Nat.zero_le _) (by omega), p1 _ _ (by omega)]
        exact v1 j (by omega)
      · rw [z2 i (Nat.zero_le _) (by omega)]
        exact s7 i hi
    · have hZv := (hS.2.2 v (by omega)).1
      exact RT_fr (hRT v (by omega)) e hZv (by decide) (fun a k h h2 => fin a k (by omega) (by omega) (by omega) (by omega)) (fun a k h h2 => fin a k (by omega) (by omega) (by omega) (by omega)) (fun k h => z1 _ _ (by omega))
theorem r_takeSystem (hp : PP P) (hS : Sq sc Sn ar N R) (hbs : ∀ v, v < N → bs v + 80 ≤ 2000) (hRN : RN sc Sn ar m J) (h15 : m 262 15 = N) (hRR : ∀ v, v < N → RR v (bs v) (R v) m J) {post : Mi → Mj → Mp → Prop} (k : ∀ m' J', RSy sc Sn ar N R m' J' → m' 262 33 = 1 → tkF m J m' J' → post m' J' P) : Cv X (d + 2) 160 [.ref 262] m J P post := by
  have hN16 := hS.1.2
  have hs16 := hS.1.1
  refine Cv.of rfl rfl rfl (b_Mdl_takeSystem_0 m J P hp post ?_)
  rw [mu_ne (y := 14) _ _ (by decide), mu_ne (y := 15) _ _ (by decide), mu_ne (y := 15) _ _ (by decide), hRN.1.1, h15]
  have f0 : tkF m J (mu (mu (mu m 262 33 1) 262 34 (sc : Nat)) 262 35 (N : Nat)) J := ⟨fun a k g _ _ _ => by rw [mu_ne _ _ (by omega), mu_ne _ _ (by omega), mu_ne _ _ (by omega)], fun _ _ _ _ => rfl⟩
  have loop : ∀ (q i : Nat) (m1 : Mi) (J1 : Mj), i + q = sc → m1 262 34 = sc → m1 262 35 = N → m1 262 33 = 1 → tkF m J m1 J1 → (∀ j, j < i → m1 280 j = ar j ∧ J1 279 j = rN (Sn j)) → Rn X (d + 2) 160 23 [some (.ref 262), some (.int (iz (i : Int))), none] [] (SS m1 J1 P) (QV post) := by
    intro q
    induction q with
    | zero =>
      intro i m1 J1 hi h34 h35 h33 hf hd
      refine b_Mdl_takeSystem_23 i m1 J1 P hp post ⟨by constructor <;> omega, by rw [h34]; constructor <;> omega, fun _ => ?_, fun h => absurd (by rw [h34]; omega) h⟩
      exact r_take_63 (m := m1) (J := J1) (m0 := m) (J0 := J) hp hS hbs (fun m' J' w1 w2 w3 w4 w5 w6 w7 => k m' J' ⟨⟨⟨w6.trans h34, hs16⟩, fun j hj => ⟨by rw [w5]; exact (hd j (by omega)).2, (hS.2.1 j hj).1⟩, fun j hj => ⟨by rw [w4]; exact (hd j (by omega)).1, (hS.2.1 j hj).2⟩⟩, w1, w2⟩ (w7.trans h33) w3) N 0 m1 J1 (by omega) h35 (RN_tk hRN hf) (fun v hv => RR_tk (hRR v hv) hf) (fun v hv => absurd hv (Nat.not_lt_zero _)) hf (fun _ => rfl) (fun _ => rfl) rfl rfl
    | succ q ih =>
      intro i m1 J1 hi h34 h35 h33 hf hd
      have ei : ((i : Nat) : Int).toNat = i := by omega
      have hr := RN_tk hRN hf
      have ni : ((i : Nat) : Int) + 1 = ((i + 1 : Nat) : Int) := by omega
      refine b_Mdl_takeSystem_23 i m1 J1 P hp post ⟨by constructor <;> omega, by rw [h34]; constructor <;> omega, fun h => absurd h (by rw [h34]; omega), fun _ => ⟨by omega, by omega, by omega, by omega, ?_⟩⟩
      rw [ei, ni]
      refine ih (i + 1) _ _ (by omega) (by rw [mu_ne _ _ (by omega)]; exact h34) (by rw [mu_ne _ _ (by omega)]; exact h35) (by rw [mu_ne _ _ (by omega)]; exact h33) (tkF_trans hf ⟨fun a k _ g _ _ => mu_ne _ _ (by omega), fun a k g _ => mju_ne _ _ (by omega)⟩) (fun j hj => ?_)
      by_cases e : j = i
      · rw [e, mu_at, mju_at]
        exact ⟨(hr.2.2 i (by omega)).1, (hr.2.1 i (by omega)).1⟩
      · rw [mu_ne _ _ (by omega), mju_ne _ _ (by omega)]
        exact hd j (by omega)
  exact loop sc 0 _ J (by omega) (by rw [mu_ne _ _ (by decide), mu_at]) (mu_at _ _ _ _) (by rw [mu_ne _ _ (by decide), mu_ne _ _ (by decide), mu_at]) f0 (fun j hj => absurd hj (Nat.not_lt_zero _))
end TKY
