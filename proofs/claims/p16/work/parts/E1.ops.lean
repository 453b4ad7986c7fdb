/-! single calls: what changes nothing -/
section OPA
variable {X : aX} {d x y : Nat} {P P' : Mp} {J J' : Mj} {m m' m0 : Mi} {Sn : Nat → Nat} {ar : Nat → Int} {sc mg b s o g N vm t h : Nat} {R : Nat → Mi} {nm : Nat → Int} {l r : List Int} {S : Ts} {st rl q qa z A : Int} {T : Nat → Int} {L : Nat → Int} {K : List (Nat × Nat × Nat × Int)}
abbrev IVk (A : Int) : Mi → Mj → Mp → Prop := fun m J P => IV A m J P
/-- both end; the answers may differ -/
def Pw (X : aX) (d c1 c2 : Nat) (as : List Value) (m : Mi) (J : Mj) (P : Mp) (K : Mi → Mj → Mp → Prop) : Prop := Ci X d c1 (.ref 1 :: as) m J P (fun _ m1 J1 P1 => PP P1 ∧ Ci X d c2 (.ref 262 :: as) m1 J1 P1 (fun _ m2 J2 P2 => PP P2 ∧ K m2 J2 P2))
theorem pr_ofz {K : Mi → Mj → Mp → Prop} {c1 c2 : Nat} {as : List Value} {z1 z2 : Int} (e : z1 = z2) (hp : PP P) (h1 : ∀ post : Int → Mi → Mj → Mp → Prop, post z1 m J P → Ci X d c1 (.ref 1 :: as) m J P post) (h2 : ∀ post : Int → Mi → Mj → Mp → Prop, post z2 m J P → Ci X d c2 (.ref 262 :: as) m J P post) (k : K m J P) : Pr X d c1 c2 as m J P K := Pr.mk' (h1 _ ⟨hp, h2 _ ⟨hp, e, k⟩⟩)
theorem v_fault {x : Int} (H : IV A m J P) (hx : Zr x) : Pr X d 73 181 [vi x] m J P (IVk A) := by
  obtain ⟨b, s, o, g, x', y, hP, h, T, q, qa, z, L, h16, sc, Sn, ar, N, R, t, K, rl, pi, l, r, vm, mg, nm, S, st, pt, hc, hr⟩ := id H
  have hp := hP.1
  obtain ⟨_, ⟨_, a1, a2⟩, _⟩ := hc.1
  obtain ⟨_, ⟨_, b1, b2⟩, _⟩ := hr.1
  by_cases g0 : x = 0
  · exact pr_ofz (z1 := m 4 3) (z2 := m 262 12) (a1.trans b1.symm) hp (fun post k => Ci.of rfl rfl rfl (b_Nh_fault_0 x m J P hp post ⟨hx, fun g => absurd g0 g, fun _ => k⟩)) (fun post k => Ci.of rfl rfl rfl (b_Mdl_fault_0 x m J P hp post ⟨hx, fun g => absurd g0 g, fun _ => k⟩)) H
  · by_cases g1 : x = 1
    · exact pr_ofz (z1 := m 4 4) (z2 := m 262 13) (a2.trans b2.symm) hp (fun post k => Ci.of rfl rfl rfl (b_Nh_fault_0 x m J P hp post ⟨hx, fun _ => ⟨hx, fun g => absurd g1 g, fun _ => k⟩, fun g => absurd g0 g⟩)) (fun post k => Ci.of rfl rfl rfl (b_Mdl_fault_0 x m J P hp post ⟨hx, fun _ => ⟨hx, fun g => absurd g1 g, fun _ => k⟩, fun g => absurd g0 g⟩)) H
    · exact pr_ofz (z1 := -1) (z2 := -1) rfl hp (fun post k => Ci.of rfl rfl rfl (b_Nh_fault_0 x m J P hp post ⟨hx, fun _ => ⟨hx, fun _ => k, fun g => absurd g1 g⟩, fun g => absurd g0 g⟩)) (fun post k => Ci.of rfl rfl rfl (b_Mdl_fault_0 x m J P hp post ⟨hx, fun _ => ⟨hx, fun _ => k, fun g => absurd g1 g⟩, fun g => absurd g0 g⟩)) H
theorem v_count {x : Int} (H : IV A m J P) (hx : Zr x) (h5 : x ≠ 5) : Pr X (d + 2) 74 182 [vi x] m J P (IVk A) := by
  obtain ⟨b, s, o, g, x', y, hP, h, T, q, qa, z, L, h16, sc, Sn, ar, N, R, t, K, rl, pi, l, r, vm, mg, nm, S, st, pt, hc, hr⟩ := id H
  have hp := hP.1
  have kb := kd_book (BP_kd hP.2.1).1
  obtain ⟨hC, ⟨⟨c2, c3, c4⟩, _⟩, _⟩ := hc.2.2.2.1
  obtain ⟨hD, ⟨⟨e2, _, e3, e4⟩, _⟩, _⟩ := hr.2.2.1
  have c0 : m b 4 = (sc : Int) := hC.1.1.1
  have c1 : m b 5 = (N : Int) := hC.2.2.1.2.1
  have e0 : m 262 34 = (sc : Int) := hD.1.1.1
  have e1 : m 262 35 = (N : Int) := hD.2.1
  have pb : P 1 8 = some b := hP.2.1.1
  have w : ∀ (v : Int), (x = 0 → m b 4 = v) → (x = 1 → m b 5 = v) → (x = 2 → m 36 3 = v) → (x = 3 → m 36 4 = v) → (x = 4 → m 36 5 = v) → (x < 0 ∨ 5 < x → -1 = v) → (x = 0 → m 262 34 = v) → (x = 1 → m 262 35 = v) → (x = 2 → m 262 44 = v) → (x = 3 → m 262 46 = v) → (x = 4 → m 262 47 = v) → Pr X (d + 2) 74 182 [vi x] m J P (IVk A) := fun v q0 q1 q2 q3 q4 q5 u0 u1 u2 u3 u4 =>
    pr_ofz (z1 := v) (z2 := v) rfl hp (fun post k => Ci.of rfl rfl rfl (b_Nh_count_0 x m J P hp post ⟨hx, fun g => ⟨b, pb, kb, by rw [q0 g]; exact k⟩, fun g => ⟨b, pb, kb, by rw [q1 g]; exact k⟩, fun g => by rw [q2 g]; exact k, fun g => by rw [q3 g]; exact k, fun g => by rw [q4 g]; exact k, fun g => absurd g h5, fun g => by rw [q5 g]; exact k⟩)) (fun post k => Ci.of rfl rfl rfl (b_Mdl_count_0 x m J P hp post ⟨hx, fun g => by rw [u0 g]; exact k, fun g => by rw [u1 g]; exact k, fun g => by rw [u2 g]; exact k, fun g => by rw [u3 g]; exact k, fun g => by rw [u4 g]; exact k, fun g => absurd g h5, fun g => by rw [q5 g]; exact k⟩)) H
  by_cases g0 : x = 0
  · exact w _ (fun _ => c0) (by omega) (by omega) (by omega) (by omega) (by omega) (fun _ => e0) (by omega) (by omega) (by omega) (by omega)
  · by_cases g1 : x = 1
    · exact w _ (by omega) (fun _ => c1) (by omega) (by omega) (by omega) (by omega) (by omega) (fun _ => e1) (by omega) (by omega) (by omega)
    · by_cases g2 : x = 2
      · exact w _ (by omega) (by omega) (fun _ => c2) (by omega) (by omega) (by omega) (by omega) (by omega) (fun _ => e2) (by omega) (by omega)
      · by_cases g3 : x = 3
        · exact w _ (by omega) (by omega) (by omega) (fun _ => c3) (by omega) (by omega) (by omega) (by omega) (by omega) (fun _ => e3) (by omega)
        · by_cases g4 : x = 4
          · exact w _ (by omega) (by omega) (by omega) (by omega) (fun _ => c4) (by omega) (by omega) (by omega) (by omega) (by omega) (fun _ => e4)
          · exact w (-1) (by omega) (by omega) (by omega) (by omega) (by omega) (fun _ => rfl) (by omega) (by omega) (by omega) (by omega) (by omega)
/-- a length that overflows: both hold what is left of it -/
theorem IV_out (H : IV A m J P) : ∃ z, Zr z ∧ ∃ m', SS m' J P = SS m J P ∧ IV A m' J P ∧ m' 50 1 = z ∧ m' 262 136 = z ∧ ∀ k : Nat, k < 1000 → (k : Int) < z → m' 51 k = m' 347 k := by
  obtain ⟨b, s, o, g, x', y, hP, h, T, q, qa, z, L, h16, sc, Sn, ar, N, R, t, K, rl, pi, l, r, vm, mg, nm, S, st, pt, ⟨c1, c2, c3, c4, c5⟩, d1, d2, d3, d4⟩ := H
  have hs := pi.1.1.1
  have hb := (BP_kd hP.2.1).1
  have hgo : g = 39 ∨ g = 256 := by rcases hP.2.2.1.2.2 with h | h <;> omega
  obtain ⟨z0, z1, z2⟩ := c3
  obtain ⟨_, w1, w2⟩ := d2
  have zz := iz_Zr z
  by_cases hz : Zr z
  · exact ⟨z, hz, m, rfl, ⟨b, s, o, g, x', y, hP, h, T, q, qa, z, L, h16, sc, Sn, ar, N, R, t, K, rl, pi, l, r, vm, mg, nm, S, st, pt, ⟨c1, c2, ⟨z0, z1, z2⟩, c4, c5⟩, d1, ⟨z0, w1, w2⟩, d3, d4⟩, z1, w1, fun k h1 h2 => (z2 k h1 h2).trans (w2 k h1 h2).symm⟩
  · have le : (iz z).toInt < z ∨ z < (iz z).toInt := by
      by_cases e : (iz z).toInt = z
      · exact absurd (by rw [← e]; exact zz) hz
      · omega
    have e1 : SS (mu (mu m 50 1 (iz z).toInt) 262 136 (iz z).toInt) J P = SS m J P := by
      have q1 : SS (mu m 50 1 (iz z).toInt) J P = SS m J P := by
        have := SS_zr (m := m) (J := J) (P := P) 50 1
        rw [show m 50 1 = z from z1] at this
        exact this
      have q2 := SS_zr (m := mu m 50 1 (iz z).toInt) (J := J) (P := P) 262 136
      rw [mu_ne m (iz z).toInt (a := 50) (k := 1) (x := 262) (y := 136) (by omega), show m 262 136 = z from w1] at q2
      exact q2.trans q1
    have f : ∀ a k, ¬ (a = 50 ∧ k = 1) → ¬ (a = 262 ∧ k = 136) → mu (mu m 50 1 (iz z).toInt) 262 136 (iz z).toInt a k = m a k := fun a k g1 g2 => (mu_ne _ _ g2).trans (mu_ne _ _ g1)
    have p1 : mu (mu m 50 1 (iz z).toInt) 262 136 (iz z).toInt 50 1 = (iz z).toInt := (mu_ne _ _ (by omega)).trans (mu_at _ _ _ _)
    have p2 : mu (mu m 50 1 (iz z).toInt) 262 136 (iz z).toInt 262 136 = (iz z).toInt := mu_at _ _ _ _
    generalize mu (mu m 50 1 (iz z).toInt) 262 136 (iz z).toInt = m2 at *
    have vle : (iz z).toInt ≤ z := by
      have u := zz
      unfold Zr at u z0 hz
      omega
    generalize (iz z).toInt = v at *
    exact ⟨v, zz, m2, e1, ⟨b, s, o, g, x', y, hP, h, T, q, qa, v, L, h16, sc, Sn, ar, N, R, t, K, rl, pi, l, r, vm, mg, nm, S, st, pt, ⟨iB_fr c1 fun a k _ => f a k (by omega) (by omega), iA_fr c2 fun a k _ => f a k (by omega) (by omega), ⟨Or.inr zz, p1, fun k h1 h2 => (f 51 k (by omega) (by omega)).trans (z2 k h1 (by omega))⟩, iS_fr hs c4 (fun a k _ => f a k (by omega) (by omega)) (fun _ _ _ _ => rfl), iT_fr c5 (fun a k _ => f a k (by omega) (by omega)) fun _ => rfl⟩, ujB_fr d1 (fun a k _ => f a k (by omega) (by omega)) (fun _ _ => rfl), ⟨Or.inr zz, p2, fun k h1 h2 => (f 347 k (by omega) (by omega)).trans (w2 k h1 (by omega))⟩, ujS_fr d3 (fun a k _ => f a k (by omega) (by omega)) (fun _ _ _ _ => rfl), ujT_fr d4 (fun a k _ => f a k (by omega) (by omega)) fun _ => rfl⟩, p1, p2, fun k h1 h2 => by rw [f 51 k (by omega) (by omega), f 347 k (by omega) (by omega), z2 k h1 (by omega), w2 k h1 (by omega)]⟩
theorem v_out {x : Int} (H : IV A m J P) (hx : Zr x) : Pr X (d + 2) 131 216 [vi x] m J P (IVk A) := by
  obtain ⟨z, hz, m', e, H', z1, z2, z3⟩ := IV_out H
  have hp := IV_PP H
  have goal : Pr X (d + 2) 131 216 [vi x] m' J P (IVk A) := by
    by_cases g0 : x < 0
    · exact pr_ofz (z1 := -1) (z2 := -1) rfl hp (fun post k => Ci.of rfl rfl rfl (b_Nh_out_0 x m' J P hp post ⟨hx, fun _ => k, fun g => absurd g0 g⟩)) (fun post k => Ci.of rfl rfl rfl (b_Mdl_out_0 (d := d + 1) x m' J P hp post ⟨hx, fun _ => k, fun g => absurd g0 g⟩)) H'
    · have zk : Zr (if 1000 < z then 1000 else z) := by
        split
        · constructor <;> omega
        · exact hz
      by_cases g1 : x < (if 1000 < z then 1000 else z)
      · have g1' : x < z ∧ x < 1000 := by
          split at g1 <;> omega
        refine pr_ofz (z1 := m' 51 x.toNat) (z2 := m' 347 x.toNat) (z3 x.toNat (by omega) (by omega)) hp (fun post k => Ci.of rfl rfl rfl (b_Nh_out_0 x m' J P hp post ⟨hx, fun g => absurd g g0, fun _ => ?_⟩)) (fun post k => Ci.of rfl rfl rfl (b_Mdl_out_0 (d := d + 1) x m' J P hp post ⟨hx, fun g => absurd g g0, fun _ => ?_⟩)) H'
        · exact c_kept hp (by rw [z1]; exact hz) (by rw [z1]) ⟨hp, hx, zk, fun g => absurd g (by omega), fun _ => ⟨by constructor <;> omega, k⟩⟩
        · rw [z2]
          exact ⟨hz, hx, zk, fun _ => ⟨by constructor <;> omega, k⟩, fun g => absurd g1 g⟩
      · refine pr_ofz (z1 := -1) (z2 := -1) rfl hp (fun post k => Ci.of rfl rfl rfl (b_Nh_out_0 x m' J P hp post ⟨hx, fun g => absurd g g0, fun _ => ?_⟩)) (fun post k => Ci.of rfl rfl rfl (b_Mdl_out_0 (d := d + 1) x m' J P hp post ⟨hx, fun g => absurd g g0, fun _ => ?_⟩)) H'
        · exact c_kept hp (by rw [z1]; exact hz) (by rw [z1]) ⟨hp, hx, zk, fun _ => k, fun g => absurd g (by omega)⟩
        · rw [z2]
          exact ⟨hz, hx, zk, fun g => absurd g g1, fun _ => k⟩
  unfold Pr Ci at goal ⊢
  rw [e] at goal
  exact goal
/-- count(5): both end -/
theorem v_count5 {x : Int} (H : IV A m J P) (hx : Zr x) (h5 : x = 5) : Pw X (d + 2) 74 182 [vi x] m J P (IVk A) := by
  obtain ⟨z, hz, m', e, H', z1, z2, z3⟩ := IV_out H
  have hp := IV_PP H
  have goal : Pw X (d + 2) 74 182 [vi x] m' J P (IVk A) := Ci.of rfl rfl rfl (b_Nh_count_0 x m' J P hp _ ⟨hx, fun g => absurd g (by omega), fun g => absurd g (by omega), fun g => absurd g (by omega), fun g => absurd g (by omega), fun g => absurd g (by omega), fun _ => c_kept hp (by rw [z1]; exact hz) rfl ⟨hp, ⟨hp, Ci.of rfl rfl rfl (b_Mdl_count_0 x m' J P hp _ ⟨hx, fun g => absurd g (by omega), fun g => absurd g (by omega), fun g => absurd g (by omega), fun g => absurd g (by omega), fun g => absurd g (by omega), fun _ => ⟨hp, H'⟩, fun g => absurd g (by omega)⟩)⟩⟩, fun g => absurd g (by omega)⟩)
  unfold Pw Ci at goal ⊢
  rw [e] at goal
  exact goal
end OPA
