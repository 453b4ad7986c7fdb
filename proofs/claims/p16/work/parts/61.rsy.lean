/-! the reference reads the SYMBOLS -/
section RSY
variable {X : aX} {d : Nat} {P : Mp} {t : Int → Int} {n : Int} {m : Mi} {J : Mj} {S : Mi}
def RS (S : Mi) (m : Mi) (J : Mj) : Prop := m 262 14 = S 0 3 ∧ ∀ k : Nat, (k : Int) < S 0 3 → J 264 k = rN (S 2 k).toNat ∧ m 268 k = S 4 k ∧ m 267 k = S 3 k
def gF (m : Mi) (J : Mj) (m' : Mi) (J' : Mj) : Prop := (∀ a k, ¬ (a = 262 ∧ (k = 3 ∨ k = 4 ∨ k = 5 ∨ k = 6 ∨ k = 10 ∨ k = 11 ∨ k = 14)) → a ≠ 267 → a ≠ 268 → m' a k = m a k) ∧ (∀ a k, ¬ (a = 262 ∧ k = 7) → a ≠ 264 → J' a k = J a k)
theorem gF_refl : gF m J m J := ⟨fun _ _ _ _ _ => rfl, fun _ _ _ _ => rfl⟩
theorem gF_trans {m' m'' : Mi} {J' J'' : Mj} (h1 : gF m J m' J') (h2 : gF m' J' m'' J'') : gF m J m'' J'' :=
  ⟨fun a k g g2 g3 => (h2.1 a k g g2 g3).trans (h1.1 a k g g2 g3), fun a k g g2 => (h2.2 a k g g2).trans (h1.2 a k g g2)⟩
theorem gF_nxt {m' : Mi} {J' : Mj} (h : rF m J m' J') : gF m J m' J' :=
  ⟨fun a k g _ _ => h.1 a k (fun e => g ⟨e.1, by omega⟩), fun a k g _ => h.2 a k g⟩
theorem gF_bad {x y : Int} : gF m J (mu (mu m 262 10 x) 262 11 y) J :=
  ⟨fun a k g _ _ => by rw [mu_ne _ _ (by omega), mu_ne _ _ (by omega)], fun _ _ _ _ => rfl⟩
theorem r_sym_35 (hp : PP P) (hT : Tx t n) {post : Mi → Mj → Mp → Prop} : ∀ (f : Nat) (S m : Mi) (J : Mj), (16 - S 0 3).toNat < f → S 0 5 = 0 → S 0 1 = 1 → sI n S → rC t n (S 0 0) m J → RS S m J → m 262 10 = 0 → (srn t n f S 0 5 ≠ 0 → ∀ m' J', m' 262 10 = srn t n f S 0 5 → m' 262 11 = srn t n f S 0 6 → gF m J m' J' → post m' J' P) → (srn t n f S 0 5 = 0 → ∀ m' J', rC t n (srn t n f S 0 0) m' J' → RS (srn t n f S) m' J' → gF m J m' J' → m' 262 10 = 0 → Rn X (d + 5) 141 35 [some (.ref 262), some (.int (iz 0))] [] (SS m' J' P) (QV post)) → Rn X (d + 5) 141 35 [some (.ref 262), some (.int (iz 1))] [] (SS m J P) (QV post) := by
  intro f
  induction f with
  | zero => intro S m J h; exact absurd h (Nat.not_lt_zero _)
  | succ f ih =>
    intro S m J hlt h5 h1 hI hC hS h10 k1 k2
    have hst := sst_I hT hI
    have h3 := hI.2.2.1
    have a1 := nxp_le hT hI.1.2
    have a2 := nxp_le hT a1.2
    have h0 := hI.1
    have hft := ft_bd t n (S 0 0)
    have hft2 := ft_bd t n (nxp t n (S 0 0))
    have hsb := tS_bd (p := S 0 0) hT
    have hsa := tS_all (p := S 0 0) hT
    have hsb1 := tS_bd (p := nxp t n (S 0 0)) hT
    have hsa1 := tS_all (p := nxp t n (S 0 0)) hT
    have es : m 262 3 = tS t n (S 0 0) := hC.1.2.2.1
    have ea : m 262 4 = S 0 0 := hC.1.1
    have e14 : m 262 14 = S 0 3 := hS.1
    have z10 : Zr (m 262 10) := by rw [h10]; exact zr0
    have bad : ∀ k p, k ≠ 0 → sst t n S = yBad S k p → ∀ m' J', m' 262 10 = k → m' 262 11 = p → gF m J m' J' → post m' J' P := fun k p hk e => by
      have e2 : srn t n (f + 1) S = yBad S k p := by rw [srn, e, srn_bad hk]
      rw [e2] at k1
      have b1 : yBad S k p 0 5 = k := by simp [yBad, mu]
      have b2 : yBad S k p 0 6 = p := by simp [yBad, mu]
      rw [b1, b2] at k1
      exact k1 hk
    have s0 : sst t n S = if tK t n (S 0 0) ≠ 1 then yBad S (ft t n (S 0 0)) (S 0 0) else if 16 ≤ S 0 3 then yBad S 3 (S 0 0) else if tK t n (nxp t n (S 0 0)) ≠ 3 ∨ 4 < t (nxp t n (S 0 0)) - 48 then yBad S (ft t n (nxp t n (S 0 0))) (nxp t n (S 0 0)) else if tK t n (nxp t n (nxp t n (S 0 0))) = 6 then sAdd S (yw t n S) (S 0 0) (t (nxp t n (S 0 0)) - 48) (nxp t n (nxp t n (nxp t n (S 0 0)))) 1 else sAdd S (yw t n S) (S 0 0) (t (nxp t n (S 0 0)) - 48) (nxp t n (nxp t n (S 0 0))) 0 := by rw [sst, if_neg (fun h => h h5), if_neg (by omega)]
    refine b_Mdl_readSystem_35 1 m J P hp post ⟨zr1, fun g => absurd g (by decide), fun _ => ⟨z10, fun g => absurd h10 g, fun _ => ⟨by rw [es]; constructor <;> omega, fun g1 => ⟨by rw [e14]; constructor <;> omega, fun g2 => ⟨z10, fun _ => ⟨by omega, by omega, ?_⟩, fun g => absurd (by omega) g⟩, fun g2 => r_fail hp z10 ⟨hp, ?_⟩⟩, fun g1 => r_wrongT hp hT hC z10 ⟨hp, ?_⟩⟩⟩⟩
    · rw [es, hsa.2.1] at g1
      rw [e14] at g2
      rw [e14, ea]
      have hname : J 262 7 = rN (tN t n (S 0 0)) := hC.2.2.2.2.1 (Or.inl (by rw [es]; exact hsa.2.1.mpr g1))
      rw [hname]
      have q1 : gF m J (mu m 267 (S 0 3).toNat (S 0 0)) (mju J 264 (S 0 3).toNat (rN (tN t n (S 0 0)))) := ⟨fun a k _ g _ => mu_ne _ _ (by omega), fun a k _ g => mju_ne _ _ (by omega)⟩
      refine r_nxt hp hT h0 (rC_fr hC (fun k _ => mu_ne _ _ (by omega)) (fun k => mu_ne _ _ (by omega)) (fun k => mju_ne _ _ (by omega))) fun m1 J1 c1 c2 => ⟨hp, ?_⟩
      have es1 : m1 262 3 = tS t n (nxp t n (S 0 0)) := c1.1.2.2.1
      have q2 := gF_trans q1 (gF_nxt c2)
      have f10 : m1 262 10 = 0 := by rw [c2.1 _ _ (by decide), mu_ne _ _ (by omega)]; exact h10
      have f14 : m1 262 14 = S 0 3 := by rw [c2.1 _ _ (by decide), mu_ne _ _ (by omega)]; exact e14
      have w133 : (tK t n (nxp t n (S 0 0)) ≠ 3 ∨ 4 < t (nxp t n (S 0 0)) - 48) → Rn X (d + 5) 141 133 [some (.ref 262), some (.int (iz 1))] [] (SS m1 J1 P) (QV post) := fun h => by
        refine b_Mdl_readSystem_133 1 m1 J1 P hp post (r_wrongT hp hT c1 (by rw [f10]; exact zr0) ⟨hp, ?_⟩)
        rw [rf_0 f10]
        exact bad (ft t n (nxp t n (S 0 0))) (nxp t n (S 0 0)) (by omega) (by rw [s0, if_neg (fun h => h g1), if_neg (by omega), if_pos h]) _ _ (by rw [mu_ne _ _ (by decide), mu_at]) (mu_at _ _ _ _) (gF_trans q2 gF_bad)
      refine ⟨by rw [es1]; constructor <;> omega, fun g3 => w133 (Or.inl (by rw [es1, hsa1.2.2.2.1] at g3; exact g3)), fun g3 => ?_⟩
      rw [es1, hsa1.2.2.2.1] at g3
      have g3 := Classical.not_not.mp g3
      have e6 : m1 262 6 = t (nxp t n (S 0 0)) - 48 := c1.2.1 (by rw [es1]; exact hsa1.2.2.2.1.mpr g3)
      have hbt := hT.1 (nxp t n (S 0 0))
      rw [e6]
      refine ⟨by constructor <;> omega, fun g4 => ⟨by omega, ?_⟩, fun g4 => w133 (Or.inr (by omega))⟩
      rw [f14, mu_ne (x := 262) _ _ (by omega), f14]
      refine r_nxt hp hT ⟨by omega, a1.2⟩ (rC_fr c1 (fun k _ => by rw [mu_ne _ _ (by omega), mu_ne _ _ (by omega)]) (fun k => by rw [mu_ne _ _ (by omega), mu_ne _ _ (by omega)]) (fun k => rfl)) fun m2 J2 d1 d2 => ⟨hp, ?_⟩
      have q3 : gF m J m2 J2 := gF_trans q2 (gF_trans ⟨fun a k g g2 g3 => by rw [mu_ne _ _ (by omega), mu_ne _ _ (by omega)], fun _ _ _ _ => rfl⟩ (gF_nxt d2))
      have f10' : m2 262 10 = 0 := by rw [d2.1 _ _ (by decide), mu_ne _ _ (by omega), mu_ne _ _ (by omega)]; exact f10
      have hR : ∀ x y, RS (sAdd S (yw t n S) (S 0 0) (t (nxp t n (S 0 0)) - 48) x y) m2 J2 := fun x y => by
        obtain ⟨s1, s2⟩ := hS
        have r3 : sAdd S (yw t n S) (S 0 0) (t (nxp t n (S 0 0)) - 48) x y 0 3 = S 0 3 + 1 := by simp [sAdd, mu]
        refine ⟨?_, fun k hk => ?_⟩
        · rw [r3, d2.1 _ _ (by decide), mu_at]
        · rw [r3] at hk
          rw [d2.1 _ _ (fun e => by cases e.1), d2.1 _ _ (fun e => by cases e.1), d2.2 _ _ (fun e => by cases e.1), c2.2 _ _ (fun e => by cases e.1), mu_ne (x := 267) _ _ (by omega), mu_ne (x := 267) _ _ (by omega), mu_ne (a := 262) (x := 268) _ _ (by omega), c2.1 267 _ (fun e => by cases e.1)]
          by_cases e : k = (S 0 3).toNat
          · have r2 : sAdd S (yw t n S) (S 0 0) (t (nxp t n (S 0 0)) - 48) x y 2 k = yw t n S := by simp [sAdd, mu, e]
            have r3 : sAdd S (yw t n S) (S 0 0) (t (nxp t n (S 0 0)) - 48) x y 3 k = S 0 0 := by simp [sAdd, mu, e]
            have r4 : sAdd S (yw t n S) (S 0 0) (t (nxp t n (S 0 0)) - 48) x y 4 k = t (nxp t n (S 0 0)) - 48 := by simp [sAdd, mu, e]
            rw [r2, r3, r4, e, mju_at, mu_at, mu_at]
            exact ⟨rfl, rfl, rfl⟩
          · have r2 : sAdd S (yw t n S) (S 0 0) (t (nxp t n (S 0 0)) - 48) x y 2 k = S 2 k := by simp [sAdd, mu, e]
            have r3 : sAdd S (yw t n S) (S 0 0) (t (nxp t n (S 0 0)) - 48) x y 3 k = S 3 k := by simp [sAdd, mu, e]
            have r4 : sAdd S (yw t n S) (S 0 0) (t (nxp t n (S 0 0)) - 48) x y 4 k = S 4 k := by simp [sAdd, mu, e]
            rw [r2, r3, r4, mju_ne _ _ (by omega), mu_ne _ _ (by omega), mu_ne _ _ (by omega), c2.1 _ _ (fun e => by cases e.1), mu_ne _ _ (by omega)]
            exact s2 k (by omega)
      refine r_isK (K := 6) hp hT d1 (by decide) ?_
      by_cases g6 : tK t n (nxp t n (nxp t n (S 0 0))) = 6
      · rw [if_pos g6]
        refine ⟨hp, zr1, fun h => absurd h (by decide), fun _ => r_nxt hp hT ⟨by omega, a2.2⟩ d1 fun m3 J3 e1 e2 => ⟨hp, ?_⟩⟩
        have esq : sst t n S = sAdd S (yw t n S) (S 0 0) (t (nxp t n (S 0 0)) - 48) (nxp t n (nxp t n (nxp t n (S 0 0)))) 1 := by rw [s0, if_neg (fun h => h g1), if_neg (by omega), if_neg (by omega), if_pos g6]
        have eq2 : srn t n (f + 1) S = srn t n f (sAdd S (yw t n S) (S 0 0) (t (nxp t n (S 0 0)) - 48) (nxp t n (nxp t n (nxp t n (S 0 0)))) 1) := by rw [srn, esq]
        rw [eq2] at k1 k2
        rw [esq] at hst
        have r3 : sAdd S (yw t n S) (S 0 0) (t (nxp t n (S 0 0)) - 48) (nxp t n (nxp t n (nxp t n (S 0 0)))) 1 0 3 = S 0 3 + 1 := by simp [sAdd, mu]
        have r0 : sAdd S (yw t n S) (S 0 0) (t (nxp t n (S 0 0)) - 48) (nxp t n (nxp t n (nxp t n (S 0 0)))) 1 0 0 = nxp t n (nxp t n (nxp t n (S 0 0))) := by simp [sAdd, mu]
        have q := gF_trans q3 (gF_nxt e2)
        have hR' : RS (sAdd S (yw t n S) (S 0 0) (t (nxp t n (S 0 0)) - 48) (nxp t n (nxp t n (nxp t n (S 0 0)))) 1) m3 J3 := by
          obtain ⟨s1, s2⟩ := hR (nxp t n (nxp t n (nxp t n (S 0 0)))) 1
          exact ⟨by rw [e2.1 _ _ (by decide)]; exact s1, fun k hk => by rw [e2.1 _ _ (fun e => by cases e.1), e2.1 _ _ (fun e => by cases e.1), e2.2 _ _ (fun e => by cases e.1)]; exact s2 k hk⟩
        exact ih _ m3 J3 (by omega) (by simp [sAdd, mu]; exact h5) (by simp [sAdd, mu]) hst.1 (by rw [r0]; exact e1) hR' ((e2.1 _ _ (by decide)).trans f10') (fun h m' J' z1 z2 z3 => k1 h m' J' z1 z2 (gF_trans q z3)) (fun h m' J' z1 z2 z3 z4 => k2 h m' J' z1 z2 (gF_trans q z3) z4)
      · rw [if_neg g6]
        refine ⟨hp, zr0, fun _ => ?_, fun h => absurd rfl h⟩
        have esq : sst t n S = sAdd S (yw t n S) (S 0 0) (t (nxp t n (S 0 0)) - 48) (nxp t n (nxp t n (S 0 0))) 0 := by rw [s0, if_neg (fun h => h g1), if_neg (by omega), if_neg (by omega), if_neg g6]
        have eE : sE (sAdd S (yw t n S) (S 0 0) (t (nxp t n (S 0 0)) - 48) (nxp t n (nxp t n (S 0 0))) 0) := Or.inr (by simp [sAdd, mu])
        have eq2 : srn t n (f + 1) S = sAdd S (yw t n S) (S 0 0) (t (nxp t n (S 0 0)) - 48) (nxp t n (nxp t n (S 0 0))) 0 := by rw [srn, esq, srn_fix (sst_E eE)]
        rw [eq2] at k2
        have r0 : sAdd S (yw t n S) (S 0 0) (t (nxp t n (S 0 0)) - 48) (nxp t n (nxp t n (S 0 0))) 0 0 0 = nxp t n (nxp t n (S 0 0)) := by simp [sAdd, mu]
        exact k2 (by simp [sAdd, mu]; exact h5) m2 J2 (by rw [r0]; exact d1) (hR _ _) q3 f10'
    · rw [es, hsa.2.1] at g1
      rw [e14] at g2
      rw [rf_0 h10, ea]
      have q10 : mu (mu m 262 10 3) 262 11 (S 0 0) 262 10 = 3 := by rw [mu_ne _ _ (by decide), mu_at]
      exact ⟨by rw [q10]; constructor <;> decide, fun g => absurd g (by rw [q10]; decide), fun _ => bad 3 (S 0 0) (by decide) (by rw [s0, if_neg (fun h => h g1), if_pos (by omega)]) _ _ q10 (mu_at _ _ _ _) gF_bad⟩
    · rw [es, hsa.2.1] at g1
      rw [rf_0 h10]
      have q10 : mu (mu m 262 10 (ft t n (S 0 0))) 262 11 (S 0 0) 262 10 = ft t n (S 0 0) := by rw [mu_ne _ _ (by decide), mu_at]
      exact ⟨by rw [q10]; constructor <;> omega, fun g => absurd g (by rw [q10]; omega), fun _ => bad (ft t n (S 0 0)) (S 0 0) (by omega) (by rw [s0, if_pos g1]) _ _ q10 (mu_at _ _ _ _) gF_bad⟩
/-- up to the rules -/
theorem r_sym {p : Int} (hp : PP P) (hT : Tx t n) (hn : 0 ≤ p ∧ p ≤ n) (hC : rC t n p m J) (h10 : m 262 10 = 0) {post : Mi → Mj → Mp → Prop} (k1 : sAll t n p 0 5 ≠ 0 → ∀ m' J', m' 262 10 = sAll t n p 0 5 → m' 262 11 = sAll t n p 0 6 → (∀ a k, ¬ (a = 262 ∧ (k = 3 ∨ k = 4 ∨ k = 5 ∨ k = 6 ∨ k = 10 ∨ k = 11 ∨ k = 14 ∨ k = 15 ∨ k = 16)) → a ≠ 267 → a ≠ 268 → m' a k = m a k) → (∀ a k, ¬ (a = 262 ∧ k = 7) → a ≠ 264 → J' a k = J a k) → post m' J' P) (k2 : sAll t n p 0 5 = 0 → ∀ m' J', rC t n (sAll t n p 0 0) m' J' → RS (sAll t n p) m' J' → m' 262 10 = 0 → m' 262 15 = 0 → m' 262 16 = 0 → (∀ a k, ¬ (a = 262 ∧ (k = 3 ∨ k = 4 ∨ k = 5 ∨ k = 6 ∨ k = 10 ∨ k = 11 ∨ k = 14 ∨ k = 15 ∨ k = 16)) → a ≠ 267 → a ≠ 268 → m' a k = m a k) → (∀ a k, ¬ (a = 262 ∧ k = 7) → a ≠ 264 → J' a k = J a k) → Rn X (d + 5) 141 189 [some (.ref 262), some (.int (iz 0))] [] (SS m' J' P) (QV post)) : Cv X (d + 5) 141 [.ref 262] m J P post := by
  have hft := ft_bd t n p
  have a1 := nxp_le hT hn.2
  have hsb := tS_bd (p := p) hT
  have hsa := tS_all (p := p) hT
  have es : m 262 3 = tS t n p := hC.1.2.2.1
  have fr : ∀ a k, ¬ (a = 262 ∧ (k = 14 ∨ k = 15 ∨ k = 16)) → mu (mu (mu m 262 14 0) 262 15 0) 262 16 0 a k = m a k := fun a k h => by rw [mu_ne _ _ (by omega), mu_ne _ _ (by omega), mu_ne _ _ (by omega)]
  have hC1 : rC t n p (mu (mu (mu m 262 14 0) 262 15 0) 262 16 0) J := rC_fr hC (fun k hk => fr _ _ (by omega)) (fun k => fr _ _ (by omega)) (fun _ => rfl)
  have h101 : mu (mu (mu m 262 14 0) 262 15 0) 262 16 0 262 10 = 0 := (fr _ _ (by omega)).trans h10
  refine Cv.of rfl rfl rfl (b_Mdl_readSystem_0 m J P hp post ⟨by rw [fr _ _ (by omega), es]; constructor <;> omega, fun g => ?_, fun g => r_wrongT hp hT hC1 (by rw [h101]; exact zr0) ⟨hp, ?_⟩⟩)
  · rw [fr _ _ (by omega), es, hsa.2.2.2.2.1] at g
    refine r_nxt hp hT hn hC1 fun m1 J1 c1 c2 => ⟨hp, ?_⟩
    have e : sAll t n p = if srn t n 17 (s0 (nxp t n p)) 0 5 ≠ 0 then srn t n 17 (s0 (nxp t n p)) else if tK t n (srn t n 17 (s0 (nxp t n p)) 0 0) ≠ 7 then yBad (srn t n 17 (s0 (nxp t n p))) (ft t n (srn t n 17 (s0 (nxp t n p)) 0 0)) (srn t n 17 (s0 (nxp t n p)) 0 0) else mu (srn t n 17 (s0 (nxp t n p))) 0 0 (nxp t n (srn t n 17 (s0 (nxp t n p)) 0 0)) := by rw [sAll, if_neg (fun h => h g)]
    have z0 : s0 (nxp t n p) 0 0 = nxp t n p := by simp [s0, mu]
    have z3 : s0 (nxp t n p) 0 3 = 0 := by simp [s0, mu]
    have hSI := srn_I hT 17 _ (s0_I (n := n) (p := nxp t n p) (by omega))
    have hft2 := ft_bd t n (srn t n 17 (s0 (nxp t n p)) 0 0)
    have hS1 : RS (s0 (nxp t n p)) m1 J1 := ⟨by rw [z3, c2.1 _ _ (by decide), mu_ne _ _ (by decide), mu_ne _ _ (by decide), mu_at], fun k hk => absurd hk (by omega)⟩
    have fq : ∀ {m' J'}, gF m1 J1 m' J' → (∀ a k, ¬ (a = 262 ∧ (k = 3 ∨ k = 4 ∨ k = 5 ∨ k = 6 ∨ k = 10 ∨ k = 11 ∨ k = 14 ∨ k = 15 ∨ k = 16)) → a ≠ 267 → a ≠ 268 → m' a k = m a k) ∧ (∀ a k, ¬ (a = 262 ∧ k = 7) → a ≠ 264 → J' a k = J a k) := fun q => ⟨fun a k h h2 h3 => by rw [q.1 a k (fun e => h ⟨e.1, by omega⟩) h2 h3, c2.1 a k (fun e => h ⟨e.1, by omega⟩), fr a k (fun e => h ⟨e.1, by omega⟩)], fun a k h h2 => by rw [q.2 a k h h2, c2.2 a k h]⟩
    have w59 : ∀ m' J', srn t n 17 (s0 (nxp t n p)) 0 5 = 0 → rC t n (srn t n 17 (s0 (nxp t n p)) 0 0) m' J' → RS (srn t n 17 (s0 (nxp t n p))) m' J' → gF m1 J1 m' J' → m' 262 10 = 0 → Rn X (d + 5) 141 35 [some (.ref 262), some (.int (iz 0))] [] (SS m' J' P) (QV post) := fun m' J' h q1 q2 q3 q4 => by
      rw [if_neg (fun g => g h)] at e
      refine b_Mdl_readSystem_35 0 m' J' P hp post ⟨zr0, fun _ => r_wantsK (K := 7) hp hT (by decide) hSI.1 q1 q4 (fun g7 m2 J2 d1 d2 => ⟨hp, ?_⟩) (fun g7 => ⟨hp, ?_⟩), fun h => absurd rfl h⟩
      · rw [if_neg (fun h => h g7)] at e
        have f5 : sAll t n p 0 5 = 0 := by rw [e]; simp [mu]; exact h
        have f0 : sAll t n p 0 0 = nxp t n (srn t n 17 (s0 (nxp t n p)) 0 0) := by rw [e]; simp [mu]
        have q5 := gF_trans q3 (gF_nxt d2)
        refine k2 f5 m2 J2 (by rw [f0]; exact d1) ?_ ((d2.1 _ _ (by decide)).trans q4) ?_ ?_ (fq q5).1 (fq q5).2
        · have q2' : RS (srn t n 17 (s0 (nxp t n p))) m2 J2 := ⟨by rw [d2.1 _ _ (by decide)]; exact q2.1, fun k hk => by rw [d2.1 _ _ (fun e => by cases e.1), d2.1 _ _ (fun e => by cases e.1), d2.2 _ _ (fun e => by cases e.1)]; exact q2.2 k hk⟩
          rw [e]
          simp only [RS, mu] at q2' ⊢
          simp
          exact q2'
        · rw [q5.1 _ _ (by decide) (by decide) (by decide), c2.1 _ _ (by decide), mu_ne _ _ (by decide), mu_at]
        · rw [q5.1 _ _ (by decide) (by decide) (by decide), c2.1 _ _ (by decide), mu_at]
      · rw [if_pos g7] at e
        have f5 : sAll t n p 0 5 = ft t n (srn t n 17 (s0 (nxp t n p)) 0 0) := by rw [e]; simp [yBad, mu]
        have f6 : sAll t n p 0 6 = srn t n 17 (s0 (nxp t n p)) 0 0 := by rw [e]; simp [yBad, mu]
        have q10 : mu (mu m' 262 10 (ft t n (srn t n 17 (s0 (nxp t n p)) 0 0))) 262 11 (srn t n 17 (s0 (nxp t n p)) 0 0) 262 10 = ft t n (srn t n 17 (s0 (nxp t n p)) 0 0) := by rw [mu_ne _ _ (by decide), mu_at]
        have q5 := gF_trans q3 (gF_bad (x := ft t n (srn t n 17 (s0 (nxp t n p)) 0 0)) (y := srn t n 17 (s0 (nxp t n p)) 0 0))
        exact b_Mdl_readSystem_189 0 _ J' P hp post ⟨by rw [q10]; constructor <;> omega, fun _ => k1 (by omega) _ _ (by rw [q10, f5]) (by rw [mu_at, f6]) (fq q5).1 (fq q5).2, fun g => absurd (by rw [q10]; omega) g⟩
    refine r_sym_35 hp hT 17 (s0 (nxp t n p)) m1 J1 (by omega) (by simp [s0, mu]) (by simp [s0, mu]) (s0_I (by omega)) (by rw [z0]; exact c1) hS1 ((c2.1 _ _ (by decide)).trans h101) (fun h m' J' q1 q2 q3 => ?_) (fun h m' J' q1 q2 q3 q4 => w59 m' J' h q1 q2 q3 q4)
    rw [if_pos h] at e
    rw [← e] at h q1 q2
    exact k1 h m' J' q1 q2 (fq q3).1 (fq q3).2
  · rw [fr _ _ (by omega), es, hsa.2.2.2.2.1] at g
    have e : sAll t n p = yBad (s0 p) (ft t n p) p := by rw [sAll, if_pos g]
    have f5 : sAll t n p 0 5 = ft t n p := by rw [e]; simp [yBad, mu]
    have f6 : sAll t n p 0 6 = p := by rw [e]; simp [yBad, mu]
    rw [rf_0 h101]
    refine k1 (by omega) _ _ (by rw [mu_ne _ _ (by decide), mu_at, f5]) (by rw [mu_at, f6]) (fun a k h h2 h3 => ?_) (fun _ _ _ _ => rfl)
    rw [mu_ne _ _ (by omega), mu_ne _ _ (by omega)]
    exact fr a k (fun e => h ⟨e.1, by omega⟩)
end RSY
