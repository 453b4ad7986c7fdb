/-! the SYMBOLS of a SYSTEM, told once: row 0 holds the place, whether more come, how many, a FAULT and its place; of each row 2 the name, 3 the place, 4 the ARITY -/
section SYM
variable {X : aX} {d : Nat} {P : Mp} {b : Nat} {t : Int → Int} {n : Int} {m : Mi} {J : Mj} {S : Mi}
def sAdd (S : Mi) (w p a q more : Int) : Mi := mu (mu (mu (mu (mu (mu S 2 (S 0 3).toNat w) 3 (S 0 3).toNat p) 4 (S 0 3).toNat a) 0 3 (S 0 3 + 1)) 0 1 more) 0 0 q
def sst (t : Int → Int) (n : Int) (S : Mi) : Mi :=
  if S 0 5 ≠ 0 then S
  else if S 0 1 = 0 then S
  else if tK t n (S 0 0) ≠ 1 then yBad S (ft t n (S 0 0)) (S 0 0)
  else if 16 ≤ S 0 3 then yBad S 3 (S 0 0)
  else if tK t n (nxp t n (S 0 0)) ≠ 3 ∨ 4 < t (nxp t n (S 0 0)) - 48 then yBad S (ft t n (nxp t n (S 0 0))) (nxp t n (S 0 0))
  else if tK t n (nxp t n (nxp t n (S 0 0))) = 6 then sAdd S (yw t n S) (S 0 0) (t (nxp t n (S 0 0)) - 48) (nxp t n (nxp t n (nxp t n (S 0 0)))) 1
  else sAdd S (yw t n S) (S 0 0) (t (nxp t n (S 0 0)) - 48) (nxp t n (nxp t n (S 0 0))) 0
def srn (t : Int → Int) (n : Int) : Nat → Mi → Mi
  | 0, S => S
  | f + 1, S => srn t n f (sst t n S)
def sI (n : Int) (S : Mi) : Prop := (0 ≤ S 0 0 ∧ S 0 0 ≤ n) ∧ (S 0 1 = 0 ∨ S 0 1 = 1) ∧ (0 ≤ S 0 3 ∧ S 0 3 ≤ 16) ∧ (∀ k : Nat, (k : Int) < S 0 3 → (0 ≤ S 2 k ∧ isN (S 2 k).toNat) ∧ (0 ≤ S 3 k ∧ S 3 k ≤ n) ∧ (0 ≤ S 4 k ∧ S 4 k ≤ 4)) ∧ (0 ≤ S 0 5 ∧ S 0 5 ≤ 3 ∧ 0 ≤ S 0 6 ∧ S 0 6 ≤ n)
def sE (S : Mi) : Prop := S 0 5 ≠ 0 ∨ S 0 1 = 0
theorem srn_fix {S : Mi} (h : sst t n S = S) : ∀ f, srn t n f S = S
  | 0 => rfl
  | f + 1 => by rw [srn, h, srn_fix h f]
theorem sst_E (h : sE S) : sst t n S = S := by
  unfold sst
  by_cases h5 : S 0 5 ≠ 0
  · rw [if_pos h5]
  · rw [if_neg h5, if_pos (h.resolve_left h5)]
theorem sBad_E {k p : Int} (hk : k ≠ 0) : sE (yBad S k p) := Or.inl (by
  have : yBad S k p 0 5 = k := by simp [yBad, mu]
  rw [this]; exact hk)
theorem sI_bad {k p : Int} (h : sI n S) (hk : 0 ≤ k ∧ k ≤ 3) (hp : 0 ≤ p ∧ p ≤ n) : sI n (yBad S k p) := by
  obtain ⟨h1, h2, h3, h4, h5⟩ := h
  simp only [sI, yBad, mu]
  simp
  exact ⟨h1, h2, h3, h4, hk.1, hk.2, hp⟩
theorem sI_add {w p a q x : Int} (h : sI n S) (hs : S 0 3 < 16) (hw : 0 ≤ w ∧ isN w.toNat) (hp : 0 ≤ p ∧ p ≤ n) (ha : 0 ≤ a ∧ a ≤ 4) (hq : 0 ≤ q ∧ q ≤ n) (hx : x = 0 ∨ x = 1) : sI n (sAdd S w p a q x) := by
  obtain ⟨h1, h2, h3, h4, h5⟩ := h
  simp only [sI, sAdd, mu]
  simp
  refine ⟨hq, hx, ⟨by omega, by omega⟩, fun k hk => ?_, h5⟩
  by_cases e : k = (S 0 3).toNat
  · simp only [e, if_true]
    exact ⟨hw, hp, ha⟩
  · simp only [e, if_false]
    exact h4 k (by omega)
theorem sst_I (hT : Tx t n) (h : sI n S) : sI n (sst t n S) ∧ (sE S ∨ sE (sst t n S) ∨ S 0 3 < sst t n S 0 3) := by
  have h0 := h.1
  have hft := ft_bd t n (S 0 0)
  have a1 := nxp_le hT h0.2
  have a2 := nxp_le hT a1.2
  have a3 := nxp_le hT a2.2
  have hft2 := ft_bd t n (nxp t n (S 0 0))
  unfold sst
  by_cases g1 : S 0 5 ≠ 0
  · rw [if_pos g1]; exact ⟨h, Or.inl (Or.inl g1)⟩
  rw [if_neg g1]
  by_cases g2 : S 0 1 = 0
  · rw [if_pos g2]; exact ⟨h, Or.inl (Or.inr g2)⟩
  rw [if_neg g2]
  by_cases g3 : tK t n (S 0 0) ≠ 1
  · rw [if_pos g3]; exact ⟨sI_bad h (by omega) h0, Or.inr (Or.inl (sBad_E (by omega)))⟩
  rw [if_neg g3]
  by_cases g4 : 16 ≤ S 0 3
  · rw [if_pos g4]; exact ⟨sI_bad h (by omega) h0, Or.inr (Or.inl (sBad_E (by omega)))⟩
  rw [if_neg g4]
  by_cases g5 : tK t n (nxp t n (S 0 0)) ≠ 3 ∨ 4 < t (nxp t n (S 0 0)) - 48
  · rw [if_pos g5]; exact ⟨sI_bad h (by omega) (by omega), Or.inr (Or.inl (sBad_E (by omega)))⟩
  rw [if_neg g5]
  have hw := yw_is (Y := S) hT (Or.inl (Classical.not_not.mp g3))
  have hd : 0 ≤ t (nxp t n (S 0 0)) - 48 := by
    have e : tK t n (nxp t n (S 0 0)) = 3 := Classical.byContradiction fun h => g5 (Or.inl h)
    have e2 : kd (t (nxp t n (S 0 0))) = 3 := by
      revert e
      unfold tK
      have := kd_bd (t (nxp t n (S 0 0)))
      (repeat' split) <;> omega
    have := (kd_digit _).mp e2
    omega
  by_cases g6 : tK t n (nxp t n (nxp t n (S 0 0))) = 6
  · rw [if_pos g6]
    refine ⟨sI_add h (by omega) hw h0 (by omega) (by omega) (Or.inr rfl), Or.inr (Or.inr ?_)⟩
    simp [sAdd, mu]; omega
  · rw [if_neg g6]
    refine ⟨sI_add h (by omega) hw h0 (by omega) (by omega) (Or.inl rfl), Or.inr (Or.inr ?_)⟩
    simp [sAdd, mu]; omega
theorem srn_I (hT : Tx t n) : ∀ (f : Nat) (S : Mi), sI n S → sI n (srn t n f S)
  | 0, _, h => h
  | f + 1, S, h => srn_I hT f _ (sst_I hT h).1
theorem srn_bad {k p : Int} (hk : k ≠ 0) (f : Nat) : srn t n f (yBad S k p) = yBad S k p := srn_fix (sst_E (sBad_E hk)) f
/-- the book at b holds the SYMBOLS -/
def SB (b : Nat) (S : Mi) (m : Mi) (J : Mj) : Prop := m b 4 = S 0 3 ∧ ∀ k : Nat, (k : Int) < S 0 3 → J (b + 1) k = cN (S 2 k).toNat ∧ m (b + 2) k = S 4 k ∧ m (b + 3) k = S 3 k
/-- what reading SYMBOLS may change in the class -/
def bF (b : Nat) (m : Mi) (J : Mj) (m' : Mi) (J' : Mj) : Prop := (∀ a k, a ≠ 2 → a ≠ 4 → (a < b ∨ b + 3 < a) → m' a k = m a k) ∧ m' 2 1 = m 2 1 ∧ (∀ a k, a ≠ 2 → a ≠ b + 1 → J' a k = J a k) ∧ (∀ k, k ≠ 4 → m' b k = m b k)
theorem bF_trans {m' m'' : Mi} {J' J'' : Mj} (h1 : bF b m J m' J') (h2 : bF b m' J' m'' J'') : bF b m J m'' J'' :=
  ⟨fun a k g g2 g3 => (h2.1 a k g g2 g3).trans (h1.1 a k g g2 g3), h2.2.1.trans h1.2.1, fun a k g g2 => (h2.2.2.1 a k g g2).trans (h1.2.2.1 a k g g2), fun k g => (h2.2.2.2 k g).trans (h1.2.2.2 k g)⟩
theorem bF_adv {m' : Mi} {J' : Mj} (hb : 39 ≤ b) (h : cF m J m' J') : bF b m J m' J' :=
  ⟨fun a k g _ _ => h.1 a k (fun e => g e.1), h.1 _ _ (by decide), fun a k g _ => h.2 a k (fun e => g e.1), fun k _ => h.1 _ _ (by omega)⟩
theorem bF_ref {x y : Int} (hb : 39 ≤ b) : bF b m J (mu (mu m 4 3 x) 4 4 y) J :=
  ⟨fun a k _ g _ => by rw [mu_ne _ _ (by omega), mu_ne _ _ (by omega)], by rw [mu_ne _ _ (by omega), mu_ne _ _ (by omega)], fun _ _ _ _ => rfl, fun k _ => by rw [mu_ne _ _ (by omega), mu_ne _ _ (by omega)]⟩
theorem c_readTold (hp : PP P) (kb : am_kd an_K b = some (.inl 10)) (hb : 39 ≤ b) (hT : Tx t n) (hC : cC t n (S 0 0) m J) (hS : SB b S m J) (hI : sI n S) {post : Int → Mi → Mj → Mp → Prop} (k1 : tK t n (S 0 0) ≠ 1 → post 0 (mu (mu m 4 3 (ft t n (S 0 0))) 4 4 (S 0 0)) J P) (k2 : tK t n (S 0 0) = 1 → 16 ≤ S 0 3 → post 0 (mu (mu m 4 3 3) 4 4 (S 0 0)) J P) (k3 : tK t n (S 0 0) = 1 → S 0 3 < 16 → (tK t n (nxp t n (S 0 0)) ≠ 3 ∨ 4 < t (nxp t n (S 0 0)) - 48) → ∀ m' J', m' 4 3 = ft t n (nxp t n (S 0 0)) → m' 4 4 = nxp t n (S 0 0) → bF b m J m' J' → post 0 m' J' P) (k4 : tK t n (S 0 0) = 1 → S 0 3 < 16 → tK t n (nxp t n (S 0 0)) = 3 → t (nxp t n (S 0 0)) - 48 ≤ 4 → ∀ m' J', cC t n (nxp t n (nxp t n (S 0 0))) m' J' → (∀ x y, SB b (sAdd S (yw t n S) (S 0 0) (t (nxp t n (S 0 0)) - 48) x y) m' J') → bF b m J m' J' → (∀ k, m' 4 k = m 4 k) → post 1 m' J' P) : Ci X (d + 3) 27 [.ref 4, .ref b] m J P post := by
  have hkb := tK_bd t n (S 0 0)
  have a1 := nxp_le hT hI.1.2
  have a2 := nxp_le hT a1.2
  have hkb1 := tK_bd t n (nxp t n (S 0 0))
  have hn := hT.2.2.2
  have hbt := hT.1 (nxp t n (S 0 0))
  have h0 := hI.1
  have e4 : m b 4 = S 0 3 := hS.1
  have h3 := hI.2.2.1
  have est : m 2 5 = S 0 0 := hC.1.1
  refine Ci.of rfl rfl rfl (b_Reader_readTold_0 b kb m J P hp post (c_isLast hp hC zr1 (fun g => ⟨hp, zr1, fun _ => ⟨by rw [e4]; constructor <;> omega, fun g2 => ⟨by omega, by omega, ?_⟩, fun g2 => c_refuse hp ⟨hp, Or.inl rfl, ?_⟩⟩, fun h => absurd (by decide) h⟩) (fun g => ⟨hp, zr0, fun h => absurd rfl h, fun _ => k1 g⟩)))
  · have hJ : J 2 7 = cN (tN t n (S 0 0)) := hC.2.2 (by rw [hC.1.2.2.1]; exact Or.inl g)
    rw [e4] at g2
    rw [e4, est, hJ, mu_ne _ _ (by omega), e4]
    have fr : ∀ a k, (a < b ∨ b + 3 < a) → mu (mu m (b + 3) (S 0 3).toNat (S 0 0)) b 4 (S 0 3 + 1) a k = m a k := fun a k h => by rw [mu_ne _ _ (by omega), mu_ne _ _ (by omega)]
    have q1 : bF b m J (mu (mu m (b + 3) (S 0 3).toNat (S 0 0)) b 4 (S 0 3 + 1)) (mju J (b + 1) (S 0 3).toNat (cN (tN t n (S 0 0)))) := ⟨fun a k _ _ h => fr a k h, fr _ _ (by omega), fun a k _ h => mju_ne _ _ (by omega), fun k h => by rw [mu_ne _ _ (by omega), mu_ne _ _ (by omega)]⟩
    refine c_adv hp hT h0 (cC_fr hC (fun k => fr _ _ (by omega)) (fun k => fr _ _ (by omega)) (fun k => mju_ne _ _ (by omega))) fun m1 J1 c1 c2 => ⟨hp, ?_⟩
    have q2 := bF_trans q1 (bF_adv hb c2)
    refine c_isLast hp c1 (by constructor <;> decide) (fun g3 => ⟨hp, zr1, fun _ => ?_, fun h => absurd (by decide) h⟩) (fun g3 => ⟨hp, zr0, fun h => absurd rfl h, fun _ => k3 g g2 (Or.inl g3) _ _ (by rw [mu_ne _ _ (by decide), mu_at]) (mu_at _ _ _ _) (bF_trans q2 (bF_ref hb))⟩)
    have ed : m1 2 6 = t (nxp t n (S 0 0)) - 48 := c1.2.1 (by rw [c1.1.2.2.1]; exact g3)
    have es1 : m1 2 5 = nxp t n (S 0 0) := c1.1.1
    rw [ed]
    refine ⟨by constructor <;> omega, fun g4 => ⟨by omega, ?_⟩, fun g4 => c_refuse hp ⟨hp, Or.inl rfl, ?_⟩⟩
    · refine c_adv hp hT ⟨by omega, a1.2⟩ (cC_fr c1 (fun k => mu_ne _ _ (by omega)) (fun k => mu_ne _ _ (by omega)) (fun _ => rfl)) fun m2 J2 d1 d2 => ⟨hp, k4 g g2 g3 g4 m2 J2 d1 (fun x y => ?_) ?_ (fun k => ?_)⟩
      · obtain ⟨s1, s2⟩ := hS
        have r3 : sAdd S (yw t n S) (S 0 0) (t (nxp t n (S 0 0)) - 48) x y 0 3 = S 0 3 + 1 := by simp [sAdd, mu]
        refine ⟨?_, fun k hk => ?_⟩
        · rw [r3, d2.1 _ _ (by omega), mu_ne _ _ (by omega), c2.1 _ _ (by omega), mu_at]
        · rw [r3] at hk
          rw [d2.1 _ _ (by omega), d2.1 _ _ (by omega), d2.2 _ _ (by omega), mu_ne (x := b + 3) _ _ (by omega), c2.1 _ _ (by omega), c2.2 _ _ (by omega)]
          by_cases e : k = (S 0 3).toNat
          · have r2 : sAdd S (yw t n S) (S 0 0) (t (nxp t n (S 0 0)) - 48) x y 2 k = yw t n S := by simp [sAdd, mu, e]
            have r3 : sAdd S (yw t n S) (S 0 0) (t (nxp t n (S 0 0)) - 48) x y 3 k = S 0 0 := by simp [sAdd, mu, e]
            have r4 : sAdd S (yw t n S) (S 0 0) (t (nxp t n (S 0 0)) - 48) x y 4 k = t (nxp t n (S 0 0)) - 48 := by simp [sAdd, mu, e]
            rw [r2, r3, r4, e, mju_at, mu_at, mu_ne _ _ (by omega), mu_at]
            exact ⟨rfl, rfl, rfl⟩
          · have r2 : sAdd S (yw t n S) (S 0 0) (t (nxp t n (S 0 0)) - 48) x y 2 k = S 2 k := by simp [sAdd, mu, e]
            have r3 : sAdd S (yw t n S) (S 0 0) (t (nxp t n (S 0 0)) - 48) x y 3 k = S 3 k := by simp [sAdd, mu, e]
            have r4 : sAdd S (yw t n S) (S 0 0) (t (nxp t n (S 0 0)) - 48) x y 4 k = S 4 k := by simp [sAdd, mu, e]
            rw [r2, r3, r4, mju_ne _ _ (by omega), mu_ne _ _ (by omega), c2.1 _ _ (by omega), mu_ne _ _ (by omega), mu_ne _ _ (by omega), mu_ne _ _ (by omega), mu_ne _ _ (by omega)]
            exact s2 k (by omega)
      · refine bF_trans q2 (bF_trans ⟨fun a k _ _ h => mu_ne _ _ (by omega), mu_ne _ _ (by omega), fun _ _ _ _ => rfl, fun k _ => mu_ne _ _ (by omega)⟩ (bF_adv hb d2))
      · rw [d2.1 _ _ (fun e => by cases e.1), mu_ne _ _ (by omega), c2.1 _ _ (fun e => by cases e.1)]
        exact fr _ _ (by omega)
    · have e2 : ft t n (nxp t n (S 0 0)) = 2 := by rw [ft, if_neg (by omega)]
      rw [es1]
      exact k3 g g2 (Or.inr (by omega)) _ _ (by rw [mu_ne _ _ (by decide), mu_at, e2]) (mu_at _ _ _ _) (bF_trans q2 (bF_ref hb))
  · rw [e4] at g2
    rw [est]
    exact k2 g (by omega)
theorem c_readSymbols_13 (hp : PP P) (kb : am_kd an_K b = some (.inl 10)) (hb : 39 ≤ b) (hT : Tx t n) {post : Int → Mi → Mj → Mp → Prop} : ∀ (f : Nat) (S m : Mi) (J : Mj) (x2 : Int), (16 - S 0 3).toNat < f → S 0 5 = 0 → S 0 1 = 1 → x2 = S 0 3 → sI n S → cC t n (S 0 0) m J → SB b S m J → (srn t n f S 0 5 = 0 → tK t n (srn t n f S 0 0) = 7 → ∀ m' J', cC t n (nxp t n (srn t n f S 0 0)) m' J' → SB b (srn t n f S) m' J' → bF b m J m' J' → (∀ k, m' 4 k = m 4 k) → post 1 m' J' P) → (srn t n f S 0 5 = 0 → tK t n (srn t n f S 0 0) ≠ 7 → ∀ m' J', m' 4 3 = ft t n (srn t n f S 0 0) → m' 4 4 = srn t n f S 0 0 → bF b m J m' J' → post 0 m' J' P) → (srn t n f S 0 5 ≠ 0 → ∀ m' J', m' 4 3 = srn t n f S 0 5 → m' 4 4 = srn t n f S 0 6 → bF b m J m' J' → post 0 m' J' P) → Rn X (d + 4) 23 13 [some (.ref 4), some (.ref b), some (.int (iz x2))] [] (SS m J P) (QI post) := by
  intro f
  induction f with
  | zero => intro S m J x2 h; exact absurd h (Nat.not_lt_zero _)
  | succ f ih =>
    intro S m J x2 hlt h5 h1 ex hI hC hS k1 k2 k3
    have hst := sst_I hT hI
    have h3 := hI.2.2.1
    have a1 := nxp_le hT hI.1.2
    have a2 := nxp_le hT a1.2
    have h0 := hI.1
    have hkb2 := tK_bd t n (nxp t n (nxp t n (S 0 0)))
    have hft := ft_bd t n (S 0 0)
    have hft2 := ft_bd t n (nxp t n (S 0 0))
    have bad : ∀ k p, k ≠ 0 → sst t n S = yBad S k p → ∀ m' J', m' 4 3 = k → m' 4 4 = p → bF b m J m' J' → post 0 m' J' P := fun k p hk e => by
      have e2 : srn t n (f + 1) S = yBad S k p := by rw [srn, e, srn_bad hk]
      rw [e2] at k3
      have b1 : yBad S k p 0 5 = k := by simp [yBad, mu]
      have b2 : yBad S k p 0 6 = p := by simp [yBad, mu]
      rw [b1, b2] at k3
      exact k3 hk
    have s0 : sst t n S = if tK t n (S 0 0) ≠ 1 then yBad S (ft t n (S 0 0)) (S 0 0) else if 16 ≤ S 0 3 then yBad S 3 (S 0 0) else if tK t n (nxp t n (S 0 0)) ≠ 3 ∨ 4 < t (nxp t n (S 0 0)) - 48 then yBad S (ft t n (nxp t n (S 0 0))) (nxp t n (S 0 0)) else if tK t n (nxp t n (nxp t n (S 0 0))) = 6 then sAdd S (yw t n S) (S 0 0) (t (nxp t n (S 0 0)) - 48) (nxp t n (nxp t n (nxp t n (S 0 0)))) 1 else sAdd S (yw t n S) (S 0 0) (t (nxp t n (S 0 0)) - 48) (nxp t n (nxp t n (S 0 0))) 0 := by rw [sst, if_neg (fun h => h h5), if_neg (by omega)]
    refine b_Reader_readSymbols_13 b x2 kb m J P hp post ⟨by constructor <;> omega, fun g => absurd g (by omega), fun _ => ?_⟩
    refine c_readTold hp kb hb hT hC hS hI (fun g => ⟨hp, zr0, fun h => absurd rfl h, fun _ => bad (ft t n (S 0 0)) (S 0 0) (by omega) (by rw [s0, if_pos g]) _ _ (by rw [mu_ne _ _ (by decide), mu_at]) (mu_at _ _ _ _) (bF_ref hb)⟩) (fun g g2 => ⟨hp, zr0, fun h => absurd rfl h, fun _ => bad 3 (S 0 0) (by decide) (by rw [s0, if_neg (fun h => h g), if_pos g2]) _ _ (by rw [mu_ne _ _ (by decide), mu_at]) (mu_at _ _ _ _) (bF_ref hb)⟩) (fun g g2 g3 m' J' q1 q2 q3 => ⟨hp, zr0, fun h => absurd rfl h, fun _ => bad (ft t n (nxp t n (S 0 0))) (nxp t n (S 0 0)) (by omega) (by rw [s0, if_neg (fun h => h g), if_neg (by omega), if_pos g3]) m' J' q1 q2 q3⟩) (fun g g2 g3 g4 m1 J1 c1 c2 c3 c4 => ⟨hp, zr1, fun _ => ?_, fun h => absurd (by decide) h⟩)
    have e4 : m1 2 4 = tK t n (nxp t n (nxp t n (S 0 0))) := c1.1.2.2.1
    rw [e4]
    refine ⟨by constructor <;> omega, fun g6 => ?_, fun g6 => ?_⟩
    · refine c_adv hp hT ⟨by omega, a2.2⟩ c1 fun m2 J2 d1 d2 => ⟨hp, ?_⟩
      have es : sst t n S = sAdd S (yw t n S) (S 0 0) (t (nxp t n (S 0 0)) - 48) (nxp t n (nxp t n (nxp t n (S 0 0)))) 1 := by rw [s0, if_neg (fun h => h g), if_neg (by omega), if_neg (by omega), if_pos g6]
      have e2 : srn t n (f + 1) S = srn t n f (sAdd S (yw t n S) (S 0 0) (t (nxp t n (S 0 0)) - 48) (nxp t n (nxp t n (nxp t n (S 0 0)))) 1) := by rw [srn, es]
      rw [e2] at k1 k2 k3
      rw [es] at hst
      have r3 : sAdd S (yw t n S) (S 0 0) (t (nxp t n (S 0 0)) - 48) (nxp t n (nxp t n (nxp t n (S 0 0)))) 1 0 3 = S 0 3 + 1 := by simp [sAdd, mu]
      have r0 : sAdd S (yw t n S) (S 0 0) (t (nxp t n (S 0 0)) - 48) (nxp t n (nxp t n (nxp t n (S 0 0)))) 1 0 0 = nxp t n (nxp t n (nxp t n (S 0 0))) := by simp [sAdd, mu]
      have q := bF_trans c3 (bF_adv hb d2)
      have r4 : ∀ k, m2 4 k = m 4 k := fun k => (d2.1 _ _ (fun e => by cases e.1)).trans (c4 k)
      have c2' : SB b (sAdd S (yw t n S) (S 0 0) (t (nxp t n (S 0 0)) - 48) (nxp t n (nxp t n (nxp t n (S 0 0)))) 1) m2 J2 := by
        obtain ⟨s1, s2⟩ := c2 (nxp t n (nxp t n (nxp t n (S 0 0)))) 1
        exact ⟨by rw [d2.1 _ _ (by omega)]; exact s1, fun k hk => by rw [d2.1 _ _ (by omega), d2.1 _ _ (by omega), d2.2 _ _ (by omega)]; exact s2 k hk⟩
      exact ih _ m2 J2 (x2 + 1) (by omega) (by simp [sAdd, mu]; exact h5) (by simp [sAdd, mu]) (by omega) hst.1 (by rw [r0]; exact d1) c2' (fun h h' m' J' z1 z2 z3 z4 => k1 h h' m' J' z1 z2 (bF_trans q z3) (fun k => (z4 k).trans (r4 k))) (fun h h' m' J' z1 z2 z3 => k2 h h' m' J' z1 z2 (bF_trans q z3)) (fun h m' J' z1 z2 z3 => k3 h m' J' z1 z2 (bF_trans q z3))
    · have es : sst t n S = sAdd S (yw t n S) (S 0 0) (t (nxp t n (S 0 0)) - 48) (nxp t n (nxp t n (S 0 0))) 0 := by rw [s0, if_neg (fun h => h g), if_neg (by omega), if_neg (by omega), if_neg g6]
      have eE : sE (sAdd S (yw t n S) (S 0 0) (t (nxp t n (S 0 0)) - 48) (nxp t n (nxp t n (S 0 0))) 0) := Or.inr (by simp [sAdd, mu])
      have e2 : srn t n (f + 1) S = sAdd S (yw t n S) (S 0 0) (t (nxp t n (S 0 0)) - 48) (nxp t n (nxp t n (S 0 0))) 0 := by rw [srn, es, srn_fix (sst_E eE)]
      rw [e2] at k1 k2
      have r0 : sAdd S (yw t n S) (S 0 0) (t (nxp t n (S 0 0)) - 48) (nxp t n (nxp t n (S 0 0))) 0 0 0 = nxp t n (nxp t n (S 0 0)) := by simp [sAdd, mu]
      have r5 : sAdd S (yw t n S) (S 0 0) (t (nxp t n (S 0 0)) - 48) (nxp t n (nxp t n (S 0 0))) 0 0 5 = 0 := by simp [sAdd, mu]; exact h5
      rw [r0, r5] at k1 k2
      refine c_take (K := 7) hp hT ⟨by omega, a2.2⟩ c1 (by constructor <;> decide) (fun g7 m2 J2 d1 d2 => ⟨hp, Or.inr rfl, k1 rfl g7 m2 J2 d1 ?_ (bF_trans c3 (bF_adv hb d2)) (fun k => (d2.1 _ _ (fun e => by cases e.1)).trans (c4 k))⟩) (fun g7 => ⟨hp, Or.inl rfl, k2 rfl g7 _ _ (by rw [mu_ne _ _ (by decide), mu_at]) (mu_at _ _ _ _) (bF_trans c3 (bF_ref hb))⟩)
      obtain ⟨s1, s2⟩ := c2 (nxp t n (nxp t n (S 0 0))) 0
      exact ⟨by rw [d2.1 _ _ (by omega)]; exact s1, fun k hk => by rw [d2.1 _ _ (by omega), d2.1 _ _ (by omega), d2.2 _ _ (by omega)]; exact s2 k hk⟩
/-- the SYMBOLS from the place p of a text on; behind the ; -/
def s0 (p : Int) : Mi := mu (mu (fun _ _ => 0) 0 0 p) 0 1 1
def sAll (t : Int → Int) (n p : Int) : Mi :=
  if tK t n p ≠ 10 then yBad (s0 p) (ft t n p) p
  else if srn t n 17 (s0 (nxp t n p)) 0 5 ≠ 0 then srn t n 17 (s0 (nxp t n p))
  else if tK t n (srn t n 17 (s0 (nxp t n p)) 0 0) ≠ 7 then yBad (srn t n 17 (s0 (nxp t n p))) (ft t n (srn t n 17 (s0 (nxp t n p)) 0 0)) (srn t n 17 (s0 (nxp t n p)) 0 0)
  else mu (srn t n 17 (s0 (nxp t n p))) 0 0 (nxp t n (srn t n 17 (s0 (nxp t n p)) 0 0))
theorem s0_I {p : Int} (hp : 0 ≤ p ∧ p ≤ n) : sI n (s0 p) := by
  have e0 : s0 p 0 0 = p := by simp [s0, mu]
  have e1 : s0 p 0 1 = 1 := by simp [s0, mu]
  have e3 : s0 p 0 3 = 0 := by simp [s0, mu]
  have e5 : s0 p 0 5 = 0 := by simp [s0, mu]
  have e6 : s0 p 0 6 = 0 := by simp [s0, mu]
  exact ⟨by omega, by omega, by omega, fun k hk => absurd hk (by omega), by omega⟩
theorem sAll_I {p : Int} (hT : Tx t n) (hp : 0 ≤ p ∧ p ≤ n) : sI n (sAll t n p) := by
  have a1 := nxp_le hT hp.2
  have h := srn_I hT 17 _ (s0_I (n := n) (p := nxp t n p) (by omega))
  have hft := ft_bd t n p
  have hft2 := ft_bd t n (srn t n 17 (s0 (nxp t n p)) 0 0)
  unfold sAll
  by_cases g1 : tK t n p ≠ 10
  · rw [if_pos g1]; exact sI_bad (s0_I hp) (by omega) hp
  rw [if_neg g1]
  by_cases g2 : srn t n 17 (s0 (nxp t n p)) 0 5 ≠ 0
  · rw [if_pos g2]; exact h
  rw [if_neg g2]
  by_cases g3 : tK t n (srn t n 17 (s0 (nxp t n p)) 0 0) ≠ 7
  · rw [if_pos g3]; exact sI_bad h (by omega) h.1
  rw [if_neg g3]
  have a2 := nxp_le hT h.1.2
  obtain ⟨i1, i2, i3, i4, i5⟩ := h
  simp only [sI, mu]
  simp
  exact ⟨⟨by omega, a2.2⟩, i2, i3, i4, i5⟩
theorem c_readSymbols {p : Int} (hp : PP P) (kb : am_kd an_K b = some (.inl 10)) (hb : 39 ≤ b) (hT : Tx t n) (hn : 0 ≤ p ∧ p ≤ n) (hC : cC t n p m J) (h4 : m b 4 = 0) {post : Int → Mi → Mj → Mp → Prop} (k1 : sAll t n p 0 5 = 0 → ∀ m' J', cC t n (sAll t n p 0 0) m' J' → SB b (sAll t n p) m' J' → bF b m J m' J' → (∀ k, m' 4 k = m 4 k) → post 1 m' J' P) (k2 : sAll t n p 0 5 ≠ 0 → ∀ m' J', m' 4 3 = sAll t n p 0 5 → m' 4 4 = sAll t n p 0 6 → bF b m J m' J' → post 0 m' J' P) : Ci X (d + 4) 23 [.ref 4, .ref b] m J P post := by
  have hft := ft_bd t n p
  have a1 := nxp_le hT hn.2
  refine Ci.of rfl rfl rfl (b_Reader_readSymbols_0 b kb m J P hp post (c_take (K := 10) hp hT hn hC (by constructor <;> decide) (fun g m1 J1 c1 c2 => ⟨hp, zr1, fun _ => ?_, fun h => absurd (by decide) h⟩) (fun g => ⟨hp, zr0, fun h => absurd rfl h, fun _ => ?_⟩)))
  · have e : sAll t n p = if srn t n 17 (s0 (nxp t n p)) 0 5 ≠ 0 then srn t n 17 (s0 (nxp t n p)) else if tK t n (srn t n 17 (s0 (nxp t n p)) 0 0) ≠ 7 then yBad (srn t n 17 (s0 (nxp t n p))) (ft t n (srn t n 17 (s0 (nxp t n p)) 0 0)) (srn t n 17 (s0 (nxp t n p)) 0 0) else mu (srn t n 17 (s0 (nxp t n p))) 0 0 (nxp t n (srn t n 17 (s0 (nxp t n p)) 0 0)) := by rw [sAll, if_neg (fun h => h g)]
    have z0 : s0 (nxp t n p) 0 0 = nxp t n p := by simp [s0, mu]
    have z3 : s0 (nxp t n p) 0 3 = 0 := by simp [s0, mu]
    have q := bF_adv (b := b) hb c2
    have r4 : ∀ k, m1 4 k = m 4 k := fun k => c2.1 _ _ (fun e => by cases e.1)
    have hS1 : SB b (s0 (nxp t n p)) m1 J1 := ⟨by rw [z3, c2.1 _ _ (by omega)]; exact h4, fun k hk => absurd hk (by omega)⟩
    refine c_readSymbols_13 hp kb hb hT 17 (s0 (nxp t n p)) m1 J1 0 (by omega) (by simp [s0, mu]) (by simp [s0, mu]) z3.symm (s0_I (by omega)) (by rw [z0]; exact c1) hS1 (fun h h' m' J' q1 q2 q3 q4 => ?_) (fun h h' m' J' q1 q2 q3 => ?_) (fun h m' J' q1 q2 q3 => ?_)
    · rw [if_neg (fun g => g h), if_neg (fun g => g h')] at e
      have f5 : sAll t n p 0 5 = 0 := by rw [e]; simp [mu]; exact h
      have f0 : sAll t n p 0 0 = nxp t n (srn t n 17 (s0 (nxp t n p)) 0 0) := by rw [e]; simp [mu]
      refine k1 f5 m' J' (by rw [f0]; exact q1) ?_ (bF_trans q q3) (fun k => (q4 k).trans (r4 k))
      rw [e]
      simp only [SB, mu] at q2 ⊢
      simp
      exact q2
    · have hft2 := ft_bd t n (srn t n 17 (s0 (nxp t n p)) 0 0)
      rw [if_neg (fun g => g h), if_pos h'] at e
      have f5 : sAll t n p 0 5 = ft t n (srn t n 17 (s0 (nxp t n p)) 0 0) := by rw [e]; simp [yBad, mu]
      have f6 : sAll t n p 0 6 = srn t n 17 (s0 (nxp t n p)) 0 0 := by rw [e]; simp [yBad, mu]
      exact k2 (by omega) m' J' (by rw [f5]; exact q1) (by rw [f6]; exact q2) (bF_trans q q3)
    · rw [if_pos h] at e
      rw [← e] at h q1 q2
      exact k2 h m' J' q1 q2 (bF_trans q q3)
  · have e : sAll t n p = yBad (s0 p) (ft t n p) p := by rw [sAll, if_pos g]
    have f5 : sAll t n p 0 5 = ft t n p := by rw [e]; simp [yBad, mu]
    have f6 : sAll t n p 0 6 = p := by rw [e]; simp [yBad, mu]
    exact k2 (by omega) _ _ (by rw [mu_ne _ _ (by decide), mu_at, f5]) (by rw [mu_at, f6]) (bF_ref hb)
end SYM
