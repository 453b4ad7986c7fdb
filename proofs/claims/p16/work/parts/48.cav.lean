section CAV
variable {X : aX} {d : Nat} {P : Mp}
theorem Tc.of {t : Int → Int} {n p : Int} {m0 m : Mi} {J : Mj} {m' : Mi} {J' : Mj} (h : Tc t n p m J m' J') (h0 : ∀ a k, ¬ (a = 2 ∧ (k = 3 ∨ k = 5)) → m a k = m0 a k) : Tc t n p m0 J m' J' := by
  obtain ⟨h1, h2, h3, h4, h5⟩ := h
  refine ⟨h1, h2, h3, fun a k g => ?_, h5⟩
  rw [h4 a k g]
  exact h0 a k (fun e => g ⟨e.1, by rcases e.2 with e | e; exact Or.inl e; exact Or.inr (Or.inr (Or.inl e))⟩)
theorem c_adv_0 {n : Int} {t : Int → Int} {J : Mj} (hp : PP P) (hn : n ≤ 1600) (ht : ∀ x, 0 ≤ t x ∧ t x ≤ 255) {post : Mi → Mj → Mp → Prop} : ∀ (f : Nat) (m : Mi) (q : Int), (n - q).toNat = f → m 2 3 = q → m 2 2 = n → lc m = t → 0 ≤ q ∧ q ≤ n → (∀ m' J', Tc t n (sk t n f q) m J m' J' → post m' J' P) → Rn X (d + 2) 19 0 [some (.ref 2)] [] (SS m J P) (QV post) := by
  intro f
  induction f with
  | zero =>
    intro m q hf ha he hl hq k
    have e1 : mu m 2 5 (m 2 3) 2 3 = q := by rw [mu_ne _ _ (by decide)]; exact ha
    have e2 : mu m 2 5 (m 2 3) 2 2 = n := by rw [mu_ne _ _ (by decide)]; exact he
    refine b_Text_advance_0 m J P hp post ⟨by constructor <;> omega, by constructor <;> omega, fun g => ⟨by rw [e1]; constructor <;> omega, by rw [e2]; constructor <;> omega, fun g2 => absurd g2 (by rw [e1, e2]; omega), fun g2 => k _ _ ?_⟩, fun g => absurd g (by omega)⟩
    show Tc t n q m J _ J
    have es : tK t n q = 0 := by rw [tK, if_pos (by omega)]
    have eb : tB t n q = q := by rw [tB, if_pos (by omega)]
    refine ⟨⟨?_, ?_, ?_⟩, fun g => ?_, fun g => ?_, fun a k h => ?_, fun _ _ _ => rfl⟩
    · rw [mu_ne _ _ (by decide), mu_at]; exact ha
    · rw [mu_ne _ _ (by decide), e1, eb]
    · rw [mu_at, es]
    · exfalso; revert g; rw [mu_at]; decide
    · exfalso; revert g; rw [mu_at]; decide
    · rw [mu_ne _ _ (fun e => h ⟨e.1, Or.inr (Or.inl e.2)⟩), mu_ne _ _ (fun e => h ⟨e.1, Or.inr (Or.inr (Or.inl e.2))⟩)]
  | succ f ih =>
    intro m q hf ha he hl hq k
    have htq := ht q
    have hz : Zr (t q) := by constructor <;> omega
    have e0 : m 3 q.toNat = t q := by rw [← hl, lc, if_neg (by omega)]
    have e1 : mu m 2 5 (m 2 3) 2 3 = q := by rw [mu_ne _ _ (by decide)]; exact ha
    have e2 : mu m 2 5 (m 2 3) 2 2 = n := by rw [mu_ne _ _ (by decide)]; exact he
    have e3 : lc (mu m 2 5 (m 2 3)) = t := by rw [← hl]; exact lc_eq (mu_ne _ _ (by decide)) (fun k => mu_ne _ _ (fun e => by cases e.1))
    have go : t q = 10 ∨ t q = 32 → Rn X (d + 2) 19 0 [some (.ref 2)] [] (SS (mu m 2 3 (m 2 3 + 1)) J P) (QV post) := fun h => by
      refine ih (mu m 2 3 (m 2 3 + 1)) (q + 1) (by omega) (by rw [mu_at, ha]) (by rw [mu_ne _ _ (by decide)]; exact he) (by rw [← hl]; exact lc_eq (mu_ne _ _ (by decide)) (fun k => mu_ne _ _ (fun e => by cases e.1))) (by omega) fun m' J' h2 => k m' J' ?_
      have e4 : sk t n (f + 1) q = sk t n f (q + 1) := by rw [sk, if_pos ⟨by omega, h⟩]
      rw [e4]
      exact h2.of fun a k g => mu_ne _ _ (fun e => g ⟨e.1, Or.inl e.2⟩)
    refine b_Text_advance_0 m J P hp post ⟨by constructor <;> omega, by constructor <;> omega, fun g => absurd g (by omega), fun g => ⟨by omega, by rw [ha, e0]; exact hz, fun g1 => ?_, fun g1 => ⟨by omega, by rw [ha, e0]; exact hz, fun g2 => ⟨by rw [e1]; constructor <;> omega, by rw [e2]; constructor <;> omega, fun g3 => ?_, fun g3 => absurd (by rw [e1, e2]; omega) g3⟩, fun g2 => ?_⟩⟩⟩
    · rw [ha, e0] at g1
      exact go (Or.inr g1)
    · rw [ha, e0] at g1 g2
      refine c_adv_tail (p := q) (n := n) (t := t) hp (by rw [mu_at]; exact ha) e1 e2 e3 ht (by omega) fun m' J' h => k m' J' ?_
      have e4 : sk t n (f + 1) q = q := by
        rw [sk, if_neg]
        rintro ⟨_, h1 | h1⟩
        · exact g2 h1
        · exact g1 h1
      rw [e4]
      exact Tc.of (m := mu m 2 5 (m 2 3)) h fun a k g => mu_ne _ _ (fun e => g ⟨e.1, Or.inr e.2⟩)
    · rw [ha, e0] at g2
      exact go (Or.inl (Classical.not_not.mp g2))
/-- advance() of the class -/
theorem c_advance {m : Mi} {J : Mj} (hp : PP P) (hb : 0 ≤ m 2 3 ∧ m 2 3 ≤ m 2 2) (he : m 2 2 ≤ 1600) (ht : ∀ x, 0 ≤ lc m x ∧ lc m x ≤ 255) {post : Mi → Mj → Mp → Prop} (k : ∀ m' J', Tc (lc m) (m 2 2) (tA (lc m) (m 2 2) (m 2 3)) m J m' J' → post m' J' P) : Cv X (d + 2) 19 [.ref 2] m J P post :=
  Cv.of rfl rfl rfl (c_adv_0 (n := m 2 2) (t := lc m) hp he ht _ m (m 2 3) rfl rfl rfl rfl hb k)
end CAV
