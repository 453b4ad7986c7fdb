section RN3
variable {X : aX} {d : Nat} {P : Mp}
/-- what next() leaves, behind the blanks -/
def Tl (t : Int → Int) (n p : Int) (m : Mi) (J : Mj) (m' : Mi) (J' : Mj) : Prop := (m' 262 4 = p ∧ m' 262 5 = tB t n p ∧ m' 262 3 = tS t n p) ∧ (m' 262 3 = 3 → m' 262 6 = t p - 48) ∧ (m' 262 3 = 4 → m' 262 6 = if t p = 45 then 256 else t p) ∧ (-2147483648 ≤ m 262 6 ∧ m 262 6 ≤ 2147483647 → -2147483648 ≤ m' 262 6 ∧ m' 262 6 ≤ 2147483647) ∧ (m' 262 3 = 1 ∨ m' 262 3 = 2 → J' 262 7 = nmR t p (m' 262 5 - p).toNat) ∧ (∀ a k, ¬ (a = 262 ∧ (k = 3 ∨ k = 4 ∨ k = 5 ∨ k = 6)) → m' a k = m a k) ∧ (∀ a k, ¬ (a = 262 ∧ k = 7) → J' a k = J a k)
theorem Tl.of {t : Int → Int} {n p : Int} {m0 m : Mi} {J : Mj} {m' : Mi} {J' : Mj} (h : Tl t n p m J m' J') (h0 : ∀ a k, ¬ (a = 262 ∧ (k = 4 ∨ k = 5)) → m a k = m0 a k) : Tl t n p m0 J m' J' := by
  obtain ⟨h1, h2, h3, h4, h5, h6, h7⟩ := h
  refine ⟨h1, h2, h3, ?_, h5, fun a k g => ?_, h7⟩
  · rw [h0 _ _ (by decide)] at h4; exact h4
  · rw [h6 a k g]
    exact h0 a k (fun e => g ⟨e.1, by rcases e.2 with e | e; exact Or.inr (Or.inl e); exact Or.inr (Or.inr (Or.inl e))⟩)
theorem r_next_8 {n : Int} {t : Int → Int} {J : Mj} (hp : PP P) (hn : n ≤ 1600) (hw : wds J) {post : Mi → Mj → Mp → Prop} : ∀ (f : Nat) (m : Mi) (q : Int), (n - q).toNat = f → m 262 4 = q → m 262 2 = n → lk m = t → 0 ≤ q ∧ q ≤ n → (∀ m' J', Tl t n (sk t n f q) m J m' J' → post m' J' P) → Rn X (d + 2) 138 8 [some (.ref 262), none] [] (SS m J P) (QV post) := by
  intro f
  induction f with
  | zero =>
    intro m q hf ha he hl hq k
    have ht0 : t q = 0 := by rw [← hl, lk, he, if_pos (by omega)]
    have e1 : mu m 262 5 (m 262 4) 262 4 = q := by rw [mu_ne _ _ (by decide)]; exact ha
    have e2 : mu m 262 5 (m 262 4) 262 2 = n := by rw [mu_ne _ _ (by decide)]; exact he
    refine b_Mdl_next_8 m J P hp post ⟨by constructor <;> omega, by constructor <;> omega, fun g => ⟨by constructor <;> omega, by constructor <;> omega, fun g2 => absurd g2 (by omega), fun g2 => k _ _ ?_⟩, fun g => absurd g (by omega)⟩
    show Tl t n q m J _ J
    have es : tS t n q = 0 := by rw [tS, if_pos (by omega)]
    have eb : tB t n q = q := by rw [tB, if_pos (by omega)]
    refine ⟨⟨?_, ?_, ?_⟩, fun g => ?_, fun g => ?_, fun g => ?_, fun g => ?_, fun a k h => ?_, fun _ _ _ => rfl⟩
    · rw [mu_ne _ _ (by decide)]; exact e1
    · rw [mu_ne _ _ (by decide), mu_at, eb]; exact ha
    · rw [mu_at, es]
    · exfalso; revert g; rw [mu_at]; decide
    · exfalso; revert g; rw [mu_at]; decide
    · rw [mu_ne _ _ (by decide), mu_ne _ _ (by decide)]; exact g
    · exfalso; revert g; rw [mu_at]; decide
    · rw [mu_ne _ _ (fun e => h ⟨e.1, Or.inl e.2⟩), mu_ne _ _ (fun e => h ⟨e.1, Or.inr (Or.inr (Or.inl e.2))⟩)]
  | succ f ih =>
    intro m q hf ha he hl hq k
    have hlk := lk_bd m q
    have hz : Zr (lk m q) := by constructor <;> omega
    have e1 : mu m 262 5 (m 262 4) 262 4 = q := by rw [mu_ne _ _ (by decide)]; exact ha
    have e2 : mu m 262 5 (m 262 4) 262 2 = n := by rw [mu_ne _ _ (by decide)]; exact he
    have e3 : lk (mu m 262 5 (m 262 4)) = t := by rw [← hl]; exact lk_eq (mu_ne _ _ (by decide)) (fun k => mu_ne _ _ (fun e => by cases e.1))
    have go : t q = 10 ∨ t q = 32 → Rn X (d + 2) 138 8 [some (.ref 262), none] [] (SS (mu m 262 4 (m 262 4 + 1)) J P) (QV post) := fun h => by
      refine ih (mu m 262 4 (m 262 4 + 1)) (q + 1) (by omega) (by rw [mu_at, ha]) (by rw [mu_ne _ _ (by decide)]; exact he) (by rw [← hl]; exact lk_eq (mu_ne _ _ (by decide)) (fun k => mu_ne _ _ (fun e => by cases e.1))) (by omega) fun m' J' h2 => k m' J' ?_
      have e4 : sk t n (f + 1) q = sk t n f (q + 1) := by rw [sk, if_pos ⟨by omega, h⟩]
      rw [e4]
      exact h2.of fun a k g => mu_ne _ _ (fun e => g ⟨e.1, Or.inl e.2⟩)
    refine b_Mdl_next_8 m J P hp post ⟨by constructor <;> omega, by constructor <;> omega, fun g => absurd g (by omega), fun g => ?_⟩
    rw [ha]
    refine r_look hp (by omega) (by omega) ⟨hp, hz, fun g1 => ?_, fun g1 => ?_⟩
    · rw [hl] at g1
      exact go (Or.inl g1)
    · rw [ha]
      refine r_look hp (by omega) (by omega) ⟨hp, hz, fun g2 => ⟨by rw [e1]; constructor <;> omega, by rw [e2]; constructor <;> omega, fun g3 => ?_, fun g3 => ?_⟩, fun g2 => ?_⟩
      · refine r_next_tail (p := q) (n := n) (t := t) hp e1 (by rw [mu_at]; exact ha) e2 e3 (by omega) hw fun m' J' h => k m' J' ?_
        have e4 : sk t n (f + 1) q = q := by
          rw [sk, if_neg]
          rintro ⟨_, h1 | h1⟩
          · rw [hl] at g1; exact g1 h1
          · rw [hl] at g2; exact g2 h1
        rw [e4]
        exact Tl.of (m := mu m 262 5 (m 262 4)) h fun a k g => mu_ne _ _ (fun e => g ⟨e.1, Or.inr e.2⟩)
      · exfalso
        rw [e1, e2] at g3
        omega
      · rw [hl] at g2
        exact go (Or.inr (Classical.not_not.mp g2))
/-- next() of the reference -/
theorem r_next {m : Mi} {J : Mj} (hp : PP P) (hb : 0 ≤ m 262 5 ∧ m 262 5 ≤ m 262 2) (he : m 262 2 ≤ 1600) (hw : wds J) {post : Mi → Mj → Mp → Prop} (k : ∀ m' J', Tl (lk m) (m 262 2) (tA (lk m) (m 262 2) (m 262 5)) m J m' J' → post m' J' P) : Cv X (d + 2) 138 [.ref 262] m J P post := by
  refine Cv.of rfl rfl rfl (b_Mdl_next_0 m J P hp post ?_)
  refine r_next_8 (n := m 262 2) (t := lk m) hp he hw _ (mu m 262 4 (m 262 5)) (m 262 5) rfl (mu_at _ _ _ _) (mu_ne _ _ (by decide)) (lk_eq (mu_ne _ _ (by decide)) (fun k => mu_ne _ _ (fun e => by cases e.1))) hb fun m' J' h => k m' J' ?_
  exact h.of fun a k g => mu_ne _ _ (fun e => g ⟨e.1, Or.inl e.2⟩)
end RN3
