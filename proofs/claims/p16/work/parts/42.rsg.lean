section RSG
variable {X : aX} {d : Nat} {m : Mi} {J : Mj} {P : Mp}
theorem lk_eq {m m' : Mi} (h1 : m' 262 2 = m 262 2) (h2 : ∀ k, m' 263 k = m 263 k) : lk m' = lk m := by
  funext x
  unfold lk
  rw [h1, h2]
def Sg (m : Mi) (x : Int) (m' : Mi) : Prop := (m' 262 3 = if x = 45 then (if lk m (m 262 4 + 1) = 62 then 4 else 5) else if x = 40 ∨ x = 41 ∨ x = 44 ∨ x = 59 ∨ x = 61 then 4 else 5) ∧ (m' 262 6 = if x = 45 ∧ lk m (m 262 4 + 1) = 62 then 256 else x) ∧ (m' 262 5 = if x = 45 ∧ lk m (m 262 4 + 1) = 62 then m 262 4 + 2 else m 262 4 + 1) ∧ ∀ a k, ¬ (a = 262 ∧ (k = 3 ∨ k = 5 ∨ k = 6)) → m' a k = m a k
theorem r_sign {x : Int} (hp : PP P) (hx : Zr x) (ha : 0 ≤ m 262 4 ∧ m 262 4 ≤ 1600) (he : 0 ≤ m 262 2 ∧ m 262 2 ≤ 1600) {post : Mi → Mj → Mp → Prop} (k : ∀ m', Sg m x m' → post m' J P) : Cv X (d + 1) 140 [.ref 262, .int (iz x)] m J P post := by
  have fin : ∀ m', Sg m x m' → Rn X (d + 1) 140 96 [some (.ref 262), some (.int (iz x))] [] (SS m' J P) (QV post) := fun m' h => b_Mdl_sign_96 x m' J P hp post (k m' h)
  have fr : ∀ {v w : Int} (a k : Nat), ¬ (a = 262 ∧ (k = 3 ∨ k = 5 ∨ k = 6)) → mu (mu (mu m 262 3 4) 262 6 v) 262 5 w a k = m a k := fun a k h => by
    rw [mu_ne _ _ (fun g => h ⟨g.1, Or.inr (Or.inl g.2)⟩), mu_ne _ _ (fun g => h ⟨g.1, Or.inr (Or.inr g.2)⟩), mu_ne _ _ (fun g => h ⟨g.1, Or.inl g.2⟩)]
  refine Cv.of rfl rfl rfl (b_Mdl_sign_0 x m J P hp post ⟨hx, fun g => ?_, fun g => ?_⟩)
  · refine ⟨hx, fun g1 => fin _ ⟨by simp [mu, g, g1], by simp [mu, g], by simp [mu, g], fr⟩, fun g1 => ⟨hx, fun g2 => fin _ ⟨by simp [mu, g, g2], by simp [mu, g], by simp [mu, g], fr⟩, fun g2 => ⟨hx, fun g3 => fin _ ⟨by simp [mu, g, g3], by simp [mu, g], by simp [mu, g], fr⟩, fun g3 => ⟨hx, fun g4 => fin _ ⟨by simp [mu, g, g4], by simp [mu, g], by simp [mu, g], fr⟩, fun g4 => ⟨hx, fun g5 => fin _ ⟨by simp [mu, g, g5], by simp [mu, g], by simp [mu, g], fr⟩, fun g5 => fin _ ⟨by simp [mu, g, g1, g2, g3, g4, g5], by simp [mu, g], by simp [mu, g], fun a k h => ?_⟩⟩⟩⟩⟩⟩
    rw [mu_ne _ _ (fun e => h ⟨e.1, Or.inl e.2⟩)]
    exact fr a k h
  · have g' : x = 45 := by omega
    subst g'
    have e1 : mu (mu (mu m 262 3 4) 262 6 45) 262 5 (mu (mu m 262 3 4) 262 6 45 262 4 + 1) 262 4 = m 262 4 := by simp [mu]
    have e2 : lk (mu (mu (mu m 262 3 4) 262 6 45) 262 5 (mu (mu m 262 3 4) 262 6 45 262 4 + 1)) = lk m := lk_eq (by simp [mu]) (fun k => by simp [mu])
    rw [e1]
    refine r_look hp (by omega) (by simp only [mu]; simpa using he) ?_
    rw [e2]
    have hb := lk_bd m (m 262 4 + 1)
    refine ⟨hp, by constructor <;> omega, fun g1 => ?_, fun g1 => ?_⟩
    · refine ⟨hx, fun g2 => absurd g2 (by decide), fun _ => ⟨hx, fun g2 => absurd g2 (by decide), fun _ => ⟨hx, fun g2 => absurd g2 (by decide), fun _ => ⟨hx, fun g2 => absurd g2 (by decide), fun _ => ⟨hx, fun g2 => absurd g2 (by decide), fun _ => fin _ ⟨by simp [mu, g1], by simp [mu, g1], by simp [mu, g1], fun a k h => ?_⟩⟩⟩⟩⟩⟩
      rw [mu_ne _ _ (fun e => h ⟨e.1, Or.inl e.2⟩)]
      exact fr a k h
    · have g2 : lk m (m 262 4 + 1) = 62 := by omega
      refine fin _ ⟨by simp [mu, g2], by simp [mu, g2], by simp [mu, g2], fun a k h => ?_⟩
      rw [mu_ne _ _ (fun e => h ⟨e.1, Or.inr (Or.inl e.2)⟩), mu_ne _ _ (fun e => h ⟨e.1, Or.inr (Or.inr e.2)⟩)]
      exact fr a k h
end RSG
