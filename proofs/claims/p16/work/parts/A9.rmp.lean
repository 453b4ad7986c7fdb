/-! the reference: clearPool(), makesPair() -/
section RMP
variable {X : aX} {d : Nat} {P : Mp} {J : Mj} {m m' : Mi} {ar : Nat → Int} {sc : Nat}
/-- what clearPool() leaves -/
theorem r_clearRule (hp : PP P) {post : Mi → Mj → Mp → Prop} (k : ∀ m', (∀ v, v < 8 → m' 309 v = -1) → (∀ a k, a ≠ 309 → m' a k = m a k) → post m' J P) : Cv X d 165 [.ref 262] m J P post := by
  refine Cv.of rfl rfl rfl (b_Mdl_clearRule_0 m J P hp post ?_)
  have loop : ∀ (q v : Nat) (m1 : Mi), v + q = 8 → (∀ w, w < v → m1 309 w = -1) → (∀ a k, a ≠ 309 → m1 a k = m a k) → Rn X d 165 2 [some (.ref 262), some (.int (iz (v : Int)))] [] (SS m1 J P) (QV post) := by
    intro q
    induction q with
    | zero =>
      intro v m1 hv h1 hF
      exact b_Mdl_clearRule_2 v m1 J P hp post ⟨by constructor <;> omega, fun _ => k m1 (fun w hw => h1 w (by omega)) hF, fun g => absurd (by omega) g⟩
    | succ q ih =>
      intro v m1 hv h1 hF
      have ev : ((v : Nat) : Int).toNat = v := by omega
      have en : ((v : Nat) : Int) + 1 = ((v + 1 : Nat) : Int) := by omega
      refine b_Mdl_clearRule_2 v m1 J P hp post ⟨by constructor <;> omega, fun g => absurd g (by omega), fun _ => ⟨by omega, ?_⟩⟩
      rw [ev, en]
      refine ih (v + 1) _ (by omega) (fun w hw => ?_) (fun a k g => (mu_ne _ _ (by omega)).trans (hF a k g))
      by_cases e : w = v
      · rw [e, mu_at]
      · rw [mu_ne _ _ (by omega)]; exact h1 w (by omega)
  exact loop 8 0 m rfl (fun w hw => absurd hw (Nat.not_lt_zero _)) (fun _ _ _ => rfl)
theorem r_clearPool (hp : PP P) {post : Mi → Mj → Mp → Prop} (k : ∀ m', m' 262 74 = 0 → (∀ v, v < 800 → m' 308 v = -1) → (∀ v, v < 8 → m' 309 v = -1) → (∀ a k, a ≠ 309 → a ≠ 308 → ¬ (a = 262 ∧ k = 74) → m' a k = m a k) → post m' J P) : Cv X (d + 1) 164 [.ref 262] m J P post := by
  refine Cv.of rfl rfl rfl (b_Mdl_clearPool_0 m J P hp post ?_)
  have loop : ∀ (q v : Nat) (m1 : Mi), v + q = 800 → (∀ w, w < v → m1 308 w = -1) → m1 262 74 = 0 → (∀ a k, a ≠ 308 → ¬ (a = 262 ∧ k = 74) → m1 a k = m a k) → Rn X (d + 1) 164 7 [some (.ref 262), some (.int (iz (v : Int)))] [] (SS m1 J P) (QV post) := by
    intro q
    induction q with
    | zero =>
      intro v m1 hv h1 h2 hF
      refine b_Mdl_clearPool_7 v m1 J P hp post ⟨by constructor <;> omega, fun _ => ?_, fun g => absurd (by omega) g⟩
      refine r_clearRule hp (fun m2 w1 w2 => ⟨hp, k m2 ((w2 _ _ (by decide)).trans h2) (fun u hu => (w2 _ _ (by decide)).trans (h1 u (by omega))) w1 (fun a k g1 g2 g3 => (w2 a k g1).trans (hF a k g2 g3))⟩)
    | succ q ih =>
      intro v m1 hv h1 h2 hF
      have ev : ((v : Nat) : Int).toNat = v := by omega
      have en : ((v : Nat) : Int) + 1 = ((v + 1 : Nat) : Int) := by omega
      refine b_Mdl_clearPool_7 v m1 J P hp post ⟨by constructor <;> omega, fun g => absurd g (by omega), fun _ => ⟨by omega, ?_⟩⟩
      rw [ev, en]
      refine ih (v + 1) _ (by omega) (fun w hw => ?_) ((mu_ne _ _ (by omega)).trans h2) (fun a k g g2 => (mu_ne _ _ (by omega)).trans (hF a k g g2))
      by_cases e : w = v
      · rw [e, mu_at]
      · rw [mu_ne _ _ (by omega)]; exact h1 w (by omega)
  exact loop 800 0 _ rfl (fun w hw => absurd hw (Nat.not_lt_zero _)) (mu_at _ _ _ _) (fun a k g1 g2 => mu_ne _ _ g2)
/-- nothing is loaded yet -/
theorem LDI_0 {ay : Int → Nat} {cd : Nat → Int} {nx np : Nat → Nat} {mk : Nat → Int} (h : m 262 74 = 0) : LDI ay cd nx mk np 0 0 (fun _ => False) m :=
  ⟨⟨Nat.le_refl _, h⟩, fun c hc => absurd hc (Nat.not_lt_zero _), fun c c' hc => absurd hc (Nat.not_lt_zero _), fun c hc => absurd hc (Nat.not_lt_zero _), fun c hc => absurd hc (Nat.not_lt_zero _), fun c hc => hc.elim, fun k hk => absurd hk (Nat.not_lt_zero _)⟩
theorem VTB_new {cd : Nat → Int} {a base lim p : Nat} {np : Nat → Nat} (h : ∀ v, v < lim → m a v = -1) (h2 : ∀ v, v < lim → ¬ Ocr cd p (880 + base + v)) : VTB cd a base lim np p m := fun v hv => Or.inr ⟨h2 v hv, h v hv⟩
/-- TERMS lie in their part of the row -/
theorem nl_rng {ay : Int → Nat} {A B C : List Int} {k c : Nat} (h : ctt ay B = some k) (h1 : A.length ≤ c) (h2 : c < A.length + B.length) : c < nl ay (A ++ (B ++ C)) c ∧ nl ay (A ++ (B ++ C)) c ≤ A.length + B.length := by
  obtain ⟨p, x, l, z, e, e1, e2⟩ := L_split h (c := c - A.length) (by omega)
  have := nl_of (L := A ++ (B ++ C)) (p := A ++ p) (t := x :: l) (z := z ++ C) (by rw [e]; simp) (ct_one e2)
  rw [List.length_append, e1, List.length_cons, show A.length + (c - A.length) = c by omega] at this
  have hl : B.length = p.length + (l.length + 1 + z.length) := by rw [e]; simp; omega
  rw [this]
  omega
/-- the place does not matter where it is not reached -/
theorem pt_hole {ay : Int → Nat} {cd : Nat → Int} {nx R : Nat → Nat} {n : Nat} {em : Nat → Bool → Int} {hole hole' patch patch' : Nat} (hG : Gok ay cd nx n) {S : Nat → Prop} (hS : ∀ c, S c → c < n ∧ c ≠ hole ∧ c ≠ hole' ∧ ∀ i, i < ay (cd c) → S (kid nx (c + 1) i)) : ∀ (f : Nat) (st : List (Nat × Bool)), (∀ e, e ∈ st → e.2 = false → S e.1) → pt ay cd nx R em hole patch f st = pt ay cd nx R em hole' patch' f st := by
  intro f
  induction f with
  | zero => intro st _; cases st <;> rfl
  | succ f ih =>
    intro st hst
    cases st with
    | nil => rfl
    | cons e st =>
      obtain ⟨a, w⟩ := e
      have hst' : ∀ e, e ∈ st → e.2 = false → S e.1 := fun e he => hst e (List.mem_cons_of_mem _ he)
      have ha : w = false → S a := hst (a, w) List.mem_cons_self
      have e1 : (if w = false ∧ a = hole then patch else a) = a := if_neg fun h => (hS a (ha h.1)).2.1 h.2
      have e2 : (if w = false ∧ a = hole' then patch' else a) = a := if_neg fun h => (hS a (ha h.1)).2.2.1 h.2
      rw [pt, pt, e1, e2]
      have hk : ∀ q, (∀ e, e ∈ kids nx q true (ay (cd q)) ++ st → e.2 = false → S e.1) := fun q e he h0 => by
        rcases List.mem_append.mp he with he | he
        · obtain ⟨i, hi, e3⟩ := kids_mem he
          rw [e3] at h0
          cases h0
        · exact hst' e he h0
      have hk2 : ∀ e, e ∈ kids nx a w (ay (cd a)) ++ st → e.2 = false → S e.1 := fun e he h0 => by
        rcases List.mem_append.mp he with he | he
        · obtain ⟨i, hi, e3⟩ := kids_mem he
          rw [e3] at h0 ⊢
          exact (hS a (ha h0)).2.2.2 i hi
        · exact hst' e he h0
      rw [ih st hst', ih _ (hk _), ih _ hk2]
end RMP
