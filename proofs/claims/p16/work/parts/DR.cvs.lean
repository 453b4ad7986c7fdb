/-! covers() -/
section CVS
variable {X : aX} {d x y : Nat} {P : Mp} {J : Mj} {m m' m0 : Mi} {Sn : Nat → Nat} {ar : Nat → Int} {sc mg b g N vm : Nat} {R : Nat → Mi} {nm : Nat → Int} {l r : List Int} {S : Ts} {st : Int}
/-- whether an ANSWER is there -/
theorem c_hasA {k : Int} (hp : PP P) (z : Zr k) (hst : m 38 8 = st) (hs01 : st = 0 ∨ st = 1) (zn : Zr (m 38 12)) (hT : st = 1 → m 38 12 = (S.2.1.length : Int)) {post : Int → Mi → Mj → Mp → Prop} (k0 : (st = 1 → k < 0 ∨ (S.2.1.length : Int) ≤ k) → post 0 m J P) (k1 : st = 1 → ∀ a, S.2.1[k.toNat]? = some a → 0 ≤ k → post 1 m J P) : Ci X d 119 [.ref 38, .int (iz k)] m J P post := by
  refine c_hasAnswer hp z (by show Zr (m 38 8); rw [show m 38 8 = st from hst]; rcases hs01 with h | h <;> rw [h] <;> constructor <;> omega) zn (fun hh => k0 fun h1 => ?_) (fun hh => ?_)
  · rcases hh with h | h | h
    · rw [show m 38 8 = st from hst] at h; omega
    · exact Or.inl h
    · rw [hT h1] at h
      exact Or.inr h
  · have h1 : st = 1 := by have := hh.1; rw [show m 38 8 = st from hst] at this; omega
    have hl := hh.2.2
    rw [hT h1] at hl
    exact k1 h1 _ (List.getElem?_eq_getElem (by omega)) hh.2.1
theorem r_hasA {k : Int} (hp : PP P) (z : Zr k) (hst : m 262 93 = st) (hs01 : st = 0 ∨ st = 1) (zn : Zr (m 262 98)) (hT : st = 1 → m 262 98 = (S.2.1.length : Int)) {post : Int → Mi → Mj → Mp → Prop} (k0 : (st = 1 → k < 0 ∨ (S.2.1.length : Int) ≤ k) → post 0 m J P) (k1 : st = 1 → ∀ a, S.2.1[k.toNat]? = some a → 0 ≤ k → post 1 m J P) : Ci X d 210 [.ref 262, .int (iz k)] m J P post := by
  refine r_isAnswer hp z (by rw [hst]; rcases hs01 with h | h <;> rw [h] <;> constructor <;> omega) zn (fun hh => k0 fun h1 => ?_) (fun hh => ?_)
  · rcases hh with h | h | h
    · rw [hst] at h; omega
    · exact Or.inl h
    · rw [hT h1] at h
      exact Or.inr h
  · have h1 : st = 1 := by have := hh.1; rw [hst] at this; omega
    have hl := hh.2.2
    rw [hT h1] at hl
    exact k1 h1 _ (List.getElem?_eq_getElem (by omega)) hh.2.1
/-- whether a NODE is there -/
theorem c_hasN {k : Int} (hp : PP P) (z : Zr k) (hst : m 38 8 = st) (hs01 : st = 0 ∨ st = 1) (zn : Zr (m 38 11)) (hT : st = 1 → m 38 11 = (S.1.length : Int)) {post : Int → Mi → Mj → Mp → Prop} (k0 : (st = 1 → k < 0 ∨ (S.1.length : Int) ≤ k) → post 0 m J P) (k1 : st = 1 → ∀ a, S.1[k.toNat]? = some a → 0 ≤ k → post 1 m J P) : Ci X d 114 [.ref 38, .int (iz k)] m J P post := by
  refine c_hasNode hp z (by show Zr (m 38 8); rw [show m 38 8 = st from hst]; rcases hs01 with h | h <;> rw [h] <;> constructor <;> omega) zn (fun hh => k0 fun h1 => ?_) (fun hh => ?_)
  · rcases hh with h | h | h
    · rw [show m 38 8 = st from hst] at h; omega
    · exact Or.inl h
    · rw [hT h1] at h
      exact Or.inr h
  · have h1 : st = 1 := by have := hh.1; rw [show m 38 8 = st from hst] at this; omega
    have hl := hh.2.2
    rw [hT h1] at hl
    exact k1 h1 _ (List.getElem?_eq_getElem (by omega)) hh.2.1
theorem r_hasN {k : Int} (hp : PP P) (z : Zr k) (hst : m 262 93 = st) (hs01 : st = 0 ∨ st = 1) (zn : Zr (m 262 96)) (hT : st = 1 → m 262 96 = (S.1.length : Int)) {post : Int → Mi → Mj → Mp → Prop} (k0 : (st = 1 → k < 0 ∨ (S.1.length : Int) ≤ k) → post 0 m J P) (k1 : st = 1 → ∀ a, S.1[k.toNat]? = some a → 0 ≤ k → post 1 m J P) : Ci X d 208 [.ref 262, .int (iz k)] m J P post := by
  refine r_isNode hp z (by rw [hst]; rcases hs01 with h | h <;> rw [h] <;> constructor <;> omega) zn (fun hh => k0 fun h1 => ?_) (fun hh => ?_)
  · rcases hh with h | h | h
    · rw [hst] at h; omega
    · exact Or.inl h
    · rw [hT h1] at h
      exact Or.inr h
  · have h1 : st = 1 := by have := hh.1; rw [hst] at this; omega
    have hl := hh.2.2
    rw [hT h1] at hl
    exact k1 h1 _ (List.getElem?_eq_getElem (by omega)) hh.2.1
theorem TV_A {S : Ts} {G k : Nat} {a : An} (h : TV sc ar G mg S) (ha : S.2.1[k]? = some a) : k < 300 ∧ AV sc ar G 30000 a := by
  have h1 := h.1.2.1
  have h2 := (gl_lt ha).1
  have h3 := h.1.2.2
  simp only [tcl] at h3
  exact ⟨by omega, AV_up (h.2.2.2 a (gl_lt ha).2) (by omega)⟩
/-- covers() in the class -/
theorem c_covers {x1 x2 : Int} (hp : PP P) (hb : b = 54 ∨ b = 155) (hP : P 1 8 = some b) (hg : P 38 2 = some g) (hgo : g = 39 ∨ g = 256) (har : arK sc ar) (hA : BA b sc ar m) (z1 : Zr x1) (z2 : Zr x2) (hst : m 38 8 = st) (hs01 : st = 0 ∨ st = 1) (zn : Zr (m 38 12)) (hT : st = 1 → TQ sc ar g l r vm mg nm S m J) {post : Int → Mi → Mj → Mp → Prop} (k0 : (st = 1 → x1 < 0 ∨ (S.2.1.length : Int) ≤ x1) ∨ (st = 1 → x2 < 0 ∨ (S.2.1.length : Int) ≤ x2) → post 0 m J P) (k1 : st = 1 → ∀ a a', S.2.1[x1.toNat]? = some a → 0 ≤ x1 → S.2.1[x2.toNat]? = some a' → 0 ≤ x2 → ∀ m', (∀ a k, a ≠ 49 → m' a k = m a k) → post (i2b (tCov (ayw ar) a.2.2 a'.2.2)) m' J P) : Ci X (d + 5) 122 [.ref 1, .int (iz x1), .int (iz x2)] m J P post := by
  have kb' := kd_book hb
  refine Ci.of rfl rfl rfl (b_Nh_covers_0 (d := d + 1) x1 x2 m J P hp post ?_)
  refine c_hasA (S := S) hp z1 hst hs01 zn (fun h1 => (hT h1).2.1.1.2.1) (fun hh => ⟨hp, zr0, fun _ => k0 (Or.inl hh), fun g => absurd rfl g⟩) (fun h1 a ha g1 => ⟨hp, zr1, fun g => absurd g (by omega), fun _ => ?_⟩)
  refine c_hasA (S := S) hp z2 hst hs01 zn (fun h1 => (hT h1).2.1.1.2.1) (fun hh => ⟨hp, zr0, fun _ => k0 (Or.inr hh), fun g => absurd rfl g⟩) (fun _ a' ha' g2 => ⟨hp, zr1, fun g => absurd g (by omega), fun _ => ⟨b, hP, kb', ?_⟩⟩)
  obtain ⟨hQ, hTC, hV, hK, hnm⟩ := hT h1
  have k1' := k1 h1 a a' ha g1 ha' g2
  obtain ⟨i, rfl⟩ := Int.eq_ofNat_of_zero_le g1
  obtain ⟨j, rfl⟩ := Int.eq_ofNat_of_zero_le g2
  have ha : S.2.1[i]? = some a := ha
  have ha' : S.2.1[j]? = some a' := ha'
  refine c_matches (G := vm) hp hb har hA hg hgo hQ.1.2.2 (TV_A hV ha).1 (TV_A hV ha').1 (hTC.2.2 i a ha) (hTC.2.2 j a' ha') (TV_A hV ha).2 (TV_A hV ha').2 (fun m1 f1 => ?_)
  cases q : tCov (ayw ar) a.2.2 a'.2.2
  · rw [q] at k1'
    exact ⟨hp, zr0, fun _ => k1' m1 f1, fun g => absurd rfl g⟩
  · rw [q] at k1'
    exact ⟨hp, zr1, fun g => absurd (show (1 : Int) = 0 from g) (by omega), fun _ => k1' m1 f1⟩
/-- covers() in the reference -/
theorem r_covers {x1 x2 : Int} (hp : PP P) (har : arK sc ar) (hRA : RAr sc ar m) (z1 : Zr x1) (z2 : Zr x2) (hst : m 262 93 = st) (hs01 : st = 0 ∨ st = 1) (zn : Zr (m 262 98)) (hT : st = 1 → TQR sc ar vm mg nm S m J) {post : Int → Mi → Mj → Mp → Prop} (k0 : (st = 1 → x1 < 0 ∨ (S.2.1.length : Int) ≤ x1) ∨ (st = 1 → x2 < 0 ∨ (S.2.1.length : Int) ≤ x2) → post 0 m J P) (k1 : st = 1 → ∀ a a', S.2.1[x1.toNat]? = some a → 0 ≤ x1 → S.2.1[x2.toNat]? = some a' → 0 ≤ x2 → ∀ m', rcF m m' → post (i2b (tCov (ayw ar) a.2.2 a'.2.2)) m' J P) : Ci X (d + 3) 213 [.ref 262, .int (iz x1), .int (iz x2)] m J P post := by
  refine Ci.of rfl rfl rfl (b_Mdl_covers_0 (d := d + 1) x1 x2 m J P hp post ?_)
  refine r_hasA (S := S) hp z1 hst hs01 zn (fun h1 => (hT h1).2.1.1.2.1) (fun hh => ⟨hp, zr0, fun _ => k0 (Or.inl hh), fun g => absurd rfl g⟩) (fun h1 a ha g1 => ⟨hp, zr1, fun g => absurd g (by omega), fun _ => ?_⟩)
  refine r_hasA (S := S) hp z2 hst hs01 zn (fun h1 => (hT h1).2.1.1.2.1) (fun hh => ⟨hp, zr0, fun g => absurd rfl g, fun _ => k0 (Or.inr hh)⟩) (fun _ a' ha' g2 => ⟨hp, zr1, fun _ => ?_, fun g => absurd (by omega) g⟩)
  obtain ⟨⟨hgv, hgn⟩, hTR, hV, hnm⟩ := hT h1
  have k1' := k1 h1 a a' ha g1 ha' g2
  obtain ⟨i, rfl⟩ := Int.eq_ofNat_of_zero_le g1
  obtain ⟨j, rfl⟩ := Int.eq_ofNat_of_zero_le g2
  have ha : S.2.1[i]? = some a := ha
  have ha' : S.2.1[j]? = some a' := ha'
  have loop : ∀ (q v : Nat) (m1 : Mi), v + q = 800 → (∀ w, w < v → m1 345 w = -1) → (∀ a k, a ≠ 345 → m1 a k = m a k) → Rn X (d + 3) 213 20 [some (.ref 262), some (.int (iz (i : Int))), some (.int (iz (j : Int))), some (.int (iz (v : Int))), none] [] (SS m1 J P) (QI post) := by
    intro q
    induction q with
    | zero =>
      intro v m1 hv h1 f1
      refine b_Mdl_covers_20 (d := d + 1) (i : Int) (j : Int) (v : Int) m1 J P hp post ⟨by constructor <;> omega, fun _ => ?_, fun g => absurd (by omega) g⟩
      have fr : rcF m m1 := fun a k g _ => f1 a k g
      refine r_cov45 (m0 := m) (G := vm) hp har hRA hgv hV.2.1.1 (TV_A hV ha).1 (TV_A hV ha').1 (hTR.2.2 i a ha) (hTR.2.2 j a' ha') (TV_A hV ha).2 (TV_A hV ha').2 (fun m2 f2 => k1' m2 f2) vm 0 (fun _ => []) m1 (by omega) ?_ (fun w hw => ⟨fun _ => h1 w (by omega), fun g => absurd rfl g⟩) fr
      simp only [List.take_zero, List.flatten_nil, List.drop_zero, cvr]
    | succ q ih =>
      intro v m1 hv h1 f1
      refine b_Mdl_covers_20 (d := d + 1) (i : Int) (j : Int) (v : Int) m1 J P hp post ⟨by constructor <;> omega, fun g => absurd g (by omega), fun _ => ⟨by constructor <;> omega, ?_⟩⟩
      refine ih (v + 1) _ (by omega) (fun w hw => ?_) (fun a k g => (mu_a _ g).trans (f1 a k g))
      by_cases e : w = v
      · subst e
        exact mu_at _ _ _ _
      · exact (mu_ne _ _ (by omega)).trans (h1 w (by omega))
  exact loop 800 0 m (by omega) (fun w hw => absurd hw (by omega)) fun _ _ _ => rfl
end CVS
