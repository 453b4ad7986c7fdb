/-! the TREE in the class: keep, addNode, tellOrigin, lookAt -/
section CLK
variable {X : aX} {d : Nat} {P : Mp} {J : Mj} {m m' : Mi} {ar : Nat → Int} {sc G mg b g : Nat}
theorem mu_a (m : Mi) {a x : Nat} (h : x ≠ a) {k y : Nat} {v : Int} : mu m a k v x y = m x y := mu_ne _ _ fun q => h q.1
/-- keep() -/
theorem c_tkeep {x0 f : Nat} {l : List Int} (hp : PP P) (kx : am_kd an_K x0 = some (.inl 4)) (hx0 : x0 = 8 ∨ x0 = 18) (hM : MD x0 m l) (hf : m 38 15 = (f : Int)) (hl : f + l.length ≤ 30000) {post : Mi → Mj → Mp → Prop} (k : ∀ m', Ro m' 45 f l → m' 38 15 = ((f + l.length : Nat) : Int) → (∀ a k, ¬ (a = 45 ∧ f ≤ k) → ¬ (a = 38 ∧ k = 15) → m' a k = m a k) → post m' J P) : Cv X (d + 1) 100 [.ref 38, .ref x0] m J P post := by
  have e1 := hM.2.1
  have e8 := hM.1
  refine Cv.of rfl rfl rfl (b_Tree_keep_0 x0 kx m J P hp post ?_)
  have q : ∀ a k, a ≠ 45 → mcp m (x0 + 8) 45 (0 : Int).toNat (f : Int).toNat (l.length : Int).toNat a k = m a k := fun a k h => by
    unfold mcp
    rw [if_neg (fun g => h g.1)]
  rw [hf, e1, q 38 15 (by omega), q x0 12 (by omega), hf, e1]
  refine ⟨by constructor <;> omega, fun _ => ⟨⟨by decide, by omega, by omega, by omega, by omega⟩, ?_⟩, fun g => absurd g (by omega)⟩
  refine k _ (Ro_of fun i hi => ?_) ?_ fun a k h1 h2 => ?_
  · rw [mu_a _ (by omega)]
    unfold mcp
    rw [if_pos (by omega)]
    have := Ro_get hM.2.2 hi
    rw [← this]
    congr 1
    omega
  · rw [mu_at]; omega
  · rw [mu_ne _ _ h2]
    unfold mcp
    rw [if_neg]
    intro g
    exact h1 ⟨g.1, by omega⟩
/-- what addNode() writes into the row of a NODE -/
def row9 (m : Mi) (n : Nat) (v0 v3 v4 v5 v6 v7 v8 : Int) : Mi := mu (mu (mu (mu (mu (mu (mu m 46 (9 * n) v0) 46 (9 * n + 3) v3) 46 (9 * n + 4) v4) 46 (9 * n + 5) v5) 46 (9 * n + 6) v6) 46 (9 * n + 7) v7) 46 (9 * n + 8) v8
theorem row9_o (m : Mi) {n : Nat} {v0 v3 v4 v5 v6 v7 v8 : Int} {a k : Nat} (h : ¬ (a = 46 ∧ 9 * n ≤ k ∧ k ≤ 9 * n + 8 ∧ k ≠ 9 * n + 1 ∧ k ≠ 9 * n + 2)) : row9 m n v0 v3 v4 v5 v6 v7 v8 a k = m a k := by
  unfold row9
  rw [mu_ne _ _ (by omega), mu_ne _ _ (by omega), mu_ne _ _ (by omega), mu_ne _ _ (by omega), mu_ne _ _ (by omega), mu_ne _ _ (by omega), mu_ne _ _ (by omega)]
theorem row9_v (m : Mi) {n : Nat} {v0 v3 v4 v5 v6 v7 v8 : Int} : row9 m n v0 v3 v4 v5 v6 v7 v8 46 (9 * n) = v0 ∧ row9 m n v0 v3 v4 v5 v6 v7 v8 46 (9 * n + 3) = v3 ∧ row9 m n v0 v3 v4 v5 v6 v7 v8 46 (9 * n + 4) = v4 ∧ row9 m n v0 v3 v4 v5 v6 v7 v8 46 (9 * n + 5) = v5 ∧ row9 m n v0 v3 v4 v5 v6 v7 v8 46 (9 * n + 6) = v6 ∧ row9 m n v0 v3 v4 v5 v6 v7 v8 46 (9 * n + 7) = v7 ∧ row9 m n v0 v3 v4 v5 v6 v7 v8 46 (9 * n + 8) = v8 := by
  unfold row9
  refine ⟨?_, ?_, ?_, ?_, ?_, ?_, ?_⟩ <;> simp [mu]
/-- rows of NODES and ANSWERS that are there already -/
theorem TCm_old {S : Ts} {n : Nat} (hV : TV sc ar G mg S) (h : TCm S m) (hn : n = S.1.length) (f0 : ∀ k, 9 ≤ k → k ≠ 11 → k ≠ 15 → m' 38 k = m 38 k) (f1 : ∀ k, k < 9 * n → m' 46 k = m 46 k) (f2 : ∀ k, k < S.2.2.1 → m' 45 k = m 45 k) (f3 : ∀ k, m' 47 k = m 47 k) (f4 : ∀ k, m' 48 k = m 48 k) : (∀ i e, S.1[i]? = some e → NC i e m') ∧ ∀ k a, S.2.1[k]? = some a → ACm k a m' := by
  refine ⟨fun i e g => ?_, fun k a g => ?_⟩
  · obtain ⟨g1, g2⟩ := gl_lt g
    have := (hV.2.2.1 e g2).2.2.1
    exact NC_fr (h.2.1 i e g) (fun k _ _ => f1 k (by omega)) fun k _ _ => f2 k (by omega)
  · obtain ⟨g1, g2⟩ := gl_lt g
    have := (hV.2.2.2 a g2).2.2.1
    exact ACm_fr (h.2.2 k a g) (f3 k) (f4 k) fun k _ _ => f2 k (by omega)
/-- addNode() -/
theorem c_addNode {S : Ts} {l r : List Int} {vs : List (List Int)} {par D : Int} {pn : Nat} (hp : PP P) (hV : TV sc ar G mg S) (hT : TCm S m) (hM : MD 8 m (ngr l r vs)) (hn : S.1.length < 1000) (hf : S.2.2.1 + (ngr l r vs).length ≤ 30000) (hpar : (par = -1 ∧ D = 0) ∨ (par = (pn : Int) ∧ pn < S.1.length ∧ m 46 (9 * pn + 3) + 1 = D)) {post : Int → Mi → Mj → Mp → Prop} (k : ∀ m', TCm (S.1 ++ [((par, m 46 (9 * S.1.length + 1), m 46 (9 * S.1.length + 2), D), S.2.2.1, (l, r, vs), -1)], S.2.1, S.2.2.1 + (ngr l r vs).length, S.2.2.2) m' → (∀ a k, a ≠ 45 → a ≠ 46 → ¬ (a = 38 ∧ (k = 11 ∨ k = 15)) → m' a k = m a k) → post (S.1.length : Int) m' J P) : Ci X (d + 2) 99 [.ref 38, .int (iz (l.length : Int)), .int (iz (r.length : Int)), .int (iz par)] m J P post := by
  have kx := kd_bench (x0 := 8) (Or.inl rfl)
  obtain ⟨⟨t1, t2, t3, t4, t5, t6⟩, _⟩ := id hT
  have e8 := hM.2.1
  have h3 : S.2.2.1 ≤ 30000 := by omega
  generalize hS : S.1.length = n at *
  generalize hF : S.2.2.1 = f at *
  generalize hL : (ngr l r vs).length = L at *
  have main : ∀ (D' : Int), D' = D → Cv X (d + 1) 100 [.ref 38, .ref 8] (row9 m n par D' l.length r.length (-1) f L) J P (fun m10 J11 P12 => PP P12 ∧ post (((mu m10 38 11 ((m10 38 11) + 1)) 38 11) - 1) (mu m10 38 11 ((m10 38 11) + 1)) J11 P12) := fun D' hD => by
    subst hD
    have o : ∀ a k, a ≠ 46 → row9 m n par D' l.length r.length (-1) f L a k = m a k := fun a k h => row9_o m fun g => h g.1
    refine c_tkeep (d := d) (x0 := 8) (f := f) (l := ngr l r vs) hp kx (Or.inl rfl) (MD_fr hM (o _ _ (by omega)) fun k => o _ _ (by omega)) ((o _ _ (by omega)).trans t3) (by omega) (fun m10 w1 w2 w3 => ⟨hp, ?_⟩)
    rw [mu_at, show m10 38 11 = (n : Int) from (w3 _ _ (by omega) (by omega)).trans ((o _ _ (by omega)).trans t1), show (n : Int) + 1 - 1 = (n : Int) by omega]
    have F : ∀ a k, a ≠ 45 → ¬ (a = 38 ∧ (k = 11 ∨ k = 15)) → mu m10 38 11 ((n : Int) + 1) a k = row9 m n par D' l.length r.length (-1) f L a k := fun a k h1 h2 => by rw [mu_ne _ _ (fun g => h2 ⟨g.1, Or.inl g.2⟩), w3 _ _ (fun g => h1 g.1) (fun g => h2 ⟨g.1, Or.inr g.2⟩)]
    have F2 : ∀ k, k < f → mu m10 38 11 ((n : Int) + 1) 45 k = m 45 k := fun k h1 => by rw [mu_a _ (by omega), w3 _ _ (fun g => by have := g.2; omega) (by omega), o _ _ (by omega)]
    obtain ⟨v0, v3, v4, v5, v6, v7, v8⟩ := row9_v m (n := n) (v0 := par) (v3 := D') (v4 := l.length) (v5 := r.length) (v6 := -1) (v7 := f) (v8 := L)
    obtain ⟨old1, old2⟩ := TCm_old (m' := mu m10 38 11 ((n : Int) + 1)) hV hT hS.symm (fun k k1 k2 k3 => (F _ _ (by omega) (by omega)).trans (o _ _ (by omega))) (fun k hk => by rw [F _ _ (by omega) (by omega), row9_o m (by omega)]) (fun k hk => F2 k (by omega)) (fun k => (F _ _ (by omega) (by omega)).trans (o _ _ (by omega))) (fun k => (F _ _ (by omega) (by omega)).trans (o _ _ (by omega)))
    refine k _ ⟨⟨?_, ?_, ?_, ?_, ?_, ?_⟩, fun i e he => ?_, fun k a ha => old2 k a ha⟩ fun a k g1 g2 g3 => (F a k g1 g3).trans (o a k g2)
    · rw [mu_at, List.length_append, hS]; rfl
    · exact (F _ _ (by omega) (by omega)).trans ((o _ _ (by omega)).trans t2)
    · rw [mu_ne _ _ (by omega), w2, hL]
    · exact (F _ _ (by omega) (by omega)).trans ((o _ _ (by omega)).trans t4)
    · exact (F _ _ (by omega) (by omega)).trans ((o _ _ (by omega)).trans t5)
    · exact (F _ _ (by omega) (by omega)).trans ((o _ _ (by omega)).trans t6)
    · rcases gl_snoc he with ⟨_, q⟩ | ⟨q, q2⟩
      · exact old1 i e q
      · subst q; subst q2
        rw [hS]
        refine ⟨⟨?_, ?_, ?_, ?_, ?_, ?_, ?_, ?_, ?_⟩, ?_⟩
        · exact (F _ _ (by omega) (by omega)).trans v0
        · exact (F _ _ (by omega) (by omega)).trans (row9_o m (by omega))
        · exact (F _ _ (by omega) (by omega)).trans (row9_o m (by omega))
        · exact (F _ _ (by omega) (by omega)).trans v3
        · exact (F _ _ (by omega) (by omega)).trans v4
        · exact (F _ _ (by omega) (by omega)).trans v5
        · exact (F _ _ (by omega) (by omega)).trans v6
        · exact (F _ _ (by omega) (by omega)).trans v7
        · exact (F _ _ (by omega) (by omega)).trans (v8.trans (by rw [← hL]))
        · exact Ro_fr w1 fun k _ _ => mu_a _ (by omega)
  refine Ci.of rfl rfl rfl (b_Tree_addNode_0 (l.length : Int) (r.length : Int) par m J P hp post ?_)
  have i0 : (((n : Int) * 9) + 0).toNat = 9 * n := by omega
  have i3 : (((n : Int) * 9) + 3).toNat = 9 * n + 3 := by omega
  have i4 : (((n : Int) * 9) + 4).toNat = 9 * n + 4 := by omega
  have i5 : (((n : Int) * 9) + 5).toNat = 9 * n + 5 := by omega
  have i6 : (((n : Int) * 9) + 6).toNat = 9 * n + 6 := by omega
  have i7 : (((n : Int) * 9) + 7).toNat = 9 * n + 7 := by omega
  have i8 : (((n : Int) * 9) + 8).toNat = 9 * n + 8 := by omega
  simp only [mu_a _ (show (38 : Nat) ≠ 46 by decide), mu_a _ (show (8 : Nat) ≠ 46 by decide), t1, t3, e8, i0, i3, i4, i5, i6, i7, i8]
  have zp : Zr par := by rcases hpar with h | h <;> (constructor <;> omega)
  refine ⟨by omega, zp, fun g => ?_, fun g => ?_⟩
  · rcases hpar with h | h
    · exact absurd h.1 g
    · have ep : ((par * 9) + 3).toNat = 9 * pn + 3 := by omega
      refine ⟨by omega, by omega, by omega, by omega, by omega, by omega, by omega, ?_⟩
      rw [ep, mu_ne _ _ (by omega)]
      exact main _ h.2.2
  · rcases hpar with h | h
    · refine ⟨by omega, by omega, by omega, by omega, by omega, by omega, ?_⟩
      exact main _ h.2.symm
    · exact absurd (fun q => by omega) g
/-- tellOrigin() of the last NODE -/
theorem c_tellOrigin {nds : List Nd} {e : Nd} {T : List An × Nat × Nat × Int × Bool} {p u : Int} (hp : PP P) (hT : TCm (nds ++ [e], T) m) (hn : nds.length < 1000) {post : Mi → Mj → Mp → Prop} (k : ∀ m', TCm (nds ++ [((e.1.1, p, u, e.1.2.2.2), e.2)], T) m' → (∀ a k, a ≠ 46 → m' a k = m a k) → post m' J P) : Cv X d 101 [.ref 38, .int (iz (nds.length : Int)), .int (iz p), .int (iz u)] m J P post := by
  refine Cv.of rfl rfl rfl (b_Tree_tellOrigin_0 (nds.length : Int) p u m J P hp post ?_)
  have i1 : (((nds.length : Int) * 9) + 1).toNat = 9 * nds.length + 1 := by omega
  have i2 : (((nds.length : Int) * 9) + 2).toNat = 9 * nds.length + 2 := by omega
  rw [i1, i2]
  refine ⟨by omega, by omega, ?_⟩
  have F : ∀ a k, ¬ (a = 46 ∧ (k = 9 * nds.length + 1 ∨ k = 9 * nds.length + 2)) → mu (mu m 46 (9 * nds.length + 1) p) 46 (9 * nds.length + 2) u a k = m a k := fun a k h => by rw [mu_ne _ _ (fun g => h ⟨g.1, Or.inr g.2⟩), mu_ne _ _ (fun g => h ⟨g.1, Or.inl g.2⟩)]
  obtain ⟨⟨t1, t2, t3, t4, t5, t6⟩, t7, t8⟩ := hT
  refine k _ ⟨⟨?_, ?_, ?_, ?_, ?_, ?_⟩, fun i x hx => ?_, fun k a ha => ACm_fr (t8 k a ha) (F _ _ (by omega)) (F _ _ (by omega)) fun k _ _ => F _ _ (by omega)⟩ fun a k h => F a k (fun g => h g.1)
  · rw [F _ _ (by omega), t1, List.length_append, List.length_append]; rfl
  · exact (F _ _ (by omega)).trans t2
  · exact (F _ _ (by omega)).trans t3
  · exact (F _ _ (by omega)).trans t4
  · exact (F _ _ (by omega)).trans t5
  · exact (F _ _ (by omega)).trans t6
  · rcases gl_snoc hx with ⟨q1, q⟩ | ⟨q, q2⟩
    · exact NC_fr (t7 i x (gl_old q)) (fun k _ _ => F _ _ (by omega)) fun k _ _ => F _ _ (by omega)
    · subst q; subst q2
      obtain ⟨⟨h1, h2, h3, h4, h5, h6, h7, h8, h9⟩, h10⟩ := t7 _ _ (gl_last (l := nds) (x := e))
      refine ⟨⟨(F _ _ (by omega)).trans h1, ?_, ?_, (F _ _ (by omega)).trans h4, (F _ _ (by omega)).trans h5, (F _ _ (by omega)).trans h6, (F _ _ (by omega)).trans h7, (F _ _ (by omega)).trans h8, (F _ _ (by omega)).trans h9⟩, Ro_fr h10 fun k _ _ => F _ _ (by omega)⟩
      · rw [mu_ne _ _ (by omega), mu_at]
      · rw [mu_at]
end CLK
