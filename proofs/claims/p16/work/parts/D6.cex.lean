/-! expand() and plant() in the class -/
section CEX
variable {X : aX} {d : Nat} {P : Mp} {J : Mj} {m m' m0 : Mi} {ar : Nat → Int} {sc G mg b g N : Nat} {Lf Rf Lm Rm : Nat → List Int}
/-- so many NODES are EXPANDED -/
noncomputable def tEx (ay : Int → Nat) (mg N : Nat) (Lf Rf : Nat → List Int) : Nat → Ts → Ts × Nat
  | 0, S => (S, 0)
  | q + 1, S => if S.2.2.2.2.2 = true then (S, 0) else match S.1[S.2.2.2.1]? with
    | none => (S, 0)
    | some e => if (tGr ay mg N Lf Rf S e).2 = true then ((tEx ay mg N Lf Rf q (tGr ay mg N Lf Rf S e).1).1, (tEx ay mg N Lf Rf q (tGr ay mg N Lf Rf S e).1).2 + 1) else ((tGr ay mg N Lf Rf S e).1, 0)
theorem tGr_f {ay : Int → Nat} {S : Ts} {e : Nd} (h : (tGr ay mg N Lf Rf S e).2 = false) : (tGr ay mg N Lf Rf S e).1.2.2.2.2.2 = true := by
  unfold tGr at h ⊢
  split at h
  · cases h
  · rename_i g
    rw [if_neg g]
    exact tPl_f (by simpa using g)
theorem tGr_TV {S : Ts} {e : Nd} (har : arK sc ar) (hZ : ∀ u, u < N → ZK sc ar (Lf u) (Rf u)) (hV : TV sc ar G mg S) (he : S.1[S.2.2.2.1]? = some e) : TV sc ar G mg (tGr (ayw ar) mg N Lf Rf S e).1 := by
  have := (tPl_K (q := (ndl e).length + (ndr e).length) (p := 0) har hZ (by omega) (⟨hV, he, rfl⟩ : tKp sc ar G mg S.2.2.2.1 e S)).1
  unfold tGr
  split
  · exact this
  · exact this
theorem tEx_TV (har : arK sc ar) (hZ : ∀ u, u < N → ZK sc ar (Lf u) (Rf u)) : ∀ {q : Nat} {S : Ts}, TV sc ar G mg S → TV sc ar G mg (tEx (ayw ar) mg N Lf Rf q S).1
  | 0, _, h => h
  | q + 1, S, h => by
    unfold tEx
    split
    · exact h
    · split
      · exact h
      · rename_i e he
        split
        · exact tEx_TV har hZ (tGr_TV har hZ h he)
        · exact tGr_TV har hZ h he
/-- where expand() stands -/
def EI (sc : Nat) (ar : Nat → Int) (G mg : Nat) (m0 : Mi) (A : Nat) (S : Ts) (m : Mi) : Prop := TCm S m ∧ TV sc ar G mg S ∧ (ATT 8 m ∧ m 8 8 ≤ m0 8 8 + A) ∧ (ATT 18 m ∧ m 18 8 ≤ m0 18 8 + A) ∧ nwF m0 m
theorem EI_up {A A' : Nat} {S : Ts} (h : EI sc ar G mg m0 A S m) (g : A ≤ A') : EI sc ar G mg m0 A' S m := ⟨h.1, h.2.1, ⟨h.2.2.1.1, by have := h.2.2.1.2; omega⟩, ⟨h.2.2.2.1.1, by have := h.2.2.2.1.2; omega⟩, h.2.2.2.2⟩
theorem c_waits {S : Ts} (hp : PP P) (hst : m 38 8 = 1) (hT : TCm S m) (hV : TV sc ar G mg S) {post : Int → Mi → Mj → Mp → Prop} (k0 : S.2.2.2.2.2 = true ∨ S.1.length ≤ S.2.2.2.1 → post 0 m J P) (k1 : S.2.2.2.2.2 = false → S.2.2.2.1 < S.1.length → post 1 m J P) (hex : S.2.2.2.1 ≤ 100000) : Ci X d 106 [.ref 38] m J P post := by
  obtain ⟨⟨t1, t2, t3, t4, t5, t6⟩, _⟩ := hT
  have hb1 := hV.1
  refine Ci.of rfl rfl rfl (b_Tree_waits_0 m J P hp post ?_)
  rw [hst, t1, t4, t6]
  refine ⟨zr1, fun g => absurd g (by omega), fun _ => ?_⟩
  rcases hf : S.2.2.2.2.2
  · refine ⟨zr0, fun g => absurd rfl g, fun _ => ⟨by constructor <;> omega, by constructor <;> omega, fun g => k0 (Or.inr (by omega)), fun g => k1 hf (by omega)⟩⟩
  · exact ⟨zr1, fun _ => k0 (Or.inl hf), fun g => absurd (by decide : ¬ i2b true = 0) g⟩
theorem c_ex_27 {n : Nat} (hp : PP P) (hP : P 1 8 = some b) (hb : b = 54 ∨ b = 155) (har : arK sc ar) (hX : BKC b sc ar N Lm Rm Lf Rf m0) (hZ : ∀ u, u < N → ZK sc ar (Lf u) (Rf u)) (hg : P 38 2 = some g) (hgo : g = 39 ∨ g = 256) (hgv : m0 g 7 = (G : Int)) (hst : m0 38 8 = 1) (hmk : m0 38 10 = (mg : Int)) (hA8 : m0 8 8 + 600000 < 2147483647) (hA18 : m0 18 8 + 600000 < 2147483647) (hn : n ≤ 100) {post : Int → Mi → Mj → Mp → Prop} : ∀ {q i A : Nat} {dn : Nat} {S : Ts} {m : Mi}, i + q = n → EI sc ar G mg m0 A S m → S.2.2.2.1 + q ≤ 100000 → dn + q ≤ 100 → A + q * 3200 ≤ 400000 → (∀ m', EI sc ar G mg m0 (A + q * 3200) (tEx (ayw ar) mg N Lf Rf q S).1 m' → post ((dn + (tEx (ayw ar) mg N Lf Rf q S).2 : Nat) : Int) m' J P) → Rn X (d + 6) 105 27 [some (.ref 1), some (.int (iz (n : Int))), some (.int (iz (dn : Int))), some (.int (iz (i : Int)))] [] (SS m J P) (QI post) := by
  have kb := kd_book hb
  have stop : ∀ {i dn A : Nat} {S : Ts} {m : Mi}, i ≤ n → EI sc ar G mg m0 A S m → S.2.2.2.2.2 = true → S.2.2.2.1 ≤ 100000 → dn ≤ 100 → post (dn : Int) m J P → Rn X (d + 6) 105 27 [some (.ref 1), some (.int (iz (n : Int))), some (.int (iz (dn : Int))), some (.int (iz (i : Int)))] [] (SS m J P) (QI post) := fun {i dn A S m} hi hI hf hx hd k => by
    refine b_Nh_expand_27 (n : Int) (dn : Int) (i : Int) m J P hp post ⟨by constructor <;> omega, by constructor <;> omega, fun _ => k, fun _ => ?_⟩
    exact c_waits (G := G) (mg := mg) hp ((hI.2.2.2.2 _ _ (by omega) (by omega) (by omega)).trans hst) hI.1 hI.2.1 (fun _ => ⟨hp, zr0, fun _ => k, fun g => absurd rfl g⟩) (fun g _ => by rw [hf] at g; cases g) hx
  intro q
  induction q with
  | zero =>
    intro i A dn S m hq hI hx hd hA k
    refine b_Nh_expand_27 (n : Int) (dn : Int) (i : Int) m J P hp post ⟨by constructor <;> omega, by constructor <;> omega, fun _ => k m (EI_up hI (by omega)), fun g => absurd (by omega) g⟩
  | succ q ih =>
    intro i A dn S m hq hI hx hd hA k
    have hF := hI.2.2.2.2
    refine b_Nh_expand_27 (n : Int) (dn : Int) (i : Int) m J P hp post ⟨by constructor <;> omega, by constructor <;> omega, fun g => absurd g (by omega), fun _ => ?_⟩
    unfold tEx at k
    refine c_waits (G := G) (mg := mg) hp ((hF _ _ (by omega) (by omega) (by omega)).trans hst) hI.1 hI.2.1 (fun hh => ⟨hp, zr0, fun _ => ?_, fun g => absurd rfl g⟩) (fun hf hlt => ⟨hp, zr1, fun g => absurd g (by omega), fun _ => ⟨b, hP, kb, ?_⟩⟩) (by omega)
    · by_cases hf : S.2.2.2.2.2 = true
      · rw [if_pos hf] at k
        exact k m (EI_up hI (by omega))
      · rw [if_neg hf] at k
        have hn : S.1[S.2.2.2.1]? = none := List.getElem?_eq_none (by rcases hh with h | h; exact absurd h hf; exact h)
        rw [hn] at k
        exact k m (EI_up hI (by omega))
    · rw [if_neg (by rw [hf]; decide)] at k
      have he : S.1[S.2.2.2.1]? = some S.1[S.2.2.2.1] := List.getElem?_eq_getElem hlt
      generalize S.1[S.2.2.2.1] = e at he
      rw [he] at k
      dsimp only at k
      have hXm : BKC b sc ar N Lm Rm Lf Rf m := BKC_fr hb har hX fun a k g1 => hF a k (by omega) (by omega) (by omega)
      refine c_grow (d := d) (S := S) (e := e) (G := G) (mg := mg) (g := g) hp hb har hXm hZ hg hgo ((hF _ _ (by omega) (by omega) (by omega)).trans hgv) ((hF _ _ (by omega) (by omega) (by omega)).trans hmk) (by have := hI.2.2.1.2; omega) (by have := hI.2.2.2.1.2; omega) hI.1 hI.2.1 he hI.2.2.1.1 hI.2.2.2.1.1 (fun m' w1 w2 w3 w4 => ⟨hp, ?_, fun hz => ?_, fun hz => ?_⟩)
      · unfold i2b
        split <;> (constructor <;> decide)
      · have g2 : (tGr (ayw ar) mg N Lf Rf S e).2 = false := by
          unfold i2b at hz
          split at hz
          · exact absurd hz (by omega)
          · rename_i g; simpa using g
        rw [if_neg (by rw [g2]; decide)] at k
        have hI' : EI sc ar G mg m0 (A + (q + 1) * 3200) (tGr (ayw ar) mg N Lf Rf S e).1 m' := ⟨w1, tGr_TV har hZ hI.2.1 he, ⟨w2.1, by have := hI.2.2.1.2; have := w2.2; omega⟩, ⟨w3.1, by have := hI.2.2.2.1.2; have := w3.2; omega⟩, nwF_trans hF w4⟩
        have hx2 : (tGr (ayw ar) mg N Lf Rf S e).1.2.2.2.1 ≤ 100000 := by
          have := (tPl_K (q := (ndl e).length + (ndr e).length) (p := 0) har hZ (by omega) (⟨hI.2.1, he, rfl⟩ : tKp sc ar G mg S.2.2.2.1 e S)).2.2
          unfold tGr
          split
          · dsimp only; omega
          · rw [this]; omega
        exact stop (i := i + 1) (by omega) hI' (tGr_f g2) hx2 (by omega) (by have := k m' hI'; rw [Nat.add_zero] at this; exact this)
      · have g2 : (tGr (ayw ar) mg N Lf Rf S e).2 = true := by
          unfold i2b at hz
          split at hz
          · assumption
          · exact absurd rfl hz
        rw [if_pos g2] at k
        have hI' : EI sc ar G mg m0 (A + 3200) (tGr (ayw ar) mg N Lf Rf S e).1 m' := ⟨w1, tGr_TV har hZ hI.2.1 he, ⟨w2.1, by have := hI.2.2.1.2; have := w2.2; omega⟩, ⟨w3.1, by have := hI.2.2.2.1.2; have := w3.2; omega⟩, nwF_trans hF w4⟩
        have hx2 : (tGr (ayw ar) mg N Lf Rf S e).1.2.2.2.1 ≤ S.2.2.2.1 + 1 := by
          have := (tPl_K (q := (ndl e).length + (ndr e).length) (p := 0) har hZ (by omega) (⟨hI.2.1, he, rfl⟩ : tKp sc ar G mg S.2.2.2.1 e S)).2.2
          unfold tGr
          rw [if_pos (by unfold tGr at g2; split at g2; assumption; cases g2)]
          dsimp only; omega
        have := ih (i := i + 1) (A := A + 3200) (dn := dn + 1) (m := m') (by omega) hI' (by omega) (by omega) (by omega) (fun m'' hI'' => by
          have := k m'' (EI_up hI'' (by omega))
          rw [show dn + 1 + (tEx (ayw ar) mg N Lf Rf q (tGr (ayw ar) mg N Lf Rf S e).1).2 = dn + ((tEx (ayw ar) mg N Lf Rf q (tGr (ayw ar) mg N Lf Rf S e).1).2 + 1) by omega]
          exact this)
        exact this
/-- expand() -/
theorem c_expand {n : Int} {S : Ts} {st : Int} (hp : PP P) (hP : P 1 8 = some b) (hb : b = 54 ∨ b = 155) (har : arK sc ar) (hX : BKC b sc ar N Lm Rm Lf Rf m) (hZ : ∀ u, u < N → ZK sc ar (Lf u) (Rf u)) (hg : P 38 2 = some g) (hgo : g = 39 ∨ g = 256) (hz : Zr n) (hst : m 38 8 = st) (hs01 : st = 0 ∨ st = 1) (hgv : st = 1 → m g 7 = (G : Int) ∧ m 38 10 = (mg : Int) ∧ TCm S m ∧ TV sc ar G mg S ∧ S.2.2.2.1 ≤ 60000) (hA8 : m 8 8 + 600000 < 2147483647) (hA18 : m 18 8 + 600000 < 2147483647) (hAT8 : ATT 8 m) (hAT18 : ATT 18 m) {post : Int → Mi → Mj → Mp → Prop} (k0 : st = 0 ∨ n < 1 ∨ 100 < n → post (-1) m J P) (k1 : st = 1 → 1 ≤ n ∧ n ≤ 100 → ∀ m', EI sc ar G mg m 320000 (tEx (ayw ar) mg N Lf Rf n.toNat S).1 m' → post ((tEx (ayw ar) mg N Lf Rf n.toNat S).2 : Int) m' J P) : Ci X (d + 6) 105 [.ref 1, .int (iz n)] m J P post := by
  refine Ci.of rfl rfl rfl (b_Nh_expand_0 n m J P hp post ?_)
  rw [hst]
  refine ⟨hz, fun g => k0 (Or.inr (Or.inl g)), fun h1 => ⟨hz, fun g => k0 (Or.inr (Or.inr g)), fun h2 => ⟨by rcases hs01 with h | h <;> rw [h] <;> constructor <;> decide, fun h3 => ?_, fun h3 => k0 (Or.inl (by omega))⟩⟩⟩
  have h31 : st = 1 := by omega
  obtain ⟨v1, v2, v3, v4, v5⟩ := hgv h31
  obtain ⟨q, rfl⟩ := Int.eq_ofNat_of_zero_le (show 0 ≤ n by omega)
  have := c_ex_27 (X := X) (d := d) (P := P) (J := J) (n := q) (post := post) (m0 := m) hp hP hb har hX hZ hg hgo v1 (hst.trans h31) v2 hA8 hA18 (by omega) (q := q) (i := 0) (A := 0) (dn := 0) (S := S) (m := m) (by omega) ⟨v3, v4, ⟨hAT8, by omega⟩, ⟨hAT18, by omega⟩, fun _ _ _ _ _ => rfl⟩ (by omega) (by omega) (by omega) (fun m' hI => by
    have := k1 h31 (by omega) m' (EI_up hI (by omega))
    rw [Nat.zero_add]
    exact this)
  exact this
end CEX
