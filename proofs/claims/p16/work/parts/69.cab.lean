/-! the class looks whether a RULE's left TERM is ABOVE the right one -/
section CAB
variable {X : aX} {d : Nat} {P : Mp} {o L E : Nat} {cd : Nat → Int} {nx pt : Nat → Nat} {T : Nat → Nat → Prop} {m : Mi} {J : Mj}
/-- the EQUATION at o has these cells -/
def AC (o L E : Nat) (cd : Nat → Int) (nx : Nat → Nat) (m : Mi) : Prop := (m o 5 = L ∧ m o 6 = E) ∧ ∀ c : Nat, c < E → m (o + 1) c = cd c ∧ m (o + 2) c = nx c
/-- a cell of the table is as ABOVE says -/
def TC (m : Mi) (a : Nat) (k : Nat) (q : Prop) : Prop := (m a k = 0 ∨ m a k = 1) ∧ (m a k ≠ 0 ↔ q)
theorem c_isSame_28 {e t : Nat} (hp : PP P) (ko : am_kd an_K o = some (.inl 8)) (hA : AC o L E cd nx m) (hE : E ≤ 80) (he : nx e ≤ E ∧ e < nx e) (ht : t + (nx e - e) ≤ E) (hc : ∀ c, c < E → -8 ≤ cd c ∧ cd c < 16) {x4 : Int} (e4 : x4 = (nx e : Int) - e) {post : Int → Mi → Mj → Mp → Prop} : ∀ (q k : Nat), k + q = nx e - e → ((∀ j, k ≤ j → j < nx e - e → cd (e + j) = cd (t + j)) → post 1 m J P) → (¬ (∀ j, k ≤ j → j < nx e - e → cd (e + j) = cd (t + j)) → post 0 m J P) → Rn X d 44 28 [some (.ref 5), some (.ref o), some (.int (iz (e : Int))), some (.int (iz (t : Int))), some (.int (iz x4)), some (.int (iz (k : Int)))] [] (SS m J P) (QI post) := by
  intro q
  induction q with
  | zero =>
    intro k hk k1 k2
    exact b_Order_isSame_28 o e t x4 k ko m J P hp post ⟨by constructor <;> omega, by constructor <;> omega, fun _ => k1 (fun j h1 h2 => by omega), fun h => absurd (by omega) h⟩
  | succ q ih =>
    intro k hk k1 k2
    have ee : ((e : Int) + (k : Nat)).toNat = e + k := by omega
    have et : ((t : Int) + (k : Nat)).toNat = t + k := by omega
    have c1 := hc (e + k) (by omega)
    have c2 := hc (t + k) (by omega)
    refine b_Order_isSame_28 o e t x4 k ko m J P hp post ⟨by constructor <;> omega, by constructor <;> omega, fun h => absurd h (by omega), fun _ => ⟨by omega, by omega, ?_⟩⟩
    rw [ee, et, (hA.2 (e + k) (by omega)).1, (hA.2 (t + k) (by omega)).1]
    refine ⟨by constructor <;> omega, by constructor <;> omega, fun h => ih (k + 1) (by omega) (fun g => k1 fun j h1 h2 => ?_) (fun g => k2 fun g2 => g fun j h1 h2 => g2 j (by omega) h2), fun h => k2 fun g => h (g k (Nat.le_refl _) (by omega))⟩
    by_cases e2 : j = k
    · rw [e2]; exact h
    · exact g j (by omega) h2
theorem c_isSame {e t : Nat} (hp : PP P) (ko : am_kd an_K o = some (.inl 8)) (hA : AC o L E cd nx m) (hE : E ≤ 80) (he : nx e ≤ E ∧ e < nx e) (ht : nx t ≤ E ∧ t < nx t) (hc : ∀ c, c < E → -8 ≤ cd c ∧ cd c < 16) {post : Int → Mi → Mj → Mp → Prop} (k1 : smB cd nx e t → post 1 m J P) (k2 : ¬ smB cd nx e t → post 0 m J P) : Ci X d 44 [.ref 5, .ref o, .int (iz (e : Int)), .int (iz (t : Int))] m J P post := by
  have ee : ((e : Nat) : Int).toNat = e := by omega
  have et : ((t : Nat) : Int).toNat = t := by omega
  refine Ci.of rfl rfl rfl (b_Order_isSame_0 o e t ko m J P hp post ⟨by omega, by omega, ?_⟩)
  rw [ee, et, (hA.2 e (by omega)).2, (hA.2 t (by omega)).2]
  refine ⟨by constructor <;> omega, by constructor <;> omega, fun h => c_isSame_28 hp ko hA hE he (by omega) hc rfl (nx e - e) 0 (by omega) (fun g => k1 ⟨by omega, fun k hk => g k (Nat.zero_le _) hk⟩) (fun g => k2 fun g2 => g fun j _ h2 => g2.2 j h2), fun h => k2 fun g => h (by have := g.1; omega)⟩
theorem c_isAboveAt {e t : Nat} (hp : PP P) (ko : am_kd an_K o = some (.inl 8)) (hA : AC o L E cd nx m) (hL : L ≤ 40) (he : e < L) (ht : L ≤ t ∧ t < L + 40) (hT : TC m 6 (40 * e + (t - L)) (T e t)) {post : Int → Mi → Mj → Mp → Prop} (k1 : T e t → post 1 m J P) (k2 : ¬ T e t → post 0 m J P) : Ci X d 45 [.ref 5, .ref o, .int (iz (e : Int)), .int (iz (t : Int))] m J P post := by
  have ex : ((e : Int) * 40 + (t : Nat) - m o 5).toNat = 40 * e + (t - L) := by rw [hA.1.1]; omega
  refine Ci.of rfl rfl rfl (b_Order_isAboveAt_0 o e t ko m J P hp post ⟨by rw [hA.1.1]; omega, ?_⟩)
  rw [ex]
  refine ⟨hT.1, ?_⟩
  rcases hT.1 with h | h
  · rw [h]; exact k2 fun g => hT.2.mpr g h
  · rw [h]; exact k1 (hT.2.mp (by rw [h]; decide))
theorem c_lex_13 {s t : Nat} (hp : PP P) (ko : am_kd an_K o = some (.inl 8)) (hA : AC o L E cd nx m) (hR : Rw cd nx pt L E) (hL : L ≤ 40) (hE : E ≤ L + 40) (hs : s < L) (ht : L ≤ t ∧ t < E) (hT : ∀ e k, s < e → e < L → t < k → k < E → TC m 6 (40 * e + (k - L)) (T e k)) {post : Int → Mi → Mj → Mp → Prop} : ∀ (q k e f : Nat), k + q ≤ 4 → s < e → t < f → ch nx (nx s) q e → ch nx (nx t) q f → (lexL cd nx T q e f → post 1 m J P) → (¬ lexL cd nx T q e f → post 0 m J P) → Rn X (d + 1) 46 13 [some (.ref 5), some (.ref o), some (.int (iz (s : Int))), some (.int (iz (t : Int))), some (.int (iz (e : Int))), some (.int (iz (f : Int))), some (.int (iz (k : Int)))] [] (SS m J P) (QI post) := by
  have es : ((s : Nat) : Int).toNat = s := by omega
  have et : ((t : Nat) : Int).toNat = t := by omega
  have r1 := Rw_l hR hs
  have r2 := Rw_r hR ht.1 ht.2
  intro q
  induction q with
  | zero =>
    intro k e f hk h1 h2 c1 c2 k1 k2
    unfold ch at c1 c2
    have no : post 0 m J P := k2 (fun h => h.elim)
    refine b_Order_isAboveInArguments_13 o s t e f k ko m J P hp post ⟨by constructor <;> omega, fun _ => no, fun _ => ⟨by omega, by constructor <;> omega, ?_⟩⟩
    rw [es, (hA.2 s (by omega)).2]
    exact ⟨by constructor <;> omega, fun _ => no, fun h => absurd (by omega) h⟩
  | succ q ih =>
    intro k e f hk h1 h2 c1 c2 k1 k2
    have c1' := c1
    have c2' := c2
    unfold ch at c1 c2
    have ee : ((e : Nat) : Int).toNat = e := by omega
    have ef : ((f : Nat) : Int).toNat = f := by omega
    refine b_Order_isAboveInArguments_13 o s t e f k ko m J P hp post ⟨by constructor <;> omega, fun h => absurd h (by omega), fun _ => ⟨by omega, by constructor <;> omega, ?_⟩⟩
    rw [es, et, ee, ef, (hA.2 s (by omega)).2, (hA.2 t (by omega)).2]
    refine ⟨by constructor <;> omega, fun h => absurd h (by omega), fun _ => ⟨by omega, by constructor <;> omega, by constructor <;> omega, fun h => absurd h (by omega), fun _ => ?_⟩⟩
    refine c_isSame hp ko hA (by omega) ⟨by omega, c1.1⟩ ⟨by omega, c2.1⟩ hR.2.2.2.2.2 (fun g => ⟨hp, zr1, fun _ => ⟨by omega, by omega, ?_⟩, fun h => absurd (by decide) h⟩) (fun g => ⟨hp, zr0, fun h => absurd rfl h, fun _ => c_isAboveAt (T := T) hp ko hA hL (by omega) (by omega) (hT e f h1 (by omega) h2 (by omega)) (fun h => ⟨hp, Or.inr rfl, k1 (Or.inr ⟨g, h⟩)⟩) (fun h => ⟨hp, Or.inl rfl, k2 fun h2 => h2.elim (fun h3 => g h3.1) (fun h3 => h h3.2)⟩)⟩)
    rw [(hA.2 e (by omega)).2, (hA.2 f (by omega)).2]
    exact ih (k + 1) (nx e) (nx f) (by omega) (by omega) (by omega) c1.2.2 c2.2.2 (fun h => k1 (Or.inl ⟨g, h⟩)) (fun h => k2 fun h2 => h2.elim (fun h3 => h h3.2) (fun h3 => h3.1 g))
theorem c_settles_109 {s t : Nat} {x4 : Int} (hp : PP P) (ko : am_kd an_K o = some (.inl 8)) (hA : AC o L E cd nx m) (hR : Rw cd nx pt L E) (hL : L ≤ 40) (hE : E ≤ L + 40) (hs : s < L) (ht : L ≤ t ∧ t < E) (h0 : 0 ≤ cd t ∧ cd t ≤ cd s) (hT : ∀ e k, (s < e ∧ e < L ∧ t ≤ k ∧ k < E) ∨ (e = s ∧ t < k ∧ k < E) → TC m 6 (40 * e + (k - L)) (T e k)) {post : Int → Mi → Mj → Mp → Prop} : ∀ (q k f : Nat), k + q ≤ 4 → t < f → ch nx (nx t) q f → (allB nx (fun f => T s f) q f ∧ (cd t < cd s ∨ lexL cd nx T (pt t) (s + 1) (t + 1)) → post 1 m J P) → (¬ (allB nx (fun f => T s f) q f ∧ (cd t < cd s ∨ lexL cd nx T (pt t) (s + 1) (t + 1))) → post 0 m J P) → Rn X (d + 2) 43 109 [some (.ref 5), some (.ref o), some (.int (iz (s : Int))), some (.int (iz (t : Int))), some (.int (iz x4)), some (.int (iz (f : Int))), some (.int (iz (k : Int)))] [] (SS m J P) (QI post) := by
  have es : ((s : Nat) : Int).toNat = s := by omega
  have et : ((t : Nat) : Int).toNat = t := by omega
  have r1 := Rw_l hR hs
  have r2 := Rw_r hR ht.1 ht.2
  have b1 := hR.2.2.2.2.2 s (by omega)
  have b2 := hR.2.2.2.2.2 t (by omega)
  have p4 := hR.2.2.2.2.1 t (by omega)
  intro q
  induction q with
  | zero =>
    intro k f hk h2 c2 k1 k2
    unfold ch at c2
    have last : ((0 : Int) ≤ (s : Int) ∧ (s : Int) < 80) ∧ ((0 : Int) ≤ (t : Int) ∧ (t : Int) < 80) ∧ Zr (cd s) ∧ Zr (cd t) ∧ ((cd t < cd s → post 1 m J P) ∧ (¬ (cd t < cd s) → Ci X (d + 1) 46 [.ref 5, .ref o, .int (iz (s : Int)), .int (iz (t : Int))] m J P (fun z9 m6 J7 P8 => PP P8 ∧ Zr z9 ∧ ((z9 = 0 → post 0 m6 J7 P8) ∧ (¬ (z9 = 0) → post 1 m6 J7 P8))))) := by
      refine ⟨by omega, by omega, by constructor <;> omega, by constructor <;> omega, fun h => k1 ⟨trivial, Or.inl h⟩, fun h => ?_⟩
      have ep : pt t = pt s := hR.2.2.2.1 t s ht.2 (by omega) h0.1 (by omega)
      exact Ci.of rfl rfl rfl (b_Order_isAboveInArguments_0 o s t ko m J P hp _ (c_lex_13 (T := T) hp ko hA hR hL hE hs ht (fun e k g1 g2 g3 g4 => hT e k (Or.inl ⟨g1, g2, by omega, g4⟩)) (pt t) 0 (s + 1) (t + 1) (by omega) (by omega) (by omega) (by rw [ep]; exact r1.2.2) r2.2.2 (fun g => ⟨hp, zr1, fun h => absurd h (by decide), fun _ => k1 ⟨trivial, Or.inr g⟩⟩) (fun g => ⟨hp, zr0, fun _ => k2 fun g2 => g2.2.elim h g, fun h => absurd rfl h⟩)))
    refine b_Order_settles_109 o s t x4 f k ko m J P hp post ⟨by constructor <;> omega, fun _ => ?_, fun _ => ⟨by omega, by constructor <;> omega, ?_⟩⟩
    · rw [es, et, (hA.2 s (by omega)).1, (hA.2 t (by omega)).1]
      exact last
    · rw [es, et, (hA.2 s (by omega)).1, (hA.2 t (by omega)).1, (hA.2 t (by omega)).2]
      exact ⟨by constructor <;> omega, fun _ => last, fun h => absurd (by omega) h⟩
  | succ q ih =>
    intro k f hk h2 c2 k1 k2
    unfold ch at c2
    have ef : ((f : Nat) : Int).toNat = f := by omega
    refine b_Order_settles_109 o s t x4 f k ko m J P hp post ⟨by constructor <;> omega, fun h => absurd h (by omega), fun _ => ⟨by omega, by constructor <;> omega, ?_⟩⟩
    rw [et, ef, (hA.2 t (by omega)).2]
    refine ⟨by constructor <;> omega, fun h => absurd h (by omega), fun _ => ?_⟩
    refine c_isAboveAt (T := T) hp ko hA hL hs (by omega) (hT s f (Or.inr ⟨rfl, h2, by omega⟩)) (fun g => ⟨hp, zr1, fun _ => ⟨by omega, ?_⟩, fun h => absurd (by decide) h⟩) (fun g => ⟨hp, zr0, fun h => absurd rfl h, fun _ => k2 fun h => g h.1.1⟩)
    rw [(hA.2 f (by omega)).2]
    exact ih (k + 1) (nx f) (by omega) (by omega) c2.2.2 (fun h => k1 ⟨⟨g, h.1⟩, h.2⟩) (fun h => k2 fun h2 => h ⟨h2.1.2, h2.2⟩)
theorem c_settles_19 {s t : Nat} (hp : PP P) (ko : am_kd an_K o = some (.inl 8)) (hA : AC o L E cd nx m) (hR : Rw cd nx pt L E) (hL : L ≤ 40) (hE : E ≤ L + 40) (hs : s < L) (ht : L ≤ t ∧ t < E) (hT : ∀ e k, (s < e ∧ e < L ∧ t ≤ k ∧ k < E) ∨ (e = s ∧ t < k ∧ k < E) → TC m 6 (40 * e + (k - L)) (T e k)) {post : Int → Mi → Mj → Mp → Prop} : ∀ (q k e : Nat), k + q ≤ 4 → s < e → ch nx (nx s) q e → (anyA nx (fun e => smB cd nx e t ∨ T e t) q e ∨ (0 ≤ cd t ∧ cd t ≤ cd s ∧ allB nx (fun f => T s f) (pt t) (t + 1) ∧ (cd t < cd s ∨ lexL cd nx T (pt t) (s + 1) (t + 1))) → post 1 m J P) → (¬ (anyA nx (fun e => smB cd nx e t ∨ T e t) q e ∨ (0 ≤ cd t ∧ cd t ≤ cd s ∧ allB nx (fun f => T s f) (pt t) (t + 1) ∧ (cd t < cd s ∨ lexL cd nx T (pt t) (s + 1) (t + 1)))) → post 0 m J P) → Rn X (d + 2) 43 19 [some (.ref 5), some (.ref o), some (.int (iz (s : Int))), some (.int (iz (t : Int))), some (.int (iz (e : Int))), some (.int (iz (k : Int))), none] [] (SS m J P) (QI post) := by
  have es : ((s : Nat) : Int).toNat = s := by omega
  have et : ((t : Nat) : Int).toNat = t := by omega
  have r1 := Rw_l hR hs
  have r2 := Rw_r hR ht.1 ht.2
  have b1 := hR.2.2.2.2.2 s (by omega)
  have b2 := hR.2.2.2.2.2 t (by omega)
  have p4 := hR.2.2.2.2.1 t (by omega)
  intro q
  induction q with
  | zero =>
    intro k e hk h1 c1 k1 k2
    unfold ch at c1
    have last : ((0 : Int) ≤ (t : Int) ∧ (t : Int) < 80) ∧ Zr (cd t) ∧ ((cd t < 0 → post 0 m J P) ∧ (¬ (cd t < 0) → ((0 : Int) ≤ (s : Int) ∧ (s : Int) < 80) ∧ ((0 : Int) ≤ (t : Int) ∧ (t : Int) < 80) ∧ Zr (cd s) ∧ Zr (cd t) ∧ ((cd t ≤ cd s → Rn X (d + 2) 43 109 [some (.ref 5), some (.ref o), some (.int (iz (s : Int))), some (.int (iz (t : Int))), some (.int (iz (e : Int))), some (.int (iz ((t : Int) + 1))), some (.int (iz 0))] [] (SS m J P) (QI post)) ∧ (¬ (cd t ≤ cd s) → post 0 m J P)))) := by
      refine ⟨by omega, by constructor <;> omega, fun h => k2 fun g => g.elim (fun h => h.elim) (fun g => by omega), fun h => ⟨by omega, by omega, by constructor <;> omega, by constructor <;> omega, fun h2 => ?_, fun h2 => k2 fun g => g.elim (fun h => h.elim) (fun g => h2 g.2.1)⟩⟩
      exact c_settles_109 (T := T) hp ko hA hR hL hE hs ht ⟨by omega, h2⟩ hT (pt t) 0 (t + 1) (by omega) (by omega) r2.2.2 (fun g => k1 (Or.inr ⟨by omega, h2, g.1, g.2⟩)) (fun g => k2 fun g2 => g2.elim (fun h => h.elim) (fun g3 => g ⟨g3.2.2.1, g3.2.2.2⟩))
    refine b_Order_settles_19 o s t e k ko m J P hp post ⟨by constructor <;> omega, fun _ => ?_, fun _ => ⟨by omega, by constructor <;> omega, ?_⟩⟩
    · rw [es, et, (hA.2 s (by omega)).1, (hA.2 t (by omega)).1]
      exact last
    · rw [es, et, (hA.2 s (by omega)).1, (hA.2 t (by omega)).1, (hA.2 s (by omega)).2]
      exact ⟨by constructor <;> omega, fun _ => last, fun h => absurd (by omega) h⟩
  | succ q ih =>
    intro k e hk h1 c1 k1 k2
    unfold ch at c1
    have ee : ((e : Nat) : Int).toNat = e := by omega
    refine b_Order_settles_19 o s t e k ko m J P hp post ⟨by constructor <;> omega, fun h => absurd h (by omega), fun _ => ⟨by omega, by constructor <;> omega, ?_⟩⟩
    rw [es, ee, (hA.2 s (by omega)).2]
    refine ⟨by constructor <;> omega, fun h => absurd h (by omega), fun _ => ?_⟩
    refine c_isSame hp ko hA (by omega) ⟨by omega, c1.1⟩ ⟨r2.2.1, r2.1⟩ hR.2.2.2.2.2 (fun g => ⟨hp, zr1, fun _ => k1 (Or.inl (Or.inl (Or.inl g))), fun h => absurd (by decide) h⟩) (fun g => ⟨hp, zr0, fun h => absurd rfl h, fun _ => c_isAboveAt (T := T) hp ko hA hL (by omega) (by omega) (hT e t (Or.inl ⟨h1, by omega, Nat.le_refl _, ht.2⟩)) (fun g2 => ⟨hp, zr1, fun h => absurd h (by decide), fun _ => k1 (Or.inl (Or.inl (Or.inr g2)))⟩) (fun g2 => ⟨hp, zr0, fun _ => ⟨by omega, ?_⟩, fun h => absurd rfl h⟩)⟩)
    rw [(hA.2 e (by omega)).2]
    refine ih (k + 1) (nx e) (by omega) (by omega) c1.2.2 (fun h => k1 (h.imp (fun h => Or.inr h) id)) (fun h => k2 fun h2 => h (h2.imp (fun h3 => ?_) id))
    exact h3.elim (fun h4 => absurd h4 (fun h5 => h5.elim g g2)) id
theorem c_settles {s t : Nat} (hp : PP P) (ko : am_kd an_K o = some (.inl 8)) (hA : AC o L E cd nx m) (hR : Rw cd nx pt L E) (hL : L ≤ 40) (hE : E ≤ L + 40) (hs : s < L) (ht : L ≤ t ∧ t < E) (hT : ∀ e k, (s < e ∧ e < L ∧ t ≤ k ∧ k < E) ∨ (e = s ∧ t < k ∧ k < E) → TC m 6 (40 * e + (k - L)) (T e k)) {post : Int → Mi → Mj → Mp → Prop} (k1 : ab2 cd nx pt T s t → post 1 m J P) (k2 : ¬ ab2 cd nx pt T s t → post 0 m J P) : Ci X (d + 2) 43 [.ref 5, .ref o, .int (iz (s : Int)), .int (iz (t : Int))] m J P post := by
  have es : ((s : Nat) : Int).toNat = s := by omega
  have r1 := Rw_l hR hs
  have b1 := hR.2.2.2.2.2 s (by omega)
  have p4 := hR.2.2.2.2.1 s (by omega)
  refine Ci.of rfl rfl rfl (b_Order_settles_0 o s t ko m J P hp post ⟨by omega, ?_⟩)
  rw [es, (hA.2 s (by omega)).1]
  refine ⟨by constructor <;> omega, fun h => ?_, fun h => k2 fun g => h g.1⟩
  exact c_settles_19 (T := T) hp ko hA hR hL hE hs ht hT (pt s) 0 (s + 1) (by omega) (by omega) r1.2.2 (fun g => k1 ⟨h, g⟩) (fun g => k2 fun g2 => g g2.2)
theorem AC_fr {m' : Mi} (h : AC o L E cd nx m) (ho : 39 ≤ o) (f : ∀ a k, a ≠ 6 → m' a k = m a k) : AC o L E cd nx m' := by
  obtain ⟨⟨h1, h2⟩, h3⟩ := h
  refine ⟨⟨by rw [f _ _ (by omega)]; exact h1, by rw [f _ _ (by omega)]; exact h2⟩, fun c hc => ?_⟩
  rw [f _ _ (by omega), f _ _ (by omega)]
  exact h3 c hc
theorem c_isAbove_7 (hp : PP P) (ko : am_kd an_K o = some (.inl 8)) (ho : 39 ≤ o) (hR : Rw cd nx pt L E) (hL : L ≤ 40) (hE : E ≤ L + 40) {m0 : Mi} {post : Int → Mi → Mj → Mp → Prop} (k1 : abT cd nx pt E 0 L → ∀ m', (∀ a k, a ≠ 6 → m' a k = m0 a k) → post 1 m' J P) (k2 : ¬ abT cd nx pt E 0 L → ∀ m', (∀ a k, a ≠ 6 → m' a k = m0 a k) → post 0 m' J P) : ∀ (i : Nat) (m : Mi), i ≤ L → AC o L E cd nx m → (∀ a k, a ≠ 6 → m a k = m0 a k) → (∀ e k, i ≤ e → e < L → L ≤ k → k < E → TC m 6 (40 * e + (k - L)) (abT cd nx pt E e k)) → Rn X (d + 3) 42 7 [some (.ref 5), some (.ref o), some (.int (iz ((i : Int) - 1))), none] [] (SS m J P) (QI post) := by
  have hLE := Rw_LE hR
  intro i
  induction i with
  | zero =>
    intro m hi hA hf hT
    have h := hT 0 L (Nat.le_refl _) hLE.1 (Nat.le_refl _) hLE.2
    rw [show 40 * 0 + (L - L) = 0 by omega] at h
    have ez : (0 : Int).toNat = 0 := rfl
    refine b_Order_isAbove_7 o _ ko m J P hp post ⟨by constructor <;> omega, fun _ => ⟨by decide, ?_⟩, fun g => absurd (by omega) g⟩
    rw [ez]
    refine ⟨h.1, ?_⟩
    rcases h.1 with g | g
    · rw [g]; exact k2 (fun q => h.2.mpr q g) m hf
    · rw [g]; exact k1 (h.2.mp (by rw [g]; decide)) m hf
  | succ i ih =>
    intro m hi hA hf hT
    have inner : ∀ (j : Nat) (m : Mi), L + j ≤ E → AC o L E cd nx m → (∀ a k, a ≠ 6 → m a k = m0 a k) → (∀ e k, (i < e ∧ e < L ∧ L ≤ k ∧ k < E) ∨ (e = i ∧ L + j ≤ k ∧ k < E) → TC m 6 (40 * e + (k - L)) (abT cd nx pt E e k)) → Rn X (d + 3) 42 18 [some (.ref 5), some (.ref o), some (.int (iz ((i + 1 : Nat) - 1 : Int))), some (.int (iz ((L + j : Nat) - 1 : Int)))] [] (SS m J P) (QI post) := by
      intro j
      induction j with
      | zero =>
        intro m hj hA hf hT
        refine b_Order_isAbove_18 o _ _ ko m J P hp post ⟨by constructor <;> omega, by rw [hA.1.1]; constructor <;> omega, fun _ => ?_, fun g => absurd (by rw [hA.1.1]; omega) g⟩
        rw [show (((i + 1 : Nat) : Int) - 1) + (-1) = (i : Int) - 1 by omega]
        exact ih m (by omega) hA hf (fun e k h1 h2 h3 h4 => hT e k (by omega))
      | succ j jh =>
        intro m hj hA hf hT
        have e1 : (((i + 1 : Nat) : Int) - 1) = ((i : Nat) : Int) := by omega
        have e2 : (((L + (j + 1) : Nat) : Int) - 1) = ((L + j : Nat) : Int) := by omega
        refine b_Order_isAbove_18 o _ _ ko m J P hp post ⟨by constructor <;> omega, by rw [hA.1.1]; constructor <;> omega, fun g => absurd g (by rw [hA.1.1]; omega), fun _ => ?_⟩
        have eix : ((((i : Nat) : Int) * 40) + ((L + j : Nat) : Int) - m o 5).toNat = 40 * i + (L + j - L) := by rw [hA.1.1]; omega
        have nxt : ∀ z : Int, (z = 0 ∨ z = 1) → (z ≠ 0 ↔ ab2 cd nx pt (abT cd nx pt E) i (L + j)) → Rn X (d + 3) 42 18 [some (.ref 5), some (.ref o), some (.int (iz ((i + 1 : Nat) - 1 : Int))), some (.int (iz ((L + j : Nat) - 1 : Int)))] [] (SS (mu m 6 (40 * i + (L + j - L)) z) J P) (QI post) := fun z hz hz2 => by
          refine jh _ (by omega) (AC_fr hA ho (fun a k h => mu_ne _ _ (by omega))) (fun a k h => by rw [mu_ne _ _ (by omega)]; exact hf a k h) (fun e k h => ?_)
          by_cases eq : e = i ∧ k = L + j
          · unfold TC
            rw [eq.1, eq.2, mu_at]
            exact ⟨hz, hz2.trans (abT_eq hR (by omega) (by omega)).symm⟩
          · unfold TC
            rw [mu_ne _ _ (by omega)]
            exact hT e k (by omega)
        rw [e1, e2]
        refine c_settles (T := abT cd nx pt E) hp ko hA hR hL hE (by omega) (by omega) (fun e k h => hT e k (by omega)) (fun g => ⟨hp, by rw [hA.1.1]; omega, Or.inr rfl, ?_⟩) (fun g => ⟨hp, by rw [hA.1.1]; omega, Or.inl rfl, ?_⟩)
        · rw [eix]
          have := nxt 1 (Or.inr rfl) ⟨fun _ => g, fun _ => by decide⟩
          rw [e1] at this
          exact this
        · rw [eix]
          have := nxt 0 (Or.inl rfl) ⟨fun h => absurd rfl h, fun h => absurd h g⟩
          rw [e1] at this
          exact this
    refine b_Order_isAbove_7 o _ ko m J P hp post ⟨by constructor <;> omega, fun g => absurd g (by omega), fun _ => ?_⟩
    have := inner (E - L) m (by omega) hA hf (fun e k h => hT e k (by omega) (by omega) (by omega) (by omega))
    rw [show L + (E - L) = E by omega] at this
    rw [hA.1.2]
    exact this
theorem c_isAbove (hp : PP P) (ko : am_kd an_K o = some (.inl 8)) (ho : 39 ≤ o) (hR : Rw cd nx pt L E) (hL : L ≤ 40) (hE : E ≤ L + 40) (hA : AC o L E cd nx m) {post : Int → Mi → Mj → Mp → Prop} (k1 : abT cd nx pt E 0 L → ∀ m', (∀ a k, a ≠ 6 → m' a k = m a k) → post 1 m' J P) (k2 : ¬ abT cd nx pt E 0 L → ∀ m', (∀ a k, a ≠ 6 → m' a k = m a k) → post 0 m' J P) : Ci X (d + 3) 42 [.ref 5, .ref o] m J P post := by
  refine Ci.of rfl rfl rfl (b_Order_isAbove_0 o ko m J P hp post ?_)
  rw [hA.1.1]
  exact c_isAbove_7 hp ko ho hR hL hE k1 k2 L m (Nat.le_refl _) hA (fun _ _ _ => rfl) (fun e k h1 h2 => absurd h2 (by omega))
end CAB
