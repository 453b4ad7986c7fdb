/-! the reference looks whether a RULE's left TERM is ABOVE the right one -/
section RAB
variable {X : aX} {d : Nat} {P : Mp} {L E : Nat} {cd : Nat → Int} {nx pt : Nat → Nat} {m : Mi} {J : Mj}
/-- the reference's rows of two sides -/
def RA (L E : Nat) (cd : Nat → Int) (nx pt : Nat → Nat) (m : Mi) : Prop := (m 262 56 = L ∧ m 262 57 = (E : Int) - L) ∧ (∀ c : Nat, c < L → m 291 c = cd c ∧ m 293 c = nx c) ∧ (∀ j : Nat, L + j < E → m 292 j = cd (L + j) ∧ m 294 j = (nx (L + j) : Int) - L) ∧ ∀ c : Nat, c < E → 0 ≤ cd c → m 268 (cd c).toNat = pt c
theorem r_isLike_23 {e j : Nat} (hp : PP P) (hA : RA L E cd nx pt m) (hL : L ≤ 40) (hE : E ≤ L + 40) (he : e < L ∧ nx e ≤ L ∧ e < nx e) (hj : L + j + (nx e - e) ≤ E) (hc : ∀ c, c < E → -8 ≤ cd c ∧ cd c < 16) {post : Int → Mi → Mj → Mp → Prop} : ∀ (q k : Nat), k + q = nx e - e → ((∀ i, k ≤ i → i < nx e - e → cd (e + i) = cd (L + j + i)) → post 1 m J P) → (¬ (∀ i, k ≤ i → i < nx e - e → cd (e + i) = cd (L + j + i)) → post 0 m J P) → Rn X d 158 23 [some (.ref 262), some (.int (iz (e : Int))), some (.int (iz (j : Int))), some (.int (iz (k : Int)))] [] (SS m J P) (QI post) := by
  have ee : ((e : Nat) : Int).toNat = e := by omega
  intro q
  induction q with
  | zero =>
    intro k hk k1 k2
    refine b_Mdl_isLike_23 e j k m J P hp post ⟨by omega, by constructor <;> omega, ?_⟩
    rw [ee, (hA.2.1 e he.1).2]
    exact ⟨by constructor <;> omega, fun _ => k1 (fun j h1 h2 => by omega), fun h => absurd (by omega) h⟩
  | succ q ih =>
    intro k hk k1 k2
    have e1 : ((e : Int) + (k : Nat)).toNat = e + k := by omega
    have e2 : ((j : Int) + (k : Nat)).toNat = j + k := by omega
    have c1 := hc (e + k) (by omega)
    have c2 := hc (L + j + k) (by omega)
    refine b_Mdl_isLike_23 e j k m J P hp post ⟨by omega, by constructor <;> omega, ?_⟩
    rw [ee, e1, e2, (hA.2.1 e he.1).2, (hA.2.1 (e + k) (by omega)).1, (hA.2.2.1 (j + k) (by omega)).1, show L + (j + k) = L + j + k by omega]
    refine ⟨by constructor <;> omega, fun h => absurd h (by omega), fun _ => ⟨by omega, by omega, by constructor <;> omega, by constructor <;> omega, fun h => ih (k + 1) (by omega) (fun g => k1 fun i h1 h2 => ?_) (fun g => k2 fun g2 => g fun i h1 h2 => g2 i (by omega) h2), fun h => k2 fun g => h (g k (Nat.le_refl _) (by omega))⟩⟩
    by_cases eq : i = k
    · rw [eq]; exact h
    · exact g i (by omega) h2
theorem r_isLike {e t : Nat} {x2 : Int} (hp : PP P) (hA : RA L E cd nx pt m) (hL : L ≤ 40) (hE : E ≤ L + 40) (he : e < L ∧ nx e ≤ L ∧ e < nx e) (ht : L ≤ t ∧ nx t ≤ E ∧ t < nx t) (hc : ∀ c, c < E → -8 ≤ cd c ∧ cd c < 16) (hx : x2 = (t : Int) - L) {post : Int → Mi → Mj → Mp → Prop} (k1 : smB cd nx e t → post 1 m J P) (k2 : ¬ smB cd nx e t → post 0 m J P) : Ci X d 158 [.ref 262, .int (iz (e : Int)), .int (iz x2)] m J P post := by
  have ex : x2 = ((t - L : Nat) : Int) := by omega
  have ee : ((e : Nat) : Int).toNat = e := by omega
  have et : (((t - L : Nat)) : Int).toNat = t - L := by omega
  have hb := (hA.2.2.1 (t - L) (by omega)).2
  rw [show L + (t - L) = t by omega] at hb
  rw [ex]
  refine Ci.of rfl rfl rfl (b_Mdl_isLike_0 e _ m J P hp post ⟨by omega, by omega, ?_⟩)
  rw [ee, et, (hA.2.1 e he.1).2, hb]
  refine ⟨by constructor <;> omega, by constructor <;> omega, fun h => r_isLike_23 hp hA hL hE he (by omega) hc (nx e - e) 0 (by omega) (fun g => k1 ⟨by omega, fun k hk => ?_⟩) (fun g => k2 fun g2 => g fun i _ h2 => ?_), fun h => k2 fun g => h (by have := g.1; omega)⟩
  · have := g k (Nat.zero_le _) hk
    rw [show L + (t - L) + k = t + k by omega] at this
    exact this
  · rw [show L + (t - L) + i = t + i by omega]
    exact g2.2 i h2
theorem r_hasVariable {s : Nat} {v : Int} (hp : PP P) (hA : RA L E cd nx pt m) (hL : L ≤ 40) (hE : E ≤ L + 40) (hs : s < L ∧ nx s ≤ L ∧ s < nx s) (hc : ∀ c, c < E → -8 ≤ cd c ∧ cd c < 16) (hLE : L < E) (hv : -8 ≤ v ∧ v < 16) {post : Int → Mi → Mj → Mp → Prop} (k1 : (∃ k, s ≤ k ∧ k < nx s ∧ cd k = v) → post 1 m J P) (k2 : ¬ (∃ k, s ≤ k ∧ k < nx s ∧ cd k = v) → post 0 m J P) : Ci X d 157 [.ref 262, .int (iz (s : Int)), .int (iz v)] m J P post := by
  have es : ((s : Nat) : Int).toNat = s := by omega
  have loop : ∀ (q k : Nat), k + q = nx s → s ≤ k → (¬ ∃ i, s ≤ i ∧ i < k ∧ cd i = v) → Rn X d 157 2 [some (.ref 262), some (.int (iz (s : Int))), some (.int (iz v)), some (.int (iz (k : Int)))] [] (SS m J P) (QI post) := by
    intro q
    induction q with
    | zero =>
      intro k hk h1 h2
      refine b_Mdl_hasVariable_2 s v k m J P hp post ⟨by omega, by constructor <;> omega, ?_⟩
      rw [es, (hA.2.1 s hs.1).2]
      refine ⟨by constructor <;> omega, fun _ => k2 ?_, fun h => absurd (by omega) h⟩
      rw [show nx s = k by omega]
      exact h2
    | succ q ih =>
      intro k hk h1 h2
      have ek : ((k : Nat) : Int).toNat = k := by omega
      have ck := hc k (by omega)
      refine b_Mdl_hasVariable_2 s v k m J P hp post ⟨by omega, by constructor <;> omega, ?_⟩
      rw [es, ek, (hA.2.1 s hs.1).2, (hA.2.1 k (by omega)).1]
      refine ⟨by constructor <;> omega, fun h => absurd h (by omega), fun _ => ⟨by omega, by constructor <;> omega, by constructor <;> omega, fun h => ih (k + 1) (by omega) (by omega) ?_, fun h => k1 ⟨k, h1, by omega, Classical.not_not.mp h⟩⟩⟩
      rintro ⟨i, i1, i2, i3⟩
      by_cases eq : i = k
      · exact h (by rw [← eq]; exact i3)
      · exact h2 ⟨i, i1, by omega, i3⟩
  exact Ci.of rfl rfl rfl (b_Mdl_hasVariable_0 s v m J P hp post (loop (nx s - s) s (by omega) (Nat.le_refl _) (fun ⟨i, i1, i2, _⟩ => by omega)))
variable {T : Nat → Nat → Prop}
theorem r_above_195 {s t : Nat} {x2 : Int} (hp : PP P) (hA : RA L E cd nx pt m) (hR : Rw cd nx pt L E) (hL : L ≤ 40) (hE : E ≤ L + 40) (hs : s < L) (ht : L ≤ t ∧ t < E) (hx : x2 = (t : Int) - L) (h0 : 0 ≤ cd t) (hT : ∀ e k, s < e → e < L → t < k → k < E → TC m 295 (40 * e + (k - L)) (T e k)) {post : Int → Mi → Mj → Mp → Prop} : ∀ (q k e f : Nat) (x4 : Int), k + q = pt t → s < e → t < f → x4 = (f : Int) - L → ch nx (nx s) q e → ch nx (nx t) q f → (lexL cd nx T q e f → post 1 m J P) → (¬ lexL cd nx T q e f → post 0 m J P) → Rn X (d + 1) 156 195 [some (.ref 262), some (.int (iz (s : Int))), some (.int (iz x2)), some (.int (iz (e : Int))), some (.int (iz x4)), some (.int (iz (k : Int)))] [] (SS m J P) (QI post) := by
  have r1 := Rw_l hR hs
  have r2 := Rw_r hR ht.1 ht.2
  have p4 := hR.2.2.2.2.1 t ht.2
  have ct := hR.2.2.2.2.2 t ht.2
  have et : x2.toNat = t - L := by omega
  have bt := (hA.2.2.1 (t - L) (by omega)).1
  rw [show L + (t - L) = t by omega] at bt
  have ar := hA.2.2.2 t ht.2 h0
  intro q
  induction q with
  | zero =>
    intro k e f x4 hk h1 h2 hx4 c1 c2 k1 k2
    refine b_Mdl_above_195 s x2 e x4 k m J P hp post ⟨by omega, ?_⟩
    rw [et, bt, ar]
    exact ⟨by omega, by constructor <;> omega, by constructor <;> omega, fun _ => k2 (fun h => h.elim), fun h => absurd (by omega) h⟩
  | succ q ih =>
    intro k e f x4 hk h1 h2 hx4 c1 c2 k1 k2
    unfold ch at c1 c2
    have ee : ((e : Nat) : Int).toNat = e := by omega
    have ef : x4.toNat = f - L := by omega
    have bf := (hA.2.2.1 (f - L) (by omega)).2
    rw [show L + (f - L) = f by omega] at bf
    refine b_Mdl_above_195 s x2 e x4 k m J P hp post ⟨by omega, ?_⟩
    rw [et, bt, ar]
    refine ⟨by omega, by constructor <;> omega, by constructor <;> omega, fun h => absurd h (by omega), fun _ => ?_⟩
    refine r_isLike hp hA hL hE ⟨by omega, by omega, c1.1⟩ (t := f) ⟨by omega, by omega, c2.1⟩ hR.2.2.2.2.2 hx4 (fun g => ⟨hp, zr1, fun _ => ⟨by omega, by omega, ?_⟩, fun h => absurd (by decide) h⟩) (fun g => ⟨hp, zr0, fun h => absurd rfl h, fun _ => ⟨by omega, ?_⟩⟩)
    · rw [ee, ef, (hA.2.1 e (by omega)).2, bf]
      exact ih (k + 1) (nx e) (nx f) _ (by omega) (by omega) (by omega) rfl c1.2.2 c2.2.2 (fun h => k1 (Or.inl ⟨g, h⟩)) (fun h => k2 fun h2 => h2.elim (fun h3 => h h3.2) (fun h3 => h3.1 g))
    · have ei : (40 * ((e : Nat) : Int) + x4).toNat = 40 * e + (f - L) := by omega
      rw [ei]
      have tc := hT e f h1 (by omega) h2 (by omega)
      refine ⟨tc.1, ?_⟩
      rcases tc.1 with h | h
      · rw [h]; exact k2 fun h2 => h2.elim (fun h3 => g h3.1) (fun h3 => tc.2.mpr h3.2 h)
      · rw [h]; exact k1 (Or.inr ⟨g, tc.2.mp (by rw [h]; decide)⟩)
theorem r_above_118 {s t : Nat} {x2 x3 : Int} (hp : PP P) (hA : RA L E cd nx pt m) (hR : Rw cd nx pt L E) (hL : L ≤ 40) (hE : E ≤ L + 40) (hs : s < L) (ht : L ≤ t ∧ t < E) (hx : x2 = (t : Int) - L) (h0 : 0 ≤ cd t ∧ cd t ≤ cd s) (hT : ∀ e k, (s < e ∧ e < L ∧ t ≤ k ∧ k < E) ∨ (e = s ∧ t < k ∧ k < E) → TC m 295 (40 * e + (k - L)) (T e k)) {post : Int → Mi → Mj → Mp → Prop} : ∀ (q k f : Nat) (x4 : Int), k + q = pt t → t < f → x4 = (f : Int) - L → ch nx (nx t) q f → (allB nx (fun f => T s f) q f ∧ (cd t < cd s ∨ lexL cd nx T (pt t) (s + 1) (t + 1)) → post 1 m J P) → (¬ (allB nx (fun f => T s f) q f ∧ (cd t < cd s ∨ lexL cd nx T (pt t) (s + 1) (t + 1))) → post 0 m J P) → Rn X (d + 1) 156 118 [some (.ref 262), some (.int (iz (s : Int))), some (.int (iz x2)), some (.int (iz x3)), some (.int (iz x4)), some (.int (iz (k : Int)))] [] (SS m J P) (QI post) := by
  have r1 := Rw_l hR hs
  have r2 := Rw_r hR ht.1 ht.2
  have p4 := hR.2.2.2.2.1 t ht.2
  have ct := hR.2.2.2.2.2 t ht.2
  have cs := hR.2.2.2.2.2 s (by omega)
  have es : ((s : Nat) : Int).toNat = s := by omega
  have et : x2.toNat = t - L := by omega
  have bt := (hA.2.2.1 (t - L) (by omega)).1
  rw [show L + (t - L) = t by omega] at bt
  have ar := hA.2.2.2 t ht.2 h0.1
  intro q
  induction q with
  | zero =>
    intro k f x4 hk h2 hx4 c2 k1 k2
    refine b_Mdl_above_118 s x2 x3 x4 k m J P hp post ⟨by omega, ?_⟩
    rw [et, es, bt, ar, (hA.2.1 s hs).1]
    refine ⟨by omega, by constructor <;> omega, by constructor <;> omega, fun _ => ⟨by omega, by omega, by constructor <;> omega, by constructor <;> omega, fun h => ?_, fun h => k1 ⟨trivial, Or.inl (by omega)⟩⟩, fun h => absurd (by omega) h⟩
    have ep : pt t = pt s := hR.2.2.2.1 t s ht.2 (by omega) h0.1 (by omega)
    have e1 : (s : Int) + 1 = ((s + 1 : Nat) : Int) := by omega
    rw [e1]
    exact r_above_195 (T := T) hp hA hR hL hE hs ht hx h0.1 (fun e k g1 g2 g3 g4 => hT e k (Or.inl ⟨g1, g2, by omega, g4⟩)) (pt t) 0 (s + 1) (t + 1) (x2 + 1) (by omega) (by omega) (by omega) (by omega) (by rw [ep]; exact r1.2.2) r2.2.2 (fun g => k1 ⟨trivial, Or.inr g⟩) (fun g => k2 fun g2 => g2.2.elim (fun h => by omega) g)
  | succ q ih =>
    intro k f x4 hk h2 hx4 c2 k1 k2
    unfold ch at c2
    have ef : x4.toNat = f - L := by omega
    have bf := (hA.2.2.1 (f - L) (by omega)).2
    rw [show L + (f - L) = f by omega] at bf
    have ei : (40 * ((s : Nat) : Int) + x4).toNat = 40 * s + (f - L) := by omega
    have tc := hT s f (Or.inr ⟨rfl, h2, by omega⟩)
    refine b_Mdl_above_118 s x2 x3 x4 k m J P hp post ⟨by omega, ?_⟩
    rw [et, bt, ar, ei, ef, bf]
    refine ⟨by omega, by constructor <;> omega, by constructor <;> omega, fun h => absurd h (by omega), fun _ => ⟨by omega, ?_, fun h => ⟨by omega, ?_⟩, fun h => k2 fun g => h (tc.2.mpr g.1.1)⟩⟩
    · rcases tc.1 with h | h <;> rw [h] <;> constructor <;> decide
    · exact ih (k + 1) (nx f) _ (by omega) (by omega) rfl c2.2.2 (fun g => k1 ⟨⟨tc.2.mp h, g.1⟩, g.2⟩) (fun g => k2 fun g2 => g ⟨g2.1.2, g2.2⟩)
theorem r_above_39 {s t : Nat} {x2 : Int} (hp : PP P) (hA : RA L E cd nx pt m) (hR : Rw cd nx pt L E) (hL : L ≤ 40) (hE : E ≤ L + 40) (hs : s < L) (ht : L ≤ t ∧ t < E) (hx : x2 = (t : Int) - L) (h0 : 0 ≤ cd s) (h1 : 0 ≤ cd t) (hT : ∀ e k, (s < e ∧ e < L ∧ t ≤ k ∧ k < E) ∨ (e = s ∧ t < k ∧ k < E) → TC m 295 (40 * e + (k - L)) (T e k)) {post : Int → Mi → Mj → Mp → Prop} : ∀ (q k e : Nat), k + q = pt s → s < e → ch nx (nx s) q e → (anyA nx (fun e => smB cd nx e t ∨ T e t) q e ∨ (0 ≤ cd t ∧ cd t ≤ cd s ∧ allB nx (fun f => T s f) (pt t) (t + 1) ∧ (cd t < cd s ∨ lexL cd nx T (pt t) (s + 1) (t + 1))) → post 1 m J P) → (¬ (anyA nx (fun e => smB cd nx e t ∨ T e t) q e ∨ (0 ≤ cd t ∧ cd t ≤ cd s ∧ allB nx (fun f => T s f) (pt t) (t + 1) ∧ (cd t < cd s ∨ lexL cd nx T (pt t) (s + 1) (t + 1)))) → post 0 m J P) → Rn X (d + 1) 156 39 [some (.ref 262), some (.int (iz (s : Int))), some (.int (iz x2)), some (.int (iz (e : Int))), some (.int (iz (k : Int))), none] [] (SS m J P) (QI post) := by
  have r1 := Rw_l hR hs
  have r2 := Rw_r hR ht.1 ht.2
  have p4 := hR.2.2.2.2.1 s (by omega)
  have ct := hR.2.2.2.2.2 t ht.2
  have cs := hR.2.2.2.2.2 s (by omega)
  have es : ((s : Nat) : Int).toNat = s := by omega
  have et : x2.toNat = t - L := by omega
  have bt := (hA.2.2.1 (t - L) (by omega)).1
  rw [show L + (t - L) = t by omega] at bt
  have ar := hA.2.2.2 s (by omega) h0
  intro q
  induction q with
  | zero =>
    intro k e hk g1 c1 k1 k2
    refine b_Mdl_above_39 s x2 e k m J P hp post ⟨by omega, ?_⟩
    rw [et, es, bt, (hA.2.1 s hs).1, ar]
    refine ⟨by omega, by constructor <;> omega, by constructor <;> omega, fun _ => ⟨by omega, by omega, by constructor <;> omega, by constructor <;> omega, fun h => ?_, fun h => k2 fun g => g.elim (fun h => h.elim) (fun g => h g.2.1)⟩, fun h => absurd (by omega) h⟩
    exact r_above_118 (T := T) hp hA hR hL hE hs ht hx ⟨h1, h⟩ hT (pt t) 0 (t + 1) (x2 + 1) (by omega) (by omega) (by omega) r2.2.2 (fun g => k1 (Or.inr ⟨h1, h, g.1, g.2⟩)) (fun g => k2 fun g2 => g2.elim (fun h => h.elim) (fun g3 => g ⟨g3.2.2.1, g3.2.2.2⟩))
  | succ q ih =>
    intro k e hk g1 c1 k1 k2
    unfold ch at c1
    have ee : ((e : Nat) : Int).toNat = e := by omega
    have ei : (40 * ((e : Nat) : Int) + x2).toNat = 40 * e + (t - L) := by omega
    have tc := hT e t (Or.inl ⟨g1, by omega, Nat.le_refl _, ht.2⟩)
    refine b_Mdl_above_39 s x2 e k m J P hp post ⟨by omega, ?_⟩
    rw [es, (hA.2.1 s hs).1, ar]
    refine ⟨by omega, by constructor <;> omega, by constructor <;> omega, fun h => absurd h (by omega), fun _ => ?_⟩
    refine r_isLike hp hA hL hE ⟨by omega, by omega, c1.1⟩ ⟨ht.1, r2.2.1, r2.1⟩ hR.2.2.2.2.2 hx (fun g => ⟨hp, zr1, fun _ => k1 (Or.inl (Or.inl (Or.inl g))), fun h => absurd (by decide) h⟩) (fun g => ⟨hp, zr0, fun h => absurd rfl h, fun _ => ⟨by omega, ?_⟩⟩)
    rw [ei, ee, (hA.2.1 e (by omega)).2]
    refine ⟨?_, fun h => ⟨by omega, ?_⟩, fun h => k1 (Or.inl (Or.inl (Or.inr (tc.2.mp h))))⟩
    · rcases tc.1 with h | h <;> rw [h] <;> constructor <;> decide
    · refine ih (k + 1) (nx e) (by omega) (by omega) c1.2.2 (fun h => k1 (h.imp (fun h => Or.inr h) id)) (fun h2 => k2 fun h3 => h2 (h3.imp (fun h4 => ?_) id))
      exact h4.elim (fun h5 => absurd h5 (fun h6 => h6.elim g (fun h7 => tc.2.mpr h7 h))) id
theorem r_above {s t : Nat} {x2 : Int} (hp : PP P) (hA : RA L E cd nx pt m) (hR : Rw cd nx pt L E) (hL : L ≤ 40) (hE : E ≤ L + 40) (hs : s < L) (ht : L ≤ t ∧ t < E) (hx : x2 = (t : Int) - L) (hT : ∀ e k, (s < e ∧ e < L ∧ t ≤ k ∧ k < E) ∨ (e = s ∧ t < k ∧ k < E) → TC m 295 (40 * e + (k - L)) (abT cd nx pt E e k)) {post : Int → Mi → Mj → Mp → Prop} (k1 : abT cd nx pt E s t → post 1 m J P) (k2 : ¬ abT cd nx pt E s t → post 0 m J P) : Ci X (d + 1) 156 [.ref 262, .int (iz (s : Int)), .int (iz x2)] m J P post := by
  have r1 := Rw_l hR hs
  have hLE := Rw_LE hR
  have ct := hR.2.2.2.2.2 t ht.2
  have cs := hR.2.2.2.2.2 s (by omega)
  have es : ((s : Nat) : Int).toNat = s := by omega
  have et : x2.toNat = t - L := by omega
  have bt := (hA.2.2.1 (t - L) (by omega)).1
  rw [show L + (t - L) = t by omega] at bt
  refine Ci.of rfl rfl rfl (b_Mdl_above_0 s x2 m J P hp post ⟨by omega, ?_⟩)
  rw [es, et, bt, (hA.2.1 s hs).1]
  refine ⟨by constructor <;> omega, fun h => ⟨by omega, by constructor <;> omega, fun h2 => ?_, fun h2 => ⟨by omega, ?_⟩⟩, fun h => k2 fun g => ?_⟩
  · have e1 : (s : Int) + 1 = ((s + 1 : Nat) : Int) := by omega
    rw [e1]
    exact r_above_39 (T := abT cd nx pt E) hp hA hR hL hE hs ht hx h h2 hT (pt s) 0 (s + 1) (by omega) (by omega) r1.2.2 (fun g => k1 ((abT_eq hR hs ht).mpr ⟨h, g⟩)) (fun g => k2 fun g2 => g ((abT_eq hR hs ht).mp g2).2)
  · have v := abT_var hR ht (by omega) (L - s) s (Nat.le_refl _) hs
    exact r_hasVariable hp hA hL hE ⟨hs, r1.2.1, r1.1⟩ hR.2.2.2.2.2 hLE.2 ct (fun g => ⟨hp, Or.inr rfl, k1 (v.mpr ⟨h, g⟩)⟩) (fun g => ⟨hp, Or.inl rfl, k2 fun g2 => g (v.mp g2).2⟩)
  · exact h ((abT_eq hR hs ht).mp g).1
end RAB
