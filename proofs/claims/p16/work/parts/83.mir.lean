/-! rows of the memory as lists; mirror() of the class -/
section ROW
/-- the row x holds l from a on -/
def Ro (m : Mi) (x : Nat) : Nat → List Int → Prop
  | _, [] => True
  | a, c :: l => m x a = c ∧ Ro m x (a + 1) l
variable {m m' : Mi} {x : Nat}
theorem Ro_app {r : List Int} : ∀ {l : List Int} {a : Nat}, Ro m x a (l ++ r) ↔ Ro m x a l ∧ Ro m x (a + l.length) r
  | [], a => by rw [List.nil_append]; exact ⟨fun h => ⟨trivial, h⟩, fun h => h.2⟩
  | c :: l, a => by
    rw [List.cons_append, Ro, Ro, Ro_app, List.length_cons, and_assoc, show a + 1 + l.length = a + (l.length + 1) by omega]
theorem Ro_fr : ∀ {l : List Int} {a : Nat}, Ro m x a l → (∀ k, a ≤ k → k < a + l.length → m' x k = m x k) → Ro m' x a l
  | [], a, _, _ => trivial
  | c :: l, a, h, g => by
    rw [List.length_cons] at g
    exact ⟨(g a (Nat.le_refl _) (by omega)).trans h.1, Ro_fr h.2 fun k h1 h2 => g k (by omega) (by omega)⟩
theorem Ro_get : ∀ {l : List Int} {a i : Nat}, Ro m x a l → (h : i < l.length) → m x (a + i) = l[i]
  | [], a, i, _, h => absurd h (Nat.not_lt_zero _)
  | c :: l, a, 0, h, _ => h.1
  | c :: l, a, i + 1, h, g => by
    have := Ro_get (i := i) h.2 (by rw [List.length_cons] at g; omega)
    rw [show a + (i + 1) = a + 1 + i by omega, this]
    rfl
theorem Ro_of : ∀ {l : List Int} {a : Nat}, (∀ i, (h : i < l.length) → m x (a + i) = l[i]) → Ro m x a l
  | [], a, _ => trivial
  | c :: l, a, g => ⟨g 0 (by simp), Ro_of fun i h => by
    have := g (i + 1) (by simp; exact h)
    rw [show a + 1 + i = a + (i + 1) by omega, this]
    rfl⟩
theorem Ro_mem {l : List Int} {a : Nat} {c : Int} {p q : List Int} (h : Ro m x a l) (e : l = p ++ c :: q) : m x (a + p.length) = c := by
  rw [e] at h
  exact (Ro_app.mp h).2.1
theorem Ro_inj : ∀ {l r : List Int} {a : Nat}, Ro m x a l → Ro m x a r → l.length = r.length → l = r
  | [], r, a, _, _, e => (List.length_eq_zero_iff.mp e.symm).symm
  | c :: l, [], a, _, _, e => absurd e (by simp)
  | c :: l, d :: r, a, h, g, e => by
    rw [← h.1, ← g.1, Ro_inj h.2 g.2 (by simpa using e)]
/-- what a cell asks for, by the book's ARITIES -/
def ayw (ar : Nat → Int) (c : Int) : Nat := if c < 0 then 0 else (ar (c % 32).toNat).toNat
def gd (sc : Nat) (c : Int) : Prop := -10000 ≤ c ∧ c < 64 ∧ (0 ≤ c → c % 32 < sc)
theorem ayw_v {ar : Nat → Int} : ∀ c, c < 0 → ayw ar c = 0 := fun c h => by unfold ayw; rw [if_pos h]
/-- where the TERM at each place ends -/
def EN (ay : Int → Nat) (m : Mi) (x off : Nat) (l : List Int) : Prop := ∀ p t z, l = p ++ (t ++ z) → ctt ay t = some 1 → m x (off + p.length) = ((off + p.length + t.length : Nat) : Int)
variable {X : aX} {d : Nat} {P : Mp} {J : Mj} {b sc : Nat} {ar : Nat → Int}
theorem c_args {c : Int} (hp : PP P) (kb : am_kd an_K b = some (.inl 10)) (hA : BA b sc ar m) (hs : sc ≤ 16) (hg : gd sc c) {post : Int → Mi → Mj → Mp → Prop} (k : post (ayw ar c : Nat) m J P) : Ci X d 40 [.ref b, .int (iz c)] m J P post := by
  obtain ⟨g1, g2, g3⟩ := hg
  refine c_argumentsOf hp kb (by omega) (fun g => ?_) (fun g gg => ?_)
  · have e : ayw ar c = 0 := by unfold ayw; rw [if_pos (by omega)]
    rw [e] at k
    exact k
  · have h := hA (c % 32).toNat (by have := g3 g; omega)
    have e : ((ayw ar c : Nat) : Int) = ar (c % 32).toNat := by unfold ayw; rw [if_neg (by omega)]; omega
    rw [e] at k
    rw [h.1]
    exact k
theorem ayw_4 {c : Int} (hA : BA b sc ar m) (hg : gd sc c) : ayw ar c ≤ 4 := by
  obtain ⟨g1, g2, g3⟩ := hg
  unfold ayw
  split
  · omega
  · have h := hA (c % 32).toNat (by have := g3 (by omega); omega)
    omega
theorem BA_fr (h : BA b sc ar m) (hs : sc ≤ 16) (f : ∀ k, k < 16 → m' (b + 2) k = m (b + 2) k) : BA b sc ar m' := fun i hi => by rw [f i (by omega)]; exact h i hi
theorem ct_ne {ay : Int → Nat} {t : List Int} {k : Nat} (h : ctt ay t = some (k + 1)) : 0 < t.length := by
  have := ct_le h
  omega
/-- the first TERM of some -/
theorem ct_first {ay : Int → Nat} {x : List Int} {k : Nat} (h : ctt ay x = some (k + 1)) : ∃ t r, x = t ++ r ∧ ctt ay t = some 1 ∧ ctt ay r = some k := ct_split (a := 1) (b := k) (by rw [h, Nat.add_comm])
theorem ct_head {ay : Int → Nat} {c : Int} {y : List Int} {k : Nat} (h : ctt ay (c :: y) = some k) : ∃ l r, y = l ++ r ∧ ctt ay l = some (ay c) ∧ ctt ay r = some (k - 1) ∧ 1 ≤ k := by
  obtain ⟨m, g1, g2, g3⟩ := ct_cons.mp h
  obtain ⟨l, r, e, e1, e2⟩ := ct_split (x := y) (a := ay c) (b := m - ay c) (by rw [g1]; congr 1; omega)
  exact ⟨l, r, e, e1, by rw [e2]; congr 1; omega, by omega⟩
variable {x1 n1 x4 n4 from_ at_ : Nat} {l : List Int}
theorem c_mir_55 (hp : PP P) (kb : am_kd an_K b = some (.inl 10)) (k1 : am_kd an_K x1 = some (.inr (0, n1))) (b1 : n1 ≤ 100000) (k4 : am_kd an_K x4 = some (.inr (0, n4))) (b4 : n4 ≤ 100000) (hl : l.length ≤ 200) {c : Nat} (hc : c < l.length) {post : Mi → Mj → Mp → Prop} (hE : ∀ p t z, l = p ++ (t ++ z) → ctt (ayw ar) t = some 1 → c < p.length → m 34 p.length = ((p.length + t.length : Nat) : Int)) : ∀ (k : Nat) (a p z : List Int), l = p ++ (a ++ z) → c < p.length → ctt (ayw ar) a = some k → Rn X (d + 1) 48 31 [some (.ref 28), some (.ref x1), some (.int (iz (from_ : Int))), some (.int (iz (l.length : Int))), some (.ref x4), some (.int (iz (at_ : Int))), some (.ref b), some (.int (iz ((c : Int) + (-1)))), none, none, none] [] (SS (mu m 34 c ((p.length + a.length : Nat) : Int)) J P) (QV post) → Rn X (d + 1) 48 55 [some (.ref 28), some (.ref x1), some (.int (iz (from_ : Int))), some (.int (iz (l.length : Int))), some (.ref x4), some (.int (iz (at_ : Int))), some (.ref b), some (.int (iz (c : Int))), some (.int (iz (p.length : Int))), some (.int (iz (k : Int))), none] [] (SS m J P) (QV post) := by
  intro k
  have ec : ((c : Nat) : Int).toNat = c := by omega
  induction k with
  | zero =>
    intro a p z e h1 h2 kk
    have e0 := ct_zero h2
    subst e0
    rw [List.length_nil, Nat.add_zero] at kk
    refine b_Reducer_mirror_55 x1 n1 from_ l.length x4 n4 at_ b c p.length 0 k1 b1 k4 b4 kb m J P hp post ⟨zr0, fun _ => ⟨by omega, ?_⟩, fun h => absurd (by decide) h⟩
    rw [ec]
    exact kk
  | succ k ih =>
    intro a p z e h1 h2 kk
    obtain ⟨t, r, e1, h3, h4⟩ := ct_first h2
    subst e1
    have hlen := congrArg List.length e
    simp only [List.length_append] at hlen
    have ht := ct_ne h3
    have hn := hE p t (r ++ z) (by rw [e, List.append_assoc]) h3 h1
    refine b_Reducer_mirror_55 x1 n1 from_ l.length x4 n4 at_ b c p.length ((k + 1 : Nat) : Int) k1 b1 k4 b4 kb m J P hp post ⟨by have := ct_le h2; simp only [List.length_append] at this; constructor <;> omega, fun h => absurd h (by omega), fun _ => ⟨by constructor <;> omega, by constructor <;> omega, fun h => absurd h (by omega), fun _ => ⟨by omega, ?_⟩⟩⟩
    have ep : ((p.length : Nat) : Int).toNat = p.length := by omega
    have ek : ((k + 1 : Nat) : Int) + (-1) = (k : Int) := by omega
    rw [ep, hn, ek, ← List.length_append]
    refine ih r (p ++ t) z (by rw [e]; simp only [List.append_assoc]) (by rw [List.length_append]; omega) h4 ?_
    have eL : (p ++ t).length + r.length = p.length + (t ++ r).length := by simp only [List.length_append]; omega
    rw [eL]
    exact kk
theorem c_mir_31 (hp : PP P) (kb : am_kd an_K b = some (.inl 10)) (hb2 : b + 2 ≠ 34) (hs : sc ≤ 16) (k1 : am_kd an_K x1 = some (.inr (0, n1))) (b1 : n1 ≤ 100000) (k4 : am_kd an_K x4 = some (.inr (0, n4))) (b4 : n4 ≤ 100000) (hl : l.length ≤ 200) (hx1 : x1 ≠ 34) (hf : from_ + l.length ≤ n1) (hg : ∀ c, c ∈ l → gd sc c) {k0 : Nat} (hT : ctt (ayw ar) l = some k0) {post : Mi → Mj → Mp → Prop} : ∀ (c : Nat) (m : Mi), c ≤ l.length → Ro m x1 from_ l → BA b sc ar m → (∀ p t z, l = p ++ (t ++ z) → ctt (ayw ar) t = some 1 → c ≤ p.length → m 34 p.length = ((p.length + t.length : Nat) : Int)) → (∀ m', EN (ayw ar) m' 34 0 l → (∀ a k, a ≠ 34 → m' a k = m a k) → Rn X (d + 1) 48 106 [some (.ref 28), some (.ref x1), some (.int (iz (from_ : Int))), some (.int (iz (l.length : Int))), some (.ref x4), some (.int (iz (at_ : Int))), some (.ref b), some (.int (iz 0)), none, none, none] [] (SS (mu m' 35 0 0) J P) (QV post)) → Rn X (d + 1) 48 31 [some (.ref 28), some (.ref x1), some (.int (iz (from_ : Int))), some (.int (iz (l.length : Int))), some (.ref x4), some (.int (iz (at_ : Int))), some (.ref b), some (.int (iz ((c : Int) + (-1)))), none, none, none] [] (SS m J P) (QV post) := by
  intro c
  induction c with
  | zero =>
    intro m _ hrow hA hE kk
    refine b_Reducer_mirror_31 x1 n1 from_ l.length x4 n4 at_ b (((0 : Nat) : Int) + (-1)) k1 b1 k4 b4 kb m J P hp post ⟨by constructor <;> omega, fun _ => ⟨by decide, ?_⟩, fun h => absurd h (by omega)⟩
    exact kk m (fun p t z e h1 => by rw [Nat.zero_add]; exact hE p t z e h1 (Nat.zero_le _)) (fun _ _ _ => rfl)
  | succ c ih =>
    intro m hc hrow hA hE kk
    have e1 : ((c + 1 : Nat) : Int) + (-1) = (c : Int) := by omega
    rw [e1]
    -- the cell, and what stands behind it
    obtain ⟨p, c0, y, el, ep⟩ : ∃ p c0 y, l = p ++ c0 :: y ∧ p.length = c := ⟨l.take c, l[c], l.drop (c + 1), by rw [List.getElem_cons_drop, List.take_append_drop], by rw [List.length_take]; omega⟩
    subst ep
    have h0 := Ro_mem hrow el
    obtain ⟨k2, hk2⟩ := ct_suf (by rw [← el]; exact hT)
    obtain ⟨a, z, ey, ha, hz, _⟩ := ct_head hk2
    have e2 : ((from_ : Int) + (p.length : Int)).toNat = from_ + p.length := by omega
    have hlen := congrArg List.length el
    simp only [List.length_append, List.length_cons] at hlen
    have hgc := hg c0 (by rw [el]; simp)
    refine b_Reducer_mirror_31 x1 n1 from_ l.length x4 n4 at_ b p.length k1 b1 k4 b4 kb m J P hp post ⟨by constructor <;> omega, fun h => absurd h (by omega), fun _ => ⟨by omega, ?_⟩⟩
    rw [e2, h0]
    refine c_args hp kb hA hs hgc ⟨hp, ?_⟩
    have hy : l = (p ++ [c0]) ++ (a ++ z) := by rw [el, ey]; simp
    have e3 : ((p.length : Nat) : Int) + 1 = ((p ++ [c0]).length : Int) := by simp
    rw [e3]
    refine c_mir_55 (c := p.length) hp kb k1 b1 k4 b4 hl (by omega) (fun p' t z' h1 h2 h3 => hE p' t z' h1 h2 (by omega)) (ayw ar c0) a (p ++ [c0]) z hy (by simp) ha ?_
    refine ih _ (by omega) (Ro_fr hrow fun k _ _ => mu_ne _ _ (by omega)) (BA_fr hA hs fun k _ => mu_ne _ _ (by omega)) (fun p' t z' h1 h2 h3 => ?_) (fun m' w1 w2 => kk m' w1 fun a' k' h => (w2 a' k' h).trans (mu_ne _ _ (by omega)))
    by_cases e4 : p'.length = p.length
    · rw [e4, mu_at]
      have e5 : p' ++ (t ++ z') = p ++ ((c0 :: a) ++ z) := by rw [← h1, el, ey]; simp
      obtain ⟨_, e6⟩ := List.append_inj e5 e4
      obtain ⟨e7, _⟩ := ct_pf h2 (ct_one ha) e6
      rw [e7]
      simp only [List.length_append, List.length_cons, List.length_nil]
      omega
    · rw [mu_ne _ _ (by omega)]
      exact hE p' t z' h1 h2 (by omega)
/-- the places of some TERMS' heads -/
def SP (ay : Int → Nat) (m : Mi) (p base : Nat) (q : List Int) : Prop := ∀ (x t z : List Int) (j k : Nat), q = x ++ (t ++ z) → ctt ay x = some j → ctt ay t = some 1 → ctt ay z = some k → m 35 (p + x.length) = ((base + z.length : Nat) : Int)
theorem c_mir_160 (hp : PP P) (kb : am_kd an_K b = some (.inl 10)) (k1 : am_kd an_K x1 = some (.inr (0, n1))) (b1 : n1 ≤ 100000) (k4 : am_kd an_K x4 = some (.inr (0, n4))) (b4 : n4 ≤ 100000) (hl : l.length ≤ 200) {p base ka : Nat} {q : List Int} (hka : ka ≤ 4) {pr su : List Int} (el : l = pr ++ (q ++ su)) (epr : pr.length = p + 1) {post : Mi → Mj → Mp → Prop} (kk : ∀ m', SP (ayw ar) m' (p + 1) base q → (∀ a k, ¬ (a = 35 ∧ p < k ∧ k < p + 1 + q.length) → m' a k = m a k) → Rn X (d + 1) 48 106 [some (.ref 28), some (.ref x1), some (.int (iz (from_ : Int))), some (.int (iz (l.length : Int))), some (.ref x4), some (.int (iz (at_ : Int))), some (.ref b), some (.int (iz ((p : Int) + 1))), none, none, none] [] (SS m' J P) (QV post)) : ∀ (j : Nat) (dn a : List Int) (m2 : Mi), q = dn ++ a → ctt (ayw ar) dn = some (ka - j) → j ≤ ka → ctt (ayw ar) a = some j → EN (ayw ar) m2 34 0 l → m2 34 p = ((p + 1 + q.length : Nat) : Int) → (∀ a k, ¬ (a = 35 ∧ p < k ∧ k < p + 1 + dn.length) → m2 a k = m a k) → (∀ (x t z : List Int) (j k : Nat), q = x ++ (t ++ z) → ctt (ayw ar) x = some j → ctt (ayw ar) t = some 1 → ctt (ayw ar) z = some k → x.length < dn.length → m2 35 (p + 1 + x.length) = ((base + z.length : Nat) : Int)) → Rn X (d + 1) 48 160 [some (.ref 28), some (.ref x1), some (.int (iz (from_ : Int))), some (.int (iz (l.length : Int))), some (.ref x4), some (.int (iz (at_ : Int))), some (.ref b), some (.int (iz (p : Int))), some (.int (iz ((base + a.length : Nat) : Int))), some (.int (iz ((p + 1 + dn.length : Nat) : Int))), some (.int (iz (((ka - j : Nat)) : Int)))] [] (SS m2 J P) (QV post) := by
  intro j
  have eP : ((p : Nat) : Int).toNat = p := by omega
  have hlen := congrArg List.length el
  simp only [List.length_append] at hlen
  induction j with
  | zero =>
    intro dn a m2 eq hd _ ha hE he hf hS
    have e0 := ct_zero ha
    subst e0
    rw [List.append_nil] at eq
    subst eq
    have done : Rn X (d + 1) 48 106 [some (.ref 28), some (.ref x1), some (.int (iz (from_ : Int))), some (.int (iz (l.length : Int))), some (.ref x4), some (.int (iz (at_ : Int))), some (.ref b), some (.int (iz ((p : Int) + 1))), none, none, none] [] (SS m2 J P) (QV post) := kk m2 (fun x t z j' k' e1 e2 e3 e4 => hS x t z j' k' e1 e2 e3 e4 (by
      have := congrArg List.length e1
      simp only [List.length_append] at this
      have := ct_ne e3
      omega)) hf
    refine b_Reducer_mirror_160 x1 n1 from_ l.length x4 n4 at_ b p ((base + 0 : Nat) : Int) ((p + 1 + q.length : Nat) : Int) ((ka - 0 : Nat) : Int) k1 b1 k4 b4 kb m2 J P hp post ⟨by constructor <;> omega, fun _ => done, fun _ => ⟨by omega, by constructor <;> omega, by rw [eP, he]; constructor <;> omega, fun _ => done, fun h => absurd (by rw [eP, he]; exact Int.le_refl _) h⟩⟩
  | succ j ih =>
    intro dn a m2 eq hd hj ha hE he hf hS
    obtain ⟨t, r, e1, h3, h4⟩ := ct_first ha
    subst e1
    have ht := ct_ne h3
    have hq := congrArg List.length eq
    simp only [List.length_append] at hq
    have hn := hE (pr ++ dn) t (r ++ su) (by rw [el, eq]; simp only [List.append_assoc]) h3
    rw [Nat.zero_add, List.length_append, epr] at hn
    have ex9 : ((p + 1 + dn.length : Nat) : Int).toNat = p + 1 + dn.length := by omega
    have ex8 : ((base + (t ++ r).length : Nat) : Int) - (((p + 1 + dn.length + t.length : Nat) : Int) - ((p + 1 + dn.length : Nat) : Int)) = ((base + r.length : Nat) : Int) := by rw [List.length_append]; omega
    refine b_Reducer_mirror_160 x1 n1 from_ l.length x4 n4 at_ b p ((base + (t ++ r).length : Nat) : Int) ((p + 1 + dn.length : Nat) : Int) ((ka - (j + 1) : Nat) : Int) k1 b1 k4 b4 kb m2 J P hp post ⟨by constructor <;> omega, fun h => absurd h (by omega), fun _ => ⟨by omega, by constructor <;> omega, by rw [eP, he]; constructor <;> omega, fun h => absurd h (by rw [eP, he]; omega), fun _ => ⟨by omega, by omega, by omega, ?_⟩⟩⟩
    rw [ex9, mu_ne _ _ (by omega), hn, ex8]
    have e10 : ((ka - (j + 1) : Nat) : Int) + 1 = ((ka - j : Nat) : Int) := by omega
    have e9 : p + 1 + dn.length + t.length = p + 1 + (dn ++ t).length := by rw [List.length_append]; omega
    rw [e10, e9]
    refine ih (dn ++ t) r _ (by rw [eq]; simp only [List.append_assoc]) (by rw [ct_app h3 hd]; congr 1; omega) (by omega) h4 (fun p' t' z' g1 g2 => by rw [mu_ne _ _ (by omega)]; exact hE p' t' z' g1 g2) (by rw [mu_ne _ _ (by omega)]; exact he) (fun a k h => ?_) (fun x t' z j' k' g1 g2 g3 g4 g5 => ?_)
    · rw [mu_ne _ _ (by rw [List.length_append] at h; omega)]
      exact hf a k (fun g => h (by rw [List.length_append]; omega))
    · by_cases e : x.length = dn.length
      · have e5 : x ++ (t' ++ z) = dn ++ (t ++ r) := g1.symm.trans eq
        obtain ⟨_, e6⟩ := List.append_inj e5 e
        obtain ⟨_, e7⟩ := ct_pf g3 h3 e6
        rw [e, mu_at, e7]
      · rw [mu_ne _ _ (by omega)]
        refine hS x t' z j' k' g1 g2 g3 g4 ?_
        -- x ends with some TERMS of dn
        refine Classical.byContradiction fun hn2 => ?_
        rw [List.length_append] at g5
        -- then x = dn ++ w with w shorter than t
        have e5 : x ++ (t' ++ z) = dn ++ (t ++ r) := g1.symm.trans eq
        rcases List.append_eq_append_iff.mp e5 with ⟨w, f1, f2⟩ | ⟨w, f1, f2⟩
        · rw [f1, List.length_append] at hn2 e
          omega
        · -- w is the beginning of t, and a row of TERMS
          subst f1
          rw [List.length_append] at e g5
          obtain ⟨jw, hjw⟩ := ct_suf g2
          have hw0 : jw ≠ 0 := fun h0 => by
            rw [h0] at hjw
            rw [ct_zero hjw] at e
            simp at e
          obtain ⟨w1, w2, f3, f4, f5⟩ := ct_split (a := 1) (b := jw - 1) (x := w) (by rw [hjw]; congr 1; omega)
          have f6 : w1 ++ (w2 ++ (t' ++ z)) = t ++ r := by rw [f2, f3]; simp only [List.append_assoc]
          obtain ⟨f7, _⟩ := ct_pf f4 h3 f6
          rw [f3, f7, List.length_append] at g5
          omega
/-- from a row of TERMS on -/
theorem c_mir_106 (hp : PP P) (kb : am_kd an_K b = some (.inl 10)) (k1 : am_kd an_K x1 = some (.inr (0, n1))) (b1 : n1 ≤ 100000) (k4 : am_kd an_K x4 = some (.inr (0, n4))) (b4 : n4 ≤ 100000) (hl : l.length ≤ 200) (hx1 : x1 ≠ 35) (hx4 : x4 ≠ 34 ∧ x4 ≠ 35) (h14 : x1 ≠ x4) (hf0 : from_ + l.length ≤ n1) (hat : at_ + l.length ≤ n4) (h4 : ∀ c, c ∈ l → ayw ar c ≤ 4) {post : Mi → Mj → Mp → Prop} : ∀ (n : Nat) (q pr su : List Int) (base k0 : Nat) (m : Mi), q.length ≤ n → l = pr ++ (q ++ su) → base + q.length ≤ l.length → ctt (ayw ar) q = some k0 → Ro m x1 from_ l → EN (ayw ar) m 34 0 l → SP (ayw ar) m pr.length base q → (∀ m', Ro m' x4 (at_ + base) (mi (ayw ar) q) → (∀ a k, ¬ (a = 35 ∧ pr.length ≤ k ∧ k < pr.length + q.length) → ¬ (a = x4 ∧ at_ + base ≤ k ∧ k < at_ + base + q.length) → m' a k = m a k) → Rn X (d + 1) 48 106 [some (.ref 28), some (.ref x1), some (.int (iz (from_ : Int))), some (.int (iz (l.length : Int))), some (.ref x4), some (.int (iz (at_ : Int))), some (.ref b), some (.int (iz ((pr.length + q.length : Nat) : Int))), none, none, none] [] (SS m' J P) (QV post)) → Rn X (d + 1) 48 106 [some (.ref 28), some (.ref x1), some (.int (iz (from_ : Int))), some (.int (iz (l.length : Int))), some (.ref x4), some (.int (iz (at_ : Int))), some (.ref b), some (.int (iz (pr.length : Int))), none, none, none] [] (SS m J P) (QV post) := by
  intro n
  induction n with
  | zero =>
    intro q pr su base k0 m hn el hb hT hrow hE hS kk
    have e0 : q = [] := List.length_eq_zero_iff.mp (by omega)
    subst e0
    exact kk m trivial (fun _ _ _ _ => rfl)
  | succ n ih =>
    intro q pr su base k0 m hn el hb hT hrow hE hS kk
    cases q with
    | nil => exact kk m trivial (fun _ _ _ _ => rfl)
    | cons c y =>
      obtain ⟨a, r, ey, ha, hr, _⟩ := ct_head hT
      subst ey
      have hlen := congrArg List.length el
      simp only [List.length_append, List.length_cons] at hlen hn hb
      have hc := Ro_mem hrow (show l = pr ++ c :: ((a ++ r) ++ su) by rw [el]; rfl)
      have hsp := hS [] (c :: a) r 0 _ rfl rfl (ct_one ha) hr
      rw [List.length_nil, Nat.add_zero] at hsp
      have hen := hE pr (c :: a) (r ++ su) (by rw [el]; simp only [List.cons_append, List.append_assoc]) (ct_one ha)
      rw [Nat.zero_add, List.length_cons] at hen
      have ep : ((pr.length : Nat) : Int).toNat = pr.length := by omega
      have e1 : ((from_ : Int) + (pr.length : Int)).toNat = from_ + pr.length := by omega
      have e2 : ((at_ : Int) + ((base + r.length : Nat) : Int)).toNat = at_ + (base + r.length) := by omega
      refine b_Reducer_mirror_106 x1 n1 from_ l.length x4 n4 at_ b pr.length k1 b1 k4 b4 kb m J P hp post ⟨by constructor <;> omega, by constructor <;> omega, fun h => absurd h (by omega), fun _ => ?_⟩
      rw [ep, hsp, e1, e2, hc]
      refine ⟨by omega, by omega, by omega, by omega, by omega, ?_⟩
      rw [mu_ne _ _ (by omega), mu_ne _ _ (by omega), hsp, hen]
      have e3 : ((base + r.length : Nat) : Int) + ((pr.length + (a.length + 1) : Nat) : Int) - ((pr.length : Nat) : Int) = ((base + r.length + 1 + a.length : Nat) : Int) := by omega
      have e4 : ((pr.length : Nat) : Int) + 1 = ((pr.length + 1 + ([] : List Int).length : Nat) : Int) := by simp
      have e5 : (0 : Int) = ((ayw ar c - ayw ar c : Nat) : Int) := by omega
      rw [e3, e4, e5]
      refine c_mir_160 (l := l) (q := a) (p := pr.length) (base := base + r.length + 1) (ka := ayw ar c) (pr := pr ++ [c]) (su := r ++ su) hp kb k1 b1 k4 b4 hl (h4 c (by rw [el]; simp)) (by rw [el]; simp only [List.cons_append, List.append_assoc, List.nil_append]) (by simp) (fun m2 w1 w2 => ?_) (ayw ar c) [] a _ rfl (by rw [Nat.sub_self]; rfl) (Nat.le_refl _) ha (fun p' t' z' g1 g2 => by rw [mu_ne _ _ (by omega)]; exact hE p' t' z' g1 g2) (by rw [mu_ne _ _ (by omega), hen]; omega) (fun _ _ _ => rfl) (fun x t z j k _ _ _ _ h => absurd h (Nat.not_lt_zero _))
      -- the ARGUMENTS, then the rest
      have F : ∀ a' k', ¬ (a' = 35 ∧ pr.length < k' ∧ k' < pr.length + 1 + a.length) → ¬ (a' = x4 ∧ k' = at_ + (base + r.length)) → m2 a' k' = m a' k' := fun a' k' g1 g2 => (w2 a' k' g1).trans (mu_ne _ _ g2)
      have e6 : ((pr.length : Nat) : Int) + 1 = ((pr ++ [c]).length : Int) := by simp
      have e7 : (pr ++ [c]).length = pr.length + 1 := by simp
      rw [e6]
      refine ih a (pr ++ [c]) (r ++ su) (base + r.length + 1) _ m2 (by omega) (by rw [el]; simp only [List.cons_append, List.append_assoc, List.nil_append]) (by omega) ha (Ro_fr hrow fun k _ _ => F _ _ (by omega) (by omega)) (fun p' t' z' g1 g2 => by rw [F _ _ (by omega) (by omega)]; exact hE p' t' z' g1 g2) (by rw [e7]; exact w1) (fun m3 v1 v2 => ?_)
      rw [e7] at v2
      have e8 : (pr ++ [c]).length + a.length = (pr ++ (c :: a)).length := by simp; omega
      have e9 : (pr ++ (c :: a)).length = pr.length + 1 + a.length := by simp; omega
      rw [e8]
      refine ih r (pr ++ (c :: a)) su base _ m3 (by omega) (by rw [el]; simp only [List.cons_append, List.append_assoc]) (by omega) hr (Ro_fr hrow fun k _ _ => (v2 _ _ (by omega) (by omega)).trans (F _ _ (by omega) (by omega))) (fun p' t' z' g1 g2 => by rw [v2 _ _ (by omega) (by omega), F _ _ (by omega) (by omega)]; exact hE p' t' z' g1 g2) (fun x t z j k g1 g2 g3 g4 => ?_) (fun m4 u1 u2 => ?_)
      · rw [e9, v2 _ _ (by omega) (by omega), F _ _ (by omega) (by omega)]
        have := hS ((c :: a) ++ x) t z (1 + j) k (by rw [g1]; simp only [List.cons_append, List.append_assoc]) (ct_app g2 (ct_one ha)) g3 g4
        rw [List.length_append, List.length_cons] at this
        rw [← this]
        congr 1
        omega
      · rw [e9] at u2
        have e10 : (pr ++ (c :: a)).length + r.length = pr.length + (c :: (a ++ r)).length := by simp; omega
        rw [e10]
        refine kk m4 ?_ (fun a' k' g1 g2 => ?_)
        · have e11 : mi (ayw ar) (c :: (a ++ r)) = mi (ayw ar) r ++ (c :: mi (ayw ar) a) := by
            rw [show c :: (a ++ r) = (c :: a) ++ r from rfl, mi_app (ct_one ha), mi_one ha]
          rw [e11]
          refine Ro_app.mpr ⟨u1, ?_, ?_⟩
          · rw [mi_len hr, u2 _ _ (by omega) (by omega), v2 _ _ (by omega) (by omega), w2 _ _ (by omega), show at_ + base + r.length = at_ + (base + r.length) by omega, mu_at]
          · rw [mi_len hr, show at_ + base + r.length + 1 = at_ + (base + r.length + 1) by omega]
            exact Ro_fr v1 fun k' f1 f2 => u2 _ _ (by omega) (by omega)
        · simp only [List.length_append, List.length_cons] at g1 g2
          rw [u2 _ _ (by omega) (by omega), v2 _ _ (by omega) (by omega)]
          exact F _ _ (by omega) (by omega)
/-- mirror() turns a TERM round -/
theorem c_mirror (hp : PP P) (kb : am_kd an_K b = some (.inl 10)) (hb2 : b + 2 ≠ 34) (hs : sc ≤ 16) (k1 : am_kd an_K x1 = some (.inr (0, n1))) (b1 : n1 ≤ 100000) (k4 : am_kd an_K x4 = some (.inr (0, n4))) (b4 : n4 ≤ 100000) (hl : l.length ≤ 200) (hx1 : x1 ≠ 34 ∧ x1 ≠ 35) (hx4 : x4 ≠ 34 ∧ x4 ≠ 35) (h14 : x1 ≠ x4) (hf0 : from_ + l.length ≤ n1) (hat : at_ + l.length ≤ n4) (hA : BA b sc ar m) (hg : ∀ c, c ∈ l → gd sc c) (hT : ctt (ayw ar) l = some 1) (hrow : Ro m x1 from_ l) {post : Mi → Mj → Mp → Prop} (k : ∀ m', Ro m' x4 at_ (mi (ayw ar) l) → (∀ a k, a ≠ 34 → a ≠ 35 → ¬ (a = x4 ∧ at_ ≤ k ∧ k < at_ + l.length) → m' a k = m a k) → post m' J P) : Cv X (d + 1) 48 [.ref 28, .ref x1, .int (iz (from_ : Int)), .int (iz (l.length : Int)), .ref x4, .int (iz (at_ : Int)), .ref b] m J P post := by
  have hpos := ct_ne hT
  refine Cv.of rfl rfl rfl (b_Reducer_mirror_0 x1 n1 from_ l.length x4 n4 at_ b k1 b1 k4 b4 kb m J P hp post ⟨by constructor <;> omega, fun h => absurd h (by omega), fun _ => ⟨by constructor <;> omega, by constructor <;> omega, fun h => absurd h (by omega), fun _ => ⟨by constructor <;> omega, by constructor <;> omega, fun _ => ?_, fun h => absurd (by omega) h⟩⟩⟩)
  have e0 : ((l.length : Nat) : Int) - 1 = (l.length : Int) + (-1) := by omega
  rw [e0]
  refine c_mir_31 hp kb hb2 hs k1 b1 k4 b4 hl hx1.1 hf0 hg hT l.length m (Nat.le_refl _) hrow hA (fun p t z h1 h2 h3 => ?_) (fun m1 w1 w2 => ?_)
  · have := congrArg List.length h1
    simp only [List.length_append] at this
    have := ct_ne h2
    omega
  · have e1 : (0 : Int) = (([] : List Int).length : Int) := rfl
    rw [show (iz 0) = iz (([] : List Int).length : Int) from rfl]
    refine c_mir_106 (ar := ar) (from_ := from_) (at_ := at_) hp kb k1 b1 k4 b4 hl hx1.2 hx4 h14 hf0 hat (fun c hc => ayw_4 hA (hg c hc)) l.length l [] [] 0 1 _ (Nat.le_refl _) (by simp) (by omega) hT (Ro_fr hrow fun k' _ _ => (mu_ne _ _ (by omega)).trans (w2 _ _ (by omega))) (fun p t z h1 h2 => by rw [mu_ne _ _ (by omega)]; exact w1 p t z h1 h2) (fun x t z j k' h1 h2 h3 h4 => ?_) (fun m2 v1 v2 => ?_)
    · -- one TERM: nothing in front, nothing behind
      have hx := hT
      rw [h1] at hx
      rw [ct_app (ct_app h4 h3) h2] at hx
      have ej : j = 0 ∧ k' = 0 := by injection hx; omega
      rw [ej.1] at h2
      rw [ej.2] at h4
      rw [ct_zero h2, ct_zero h4]
      exact mu_at _ _ _ _
    · refine b_Reducer_mirror_106 x1 n1 from_ l.length x4 n4 at_ b ((([] : List Int).length + l.length : Nat) : Int) k1 b1 k4 b4 kb m2 J P hp post ⟨by simp; constructor <;> omega, by constructor <;> omega, fun _ => ?_, fun h => absurd (by simp) h⟩
      refine k m2 v1 (fun a k' g1 g2 g3 => ?_)
      rw [v2 a k' (by omega) (by simpa using g3), mu_ne _ _ (by omega)]
      exact w2 a k' g1
end ROW
