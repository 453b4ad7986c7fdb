/-! NORMAL FORMS of rows turned round -/
section NRM
variable {ay : Int → Nat} {N : Nat} {Lm Rm : Nat → List Int} {σ : Int → List Int}
/-- by the first RULE that fits at the beginning: what comes of it, and the rest -/
noncomputable def rlx (ay : Int → Nat) (Lm Rm : Nat → List Int) : Nat → Nat → List Int → Option (List Int × List Int)
  | 0, _, _ => none
  | k + 1, u, x => match Mr ay (Lm u) (Rm u) x with
    | some q => some q
    | none => rlx ay Lm Rm k (u + 1) x
/-- RULES that are good for it -/
def Rg (ay : Int → Nat) (N : Nat) (Lm Rm : Nat → List Int) : Prop := (∀ c, c < 0 → ay c = 0) ∧ ∀ u, u < N → ctt ay (Lm u) = some 1 ∧ ctt ay (Rm u) = some 1 ∧ (∀ c, c ∈ Rm u → c < 0 → c ∈ Lm u) ∧ (∃ s l, Lm u = s :: l ∧ 0 ≤ s) ∧ (∀ c, c ∈ Lm u → c < 16) ∧ ∀ c, c ∈ Rm u → c < 16
theorem rlx_none_iff {x : List Int} : ∀ {k u : Nat}, rlx ay Lm Rm k u x = none ↔ ∀ v, u ≤ v → v < u + k → ¬ Mtc ay (Lm v) x
  | 0, u => ⟨fun _ v h1 h2 => absurd h2 (by omega), fun _ => rfl⟩
  | k + 1, u => by
    rw [rlx]
    cases h : Mr ay (Lm u) (Rm u) x with
    | some q =>
      obtain ⟨σ, h1, h2, _⟩ := Mr_of h
      constructor
      · intro e; cases e
      · intro g; exact absurd ⟨σ, q.2, h1, h2⟩ (g u (Nat.le_refl _) (by omega))
    | none =>
      have hn : ¬ Mtc ay (Lm u) x := fun g => by
        unfold Mr at h
        rw [dif_pos g] at h
        cases h
      dsimp only
      rw [rlx_none_iff]
      constructor
      · intro g v h1 h2
        by_cases e : v = u
        · rw [e]; exact hn
        · exact g v (by omega) (by omega)
      · intro g v h1 h2
        exact g v (by omega) (by omega)
theorem rlx_at {x : List Int} : ∀ {k u v : Nat}, u ≤ v → v < u + k → (∀ w, u ≤ w → w < v → ¬ Mtc ay (Lm w) x) → Mtc ay (Lm v) x → rlx ay Lm Rm k u x = Mr ay (Lm v) (Rm v) x
  | 0, u, v, h1, h2, _, _ => absurd h2 (by omega)
  | k + 1, u, v, h1, h2, h3, h4 => by
    rw [rlx]
    by_cases e : v = u
    · subst e
      cases h : Mr ay (Lm v) (Rm v) x with
      | some q => rfl
      | none =>
        unfold Mr at h
        rw [dif_pos h4] at h
        cases h
    · rw [Mr_none (h3 u (Nat.le_refl _) (by omega))]
      exact rlx_at (by omega) (by omega) (fun w g1 g2 => h3 w (by omega) g2) h4
theorem rlx_of {x : List Int} {q : List Int × List Int} : ∀ {k u : Nat}, rlx ay Lm Rm k u x = some q → ∃ v σ, (u ≤ v ∧ v < u + k) ∧ (∀ w, u ≤ w → w < v → ¬ Mtc ay (Lm w) x) ∧ tv ay σ ∧ x = sb σ (Lm v) ++ q.2 ∧ q.1 = sb σ (Rm v)
  | 0, u, h => by cases h
  | k + 1, u, h => by
    rw [rlx] at h
    cases g : Mr ay (Lm u) (Rm u) x with
    | some q' =>
      rw [g] at h
      cases h
      obtain ⟨σ, h1, h2, h3⟩ := Mr_of g
      exact ⟨u, σ, by omega, fun w _ _ => by omega, h1, h2, h3⟩
    | none =>
      rw [g] at h
      have hn : ¬ Mtc ay (Lm u) x := fun g2 => by
        unfold Mr at g
        rw [dif_pos g2] at g
        cases g
      obtain ⟨v, σ, h1, h2, h3⟩ := rlx_of (u := u + 1) h
      refine ⟨v, σ, by omega, fun w g1 g2 => ?_, h3⟩
      by_cases e : w = u
      · rw [e]; exact hn
      · exact h2 w (by omega) g2
theorem rlx_loc (hR : Rg ay N Lm Rm) {t z : List Int} (ht : ctt ay t = some 1) : rlx ay Lm Rm N 0 (t ++ z) = none ↔ rlx ay Lm Rm N 0 t = none := by
  rw [rlx_none_iff, rlx_none_iff]
  constructor
  · intro h v h1 h2 g
    exact h v h1 h2 (Mtc_ext g)
  · intro h v h1 h2 g
    exact h v h1 h2 (Mtc_loc hR.1 (hR.2 v (by omega)).1 ht g)
theorem rlx_var (hR : Rg ay N Lm Rm) {c : Int} {z : List Int} (hc : c < 0) : rlx ay Lm Rm N 0 (c :: z) = none := by
  rw [rlx_none_iff]
  intro v h1 h2 ⟨σ, y, g1, g2⟩
  obtain ⟨s, l, e, hs⟩ := (hR.2 v (by omega)).2.2.2.1
  rw [e, sb_cons, if_neg (by omega)] at g2
  injection g2 with g3
  omega
/-- the search from the right: what is to come (the next first), what is looked through -/
noncomputable def sn (ay : Int → Nat) (N : Nat) (Lm Rm : Nat → List Int) : List Int → List Int → Option (List Int × List Int × List Int)
  | [], _ => none
  | c :: w, dn => match rlx ay Lm Rm N 0 (c :: dn) with
    | some q => some (w, q)
    | none => sn ay N Lm Rm w (c :: dn)
theorem sn_app {w2 : List Int} : ∀ {w1 dn : List Int}, sn ay N Lm Rm (w1 ++ w2) dn = match sn ay N Lm Rm w1 dn with
    | some q => some (q.1 ++ w2, q.2)
    | none => sn ay N Lm Rm w2 (w1.reverse ++ dn)
  | [], dn => rfl
  | c :: w1, dn => by
    rw [List.cons_append, sn, sn]
    cases h : rlx ay Lm Rm N 0 (c :: dn) with
    | some q => rfl
    | none =>
      dsimp only
      rw [sn_app]
      cases h2 : sn ay N Lm Rm w1 (c :: dn) with
      | some q => rfl
      | none =>
        dsimp only
        rw [List.reverse_cons, List.append_assoc]
        rfl
/-- NORMAL FORM from here, so many STEPS being left: trouble, the form, STEPS left -/
noncomputable def nr (ay : Int → Nat) (N : Nat) (Lm Rm : Nat → List Int) : Nat → List Int → List Int → Int × List Int × Nat
  | 0, wr, dn => match sn ay N Lm Rm wr dn with
    | none => (0, wr.reverse ++ dn, 0)
    | some _ => (-3, [], 0)
  | k + 1, wr, dn => match sn ay N Lm Rm wr dn with
    | none => (0, wr.reverse ++ dn, k + 1)
    | some q => if 200 < q.1.length + q.2.1.length + q.2.2.length then (-2, [], 0) else nr ay N Lm Rm k (q.2.1.reverse ++ q.1) q.2.2
theorem nr_none {k : Nat} {wr dn : List Int} (h : sn ay N Lm Rm wr dn = none) : nr ay N Lm Rm k wr dn = (0, wr.reverse ++ dn, k) := by
  cases k <;> (rw [nr, h])
/-- cells that are looked through move on -/
theorem nr_move {k : Nat} {c : Int} {w dn : List Int} (h : rlx ay Lm Rm N 0 (c :: dn) = none) : nr ay N Lm Rm k (c :: w) dn = nr ay N Lm Rm k w (c :: dn) := by
  have e : sn ay N Lm Rm (c :: w) dn = sn ay N Lm Rm w (c :: dn) := by rw [sn, h]
  cases k with
  | zero =>
    rw [nr, nr, e]
    cases sn ay N Lm Rm w (c :: dn) with
    | none => dsimp only; rw [List.reverse_cons, List.append_assoc]; rfl
    | some q => rfl
  | succ k =>
    rw [nr, nr, e]
    cases sn ay N Lm Rm w (c :: dn) with
    | none => dsimp only; rw [List.reverse_cons, List.append_assoc]; rfl
    | some q => rfl
theorem nr_hit {k : Nat} {wr dn w x y : List Int} (h : sn ay N Lm Rm wr dn = some (w, x, y)) : nr ay N Lm Rm k wr dn = if k = 0 then (-3, [], 0) else if 200 < w.length + x.length + y.length then (-2, [], 0) else nr ay N Lm Rm (k - 1) (x.reverse ++ w) y := by
  cases k with
  | zero => rw [nr, h]; rfl
  | succ k => rw [nr, h]; rfl
/-- flags: 64 is added where no STEP is left -/
def pl (c : Int) : Int := if 64 ≤ c then c - 64 else c
def fg (c : Int) : Int := if c < 0 then c else c + 64
theorem pl_fg {c : Int} (h : c < 16) : pl (fg c) = c := by
  unfold pl fg
  split <;> split <;> omega
def fl (c : Int) : Prop := c < 0 ∨ 64 ≤ c
/-- what is flagged has no STEP in it: ww to come (flags on it), dn looked through -/
def FlI (ay : Int → Nat) (N : Nat) (Lm Rm : Nat → List Int) (ww dn : List Int) : Prop := ∀ a c b, ww = a ++ c :: b → 64 ≤ c → ∃ t z, ctt ay t = some 1 ∧ rlx ay Lm Rm N 0 t = none ∧ ((c :: a.reverse).map pl) ++ dn = t ++ z ∧ ∀ i, i < t.length → (h : i < (c :: a.reverse).length) → fl ((c :: a.reverse)[i])
theorem FlI_top (hR : Rg ay N Lm Rm) {c : Int} {ww dn : List Int} (h : FlI ay N Lm Rm (c :: ww) dn) (hc : 64 ≤ c) : rlx ay Lm Rm N 0 (pl c :: dn) = none := by
  obtain ⟨t, z, h1, h2, h3, _⟩ := h [] c ww rfl hc
  have e : pl c :: dn = t ++ z := h3
  rw [e]
  exact (rlx_loc hR h1).mpr h2
theorem FlI_move {c : Int} {ww dn : List Int} (h : FlI ay N Lm Rm (c :: ww) dn) : FlI ay N Lm Rm ww (pl c :: dn) := by
  intro a c' b e hc
  obtain ⟨t, z, h1, h2, h3, h4⟩ := h (c :: a) c' b (by rw [e]; rfl) hc
  refine ⟨t, z, h1, h2, ?_, fun i hi h => ?_⟩
  · rw [← h3]
    simp
  · have := h4 i hi (by simp at h ⊢; omega)
    have e2 : (c' :: (c :: a).reverse) = (c' :: a.reverse) ++ [c] := by simp
    have e3 : (c' :: (c :: a).reverse)[i]'(by simp at h ⊢; omega) = (c' :: a.reverse)[i] := by
      simp only [e2]
      rw [List.getElem_append_left h]
    rw [e3] at this
    exact this
theorem FlI_nil {dn : List Int} : FlI ay N Lm Rm [] dn := fun a c b e _ => by
  have := congrArg List.length e
  simp at this
theorem FlI_none {ww dn : List Int} (h : ∀ c, c ∈ ww → c < 64) : FlI ay N Lm Rm ww dn := fun a c b e hc => by
  have := h c (by rw [e]; simp)
  omega
/-- what is looked through has no STEP in it -/
def dnN (ay : Int → Nat) (N : Nat) (Lm Rm : Nat → List Int) (dn : List Int) : Prop := ∀ x y, dn = x ++ y → y ≠ [] → rlx ay Lm Rm N 0 y = none
theorem dnN_nil : dnN ay N Lm Rm [] := fun x y e h => absurd (List.append_eq_nil_iff.mp e.symm).2 h
theorem dnN_cons {c : Int} {dn : List Int} (h : dnN ay N Lm Rm dn) (hc : rlx ay Lm Rm N 0 (c :: dn) = none) : dnN ay N Lm Rm (c :: dn) := by
  intro x y e hy
  cases x with
  | nil => rw [List.nil_append] at e; rw [← e]; exact hc
  | cons d x =>
    injection e with _ e2
    exact h x y e2 hy
theorem dnN_suf {x y : List Int} (h : dnN ay N Lm Rm (x ++ y)) : dnN ay N Lm Rm y := fun a b e hb => h (x ++ a) b (by rw [e, List.append_assoc]) hb
/-- where a VARIABLE's part stands in what is put together -/
theorem sb_mem {v : Int} : ∀ {l : List Int}, v ∈ l → v < 0 → ∃ p q, sb σ l = p ++ σ v ++ q
  | [], h, _ => absurd h List.not_mem_nil
  | c :: l, h, hv => by
    rcases List.mem_cons.mp h with rfl | h
    · exact ⟨[], sb σ l, by rw [sb_cons, if_pos hv]; rfl⟩
    · obtain ⟨p, q, e⟩ := sb_mem h hv
      refine ⟨(if c < 0 then σ c else [c]) ++ p, q, ?_⟩
      rw [sb_cons, e]
      simp only [List.append_assoc]
/-- a flagged cell of what is put together lies in a VARIABLE's part -/
theorem sb_fg {c : Int} (hc : 64 ≤ c) : ∀ {l p q : List Int}, (∀ x, x ∈ l → x < 16) → sb (fun v => (σ v).map fg) l = p ++ c :: q → ∃ v s1 s2 q', v ∈ l ∧ v < 0 ∧ σ v = s1 ++ s2 ∧ s2 ≠ [] ∧ c :: q = s2.map fg ++ q'
  | [], p, q, _, e => by
    have := congrArg List.length e
    simp [sb_nil] at this
  | d :: l, p, q, hl, e => by
    rw [sb_cons] at e
    rcases List.append_eq_append_iff.mp e with ⟨a, e1, e2⟩ | ⟨a, e1, e2⟩
    · obtain ⟨v, s1, s2, q', h1, h2, h3⟩ := sb_fg hc (fun x hx => hl x (List.mem_cons_of_mem _ hx)) e2
      exact ⟨v, s1, s2, q', List.mem_cons_of_mem _ h1, h2, h3⟩
    · by_cases g : d < 0
      · rw [if_pos g] at e1
        cases a with
        | nil =>
          rw [List.nil_append] at e2
          obtain ⟨v, s1, s2, q', h1, h2, h3⟩ := sb_fg (p := []) hc (fun x hx => hl x (List.mem_cons_of_mem _ hx)) e2.symm
          exact ⟨v, s1, s2, q', List.mem_cons_of_mem _ h1, h2, h3⟩
        | cons d' a =>
          injection e2 with e3 e4
          subst e3
          obtain ⟨s1, s2, f1, f2, f3⟩ := List.map_eq_append_iff.mp e1
          refine ⟨d, s1, s2, sb (fun v => (σ v).map fg) l, List.mem_cons_self, g, f1, ?_, ?_⟩
          · intro h
            rw [h] at f3
            cases f3
          · rw [f3, e4]; rfl
      · rw [if_neg g] at e1
        cases a with
        | nil =>
          rw [List.nil_append] at e2
          obtain ⟨v, s1, s2, q', h1, h2, h3⟩ := sb_fg (p := []) hc (fun x hx => hl x (List.mem_cons_of_mem _ hx)) e2.symm
          exact ⟨v, s1, s2, q', List.mem_cons_of_mem _ h1, h2, h3⟩
        | cons d' a =>
          injection e2 with e3 e4
          have : c ∈ [d] := by rw [e1, e3]; simp
          have := List.mem_singleton.mp this
          have := hl d List.mem_cons_self
          omega
theorem FlI_new (hR : Rg ay N Lm Rm) {u : Nat} (hu : u < N) {c : Int} {ww dn y : List Int} (h : FlI ay N Lm Rm (c :: ww) dn) (hc : 0 ≤ c ∧ c < 64) (hd : dnN ay N Lm Rm dn) (hs : tv ay σ) (hb : ∀ v, v ∈ Rm u → v < 0 → ∀ x, x ∈ σ v → x < 16) (e : c :: dn = sb σ (Lm u) ++ y) : FlI ay N Lm Rm ((sb (fun v => (σ v).map fg) (Rm u)).reverse ++ ww) y := by
  obtain ⟨g1, g2, g3, ⟨s, l, g4, g5⟩, g6, g7⟩ := hR.2 u hu
  intro a c' b e' hc'
  rcases List.append_eq_append_iff.mp e' with ⟨a0, e1, e2⟩ | ⟨a0, e1, e2⟩
  · -- among the elder ones
    obtain ⟨t, z, h1, h2, h3, h4⟩ := h (c :: a0) c' b (by rw [e2]; rfl) hc'
    have hlen : t.length ≤ (c' :: a0.reverse).length := by
      refine Classical.byContradiction fun hn => ?_
      have := h4 (c' :: a0.reverse).length (by omega) (by simp)
      have e3 : (c' :: (c :: a0).reverse) = (c' :: a0.reverse) ++ [c] := by simp
      simp only [e3] at this
      rw [List.getElem_append_right (Nat.le_refl _)] at this
      simp [fl] at this
      omega
    have e4 : (c' :: (c :: a0).reverse).map pl ++ dn = (c' :: a0.reverse).map pl ++ (pl c :: dn) := by simp
    rw [e4] at h3
    obtain ⟨w, e5⟩ : ∃ w, (c' :: a0.reverse).map pl = t ++ w := by
      rcases List.append_eq_append_iff.mp h3 with ⟨w, f1, f2⟩ | ⟨w, f1, f2⟩
      · have f3 := congrArg List.length f1
        simp only [List.length_append, List.length_map] at f3
        have : w = [] := List.length_eq_zero_iff.mp (by omega)
        exact ⟨[], by rw [f1, this]; simp⟩
      · exact ⟨w, f1⟩
    refine ⟨t, w ++ ((sb (fun v => (σ v).map fg) (Rm u)).map pl ++ y), h1, h2, ?_, fun i hi hh => ?_⟩
    · rw [e1, List.reverse_append, List.reverse_reverse, ← List.cons_append, List.map_append, e5]
      simp only [List.append_assoc]
    · have := h4 i hi (by simp at hlen ⊢; omega)
      have e6 : (c' :: (c :: a0).reverse) = (c' :: a0.reverse) ++ [c] := by simp
      have e7 : c' :: a.reverse = (c' :: a0.reverse) ++ sb (fun v => (σ v).map fg) (Rm u) := by rw [e1]; simp
      have hi2 : i < (c' :: a0.reverse).length := by omega
      simp only [e6] at this
      rw [List.getElem_append_left hi2] at this
      simp only [e7]
      rw [List.getElem_append_left hi2]
      exact this
  · -- among the new ones
    cases a0 with
    | nil =>
      -- c' begins the elder ones
      rw [List.nil_append] at e2
      rw [List.append_nil] at e1
      obtain ⟨t, z, h1, h2, h3, h4⟩ := h [c] c' b (by rw [← e2]; rfl) hc'
      have hlen : t.length ≤ 1 := by
        refine Classical.byContradiction fun hn => ?_
        have := h4 1 (by omega) (by simp)
        simp [fl] at this
        omega
      have e4 : t = [pl c'] := by
        cases t with
        | nil => exact absurd (ct_nil.mp h1) (by decide)
        | cons t0 t' =>
          have : t' = [] := List.length_eq_zero_iff.mp (by rw [List.length_cons] at hlen; omega)
          subst this
          simp at h3
          rw [h3.1]
      refine ⟨t, (a.reverse).map pl ++ y, h1, h2, by rw [e4]; simp, fun i hi hh => ?_⟩
      have : i = 0 := by rw [e4] at hi; simp at hi; exact hi
      subst this
      exact Or.inr hc'
    | cons d a0 =>
      injection e2 with e3 e4
      subst e3
      have e5 : sb (fun v => (σ v).map fg) (Rm u) = a0.reverse ++ c' :: a.reverse := by
        have := congrArg List.reverse e1
        rw [List.reverse_reverse] at this
        rw [this]; simp
      obtain ⟨v, s1, s2, q', k1, k2, k3, k4, k5⟩ := sb_fg hc' g7 e5
      -- the part's rest begins with a TERM that lies in dn
      have hvL := g3 v k1 k2
      rw [g4] at hvL
      rcases List.mem_cons.mp hvL with hv0 | hvl
      · omega
      · obtain ⟨p, q, e6⟩ := sb_mem (σ := σ) hvl k2
        rw [g4, sb_cons, if_neg (by omega)] at e
        injection e with _ e7
        change dn = sb σ l ++ y at e7
        rw [e6, k3] at e7
        have hn : rlx ay Lm Rm N 0 (s2 ++ (q ++ y)) = none := hd (p ++ s1) (s2 ++ (q ++ y)) (by rw [e7]; simp only [List.append_assoc]) (by intro h0; exact k4 (List.append_eq_nil_iff.mp h0).1)
        obtain ⟨j, hj⟩ := ct_suf (by rw [← k3]; exact hs v k2)
        have hj0 : j ≠ 0 := fun h0 => k4 (ct_zero (by rw [hj, h0]))
        obtain ⟨t, r, m1, m2, m3⟩ := ct_split (a := 1) (b := j - 1) (x := s2) (by rw [hj]; congr 1; omega)
        have hpl : (s2.map fg).map pl = s2 := by
          rw [List.map_map]
          have : ∀ x, x ∈ s2 → (pl ∘ fg) x = x := fun x hx => pl_fg (hb v k1 k2 x (by rw [k3]; exact List.mem_append_right _ hx))
          rw [List.map_congr_left this]; simp
        refine ⟨t, r ++ (q'.map pl ++ y), m2, ?_, ?_, fun i hi hh => ?_⟩
        · rw [m1, List.append_assoc] at hn
          exact (rlx_loc hR m2).mp hn
        · rw [k5, List.map_append, hpl, m1]
          simp only [List.append_assoc]
        · have hi2 : i < (s2.map fg).length := by rw [List.length_map, m1, List.length_append]; omega
          simp only [k5]
          rw [List.getElem_append_left hi2, List.getElem_map]
          unfold fl fg
          split <;> omega
end NRM
