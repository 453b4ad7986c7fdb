/-! the class's Bench: putValues(), rename() -/
section CRN
variable {X : aX} {d : Nat} {P : Mp} {J : Mj} {m m' : Mi} {x0 : Nat} {cd : Nat → Int} {nx : Nat → Nat} {ay : Int → Nat} {n : Nat} {R rt T : Nat → Nat} {B : Nat} {col : Nat → Int}
/-- so many VALUES, the first of which begins at a cell -/
def pvs (ay : Int → Nat) (cd : Nat → Int) (nx R : Nat → Nat) (em : Nat → Bool → Int) (hole patch : Nat) : Nat → Nat → Option (List (List Int))
  | 0, _ => some []
  | c + 1, a => match pt ay cd nx R em hole patch 100 [(a, false)] with
    | none => none
    | some l => (pvs ay cd nx R em hole patch c (nx a)).map fun r => l :: r
theorem pt_len {em : Nat → Bool → Int} {hole patch : Nat} : ∀ {f : Nat} {st : List (Nat × Bool)} {l : List Int}, pt ay cd nx R em hole patch f st = some l → l.length ≤ f := by
  have one : ∀ {f : Nat} {t : Option (List Int)} {x : Int} {l : List Int}, (∀ r, t = some r → r.length ≤ f) → t.map (fun r => x :: r) = some l → l.length ≤ f + 1 := by
    intro f t x l h1 h
    obtain ⟨r, h2, h3⟩ := Option.map_eq_some_iff.mp h
    rw [← h3, List.length_cons]
    exact Nat.succ_le_succ (h1 r h2)
  intro f
  induction f with
  | zero =>
    intro st l h
    cases st with
    | nil => rw [pt] at h; cases h; exact Nat.zero_le _
    | cons e st => cases h
  | succ f ih =>
    intro st l h
    cases st with
    | nil => rw [pt] at h; cases h; exact Nat.zero_le _
    | cons e st =>
      obtain ⟨a, w⟩ := e
      rw [pt] at h
      generalize (if w = false ∧ a = hole then patch else a) = a1 at h
      generalize (if w = false ∧ a = hole then true else w) = w1 at h
      split at h
      · split at h
        · exact one (fun r hr => ih hr) h
        · exact one (fun r hr => ih hr) h
      · exact one (fun r hr => ih hr) h
theorem c_putValues {from_ count cells hole patch : Nat} {hv pv : Int} (hp : PP P) (kx : am_kd an_K x0 = some (.inl 4)) (hG : Gok ay cd nx n) (hU : UIv cd n R) (hB : B ≤ 1000) (hhole : ∀ a, a < n → ((a : Int) = hv ↔ a = hole)) (zhv : Zr hv) (hpatch : hole < n → patch < n ∧ pv = (patch : Int)) {made : List Int} (hlim : made.length + 100 * count ≤ 800) (hc6 : count ≤ 8) (hcn : cells ≤ n) (hst : ∀ i, i < count → kid nx from_ i < cells) (hlast : kid nx from_ count ≤ n) (hM : MD x0 m made) (hC : CI x0 R rt T B col m) (hGC : GC x0 cd nx n m) (hh1 : m x0 13 = hv) (hh2 : m x0 14 = pv) (hh3 : m x0 2 = (cells : Int)) {post : Int → Mi → Mj → Mp → Prop} (k1 : ∀ ls, pvs ay cd nx R (emc cd 0) hole patch count from_ = some ls → ∀ m', MD x0 m' (made ++ ls.flatten) → CI x0 R rt T B col m' → GC x0 cd nx n m' → ptF x0 m m' → post 1 m' J P) (k0 : pvs ay cd nx R (emc cd 0) hole patch count from_ = none → ∀ m', CI x0 R rt T B col m' → ptF x0 m m' → post 0 m' J P) : Ci X (d + 2) 93 [.ref x0, .int (iz (from_ : Int)), .int (iz (count : Int))] m J P post := by
  have h880 := hG.1
  refine Ci.of rfl rfl rfl (b_Bench_putValues_0 x0 from_ count kx m J P hp post ?_)
  have loop : ∀ (q v : Nat) (ls : List (List Int)) (m1 : Mi), v + q = count → ((pvs ay cd nx R (emc cd 0) hole patch q (kid nx from_ v)).map fun r => ls ++ r) = pvs ay cd nx R (emc cd 0) hole patch count from_ → ls.flatten.length ≤ 100 * v → MD x0 m1 (made ++ ls.flatten) → CI x0 R rt T B col m1 → GC x0 cd nx n m1 → ptF x0 m m1 → Rn X (d + 2) 93 5 [some (.ref x0), some (.int (iz (from_ : Int))), some (.int (iz (count : Int))), some (.int (iz (kid nx from_ v : Int))), some (.int (iz (v : Int)))] [] (SS m1 J P) (QI post) := by
    intro q
    induction q with
    | zero =>
      intro v ls m1 hvq hW hl hM1 hC1 hG1 hF
      have hW' : pvs ay cd nx R (emc cd 0) hole patch count from_ = some ls := by rw [← hW, pvs]; simp
      exact b_Bench_putValues_5 x0 from_ count _ v kx m1 J P hp post ⟨by constructor <;> omega, by constructor <;> omega, fun _ => k1 ls hW' m1 hM1 hC1 hG1 hF, fun g => absurd (by omega) g⟩
    | succ q ih =>
      intro v ls m1 hvq hW hl hM1 hC1 hG1 hF
      have hs := hst v (by omega)
      have e1 : ((kid nx from_ v : Nat) : Int).toNat = kid nx from_ v := by omega
      have e2 : ((v : Nat) : Int) + 1 = ((v + 1 : Nat) : Int) := by omega
      have hcells : m1 x0 2 = (cells : Int) := (hF _ _ (by omega) (by omega)).trans hh3
      rw [pvs] at hW
      refine b_Bench_putValues_5 x0 from_ count _ v kx m1 J P hp post ⟨by constructor <;> omega, by constructor <;> omega, fun g => absurd g (by omega), fun _ => ⟨by constructor <;> omega, by rw [hcells]; constructor <;> omega, fun g => absurd g (by rw [hcells]; omega), fun _ => ?_⟩⟩
      refine c_put (lim := 100) (made := made ++ ls.flatten) (mg := 0) (hv := hv) (pv := pv) hp kx hG hU hB (Or.inl rfl) hhole zhv hpatch (by rw [List.length_append]; omega) (by decide) (by omega) hM1 hC1 hG1 ((hF _ _ (by omega) (by omega)).trans hh1) ((hF _ _ (by omega) (by omega)).trans hh2) (fun l hl' m2 w1 w2 w3 w4 => ⟨hp, ?_, fun _ => ⟨by omega, ?_⟩, fun g => absurd (show ¬ ((l.length : Nat) : Int) = -1 by omega) g⟩) (fun hn m2 w1 w2 => ⟨hp, zrm, fun g => absurd rfl g, fun _ => ?_⟩)
      · have := pt_len hl'; constructor <;> omega
      · rw [hl'] at hW
        have hll := pt_len hl'
        rw [e1, (w3 _ (by omega)).2, e2]
        refine ih (v + 1) (ls ++ [l]) m2 (by omega) ?_ (by rw [List.flatten_append, List.length_append, List.flatten_singleton]; omega) (by rw [List.flatten_append, ← List.append_assoc]; simpa using w1) w2 w3 (ptF_trans hF w4)
        rw [← hW]
        dsimp only
        show (pvs ay cd nx R (emc cd 0) hole patch q (nx (kid nx from_ v))).map _ = _
        cases pvs ay cd nx R (emc cd 0) hole patch q (nx (kid nx from_ v)) <;> simp
      · rw [hn] at hW
        exact k0 hW.symm m2 w1 (ptF_trans hF w2)
  have := loop count 0 [] m (by omega) (by rw [kid]; simp) (by simp) (by simpa using hM) hC hGC (fun _ _ _ _ => rfl)
  rw [kid] at this
  exact this
/-- rename() -/
theorem c_rename {made : List Int} {vv : Int} (hp : PP P) (kx : am_kd an_K x0 = some (.inl 4)) (hM : MD x0 m made) (hvv : m x0 3 = vv) (hv0 : 0 ≤ vv ∧ vv ≤ 800) (hb : ∀ v, v ∈ made → v < 0 → -1 - v < vv + 8) (hz : ∀ v, v ∈ made → v < 1000) {post : Mi → Mj → Mp → Prop} (k : ∀ m', MD x0 m' (nbr [] made).1 → (∀ b k, b ≠ x0 + 8 → b ≠ x0 + 9 → m' b k = m b k) → post m' J P) : Cv X d 65 [.ref x0] m J P post := by
  refine Cv.of rfl rfl rfl (b_Bench_rename_0 x0 kx m J P hp post ?_)
  have h800 := hM.1
  -- numbers
  have l37 : ∀ (r p seen : List Int) (m1 : Mi), MD x0 m1 (p ++ r) → p ++ (nbr seen r).1 = (nbr [] made).1 → (∀ v, v ∈ r → v ∈ made) → (∀ v : Nat, (v : Int) < vv + 8 → m1 (x0 + 9) v = if (-1 - (v : Int)) ∈ seen then (ixo (-1 - (v : Int)) seen : Int) else -1) → (seen.length ≤ p.length) → (∀ b k, b ≠ x0 + 8 → b ≠ x0 + 9 → m1 b k = m b k) → Rn X d 65 37 [some (.ref x0), some (.int (iz (seen.length : Int))), some (.int (iz (p.length : Int))), none] [] (SS m1 J P) (QV post) := by
    intro r
    induction r with
    | nil =>
      intro p seen m1 hM1 hW hr hf hsl hF
      rw [List.append_nil] at hM1
      rw [nbr, List.append_nil] at hW
      have h12 := hM1.2.1
      have hl := hM1.1
      exact b_Bench_rename_37 x0 _ _ kx m1 J P hp post ⟨by constructor <;> omega, by rw [h12]; constructor <;> omega, fun _ => k m1 (by rw [← hW]; exact hM1) hF, fun g => absurd (by rw [h12]; exact Int.le_refl _) g⟩
    | cons v r ih =>
      intro p seen m1 hM1 hW hr hf hsl hF
      have h12 := hM1.2.1
      have hl := hM1.1
      rw [List.length_append, List.length_cons] at h12 hl
      have hcell := Ro_mem (p := p) (c := v) (q := r) hM1.2.2 rfl
      rw [Nat.zero_add] at hcell
      have e1 : ((p.length : Nat) : Int).toNat = p.length := by omega
      have e2 : ((p.length : Nat) : Int) + 1 = ((p ++ [v]).length : Int) := by simp
      have hvm := hr v List.mem_cons_self
      have hvz := hz v hvm
      rw [nbr] at hW
      refine b_Bench_rename_37 x0 _ _ kx m1 J P hp post ⟨by constructor <;> omega, by rw [h12]; constructor <;> omega, fun g => absurd g (by rw [h12]; omega), fun _ => ⟨by omega, ?_⟩⟩
      rw [e1, hcell]
      by_cases h0 : 0 ≤ v
      · rw [if_pos h0] at hW
        refine ⟨by constructor <;> omega, fun g => absurd g (by omega), fun _ => ?_⟩
        rw [e2]
        exact ih (p ++ [v]) seen m1 (by simpa using hM1) (by rw [← hW]; simp) (fun u hu => hr u (List.mem_cons_of_mem _ hu)) hf (by rw [List.length_append]; omega) hF
      · rw [if_neg h0] at hW
        have hvb := hb v hvm (by omega)
        have en : (-1 - v).toNat = (-1 - v).toNat := rfl
        have ev : (((-1 - v).toNat : Nat) : Int) = -1 - v := by omega
        have hfv := hf (-1 - v).toNat (by omega)
        rw [ev, show -1 - (-1 - v) = v by omega] at hfv
        -- the row with this cell numbered
        have row : ∀ (w : Int) (m2 : Mi), m2 (x0 + 8) p.length = w → (∀ k, k ≠ p.length → m2 (x0 + 8) k = m1 (x0 + 8) k) → m2 x0 12 = m1 x0 12 → MD x0 m2 ((p ++ [w]) ++ r) := by
          intro w m2 q1 q2 q3
          refine ⟨by rw [List.length_append, List.length_append, List.length_singleton]; omega, by rw [q3, h12, List.length_append, List.length_append, List.length_singleton]; omega, ?_⟩
          have hR := hM1.2.2
          refine Ro_app.mpr ⟨Ro_app.mpr ⟨Ro_fr (Ro_app.mp hR).1 fun k _ hk => q2 k (by omega), ?_, trivial⟩, ?_⟩
          · rw [Nat.zero_add]; exact q1
          · have := (Ro_app.mp hR).2.2
            rw [List.length_append, List.length_singleton, ← Nat.add_assoc]
            exact Ro_fr this fun k hk _ => q2 k (by omega)
        by_cases g : v ∈ seen
        · rw [if_pos g] at hW hfv
          have hix := ixo_lt g
          rw [hfv]
          refine ⟨by constructor <;> omega, fun _ => ⟨by omega, by constructor <;> omega, fun _ => ⟨by omega, by omega, ?_⟩, fun q => absurd (show ¬ ((ixo v seen : Nat) : Int) = -1 by omega) q⟩, fun q => absurd (by omega) q⟩
          have e3 : ((p.length : Nat) : Int) + 1 = ((p ++ [-1 - (ixo v seen : Int)]).length : Int) := by simp
          rw [e3]
          refine ih (p ++ [-1 - (ixo v seen : Int)]) seen _ (row _ _ (mu_at _ _ _ _) (fun k hk => mu_ne _ _ (by omega)) (mu_ne _ _ (by omega))) (by rw [← hW]; simp) (fun u hu => hr u (List.mem_cons_of_mem _ hu)) (fun u hu => by rw [mu_ne _ _ (by omega)]; exact hf u hu) (by rw [List.length_append]; omega) (fun b k g1 g2 => (mu_ne _ _ (by omega)).trans (hF b k g1 g2))
        · rw [if_neg g] at hW hfv
          rw [hfv]
          refine ⟨by constructor <;> omega, fun _ => ⟨by omega, zrm, fun q => absurd rfl q, fun _ => ⟨by omega, by omega, by omega, ?_⟩⟩, fun q => absurd (by omega) q⟩
          rw [mu_at]
          have e3 : ((p.length : Nat) : Int) + 1 = ((p ++ [-1 - (seen.length : Int)]).length : Int) := by simp
          have e4 : ((seen.length : Nat) : Int) + 1 = ((seen ++ [v]).length : Int) := by simp
          rw [e3, e4]
          refine ih (p ++ [-1 - (seen.length : Int)]) (seen ++ [v]) _ (row _ _ (mu_at _ _ _ _) (fun k hk => by rw [mu_ne _ _ (by omega), mu_ne _ _ (by omega)]) (by rw [mu_ne _ _ (by omega), mu_ne _ _ (by omega)])) (by rw [← hW]; simp) (fun u hu => hr u (List.mem_cons_of_mem _ hu)) (fun u hu => ?_) (by rw [List.length_append, List.length_append, List.length_singleton, List.length_singleton]; omega) (fun b k g1 g2 => by rw [mu_ne _ _ (by omega), mu_ne _ _ (by omega)]; exact hF b k g1 g2)
          rw [mu_ne _ _ (by omega)]
          by_cases q : (-1 - (u : Int)) = v
          · have : u = (-1 - v).toNat := by omega
            rw [this, mu_at, ev, show -1 - (-1 - v) = v by omega, if_pos (by simp), ixo_new g]
          · rw [mu_ne _ _ (by omega), hf u hu]
            by_cases q2 : (-1 - (u : Int)) ∈ seen
            · rw [if_pos q2, if_pos (List.mem_append_left _ q2), ixo_app q2]
            · rw [if_neg q2, if_neg (fun q3 => by
                rcases List.mem_append.mp q3 with q3 | q3
                · exact q2 q3
                · exact q (List.mem_singleton.mp q3))]
  have l2 : ∀ (q v : Nat) (m1 : Mi), (v : Int) + q = vv + 8 → (∀ w, w < v → m1 (x0 + 9) w = -1) → (∀ b k, b ≠ x0 + 9 → m1 b k = m b k) → Rn X d 65 2 [some (.ref x0), some (.int (iz (v : Int))), none, none] [] (SS m1 J P) (QV post) := by
    intro q
    induction q with
    | zero =>
      intro v m1 hv h1 hF
      have h3 : m1 x0 3 = vv := (hF _ _ (by omega)).trans hvv
      have done : Rn X d 65 37 [some (.ref x0), some (.int (iz 0)), some (.int (iz 0)), none] [] (SS m1 J P) (QV post) := by
        exact l37 made [] [] m1 (MD_fr hM (hF _ _ (by omega)) (fun k => hF _ _ (by omega))) rfl (fun v hv => hv) (fun u hu => by rw [if_neg List.not_mem_nil]; exact h1 u (by omega)) (Nat.le_refl _) (fun b k _ g => hF b k g)
      exact b_Bench_rename_2 x0 v kx m1 J P hp post ⟨by constructor <;> omega, fun _ => done, fun _ => ⟨by constructor <;> omega, by rw [h3]; constructor <;> omega, fun _ => done, fun g => absurd (by rw [h3]; omega) g⟩⟩
    | succ q ih =>
      intro v m1 hv h1 hF
      have h3 : m1 x0 3 = vv := (hF _ _ (by omega)).trans hvv
      have ev : ((v : Nat) : Int).toNat = v := by omega
      have en : ((v : Nat) : Int) + 1 = ((v + 1 : Nat) : Int) := by omega
      refine b_Bench_rename_2 x0 v kx m1 J P hp post ⟨by constructor <;> omega, fun g => absurd g (by omega), fun _ => ⟨by constructor <;> omega, by rw [h3]; constructor <;> omega, fun g => absurd g (by rw [h3]; omega), fun _ => ⟨by omega, ?_⟩⟩⟩
      rw [ev, en]
      refine ih (v + 1) _ (by omega) (fun w hw => ?_) (fun b k g => (mu_ne _ _ (by omega)).trans (hF b k g))
      by_cases e : w = v
      · rw [e, mu_at]
      · rw [mu_ne _ _ (by omega)]; exact h1 w (by omega)
  exact l2 (vv + 8).toNat 0 m (by omega) (fun w hw => absurd hw (Nat.not_lt_zero _)) (fun _ _ _ => rfl)
end CRN
