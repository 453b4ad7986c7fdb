/-! what is written out, pure -/
section PUT
variable {cd : Nat → Int} {nx R : Nat → Nat} {ay : Int → Nat} {n : Nat}
/-- the ARGUMENTS of a cell, the first one first -/
def kids (nx : Nat → Nat) (c : Nat) (w : Bool) : Nat → List (Nat × Bool)
  | 0 => []
  | k + 1 => kids nx c w k ++ [(kid nx (c + 1) k, w)]
theorem kids_len {c : Nat} {w : Bool} : ∀ {k : Nat}, (kids nx c w k).length = k
  | 0 => rfl
  | k + 1 => by rw [kids, List.length_append, kids_len]; rfl
/-- as the class writes: cells, told whether they came for a VARIABLE -/
def pt (ay : Int → Nat) (cd : Nat → Int) (nx R : Nat → Nat) (em : Nat → Bool → Int) (hole patch : Nat) : Nat → List (Nat × Bool) → Option (List Int)
  | _, [] => some []
  | 0, _ :: _ => none
  | f + 1, (a, w) :: st =>
    if cd (if w = false ∧ a = hole then patch else a) < 0 then
      if 880 ≤ R (ptc cd (if w = false ∧ a = hole then patch else a)) then (pt ay cd nx R em hole patch f st).map fun l => (879 - (R (ptc cd (if w = false ∧ a = hole then patch else a)) : Int)) :: l
      else (pt ay cd nx R em hole patch f (kids nx (R (ptc cd (if w = false ∧ a = hole then patch else a))) true (ay (cd (R (ptc cd (if w = false ∧ a = hole then patch else a))))) ++ st)).map fun l => em (R (ptc cd (if w = false ∧ a = hole then patch else a))) true :: l
    else (pt ay cd nx R em hole patch f (kids nx (if w = false ∧ a = hole then patch else a) w (ay (cd (if w = false ∧ a = hole then patch else a))) ++ st)).map fun l => em (if w = false ∧ a = hole then patch else a) w :: l
/-- parts of a cell's ARGUMENTS -/
def pkids (cd : Nat → Int) (nx : Nat → Nat) (c : Nat) (w : Bool) (k : Nat) : List (Nat × Bool) := (kids nx c w k).map fun e => (ptc cd e.1, e.2)
/-- as the reference writes: parts; a SYMBOL's mark by mk, or am for what came for a VARIABLE -/
def pq (ay : Int → Nat) (cd : Nat → Int) (nx R : Nat → Nat) (mk : Nat → Int) (am : Int) (hole patch : Nat) : Nat → List (Nat × Bool) → Option (List Int)
  | _, [] => some []
  | 0, _ :: _ => none
  | f + 1, (z, w) :: st =>
    if w = true ∨ 880 ≤ (if w = false ∧ z = hole then ptc cd patch else z) then
      if 880 ≤ R (if w = false ∧ z = hole then ptc cd patch else z) then (pq ay cd nx R mk am hole patch f st).map fun l => (879 - (R (if w = false ∧ z = hole then ptc cd patch else z) : Int)) :: l
      else (pq ay cd nx R mk am hole patch f (pkids cd nx (R (if w = false ∧ z = hole then ptc cd patch else z)) true (ay (cd (R (if w = false ∧ z = hole then ptc cd patch else z)))) ++ st)).map fun l => (syc cd (R (if w = false ∧ z = hole then ptc cd patch else z)) + 64 * am) :: l
    else (pq ay cd nx R mk am hole patch f (pkids cd nx (if w = false ∧ z = hole then ptc cd patch else z) false (ay (cd (if w = false ∧ z = hole then ptc cd patch else z))) ++ st)).map fun l => (syc cd (if w = false ∧ z = hole then ptc cd patch else z) + 64 * mk (if w = false ∧ z = hole then ptc cd patch else z)) :: l
/-- elements that go together -/
def rlE (cd : Nat → Int) (R : Nat → Nat) (n hole : Nat) (S V : Nat → Prop) (e e' : Nat × Bool) : Prop := e.1 < n ∧ ((e'.2 = false ∧ e.2 = false ∧ e'.1 = ptc cd e.1 ∧ S e.1) ∨ (e'.2 = true ∧ R e'.1 = R (ptc cd e.1) ∧ (e.2 = true ∨ (e.2 = false ∧ V e.1 ∧ e.1 ≠ hole))))
def rlS (cd : Nat → Int) (R : Nat → Nat) (n hole : Nat) (S V : Nat → Prop) : List (Nat × Bool) → List (Nat × Bool) → Prop
  | [], [] => True
  | e :: st, e' :: st' => rlE cd R n hole S V e e' ∧ rlS cd R n hole S V st st'
  | _, _ => False
theorem rlS_app {hole : Nat} {S V : Nat → Prop} {s2 s2' : List (Nat × Bool)} (h2 : rlS cd R n hole S V s2 s2') : ∀ {s1 s1' : List (Nat × Bool)}, rlS cd R n hole S V s1 s1' → rlS cd R n hole S V (s1 ++ s2) (s1' ++ s2')
  | [], [], _ => h2
  | e :: s1, e' :: s1', h => ⟨h.1, rlS_app h2 h.2⟩
  | [], _ :: _, h => h.elim
  | _ :: _, [], h => h.elim
theorem rlS_kids {hole : Nat} {S V : Nat → Prop} {c r : Nat} {w w' : Bool} : ∀ {k : Nat}, (∀ i, i < k → rlE cd R n hole S V (kid nx (c + 1) i, w) (ptc cd (kid nx (r + 1) i), w')) → rlS cd R n hole S V (kids nx c w k) (pkids cd nx r w' k)
  | 0, _ => trivial
  | k + 1, h => by
    have e : pkids cd nx r w' (k + 1) = pkids cd nx r w' k ++ [(ptc cd (kid nx (r + 1) k), w')] := by
      unfold pkids
      rw [kids, List.map_append]
      rfl
    rw [kids, e]
    exact rlS_app (by exact ⟨h k (by omega), trivial⟩) (rlS_kids fun i hi => h i (by omega))
/-- both write alike -/
theorem pt_pq (hG : Gok ay cd nx n) (hay : ay32 ay) (hU : UIv cd n R) (hY : USy cd n R) (hC : UCl ay cd nx n R []) {em : Nat → Bool → Int} {mk : Nat → Int} {am : Int} {hole patch : Nat} {S V : Nat → Prop} {f : Int → Int} (hpn : patch < n) (hS : ∀ c, c < n → S c → 0 ≤ cd c → (∀ i, i < ay (cd c) → S (kid nx (c + 1) i)) ∧ f (em c false) = syc cd c + 64 * mk c) (hSp : ∀ a, S a → a = hole → S patch) (hV : ∀ c, c < n → V c → 0 ≤ cd c → (∀ i, i < ay (cd c) → V (kid nx (c + 1) i) ∧ kid nx (c + 1) i ≠ hole) ∧ f (em c false) = syc cd c + 64 * am) (hT : ∀ c, c < n → 0 ≤ cd c → f (em c true) = syc cd c + 64 * am) (hf : ∀ v, v < 0 → f v = v) (hole_s : ∀ a, a < n → S a → (a = hole ↔ ptc cd a = hole)) : ∀ (k : Nat) (st st' : List (Nat × Bool)), rlS cd R n hole S V st st' → pq ay cd nx R mk am hole patch k st' = (pt ay cd nx R em hole patch k st).map fun l => l.map f := by
  have h880 := hG.1
  intro k
  induction k with
  | zero =>
    intro st st' h
    cases st with
    | nil =>
      cases st' with
      | nil => rfl
      | cons e' st' => exact h.elim
    | cons e st =>
      cases st' with
      | nil => exact h.elim
      | cons e' st' => rfl
  | succ k ih =>
    intro st st' h
    cases st with
    | nil =>
      cases st' with
      | nil => rfl
      | cons e' st' => exact h.elim
    | cons e st =>
      cases st' with
      | nil => exact h.elim
      | cons e' st' =>
        obtain ⟨a, w⟩ := e
        obtain ⟨z, w'⟩ := e'
        obtain ⟨⟨han, hr⟩, hst⟩ := h
        change a < n at han
        -- what stands for a VARIABLE or came for one
        have both : ∀ (c y : Nat), c < n → R y = R (ptc cd c) → (if 880 ≤ R y then (pq ay cd nx R mk am hole patch k st').map fun l => (879 - (R y : Int)) :: l else (pq ay cd nx R mk am hole patch k (pkids cd nx (R y) true (ay (cd (R y))) ++ st')).map fun l => (syc cd (R y) + 64 * am) :: l) = (if 880 ≤ R (ptc cd c) then ((pt ay cd nx R em hole patch k st).map fun l => (879 - (R (ptc cd c) : Int)) :: l) else (pt ay cd nx R em hole patch k (kids nx (R (ptc cd c)) true (ay (cd (R (ptc cd c)))) ++ st)).map fun l => em (R (ptc cd c)) true :: l).map fun l => l.map f := by
          intro c y hc e
          rw [e]
          have hv := hU _ (vp_pt hG hc)
          by_cases g : 880 ≤ R (ptc cd c)
          · rw [if_pos g, if_pos g, ih st st' hst]
            have : f (879 - (R (ptc cd c) : Int)) = 879 - (R (ptc cd c) : Int) := hf _ (by omega)
            cases pt ay cd nx R em hole patch k st with
            | none => rfl
            | some l => simp [this]
          · rw [if_neg g, if_neg g]
            have nq := (vp_lt hG hv.1).2 (by omega)
            have hr2 : rlS cd R n hole S V (kids nx (R (ptc cd c)) true (ay (cd (R (ptc cd c)))) ++ st) (pkids cd nx (R (ptc cd c)) true (ay (cd (R (ptc cd c)))) ++ st') := rlS_app hst (rlS_kids fun i hi => ⟨(G_kid hG nq.1 hi).2.1, Or.inr ⟨rfl, rfl, Or.inl rfl⟩⟩)
            rw [ih _ _ hr2, ← hT _ nq.1 nq.2]
            cases pt ay cd nx R em hole patch k (kids nx (R (ptc cd c)) true (ay (cd (R (ptc cd c)))) ++ st) <;> simp
        rw [pt, pq]
        rcases hr with ⟨q1, q2, q3, q4⟩ | ⟨q1, q2, q3⟩
        · -- as it stood
          change w' = false at q1
          change w = false at q2
          change z = ptc cd a at q3
          change S a at q4
          subst q1; subst q2; subst q3
          have ec : (if (false : Bool) = false ∧ ptc cd a = hole then ptc cd patch else ptc cd a) = ptc cd (if (false : Bool) = false ∧ a = hole then patch else a) := by
            by_cases g : a = hole
            · rw [if_pos ⟨rfl, (hole_s a han q4).mp g⟩, if_pos ⟨rfl, g⟩]
            · rw [if_neg (fun h => g ((hole_s a han q4).mpr h.2)), if_neg (fun h => g h.2)]
          rw [ec]
          have hcn : (if (false : Bool) = false ∧ a = hole then patch else a) < n := by split <;> assumption
          have hcS : S (if (false : Bool) = false ∧ a = hole then patch else a) := by
            split
            · rename_i g; exact hSp a q4 g.2
            · exact q4
          generalize (if (false : Bool) = false ∧ a = hole then patch else a) = c at hcn hcS ⊢
          by_cases g : cd c < 0
          · have h8 := ptc_v (cd := cd) g (hG.2.2 c hcn).2.2.1
            rw [if_pos (Or.inr h8), if_pos g]
            exact both c (ptc cd c) hcn rfl
          · have hp := ptc_s (cd := cd) (c := c) (by omega)
            rw [hp, if_neg g, if_neg (fun h => h.elim (fun h => by cases h) (fun h => by omega))]
            obtain ⟨k1, k2⟩ := hS c hcn hcS (by omega)
            have hr2 : rlS cd R n hole S V (kids nx c false (ay (cd c)) ++ st) (pkids cd nx c false (ay (cd c)) ++ st') := rlS_app hst (rlS_kids fun i hi => ⟨(G_kid hG hcn hi).2.1, Or.inl ⟨rfl, rfl, rfl, k1 i hi⟩⟩)
            rw [ih _ _ hr2, ← k2]
            cases pt ay cd nx R em hole patch k (kids nx c false (ay (cd c)) ++ st) <;> simp
        · -- for a VARIABLE
          change w' = true at q1
          change R z = R (ptc cd a) at q2
          change w = true ∨ (w = false ∧ V a ∧ a ≠ hole) at q3
          subst q1
          have ez : (if (true : Bool) = false ∧ z = hole then ptc cd patch else z) = z := if_neg (fun h => by cases h.1)
          have ea : (if w = false ∧ a = hole then patch else a) = a := by
            rcases q3 with q3 | ⟨_, _, q3⟩
            · rw [q3]; exact if_neg (fun h => by cases h.1)
            · exact if_neg (fun h => q3 h.2)
          rw [ez, ea, if_pos (Or.inl rfl)]
          by_cases g : cd a < 0
          · rw [if_pos g]
            exact both a z han q2
          · rw [if_neg g, q2]
            have hp := ptc_s (cd := cd) (c := a) (by omega)
            rw [hp]
            have hv := hU a (Or.inl ⟨han, by omega⟩)
            have h8 := hv.2.2 (by omega)
            have nq := (vp_lt hG hv.1).2 h8
            rw [if_neg (by omega)]
            have hsy := hY a han (by omega)
            have hays : ay (cd a) = ay (cd (R a)) := hay _ _ (by omega) nq.2 hsy
            have hem : f (em a w) = syc cd a + 64 * am := by
              rcases q3 with q3 | ⟨q3, q4, _⟩
              · rw [q3]; exact hT a han (by omega)
              · rw [q3]; exact (hV a han q4 (by omega)).2
            have hr2 : rlS cd R n hole S V (kids nx a w (ay (cd a)) ++ st) (pkids cd nx (R a) true (ay (cd (R a))) ++ st') := by
              rw [← hays]
              refine rlS_app hst (rlS_kids fun i hi => ⟨(G_kid hG han hi).2.1, Or.inr ⟨rfl, ?_, ?_⟩⟩)
              · have := hC R (fun _ _ _ _ e => e) (fun e he => absurd he List.not_mem_nil) a han (by omega) i hi
                exact this.symm
              · rcases q3 with q3 | ⟨q3, q4, _⟩
                · exact Or.inl q3
                · have := (hV a han q4 (by omega)).1 i hi
                  exact Or.inr ⟨q3, this.1, this.2⟩
            rw [ih _ _ hr2, ← hsy, ← hem]
            cases pt ay cd nx R em hole patch k (kids nx a w (ay (cd a)) ++ st) <;> simp
def ixo (v : Int) : List Int → Nat
  | [] => 0
  | w :: l => if w = v then 0 else ixo v l + 1
theorem ixo_app {v w : Int} : ∀ {l : List Int}, v ∈ l → ixo v (l ++ [w]) = ixo v l
  | [], h => absurd h List.not_mem_nil
  | u :: l, h => by
    rw [List.cons_append, ixo, ixo]
    by_cases g : u = v
    · rw [if_pos g, if_pos g]
    · rw [if_neg g, if_neg g, ixo_app (by
        rcases List.mem_cons.mp h with h | h
        · exact absurd h.symm g
        · exact h)]
theorem ixo_new {v : Int} : ∀ {l : List Int}, ¬ v ∈ l → ixo v (l ++ [v]) = l.length
  | [], _ => by rw [List.nil_append, ixo, if_pos rfl]; rfl
  | u :: l, h => by
    rw [List.cons_append, ixo, if_neg (fun e => h (by rw [e]; exact List.mem_cons_self)), ixo_new (fun g => h (List.mem_cons_of_mem _ g))]
    rfl
theorem ixo_lt {v : Int} : ∀ {l : List Int}, v ∈ l → ixo v l < l.length
  | [], h => absurd h List.not_mem_nil
  | u :: l, h => by
    rw [ixo, List.length_cons]
    by_cases g : u = v
    · rw [if_pos g]; omega
    · rw [if_neg g]
      have := ixo_lt (v := v) (l := l) (by
        rcases List.mem_cons.mp h with h | h
        · exact absurd h.symm g
        · exact h)
      omega
/-- VARIABLES numbered in the order in which they stand first; seen: those before -/
def nbr : List Int → List Int → List Int × List Int
  | seen, [] => ([], seen)
  | seen, v :: l =>
    if 0 ≤ v then (v :: (nbr seen l).1, (nbr seen l).2)
    else if v ∈ seen then ((-1 - (ixo v seen : Int)) :: (nbr seen l).1, (nbr seen l).2)
    else ((-1 - (seen.length : Int)) :: (nbr (seen ++ [v]) l).1, (nbr (seen ++ [v]) l).2)
theorem nbr_app {r : List Int} : ∀ {l seen : List Int}, nbr seen (l ++ r) = ((nbr seen l).1 ++ (nbr (nbr seen l).2 r).1, (nbr (nbr seen l).2 r).2)
  | [], seen => rfl
  | v :: l, seen => by
    rw [List.cons_append, nbr, nbr]
    by_cases h : 0 ≤ v
    · rw [if_pos h, if_pos h, nbr_app]; rfl
    · rw [if_neg h, if_neg h]
      by_cases g : v ∈ seen
      · rw [if_pos g, if_pos g, nbr_app]; rfl
      · rw [if_neg g, if_neg g, nbr_app]; rfl
theorem nbr_len : ∀ {l seen : List Int}, (nbr seen l).1.length = l.length
  | [], _ => rfl
  | v :: l, seen => by
    rw [nbr]
    split
    · rw [List.length_cons, List.length_cons, nbr_len]
    · split
      · rw [List.length_cons, List.length_cons, nbr_len]
      · rw [List.length_cons, List.length_cons, nbr_len]
/-- numbering does not look at SYMBOLS -/
theorem nbr_map {f : Int → Int} (hn : ∀ v, v < 0 → f v = v) (hp : ∀ v, 0 ≤ v → 0 ≤ f v) : ∀ {l seen : List Int}, nbr seen (l.map f) = ((nbr seen l).1.map f, (nbr seen l).2)
  | [], _ => rfl
  | v :: l, seen => by
    rw [List.map_cons, nbr, nbr]
    by_cases h : 0 ≤ v
    · rw [if_pos h, if_pos (hp v h), nbr_map hn hp]; rfl
    · rw [if_neg h, hn v (by omega), if_neg h]
      by_cases g : v ∈ seen
      · rw [if_pos g, if_pos g, nbr_map hn hp, List.map_cons, hn _ (by omega)]
      · rw [if_neg g, if_neg g, nbr_map hn hp, List.map_cons, hn _ (by omega)]
end PUT
