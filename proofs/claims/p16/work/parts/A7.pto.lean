/-! what holds of what is written -/
section PTO
variable {cd : Nat → Int} {nx R : Nat → Nat} {ay : Int → Nat} {n : Nat}
theorem Ocr_s (hG : Gok ay cd nx n) {z : Nat} (h : Ocr cd n z) (h8 : z < 880) : z < n ∧ 0 ≤ cd z := by
  obtain ⟨c, hc, e⟩ := h
  by_cases q : 0 ≤ cd c
  · rw [ptc_s q] at e
    rw [← e]
    exact ⟨hc, q⟩
  · have := ptc_v (cd := cd) (c := c) (by omega) (hG.2.2 c hc).2.2.1
    omega
/-- what stands for a part is a part that there is -/
theorem un_ocr (hG : Gok ay cd nx n) (h32 : ay32 ay) : ∀ (f : Nat) (R : Nat → Nat) (st : List (Nat × Nat)) (R' : Nat → Nat), un ay cd nx f R st = some R' → (∀ e, e ∈ st → e.1 < n ∧ e.2 < n) → (∀ c, c < n → Ocr cd n (R (ptc cd c))) → ∀ c, c < n → Ocr cd n (R' (ptc cd c)) := by
  intro f
  induction f with
  | zero =>
    intro R st R' h hst hU
    cases st with
    | nil =>
      rw [un] at h
      cases h
      exact hU
    | cons e st => cases h
  | succ f ih =>
    intro R st R' h hst hU
    cases st with
    | nil =>
      rw [un] at h
      cases h
      exact hU
    | cons e st =>
      obtain ⟨a, b⟩ := e
      rw [un] at h
      have hab : a < n ∧ b < n := hst (a, b) List.mem_cons_self
      have hst' : ∀ e, e ∈ st → e.1 < n ∧ e.2 < n := fun e he => hst e (List.mem_cons_of_mem _ he)
      have oa := hU a hab.1
      have ob := hU b hab.2
      have hrep : ∀ {p q : Nat}, Ocr cd n q → ∀ c, c < n → Ocr cd n (rep R p q (ptc cd c)) := fun hq c hc => by
        unfold rep
        split
        · exact hq
        · exact hU c hc
      by_cases g1 : R (ptc cd a) = R (ptc cd b)
      · rw [if_pos g1] at h
        exact ih R st R' h hst' hU
      · rw [if_neg g1] at h
        by_cases g2 : 880 ≤ R (ptc cd a)
        · rw [if_pos g2] at h
          exact ih _ st R' h hst' (hrep ob)
        · rw [if_neg g2] at h
          by_cases g3 : 880 ≤ R (ptc cd b)
          · rw [if_pos g3] at h
            exact ih _ st R' h hst' (hrep oa)
          · rw [if_neg g3] at h
            by_cases g4 : syc cd (R (ptc cd a)) ≠ syc cd (R (ptc cd b))
            · rw [if_pos g4] at h
              cases h
            · rw [if_neg g4] at h
              have sa := Ocr_s hG oa (by omega)
              have sb := Ocr_s hG ob (by omega)
              have ey : ay (cd (R (ptc cd a))) = ay (cd (R (ptc cd b))) := h32 _ _ sa.2 sb.2 (Classical.not_not.mp g4)
              refine ih _ _ R' h (fun e he => ?_) (hrep ob)
              rcases List.mem_append.mp he with he | he
              · have : ∀ k, k ≤ ay (cd (R (ptc cd a))) → ∀ e, e ∈ prs nx (R (ptc cd a)) (R (ptc cd b)) k → e.1 < n ∧ e.2 < n := by
                  intro k
                  induction k with
                  | zero => intro _ e he; exact absurd he List.not_mem_nil
                  | succ k ihk =>
                    intro hk e he
                    rw [prs] at he
                    rcases List.mem_cons.mp he with he | he
                    · rw [he]
                      exact ⟨(G_kid hG sa.1 (by omega)).2.1, (G_kid hG sb.1 (by omega)).2.1⟩
                    · exact ihk (by omega) e he
                exact this _ (Nat.le_refl _) e he
              · exact hst' e he
theorem uni_ok (hG : Gok ay cd nx n) (h32 : ay32 ay) {a b : Nat} (ha : a < n) (hb : b < n) (h : uni ay cd nx n a b = some R) : (UIv cd n R ∧ USy cd n R ∧ UCl ay cd nx n R []) ∧ ∀ c, c < n → Ocr cd n (R (ptc cd c)) := by
  unfold uni at h
  cases hu : un ay cd nx (Amt ay cd n (fun z => z) + 1) (fun z => z) [(a, b)] with
  | none => rw [hu] at h; cases h
  | some R1 =>
    rw [hu] at h
    dsimp only at h
    have e : R1 = R := by
      split at h
      · cases h; rfl
      · cases h
    subst e
    have hst : ∀ e, e ∈ [(a, b)] → e.1 < n ∧ e.2 < n := fun e he => by rw [List.mem_singleton.mp he]; exact ⟨ha, hb⟩
    refine ⟨un_ok hG h32 _ _ _ _ hu hst UIv_id (fun _ _ _ => rfl) (UCl_mono UCl_id), un_ocr hG h32 _ _ _ _ hu hst fun c hc => ocr_mk hc rfl⟩
theorem kids_mem {c : Nat} {w : Bool} {k : Nat} {e : Nat × Bool} (h : e ∈ kids nx c w k) : ∃ i, i < k ∧ e = (kid nx (c + 1) i, w) := by
  obtain ⟨i, hi, e1⟩ := List.mem_iff_getElem.mp h
  rw [kids_get] at e1
  rw [kids_len] at hi
  exact Exists.intro i ⟨hi, e1.symm⟩
/-- what the class writes: how many TERMS, and of what -/
theorem pt_ok (hG : Gok ay cd nx n) (hO : ∀ c, c < n → Ocr cd n (R (ptc cd c))) {em : Nat → Bool → Int} {hole patch : Nat} (hem : ∀ c w, c < n → 0 ≤ cd c → ay (em c w) = ay (cd c)) (hpn : patch < n) : ∀ (f : Nat) (st : List (Nat × Bool)) (l : List Int), pt ay cd nx R em hole patch f st = some l → (∀ e, e ∈ st → e.1 < n) → ctt ay l = some st.length ∧ ∀ v, v ∈ l → (∃ c w, c < n ∧ 0 ≤ cd c ∧ v = em c w) ∨ ∃ z, Ocr cd n z ∧ 880 ≤ z ∧ v = 879 - (z : Int) := by
  intro f
  induction f with
  | zero =>
    intro st l h hst
    cases st with
    | nil => rw [pt] at h; cases h; exact ⟨rfl, fun v hv => absurd hv List.not_mem_nil⟩
    | cons e st => cases h
  | succ f ih =>
    intro st l h hst
    cases st with
    | nil => rw [pt] at h; cases h; exact ⟨rfl, fun v hv => absurd hv List.not_mem_nil⟩
    | cons e st =>
      obtain ⟨a, w⟩ := e
      have ha : a < n := hst (a, w) List.mem_cons_self
      have hst' : ∀ e, e ∈ st → e.1 < n := fun e he => hst e (List.mem_cons_of_mem _ he)
      rw [pt] at h
      have hcn : (if w = false ∧ a = hole then patch else a) < n := by split <;> assumption
      generalize (if w = false ∧ a = hole then patch else a) = c at h hcn
      -- a SYMBOL
      have symb : ∀ (q : Nat) (w' : Bool), q < n → 0 ≤ cd q → (pt ay cd nx R em hole patch f (kids nx q w' (ay (cd q)) ++ st)).map (fun l => em q w' :: l) = some l → ctt ay l = some (st.length + 1) ∧ ∀ v, v ∈ l → (∃ c w, c < n ∧ 0 ≤ cd c ∧ v = em c w) ∨ ∃ z, Ocr cd n z ∧ 880 ≤ z ∧ v = 879 - (z : Int) := by
        intro q w' hq hq0 h2
        obtain ⟨r, h3, h4⟩ := Option.map_eq_some_iff.mp h2
        obtain ⟨i1, i2⟩ := ih _ r h3 fun e he => by
          rcases List.mem_append.mp he with he | he
          · obtain ⟨i, hi, e1⟩ := kids_mem he
            rw [e1]
            exact (G_kid hG hq hi).2.1
          · exact hst' e he
        rw [List.length_append, kids_len] at i1
        rw [← h4]
        refine ⟨ct_cons.mpr ⟨_, i1, by rw [hem q w' hq hq0]; omega, by rw [hem q w' hq hq0]; omega⟩, fun v hv => ?_⟩
        rcases List.mem_cons.mp hv with hv | hv
        · exact Or.inl ⟨q, w', hq, hq0, hv⟩
        · exact i2 v hv
      rw [List.length_cons]
      by_cases g : cd c < 0
      · rw [if_pos g] at h
        have ho := hO c hcn
        by_cases g2 : 880 ≤ R (ptc cd c)
        · rw [if_pos g2] at h
          obtain ⟨r, h3, h4⟩ := Option.map_eq_some_iff.mp h
          obtain ⟨i1, i2⟩ := ih _ r h3 hst'
          have hay : ay (879 - (R (ptc cd c) : Int)) = 0 := hG.2.1 _ (by omega)
          rw [← h4]
          refine ⟨ct_cons.mpr ⟨_, i1, by rw [hay]; omega, by rw [hay]; omega⟩, fun v hv => ?_⟩
          rcases List.mem_cons.mp hv with hv | hv
          · exact Or.inr ⟨_, ho, g2, hv⟩
          · exact i2 v hv
        · rw [if_neg g2] at h
          obtain ⟨s1, s2⟩ := Ocr_s hG ho (by omega)
          exact symb _ true s1 s2 h
      · rw [if_neg g] at h
        exact symb c w hcn (by omega) h
/-- numbering keeps what there is of ARGUMENTS -/
theorem nbr_ay (hv : ∀ c, c < 0 → ay c = 0) : ∀ {l seen : List Int}, ((nbr seen l).1).map ay = l.map ay
  | [], _ => rfl
  | v :: l, seen => by
    rw [nbr]
    by_cases h : 0 ≤ v
    · rw [if_pos h, List.map_cons, List.map_cons, nbr_ay hv]
    · rw [if_neg h]
      by_cases g : v ∈ seen
      · rw [if_pos g, List.map_cons, List.map_cons, nbr_ay hv, hv v (by omega), hv _ (by omega)]
      · rw [if_neg g, List.map_cons, List.map_cons, nbr_ay hv, hv v (by omega), hv _ (by omega)]
theorem nbr_mem : ∀ {l seen : List Int} {v : Int}, v ∈ (nbr seen l).1 → (0 ≤ v ∧ v ∈ l) ∨ (v < 0 ∧ -(seen.length + l.length : Nat) ≤ v)
  | [], _, v, h => absurd h List.not_mem_nil
  | u :: l, seen, v, h => by
    rw [nbr] at h
    rw [List.length_cons]
    by_cases h0 : 0 ≤ u
    · rw [if_pos h0] at h
      rcases List.mem_cons.mp h with h | h
      · exact Or.inl ⟨by omega, by rw [h]; exact List.mem_cons_self⟩
      · rcases nbr_mem h with q | q
        · exact Or.inl ⟨q.1, List.mem_cons_of_mem _ q.2⟩
        · exact Or.inr ⟨q.1, by omega⟩
    · rw [if_neg h0] at h
      by_cases g : u ∈ seen
      · rw [if_pos g] at h
        have := ixo_lt g
        rcases List.mem_cons.mp h with h | h
        · exact Or.inr ⟨by omega, by omega⟩
        · rcases nbr_mem h with q | q
          · exact Or.inl ⟨q.1, List.mem_cons_of_mem _ q.2⟩
          · exact Or.inr ⟨q.1, by omega⟩
      · rw [if_neg g] at h
        rcases List.mem_cons.mp h with h | h
        · exact Or.inr ⟨by omega, by omega⟩
        · rcases nbr_mem h with q | q
          · exact Or.inl ⟨q.1, List.mem_cons_of_mem _ q.2⟩
          · have := q.2
            rw [List.length_append, List.length_singleton] at this
            exact Or.inr ⟨q.1, by omega⟩
end PTO
