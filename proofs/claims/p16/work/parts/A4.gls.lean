/-! a row as a graph -/
section GLS
variable {ay : Int → Nat}
/-- the cell of a place -/
def cl : List Int → Nat → Int
  | [], _ => 0
  | c :: _, 0 => c
  | _ :: L, k + 1 => cl L k
theorem cl_get : ∀ {L : List Int} {c : Nat} (h : c < L.length), cl L c = L[c]
  | c :: L, 0, _ => rfl
  | c :: L, k + 1, h => cl_get (L := L) (c := k) (by rw [List.length_cons] at h; omega)
/-- how long the first TERMS are -/
def tk (ay : Int → Nat) : List Int → Nat → Nat
  | [], _ => 0
  | _ :: _, 0 => 0
  | c :: r, k + 1 => tk ay r (k + ay c) + 1
/-- the place behind the TERM of a place -/
def nl (ay : Int → Nat) (L : List Int) (c : Nat) : Nat := c + tk ay (L.drop c) 1
theorem tk_ct {z : List Int} : ∀ {t : List Int} {k : Nat}, ctt ay t = some k → tk ay (t ++ z) k = t.length
  | [], k, h => by
    have := ct_nil.mp h
    subst this
    cases z <;> rfl
  | c :: t, k, h => by
    obtain ⟨j, h1, h2, h3⟩ := ct_cons.mp h
    subst h3
    rw [List.cons_append, tk, List.length_cons, show j - ay c + ay c = j by omega, tk_ct h1]
theorem nl_of {L p t z : List Int} (e : L = p ++ (t ++ z)) (h : ctt ay t = some 1) : nl ay L p.length = p.length + t.length := by
  unfold nl
  rw [e, List.drop_left, tk_ct h]
theorem cl_shift {M : List Int} {c : Nat} : ∀ {L : List Int}, cl (L ++ M) (L.length + c) = cl M c
  | [] => by rw [List.nil_append, List.length_nil, Nat.zero_add]
  | x :: L => by rw [List.cons_append, List.length_cons, show L.length + 1 + c = (L.length + c) + 1 by omega, cl, cl_shift]
theorem cl_of {L p q : List Int} {c : Int} (e : L = p ++ c :: q) : cl L p.length = c := by
  have := cl_shift (L := p) (M := c :: q) (c := 0)
  rw [e]
  exact this
theorem cl_mem {L : List Int} {c : Nat} (h : c < L.length) : cl L c ∈ L := by
  rw [cl_get h]
  exact List.getElem_mem h
theorem cl_app {M : List Int} : ∀ {L : List Int} {c : Nat}, c < L.length → cl (L ++ M) c = cl L c
  | x :: L, 0, _ => rfl
  | x :: L, c + 1, h => by
    rw [List.length_cons] at h
    rw [List.cons_append, cl, cl, cl_app (by omega)]
theorem L_split {L : List Int} {k c : Nat} (h : ctt ay L = some k) (hc : c < L.length) : ∃ p x l z, L = p ++ ((x :: l) ++ z) ∧ p.length = c ∧ ctt ay l = some (ay x) := by
  have e : L = L.take c ++ L.drop c := (List.take_append_drop c L).symm
  have hd : (L.drop c).length = L.length - c := List.length_drop
  rw [e] at h
  obtain ⟨j, hj⟩ := ct_suf h
  cases hy : L.drop c with
  | nil => rw [hy] at hd; simp at hd; omega
  | cons x y =>
    rw [hy] at hj e
    obtain ⟨l, r, e1, e2, e3, e4⟩ := ct_head hj
    refine ⟨L.take c, x, l, r, ?_, by rw [List.length_take]; omega, e2⟩
    rw [e1] at e
    exact e
theorem ch_list {L z : List Int} : ∀ {k : Nat} {p q : List Int}, L = p ++ (q ++ z) → ctt ay q = some k → ch (nl ay L) (p.length + q.length) k p.length
  | 0, p, q, e, h => by
    have := ct_zero h
    subst this
    unfold ch
    simp
  | k + 1, p, q, e, h => by
    obtain ⟨t, r, e1, e2, e3⟩ := ct_first h
    have hn := nl_of (L := L) (p := p) (t := t) (z := r ++ z) (by rw [e, e1, List.append_assoc]) e2
    have ht := ct_ne e2
    have := ch_list (L := L) (z := z) (k := k) (p := p ++ t) (q := r) (by rw [e, e1]; simp) e3
    rw [List.length_append] at this
    unfold ch
    rw [hn, e1, List.length_append]
    refine ⟨by omega, by omega, ?_⟩
    rw [← Nat.add_assoc]
    exact this
theorem Gok_list {L : List Int} {k : Nat} (h : ctt ay L = some k) (hl : L.length ≤ 880) (hv : ∀ c, c < 0 → ay c = 0) (hb : ∀ c, c ∈ L → ay c ≤ 4 ∧ -808 ≤ c ∧ c < 64) : Gok ay (cl L) (nl ay L) L.length := by
  refine ⟨hl, hv, fun c hc => ?_⟩
  obtain ⟨p, x, l, z, e, e1, e2⟩ := L_split h hc
  have hx : cl L c = x := by rw [← e1]; exact cl_of (q := l ++ z) (by rw [e]; simp)
  have hn := nl_of (p := p) (t := x :: l) (z := z) e (ct_one e2)
  rw [e1, List.length_cons] at hn
  have hlen : L.length = c + (l.length + 1 + z.length) := by rw [e, ← e1]; simp; omega
  have hch := ch_list (L := L) (p := p ++ [x]) (q := l) (z := z) (by rw [e]; simp) e2
  rw [List.length_append, List.length_singleton, e1] at hch
  rw [hx, hn]
  refine ⟨⟨by omega, by omega, ?_⟩, hb x (by rw [e]; simp)⟩
  rw [show c + (l.length + 1) = c + 1 + l.length by omega]
  exact hch
theorem nl_app {L M : List Int} {k c : Nat} (h : ctt ay L = some k) (hc : c < L.length) : nl ay (L ++ M) c = nl ay L c := by
  obtain ⟨p, x, l, z, e, e1, e2⟩ := L_split h hc
  rw [← e1, nl_of e (ct_one e2), nl_of (L := L ++ M) (p := p) (t := x :: l) (z := z ++ M) (by rw [e]; simp) (ct_one e2)]
theorem nl_shift {L M : List Int} {c : Nat} : nl ay (L ++ M) (L.length + c) = L.length + nl ay M c := by
  unfold nl
  rw [List.drop_append, List.drop_of_length_le (by omega), List.nil_append, show L.length + c - L.length = c by omega, Nat.add_assoc]
theorem tk_map {f : Int → Int} : ∀ {L : List Int} {k : Nat}, (∀ c, c ∈ L → ay (f c) = ay c) → tk ay (L.map f) k = tk ay L k
  | [], _, _ => rfl
  | c :: L, 0, _ => rfl
  | c :: L, k + 1, h => by rw [List.map_cons, tk, tk, h c List.mem_cons_self, tk_map fun d hd => h d (List.mem_cons_of_mem _ hd)]
theorem nl_map {f : Int → Int} {L : List Int} {c : Nat} (h : ∀ c, c ∈ L → ay (f c) = ay c) : nl ay (L.map f) c = nl ay L c := by
  unfold nl
  rw [← List.map_drop, tk_map fun d hd => h d (List.mem_of_mem_drop hd)]
theorem ct_map {f : Int → Int} : ∀ {L : List Int} {k : Nat}, (∀ c, c ∈ L → ay (f c) = ay c) → ctt ay L = some k → ctt ay (L.map f) = some k
  | [], _, _, h => h
  | c :: L, k, g, h => by
    obtain ⟨j, h1, h2, h3⟩ := ct_cons.mp h
    rw [List.map_cons]
    refine ct_cons.mpr ⟨j, ct_map (fun d hd => g d (List.mem_cons_of_mem _ hd)) h1, ?_, ?_⟩
    · rw [g c List.mem_cons_self]; exact h2
    · rw [g c List.mem_cons_self]; exact h3
theorem Amt_list {L : List Int} {k : Nat} (h : ctt ay L = some k) : Amt ay (cl L) L.length (fun z => z) ≤ L.length := by
  show sumn (fun c => if c = c ∧ 0 ≤ cl L c then ay (cl L c) else 0) L.length ≤ L.length
  have loop : ∀ (q c : Nat), c + q = L.length → ∃ j, ctt ay (L.drop c) = some j ∧ sumn (fun c => if c = c ∧ 0 ≤ cl L c then ay (cl L c) else 0) L.length + j ≤ sumn (fun c => if c = c ∧ 0 ≤ cl L c then ay (cl L c) else 0) c + q := by
    intro q
    induction q with
    | zero =>
      intro c hc
      rw [Nat.add_zero] at hc
      rw [hc, List.drop_length]
      exact ⟨0, rfl, Nat.le_refl _⟩
    | succ q ih =>
      intro c hc
      obtain ⟨j, h1, h2⟩ := ih (c + 1) (by omega)
      have e := List.drop_eq_getElem_cons (l := L) (i := c) (by omega)
      have hx : cl L c = L[c]'(by omega) := cl_get (by omega)
      have hd : ctt ay (L.take c ++ L.drop c) = some k := by rw [List.take_append_drop]; exact h
      obtain ⟨j', hj'⟩ := ct_suf hd
      refine ⟨j', hj', ?_⟩
      rw [e, ← hx] at hj'
      obtain ⟨i, g1, g2, g3⟩ := ct_cons.mp hj'
      rw [g1] at h1
      cases h1
      rw [sumn] at h2
      have : (if c = c ∧ 0 ≤ cl L c then ay (cl L c) else 0) ≤ ay (cl L c) := by split <;> omega
      omega
  obtain ⟨j, h1, h2⟩ := loop L.length 0 (by omega)
  rw [sumn] at h2
  omega
end GLS
