/-! a NODE as a graph, and its VALUES, pure -/
section NGR
variable {ay : Int → Nat} {ar : Nat → Int} {sc : Nat} {cd : Nat → Int} {nx R : Nat → Nat} {n : Nat}
def ngr (l r : List Int) (vs : List (List Int)) : List Int := l ++ (r ++ vs.flatten)
def okN (sc : Nat) (ar : Nat → Int) (l r : List Int) (vs : List (List Int)) : Prop := (ctt (ayw ar) l = some 1 ∧ ctt (ayw ar) r = some 1) ∧ (l.length ≤ 100 ∧ r.length ≤ 100 ∧ vs.length ≤ 6) ∧ (∀ w, w ∈ vs → ctt (ayw ar) w = some 1 ∧ w.length ≤ 100 ∧ ∀ c, c ∈ w → gq sc c) ∧ ∀ c, c ∈ l ++ r → gd sc c ∧ -800 ≤ c
theorem flat_ct : ∀ {vs : List (List Int)}, (∀ w, w ∈ vs → ctt ay w = some 1) → ctt ay vs.flatten = some vs.length
  | [], _ => ct_nil.mpr rfl
  | w :: vs, h => by
    rw [List.flatten_cons, List.length_cons, Nat.add_comm]
    exact ct_app (flat_ct fun w' hw => h w' (List.mem_cons_of_mem _ hw)) (h w List.mem_cons_self)
theorem flat_len {B : Nat} : ∀ {vs : List (List Int)}, (∀ w, w ∈ vs → w.length ≤ B) → vs.flatten.length ≤ B * vs.length
  | [], _ => Nat.zero_le _
  | w :: vs, h => by
    rw [List.flatten_cons, List.length_append, List.length_cons, Nat.mul_succ]
    have := flat_len (vs := vs) fun w' hw => h w' (List.mem_cons_of_mem _ hw)
    have := h w List.mem_cons_self
    omega
theorem tln_flat : ∀ {vs : List (List Int)}, tln vs = vs.flatten.length
  | [] => rfl
  | w :: vs => by rw [tln, List.flatten_cons, List.length_append, tln_flat]
theorem ng_ct {l r : List Int} {vs : List (List Int)} (h : okN sc ar l r vs) : ctt (ayw ar) (ngr l r vs) = some (1 + (1 + vs.length)) := ct_app (ct_app (flat_ct fun w hw => (h.2.2.1 w hw).1) h.1.2) h.1.1
theorem ng_len {l r : List Int} {vs : List (List Int)} : (ngr l r vs).length = l.length + r.length + vs.flatten.length := by
  unfold ngr
  rw [List.length_append, List.length_append]
  omega
theorem ng_800 {l r : List Int} {vs : List (List Int)} (h : okN sc ar l r vs) : (ngr l r vs).length ≤ 800 ∧ vs.flatten.length ≤ 100 * vs.length := by
  have := flat_len (B := 100) fun w hw => (h.2.2.1 w hw).2.1
  have h2 := h.2.1
  rw [ng_len]
  omega
theorem ng_gd {l r : List Int} {vs : List (List Int)} (hs : sc ≤ 16) (h : okN sc ar l r vs) : ∀ c, c ∈ ngr l r vs → gd sc c ∧ -800 ≤ c := fun c hc => by
  unfold ngr at hc
  rw [← List.append_assoc] at hc
  rcases List.mem_append.mp hc with q | q
  · exact h.2.2.2 c q
  · obtain ⟨w, hw, hcw⟩ := List.mem_flatten.mp q
    have := (h.2.2.1 w hw).2.2 c hcw
    have g1 := this.1
    have g2 := this.2
    exact ⟨⟨by omega, by omega, fun _ => by omega⟩, g1⟩
theorem ng_G {l r : List Int} {vs : List (List Int)} (har : arK sc ar) (h : okN sc ar l r vs) : Gok (ayw ar) (cl (ngr l r vs)) (nl (ayw ar) (ngr l r vs)) (ngr l r vs).length ∧ Amt (ayw ar) (cl (ngr l r vs)) (ngr l r vs).length (fun z => z) ≤ 880 := by
  have h8 := (ng_800 h).1
  have hg := ng_gd har.1 h
  refine ⟨Gok_list (ng_ct h) (by omega) ayw_v fun c hc => ?_, ?_⟩
  · have := hg c hc
    exact ⟨ayw_le har this.1, by omega, this.1.2.1⟩
  · have := Amt_list (ng_ct h)
    omega
/-- where VALUES begin -/
theorem kid_flat {A E : List Int} {vs : List (List Int)} (h : ∀ w, w ∈ vs → ctt ay w = some 1) : ∀ {i : Nat}, i ≤ vs.length → kid (nl ay (A ++ (vs.flatten ++ E))) A.length i = A.length + (vs.take i).flatten.length
  | 0, _ => by rw [kid]; rfl
  | i + 1, hi => by
    rw [kid, kid_flat h (by omega)]
    have e1 : vs = vs.take i ++ (vs[i] :: vs.drop (i + 1)) := by
      rw [← List.drop_eq_getElem_cons (by omega), List.take_append_drop]
    have e2 : vs.take (i + 1) = vs.take i ++ [vs[i]] := by rw [List.take_succ_eq_append_getElem (by omega)]
    have e3 : A ++ (vs.flatten ++ E) = (A ++ (vs.take i).flatten) ++ (vs[i] ++ ((vs.drop (i + 1)).flatten ++ E)) := by
      conv => lhs; rw [e1]
      rw [List.flatten_append, List.flatten_cons]
      simp only [List.append_assoc]
    have := nl_of e3 (h _ (List.getElem_mem (by omega)))
    rw [List.length_append] at this
    rw [this, e2, List.flatten_append, List.flatten_cons, List.length_append, List.flatten_nil, List.append_nil]
    omega
/-- VALUES renumbered -/
def nbl : List Int → List (List Int) → List (List Int)
  | _, [] => []
  | seen, w :: ls => (nbr seen w).1 :: nbl (nbr seen w).2 ls
theorem nbl_flat : ∀ {ls : List (List Int)} {seen : List Int}, (nbl seen ls).flatten = (nbr seen ls.flatten).1
  | [], _ => rfl
  | w :: ls, seen => by rw [nbl, List.flatten_cons, List.flatten_cons, nbr_app, nbl_flat]
theorem nbl_len : ∀ {ls : List (List Int)} {seen : List Int}, (nbl seen ls).length = ls.length
  | [], _ => rfl
  | w :: ls, seen => by rw [nbl, List.length_cons, List.length_cons, nbl_len]
theorem nbl_get : ∀ {ls : List (List Int)} {seen : List Int} {i : Nat} (h : i < ls.length), ((nbl seen ls)[i]'(by rw [nbl_len]; exact h)).length = ls[i].length
  | w :: ls, seen, 0, _ => nbr_len
  | w :: ls, seen, i + 1, h => nbl_get (ls := ls) (seen := (nbr seen w).2) (by rw [List.length_cons] at h; omega)
/-- VALUES that were written -/
def okV (sc : Nat) (ar : Nat → Int) (B : Int) (ls : List (List Int)) : Prop := ∀ w, w ∈ ls → ctt (ayw ar) w = some 1 ∧ w.length ≤ 100 ∧ ∀ v, v ∈ w → (0 ≤ v → v < sc) ∧ (v < 0 → -1 - v < B)
theorem nbl_ok {B : Int} : ∀ {ls : List (List Int)} {seen : List Int}, okV sc ar B ls → seen.length + ls.flatten.length ≤ 800 → ∀ w, w ∈ nbl seen ls → ctt (ayw ar) w = some 1 ∧ w.length ≤ 100 ∧ ∀ c, c ∈ w → gq sc c
  | [], _, _, _, w, hw => absurd hw List.not_mem_nil
  | u :: ls, seen, h, hl, w, hw => by
    rw [List.flatten_cons, List.length_append] at hl
    rw [nbl] at hw
    have hu := h u List.mem_cons_self
    rcases List.mem_cons.mp hw with e | e
    · rw [e]
      refine ⟨by rw [ct_cong (nbr_ay ayw_v)]; exact hu.1, by rw [nbr_len]; exact hu.2.1, fun c hc => ?_⟩
      rcases nbr_mem hc with ⟨q1, q2⟩ | ⟨q1, q2⟩
      · exact ⟨by omega, (hu.2.2 c q2).1 q1⟩
      · exact ⟨by omega, by omega⟩
    · refine nbl_ok (seen := (nbr seen u).2) (fun w' hw' => h w' (List.mem_cons_of_mem _ hw')) ?_ w e
      have := nbr_seen (l := u) (seen := seen)
      omega
theorem pvs_ok {B : Int} (har : arK sc ar) (hG : Gok (ayw ar) cd nx n) (hO : ∀ c, c < n → Ocr cd n (R (ptc cd c))) (hgd : ∀ c, c < n → 0 ≤ cd c → cd c % 32 < sc) (hB : ∀ z, Ocr cd n z → 880 ≤ z → (z : Int) - 880 < B) {hole patch : Nat} (hpn : patch < n ∨ n ≤ hole) : ∀ {count a : Nat} {ls : List (List Int)}, pvs (ayw ar) cd nx R (emc cd 0) hole patch count a = some ls → (∀ i, i < count → kid nx a i < n) → ls.length = count ∧ okV sc ar B ls
  | 0, a, ls, h, _ => by
    rw [pvs] at h
    cases h
    exact ⟨rfl, fun w hw => absurd hw List.not_mem_nil⟩
  | c + 1, a, ls, h, hk => by
    rw [pvs] at h
    cases hp : pt (ayw ar) cd nx R (emc cd 0) hole patch 100 [(a, false)] with
    | none => rw [hp] at h; cases h
    | some l =>
      rw [hp] at h
      obtain ⟨r, h1, h2⟩ := Option.map_eq_some_iff.mp h
      subst h2
      obtain ⟨q1, q2⟩ := pvs_ok har hG hO hgd hB hpn h1 fun i hi => by rw [kid_nx]; exact hk (i + 1) (by omega)
      have hn0 : a < n := hk 0 (by omega)
      -- a patch that is never taken may be any cell
      have hp2 : pt (ayw ar) cd nx R (emc cd 0) hole (if n ≤ hole then 0 else patch) 100 [(a, false)] = some l := by
        by_cases g : n ≤ hole
        · rw [if_pos g, ← hp]
          refine (pt_hole (S := fun c => c < n) hG (fun c hc => ⟨hc, by omega, by omega, fun i hi => (G_kid hG hc hi).2.1⟩) 100 _ fun e he _ => ?_).symm
          rw [List.mem_singleton.mp he]
          exact hn0
        · rw [if_neg g]; exact hp
      obtain ⟨i1, i2⟩ := pt_ok hG hO (em := emc cd 0) (fun c w hc h0 => by
        rw [emc_0]
        exact ayw_32 _ _ (by omega) h0 (by omega)) (by split <;> omega) 100 [(a, false)] l hp2 (fun e he => by rw [List.mem_singleton.mp he]; exact hn0)
      refine ⟨by rw [List.length_cons, q1], fun w hw => ?_⟩
      rcases List.mem_cons.mp hw with e | e
      · rw [e]
        refine ⟨i1, pt_len hp, fun v hv => ?_⟩
        rcases i2 v hv with ⟨c, w, hc, hc0, e⟩ | ⟨z, hz, hz8, e⟩
        · rw [emc_0] at e
          have := hgd c hc hc0
          exact ⟨fun _ => by omega, fun _ => by omega⟩
        · have := hB z hz hz8
          exact ⟨fun _ => by omega, fun _ => by omega⟩
      · exact q2 w e
end NGR
