/-! the TREE, pure, and as class and reference hold it -/
section TRE
variable {m m' : Mi} {ar : Nat → Int} {sc G mg : Nat}
/-- a NODE: parent, place, RULE, depth; where it begins; sides and VALUES; its ANSWER -/
abbrev Nd : Type := (Int × Int × Int × Int) × Nat × (List Int × List Int × List (List Int)) × Int
/-- an ANSWER: its NODE, where it begins, its VALUES -/
abbrev An : Type := Nat × Nat × List (List Int)
/-- NODES, ANSWERS, how much is filled, how many are EXPANDED, how many LOST, whether FULL -/
abbrev Ts : Type := List Nd × List An × Nat × Nat × Int × Bool
abbrev ndl (e : Nd) : List Int := e.2.2.1.1
abbrev ndr (e : Nd) : List Int := e.2.2.1.2.1
abbrev ndv (e : Nd) : List (List Int) := e.2.2.1.2.2
abbrev ndg (e : Nd) : List Int := ngr (ndl e) (ndr e) (ndv e)
def i2b (w : Bool) : Int := if w = true then 1 else 0
/-- a NODE as the class holds it -/
def NC (i : Nat) (e : Nd) (m : Mi) : Prop := (m 46 (9 * i) = e.1.1 ∧ m 46 (9 * i + 1) = e.1.2.1 ∧ m 46 (9 * i + 2) = e.1.2.2.1 ∧ m 46 (9 * i + 3) = e.1.2.2.2 ∧ m 46 (9 * i + 4) = ((ndl e).length : Int) ∧ m 46 (9 * i + 5) = ((ndr e).length : Int) ∧ m 46 (9 * i + 6) = e.2.2.2 ∧ m 46 (9 * i + 7) = (e.2.1 : Int) ∧ m 46 (9 * i + 8) = ((ndg e).length : Int)) ∧ Ro m 45 e.2.1 (ndg e)
def ACm (k : Nat) (a : An) (m : Mi) : Prop := m 47 k = (a.1 : Int) ∧ m 48 k = (a.2.1 : Int) ∧ Ro m 45 a.2.1 a.2.2.flatten
def TCm (S : Ts) (m : Mi) : Prop := (m 38 11 = (S.1.length : Int) ∧ m 38 12 = (S.2.1.length : Int) ∧ m 38 15 = (S.2.2.1 : Int) ∧ m 38 13 = (S.2.2.2.1 : Int) ∧ m 38 14 = S.2.2.2.2.1 ∧ m 38 9 = i2b S.2.2.2.2.2) ∧ (∀ i e, S.1[i]? = some e → NC i e m) ∧ ∀ k a, S.2.1[k]? = some a → ACm k a m
/-- marked, as the reference marks -/
def c64 (c : Int) : Int := if c < 0 then c else c % 32 + 64 * (c / 32)
/-- how many are MARKED -/
def cmk : List Int → Nat
  | [] => 0
  | c :: l => (if 32 ≤ c then 1 else 0) + cmk l
/-- a NODE as the reference holds it -/
def NR (i : Nat) (e : Nd) (m : Mi) : Prop := (m 327 i = e.1.1 ∧ m 328 i = e.1.2.1 ∧ m 329 i = e.1.2.2.1 ∧ m 330 i = e.1.2.2.2 ∧ m 325 i = ((ndl e).length : Int) ∧ m 326 i = ((ndr e).length : Int) ∧ m 332 i = e.2.2.2 ∧ m 324 i = (e.2.1 : Int) ∧ m 331 i = (cmk (ndl e ++ ndr e) : Int)) ∧ (∀ v, (h : v < (ndv e).length) → m 333 (6 * i + v) = ((ndv e)[v].length : Int)) ∧ Ro m 323 e.2.1 ((ndl e).map c64 ++ ((ndr e).map c64 ++ (ndv e).flatten))
def AR (k : Nat) (a : An) (m : Mi) : Prop := m 334 k = (a.1 : Int) ∧ m 335 k = (a.2.1 : Int) ∧ (∀ v, (h : v < a.2.2.length) → m 336 (6 * k + v) = (a.2.2[v].length : Int)) ∧ Ro m 323 a.2.1 a.2.2.flatten
def tcl (S : Ts) : Nat := 4 * S.1.length + 2 * S.2.1.length + S.2.2.1
def TR (S : Ts) (m : Mi) : Prop := (m 262 96 = (S.1.length : Int) ∧ m 262 98 = (S.2.1.length : Int) ∧ m 262 102 = (S.2.2.1 : Int) ∧ m 262 97 = (S.2.2.2.1 : Int) ∧ m 262 99 = S.2.2.2.2.1 ∧ m 262 95 = i2b S.2.2.2.2.2 ∧ m 262 100 = (tcl S : Int)) ∧ (∀ i e, S.1[i]? = some e → NR i e m) ∧ ∀ k a, S.2.1[k]? = some a → AR k a m
/-- what is good about NODES and ANSWERS; mg = 2: FULL marks -/
def NV (sc : Nat) (ar : Nat → Int) (G mg fil : Nat) (e : Nd) : Prop := okN sc ar (ndl e) (ndr e) (ndv e) ∧ (ndv e).length = G ∧ e.2.1 + (ndg e).length ≤ fil ∧ (mg = 2 → ∀ c, c ∈ ndl e ++ ndr e → 0 ≤ c → 32 ≤ c)
def AV (sc : Nat) (ar : Nat → Int) (G fil : Nat) (a : An) : Prop := a.2.2.length = G ∧ (∀ w, w ∈ a.2.2 → ctt (ayw ar) w = some 1 ∧ w.length ≤ 100 ∧ ∀ c, c ∈ w → gq sc c) ∧ a.2.1 + a.2.2.flatten.length ≤ fil ∧ a.1 < 1000
def TV (sc : Nat) (ar : Nat → Int) (G mg : Nat) (S : Ts) : Prop := (S.1.length ≤ 1000 ∧ S.2.1.length ≤ 300 ∧ tcl S ≤ 30000) ∧ (G ≤ 6 ∧ (mg = 1 ∨ mg = 2)) ∧ (∀ e, e ∈ S.1 → NV sc ar G mg S.2.2.1 e) ∧ ∀ a, a ∈ S.2.1 → AV sc ar G S.2.2.1 a
theorem NV_up {f f' : Nat} {e : Nd} (h : NV sc ar G mg f e) (g : f ≤ f') : NV sc ar G mg f' e := ⟨h.1, h.2.1, Nat.le_trans h.2.2.1 g, h.2.2.2⟩
theorem AV_up {f f' : Nat} {a : An} (h : AV sc ar G f a) (g : f ≤ f') : AV sc ar G f' a := ⟨h.1, h.2.1, Nat.le_trans h.2.2.1 g, h.2.2.2⟩
theorem gl_snoc {α : Type} {l : List α} {x y : α} {i : Nat} (h : (l ++ [x])[i]? = some y) : (i < l.length ∧ l[i]? = some y) ∨ (i = l.length ∧ y = x) := by
  rcases Nat.lt_trichotomy i l.length with g | g | g
  · rw [List.getElem?_append_left g] at h
    exact Or.inl ⟨g, h⟩
  · subst g
    rw [List.getElem?_append_right (Nat.le_refl _), Nat.sub_self] at h
    exact Or.inr ⟨rfl, (Option.some.inj h).symm⟩
  · rw [List.getElem?_eq_none (by rw [List.length_append]; simp; omega)] at h
    cases h
theorem gl_lt {α : Type} {l : List α} {x : α} {i : Nat} (h : l[i]? = some x) : i < l.length ∧ x ∈ l := by
  obtain ⟨g, e⟩ := List.getElem?_eq_some_iff.mp h
  exact ⟨g, e ▸ List.getElem_mem g⟩
theorem gl_last {α : Type} {l : List α} {x : α} : (l ++ [x])[l.length]? = some x := by
  rw [List.getElem?_append_right (Nat.le_refl _), Nat.sub_self]
  rfl
theorem gl_old {α : Type} {l : List α} {x y : α} {i : Nat} (h : l[i]? = some y) : (l ++ [x])[i]? = some y := by
  rw [List.getElem?_append_left (gl_lt h).1]
  exact h
theorem NC_fr {i : Nat} {e : Nd} (h : NC i e m) (f1 : ∀ k, 9 * i ≤ k → k < 9 * i + 9 → m' 46 k = m 46 k) (f2 : ∀ k, e.2.1 ≤ k → k < e.2.1 + (ndg e).length → m' 45 k = m 45 k) : NC i e m' := by
  obtain ⟨⟨h1, h2, h3, h4, h5, h6, h7, h8, h9⟩, h10⟩ := h
  refine ⟨⟨?_, ?_, ?_, ?_, ?_, ?_, ?_, ?_, ?_⟩, Ro_fr h10 f2⟩ <;> (rw [f1 _ (by omega) (by omega)]; assumption)
theorem ACm_fr {k : Nat} {a : An} (h : ACm k a m) (f1 : m' 47 k = m 47 k) (f2 : m' 48 k = m 48 k) (f3 : ∀ k, a.2.1 ≤ k → k < a.2.1 + a.2.2.flatten.length → m' 45 k = m 45 k) : ACm k a m' := ⟨f1.trans h.1, f2.trans h.2.1, Ro_fr h.2.2 f3⟩
theorem TCm_fr {S : Ts} (h : TCm S m) (f0 : ∀ k, 9 ≤ k → m' 38 k = m 38 k) (f : ∀ a k, 45 ≤ a → a ≤ 48 → m' a k = m a k) : TCm S m' := by
  obtain ⟨⟨h1, h2, h3, h4, h5, h6⟩, h7, h8⟩ := h
  exact ⟨⟨(f0 _ (by decide)).trans h1, (f0 _ (by decide)).trans h2, (f0 _ (by decide)).trans h3, (f0 _ (by decide)).trans h4, (f0 _ (by decide)).trans h5, (f0 _ (by decide)).trans h6⟩, fun i e g => NC_fr (h7 i e g) (fun k _ _ => f _ _ (by decide) (by decide)) fun k _ _ => f _ _ (by decide) (by decide), fun k a g => ACm_fr (h8 k a g) (f _ _ (by decide) (by decide)) (f _ _ (by decide) (by decide)) fun k _ _ => f _ _ (by decide) (by decide)⟩
/-- looked at: the last NODE -/
noncomputable def tLook (ay : Int → Nat) (nds : List Nd) (e : Nd) (ans : List An) (fil ex : Nat) (lo : Int) (fu : Bool) : Ts × Bool :=
  match nuni ay (ndl e) (ndr e) (ndv e) with
  | none => ((nds ++ [e], ans, fil, ex, lo, fu), true)
  | some Q => match nval ay (ndl e) (ndr e) (ndv e) Q with
    | none => ((nds ++ [e], ans, fil, ex, lo + 1, fu), true)
    | some ls => if 300 ≤ ans.length ∨ 30000 < 4 * (nds.length + 1) + 2 * ans.length + fil + 2 + ls.flatten.length then ((nds ++ [e], ans, fil, ex, lo, true), false)
      else ((nds ++ [(e.1, e.2.1, e.2.2.1, (ans.length : Int))], ans ++ [(nds.length, fil, nbl [] ls)], fil + ls.flatten.length, ex, lo, fu), true)
theorem tLook_none {ay : Int → Nat} {nds : List Nd} {e : Nd} {ans : List An} {fil ex : Nat} {lo : Int} {fu : Bool} (h : nuni ay (ndl e) (ndr e) (ndv e) = none) : tLook ay nds e ans fil ex lo fu = ((nds ++ [e], ans, fil, ex, lo, fu), true) := by
  unfold tLook
  rw [h]
theorem tLook_lost {ay : Int → Nat} {nds : List Nd} {e : Nd} {ans : List An} {fil ex : Nat} {lo : Int} {fu : Bool} {Q : Nat → Nat} (h : nuni ay (ndl e) (ndr e) (ndv e) = some Q) (h2 : nval ay (ndl e) (ndr e) (ndv e) Q = none) : tLook ay nds e ans fil ex lo fu = ((nds ++ [e], ans, fil, ex, lo + 1, fu), true) := by
  unfold tLook
  simp only [h, h2]
theorem tLook_some {ay : Int → Nat} {nds : List Nd} {e : Nd} {ans : List An} {fil ex : Nat} {lo : Int} {fu : Bool} {Q : Nat → Nat} {ls : List (List Int)} (h : nuni ay (ndl e) (ndr e) (ndv e) = some Q) (h2 : nval ay (ndl e) (ndr e) (ndv e) Q = some ls) : tLook ay nds e ans fil ex lo fu = if 300 ≤ ans.length ∨ 30000 < 4 * (nds.length + 1) + 2 * ans.length + fil + 2 + ls.flatten.length then ((nds ++ [e], ans, fil, ex, lo, true), false) else ((nds ++ [(e.1, e.2.1, e.2.2.1, (ans.length : Int))], ans ++ [(nds.length, fil, nbl [] ls)], fil + ls.flatten.length, ex, lo, fu), true) := by
  unfold tLook
  simp only [h, h2]
/-- ANSWERS' VALUES are good -/
theorem nbl_AV {B : Int} {ls : List (List Int)} (h : okV sc ar B ls) (hl : ls.flatten.length ≤ 800) : ∀ w, w ∈ nbl [] ls → ctt (ayw ar) w = some 1 ∧ w.length ≤ 100 ∧ ∀ c, c ∈ w → gq sc c := nbl_ok (seen := []) h (by rw [List.length_nil]; omega)
/-- what is looked at stays good -/
theorem tLook_TV {nds : List Nd} {e : Nd} {ans : List An} {fil ex : Nat} {lo : Int} {fu : Bool} (har : arK sc ar) (h : TV sc ar G mg (nds ++ [e], ans, fil, ex, lo, fu)) : TV sc ar G mg (tLook (ayw ar) nds e ans fil ex lo fu).1 ∧ fil ≤ (tLook (ayw ar) nds e ans fil ex lo fu).1.2.2.1 ∧ (tLook (ayw ar) nds e ans fil ex lo fu).1.1.length = nds.length + 1 ∧ (tLook (ayw ar) nds e ans fil ex lo fu).1.2.2.2.1 = ex ∧ ∀ (i : Nat) (x : Nd), nds[i]? = some x → (tLook (ayw ar) nds e ans fil ex lo fu).1.1[i]? = some x := by
  obtain ⟨⟨a1, a2, a3⟩, a4, a5, a6⟩ := h
  have hN : NV sc ar G mg fil e := a5 e (List.mem_append_right _ (List.mem_singleton.mpr rfl))
  have ll : (nds ++ [e]).length = nds.length + 1 := by rw [List.length_append]; rfl
  rcases hq : nuni (ayw ar) (ndl e) (ndr e) (ndv e) with _ | Q
  · rw [tLook_none hq]
    exact ⟨⟨⟨a1, a2, a3⟩, a4, a5, a6⟩, Nat.le_refl _, ll, rfl, fun i x hx => gl_old hx⟩
  · rcases hv : nval (ayw ar) (ndl e) (ndr e) (ndv e) Q with _ | ls
    · rw [tLook_lost hq hv]
      exact ⟨⟨⟨a1, a2, a3⟩, a4, a5, a6⟩, Nat.le_refl _, ll, rfl, fun i x hx => gl_old hx⟩
    · rw [tLook_some hq hv]
      split
      · exact ⟨⟨⟨a1, a2, a3⟩, a4, a5, a6⟩, Nat.le_refl _, ll, rfl, fun i x hx => gl_old hx⟩
      · rename_i g
        obtain ⟨o1, o2⟩ := nval_ok har hN.1 hq hv
        have fl := flat_len (B := 100) (vs := ls) fun w hw => (o2 w hw).2.1
        have hv6 := hN.1.2.1.2.2
        have la : (ans ++ [(nds.length, fil, nbl [] ls)]).length = ans.length + 1 := by rw [List.length_append]; rfl
        have l2 : (nds ++ [(e.1, e.2.1, e.2.2.1, (ans.length : Int))]).length = nds.length + 1 := by rw [List.length_append]; rfl
        have lf : (nbl [] ls).flatten.length = ls.flatten.length := by rw [nbl_flat, nbr_len]
        simp only [tcl, ll] at a1 a3
        refine ⟨⟨⟨?_, ?_, ?_⟩, a4, fun x hx => ?_, fun x hx => ?_⟩, ?_, l2, rfl, fun i x hx => gl_old hx⟩
        · dsimp only; rw [l2]; exact a1
        · dsimp only; rw [la]; omega
        · simp only [tcl, l2, la]; omega
        · rcases List.mem_append.mp hx with q | q
          · exact NV_up (a5 x (List.mem_append_left _ q)) (Nat.le_add_right _ _)
          · rw [List.mem_singleton.mp q]
            exact NV_up hN (Nat.le_add_right _ _)
        · rcases List.mem_append.mp hx with q | q
          · exact AV_up (a6 x q) (Nat.le_add_right _ _)
          · rw [List.mem_singleton.mp q]
            exact ⟨by show (nbl [] ls).length = G; rw [nbl_len, o1]; exact hN.2.1, nbl_AV o2 (by omega), by show fil + (nbl [] ls).flatten.length ≤ fil + ls.flatten.length; omega, by show nds.length < 1000; omega⟩
        · exact Nat.le_add_right _ _
end TRE
