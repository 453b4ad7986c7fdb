/-! rows as lists: TERMS, turned round, put into -/
section LST
variable {ay : Int → Nat}
/-- how many TERMS stand one behind the other -/
def ctt (ay : Int → Nat) : List Int → Option Nat
  | [] => some 0
  | c :: r => match ctt ay r with
    | some k => if ay c ≤ k then some (k - ay c + 1) else none
    | none => none
theorem ct_nil {k : Nat} : ctt ay [] = some k ↔ k = 0 := by
  unfold ctt
  constructor
  · intro h; cases h; rfl
  · intro h; rw [h]
theorem ct_cons {c : Int} {r : List Int} {k : Nat} : ctt ay (c :: r) = some k ↔ ∃ j, ctt ay r = some j ∧ ay c ≤ j ∧ k = j - ay c + 1 := by
  rw [ctt]
  cases h : ctt ay r with
  | none => simp
  | some j =>
    by_cases g : ay c ≤ j
    · simp only [g, if_true, Option.some.injEq]
      constructor
      · intro e; exact ⟨j, rfl, g, e.symm⟩
      · rintro ⟨j', rfl, _, e⟩; exact e.symm
    · simp only [g, if_false, Option.some.injEq]
      constructor
      · intro e; cases e
      · rintro ⟨j', rfl, e, _⟩; exact absurd e g
theorem ct_app {r : List Int} {k : Nat} (hr : ctt ay r = some k) : ∀ {t : List Int} {j : Nat}, ctt ay t = some j → ctt ay (t ++ r) = some (j + k)
  | [], j, h => by
    rw [ct_nil.mp h, List.nil_append, Nat.zero_add]; exact hr
  | c :: t, j, h => by
    obtain ⟨j', h1, h2, h3⟩ := ct_cons.mp h
    exact ct_cons.mpr ⟨j' + k, ct_app hr h1, by omega, by omega⟩
theorem ct_suf {r : List Int} : ∀ {t : List Int} {k : Nat}, ctt ay (t ++ r) = some k → ∃ j, ctt ay r = some j
  | [], k, h => ⟨k, h⟩
  | c :: t, k, h => by
    obtain ⟨j', h1, _, _⟩ := ct_cons.mp h
    exact ct_suf h1
theorem ct_zero {l : List Int} (h : ctt ay l = some 0) : l = [] := by
  cases l with
  | nil => rfl
  | cons c r =>
    obtain ⟨j, _, _, e⟩ := ct_cons.mp h
    omega
theorem ct_le : ∀ {l : List Int} {k : Nat}, ctt ay l = some k → k ≤ l.length
  | [], k, h => by rw [ct_nil.mp h]; exact Nat.zero_le _
  | c :: r, k, h => by
    obtain ⟨j, h1, h2, h3⟩ := ct_cons.mp h
    have := ct_le h1
    rw [List.length_cons]; omega
theorem ct_split : ∀ {x : List Int} {a b : Nat}, ctt ay x = some (a + b) → ∃ l r, x = l ++ r ∧ ctt ay l = some a ∧ ctt ay r = some b
  | [], a, b, h => by
    have e := ct_nil.mp h
    refine ⟨[], [], rfl, ct_nil.mpr (by omega), ct_nil.mpr (by omega)⟩
  | c :: y, 0, b, h => ⟨[], c :: y, rfl, ct_nil.mpr rfl, by rw [Nat.zero_add] at h; exact h⟩
  | c :: y, a + 1, b, h => by
    obtain ⟨m, h1, h2, h3⟩ := ct_cons.mp h
    obtain ⟨l, r, e, g1, g2⟩ := ct_split (x := y) (a := ay c + a) (b := b) (by rw [h1]; congr 1; omega)
    exact ⟨c :: l, r, by rw [e]; rfl, ct_cons.mpr ⟨_, g1, by omega, by omega⟩, g2⟩
theorem ct_pf {t u r s : List Int} {k : Nat} (ht : ctt ay t = some k) (hu : ctt ay u = some k) (e : t ++ r = u ++ s) : t = u ∧ r = s := by
  rcases List.append_eq_append_iff.mp e with ⟨a, e1, e2⟩ | ⟨a, e1, e2⟩
  · subst e1
    obtain ⟨j, hj⟩ := ct_suf hu
    have := ct_app hj ht
    rw [hu] at this
    have e3 : j = 0 := by injection this; omega
    rw [e3] at hj
    have := ct_zero hj
    subst this
    exact ⟨(List.append_nil _).symm, by rw [e2]; rfl⟩
  · subst e1
    obtain ⟨j, hj⟩ := ct_suf ht
    have := ct_app hj hu
    rw [ht] at this
    have e3 : j = 0 := by injection this; omega
    rw [e3] at hj
    have := ct_zero hj
    subst this
    exact ⟨List.append_nil _, by rw [e2]; rfl⟩
/-- turned round: the parts, the first one first -/
def mrs (ay : Int → Nat) : List Int → List (List Int)
  | [] => []
  | c :: r => (c :: ((mrs ay r).take (ay c)).reverse.flatten) :: (mrs ay r).drop (ay c)
def mi (ay : Int → Nat) (l : List Int) : List Int := (mrs ay l).reverse.flatten
theorem mrs_len : ∀ {l : List Int} {k : Nat}, ctt ay l = some k → (mrs ay l).length = k
  | [], k, h => by rw [ct_nil.mp h]; rfl
  | c :: r, k, h => by
    obtain ⟨j, h1, h2, h3⟩ := ct_cons.mp h
    rw [mrs, List.length_cons, List.length_drop, mrs_len h1, h3]
theorem mrs_app {r : List Int} : ∀ {t : List Int} {j : Nat}, ctt ay t = some j → mrs ay (t ++ r) = mrs ay t ++ mrs ay r
  | [], j, _ => rfl
  | c :: t, j, h => by
    obtain ⟨j', h1, h2, h3⟩ := ct_cons.mp h
    have hl := mrs_len h1
    rw [List.cons_append, mrs, mrs, mrs_app h1, List.take_append_of_le_length (by omega), List.drop_append_of_le_length (by omega)]
    rfl
theorem mi_nil : mi ay [] = [] := rfl
theorem mi_app {t r : List Int} {j : Nat} (h : ctt ay t = some j) : mi ay (t ++ r) = mi ay r ++ mi ay t := by
  unfold mi
  rw [mrs_app h, List.reverse_append, List.flatten_append]
theorem mi_one {c : Int} {l : List Int} (h : ctt ay l = some (ay c)) : mi ay (c :: l) = c :: mi ay l := by
  have hl := mrs_len h
  unfold mi
  rw [mrs, List.take_of_length_le (by omega), List.drop_of_length_le (by omega)]
  simp
theorem ct_one {c : Int} {l : List Int} (h : ctt ay l = some (ay c)) : ctt ay (c :: l) = some 1 := ct_cons.mpr ⟨_, h, Nat.le_refl _, by omega⟩
/-- TERM by TERM -/
theorem ct_ind {Q : List Int → Prop} (h0 : Q []) (h1 : ∀ (c : Int) (l r : List Int) (k : Nat), ctt ay l = some (ay c) → ctt ay r = some k → Q l → Q r → Q ((c :: l) ++ r)) : ∀ (n : Nat) (x : List Int) (k : Nat), x.length ≤ n → ctt ay x = some k → Q x := by
  intro n
  induction n with
  | zero =>
    intro x k hl _
    have : x = [] := List.length_eq_zero_iff.mp (by omega)
    rw [this]; exact h0
  | succ n ih =>
    intro x k hl h
    cases x with
    | nil => exact h0
    | cons c y =>
      obtain ⟨m, g1, g2, g3⟩ := ct_cons.mp h
      obtain ⟨l, r, e, e1, e2⟩ := ct_split (x := y) (a := ay c) (b := m - ay c) (by rw [g1]; congr 1; omega)
      subst e
      rw [List.length_cons, List.length_append] at hl
      exact h1 c l r _ e1 e2 (ih l _ (by omega) e1) (ih r _ (by omega) e2)
theorem ct_in {Q : List Int → Prop} {x : List Int} {k : Nat} (h : ctt ay x = some k) (h0 : Q []) (h1 : ∀ (c : Int) (l r : List Int) (k : Nat), ctt ay l = some (ay c) → ctt ay r = some k → Q l → Q r → Q ((c :: l) ++ r)) : Q x := ct_ind h0 h1 x.length x k (Nat.le_refl _) h
theorem ct_mi {x : List Int} {k : Nat} (h : ctt ay x = some k) : ctt ay (mi ay x) = some k := by
  have g : ctt ay (mi ay x) = ctt ay x := by
    refine ct_in (Q := fun x => ctt ay (mi ay x) = ctt ay x) h rfl (fun c l r k hl hr h1 h2 => ?_)
    rw [mi_app (ct_one hl), mi_one hl, ct_app (ct_one (h1.trans hl)) (h2.trans hr), ct_app hr (ct_one hl), Nat.add_comm]
  rw [g]; exact h
theorem mi_mi {x : List Int} {k : Nat} (h : ctt ay x = some k) : mi ay (mi ay x) = x := by
  refine ct_in (Q := fun x => mi ay (mi ay x) = x) h rfl (fun c l r k hl hr h1 h2 => ?_)
  rw [mi_app (ct_one hl), mi_app (ct_mi hr), h2, mi_one hl, mi_one (ct_mi hl), h1]
theorem mi_len {x : List Int} {k : Nat} (h : ctt ay x = some k) : (mi ay x).length = x.length := by
  refine ct_in (Q := fun x => (mi ay x).length = x.length) h rfl (fun c l r k hl hr h1 h2 => ?_)
  rw [mi_app (ct_one hl), mi_one hl, List.length_append, List.length_append, List.length_cons, List.length_cons, h1, h2, Nat.add_comm]
theorem mi_inj {x y : List Int} {j k : Nat} (hx : ctt ay x = some j) (hy : ctt ay y = some k) (e : mi ay x = mi ay y) : x = y := by
  rw [← mi_mi hx, ← mi_mi hy, e]
/-- what VARIABLES become, put in -/
def sb (σ : Int → List Int) (l : List Int) : List Int := l.flatMap fun c => if c < 0 then σ c else [c]
variable {σ τ : Int → List Int}
theorem sb_nil : sb σ [] = [] := rfl
theorem sb_cons (c : Int) (l : List Int) : sb σ (c :: l) = (if c < 0 then σ c else [c]) ++ sb σ l := rfl
theorem sb_app (l r : List Int) : sb σ (l ++ r) = sb σ l ++ sb σ r := List.flatMap_append
theorem sb_congr : ∀ {l : List Int}, (∀ c, c ∈ l → c < 0 → σ c = τ c) → sb σ l = sb τ l
  | [], _ => rfl
  | c :: l, h => by
    rw [sb_cons, sb_cons, sb_congr (fun c' hc => h c' (List.mem_cons_of_mem _ hc))]
    congr 1
    by_cases g : c < 0
    · rw [if_pos g, if_pos g, h c List.mem_cons_self g]
    · rw [if_neg g, if_neg g]
/-- each VARIABLE becomes a TERM -/
def tv (ay : Int → Nat) (σ : Int → List Int) : Prop := ∀ c, c < 0 → ctt ay (σ c) = some 1
theorem ct_sb (hv : ∀ c, c < 0 → ay c = 0) (hs : tv ay σ) : ∀ {l : List Int} {k : Nat}, ctt ay l = some k → ctt ay (sb σ l) = some k
  | [], k, h => h
  | c :: l, k, h => by
    obtain ⟨j, h1, h2, h3⟩ := ct_cons.mp h
    have ih := ct_sb hv hs h1
    rw [sb_cons]
    by_cases g : c < 0
    · rw [if_pos g, ct_app ih (hs c g), h3, hv c g]
      congr 1; omega
    · rw [if_neg g]
      exact ct_cons.mpr ⟨j, ih, h2, h3⟩
theorem tv_mi (hs : tv ay σ) : tv ay (fun c => mi ay (σ c)) := fun c hc => ct_mi (hs c hc)
theorem mi_sb (hv : ∀ c, c < 0 → ay c = 0) (hs : tv ay σ) {x : List Int} {k : Nat} (h : ctt ay x = some k) : mi ay (sb σ x) = sb (fun c => mi ay (σ c)) (mi ay x) := by
  refine ct_in (Q := fun x => mi ay (sb σ x) = sb (fun c => mi ay (σ c)) (mi ay x)) h rfl (fun c l r k hl hr h1 h2 => ?_)
  have e1 : ctt ay (sb σ (c :: l)) = some 1 := ct_sb hv hs (ct_one hl)
  rw [sb_app, mi_app e1, mi_app (ct_one hl), sb_app, h2]
  congr 1
  rw [mi_one hl, sb_cons, sb_cons]
  by_cases g : c < 0
  · have : l = [] := ct_zero (by rw [hl, hv c g])
    subst this
    rw [if_pos g, if_pos g, sb_nil, mi_nil, sb_nil, List.append_nil, List.append_nil]
  · rw [if_neg g, if_neg g, List.singleton_append, List.singleton_append, mi_one (by rw [ct_sb hv hs hl]), h1]
theorem sb_uniq (hs : tv ay σ) (ht : tv ay τ) : ∀ {l y z : List Int}, sb σ l ++ y = sb τ l ++ z → (∀ c, c ∈ l → c < 0 → σ c = τ c) ∧ y = z
  | [], y, z, e => ⟨fun c h => absurd h List.not_mem_nil, e⟩
  | c :: l, y, z, e => by
    rw [sb_cons, sb_cons, List.append_assoc, List.append_assoc] at e
    by_cases g : c < 0
    · rw [if_pos g, if_pos g] at e
      obtain ⟨e1, e2⟩ := ct_pf (hs c g) (ht c g) e
      obtain ⟨h1, h2⟩ := sb_uniq hs ht e2
      refine ⟨fun c' hc hn => ?_, h2⟩
      rcases List.mem_cons.mp hc with rfl | hc
      · exact e1
      · exact h1 c' hc hn
    · rw [if_neg g, if_neg g] at e
      obtain ⟨h1, h2⟩ := sb_uniq hs ht (List.append_cancel_left e)
      refine ⟨fun c' hc hn => ?_, h2⟩
      rcases List.mem_cons.mp hc with rfl | hc
      · exact absurd hn g
      · exact h1 c' hc hn
theorem mi_mem {x : List Int} {k : Nat} (h : ctt ay x = some k) (c : Int) : c ∈ mi ay x ↔ c ∈ x := by
  refine ct_in (Q := fun x => c ∈ mi ay x ↔ c ∈ x) h Iff.rfl (fun c' l r k hl hr h1 h2 => ?_)
  rw [mi_app (ct_one hl), mi_one hl, List.mem_append, List.mem_append, List.mem_cons, List.mem_cons, h1, h2, Or.comm]
/-- a left TERM fits at a row's beginning -/
def Mtc (ay : Int → Nat) (L x : List Int) : Prop := ∃ σ y, tv ay σ ∧ x = sb σ L ++ y
/-- what comes of it, and the rest -/
noncomputable def Mr (ay : Int → Nat) (L R x : List Int) : Option (List Int × List Int) := @dite _ (Mtc ay L x) (Classical.propDecidable _) (fun h => some (sb (Classical.choose h) R, Classical.choose (Classical.choose_spec h))) (fun _ => none)
theorem Mr_some {L R x y : List Int} (hs : tv ay σ) (e : x = sb σ L ++ y) (hR : ∀ c, c ∈ R → c < 0 → c ∈ L) : Mr ay L R x = some (sb σ R, y) := by
  have h : Mtc ay L x := ⟨σ, y, hs, e⟩
  unfold Mr
  rw [dif_pos h]
  obtain ⟨g1, g2⟩ := Classical.choose_spec (Classical.choose_spec h)
  obtain ⟨u1, u2⟩ := sb_uniq g1 hs (g2.symm.trans e)
  rw [u2, sb_congr (fun c hc hn => u1 c (hR c hc hn) hn)]
theorem Mr_none {L R x : List Int} (h : ¬ Mtc ay L x) : Mr ay L R x = none := by
  unfold Mr
  rw [dif_neg h]
theorem Mr_of {L R x : List Int} {q : List Int × List Int} (h : Mr ay L R x = some q) : ∃ σ, tv ay σ ∧ x = sb σ L ++ q.2 ∧ q.1 = sb σ R := by
  unfold Mr at h
  by_cases g : Mtc ay L x
  · rw [dif_pos g] at h
    obtain ⟨g1, g2⟩ := Classical.choose_spec (Classical.choose_spec g)
    cases h
    exact ⟨_, g1, g2, rfl⟩
  · rw [dif_neg g] at h
    cases h
theorem Mtc_ext {L t z : List Int} (h : Mtc ay L t) : Mtc ay L (t ++ z) := by
  obtain ⟨σ, y, h1, h2⟩ := h
  exact ⟨σ, y ++ z, h1, by rw [h2, List.append_assoc]⟩
theorem Mtc_loc (hv : ∀ c, c < 0 → ay c = 0) {L t z : List Int} {k : Nat} (hL : ctt ay L = some k) (ht : ctt ay t = some k) (h : Mtc ay L (t ++ z)) : Mtc ay L t := by
  obtain ⟨σ, y, h1, h2⟩ := h
  obtain ⟨e, _⟩ := ct_pf ht (ct_sb hv h1 hL) h2
  exact ⟨σ, [], h1, by rw [List.append_nil]; exact e⟩
theorem Mtc_mi (hv : ∀ c, c < 0 → ay c = 0) {L t : List Int} (hL : ctt ay L = some 1) (ht : ctt ay t = some 1) : Mtc ay (mi ay L) (mi ay t) ↔ Mtc ay L t := by
  have one : ∀ {L t : List Int}, ctt ay L = some 1 → ctt ay t = some 1 → Mtc ay L t → Mtc ay (mi ay L) (mi ay t) := by
    intro L t hL ht ⟨σ, y, h1, h2⟩
    have e := ct_pf ht (ct_sb hv h1 hL) (r := []) (by rw [List.append_nil]; exact h2)
    exact ⟨_, [], tv_mi h1, by rw [List.append_nil, e.1]; exact mi_sb hv h1 hL⟩
  constructor
  · intro h
    have := one (ct_mi hL) (ct_mi ht) h
    rw [mi_mi hL, mi_mi ht] at this
    exact this
  · exact one hL ht
end LST
