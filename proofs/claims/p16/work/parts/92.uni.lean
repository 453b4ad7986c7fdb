/-! what UNIFIES, pure: parts are cells (below 880) or VARIABLES (880 and on) -/
section UNI
variable {cd : Nat → Int} {nx : Nat → Nat} {ay : Int → Nat} {n : Nat}
/-- the i-th of some that stand one behind the other from a on -/
def kid (nx : Nat → Nat) (a : Nat) : Nat → Nat
  | 0 => a
  | i + 1 => nx (kid nx a i)
theorem kid_nx {a : Nat} : ∀ {i : Nat}, kid nx (nx a) i = kid nx a (i + 1)
  | 0 => rfl
  | i + 1 => by rw [kid, kid_nx]; rfl
/-- the rows are good: each TERM lies in its row, each cell is one -/
def Gok (ay : Int → Nat) (cd : Nat → Int) (nx : Nat → Nat) (n : Nat) : Prop := n ≤ 880 ∧ (∀ c, c < 0 → ay c = 0) ∧ ∀ c, c < n → (c < nx c ∧ nx c ≤ n ∧ ch nx (nx c) (ay (cd c)) (c + 1)) ∧ ay (cd c) ≤ 4 ∧ -808 ≤ cd c ∧ cd c < 64
theorem ch_kid {e : Nat} : ∀ {k a i : Nat}, ch nx e k a → i ≤ k → a + i ≤ kid nx a i ∧ kid nx a i ≤ e ∧ (i < k → kid nx a i < nx (kid nx a i) ∧ nx (kid nx a i) ≤ e) ∧ (i = k → kid nx a i = e)
  | 0, a, i, h, hi => by
    unfold ch at h
    have : i = 0 := by omega
    subst this
    rw [kid]
    exact ⟨by omega, by omega, fun g => absurd g (by omega), fun _ => h⟩
  | k + 1, a, 0, h, hi => by
    have hc := ch_le h
    unfold ch at h
    rw [kid]
    exact ⟨by omega, by omega, fun _ => ⟨h.1, h.2.1⟩, fun g => absurd g (by omega)⟩
  | k + 1, a, i + 1, h, hi => by
    unfold ch at h
    obtain ⟨g1, g2, g3, g4⟩ := ch_kid (i := i) h.2.2 (by omega)
    rw [← kid_nx]
    exact ⟨by omega, g2, fun g => g3 (by omega), fun g => g4 (by omega)⟩
theorem G_kid (h : Gok ay cd nx n) {c i : Nat} (hc : c < n) (hi : i < ay (cd c)) : c < kid nx (c + 1) i ∧ kid nx (c + 1) i < n ∧ kid nx (c + 1) i < nx c ∧ nx (kid nx (c + 1) i) ≤ nx c := by
  obtain ⟨⟨h1, h2, h3⟩, _⟩ := h.2.2 c hc
  obtain ⟨g1, g2, g3, _⟩ := ch_kid (i := i) h3 (by omega)
  have := g3 hi
  omega
theorem G_end (h : Gok ay cd nx n) {c : Nat} (hc : c < n) : kid nx (c + 1) (ay (cd c)) = nx c := by
  obtain ⟨⟨h1, h2, h3⟩, _⟩ := h.2.2 c hc
  exact (ch_kid (i := ay (cd c)) h3 (Nat.le_refl _)).2.2.2 rfl
/-- the part of a cell -/
def ptc (cd : Nat → Int) (c : Nat) : Nat := if cd c < 0 then (879 - cd c).toNat else c
/-- parts that there are -/
def vp (cd : Nat → Int) (n z : Nat) : Prop := (z < n ∧ 0 ≤ cd z) ∨ (880 ≤ z ∧ z < 1688)
theorem vp_pt (h : Gok ay cd nx n) {c : Nat} (hc : c < n) : vp cd n (ptc cd c) := by
  obtain ⟨_, _, h1, h2⟩ := h.2.2 c hc
  unfold ptc
  split
  · right; omega
  · left; omega
theorem vp_lt (h : Gok ay cd nx n) {z : Nat} (hz : vp cd n z) : z < 1688 ∧ (z < 880 → z < n ∧ 0 ≤ cd z) := by
  have := h.1
  rcases hz with g | g
  · exact ⟨by omega, fun _ => g⟩
  · exact ⟨g.2, fun q => absurd q (by omega)⟩
def rep (R : Nat → Nat) (p q : Nat) : Nat → Nat := fun z => if R z = p then q else R z
/-- the SYMBOL of a cell -/
def syc (cd : Nat → Int) (c : Nat) : Int := cd c % 32
/-- the pairs of ARGUMENTS, the last one first -/
def prs (nx : Nat → Nat) (p q : Nat) : Nat → List (Nat × Nat)
  | 0 => []
  | k + 1 => (kid nx (p + 1) k, kid nx (q + 1) k) :: prs nx p q k
theorem prs_len {p q : Nat} : ∀ {k : Nat}, (prs nx p q k).length = k
  | 0 => rfl
  | k + 1 => by rw [prs, List.length_cons, prs_len]
theorem prs_mem {p q : Nat} {e : Nat × Nat} : ∀ {k : Nat}, e ∈ prs nx p q k → ∃ i, i < k ∧ e = (kid nx (p + 1) i, kid nx (q + 1) i)
  | 0, h => absurd h List.not_mem_nil
  | k + 1, h => by
    rw [prs] at h
    rcases List.mem_cons.mp h with h | h
    · exact ⟨k, by omega, h⟩
    · obtain ⟨i, h1, h2⟩ := prs_mem h
      exact ⟨i, by omega, h2⟩
theorem prs_in {p q i : Nat} : ∀ {k : Nat}, i < k → (kid nx (p + 1) i, kid nx (q + 1) i) ∈ prs nx p q k
  | 0, h => absurd h (Nat.not_lt_zero _)
  | k + 1, h => by
    rw [prs]
    by_cases e : i = k
    · rw [e]; exact List.mem_cons_self
    · exact List.mem_cons_of_mem _ (prs_in (by omega))
/-- joining; none: two SYMBOLS clash -/
def un (ay : Int → Nat) (cd : Nat → Int) (nx : Nat → Nat) : Nat → (Nat → Nat) → List (Nat × Nat) → Option (Nat → Nat)
  | _, R, [] => some R
  | 0, _, _ :: _ => none
  | f + 1, R, (a, b) :: st =>
    if R (ptc cd a) = R (ptc cd b) then un ay cd nx f R st
    else if 880 ≤ R (ptc cd a) then un ay cd nx f (rep R (R (ptc cd a)) (R (ptc cd b))) st
    else if 880 ≤ R (ptc cd b) then un ay cd nx f (rep R (R (ptc cd b)) (R (ptc cd a))) st
    else if syc cd (R (ptc cd a)) ≠ syc cd (R (ptc cd b)) then none
    else un ay cd nx f (rep R (R (ptc cd a)) (R (ptc cd b))) (prs nx (R (ptc cd a)) (R (ptc cd b)) (ay (cd (R (ptc cd a)))) ++ st)
/-- sums -/
def sumn (f : Nat → Nat) : Nat → Nat
  | 0 => 0
  | k + 1 => sumn f k + f k
theorem sumn_congr {f g : Nat → Nat} : ∀ {k : Nat}, (∀ i, i < k → f i = g i) → sumn f k = sumn g k
  | 0, _ => rfl
  | k + 1, h => by rw [sumn, sumn, sumn_congr (fun i hi => h i (by omega)), h k (by omega)]
theorem sumn_drop {f g : Nat → Nat} {p : Nat} : ∀ {k : Nat}, p < k → (∀ i, i < k → i ≠ p → g i = f i) → sumn g k + f p = sumn f k + g p
  | 0, hp, _ => absurd hp (Nat.not_lt_zero _)
  | k + 1, hp, h => by
    rw [sumn, sumn]
    by_cases e : p = k
    · subst e
      rw [sumn_congr (fun i hi => h i (by omega) (by omega))]
      omega
    · have := sumn_drop (k := k) (by omega) (fun i hi hne => h i (by omega) hne)
      rw [h k (by omega) (by omega)]
      omega
theorem sumn_le {f g : Nat → Nat} : ∀ {k : Nat}, (∀ i, i < k → f i ≤ g i) → sumn f k ≤ sumn g k
  | 0, _ => Nat.le_refl _
  | k + 1, h => by
    rw [sumn, sumn]
    have := sumn_le (k := k) fun i hi => h i (by omega)
    have := h k (by omega)
    omega
theorem sumn_const {c : Nat} : ∀ {k : Nat}, sumn (fun _ => c) k = c * k
  | 0 => rfl
  | k + 1 => by rw [sumn, sumn_const, Nat.mul_succ]
/-- ARGUMENTS that may still be laid down -/
def Amt (ay : Int → Nat) (cd : Nat → Int) (n : Nat) (R : Nat → Nat) : Nat := sumn (fun c => if R c = c ∧ 0 ≤ cd c then ay (cd c) else 0) n
/-- what holds of classes: of each part the one that stands for it -/
def UIv (cd : Nat → Int) (n : Nat) (R : Nat → Nat) : Prop := ∀ z, vp cd n z → vp cd n (R z) ∧ R (R z) = R z ∧ (z < 880 → R z < 880)
theorem UIv_id : UIv cd n (fun z => z) := fun z h => ⟨h, rfl, fun g => g⟩
theorem UIv_rep {R : Nat → Nat} {p q : Nat} (h : UIv cd n R) (hp : R p = p) (hq : R q = q) (hpq : p ≠ q) (vq : vp cd n q) (h8 : p < 880 → q < 880) : UIv cd n (rep R p q) := by
  intro z hz
  obtain ⟨h1, h2, h3⟩ := h z hz
  unfold rep
  by_cases g : R z = p
  · rw [if_pos g, hq, if_neg (fun e => hpq e.symm)]
    exact ⟨vq, rfl, fun gz => h8 (by rw [← g]; exact h3 gz)⟩
  · rw [if_neg g, h2, if_neg g]
    exact ⟨h1, rfl, h3⟩
theorem Amt_var {R : Nat → Nat} {p q : Nat} (hG : Gok ay cd nx n) (h : UIv cd n R) (hp : 880 ≤ p) : Amt ay cd n (rep R p q) = Amt ay cd n R := by
  unfold Amt
  refine sumn_congr fun c hc => ?_
  have h8 := hG.1
  by_cases g : 0 ≤ cd c
  · have := (h c (Or.inl ⟨hc, g⟩)).2.2 (by omega)
    unfold rep
    rw [if_neg (show ¬ R c = p by omega)]
  · rw [if_neg (fun e => g e.2), if_neg (fun e => g e.2)]
theorem Amt_sym {R : Nat → Nat} {p q : Nat} (hp : R p = p) (hq : R q = q) (hpq : p ≠ q) (hn : p < n) (hc : 0 ≤ cd p) : Amt ay cd n (rep R p q) + ay (cd p) = Amt ay cd n R := by
  unfold Amt
  have := sumn_drop (f := fun c => if R c = c ∧ 0 ≤ cd c then ay (cd c) else 0) (g := fun c => if rep R p q c = c ∧ 0 ≤ cd c then ay (cd c) else 0) hn (fun i hi hne => by
    show (if rep R p q i = i ∧ 0 ≤ cd i then ay (cd i) else 0) = if R i = i ∧ 0 ≤ cd i then ay (cd i) else 0
    unfold rep
    by_cases g : R i = p
    · rw [if_pos g]
      rw [if_neg (show ¬ (R i = i ∧ 0 ≤ cd i) by rintro ⟨e, _⟩; omega)]
      by_cases e : q = i
      · subst e
        exact absurd (g.symm.trans hq) hpq
      · rw [if_neg (fun w => e w.1)]
    · rw [if_neg g])
  try dsimp only at this
  rw [if_pos (show R p = p ∧ 0 ≤ cd p from ⟨hp, hc⟩)] at this
  have e2 : rep R p q p = q := by unfold rep; rw [if_pos hp]
  rw [e2, if_neg (show ¬ (q = p ∧ 0 ≤ cd p) from fun w => hpq w.1.symm)] at this
  omega
/-- a naming that classes bear -/
def Lok (cd : Nat → Int) (n : Nat) (R L : Nat → Nat) : Prop := ∀ x y, vp cd n x → vp cd n y → R x = R y → L x = L y
/-- the ARGUMENTS of a cell go with those of what stands for it, or will -/
def UCl (ay : Int → Nat) (cd : Nat → Int) (nx : Nat → Nat) (n : Nat) (R : Nat → Nat) (st : List (Nat × Nat)) : Prop := ∀ L, Lok cd n R L → (∀ e, e ∈ st → L (ptc cd e.1) = L (ptc cd e.2)) → ∀ c, c < n → 0 ≤ cd c → ∀ i, i < ay (cd c) → L (ptc cd (kid nx (c + 1) i)) = L (ptc cd (kid nx (R c + 1) i))
def USy (cd : Nat → Int) (n : Nat) (R : Nat → Nat) : Prop := ∀ c, c < n → 0 ≤ cd c → syc cd c = syc cd (R c)
/-- cells of one SYMBOL ask alike -/
def ay32 (ay : Int → Nat) : Prop := ∀ c d, 0 ≤ c → 0 ≤ d → c % 32 = d % 32 → ay c = ay d
theorem UCl_id : UCl ay cd nx n (fun z => z) [] := fun _ _ _ _ _ _ _ _ => rfl
theorem UCl_mono {R : Nat → Nat} {st : List (Nat × Nat)} {e : Nat × Nat} (h : UCl ay cd nx n R st) : UCl ay cd nx n R (e :: st) := fun L h1 h2 => h L h1 fun e' he => h2 e' (List.mem_cons_of_mem _ he)
theorem Lok_rep {R L : Nat → Nat} {p q : Nat} (h : Lok cd n (rep R p q) L) : Lok cd n R L := fun x y hx hy e => h x y hx hy (by unfold rep; rw [e])
/-- one step keeps it -/
theorem UCl_rep {R : Nat → Nat} {p q : Nat} {a b : Nat} {st st' : List (Nat × Nat)} (hG : Gok ay cd nx n) (hU : UIv cd n R) (ha : a < n) (hb : b < n) (h : UCl ay cd nx n R ((a, b) :: st)) (hpq : (R (ptc cd a) = p ∧ R (ptc cd b) = q) ∨ (R (ptc cd a) = q ∧ R (ptc cd b) = p)) (hst : ∀ e, e ∈ st → e ∈ st') (hs : p < 880 → ∀ i, i < ay (cd p) → ∀ L : Nat → Nat, (∀ e, e ∈ st' → L (ptc cd e.1) = L (ptc cd e.2)) → L (ptc cd (kid nx (p + 1) i)) = L (ptc cd (kid nx (q + 1) i))) (hay : ∀ c, c < n → 0 ≤ cd c → R c = p → ay (cd c) = ay (cd p)) : UCl ay cd nx n (rep R p q) st' := by
  intro L hL hS c hc h0 i hi
  have hL' := Lok_rep hL
  have h1 := h L hL' (fun e he => by
    rcases List.mem_cons.mp he with rfl | he
    · refine hL _ _ (vp_pt hG ha) (vp_pt hG hb) ?_
      unfold rep
      rcases hpq with ⟨e1, e2⟩ | ⟨e1, e2⟩
      · rw [e1, e2, if_pos rfl]
        split
        · rfl
        · rfl
      · rw [e1, e2, if_pos rfl]
        split
        · rfl
        · rfl
    · exact hS e (hst e he)) c hc h0 i hi
  rw [h1]
  unfold rep
  by_cases g : R c = p
  · rw [if_pos g, g]
    have h8 : p < 880 := by
      have := (hU c (Or.inl ⟨hc, h0⟩)).2.2 (by have := hG.1; omega)
      omega
    exact hs h8 i (by rw [← hay c hc h0 g]; exact hi) L hS
  · rw [if_neg g]
theorem un_ok (hG : Gok ay cd nx n) (h32 : ay32 ay) : ∀ (f : Nat) (R : Nat → Nat) (st : List (Nat × Nat)) (R' : Nat → Nat), un ay cd nx f R st = some R' → (∀ e, e ∈ st → e.1 < n ∧ e.2 < n) → UIv cd n R → USy cd n R → UCl ay cd nx n R st → UIv cd n R' ∧ USy cd n R' ∧ UCl ay cd nx n R' [] := by
  intro f
  induction f with
  | zero =>
    intro R st R' h hst hU hY hC
    cases st with
    | nil =>
      rw [un] at h
      cases h
      exact ⟨hU, hY, hC⟩
    | cons e st => cases h
  | succ f ih =>
    intro R st R' h hst hU hY hC
    cases st with
    | nil =>
      rw [un] at h
      cases h
      exact ⟨hU, hY, hC⟩
    | cons e st =>
      obtain ⟨a, b⟩ := e
      rw [un] at h
      have hab : a < n ∧ b < n := hst (a, b) List.mem_cons_self
      have hst' : ∀ e, e ∈ st → e.1 < n ∧ e.2 < n := fun e he => hst e (List.mem_cons_of_mem _ he)
      have va := hU _ (vp_pt hG hab.1)
      have vb := hU _ (vp_pt hG hab.2)
      by_cases g1 : R (ptc cd a) = R (ptc cd b)
      · rw [if_pos g1] at h
        refine ih R st R' h hst' hU hY (fun L h1 h2 => hC L h1 fun e he => ?_)
        rcases List.mem_cons.mp he with rfl | he
        · exact h1 _ _ (vp_pt hG hab.1) (vp_pt hG hab.2) g1
        · exact h2 e he
      · rw [if_neg g1] at h
        by_cases g2 : 880 ≤ R (ptc cd a)
        · rw [if_pos g2] at h
          refine ih _ st R' h hst' (UIv_rep hU va.2.1 vb.2.1 g1 vb.1 (fun q => absurd q (by omega))) (fun c hc h0 => ?_) (UCl_rep hG hU hab.1 hab.2 hC (Or.inl ⟨rfl, rfl⟩) (fun e he => he) (fun q => absurd q (by omega)) (fun c hc h0 q => ?_))
          · have := (hU c (Or.inl ⟨hc, h0⟩)).2.2 (by have := hG.1; omega)
            unfold rep
            rw [if_neg (by omega)]
            exact hY c hc h0
          · have := (hU c (Or.inl ⟨hc, h0⟩)).2.2 (by have := hG.1; omega)
            omega
        · rw [if_neg g2] at h
          by_cases g3 : 880 ≤ R (ptc cd b)
          · rw [if_pos g3] at h
            refine ih _ st R' h hst' (UIv_rep hU vb.2.1 va.2.1 (fun e => g1 e.symm) va.1 (fun q => absurd q (by omega))) (fun c hc h0 => ?_) (UCl_rep hG hU hab.1 hab.2 hC (Or.inr ⟨rfl, rfl⟩) (fun e he => he) (fun q => absurd q (by omega)) (fun c hc h0 q => ?_))
            · have := (hU c (Or.inl ⟨hc, h0⟩)).2.2 (by have := hG.1; omega)
              unfold rep
              rw [if_neg (by omega)]
              exact hY c hc h0
            · have := (hU c (Or.inl ⟨hc, h0⟩)).2.2 (by have := hG.1; omega)
              omega
          · rw [if_neg g3] at h
            by_cases g4 : syc cd (R (ptc cd a)) ≠ syc cd (R (ptc cd b))
            · rw [if_pos g4] at h; cases h
            · rw [if_neg g4] at h
              have g4' : syc cd (R (ptc cd a)) = syc cd (R (ptc cd b)) := Classical.not_not.mp g4
              have na := (vp_lt hG va.1).2 (by omega)
              have nb := (vp_lt hG vb.1).2 (by omega)
              have eay : ay (cd (R (ptc cd a))) = ay (cd (R (ptc cd b))) := h32 _ _ na.2 nb.2 g4'
              refine ih _ _ R' h (fun e he => ?_) (UIv_rep hU va.2.1 vb.2.1 g1 vb.1 (fun _ => by omega)) (fun c hc h0 => ?_) (UCl_rep hG hU hab.1 hab.2 hC (Or.inl ⟨rfl, rfl⟩) (fun e he => List.mem_append_right _ he) (fun _ i hi L hL => ?_) (fun c hc h0 q => ?_))
              · rcases List.mem_append.mp he with he | he
                · obtain ⟨i, h1, h2⟩ := prs_mem he
                  rw [h2]
                  exact ⟨(G_kid hG na.1 h1).2.1, (G_kid hG nb.1 (by rw [← eay]; exact h1)).2.1⟩
                · exact hst' e he
              · have hy := hY c hc h0
                unfold rep
                split
                · rename_i e
                  rw [hy, e, g4']
                · exact hy
              · exact hL _ (List.mem_append_left _ (prs_in hi))
              · have hy := hY c hc h0
                rw [q] at hy
                exact h32 _ _ h0 na.2 hy
def cset (col : Nat → Int) (c : Nat) (v : Int) : Nat → Int := fun z => if z = c then v else col z
theorem cset_at (col : Nat → Int) (c : Nat) (v : Int) : cset col c v c = v := if_pos rfl
theorem cset_ne (col : Nat → Int) {c z : Nat} (v : Int) (h : z ≠ c) : cset col c v z = col z := if_neg h
/-- a search for what lies in itself: a SYMBOL's cell and how many of its ARGUMENTS are through -/
def df (ay : Int → Nat) (cd : Nat → Int) (nx R : Nat → Nat) : Nat → (Nat → Int) → List (Nat × Nat) → Bool
  | _, _, [] => true
  | 0, _, _ :: _ => true
  | f + 1, col, (c, i) :: st =>
    if ay (cd c) ≤ i then df ay cd nx R f (cset col c 2) st
    else if R (ptc cd (kid nx (c + 1) i)) < 880 then
      if col (R (ptc cd (kid nx (c + 1) i))) = 1 then false
      else if col (R (ptc cd (kid nx (c + 1) i))) = 0 then df ay cd nx R f (cset col (R (ptc cd (kid nx (c + 1) i))) 1) ((R (ptc cd (kid nx (c + 1) i)), 0) :: (c, i + 1) :: st)
      else df ay cd nx R f col ((c, i + 1) :: st)
    else df ay cd nx R f col ((c, i + 1) :: st)
def wh (x : Int) (k : Nat) : Nat := if x = 0 then k else 0
theorem wh_0 (k : Nat) : wh 0 k = k := if_pos rfl
theorem wh_ne {x : Int} (k : Nat) (h : x ≠ 0) : wh x k = 0 := if_neg h
/-- what is left to do in it -/
def Dmt (ay : Int → Nat) (cd : Nat → Int) (n : Nat) (col : Nat → Int) : List (Nat × Nat) → Nat
  | [] => sumn (fun c => wh (col c) (ay (cd c) + 2)) n
  | (c, i) :: st => (ay (cd c) - i + 1) + Dmt ay cd n col st
theorem wh_col {col : Nat → Int} {c : Nat} {v : Int} (hc : col c ≠ 0) (hv : v ≠ 0) (i k : Nat) : wh (cset col c v i) k = wh (col i) k := by
  by_cases e : i = c
  · subst e
    rw [cset_at, wh_ne k hv, wh_ne k hc]
  · rw [cset_ne _ _ e]
theorem Dmt_col {col : Nat → Int} {c : Nat} {v : Int} (hc : col c ≠ 0) (hv : v ≠ 0) : ∀ {st : List (Nat × Nat)}, Dmt ay cd n (cset col c v) st = Dmt ay cd n col st
  | [] => by
    rw [Dmt, Dmt]
    exact sumn_congr fun i _ => wh_col hc hv i _
  | (c', i) :: st => by rw [Dmt, Dmt, Dmt_col hc hv]
theorem wh_new {col : Nat → Int} {c : Nat} (hn : c < n) (hc : col c = 0) (w : Nat → Nat) : sumn (fun i => wh (cset col c 1 i) (w i)) n + w c = sumn (fun i => wh (col i) (w i)) n := by
  have := sumn_drop (f := fun i => wh (col i) (w i)) (g := fun i => wh (cset col c 1 i) (w i)) hn (fun i _ hne => by
    show wh (cset col c 1 i) (w i) = wh (col i) (w i)
    rw [cset_ne _ _ hne])
  have e1 : wh (col c) (w c) = w c := by rw [hc, wh_0]
  have e2 : wh (cset col c 1 c) (w c) = 0 := by rw [cset_at]; exact wh_ne _ (by decide)
  have this' : sumn (fun i => wh (cset col c 1 i) (w i)) n + wh (col c) (w c) = sumn (fun i => wh (col i) (w i)) n + wh (cset col c 1 c) (w c) := this
  rw [e1, e2] at this'
  exact this'
theorem Dmt_new {col : Nat → Int} {c : Nat} (hn : c < n) (hc : col c = 0) : ∀ {st : List (Nat × Nat)}, Dmt ay cd n (cset col c 1) st + (ay (cd c) + 2) = Dmt ay cd n col st
  | [] => wh_new hn hc _
  | (c', i) :: st => by
    rw [Dmt, Dmt, ← Dmt_new hn hc (st := st)]
    omega
/-- cells that are not yet searched -/
def Wht (n : Nat) (col : Nat → Int) : Nat := sumn (fun c => wh (col c) 1) n
theorem Wht_col {col : Nat → Int} {c : Nat} {v : Int} (hc : col c ≠ 0) (hv : v ≠ 0) : Wht n (cset col c v) = Wht n col := sumn_congr fun i _ => wh_col hc hv i 1
theorem Wht_new {col : Nat → Int} {c : Nat} (hn : c < n) (hc : col c = 0) : Wht n (cset col c 1) + 1 = Wht n col := wh_new hn hc fun _ => 1
theorem sumn_wh {col : Nat → Int} (w : Nat → Nat) : ∀ {k : Nat}, (∀ i, i < k → w i ≤ 6) → sumn (fun i => wh (col i) (w i)) k ≤ 6 * k
  | 0, _ => Nat.le_refl _
  | k + 1, h => by
    have := sumn_wh (col := col) w (k := k) fun i hi => h i (by omega)
    have h2 := h k (by omega)
    have h3 : wh (col k) (w k) ≤ w k := by unfold wh; split <;> omega
    rw [sumn]
    omega
/-- whether a class is finite -/
def fin (ay : Int → Nat) (cd : Nat → Int) (nx : Nat → Nat) (n : Nat) (R : Nat → Nat) (a : Nat) : Bool := if 880 ≤ R (ptc cd a) then true else df ay cd nx R (Dmt ay cd n (cset (fun _ => 0) (R (ptc cd a)) 1) [(R (ptc cd a), 0)]) (cset (fun _ => 0) (R (ptc cd a)) 1) [(R (ptc cd a), 0)]
/-- whether two TERMS UNIFY, and the classes then -/
def uni (ay : Int → Nat) (cd : Nat → Int) (nx : Nat → Nat) (n a b : Nat) : Option (Nat → Nat) := match un ay cd nx (Amt ay cd n (fun z => z) + 1) (fun z => z) [(a, b)] with
  | none => none
  | some R => if fin ay cd nx n R a = true then some R else none
end UNI
