/-! the class's Bench: put(), putValues(), rename() -/
section CPT
variable {X : aX} {d : Nat} {P : Mp} {J : Mj} {m m' : Mi} {x0 : Nat} {cd : Nat → Int} {nx : Nat → Nat} {ay : Int → Nat} {n : Nat} {R rt T : Nat → Nat} {B : Nat} {col : Nat → Int}
/-- how the class marks -/
def emc (cd : Nat → Int) (mg : Int) (c : Nat) (w : Bool) : Int := if mg = 2 then cd c % 32 + 32 else if w = true ∨ mg = 0 then cd c % 32 else cd c
/-- what is written so far -/
def MD (x0 : Nat) (m : Mi) (l : List Int) : Prop := l.length ≤ 800 ∧ m x0 12 = (l.length : Int) ∧ Ro m (x0 + 8) 0 l
theorem MD_fr {l : List Int} (h : MD x0 m l) (f0 : m' x0 12 = m x0 12) (f : ∀ k, m' (x0 + 8) k = m (x0 + 8) k) : MD x0 m' l := ⟨h.1, f0.trans h.2.1, Ro_fr h.2.2 fun k _ _ => f k⟩
theorem c_bwrite {l : List Int} {v : Int} (hp : PP P) (kx : am_kd an_K x0 = some (.inl 4)) (hM : MD x0 m l) (hl : l.length < 800) {post : Mi → Mj → Mp → Prop} (k : ∀ m', MD x0 m' (l ++ [v]) → (∀ b k, b ≠ x0 + 8 → ¬ (b = x0 ∧ k = 12) → m' b k = m b k) → post m' J P) : Cv X d 62 [.ref x0, .int (iz v)] m J P post := by
  have h12 := hM.2.1
  refine Cv.of rfl rfl rfl (b_Bench_write_0 x0 v kx m J P hp post ⟨by rw [h12]; constructor <;> omega, fun _ => ⟨by rw [h12]; omega, ?_⟩, fun h => absurd (by rw [h12]; omega) h⟩)
  have e1 : ((l.length : Nat) : Int).toNat = l.length := by omega
  rw [h12, e1, mu_ne _ _ (by omega), h12]
  refine k _ ⟨by rw [List.length_append, List.length_singleton]; omega, by rw [mu_at, List.length_append, List.length_singleton]; omega, ?_⟩ (fun b k g1 g2 => by rw [mu_ne _ _ g2, mu_ne _ _ (by omega)])
  exact Ro_fr (Ro_snoc hM.2.2) fun k _ _ => mu_ne _ _ (by omega)
theorem zor_32 {x : Int} (h : 0 ≤ x ∧ x < 64) : zor x 32 = x % 32 + 32 := by
  have g : ((List.range 64).all fun k => decide (zor ((k : Nat) : Int) 32 = ((k : Nat) : Int) % 32 + 32)) = true := by decide +kernel
  have := of_decide_eq_true (List.all_eq_true.mp g x.toNat (List.mem_range.mpr (by omega)))
  rw [show ((x.toNat : Nat) : Int) = x by omega] at this
  exact this
theorem zxor_m {c : Nat} (h : c < 880) : zxor (c : Int) (-1) = -1 - (c : Int) ∧ zxor (-1 - (c : Int)) (-1) = (c : Int) := by
  have g : ((List.range 880).all fun k => decide (zxor ((k : Nat) : Int) (-1) = -1 - ((k : Nat) : Int)) && decide (zxor (-1 - ((k : Nat) : Int)) (-1) = ((k : Nat) : Int))) = true := by decide +kernel
  have := List.all_eq_true.mp g c (List.mem_range.mpr h)
  rw [Bool.and_eq_true, decide_eq_true_eq, decide_eq_true_eq] at this
  exact this
def b2i (w : Bool) : Int := if w = true then 1 else 0
theorem c_marked {c : Nat} {w : Bool} {mg : Int} (hp : PP P) (h : 0 ≤ cd c ∧ cd c < 64) (hm : mg = 0 ∨ mg = 1 ∨ mg = 2) {post : Int → Mi → Mj → Mp → Prop} (k : post (emc cd mg c w) m J P) : Ci X d 63 [.int (iz (cd c)), .int (iz (b2i w)), .int (iz mg)] m J P post := by
  have zm : Zr mg := by constructor <;> omega
  have e31 : zand (cd c) 31 = cd c % 32 := zand_31 ⟨h.1, by omega⟩
  refine Ci.of rfl rfl rfl (b_Bench_marked_0 (cd c) (b2i w) mg m J P hp post ⟨zm, fun h2 => ?_, fun h2 => ?_⟩)
  · rw [e31]
    unfold emc at k
    rw [if_neg h2] at k
    cases w with
    | true =>
      rw [if_pos (Or.inl rfl)] at k
      exact ⟨zr1, fun _ => k, fun g => absurd (by decide) g⟩
    | false =>
      refine ⟨zr0, fun g => absurd rfl g, fun _ => ⟨zm, fun g => ?_, fun g => ?_⟩⟩
      · rw [if_neg (fun q => q.elim (fun q => by cases q) g)] at k
        exact k
      · have g' := Classical.not_not.mp g
        rw [if_pos (Or.inr g')] at k
        exact k
  · unfold emc at k
    rw [if_pos (Classical.not_not.mp h2), ← zor_32 h] at k
    exact k
/-- cells that are to be written, the next one first -/
def enc (e : Nat × Bool) : Int := if e.2 = true then -1 - (e.1 : Int) else (e.1 : Int)
def STB (x0 : Nat) (m : Mi) : List (Nat × Bool) → Prop
  | [] => True
  | e :: st => m (x0 + 7) st.length = enc e ∧ STB x0 m st
theorem STB_fr : ∀ {st : List (Nat × Bool)}, STB x0 m st → (∀ k, k < st.length → m' (x0 + 7) k = m (x0 + 7) k) → STB x0 m' st
  | [], _, _ => trivial
  | e :: st, h, f => by
    rw [List.length_cons] at f
    exact ⟨(f _ (by omega)).trans h.1, STB_fr h.2 fun k hk => f k (by omega)⟩
theorem STB_app {st : List (Nat × Bool)} : ∀ {l : List (Nat × Bool)}, STB x0 m st → (∀ i, (h : i < l.length) → m (x0 + 7) (st.length + (l.length - 1 - i)) = enc l[i]) → STB x0 m (l ++ st)
  | [], h, _ => h
  | e :: l, h, f => by
    refine ⟨?_, STB_app h fun i hi => ?_⟩
    · have := f 0 (by simp)
      have e1 : (l ++ st).length = st.length + ((e :: l).length - 1 - 0) := by rw [List.length_append, List.length_cons]; omega
      show m (x0 + 7) (l ++ st).length = enc e
      rw [e1]
      exact this
    · have := f (i + 1) (by simp; exact hi)
      have e2 : l.length - 1 - i = (e :: l).length - 1 - (i + 1) := by rw [List.length_cons]; omega
      rw [e2]
      exact this
theorem kids_get {c : Nat} {w : Bool} : ∀ {k i : Nat}, (h : i < (kids nx c w k).length) → (kids nx c w k)[i] = (kid nx (c + 1) i, w)
  | 0, i, h => absurd h (Nat.not_lt_zero _)
  | k + 1, i, h => by
    simp only [kids]
    by_cases g : i < (kids nx c w k).length
    · rw [List.getElem_append_left g, kids_get g]
    · have e : i = k := by
        rw [kids_len] at h g
        omega
      subst e
      rw [List.getElem_append_right (by rw [kids_len]; exact Nat.le_refl _)]
      simp [kids_len]
theorem c_pushParts {c : Nat} {w : Bool} {st : List (Nat × Bool)} (hp : PP P) (kx : am_kd an_K x0 = some (.inl 4)) (hG : Gok ay cd nx n) (hM : GC x0 cd nx n m) (hc : c < n) (hST : STB x0 m st) (hroom : st.length ≤ 2000) {post : Int → Mi → Mj → Mp → Prop} (k : ∀ m', STB x0 m' (kids nx c w (ay (cd c)) ++ st) → (∀ b k, b ≠ x0 + 7 → m' b k = m b k) → post ((kids nx c w (ay (cd c)) ++ st).length : Nat) m' J P) : Ci X d 64 [.ref x0, .int (iz (c : Int)), .int (iz (b2i w)), .int (iz (st.length : Int))] m J P post := by
  have h880 := hG.1
  obtain ⟨⟨t1, t2, t3⟩, h4, _⟩ := hG.2.2 c hc
  have ec : ((c : Nat) : Int).toNat = c := by omega
  refine Ci.of rfl rfl rfl (b_Bench_pushParts_0 x0 c _ _ kx m J P hp post ?_)
  have zw : Zr (b2i w) := by cases w <;> (constructor <;> decide)
  -- turned round
  have turn : ∀ (q lo hi : Nat) (m1 : Mi) (x5 : Int), hi + 1 - lo ≤ q → lo + hi + 1 = 2 * st.length + ay (cd c) → st.length ≤ lo → lo ≤ hi + 1 → (∀ b k, b ≠ x0 + 7 → m1 b k = m b k) → (∀ k, k < st.length → m1 (x0 + 7) k = m (x0 + 7) k) → (∀ i, i < ay (cd c) → (st.length + i < lo ∨ hi < st.length + i) → m1 (x0 + 7) (st.length + i) = enc (kid nx (c + 1) (ay (cd c) - 1 - i), w)) → (∀ i, i < ay (cd c) → lo ≤ st.length + i → st.length + i ≤ hi → m1 (x0 + 7) (st.length + i) = enc (kid nx (c + 1) i, w)) → Rn X d 64 83 [some (.ref x0), some (.int (iz (c : Int))), some (.int (iz (b2i w))), some (.int (iz (st.length : Int))), some (.int (iz ((st.length + ay (cd c) : Nat) : Int))), some (.int (iz x5)), some (.int (iz (lo : Int))), some (.int (iz ((hi : Int)))), none] [] (SS m1 J P) (QI post) := by
    intro q
    induction q with
    | zero =>
      intro lo hi m1 x5 hq hs h1 h2 f1 f2 f3 f4
      refine b_Bench_pushParts_83 x0 c _ _ _ x5 lo hi kx m1 J P hp post ⟨by constructor <;> omega, by constructor <;> omega, fun _ => ?_, fun g => absurd (by omega) g⟩
      have := k m1 (STB_app (STB_fr hST f2) fun i hi' => ?_) f1
      · rw [List.length_append, kids_len, Nat.add_comm] at this
        exact this
      · rw [kids_len] at hi' ⊢
        rw [kids_get, f3 (ay (cd c) - 1 - i) (by omega) (by omega)]
        congr 2
        congr 1
        omega
    | succ q ih =>
      intro lo hi m1 x5 hq hs h1 h2 f1 f2 f3 f4
      by_cases g : hi ≤ lo
      · refine b_Bench_pushParts_83 x0 c _ _ _ x5 lo hi kx m1 J P hp post ⟨by constructor <;> omega, by constructor <;> omega, fun _ => ?_, fun g2 => absurd (by omega) g2⟩
        have := k m1 (STB_app (STB_fr hST f2) fun i hi' => ?_) f1
        · rw [List.length_append, kids_len, Nat.add_comm] at this
          exact this
        · rw [kids_len] at hi' ⊢
          rw [kids_get]
          by_cases g3 : st.length + (ay (cd c) - 1 - i) < lo ∨ hi < st.length + (ay (cd c) - 1 - i)
          · rw [f3 (ay (cd c) - 1 - i) (by omega) g3]
            congr 2
            congr 1
            omega
          · rw [f4 (ay (cd c) - 1 - i) (by omega) (by omega) (by omega)]
            congr 2
            congr 1
            omega
      · have el : ((lo : Nat) : Int).toNat = lo := by omega
        have eh : ((hi : Nat) : Int).toNat = hi := by omega
        refine b_Bench_pushParts_83 x0 c _ _ _ x5 lo hi kx m1 J P hp post ⟨by constructor <;> omega, by constructor <;> omega, fun g2 => absurd g2 (by omega), fun _ => ⟨by omega, by omega, by omega, by omega, ?_⟩⟩
        have e1 : ((lo : Nat) : Int) + 1 = ((lo + 1 : Nat) : Int) := by omega
        have e2 : ((hi : Nat) : Int) + (-1) = ((hi - 1 : Nat) : Int) := by omega
        rw [el, eh, e1, e2]
        have hlo := f4 (lo - st.length) (by omega) (by omega) (by omega)
        have hhi := f4 (hi - st.length) (by omega) (by omega) (by omega)
        rw [show st.length + (lo - st.length) = lo by omega] at hlo
        rw [show st.length + (hi - st.length) = hi by omega] at hhi
        refine ih (lo + 1) (hi - 1) _ x5 (by omega) (by omega) (by omega) (by omega) (fun b k g => by rw [mu_ne _ _ (by omega), mu_ne _ _ (by omega)]; exact f1 b k g) (fun k hk => by rw [mu_ne _ _ (by omega), mu_ne _ _ (by omega)]; exact f2 k hk) (fun i hi' hc' => ?_) (fun i hi' hc1 hc2 => ?_)
        · by_cases g1 : st.length + i = lo
          · rw [g1, mu_ne _ _ (by omega), mu_at, hhi]
            congr 2
            congr 1
            omega
          · by_cases g2 : st.length + i = hi
            · rw [g2, mu_at, hlo]
              congr 2
              congr 1
              omega
            · rw [mu_ne _ _ (by omega), mu_ne _ _ (by omega)]
              exact f3 i hi' (by omega)
        · rw [mu_ne _ _ (by omega), mu_ne _ _ (by omega)]
          exact f4 i hi' (by omega) (by omega)
  have loop : ∀ (q i : Nat) (m1 : Mi), i + q = ay (cd c) → (∀ b k, b ≠ x0 + 7 → m1 b k = m b k) → (∀ k, k < st.length → m1 (x0 + 7) k = m (x0 + 7) k) → (∀ j, j < i → m1 (x0 + 7) (st.length + j) = enc (kid nx (c + 1) j, w)) → Rn X d 64 11 [some (.ref x0), some (.int (iz (c : Int))), some (.int (iz (b2i w))), some (.int (iz (st.length : Int))), some (.int (iz ((st.length + i : Nat) : Int))), some (.int (iz (kid nx (c + 1) i : Int))), some (.int (iz (i : Int))), none, none] [] (SS m1 J P) (QI post) := by
    intro q
    induction q with
    | zero =>
      intro i m1 hi f1 f2 f3
      have ei : i = ay (cd c) := by omega
      subst ei
      have hn1 : m1 (x0 + 2) c = (nx c : Int) := (f1 _ _ (by omega)).trans (hM c hc).2
      have eend := G_end hG hc
      have done : Rn X d 64 83 [some (.ref x0), some (.int (iz (c : Int))), some (.int (iz (b2i w))), some (.int (iz (st.length : Int))), some (.int (iz ((st.length + ay (cd c) : Nat) : Int))), some (.int (iz (kid nx (c + 1) (ay (cd c)) : Int))), some (.int (iz (st.length : Int))), some (.int (iz (((st.length + ay (cd c) : Nat) : Int) - 1))), none] [] (SS m1 J P) (QI post) := by
        by_cases g : 0 < st.length + ay (cd c)
        · have e1 : ((st.length + ay (cd c) : Nat) : Int) - 1 = ((st.length + ay (cd c) - 1 : Nat) : Int) := by omega
          rw [e1]
          exact turn (ay (cd c)) st.length (st.length + ay (cd c) - 1) m1 _ (by omega) (by omega) (Nat.le_refl _) (by omega) f1 f2 (fun i hi' hc' => by omega) (fun i hi' _ _ => f3 i hi')
        · have e0 : ay (cd c) = 0 ∧ st.length = 0 := by omega
          refine b_Bench_pushParts_83 x0 c _ _ _ _ _ _ kx m1 J P hp post ⟨by constructor <;> omega, by constructor <;> omega, fun _ => ?_, fun g => absurd (by omega) g⟩
          have := k m1 (STB_app (STB_fr hST f2) fun i hi' => by rw [kids_len] at hi'; omega) f1
          rw [List.length_append, kids_len, Nat.add_comm] at this
          exact this
      refine b_Bench_pushParts_11 x0 c _ _ _ _ _ kx m1 J P hp post ⟨by constructor <;> omega, fun _ => done, fun _ => ⟨by omega, by rw [eend]; constructor <;> omega, by rw [ec, hn1]; constructor <;> omega, fun _ => done, fun g => absurd (by rw [ec, hn1, eend]; exact Int.le_refl _) g⟩⟩
    | succ q ih =>
      intro i m1 hi f1 f2 f3
      have gk := G_kid hG hc (i := i) (by omega)
      have hn1 : m1 (x0 + 2) c = (nx c : Int) := (f1 _ _ (by omega)).trans (hM c hc).2
      have e1 : ((st.length + i : Nat) : Int).toNat = st.length + i := by omega
      have e2 : ((kid nx (c + 1) i : Nat) : Int).toNat = kid nx (c + 1) i := by omega
      have e3 : ((st.length + i : Nat) : Int) + 1 = ((st.length + (i + 1) : Nat) : Int) := by omega
      have e4 : ((i : Nat) : Int) + 1 = ((i + 1 : Nat) : Int) := by omega
      have nxt : ∀ v, v = enc (kid nx (c + 1) i, w) → Rn X d 64 11 [some (.ref x0), some (.int (iz (c : Int))), some (.int (iz (b2i w))), some (.int (iz (st.length : Int))), some (.int (iz (((st.length + i : Nat) : Int) + 1))), some (.int (iz ((mu m1 (x0 + 7) (st.length + i) v) (x0 + 2) (kid nx (c + 1) i)))), some (.int (iz ((i : Int) + 1))), none, none] [] (SS (mu m1 (x0 + 7) (st.length + i) v) J P) (QI post) := by
        intro v hv
        rw [mu_ne _ _ (by omega), f1 _ _ (by omega), (hM _ gk.2.1).2, e3, e4]
        refine ih (i + 1) _ (by omega) (fun b k g => (mu_ne _ _ (by omega)).trans (f1 b k g)) (fun k hk => (mu_ne _ _ (by omega)).trans (f2 k hk)) (fun j hj => ?_)
        by_cases g : j = i
        · rw [g, mu_at, hv]
        · rw [mu_ne _ _ (by omega)]; exact f3 j (by omega)
      have hx := zxor_m (c := kid nx (c + 1) i) (by omega)
      refine b_Bench_pushParts_11 x0 c _ _ _ _ _ kx m1 J P hp post ⟨by constructor <;> omega, fun g => absurd g (by omega), fun _ => ⟨by omega, by constructor <;> omega, by rw [ec, hn1]; constructor <;> omega, fun g => absurd g (by rw [ec, hn1]; omega), fun _ => ⟨by constructor <;> omega, fun g => absurd g (by omega), fun _ => ⟨zw, fun g => ⟨by omega, by omega, ?_⟩, fun g => ⟨by omega, by omega, ?_⟩⟩⟩⟩⟩
      · rw [e1, e2]
        cases w with
        | true => exact absurd g (by decide)
        | false => exact nxt _ rfl
      · rw [e1, e2, hx.1]
        cases w with
        | true => exact nxt _ rfl
        | false => exact absurd rfl g
  have e1 : (c : Int) + 1 = ((kid nx (c + 1) 0 : Nat) : Int) := by rw [kid]; omega
  rw [e1]
  have := loop (ay (cd c)) 0 m (by omega) (fun _ _ _ => rfl) (fun _ _ => rfl) (fun j hj => absurd hj (Nat.not_lt_zero _))
  exact this
/-- what put() may change -/
def ptF (x0 : Nat) (m m' : Mi) : Prop := ∀ b k, ¬ (x0 + 3 ≤ b ∧ b ≤ x0 + 8) → ¬ (b = x0 ∧ k = 12) → m' b k = m b k
theorem ptF_trans {m'' : Mi} (h : ptF x0 m m') (h2 : ptF x0 m' m'') : ptF x0 m m'' := fun b k g1 g2 => (h2 b k g1 g2).trans (h b k g1 g2)
theorem c_put_19 {hole patch lim s0 : Nat} {hv pv mg x1 : Int} (hp : PP P) (kx : am_kd an_K x0 = some (.inl 4)) (hG : Gok ay cd nx n) (hU : UIv cd n R) (hB : B ≤ 1000) (hmg : mg = 0 ∨ mg = 1 ∨ mg = 2) (hhole : ∀ a, a < n → ((a : Int) = hv ↔ a = hole)) (zhv : Zr hv) (hpatch : hole < n → patch < n ∧ pv = (patch : Int)) (hlim : s0 + lim ≤ 800) (hl200 : lim ≤ 200) {m0 : Mi} {made : List Int} {W : Option (List Int)} {post : Int → Mi → Mj → Mp → Prop} (k1 : ∀ l, W = some l → ∀ m', MD x0 m' (made ++ l) → CI x0 R rt T B col m' → GC x0 cd nx n m' → ptF x0 m0 m' → post (l.length : Nat) m' J P) (k0 : W = none → ∀ m', CI x0 R rt T B col m' → ptF x0 m0 m' → post (-1) m' J P) (hs0 : made.length = s0) : ∀ (f h : Nat) (st : List (Nat × Bool)) (l : List Int) (m : Mi), ((pt ay cd nx R (emc cd mg) hole patch f st).map fun r => l ++ r) = W → l.length + f = lim → h + f ≤ 201 → st.length ≤ 4 * h + 1 → (∀ e, e ∈ st → e.1 < n) → MD x0 m (made ++ l) → CI x0 R rt T B col m → GC x0 cd nx n m → STB x0 m st → m x0 13 = hv → m x0 14 = pv → ptF x0 m0 m → Rn X (d + 1) 61 19 [some (.ref x0), some (.int (iz x1)), some (.int (iz (lim : Int))), some (.int (iz mg)), some (.int (iz (s0 : Int))), some (.int (iz (st.length : Int))), some (.int (iz (h : Int))), none, none, none] [] (SS m J P) (QI post) := by
  have h880 := hG.1
  have fin : ∀ (h : Nat) (l : List Int) (m : Mi), h ≤ 201 → W = some l → MD x0 m (made ++ l) → CI x0 R rt T B col m → GC x0 cd nx n m → ptF x0 m0 m → Rn X (d + 1) 61 19 [some (.ref x0), some (.int (iz x1)), some (.int (iz (lim : Int))), some (.int (iz mg)), some (.int (iz (s0 : Int))), some (.int (iz 0)), some (.int (iz (h : Int))), none, none, none] [] (SS m J P) (QI post) := by
    intro h l m hh hW hM hC hGC hF
    have e1 : m x0 12 - (s0 : Int) = (l.length : Int) := by rw [hM.2.1, List.length_append]; omega
    have done := k1 l hW m hM hC hGC hF
    rw [← e1] at done
    exact b_Bench_put_19 x0 x1 lim mg s0 _ h kx m J P hp post ⟨by constructor <;> omega, fun _ => done, fun _ => ⟨zr0, fun _ => done, fun g => absurd (Int.le_refl _) g⟩⟩
  intro f
  induction f with
  | zero =>
    intro h st l m hW hlf hh hst hel hM hC hGC hS hh1 hh2 hF
    cases st with
    | nil =>
      have hW' : W = some l := by rw [← hW, pt]; simp
      exact fin h l m (by omega) hW' hM hC hGC hF
    | cons e st =>
      -- no more may be written
      have hW' : W = none := by rw [← hW]; rfl
      obtain ⟨a, w⟩ := e
      have ha : a < n := hel (a, w) List.mem_cons_self
      have e1 : ((st.length + 1 : Nat) : Int) + (-1) = (st.length : Int) := by omega
      have e2 : ((st.length : Nat) : Int).toNat = st.length := by omega
      have hx := zxor_m (c := a) (by omega)
      have h12 : m x0 12 - (s0 : Int) = (lim : Int) := by rw [hM.2.1, List.length_append]; omega
      have stop : ∀ (x7 x8 : Int), Rn X (d + 1) 61 84 [some (.ref x0), some (.int (iz x1)), some (.int (iz (lim : Int))), some (.int (iz mg)), some (.int (iz (s0 : Int))), some (.int (iz (st.length : Int))), some (.int (iz (h : Int))), some (.int (iz x7)), some (.int (iz x8)), none] [] (SS m J P) (QI post) := fun x7 x8 => b_Bench_put_84 x0 x1 lim mg s0 _ h x7 x8 kx m J P hp post ⟨by rw [h12]; constructor <;> omega, by constructor <;> omega, fun g => absurd g (by rw [h12]; omega), fun _ => k0 hW' m hC hF⟩
      rw [List.length_cons] at hst
      refine b_Bench_put_19 x0 x1 lim mg s0 _ h kx m J P hp post ⟨by constructor <;> omega, fun g => absurd g (by omega), fun _ => ⟨by rw [List.length_cons]; constructor <;> omega, fun g => absurd g (by rw [List.length_cons]; omega), fun _ => ⟨by rw [List.length_cons]; omega, ?_⟩⟩⟩
      rw [List.length_cons, e1, e2, hS.1]
      have ze : Zr (enc (a, w)) := by unfold enc; split <;> (constructor <;> (dsimp only; omega))
      exact ⟨ze, fun _ => ⟨ze, by rw [hh1]; exact zhv, fun _ => stop _ _, fun _ => stop _ _⟩, fun _ => stop _ _⟩
  | succ f ih =>
    intro h st l m hW hlf hh hst hel hM hC hGC hS hh1 hh2 hF
    cases st with
    | nil =>
      have hW' : W = some l := by rw [← hW, pt]; simp
      exact fin h l m (by omega) hW' hM hC hGC hF
    | cons e st =>
      obtain ⟨a, w⟩ := e
      have ha : a < n := hel (a, w) List.mem_cons_self
      have hel' : ∀ e, e ∈ st → e.1 < n := fun e he => hel e (List.mem_cons_of_mem _ he)
      have e1 : ((st.length + 1 : Nat) : Int) + (-1) = (st.length : Int) := by omega
      have e2 : ((st.length : Nat) : Int).toNat = st.length := by omega
      have e4 : ((h : Nat) : Int) + 1 = ((h + 1 : Nat) : Int) := by omega
      have hx := zxor_m (c := a) (by omega)
      have hlen : (made ++ l).length = s0 + l.length := by rw [List.length_append, hs0]
      have h12 : m x0 12 - (s0 : Int) = (l.length : Int) := by rw [hM.2.1, hlen]; omega
      rw [List.length_cons] at hst
      obtain ⟨hS1, hS2⟩ := hS
      rw [pt] at hW
      -- behind the choice of the cell
      have go : ∀ (c : Nat), c < n → c = (if w = false ∧ a = hole then patch else a) → Rn X (d + 1) 61 84 [some (.ref x0), some (.int (iz x1)), some (.int (iz (lim : Int))), some (.int (iz mg)), some (.int (iz (s0 : Int))), some (.int (iz (st.length : Int))), some (.int (iz (h : Int))), some (.int (iz (c : Int))), some (.int (iz (b2i w))), none] [] (SS m J P) (QI post) := by
        intro c hc ec
        rw [← ec] at hW
        obtain ⟨_, h4, hb1, hb2⟩ := hG.2.2 c hc
        have eN : ((c : Nat) : Int).toNat = c := by omega
        have hcd := (hGC c hc).1
        -- a SYMBOL is written, its ARGUMENTS wait
        have symb : ∀ (q : Nat) (w' : Bool) (m2 : Mi), q < n → 0 ≤ cd q → ((pt ay cd nx R (emc cd mg) hole patch f (kids nx q w' (ay (cd q)) ++ st)).map fun r => (l ++ [emc cd mg q w']) ++ r) = W → MD x0 m2 (made ++ l) → CI x0 R rt T B col m2 → GC x0 cd nx n m2 → STB x0 m2 st → m2 x0 13 = hv → m2 x0 14 = pv → ptF x0 m0 m2 → Ci X d 63 [.int (iz (cd q)), .int (iz (b2i w')), .int (iz mg)] m2 J P (fun z9 m6 J7 P8 => PP P8 ∧ Cv X d 62 [.ref x0, .int (iz z9)] m6 J7 P8 (fun m11 J12 P13 => PP P13 ∧ Ci X d 64 [.ref x0, .int (iz (q : Int)), .int (iz (b2i w')), .int (iz (st.length : Int))] m11 J12 P13 (fun z19 m16 J17 P18 => PP P18 ∧ Rn X (d + 1) 61 19 [some (.ref x0), some (.int (iz x1)), some (.int (iz (lim : Int))), some (.int (iz mg)), some (.int (iz (s0 : Int))), some (.int (iz z19)), some (.int (iz ((h : Int) + 1))), none, none, none] [] (SS m16 J17 P18) (QI post)))) := by
          intro q w' m2 hq hq0 hW2 hM2 hC2 hGC2 hS2' g1 g2 hF2
          have hqb := (hG.2.2 q hq).2.2.2
          have hq4 := (hG.2.2 q hq).2.1
          refine c_marked hp ⟨hq0, hqb⟩ hmg ⟨hp, ?_⟩
          refine c_bwrite hp kx hM2 (by rw [hlen]; omega) (fun m3 w1 w2 => ⟨hp, ?_⟩)
          have hGC3 : GC x0 cd nx n m3 := GC_fr hGC2 (fun k => w2 _ _ (by omega) (by omega)) (fun k => w2 _ _ (by omega) (by omega))
          have hS3 : STB x0 m3 st := STB_fr hS2' fun k _ => w2 _ _ (by omega) (by omega)
          refine c_pushParts hp kx hG hGC3 hq hS3 (by omega) (fun m4 v1 v2 => ⟨hp, ?_⟩)
          rw [e4]
          rw [List.append_assoc] at w1
          refine ih (h + 1) _ (l ++ [emc cd mg q w']) m4 hW2 (by rw [List.length_append, List.length_singleton]; omega) (by omega) (by rw [List.length_append, kids_len]; omega) (fun e he => ?_) (MD_fr w1 (v2 _ _ (by omega)) (fun k => v2 _ _ (by omega))) (CI_fr hC2 ((v2 _ _ (by omega)).trans (w2 _ _ (by omega) (by omega))) (fun a k _ _ => (v2 _ _ (by omega)).trans (w2 _ _ (by omega) (by omega)))) (GC_fr hGC3 (fun k => v2 _ _ (by omega)) (fun k => v2 _ _ (by omega))) v1 ((v2 _ _ (by omega)).trans ((w2 _ _ (by omega) (by omega)).trans g1)) ((v2 _ _ (by omega)).trans ((w2 _ _ (by omega) (by omega)).trans g2)) (ptF_trans hF2 fun b k q1 q2 => (v2 b k (by omega)).trans (w2 b k (by omega) q2))
          rcases List.mem_append.mp he with he | he
          · obtain ⟨i, hi, e⟩ := List.mem_iff_getElem.mp he
            rw [kids_get] at e
            rw [kids_len] at hi
            rw [← e]
            exact (G_kid hG hq hi).2.1
          · exact hel' e he
        refine b_Bench_put_84 x0 x1 lim mg s0 _ h c _ kx m J P hp post ⟨by rw [h12]; constructor <;> omega, by constructor <;> omega, fun _ => ⟨by omega, ?_⟩, fun g => absurd (by rw [h12]; omega) g⟩
        rw [eN, hcd]
        refine ⟨by constructor <;> omega, fun g0 => ⟨by omega, ?_⟩, fun g0 => ?_⟩
        · rw [if_neg (by omega)] at hW
          refine symb c w m hc g0 ?_ hM hC hGC hS2 hh1 hh2 hF
          rw [← hW]
          cases pt ay cd nx R (emc cd mg) hole patch f (kids nx c w (ay (cd c)) ++ st) <;> simp
        · rw [if_pos (by omega)] at hW
          have hv := vp_pt hG hc
          have hl := (vp_lt hG hv).1
          have hq := hU _ hv
          refine c_classOf hp kx hG hGC hC (by omega) hc (fun m2 w1 w2 w3 w4 => ⟨hp, ?_⟩)
          have hGC2 : GC x0 cd nx n m2 := GC_fr hGC (fun k => w4 _ _ (by omega)) (fun k => w4 _ _ (by omega))
          obtain ⟨⟨b1, b2, _⟩, _, _, b5, b6, b7⟩ := w1.2.1 _ hl
          rw [vhr_t w2] at b5
          have er : ((rt (ptc cd c) : Nat) : Int).toNat = rt (ptc cd c) := by omega
          have hM2 : MD x0 m2 (made ++ l) := MD_fr hM (w4 _ _ (by omega)) (fun k => w4 _ _ (by omega))
          have hS3 : STB x0 m2 st := STB_fr hS2 fun k _ => w4 _ _ (by omega)
          have hF2 : ptF x0 m0 m2 := ptF_trans hF fun b k q1 q2 => w4 b k (by omega)
          rw [er, b5]
          by_cases q8 : R (ptc cd c) < 880
          · rw [if_neg (by omega)] at hW
            rw [if_pos q8]
            have nq := (vp_lt hG hq.1).2 q8
            have eq' : ((R (ptc cd c) : Nat) : Int).toNat = R (ptc cd c) := by omega
            refine ⟨by omega, by constructor <;> omega, fun _ => ⟨by omega, by omega, ?_⟩, fun g => absurd (by omega) g⟩
            rw [eq', (hGC2 _ nq.1).1]
            refine symb (R (ptc cd c)) true m2 nq.1 nq.2 ?_ hM2 w1 hGC2 hS3 ((w4 _ _ (by omega)).trans hh1) ((w4 _ _ (by omega)).trans hh2) hF2
            rw [← hW]
            cases pt ay cd nx R (emc cd mg) hole patch f (kids nx (R (ptc cd c)) true (ay (cd (R (ptc cd c)))) ++ st) <;> simp
          · rw [if_pos (by omega)] at hW
            rw [if_neg q8]
            refine ⟨by omega, zrm, fun g => absurd rfl g, fun _ => ?_⟩
            rw [b6 (by omega)]
            refine c_bwrite hp kx hM2 (by rw [hlen]; omega) (fun m3 v1 v2 => ⟨hp, ?_⟩)
            rw [e4]
            rw [List.append_assoc] at v1
            refine ih (h + 1) st (l ++ [879 - (R (ptc cd c) : Int)]) m3 ?_ (by rw [List.length_append, List.length_singleton]; omega) (by omega) (by omega) hel' v1 (CI_fr w1 (v2 _ _ (by omega) (by omega)) (fun a k _ _ => v2 _ _ (by omega) (by omega))) (GC_fr hGC2 (fun k => v2 _ _ (by omega) (by omega)) (fun k => v2 _ _ (by omega) (by omega))) (STB_fr hS3 fun k _ => v2 _ _ (by omega) (by omega)) ((v2 _ _ (by omega) (by omega)).trans ((w4 _ _ (by omega)).trans hh1)) ((v2 _ _ (by omega) (by omega)).trans ((w4 _ _ (by omega)).trans hh2)) (ptF_trans hF2 fun b k q1 q2 => v2 b k (by omega) q2)
            rw [← hW]
            cases pt ay cd nx R (emc cd mg) hole patch f st <;> simp
      refine b_Bench_put_19 x0 x1 lim mg s0 _ h kx m J P hp post ⟨by constructor <;> omega, fun g => absurd g (by omega), fun _ => ⟨by rw [List.length_cons]; constructor <;> omega, fun g => absurd g (by rw [List.length_cons]; omega), fun _ => ⟨by rw [List.length_cons]; omega, ?_⟩⟩⟩
      rw [List.length_cons, e1, e2, hS1, hh1, hh2]
      cases w with
      | true =>
        have ee : enc (a, true) = -1 - (a : Int) := rfl
        rw [ee, hx.2]
        exact ⟨by constructor <;> omega, fun g => absurd g (by omega), fun _ => go a ha (if_neg (fun g => by cases g.1)).symm⟩
      | false =>
        have ee : enc (a, false) = (a : Int) := rfl
        rw [ee]
        refine ⟨by constructor <;> omega, fun _ => ⟨by constructor <;> omega, zhv, fun g => ?_, fun g => ?_⟩, fun g => absurd (by omega) g⟩
        · exact go a ha (if_neg (fun q => g ((hhole a ha).mpr q.2))).symm
        · have ea := (hhole a ha).mp (Classical.not_not.mp g)
          obtain ⟨p1, p2⟩ := hpatch (by omega)
          rw [p2]
          exact go patch p1 (if_pos ⟨rfl, ea⟩).symm
/-- put() -/
theorem c_put {a0 hole patch lim : Nat} {hv pv mg : Int} (hp : PP P) (kx : am_kd an_K x0 = some (.inl 4)) (hG : Gok ay cd nx n) (hU : UIv cd n R) (hB : B ≤ 1000) (hmg : mg = 0 ∨ mg = 1 ∨ mg = 2) (hhole : ∀ a, a < n → ((a : Int) = hv ↔ a = hole)) (zhv : Zr hv) (hpatch : hole < n → patch < n ∧ pv = (patch : Int)) {made : List Int} (hlim : made.length + lim ≤ 800) (hl200 : lim ≤ 200) (ha : a0 < n) (hM : MD x0 m made) (hC : CI x0 R rt T B col m) (hGC : GC x0 cd nx n m) (hh1 : m x0 13 = hv) (hh2 : m x0 14 = pv) {post : Int → Mi → Mj → Mp → Prop} (k1 : ∀ l, pt ay cd nx R (emc cd mg) hole patch lim [(a0, false)] = some l → ∀ m', MD x0 m' (made ++ l) → CI x0 R rt T B col m' → GC x0 cd nx n m' → ptF x0 m m' → post (l.length : Nat) m' J P) (k0 : pt ay cd nx R (emc cd mg) hole patch lim [(a0, false)] = none → ∀ m', CI x0 R rt T B col m' → ptF x0 m m' → post (-1) m' J P) : Ci X (d + 1) 61 [.ref x0, .int (iz (a0 : Int)), .int (iz (lim : Int)), .int (iz mg)] m J P post := by
  refine Ci.of rfl rfl rfl (b_Bench_put_0 x0 a0 lim mg kx m J P hp post ⟨by decide, ?_⟩)
  rw [hM.2.1]
  have F1 : ptF x0 m (mu m (x0 + 7) (0 : Int).toNat (a0 : Int)) := fun b k g1 g2 => mu_ne _ _ (by omega)
  have := c_put_19 (X := X) (d := d) (J := J) (x1 := (a0 : Int)) (s0 := made.length) (m0 := m) (made := made) (post := post) (W := pt ay cd nx R (emc cd mg) hole patch lim [(a0, false)]) hp kx hG hU hB hmg hhole zhv hpatch hlim hl200 k1 k0 rfl lim 0 [(a0, false)] [] (mu m (x0 + 7) (0 : Int).toNat (a0 : Int)) (by simp) (by simp) (by omega) (by simp) (fun e he => by rw [List.mem_singleton.mp he]; exact ha) (by rw [List.append_nil]; exact MD_fr hM (mu_ne _ _ (by omega)) (fun k => mu_ne _ _ (by omega))) (CI_fr hC (mu_ne _ _ (by omega)) (fun a k _ _ => mu_ne _ _ (by omega))) (GC_fr hGC (fun k => mu_ne _ _ (by omega)) (fun k => mu_ne _ _ (by omega))) ⟨mu_at _ _ _ _, trivial⟩ ((mu_ne _ _ (by omega)).trans hh1) ((mu_ne _ _ (by omega)).trans hh2) F1
  exact this
end CPT
