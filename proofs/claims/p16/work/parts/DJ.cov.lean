/-! covers(), on both sides -/
section COV
variable {X : aX} {d x y : Nat} {P : Mp} {J : Mj} {m m' m0 : Mi} {ar : Nat → Int} {sc G mg b g N : Nat} {ay : Int → Nat}
/-- whether a list comes of another by putting something into VARIABLES; what is bound: [] is not -/
def cvr (ay : Int → Nat) : List Int → List Int → (Nat → List Int) → Option (List Int × (Nat → List Int))
  | [], lb, σ => some (lb, σ)
  | c :: la, lb, σ =>
    if c < 0 then
      if σ (-1 - c).toNat = [] then cvr ay la (lb.drop (tk ay lb 1)) (fun w => if w = (-1 - c).toNat then lb.take (tk ay lb 1) else σ w)
      else if σ (-1 - c).toNat = lb.take (tk ay lb 1) then cvr ay la (lb.drop (tk ay lb 1)) σ else none
    else if lb.head? = some c then cvr ay la lb.tail σ else none
theorem cvr_v {c : Int} {la t z : List Int} {σ : Nat → List Int} (hc : c < 0) (ht : ctt ay t = some 1) : cvr ay (c :: la) (t ++ z) σ = if σ (-1 - c).toNat = [] then cvr ay la z (fun w => if w = (-1 - c).toNat then t else σ w) else if σ (-1 - c).toNat = t then cvr ay la z σ else none := by
  have h1 : tk ay (t ++ z) 1 = t.length := tk_ct ht
  show (if c < 0 then _ else _) = _
  rw [if_pos hc, h1, List.drop_left, List.take_left]
theorem cvr_s {c e : Int} {la lb : List Int} {σ : Nat → List Int} (hc : ¬ c < 0) : cvr ay (c :: la) (e :: lb) σ = if e = c then cvr ay la lb σ else none := by
  show (if c < 0 then _ else _) = _
  rw [if_neg hc]
  simp only [List.head?_cons, List.tail_cons, Option.some.injEq]
theorem cvr_c {c : Int} {la lb : List Int} {σ : Nat → List Int} : cvr ay (c :: la) lb σ = if c < 0 then (if σ (-1 - c).toNat = [] then cvr ay la (lb.drop (tk ay lb 1)) (fun w => if w = (-1 - c).toNat then lb.take (tk ay lb 1) else σ w) else if σ (-1 - c).toNat = lb.take (tk ay lb 1) then cvr ay la (lb.drop (tk ay lb 1)) σ else none) else if lb.head? = some c then cvr ay la lb.tail σ else none := rfl
theorem cvr_app {l2 : List Int} : ∀ {l1 lb : List Int} {σ : Nat → List Int}, cvr ay (l1 ++ l2) lb σ = match cvr ay l1 lb σ with
    | none => none
    | some r => cvr ay l2 r.1 r.2
  | [], _, _ => rfl
  | c :: l1, lb, σ => by
    rw [List.cons_append, cvr_c, cvr_c]
    split
    · split
      · exact cvr_app
      · split
        · exact cvr_app
        · rfl
    · split
      · exact cvr_app
      · rfl
/-- what is left over -/
theorem cvr_rest (hv : ∀ c, c < 0 → ay c = 0) : ∀ {la u z : List Int} {σ : Nat → List Int} {k : Nat} {r : List Int × (Nat → List Int)}, ctt ay la = some k → ctt ay u = some k → cvr ay la (u ++ z) σ = some r → r.1 = z
  | [], u, z, σ, k, r, h1, h2, h => by
    have hk := ct_nil.mp h1
    subst hk
    have hu := ct_zero h2
    subst hu
    have : r = (z, σ) := (Option.some.inj h).symm
    rw [this]
  | c :: la, u, z, σ, k, r, h1, h2, h => by
    obtain ⟨j, j1, j2, j3⟩ := ct_cons.mp h1
    by_cases hc : c < 0
    · rw [hv c hc] at j2 j3
      have hk : k = 1 + j := by omega
      rw [hk] at h2
      obtain ⟨t, u', e, t1, t2⟩ := ct_split h2
      rw [e, List.append_assoc, cvr_v hc t1] at h
      split at h
      · exact cvr_rest hv j1 t2 h
      · split at h
        · exact cvr_rest hv j1 t2 h
        · cases h
    · match u, h2 with
      | [], h2 => have := ct_nil.mp h2; omega
      | e :: u', h2 =>
        rw [List.cons_append, cvr_s hc] at h
        split at h
        · rename_i ee
          subst ee
          obtain ⟨j', i1, i2, i3⟩ := ct_cons.mp h2
          have : j' = j := by omega
          rw [this] at i1
          exact cvr_rest hv j1 i1 h
        · cases h
/-- two TERMS that begin at one place are the same -/
theorem ro_pf {xr p : Nat} {s t : List Int} (h1 : Ro m xr p s) (h2 : Ro m xr p t) (c1 : ctt ay s = some 1) (c2 : ctt ay t = some 1) : s = t := by
  rcases Nat.le_total s.length t.length with h | h
  · have e1 : t = t.take s.length ++ t.drop s.length := (List.take_append_drop _ _).symm
    have e2 : s = t.take s.length := by
      refine Ro_inj h1 ?_ (by rw [List.length_take]; omega)
      rw [e1] at h2
      exact (Ro_app.mp h2).1
    rw [← e2] at e1
    exact (ct_pf (r := t.drop s.length) (s := []) c1 c2 (by rw [List.append_nil]; exact e1.symm)).1
  · have e1 : s = s.take t.length ++ s.drop t.length := (List.take_append_drop _ _).symm
    have e2 : t = s.take t.length := by
      refine Ro_inj h2 ?_ (by rw [List.length_take]; omega)
      rw [e1] at h1
      exact (Ro_app.mp h1).1
    rw [← e2] at e1
    exact (ct_pf (r := s.drop t.length) (s := []) c2 c1 (by rw [List.append_nil]; exact e1.symm)).1.symm
/-- isSame() of the class's TREE -/
theorem c_tSame {p q : Nat} {s t : List Int} (hp : PP P) (h1 : Ro m 45 p s) (h2 : Ro m 45 q t) (c1 : ctt ay s = some 1) (c2 : ctt ay t = some 1) (b1 : p + s.length ≤ 30000) (b2 : q + t.length ≤ 30000) (gt : ∀ c, c ∈ t → -10000 ≤ c ∧ c < 100) (gs : ∀ c, c ∈ s → -10000 ≤ c ∧ c < 100) {post : Int → Mi → Mj → Mp → Prop} (k1 : s = t → post 1 m J P) (k0 : s ≠ t → post 0 m J P) : Ci X d 124 [.ref 38, .int (iz (p : Int)), .int (iz (q : Int)), .int (iz ((q + t.length : Nat) : Int))] m J P post := by
  refine Ci.of rfl rfl rfl (b_Tree_isSame_0 (p : Int) (q : Int) ((q + t.length : Nat) : Int) m J P hp post ?_)
  have loop : ∀ (r k : Nat), k + r = t.length → (∀ i, i < k → m 45 (p + i) = cl t i) → Rn X d 124 3 [some (.ref 38), some (.int (iz (p : Int))), some (.int (iz (q : Int))), some (.int (iz ((q + t.length : Nat) : Int))), some (.int (iz (k : Int)))] [] (SS m J P) (QI post) := by
    intro r
    induction r with
    | zero =>
      intro k hk h
      refine b_Tree_isSame_3 (p : Int) (q : Int) _ (k : Int) m J P hp post ⟨by constructor <;> omega, by constructor <;> omega, fun _ => k1 ?_, fun g => absurd (by omega) g⟩
      exact ro_pf h1 (Ro_of fun i hi => by rw [h i (by omega), cl_get hi]) c1 c2
    | succ r ih =>
      intro k hk h
      have hkl : k < t.length := by omega
      refine b_Tree_isSame_3 (p : Int) (q : Int) _ (k : Int) m J P hp post ⟨by constructor <;> omega, by constructor <;> omega, fun g => absurd g (by omega), fun _ => ⟨by constructor <;> omega, fun g => ?_, fun g => ?_⟩⟩
      · have e1 : Ro m 45 p (t.take k) := Ro_of fun i hi => by
          rw [List.length_take] at hi
          rw [h i (by omega), List.getElem_take, cl_get (by omega)]
        have e2 : s.length ≤ k := by omega
        have e3 : (t.take k) = s ++ (t.take k).drop s.length := by
          have e4 : t.take k = (t.take k).take s.length ++ (t.take k).drop s.length := (List.take_append_drop _ _).symm
          have e5 : s = (t.take k).take s.length := by
            refine Ro_inj h1 ?_ (by rw [List.length_take, List.length_take]; omega)
            rw [e4] at e1
            exact (Ro_app.mp e1).1
          rw [← e5] at e4
          exact e4
        have e6 : t = s ++ ((t.take k).drop s.length ++ t.drop k) := by
          rw [← List.append_assoc, ← e3, List.take_append_drop]
        have := (ct_pf (r := (t.take k).drop s.length ++ t.drop k) (s := []) c1 c2 (by rw [List.append_nil]; exact e6.symm)).1
        exact k1 this
      · have e1 : m 45 (q + k) = cl t k := by rw [Ro_get h2 hkl, cl_get hkl]
        have hin := gt _ (cl_mem hkl)
        rw [show ((p : Int) + (k : Int)).toNat = p + k by omega, show ((q : Int) + (k : Int)).toNat = q + k by omega, e1]
        have zz : Zr (m 45 (p + k)) ∨ s.length ≤ k := by
          by_cases hs : k < s.length
          · left
            rw [Ro_get h1 hs]
            have := gs _ (List.getElem_mem hs)
            constructor <;> omega
          · right; omega
        rcases zz with zz | zz
        · refine ⟨by omega, by omega, zz, by constructor <;> omega, fun he => ?_, fun hne => k0 fun e => hne ?_⟩
          · rw [show (k : Int) + 1 = ((k + 1 : Nat) : Int) by omega]
            refine ih (k + 1) (by omega) fun i hi => ?_
            by_cases hik : i = k
            · rw [hik]; exact he
            · exact h i (by omega)
          · subst e
            rw [Ro_get h1 hkl, cl_get hkl]
        · exfalso
          have e1 : Ro m 45 p (t.take k) := Ro_of fun i hi => by
            rw [List.length_take] at hi
            rw [h i (by omega), List.getElem_take, cl_get (by omega)]
          have e4 : t.take k = (t.take k).take s.length ++ (t.take k).drop s.length := (List.take_append_drop _ _).symm
          have e5 : s = (t.take k).take s.length := by
            refine Ro_inj h1 ?_ (by rw [List.length_take, List.length_take]; omega)
            rw [e4] at e1
            exact (Ro_app.mp e1).1
          rw [← e5] at e4
          have e6 : t = s ++ ((t.take k).drop s.length ++ t.drop k) := by
            rw [← List.append_assoc, ← e4, List.take_append_drop]
          have := (ct_pf (r := (t.take k).drop s.length ++ t.drop k) (s := []) c1 c2 (by rw [List.append_nil]; exact e6.symm)).1
          rw [this] at zz
          omega
  exact loop t.length 0 (by omega) fun i hi => absurd hi (Nat.not_lt_zero _)
/-- what is bound, in the class -/
def BW (ay : Int → Nat) (sc : Nat) (σ : Nat → List Int) (m : Mi) : Prop := ∀ v, v < 800 → (σ v = [] → m 49 v = -1) ∧ (σ v ≠ [] → (ctt ay (σ v) = some 1 ∧ ∀ c, c ∈ σ v → gq sc c) ∧ ∃ p : Nat, m 49 v = (p : Int) ∧ p + (σ v).length ≤ 30000 ∧ Ro m 45 p (σ v))
/-- the walk of matches() -/
theorem c_mat56 {x1 x2 : Int} (hp : PP P) (hb : b = 54 ∨ b = 155) (har : arK sc ar) {E : Nat} (hE : E ≤ 30000) {post : Int → Mi → Mj → Mp → Prop} (hA0 : BA b sc ar m0) {W : Bool} : ∀ (la lb : List Int) (σ : Nat → List Int) (pa pb k : Nat) (m : Mi), (cvr (ayw ar) la lb σ).isSome = W → ctt (ayw ar) la = some k → ctt (ayw ar) lb = some k → (∀ c, c ∈ la → gq sc c) → (∀ c, c ∈ lb → gq sc c) → pa + la.length = E → pb + lb.length ≤ 30000 → Ro m 45 pa la → Ro m 45 pb lb → BW (ayw ar) sc σ m → (∀ a k, a ≠ 49 → m a k = m0 a k) → (W = true → ∀ m', (∀ a k, a ≠ 49 → m' a k = m0 a k) → post 1 m' J P) → (W = false → ∀ m', (∀ a k, a ≠ 49 → m' a k = m0 a k) → post 0 m' J P) → Rn X (d + 3) 123 56 [some (.ref 38), some (.int (iz x1)), some (.int (iz x2)), some (.ref b), some (.int (iz (E : Int))), some (.int (iz (pb : Int))), some (.int (iz (pa : Int))), none, none, none] [] (SS m J P) (QI post) := by
  have kb := kd_book hb
  have hs := har.1
  have kS : am_kd an_K 45 = some (.inr (0, 30000)) := by decide +kernel
  have hv0 : ∀ c, c < 0 → ayw ar c = 0 := fun c hc => by unfold ayw; rw [if_pos hc]
  intro la
  induction la with
  | nil =>
    intro lb σ pa pb k m hW h1 h2 g1 g2 hpa hpb r1 r2 hB hF kt kf
    have hW' : W = true := hW.symm
    refine b_Tree_matches_56 x1 x2 b (E : Int) (pb : Int) (pa : Int) kb m J P hp post ⟨by constructor <;> omega, by constructor <;> omega, fun _ => kt hW' m hF, fun g => absurd (by simp only [List.length_nil] at hpa; omega) g⟩
  | cons c la ih =>
    intro lb σ pa pb k m hW h1 h2 g1 g2 hpa hpb r1 r2 hB hF kt kf
    rw [List.length_cons] at hpa
    obtain ⟨j, j1, j2, j3⟩ := ct_cons.mp h1
    have hc := g1 c List.mem_cons_self
    have r1' : m 45 pa = c ∧ Ro m 45 (pa + 1) la := r1
    have hlb : 0 < lb.length := ct_ne (k := k - 1) (by rw [h2]; congr 1; omega)
    refine b_Tree_matches_56 x1 x2 b (E : Int) (pb : Int) (pa : Int) kb m J P hp post ?_
    rw [Int.toNat_natCast, r1'.1]
    unfold gq at hc
    refine ⟨by constructor <;> omega, by constructor <;> omega, fun g => absurd g (by omega), fun _ => ⟨by constructor <;> omega, fun g => absurd g (by omega), fun _ => ⟨by omega, by constructor <;> omega, fun hn => ?_, fun hn => ?_⟩⟩⟩
    · rw [hv0 c hn] at j2 j3
      rw [show k = 1 + j by omega] at h2
      obtain ⟨t, z, e, t1, t2⟩ := ct_split h2
      subst e
      obtain ⟨r3, r4⟩ := Ro_app.mp r2
      have gt : ∀ c, c ∈ t → gq sc c := fun c h => g2 c (List.mem_append_left _ h)
      have gz : ∀ c, c ∈ z → gq sc c := fun c h => g2 c (List.mem_append_right _ h)
      rw [List.length_append] at hpb
      have n1 := ct_ne t1
      have hv8 : (-1 - c).toNat < 800 := by omega
      have A1 : BA b sc ar m := BA_fr hA0 hs fun k _ => hF _ _ (by omega)
      refine c_behind (d := d + 1) (x := 45) (nx := 30000) (f := pb) (w := t) (sc := sc) (ar := ar) hp kb A1 hs kS (by omega) (by omega) gt t1 (Ro_RC r3 fun c hc => by have := (gt c hc).2; omega) ⟨hp, by omega, ?_⟩
      rw [cvr_v hn t1] at hW
      have bw := hB _ hv8
      have epa : (pa : Int) + 1 = ((pa + 1 : Nat) : Int) := by omega
      by_cases hσ : σ (-1 - c).toNat = []
      · rw [if_pos hσ] at hW
        rw [bw.1 hσ]
        refine ⟨zrm, fun g => absurd rfl g, fun _ => ⟨by omega, ?_⟩⟩
        rw [epa]
        have nF : ∀ a k, ¬ (a = 49 ∧ k = (-1 - c).toNat) → mu m 49 (-1 - c).toNat (pb : Int) a k = m a k := fun a k h => mu_ne _ _ h
        refine ih z _ (pa + 1) (pb + t.length) j _ hW j1 t2 (fun c h => g1 c (List.mem_cons_of_mem _ h)) gz (by omega) (by omega) (Ro_fr r1'.2 fun k _ _ => nF _ _ (by omega)) (Ro_fr r4 fun k _ _ => nF _ _ (by omega)) (fun v hv => ?_) (fun a k h => (nF a k (fun g => h g.1)).trans (hF a k h)) kt kf
        by_cases hvv : v = (-1 - c).toNat
        · refine ⟨fun q => ?_, fun _ => ?_⟩
          · rw [if_pos hvv] at q
            rw [q] at n1
            exact absurd n1 (by simp)
          · rw [if_pos hvv]
            exact ⟨⟨t1, gt⟩, pb, by rw [hvv, mu_at], by omega, Ro_fr r3 fun k _ _ => nF _ _ (by omega)⟩
        · have := hB v hv
          rw [if_neg hvv, nF _ _ (fun g => hvv g.2)]
          exact ⟨this.1, fun q => ⟨(this.2 q).1, by obtain ⟨p, p1, p2, p3⟩ := (this.2 q).2; exact ⟨p, p1, p2, Ro_fr p3 fun k _ _ => nF _ _ (by omega)⟩⟩⟩
      · rw [if_neg hσ] at hW
        obtain ⟨⟨s1, s2⟩, p, p1, p2, p3⟩ := bw.2 hσ
        rw [p1]
        refine ⟨by constructor <;> omega, fun _ => ⟨by omega, ?_⟩, fun g => absurd (by omega) g⟩
        refine c_tSame (d := d + 2) (ay := ayw ar) (s := σ (-1 - c).toNat) (t := t) hp p3 r3 s1 t1 p2 (by omega) (fun c hc => by have := gt c hc; unfold gq at this; omega) (fun c hc => by have := s2 c hc; unfold gq at this; omega) (fun he => ⟨hp, zr1, fun _ => ?_, fun g => absurd (by omega) g⟩) (fun hne => ⟨hp, zr0, fun g => absurd rfl g, fun _ => ?_⟩)
        · rw [if_pos he] at hW
          rw [epa]
          exact ih z σ (pa + 1) (pb + t.length) j m hW j1 t2 (fun c h => g1 c (List.mem_cons_of_mem _ h)) gz (by omega) (by omega) r1'.2 r4 hB hF kt kf
        · rw [if_neg hne] at hW
          exact kf hW.symm m hF
    · cases lb with
      | nil => exact absurd hlb (Nat.lt_irrefl _)
      | cons e lb =>
        have r2' : m 45 pb = e ∧ Ro m 45 (pb + 1) lb := r2
        have he := g2 e List.mem_cons_self
        unfold gq at he
        rw [List.length_cons] at hpb
        rw [Int.toNat_natCast, r2'.1]
        rw [cvr_s hn] at hW
        refine ⟨by omega, by constructor <;> omega, by constructor <;> omega, fun hee => ?_, fun hne => ?_⟩
        · rw [if_pos hee] at hW
          subst hee
          obtain ⟨j', i1, i2, i3⟩ := ct_cons.mp h2
          have : j' = j := by omega
          rw [this] at i1
          rw [show (pa : Int) + 1 = ((pa + 1 : Nat) : Int) by omega, show (pb : Int) + 1 = ((pb + 1 : Nat) : Int) by omega]
          exact ih lb σ (pa + 1) (pb + 1) j m hW j1 i1 (fun c h => g1 c (List.mem_cons_of_mem _ h)) (fun c h => g2 c (List.mem_cons_of_mem _ h)) (by omega) (by omega) r1'.2 r2'.2 hB hF kt kf
        · rw [if_neg hne] at hW
          exact kf hW.symm m hF
/-- whether ANSWER b's VALUES come of ANSWER a's -/
def tCov (ay : Int → Nat) (va vb : List (List Int)) : Bool := (cvr ay va.flatten vb.flatten fun _ => []).isSome
theorem c_matches {ka kb' : Nat} {a a' : An} (hp : PP P) (hb : b = 54 ∨ b = 155) (har : arK sc ar) (hA : BA b sc ar m) (hg : P 38 2 = some g) (hgo : g = 39 ∨ g = 256) (hgv : m g 7 = (G : Int)) (hk : ka < 300) (hk' : kb' < 300) (ha : ACm ka a m) (ha' : ACm kb' a' m) (hV : AV sc ar G 30000 a) (hV' : AV sc ar G 30000 a') {post : Int → Mi → Mj → Mp → Prop} (k : ∀ m', (∀ a k, a ≠ 49 → m' a k = m a k) → post (i2b (tCov (ayw ar) a.2.2 a'.2.2)) m' J P) : Ci X (d + 4) 123 [.ref 38, .int (iz (ka : Int)), .int (iz (kb' : Int)), .ref b] m J P post := by
  have kb := kd_book hb
  have kg := (SP_kd hgo).1
  have hs := har.1
  refine Ci.of rfl rfl rfl (b_Tree_matches_0 (d := d + 1) (ka : Int) (kb' : Int) b kb m J P hp post ?_)
  have loop : ∀ (q v : Nat) (m1 : Mi), v + q = 800 → (∀ u, u < v → m1 49 u = -1) → (∀ a k, a ≠ 49 → m1 a k = m a k) → Rn X (d + 4) 123 3 [some (.ref 38), some (.int (iz (ka : Int))), some (.int (iz (kb' : Int))), some (.ref b), some (.int (iz (v : Int))), none, none, none, none, none] [] (SS m1 J P) (QI post) := by
    intro q
    induction q with
    | zero =>
      intro v m1 hv h1 hF
      have A1 : BA b sc ar m1 := BA_fr hA hs fun k _ => hF _ _ (by omega)
      have c1 : ACm ka a m1 := ACm_fr ha (hF _ _ (by omega)) (hF _ _ (by omega)) fun k _ _ => hF _ _ (by omega)
      have c2 : ACm kb' a' m1 := ACm_fr ha' (hF _ _ (by omega)) (hF _ _ (by omega)) fun k _ _ => hF _ _ (by omega)
      refine b_Tree_matches_3 (d := d + 1) (ka : Int) (kb' : Int) b (v : Int) kb m1 J P hp post ⟨by constructor <;> omega, fun _ => ⟨g, hg, kg, ?_⟩, fun g => absurd (by omega) g⟩
      rw [show m1 g 7 = (G : Int) from (hF _ _ (by omega)).trans hgv]
      refine c_valueStart (d := d + 1) (S := ([], [], 0, 0, 0, false)) (a := a) (G := G) hp hb hs A1 hk c1 hV (by rw [hV.1]; exact Nat.le_refl _) ⟨hp, by omega, by omega, ?_⟩
      rw [Int.toNat_natCast, Int.toNat_natCast, c1.2.1, c2.2.1, show (a.2.2.take G) = a.2.2 from List.take_of_length_le (by rw [hV.1]; exact Nat.le_refl _)]
      have ct1 := flat_ct (ay := ayw ar) (vs := a.2.2) fun w hw => (hV.2.1 w hw).1
      have ct2 := flat_ct (ay := ayw ar) (vs := a'.2.2) fun w hw => (hV'.2.1 w hw).1
      rw [hV.1] at ct1
      rw [hV'.1] at ct2
      have mem1 : ∀ c, c ∈ a.2.2.flatten → gq sc c := fun c hc => by
        obtain ⟨w, hw, hcw⟩ := List.mem_flatten.mp hc
        exact (hV.2.1 w hw).2.2 c hcw
      have mem2 : ∀ c, c ∈ a'.2.2.flatten → gq sc c := fun c hc => by
        obtain ⟨w, hw, hcw⟩ := List.mem_flatten.mp hc
        exact (hV'.2.1 w hw).2.2 c hcw
      refine c_mat56 (d := d + 1) (m0 := m1) hp hb har (E := a.2.1 + a.2.2.flatten.length) hV.2.2.1 A1 (W := tCov (ayw ar) a.2.2 a'.2.2) a.2.2.flatten a'.2.2.flatten (fun _ => []) a.2.1 a'.2.1 G m1 rfl ct1 ct2 mem1 mem2 rfl hV'.2.2.1 c1.2.2 c2.2.2 (fun v hv => ⟨fun _ => h1 v (by omega), fun q => absurd rfl q⟩) (fun _ _ _ => rfl) (fun hW m' hF' => ?_) (fun hW m' hF' => ?_)
      · have := k m' fun a k h => (hF' a k h).trans (hF a k h)
        rw [hW] at this
        exact this
      · have := k m' fun a k h => (hF' a k h).trans (hF a k h)
        rw [hW] at this
        exact this
    | succ q ih =>
      intro v m1 hv h1 hF
      refine b_Tree_matches_3 (d := d + 1) (ka : Int) (kb' : Int) b (v : Int) kb m1 J P hp post ⟨by constructor <;> omega, fun g => absurd g (by omega), fun _ => ⟨by omega, ?_⟩⟩
      rw [Int.toNat_natCast, show (v : Int) + 1 = ((v + 1 : Nat) : Int) by omega]
      refine ih (v + 1) _ (by omega) (fun u hu => ?_) fun a k h => (mu_a _ h).trans (hF a k h)
      by_cases huv : u = v
      · subst huv
        rw [mu_at]
      · rw [mu_ne _ _ (by omega)]
        exact h1 u (by omega)
  exact loop 800 0 m (by omega) (fun u hu => absurd hu (Nat.not_lt_zero _)) fun _ _ _ => rfl
end COV
