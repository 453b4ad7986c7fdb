/-! the reference: endOf(), matches(), ruleAt() -/
section RMT
variable {X : aX} {d : Nat} {P : Mp} {J : Mj} {m : Mi} {sc N : Nat} {ar : Nat → Int} {Lf Rf : Nat → List Int} {x : Nat}
/-- the ARITIES as the reference holds them -/
def RAr (sc : Nat) (ar : Nat → Int) (m : Mi) : Prop := sc ≤ 16 ∧ ∀ i : Nat, i < sc → m 280 i = ar i ∧ 0 ≤ ar i ∧ ar i ≤ 4
theorem RAr_fr {m' : Mi} (h : RAr sc ar m) (f : ∀ k, m' 280 k = m 280 k) : RAr sc ar m' := ⟨h.1, fun i hi => by rw [f]; exact h.2 i hi⟩
theorem ayw_gp {c : Int} (hs : sc ≤ 16) (hg : gp sc c) (h0 : 0 ≤ c) : ayw ar c = (ar c.toNat).toNat ∧ c.toNat < sc := by
  have := hg.2.2 h0
  unfold ayw
  rw [if_neg (by omega), show (c % 32).toNat = c.toNat by omega]
  exact ⟨rfl, by omega⟩
theorem ayw_RA {c : Int} (hA : RAr sc ar m) (hg : gp sc c) : ayw ar c ≤ 4 := by
  by_cases h0 : 0 ≤ c
  · have g := ayw_gp (ar := ar) hA.1 hg h0
    have := hA.2 c.toNat g.2
    omega
  · rw [ayw_v c (by omega)]; omega
theorem r_endOf {p t z : List Int} {n : Nat} (hp : PP P) (kx : am_kd an_K x = some (.inr (0, n))) (bx : n ≤ 100000) (hA : RAr sc ar m) {a0 : Nat} (hg : ∀ c, c ∈ t → gp sc c) (ht : ctt (ayw ar) t = some 1) (hrow : Ro m x a0 (p ++ (t ++ z))) (hn : a0 + p.length + t.length ≤ n) {post : Int → Mi → Mj → Mp → Prop} (k : post ((a0 + p.length + t.length : Nat) : Int) m J P) : Ci X d 179 [.ref 262, .ref x, .int (iz ((a0 + p.length : Nat) : Int))] m J P post := by
  refine Ci.of rfl rfl rfl (b_Mdl_endOf_0 x n _ kx bx m J P hp post ?_)
  have loop : ∀ (r u : List Int) (w : Nat), t = u ++ r → ctt (ayw ar) r = some w → Rn X d 179 5 [some (.ref 262), some (.ref x), some (.int (iz ((a0 + p.length : Nat) : Int))), some (.int (iz ((a0 + p.length + u.length : Nat) : Int))), some (.int (iz (w : Int)))] [] (SS m J P) (QI post) := by
    intro r
    induction r with
    | nil =>
      intro u w e hw
      rw [List.append_nil] at e
      subst e
      have := ct_nil.mp hw
      subst this
      exact b_Mdl_endOf_5 x n _ _ _ kx bx m J P hp post ⟨zr0, fun _ => k, fun h => absurd (by decide) h⟩
    | cons c r ih =>
      intro u w e hw
      obtain ⟨j, g1, g2, g3⟩ := ct_cons.mp hw
      have hwl := ct_le hw
      rw [List.length_cons] at hwl
      have hl := congrArg List.length e
      rw [List.length_append, List.length_cons] at hl
      have hc := Ro_mem (p := p ++ u) (c := c) (q := r ++ z) hrow (by rw [e]; simp only [List.append_assoc, List.cons_append])
      rw [List.length_append] at hc
      have hgc := hg c (by rw [e]; simp)
      have ei : ((a0 + p.length + u.length : Nat) : Int).toNat = a0 + (p.length + u.length) := by omega
      have en : ((a0 + p.length + u.length : Nat) : Int) + 1 = ((a0 + p.length + (u ++ [c]).length : Nat) : Int) := by rw [List.length_append, List.length_singleton]; omega
      have e4 := ayw_RA hA hgc
      have b1 := hgc.1
      have b2 := hgc.2.1
      refine b_Mdl_endOf_5 x n _ _ _ kx bx m J P hp post ⟨by constructor <;> omega, fun h => absurd h (by omega), fun _ => ⟨by omega, ?_⟩⟩
      rw [ei, hc, en]
      refine ⟨by constructor <;> omega, fun h => ⟨by omega, by omega, ?_⟩, fun h => ?_⟩
      · obtain ⟨a1, a2⟩ := ayw_gp (ar := ar) hA.1 hgc h
        have a3 := hA.2 c.toNat a2
        rw [a3.1]
        have e5 : ((w : Nat) : Int) + (ar c.toNat - 1) = (j : Int) := by omega
        rw [e5]
        exact ih (u ++ [c]) j (by rw [e]; simp) g1
      · have a1 : ayw ar c = 0 := ayw_v c (by omega)
        have e5 : ((w : Nat) : Int) + (-1) = (j : Int) := by omega
        rw [e5]
        exact ih (u ++ [c]) j (by rw [e]; simp) g1
  have := loop t [] 1 rfl ht
  rw [List.length_nil, Nat.add_zero] at this
  exact this
/-- the RULES as the reference holds them, for STEPS -/
def RyM (N : Nat) (Lf Rf : Nat → List Int) (m : Mi) : Prop := (N ≤ 16 ∧ m 262 35 = (N : Int)) ∧ ∀ u, u < N → (m 283 u = ((Lf u).length : Int) ∧ m 284 u = ((Rf u).length : Int)) ∧ (Ro m 281 (40 * u) (Lf u) ∧ Ro m 282 (40 * u) (Rf u)) ∧ ((Lf u).length ≤ 40 ∧ (Rf u).length ≤ 40) ∧ (0 ≤ m 285 u ∧ m 285 u ≤ 8) ∧ ∀ c, c ∈ Lf u → (-8 ≤ c ∧ c < 16) ∧ (c < 0 → -1 - c < m 285 u)
/-- RULES that are good for STEPS -/
def Rf_ok (sc : Nat) (ar : Nat → Int) (N : Nat) (Lf Rf : Nat → List Int) : Prop := ∀ u, u < N → ctt (ayw ar) (Lf u) = some 1 ∧ ctt (ayw ar) (Rf u) = some 1 ∧ (∀ c, c ∈ Rf u → c < 0 → c ∈ Lf u) ∧ (∃ s l, Lf u = s :: l ∧ 0 ≤ s) ∧ ∀ c, c ∈ Lf u ++ Rf u → gp sc c ∧ -8 ≤ c
theorem RyM_fr {m' : Mi} (h : RyM N Lf Rf m) (f0 : m' 262 35 = m 262 35) (f : ∀ a k, (281 ≤ a ∧ a ≤ 285) → m' a k = m a k) : RyM N Lf Rf m' := by
  refine ⟨⟨h.1.1, f0.trans h.1.2⟩, fun u hu => ?_⟩
  obtain ⟨⟨h1, h2⟩, ⟨h3, h4⟩, h5, h6, h7⟩ := h.2 u hu
  refine ⟨⟨(f _ _ (by decide)).trans h1, (f _ _ (by decide)).trans h2⟩, ⟨Ro_fr h3 fun k _ _ => f _ _ (by decide), Ro_fr h4 fun k _ _ => f _ _ (by decide)⟩, h5, ?_, fun c hc => ?_⟩
  · rw [f _ _ (by decide)]; exact h6
  · rw [f _ _ (by decide)]; exact h7 c hc
/-- the two rows of TERMS -/
def TP (P : Mp) (x y : Nat) : Prop := P 262 59 = some x ∧ P 262 60 = some y ∧ ((x = 296 ∧ y = 297) ∨ (x = 297 ∧ y = 296))
theorem TP_kd {y : Nat} (h : TP P x y) : am_kd an_K x = some (.inr (0, 201)) ∧ am_kd an_K y = some (.inr (0, 201)) := by
  have k1 : am_kd an_K 296 = some (.inr (0, 201)) := by decide +kernel
  have k2 : am_kd an_K 297 = some (.inr (0, 201)) := by decide +kernel
  rcases h.2.2 with ⟨e1, e2⟩ | ⟨e1, e2⟩ <;> subst e1 <;> subst e2 <;> exact ⟨by assumption, by assumption⟩
/-- where the parts of VARIABLES stand in the reference's row T -/
def BR (m : Mi) (σ : Int → List Int) (T L : List Int) : Prop := ∀ c, c ∈ L → c < 0 → ∃ p q, T = p ++ (σ c ++ q) ∧ m 300 (-1 - c).toNat = (p.length : Int) ∧ m 301 (-1 - c).toNat = ((p.length + (σ c).length : Nat) : Int)
/-- what looking for a RULE may change -/
def rmF (m m' : Mi) : Prop := ∀ a k, a ≠ 300 → a ≠ 301 → m' a k = m a k
theorem r_matches_30 {y u : Nat} {T pt xt : List Int} (hp : PP P) (hTP : TP P x y) (hA : RAr sc ar m) {m0 : Mi} (hA0 : RAr sc ar m0) (hK0 : RyM N Lf Rf m0) (hO : Rf_ok sc ar N Lf Rf) (hu : u < N) (hl : T.length ≤ 200) (hg : ∀ c, c ∈ T → gp sc c) (eT : T = pt ++ xt) (hrow0 : Ro m0 x 0 T) {post : Int → Mi → Mj → Mp → Prop} (k1 : ∀ σ z m', tv (ayw ar) σ → xt = sb σ (Lf u) ++ z → BR m' σ T (Lf u) → rmF m0 m' → post 1 m' J P) (k0 : ¬ Mtc (ayw ar) (Lf u) xt → ∀ m', rmF m0 m' → post 0 m' J P) : ∀ (L2 L1 r z0 : List Int) (l2 : Nat) (σ : Int → List Int) (m : Mi), Lf u = L1 ++ L2 → tv (ayw ar) σ → xt = sb σ L1 ++ (r ++ z0) → ctt (ayw ar) L2 = some l2 → ctt (ayw ar) r = some l2 → BR m σ T L1 → (∀ c, c < 0 → -1 - c < m0 285 u → ¬ c ∈ L1 → m 300 (-1 - c).toNat = -1) → rmF m0 m → Rn X (d + 1) 178 30 [some (.ref 262), some (.int (iz (u : Int))), some (.int (iz (pt.length : Int))), some (.int (iz ((pt.length + (sb σ L1).length : Nat) : Int))), some (.int (iz (L1.length : Int))), none, none, none, none] [] (SS m J P) (QI post) := by
  obtain ⟨kx, ky⟩ := TP_kd hTP
  have hxy := hTP.2.2
  obtain ⟨⟨q1, q2⟩, ⟨q3, q4⟩, q5, q6, q7⟩ := hK0.2 u hu
  have hN16 := hK0.1.1
  have eu : ((u : Nat) : Int).toNat = u := by omega
  intro L2
  induction L2 with
  | nil =>
    intro L1 r z0 l2 σ m eL hs ex h2 hr hB hU hf
    rw [List.append_nil] at eL
    have hM83 : m 283 u = ((Lf u).length : Int) := (hf _ _ (by decide) (by decide)).trans q1
    refine b_Mdl_matches_30 u _ _ _ m J P hp post ⟨by omega, by rw [← eL]; constructor <;> omega, by rw [eu, hM83]; constructor <;> omega, fun _ => ?_, fun h => absurd (by rw [eu, hM83, eL]; exact Int.le_refl _) h⟩
    rw [← eL] at ex hB
    exact k1 σ (r ++ z0) m hs ex hB hf
  | cons c L2 ih =>
    intro L1 r z0 l2 σ m eL hs ex h2 hr hB hU hf
    have hlen := congrArg List.length eL
    rw [List.length_append, List.length_cons] at hlen
    have hxl := congrArg List.length ex
    rw [List.length_append, List.length_append] at hxl
    have hTl := congrArg List.length eT
    rw [List.length_append] at hTl
    have hM83 : m 283 u = ((Lf u).length : Int) := (hf _ _ (by decide) (by decide)).trans q1
    have hc := Ro_mem (p := L1) (c := c) (q := L2) q3 eL
    have hc' : m 281 (40 * u + L1.length) = c := (hf _ _ (by decide) (by decide)).trans hc
    have hcb := q7 c (by rw [eL]; simp)
    have hcg := (hO u hu).2.2.2.2 c (by rw [eL]; simp)
    have e1 : ((40 * ((u : Nat) : Int)) + ((L1.length : Nat) : Int)).toNat = 40 * u + L1.length := by omega
    obtain ⟨j2, g1, g2, g3⟩ := ct_cons.mp h2
    -- the row has something here
    obtain ⟨t, r', er, ht, hr'⟩ := ct_first (k := l2 - 1) (x := r) (by rw [hr]; congr 1; omega)
    subst er
    have htp := ct_ne ht
    rw [List.length_append] at hxl
    have hrow : Ro m x 0 T := Ro_fr hrow0 fun k _ _ => hf _ _ (by omega) (by omega)
    have any : ∀ τ z, tv (ayw ar) τ → xt = sb τ (Lf u) ++ z → (∀ c, c ∈ L1 → c < 0 → σ c = τ c) ∧ t ++ (r' ++ z0) = (if c < 0 then τ c else [c]) ++ (sb τ L2 ++ z) := by
      intro τ z ht' e
      rw [eL, sb_app, sb_cons, List.append_assoc, List.append_assoc] at e
      have := sb_uniq hs ht' (ex.symm.trans e)
      rw [List.append_assoc] at this
      exact this
    have nx : ((L1.length : Nat) : Int) + 1 = ((L1 ++ [c]).length : Int) := by simp
    have eTt : T = (pt ++ sb σ L1) ++ (t ++ (r' ++ z0)) := by rw [eT, ex]; simp only [List.append_assoc]
    have hgt : ∀ c', c' ∈ t → gp sc c' := fun c' h => hg c' (by rw [eTt]; simp [h])
    have zc : Zr c := by have := hcb.1; constructor <;> omega
    refine b_Mdl_matches_30 u _ _ _ m J P hp post ⟨by omega, by constructor <;> omega, by rw [eu, hM83]; constructor <;> omega, fun h => absurd h (by rw [eu, hM83]; omega), fun _ => ⟨by omega, ?_⟩⟩
    rw [e1, hc']
    refine ⟨zc, fun hn => ⟨x, hTP.1, kx, ?_⟩, fun hn => ⟨x, hTP.1, kx, ?_⟩⟩
    · -- a VARIABLE
      have hv : 0 ≤ -1 - c ∧ -1 - c < 8 := by have := hcb.1; omega
      have hay0 : ayw ar c = 0 := ayw_v c hn
      have ek : ((pt.length + (sb σ L1).length : Nat) : Int) = ((0 + (pt ++ sb σ L1).length : Nat) : Int) := by rw [List.length_append]; omega
      rw [ek]
      refine r_endOf (p := pt ++ sb σ L1) (t := t) (z := r' ++ z0) (a0 := 0) hp kx (by decide) (RAr_fr hA0 fun k => hf _ _ (by decide) (by decide)) hgt ht (by rw [← eTt]; exact hrow) (by rw [List.length_append]; omega) ⟨hp, by omega, ?_⟩
      rw [← ek]
      have ez : ((0 + (pt ++ sb σ L1).length + t.length : Nat) : Int) - ((pt.length + (sb σ L1).length : Nat) : Int) = (t.length : Int) := by rw [List.length_append]; omega
      have ez2 : ((0 + (pt ++ sb σ L1).length + t.length : Nat) : Int) = ((pt.length + (sb σ L1).length + t.length : Nat) : Int) := by rw [List.length_append]; omega
      by_cases hin : c ∈ L1
      · obtain ⟨p, q, b1, b2, b3⟩ := hB c hin hn
        have bl := congrArg List.length b1
        rw [List.length_append, List.length_append] at bl
        refine ⟨by rw [b2]; constructor <;> omega, fun _ => ⟨by omega, by omega, by rw [ez]; constructor <;> omega, by rw [b2, b3]; constructor <;> omega, ?_, ?_⟩, fun h => absurd (by rw [b2]; omega) h⟩
        · rw [ez, b2, b3]
          intro hz
          have hsz : t.length = (σ c).length := by omega
          -- cell by cell
          have loop : ∀ (a1 a2 v : List Int), t = v ++ a1 → σ c = v ++ a2 → Rn X (d + 1) 178 153 [some (.ref 262), some (.int (iz (u : Int))), some (.int (iz (pt.length : Int))), some (.int (iz ((pt.length + (sb σ L1).length : Nat) : Int))), some (.int (iz (L1.length : Int))), some (.int (iz c)), some (.int (iz (-1 - c))), some (.int (iz ((0 + (pt ++ sb σ L1).length + t.length : Nat) : Int))), some (.int (iz (v.length : Int)))] [] (SS m J P) (QI post) := by
            intro a1
            induction a1 with
            | nil =>
              intro a2 v f1 f2
              rw [List.append_nil] at f1
              have hl1 := congrArg List.length f1
              have hl2 := congrArg List.length f2
              rw [List.length_append] at hl2
              have : a2 = [] := List.length_eq_zero_iff.mp (by omega)
              subst this
              rw [List.append_nil] at f2
              have ets : t = σ c := f1.trans f2.symm
              refine b_Mdl_matches_153 u _ _ _ c _ _ _ m J P hp post ⟨by constructor <;> omega, by rw [ez]; constructor <;> omega, fun _ => ?_, fun h => absurd (by rw [ez]; omega) h⟩
              rw [nx, ez2]
              have esb : sb σ (L1 ++ [c]) = sb σ L1 ++ t := by rw [sb_app, sb_cons, if_pos hn, sb_nil, List.append_nil, ets]
              have ex3 : ((pt.length + (sb σ L1).length + t.length : Nat) : Int) = ((pt.length + (sb σ (L1 ++ [c])).length : Nat) : Int) := by rw [esb, List.length_append]; omega
              rw [ex3]
              refine ih (L1 ++ [c]) r' z0 (l2 - 1) σ m (by rw [eL]; simp) hs (by rw [ex, esb]; simp only [List.append_assoc]) (by rw [g1]; congr 1; omega) hr' (fun c' h1 h2 => ?_) (fun c' h1 h2 h3 => hU c' h1 h2 (fun h4 => h3 (List.mem_append_left _ h4))) hf
              rcases List.mem_append.mp h1 with h | h
              · exact hB c' h h2
              · rw [List.mem_singleton.mp h]; exact ⟨p, q, b1, b2, b3⟩
            | cons a a1 jh =>
              intro a2 v f1 f2
              have hl1 := congrArg List.length f1
              have hl2 := congrArg List.length f2
              rw [List.length_append] at hl1 hl2
              rw [List.length_cons] at hl1
              cases a2 with
              | nil => rw [List.length_nil] at hl2; omega
              | cons a' a2 =>
                rw [List.length_cons] at hl2
                have y1 := Ro_mem (p := pt ++ sb σ L1 ++ v) (c := a) (q := a1 ++ (r' ++ z0)) hrow (by rw [eTt, f1]; simp only [List.append_assoc, List.cons_append])
                have y2 := Ro_mem (p := p ++ v) (c := a') (q := a2 ++ q) hrow (by rw [b1, f2]; simp only [List.append_assoc, List.cons_append])
                rw [Nat.zero_add, List.length_append, List.length_append] at y1
                rw [Nat.zero_add, List.length_append] at y2
                have i1 : (((pt.length + (sb σ L1).length : Nat) : Int) + (v.length : Int)).toNat = pt.length + (sb σ L1).length + v.length := by omega
                have i2 : ((p.length : Int) + (v.length : Int)).toNat = p.length + v.length := by omega
                have ga := hgt a (by rw [f1]; simp)
                have ga' := hg a' (by rw [b1, f2]; simp)
                have t1 := ga.1
                have t2 := ga.2.1
                have t3 := ga'.1
                have t4 := ga'.2.1
                refine b_Mdl_matches_153 u _ _ _ c _ _ _ m J P hp post ⟨by constructor <;> omega, by rw [ez]; constructor <;> omega, fun h => absurd h (by rw [ez]; omega), fun _ => ⟨x, hTP.1, kx, by omega, x, hTP.1, kx, by omega, ?_⟩⟩
                rw [b2, i1, i2, y1, y2]
                refine ⟨by omega, by constructor <;> omega, by constructor <;> omega, fun e => ?_, fun e => k0 (fun ⟨τ, z, ht', e5⟩ => e ?_) m hf⟩
                · subst e
                  have e6 : (v.length : Int) + 1 = ((v ++ [a]).length : Int) := by simp
                  rw [e6]
                  exact jh a2 (v ++ [a]) (by rw [f1]; simp) (by rw [f2]; simp)
                · obtain ⟨u1, u2⟩ := any τ z ht' e5
                  rw [if_pos hn] at u2
                  obtain ⟨u3, _⟩ := ct_pf ht (ht' c hn) u2
                  have u4 : t = σ c := u3.trans (u1 c hin hn).symm
                  rw [f1, f2] at u4
                  have := List.append_cancel_left u4
                  injection this
          exact loop t (σ c) [] rfl rfl
        · rw [ez, b2, b3]
          intro hz
          refine k0 (fun ⟨τ, z, ht', e5⟩ => hz ?_) m hf
          obtain ⟨u1, u2⟩ := any τ z ht' e5
          rw [if_pos hn] at u2
          obtain ⟨u3, _⟩ := ct_pf ht (ht' c hn) u2
          have u4 : t = σ c := u3.trans (u1 c hin hn).symm
          rw [u4]; omega
      · have hu1 := hU c hn (hcb.2 hn) hin
        refine ⟨by rw [hu1]; exact zrm, fun h => absurd h (by rw [hu1]; decide), fun _ => ⟨by omega, by omega, ?_⟩⟩
        rw [nx, ez2]
        have hcg' : ∀ c', c' ∈ L1 → c' < 0 → (fun w => if w = c then t else σ w) c' = σ c' := fun c' h1 h2 => by
          show (if c' = c then t else σ c') = σ c'
          rw [if_neg (fun e => hin (by rw [← e]; exact h1))]
        have esb : sb (fun w => if w = c then t else σ w) (L1 ++ [c]) = sb σ L1 ++ t := by
          rw [sb_app, sb_congr hcg', sb_cons, if_pos hn, if_pos rfl, sb_nil, List.append_nil]
        have ex3 : ((pt.length + (sb σ L1).length + t.length : Nat) : Int) = ((pt.length + (sb (fun w => if w = c then t else σ w) (L1 ++ [c])).length : Nat) : Int) := by rw [esb, List.length_append]; omega
        rw [ex3]
        refine ih (L1 ++ [c]) r' z0 (l2 - 1) (fun w => if w = c then t else σ w) _ (by rw [eL]; simp) (fun c' hn' => ?_) (by rw [ex, esb]; simp only [List.append_assoc]) (by rw [g1]; congr 1; omega) hr' (fun c' h1 h2 => ?_) (fun c' h1 h2 h3 => ?_) (fun a k h1 h2 => by rw [mu_ne _ _ (by omega), mu_ne _ _ (by omega)]; exact hf a k h1 h2)
        · show ctt (ayw ar) (if c' = c then t else σ c') = some 1
          by_cases e : c' = c
          · rw [if_pos e]; exact ht
          · rw [if_neg e]; exact hs c' hn'
        · by_cases e : c' = c
          · subst e
            refine ⟨pt ++ sb σ L1, r' ++ z0, ?_, ?_, ?_⟩
            · show T = pt ++ sb σ L1 ++ ((if c' = c' then t else σ c') ++ (r' ++ z0))
              rw [if_pos rfl]; exact eTt
            · rw [mu_ne _ _ (by omega), mu_at, List.length_append]
            · show mu (mu m 300 (-1 - c').toNat _) 301 (-1 - c').toNat _ 301 (-1 - c').toNat = (((pt ++ sb σ L1).length + (if c' = c' then t else σ c').length : Nat) : Int)
              rw [mu_at, if_pos rfl, List.length_append, ← ex3]
          · have hc2 : c' ∈ L1 := by
              rcases List.mem_append.mp h1 with h | h
              · exact h
              · exact absurd (List.mem_singleton.mp h) e
            obtain ⟨p, q, b1, b2, b3⟩ := hB c' hc2 h2
            have b8 := (q7 c' (by rw [eL]; simp [hc2])).1
            refine ⟨p, q, ?_, ?_, ?_⟩
            · show T = p ++ ((if c' = c then t else σ c') ++ q)
              rw [if_neg e]; exact b1
            · rw [mu_ne _ _ (by omega), mu_ne _ _ (by omega)]; exact b2
            · show mu (mu m 300 (-1 - c).toNat _) 301 (-1 - c).toNat _ 301 (-1 - c').toNat = ((p.length + (if c' = c then t else σ c').length : Nat) : Int)
              rw [mu_ne _ _ (by omega), mu_ne _ _ (by omega), if_neg e]; exact b3
        · have e : c' ≠ c := fun e => h3 (by rw [e]; simp)
          rw [mu_ne _ _ (by omega), mu_ne _ _ (by omega)]
          exact hU c' h1 h2 (fun h4 => h3 (List.mem_append_left _ h4))
    · -- a SYMBOL
      cases t with
      | nil => exact absurd (ct_nil.mp ht) (by decide)
      | cons t0 t =>
        have y1 := Ro_mem (p := pt ++ sb σ L1) (c := t0) (q := t ++ (r' ++ z0)) hrow (by rw [eTt]; rfl)
        rw [Nat.zero_add, List.length_append] at y1
        have i1 : ((pt.length + (sb σ L1).length : Nat) : Int).toNat = pt.length + (sb σ L1).length := by omega
        have ga := hgt t0 List.mem_cons_self
        have t1 := ga.1
        have t2 := ga.2.1
        rw [i1, y1]
        refine ⟨by omega, by constructor <;> omega, zc, fun e => ?_, fun e => k0 (fun ⟨τ, z, ht', e5⟩ => e ?_) m hf⟩
        · subst e
          rw [nx]
          have esb : sb σ (L1 ++ [t0]) = sb σ L1 ++ [t0] := by rw [sb_app, sb_cons, if_neg hn, sb_nil, List.append_nil]
          have ex3 : ((pt.length + (sb σ L1).length : Nat) : Int) + 1 = ((pt.length + (sb σ (L1 ++ [t0])).length : Nat) : Int) := by rw [esb, List.length_append, List.length_singleton]; omega
          rw [ex3]
          have hr2 : ctt (ayw ar) (t ++ r') = some j2 := by
            obtain ⟨j3, f1, f2, f3⟩ := ct_cons.mp hr
            have f1' : ctt (ayw ar) (t ++ r') = some j3 := f1
            rw [f1']; congr 1; omega
          refine ih (L1 ++ [t0]) (t ++ r') z0 j2 σ m (by rw [eL]; simp) hs (by rw [ex, esb]; simp) g1 hr2 (fun c' h1 h2 => ?_) (fun c' h1 h2 h3 => hU c' h1 h2 (fun h4 => h3 (List.mem_append_left _ h4))) hf
          rcases List.mem_append.mp h1 with h | h
          · exact hB c' h h2
          · rw [List.mem_singleton.mp h] at h2; exact absurd h2 hn
        · obtain ⟨_, u2⟩ := any τ z ht' e5
          rw [if_neg hn] at u2
          injection u2
theorem r_matches {y u : Nat} {T pt xt t z0 : List Int} (hp : PP P) (hTP : TP P x y) (hA : RAr sc ar m) (hK : RyM N Lf Rf m) (hO : Rf_ok sc ar N Lf Rf) (hu : u < N) (hl : T.length ≤ 200) (hg : ∀ c, c ∈ T → gp sc c) (eT : T = pt ++ xt) (ex : xt = t ++ z0) (ht : ctt (ayw ar) t = some 1) (hrow : Ro m x 0 T) {post : Int → Mi → Mj → Mp → Prop} (k1 : ∀ σ z m', tv (ayw ar) σ → xt = sb σ (Lf u) ++ z → BR m' σ T (Lf u) → rmF m m' → post 1 m' J P) (k0 : ¬ Mtc (ayw ar) (Lf u) xt → ∀ m', rmF m m' → post 0 m' J P) : Ci X (d + 1) 178 [.ref 262, .int (iz (u : Int)), .int (iz (pt.length : Int))] m J P post := by
  obtain ⟨⟨q1, q2⟩, ⟨q3, q4⟩, q5, q6, q7⟩ := hK.2 u hu
  have hN16 := hK.1.1
  have eu : ((u : Nat) : Int).toNat = u := by omega
  refine Ci.of rfl rfl rfl (b_Mdl_matches_0 u pt.length m J P hp post ?_)
  have loop : ∀ (q v : Nat) (m1 : Mi), (v : Int) + q = m 285 u → (∀ w, w < v → m1 300 w = -1) → rmF m m1 → Rn X (d + 1) 178 2 [some (.ref 262), some (.int (iz (u : Int))), some (.int (iz (pt.length : Int))), some (.int (iz (v : Int))), none, none, none, none, none] [] (SS m1 J P) (QI post) := by
    intro q
    induction q with
    | zero =>
      intro v m1 hv h1 hf
      have h85 : m1 285 u = m 285 u := hf _ _ (by decide) (by decide)
      refine b_Mdl_matches_2 u _ v m1 J P hp post ⟨by omega, by constructor <;> omega, by rw [eu, h85]; constructor <;> omega, fun _ => ?_, fun h => absurd (by rw [eu, h85]; omega) h⟩
      have := r_matches_30 (X := X) (m0 := m) (pt := pt) hp hTP hA hA hK hO hu hl hg eT hrow k1 k0 (Lf u) [] t z0 1 (fun x => [x]) m1 rfl (fun c hc => ct_cons.mpr ⟨0, ct_nil.mpr rfl, by rw [ayw_v c hc]; exact Nat.le_refl _, by rw [ayw_v c hc]⟩) ex (hO u hu).1 ht (fun c hc => absurd hc List.not_mem_nil) (fun c h2 h3 _ => h1 _ (by omega)) hf (d := d)
      rw [sb_nil, List.length_nil, Nat.add_zero] at this
      exact this
    | succ q ih =>
      intro v m1 hv h1 hf
      have h85 : m1 285 u = m 285 u := hf _ _ (by decide) (by decide)
      have ev : ((v : Nat) : Int).toNat = v := by omega
      have en : ((v : Nat) : Int) + 1 = ((v + 1 : Nat) : Int) := by omega
      refine b_Mdl_matches_2 u _ v m1 J P hp post ⟨by omega, by constructor <;> omega, by rw [eu, h85]; constructor <;> omega, fun h => absurd h (by rw [eu, h85]; omega), fun _ => ⟨by omega, ?_⟩⟩
      rw [ev, en]
      refine ih (v + 1) _ (by omega) (fun w hw => ?_) (fun a k g1 g2 => (mu_ne _ _ (by omega)).trans (hf a k g1 g2))
      by_cases e : w = v
      · rw [e, mu_at]
      · rw [mu_ne _ _ (by omega)]; exact h1 w (by omega)
  exact loop (m 285 u).toNat 0 m (by omega) (fun w hw => absurd hw (Nat.not_lt_zero _)) (fun _ _ _ _ => rfl)
/-- ruleAt(): the first RULE that can be used at a place -/
theorem r_ruleAt {y : Nat} {T pt xt t z0 : List Int} (hp : PP P) (hTP : TP P x y) (hA : RAr sc ar m) (hK : RyM N Lf Rf m) (hO : Rf_ok sc ar N Lf Rf) (hl : T.length ≤ 200) (hg : ∀ c, c ∈ T → gp sc c) (eT : T = pt ++ xt) (ex : xt = t ++ z0) (ht : ctt (ayw ar) t = some 1) (hrow : Ro m x 0 T) {post : Int → Mi → Mj → Mp → Prop} (k1 : ∀ u σ z m', u < N → (∀ w, w < u → ¬ Mtc (ayw ar) (Lf w) xt) → tv (ayw ar) σ → xt = sb σ (Lf u) ++ z → BR m' σ T (Lf u) → rmF m m' → post (u : Int) m' J P) (k0 : (∀ w, w < N → ¬ Mtc (ayw ar) (Lf w) xt) → ∀ m', rmF m m' → post (-1) m' J P) : Ci X (d + 2) 177 [.ref 262, .int (iz (pt.length : Int))] m J P post := by
  obtain ⟨kx, ky⟩ := TP_kd hTP
  have hN16 := hK.1.1
  have hTl := congrArg List.length eT
  have hxl := congrArg List.length ex
  have htp := ct_ne ht
  rw [List.length_append] at hTl hxl
  refine Ci.of rfl rfl rfl (b_Mdl_ruleAt_0 pt.length m J P hp post ?_)
  have loop : ∀ (q u : Nat) (m1 : Mi), u + q = N → (∀ w, w < u → ¬ Mtc (ayw ar) (Lf w) xt) → rmF m m1 → Rn X (d + 2) 177 2 [some (.ref 262), some (.int (iz (pt.length : Int))), some (.int (iz (u : Int)))] [] (SS m1 J P) (QI post) := by
    intro q
    induction q with
    | zero =>
      intro u m1 hu hno hf
      have h35 : m1 262 35 = (N : Int) := (hf _ _ (by decide) (by decide)).trans hK.1.2
      exact b_Mdl_ruleAt_2 _ u m1 J P hp post ⟨by constructor <;> omega, by rw [h35]; constructor <;> omega, fun _ => k0 (fun w hw => hno w (by omega)) m1 hf, fun h => absurd (by rw [h35]; omega) h⟩
    | succ q ih =>
      intro u m1 hu hno hf
      have hK1 : RyM N Lf Rf m1 := RyM_fr hK (hf _ _ (by decide) (by decide)) (fun a k h => hf _ _ (by omega) (by omega))
      have h35 : m1 262 35 = (N : Int) := hK1.1.2
      obtain ⟨s, l, eL, hs0⟩ := (hO u (by omega)).2.2.2.1
      have hL := Ro_mem (p := []) (c := s) (q := l) (hK1.2 u (by omega)).2.1.1 eL
      rw [List.length_nil, Nat.add_zero] at hL
      have hsg := (hO u (by omega)).2.2.2.2 s (by rw [eL]; simp)
      have e40 : (40 * ((u : Nat) : Int)).toNat = 40 * u := by omega
      have en : ((u : Nat) : Int) + 1 = ((u + 1 : Nat) : Int) := by omega
      have ep : ((pt.length : Nat) : Int).toNat = pt.length := by omega
      have hrow1 : Ro m1 x 0 T := Ro_fr hrow fun k _ _ => hf _ _ (by have := hTP.2.2; omega) (by have := hTP.2.2; omega)
      cases t with
      | nil => exact absurd (ct_nil.mp ht) (by decide)
      | cons t0 t =>
        have y1 := Ro_mem (p := pt) (c := t0) (q := t ++ z0) hrow1 (by rw [eT, ex]; rfl)
        rw [Nat.zero_add] at y1
        have ga := hg t0 (by rw [eT, ex]; simp)
        have t1 := ga.1
        have t2 := ga.2.1
        have t3 := hsg.1.1
        have t4 := hsg.1.2.1
        refine b_Mdl_ruleAt_2 _ u m1 J P hp post ⟨by constructor <;> omega, by rw [h35]; constructor <;> omega, fun h => absurd h (by rw [h35]; omega), fun _ => ⟨by omega, x, hTP.1, kx, by omega, ?_⟩⟩
        rw [e40, ep, hL, y1, en]
        refine ⟨by constructor <;> omega, by constructor <;> omega, fun hne => ?_, fun heq => ?_⟩
        · refine ih (u + 1) m1 (by omega) (fun w hw => ?_) hf
          by_cases e : w = u
          · subst e
            intro ⟨τ, z, _, e5⟩
            rw [ex, eL, sb_cons, if_neg (by omega)] at e5
            injection e5 with e6
            exact hne e6.symm
          · exact hno w (by omega)
        · refine r_matches hp hTP (RAr_fr hA fun k => hf _ _ (by decide) (by decide)) hK1 hO (by omega) hl hg eT ex ht hrow1 (fun σ z m2 w1 w2 w3 w4 => ⟨hp, zr1, fun h => absurd h (by decide), fun _ => ?_⟩) (fun hno' m2 w4 => ⟨hp, zr0, fun _ => ?_, fun h => absurd rfl h⟩)
          · exact k1 u σ z m2 (by omega) hno w1 w2 w3 (fun a k g1 g2 => (w4 a k g1 g2).trans (hf a k g1 g2))
          · refine ih (u + 1) m2 (by omega) (fun w hw => ?_) (fun a k g1 g2 => (w4 a k g1 g2).trans (hf a k g1 g2))
            by_cases e : w = u
            · rw [e]; exact hno'
            · exact hno w (by omega)
  exact loop N 0 m (by omega) (fun w hw => absurd hw (Nat.not_lt_zero _)) (fun _ _ _ _ => rfl)
end RMT
