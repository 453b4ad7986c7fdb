/-! loads() of the reference -/
section RTL_
variable {X : aX} {d : Nat} {P : Mp} {J : Mj} {m m' : Mi} {ar : Nat → Int} {sc G mg : Nat}
theorem tk_succ {vs : List (List Int)} {v : Nat} (h : v < vs.length) : (vs.take (v + 1)).flatten.length = (vs.take v).flatten.length + vs[v].length := by
  rw [List.take_succ_eq_append_getElem h, List.flatten_append, List.length_append]
  simp
/-- valueFrom() -/
theorem r_valueFrom {i v : Nat} {e : Nd} (hp : PP P) (hi : i < 1000) (hN : NR i e m) (hv : v ≤ (ndv e).length) (h6 : (ndv e).length ≤ 6) (hs : e.2.1 + (ndg e).length ≤ 30000) {post : Int → Mi → Mj → Mp → Prop} (k : post ((e.2.1 + ((ndl e).length + (ndr e).length + ((ndv e).take v).flatten.length) : Nat) : Int) m J P) : Ci X d 202 [.ref 262, .int (iz (i : Int)), .int (iz (v : Int))] m J P post := by
  obtain ⟨⟨_, _, _, _, h5, h6', _, h8, _⟩, hval, _⟩ := hN
  refine Ci.of rfl rfl rfl (b_Mdl_valueFrom_0 (i : Int) (v : Int) m J P hp post ?_)
  rw [Int.toNat_natCast, h8, h5, h6']
  refine ⟨by omega, by omega, by omega, ?_⟩
  have loop : ∀ (q u : Nat), u + q = v → Rn X d 202 24 [some (.ref 262), some (.int (iz (i : Int))), some (.int (iz (v : Int))), some (.int (iz ((e.2.1 + ((ndl e).length + (ndr e).length + ((ndv e).take u).flatten.length) : Nat) : Int))), some (.int (iz (u : Int)))] [] (SS m J P) (QI post) := by
    intro q
    induction q with
    | zero =>
      intro u hu
      refine b_Mdl_valueFrom_24 (i : Int) (v : Int) _ (u : Int) m J P hp post ⟨by constructor <;> omega, by constructor <;> omega, fun _ => ?_, fun g => absurd (by omega) g⟩
      rw [show u = v by omega]
      exact k
    | succ q ih =>
      intro u hu
      refine b_Mdl_valueFrom_24 (i : Int) (v : Int) _ (u : Int) m J P hp post ⟨by constructor <;> omega, by constructor <;> omega, fun g => absurd g (by omega), fun _ => ⟨by omega, ?_⟩⟩
      rw [show ((6 * (i : Int)) + (u : Int)).toNat = 6 * i + u by omega, hval u (by omega)]
      have := ih (u + 1) (by omega)
      rw [tk_succ (by omega)] at this
      rw [show ((e.2.1 + ((ndl e).length + (ndr e).length + ((ndv e).take u).flatten.length) : Nat) : Int) + ((ndv e)[u].length : Int) = ((e.2.1 + ((ndl e).length + (ndr e).length + (((ndv e).take u).flatten.length + (ndv e)[u].length)) : Nat) : Int) by omega, show (u : Int) + 1 = ((u + 1 : Nat) : Int) by omega]
      exact this
  have := loop v 0 (by omega)
  simp only [List.take_zero, List.flatten_nil, List.length_nil, Nat.add_zero] at this
  rw [show ((e.2.1 : Int) + ((ndl e).length : Int)) + ((ndr e).length : Int) = ((e.2.1 + ((ndl e).length + (ndr e).length) : Nat) : Int) by omega]
  exact this
/-- what loads() may change -/
def tlF (m m' : Mi) : Prop := ∀ a k, ¬ (302 ≤ a ∧ a ≤ 320) → a ≠ 340 → a ≠ 339 → ¬ (a = 262 ∧ (k = 74 ∨ k = 124 ∨ k = 125)) → m' a k = m a k
theorem tlF_trans {m'' : Mi} (h : tlF m m') (h2 : tlF m' m'') : tlF m m'' := fun a k g1 g2 g3 g4 => (h2 a k g1 g2 g3 g4).trans (h a k g1 g2 g3 g4)
theorem ldF_tl {tb : Nat} (htb : tb = 308 ∨ tb = 309) (h : ldF tb m m') : tlF m m' := fun a k g1 g2 g3 g4 => h a k (by omega) (by omega) (by omega) (by omega)
theorem NR_fr {i : Nat} {e : Nd} (h : NR i e m) (f : ∀ a k, 323 ≤ a → a ≤ 336 → m' a k = m a k) : NR i e m' := by
  obtain ⟨⟨h1, h2, h3, h4, h5, h6, h7, h8, h9⟩, h10, h11⟩ := h
  refine ⟨⟨?_, ?_, ?_, ?_, ?_, ?_, ?_, ?_, ?_⟩, fun v hv => ?_, Ro_fr h11 fun k _ _ => f _ _ (by omega) (by omega)⟩
  all_goals rw [f _ _ (by omega) (by omega)]
  all_goals first | assumption | exact h10 v hv
/-- how far a NODE is loaded -/
def LSt (ar : Nat → Int) (l r : List Int) (vs : List (List Int)) (GG : List Int) (mk : Nat → Int) (np : Nat → Nat) (K v : Nat) (m : Mi) : Prop := LDI (ayw ar) (cl GG) (nl (ayw ar) GG) mk np (l.length + r.length + (vs.take v).flatten.length) K (fun c => c < l.length + r.length + (vs.take v).flatten.length) m ∧ VTB (cl GG) 308 0 800 np (l.length + r.length + (vs.take v).flatten.length) m ∧ DK (ayw ar) (cl GG) (nl (ayw ar) GG) (fun c => c < l.length + r.length + (vs.take v).flatten.length) (l.length + r.length + (vs.take v).flatten.length) ∧ (m 262 124 = (np (ptc (cl GG) 0) : Int) ∧ m 262 125 = (np (ptc (cl GG) l.length) : Int)) ∧ (∀ q, q < l.length + r.length → m 340 q = (np (ptc (cl GG) q) : Int)) ∧ (∀ u, u < v → m 339 u = (np (ptc (cl GG) (l.length + r.length + (vs.take u).flatten.length)) : Int)) ∧ ∀ u, u < 8 → m 309 u = -1
/-- loaded cells have their ARGUMENTS -/
theorem LDI_dor {ay : Int → Nat} {cd : Nat → Int} {nx np : Nat → Nat} {mk : Nat → Int} {a b K : Nat} (h : LDI ay cd nx mk np b K (Dor (fun c => c < a) a b) m) (hd : DK ay cd nx (Dor (fun c => c < a) a b) b) : LDI ay cd nx mk np b K (fun c => c < b) m ∧ DK ay cd nx (fun c => c < b) b := by
  have g : ∀ c, c < b → Dor (fun c => c < a) a b c := fun c hc => by
    unfold Dor
    omega
  exact ⟨LDI_D h fun c hc => ⟨hc, (h.2.2.2.2.2.1 c (g c hc)).2⟩, fun c hc => hd c (g c hc)⟩
theorem rel_s {l : List Int} {n : Nat} {mk : Nat → Int} (hs : sc ≤ 16) (h : ∀ c, c ∈ l → gd sc c ∧ -800 ≤ c) (hm : ∀ q, q < l.length → 0 ≤ cl l q → mk (n + q) = cl l q / 32) : ∀ q, q < l.length → (0 ≤ cl l q → (0 ≤ cl (l.map c64) q ∧ cl (l.map c64) q < 128) ∧ cl (l.map c64) q % 64 = cl l q % 32 ∧ mk (n + q) = if (0 : Int) ≤ -1 then -1 else cl (l.map c64) q / 64) ∧ (cl l q < 0 → ∃ v : Nat, v < 800 ∧ cl (l.map c64) q = -1 - (v : Int) ∧ (879 - cl l q).toNat = 880 + 0 + v) := fun q hq => by
  have := h _ (cl_mem hq)
  obtain ⟨⟨g1, g2, g3⟩, g4⟩ := this
  rw [cl_map hq]
  refine ⟨fun h0 => ?_, fun h0 => ?_⟩
  · unfold c64
    rw [if_neg (by omega), if_neg (by omega), hm q hq h0]
    have := g3 h0
    refine ⟨by omega, by omega, by omega⟩
  · unfold c64
    rw [if_pos h0]
    exact ⟨(-1 - cl l q).toNat, by omega, by omega, by omega⟩
theorem rel_v {l : List Int} {n : Nat} {mk : Nat → Int} (hs : sc ≤ 16) (h : ∀ c, c ∈ l → gq sc c) (hm : ∀ q, q < l.length → 0 ≤ cl l q → mk (n + q) = 0) : ∀ q, q < l.length → (0 ≤ cl l q → (0 ≤ cl l q ∧ cl l q < 128) ∧ cl l q % 64 = cl l q % 32 ∧ mk (n + q) = if (0 : Int) ≤ 0 then 0 else cl l q / 64) ∧ (cl l q < 0 → ∃ v : Nat, v < 800 ∧ cl l q = -1 - (v : Int) ∧ (879 - cl l q).toNat = 880 + 0 + v) := fun q hq => by
  obtain ⟨g1, g2⟩ := h _ (cl_mem hq)
  refine ⟨fun h0 => ⟨by omega, by omega, ?_⟩, fun h0 => ⟨(-1 - cl l q).toNat, by omega, by omega, by omega⟩⟩
  rw [if_pos (Int.le_refl _)]
  exact hm q hq h0
/-- the nodes of the left side's PLACES -/
theorem r_lp39 {i ll : Nat} {x2 : Int} {post : Mi → Mj → Mp → Prop} (hp : PP P) (hi : i < 1000) (hll : ll ≤ 100) {m0 : Mi} (h5 : m0 325 i = (ll : Int)) (kx : ∀ m1 : Mi, (∀ j, j < ll → m1 340 j = m0 312 j) → (∀ a k, a ≠ 340 → m1 a k = m0 a k) → Ci X (d + 1) 166 [.ref 262, .ref 323, .int (iz (x2 + (ll : Int))), .int (iz ((x2 + (ll : Int)) + (m1 326 i))), .ref 308, .int (iz ((-1)))] m1 J P (fun z9 m6 J7 P8 => PP P8 ∧ Rn X (d + 2) 201 104 [some (.ref 262), some (.int (iz (i : Int))), some (.int (iz (x2 + (ll : Int)))), some (.int (iz 0)), none] [] (SS (mu m6 262 125 z9) J7 P8) (QV post))) : ∀ (q u : Nat) (m : Mi), u + q = ll → (∀ j, j < u → m 340 j = m0 312 j) → (∀ a k, a ≠ 340 → m a k = m0 a k) → Rn X (d + 2) 201 39 [some (.ref 262), some (.int (iz (i : Int))), some (.int (iz x2)), some (.int (iz (u : Int))), none] [] (SS m J P) (QV post) := by
  intro q
  induction q with
  | zero =>
    intro u m hu h1 h2
    have e5 : m 325 i = (ll : Int) := (h2 _ _ (by omega)).trans h5
    refine b_Mdl_loads_39 (i : Int) x2 (u : Int) m J P hp post ?_
    rw [Int.toNat_natCast, e5]
    exact ⟨by omega, by constructor <;> omega, by constructor <;> omega, fun _ => ⟨by omega, by omega, kx m (fun j hj => h1 j (by omega)) h2⟩, fun g => absurd (by omega) g⟩
  | succ q ih =>
    intro u m hu h1 h2
    have e5 : m 325 i = (ll : Int) := (h2 _ _ (by omega)).trans h5
    refine b_Mdl_loads_39 (i : Int) x2 (u : Int) m J P hp post ?_
    rw [Int.toNat_natCast, e5, Int.toNat_natCast]
    refine ⟨by omega, by constructor <;> omega, by constructor <;> omega, fun g => absurd g (by omega), fun _ => ⟨by omega, by omega, ?_⟩⟩
    rw [show (u : Int) + 1 = ((u + 1 : Nat) : Int) by omega]
    refine ih (u + 1) _ (by omega) (fun j hj => ?_) fun a k h => (mu_a _ h).trans (h2 a k h)
    by_cases hju : j = u
    · subst hju
      rw [mu_at]
      exact h2 _ _ (by omega)
    · rw [mu_ne _ _ (by omega)]
      exact h1 j (by omega)
/-- the nodes of the right side's PLACES -/
theorem r_lp104 {i ll rr : Nat} {x2 : Int} {post : Mi → Mj → Mp → Prop} (hp : PP P) (hi : i < 1000) (hll : ll ≤ 100) (hrr : rr ≤ 100) {m0 : Mi} (h5 : m0 325 i = (ll : Int)) (h6 : m0 326 i = (rr : Int)) (kx : ∀ m1 : Mi, (∀ j, j < rr → m1 340 (ll + j) = m0 312 j) → (∀ a k, ¬ (a = 340 ∧ ll ≤ k) → m1 a k = m0 a k) → Rn X (d + 2) 201 141 [some (.ref 262), some (.int (iz (i : Int))), some (.int (iz x2)), some (.int (iz 0)), none] [] (SS m1 J P) (QV post)) : ∀ (q u : Nat) (m : Mi), u + q = rr → (∀ j, j < u → m 340 (ll + j) = m0 312 j) → (∀ a k, ¬ (a = 340 ∧ ll ≤ k) → m a k = m0 a k) → Rn X (d + 2) 201 104 [some (.ref 262), some (.int (iz (i : Int))), some (.int (iz x2)), some (.int (iz (u : Int))), none] [] (SS m J P) (QV post) := by
  intro q
  induction q with
  | zero =>
    intro u m hu h1 h2
    have e6 : m 326 i = (rr : Int) := (h2 _ _ (by omega)).trans h6
    refine b_Mdl_loads_104 (i : Int) x2 (u : Int) m J P hp post ?_
    rw [Int.toNat_natCast, e6]
    exact ⟨by omega, by constructor <;> omega, by constructor <;> omega, fun _ => kx m (fun j hj => h1 j (by omega)) h2, fun g => absurd (by omega) g⟩
  | succ q ih =>
    intro u m hu h1 h2
    have e5 : m 325 i = (ll : Int) := (h2 _ _ (by omega)).trans h5
    have e6 : m 326 i = (rr : Int) := (h2 _ _ (by omega)).trans h6
    refine b_Mdl_loads_104 (i : Int) x2 (u : Int) m J P hp post ?_
    rw [Int.toNat_natCast, e5, e6, Int.toNat_natCast, show ((ll : Int) + (u : Int)).toNat = ll + u by omega]
    refine ⟨by omega, by constructor <;> omega, by constructor <;> omega, fun g => absurd g (by omega), fun _ => ⟨by omega, by omega, by omega, ?_⟩⟩
    rw [show (u : Int) + 1 = ((u + 1 : Nat) : Int) by omega]
    refine ih (u + 1) _ (by omega) (fun j hj => ?_) fun a k h => (mu_ne _ _ (by omega)).trans (h2 a k h)
    by_cases hju : j = u
    · subst hju
      rw [mu_at]
      exact h2 _ _ (by omega)
    · rw [mu_ne _ _ (by omega)]
      exact h1 j (by omega)
/-- loads() -/
theorem r_tloads {i : Nat} {e : Nd} {E : List Int} {mk : Nat → Int} (hp : PP P) (har : arK sc ar) (hRA : RAr sc ar m) (hi : i < 1000) (hN : NR i e m) (hok : okN sc ar (ndl e) (ndr e) (ndv e)) (hs : e.2.1 + (ndg e).length ≤ 30000) (hgv : m 262 101 = ((ndv e).length : Int)) (hG : Gok (ayw ar) (cl (ndg e ++ E)) (nl (ayw ar) (ndg e ++ E)) (ndg e ++ E).length) (hE : ∀ c, c ∈ E → gd sc c) (hmk : ∀ c, c < (ndg e).length → 0 ≤ cl (ndg e) c → mk c = cl (ndg e) c / 32) {post : Mi → Mj → Mp → Prop} (k : ∀ np K m', LSt ar (ndl e) (ndr e) (ndv e) (ndg e ++ E) mk np K (ndv e).length m' → tlF m m' → post m' J P) : Cv X (d + 2) 201 [.ref 262, .int (iz (i : Int))] m J P post := by
  have hs16 := har.1
  have n1 := ct_ne hok.1.1
  have n2 := ct_ne hok.1.2
  have hln := ng_len (l := ndl e) (r := ndr e) (vs := ndv e)
  have hge : (ndg e).length = (ngr (ndl e) (ndr e) (ndv e)).length := rfl
  have h800 := ng_800 hok
  have hgd := ng_gd hs16 hok
  have hk := hok.2.1
  have kL : am_kd an_K 323 = some (.inr (0, 40000)) := by decide +kernel
  have kT : am_kd an_K 308 = some (.inr (0, 800)) := by decide +kernel
  obtain ⟨⟨_, _, _, _, h5, h6, _, h8, _⟩, hval, hrow⟩ := id hN
  have e1 : ndg e ++ E = [] ++ (ndl e ++ (ndr e ++ ((ndv e).flatten ++ E))) := by
    show ngr _ _ _ ++ E = _
    unfold ngr
    simp only [List.append_assoc, List.nil_append]
  have e2 : ndg e ++ E = ndl e ++ (ndr e ++ ((ndv e).flatten ++ E)) := by rw [e1, List.nil_append]
  have hAg : ∀ c, c ∈ ndg e ++ E → gd sc c := fun c hc => by
    rcases List.mem_append.mp hc with q | q
    · exact (hgd c q).1
    · exact hE c q
  have hcl : ∀ c, c < (ndg e).length → cl (ndg e ++ E) c = cl (ndg e) c := fun c hc => cl_app hc
  have hcl0 : ∀ q, q < (ndl e).length → cl (ndg e) q = cl (ndl e) q := fun q hq => by
    show cl (ngr _ _ _) q = _
    unfold ngr
    exact cl_app hq
  have hcl1 : ∀ q, q < (ndr e).length → cl (ndg e) ((ndl e).length + q) = cl (ndr e) q := fun q hq => by
    show cl (ngr _ _ _) _ = _
    unfold ngr
    rw [cl_shift, cl_app hq]
  have hA : ∀ {m2 : Mi}, tlF m m2 → ARr (ayw ar) (cl (ndg e ++ E)) (ndg e ++ E).length m2 := fun h => ARr_K har (RAr_fr hRA fun k => h _ _ (by omega) (by omega) (by omega) (by omega)) hAg
  obtain ⟨hr1, hr2⟩ := Ro_app.mp hrow
  obtain ⟨hr2, hr3⟩ := Ro_app.mp hr2
  rw [List.length_map] at hr2 hr3
  rw [List.length_map] at hr3
  refine Cv.of rfl rfl rfl (b_Mdl_loads_0 (i : Int) m J P hp post ?_)
  refine r_clearPool hp (fun m1 a1 a2 a3 a4 => ⟨hp, by omega, by omega, ?_⟩)
  have F1 : tlF m m1 := fun a k g1 g2 g3 g4 => a4 a k (by omega) (by omega) (by omega)
  have g1 : ∀ a, 323 ≤ a → a ≤ 336 → ∀ k, m1 a k = m a k := fun a q1 q2 k => F1 a k (by omega) (by omega) (by omega) (by omega)
  rw [Int.toNat_natCast, g1 324 (by omega) (by omega), g1 325 (by omega) (by omega), h8, h5]
  have z0 : ([] : List Int).length + (ndl e).length = (ndl e).length := Nat.zero_add _
  refine r_loadL (d := d) (x1 := 323) (n1 := 40000) (from_ := e.2.1) (A := []) (B := ndl e) (w := (ndl e).map c64) (np := fun _ => 0) (mk := mk) (base := 0) (lim := 800) (K := 0) (D := fun c => c < 0) hp kL (by omega) kT (by omega) (Or.inl rfl) (by omega) (by omega) zrm (Nat.le_refl _) hG e1 hok.1.1 (by omega) (by rw [List.length_map]) (by omega) (by omega) (rel_s hs16 (fun c hc => hok.2.2.2 c (List.mem_append_left _ hc)) fun q hq h0 => by
    rw [List.length_nil, Nat.zero_add, ← hcl0 q hq]
    exact hmk q (by omega) (by rw [hcl0 q hq]; exact h0)) (LDI_D (LDI_0 a1) fun c hc => absurd hc (Nat.not_lt_zero _)) (VTB_new (fun v hv => a2 v hv) (fun v hv h => by obtain ⟨c, hc, _⟩ := h; exact absurd hc (Nat.not_lt_zero _))) (fun c hc => absurd hc (Nat.not_lt_zero _)) (Ro_fr hr1 fun k _ _ => g1 _ (by omega) (by omega) k) (hA F1) (fun np1 K1 m7 b1 b2 b3 b4 b5 b6 => ⟨hp, ?_⟩)
  have F7 : tlF m m7 := tlF_trans F1 (ldF_tl (Or.inl rfl) b6)
  rw [z0] at b1 b2 b3
  obtain ⟨b1, b3⟩ := LDI_dor b1 b3
  have F8 : tlF m (mu m7 262 124 (np1 (ptc (cl (ndg e ++ E)) ([] : List Int).length) : Nat)) := fun a k g1 g2 g3 g4 => (mu_ne _ _ (by omega)).trans (F7 a k g1 g2 g3 g4)
  have h58 : mu m7 262 124 (np1 (ptc (cl (ndg e ++ E)) ([] : List Int).length) : Nat) 325 i = ((ndl e).length : Int) := (F8 _ _ (by omega) (by omega) (by omega) (by omega)).trans h5
  have h68 : mu m7 262 124 (np1 (ptc (cl (ndg e ++ E)) ([] : List Int).length) : Nat) 326 i = ((ndr e).length : Int) := (F8 _ _ (by omega) (by omega) (by omega) (by omega)).trans h6
  refine r_lp39 (d := d) (i := i) (ll := (ndl e).length) (x2 := (e.2.1 : Int)) (m0 := mu m7 262 124 (np1 (ptc (cl (ndg e ++ E)) ([] : List Int).length) : Nat)) hp hi (by omega) h58 (fun m9 c1 c2 => ?_) (ndl e).length 0 _ (by omega) (fun j hj => absurd hj (Nat.not_lt_zero _)) fun _ _ _ => rfl
  have F9 : tlF m m9 := fun a k g1 g2 g3 g4 => (c2 a k g2).trans (F8 a k g1 g2 g3 g4)
  have c2' : ∀ a k, a ≠ 340 → ¬ (a = 262 ∧ k = 124) → m9 a k = m7 a k := fun a k q1 q2 => (c2 a k q1).trans (mu_ne _ _ q2)
  have L9 := LDI_fr b1 (c2' 262 _ (by omega) (by omega)) fun a k q1 q2 => c2' a k (by omega) (by omega)
  have V9 := VTB_fr b2 fun k => c2' 308 k (by omega) (by omega)
  rw [(c2 326 _ (by omega)).trans h68, show (e.2.1 : Int) + ((ndl e).length : Int) = ((e.2.1 + (ndl e).length : Nat) : Int) by omega]
  refine r_loadL (d := d) (x1 := 323) (n1 := 40000) (from_ := e.2.1 + (ndl e).length) (A := ndl e) (B := ndr e) (w := (ndr e).map c64) (np := np1) (mk := mk) (base := 0) (lim := 800) (K := K1) (D := fun c => c < (ndl e).length) hp kL (by omega) kT (by omega) (Or.inl rfl) (by omega) (by omega) zrm (Nat.le_refl _) hG e2 hok.1.2 (by omega) (by rw [List.length_map]) (by omega) (by omega) (rel_s hs16 (fun c hc => hok.2.2.2 c (List.mem_append_right _ hc)) fun q hq h0 => by
    rw [← hcl1 q hq]
    exact hmk _ (by omega) (by rw [hcl1 q hq]; exact h0)) L9 V9 b3 (Ro_fr hr2 fun k _ _ => F9 _ _ (by omega) (by omega) (by omega) (by omega)) (hA F9) (fun np2 K2 m10 d1 d2 d3 d4 d5 d6 => ⟨hp, ?_⟩)
  obtain ⟨d1, d3⟩ := LDI_dor d1 d3
  have F10 : tlF m m10 := tlF_trans F9 (ldF_tl (Or.inl rfl) d6)
  have F11 : tlF m (mu m10 262 125 (np2 (ptc (cl (ndg e ++ E)) (ndl e).length) : Nat)) := fun a k g1 g2 g3 g4 => (mu_ne _ _ (by omega)).trans (F10 a k g1 g2 g3 g4)
  refine r_lp104 (d := d) (i := i) (ll := (ndl e).length) (rr := (ndr e).length) (m0 := mu m10 262 125 (np2 (ptc (cl (ndg e ++ E)) (ndl e).length) : Nat)) hp hi (by omega) (by omega) ((F11 _ _ (by omega) (by omega) (by omega) (by omega)).trans h5) ((F11 _ _ (by omega) (by omega) (by omega) (by omega)).trans h6) (fun m12 f1 f2 => ?_) (ndr e).length 0 _ (by omega) (fun j hj => absurd hj (Nat.not_lt_zero _)) fun _ _ _ => rfl
  have F12 : tlF m m12 := fun a k g1 g2 g3 g4 => (f2 a k (by omega)).trans (F11 a k g1 g2 g3 g4)
  have f2' : ∀ a k, a ≠ 340 → ¬ (a = 262 ∧ k = 125) → m12 a k = m10 a k := fun a k q1 q2 => (f2 a k (by omega)).trans (mu_ne _ _ q2)
  have S0 : LSt ar (ndl e) (ndr e) (ndv e) (ndg e ++ E) mk np2 K2 0 m12 := by
    have z : (ndl e).length + (ndr e).length + ((ndv e).take 0).flatten.length = (ndl e).length + (ndr e).length := by simp
    unfold LSt
    rw [z]
    refine ⟨LDI_fr d1 (f2' 262 _ (by omega) (by omega)) fun a k q1 q2 => f2' a k (by omega) (by omega), VTB_fr d2 fun k => f2' 308 k (by omega) (by omega), d3, ⟨?_, ?_⟩, fun q hq => ?_, fun u hu => absurd hu (Nat.not_lt_zero _), fun u hu => ?_⟩
    · rw [f2' _ _ (by omega) (by omega), d6 _ _ (by omega) (by omega) (by omega) (by omega), c2 _ _ (by omega), mu_at, List.length_nil, d4 0 (by omega)]
    · rw [f2 _ _ (by omega), mu_at]
    · by_cases hql : q < (ndl e).length
      · rw [f2 _ _ (by omega), mu_a _ (by omega), d6 _ _ (by omega) (by omega) (by omega) (by omega), c1 q hql, mu_a _ (by omega), b5 q hql, List.length_nil, Nat.zero_add, d4 q hql]
      · have := f1 (q - (ndl e).length) (by omega)
        rw [show (ndl e).length + (q - (ndl e).length) = q by omega, mu_a _ (by omega), d5 _ (by omega), show (ndl e).length + (q - (ndl e).length) = q by omega] at this
        exact this
    · rw [f2' _ _ (by omega) (by omega), d6 _ _ (by omega) (by omega) (by omega) (by omega), c2' _ _ (by omega) (by omega), b6 _ _ (by omega) (by omega) (by omega) (by omega)]
      exact a3 u hu
  have loop : ∀ (q v : Nat) (np : Nat → Nat) (K : Nat) (m3 : Mi), v + q = (ndv e).length → LSt ar (ndl e) (ndr e) (ndv e) (ndg e ++ E) mk np K v m3 → tlF m m3 → Rn X (d + 2) 201 141 [some (.ref 262), some (.int (iz (i : Int))), some (.int (iz (((e.2.1 + (ndl e).length : Nat) : Int)))), some (.int (iz (v : Int))), none] [] (SS m3 J P) (QV post) := by
    intro q
    induction q with
    | zero =>
      intro v np K m3 hv hS hF
      have eg : m3 262 101 = ((ndv e).length : Int) := (hF _ _ (by omega) (by omega) (by omega) (by omega)).trans hgv
      refine b_Mdl_loads_141 (i : Int) _ (v : Int) m3 J P hp post ?_
      rw [eg]
      rw [show v = (ndv e).length by omega] at hS
      exact ⟨by constructor <;> omega, by constructor <;> omega, fun _ => k np K m3 hS hF, fun g => absurd (by omega) g⟩
    | succ q ih =>
      intro v np K m3 hv hS hF
      have hvl : v < (ndv e).length := by omega
      have eg : m3 262 101 = ((ndv e).length : Int) := (hF _ _ (by omega) (by omega) (by omega) (by omega)).trans hgv
      refine b_Mdl_loads_141 (i : Int) _ (v : Int) m3 J P hp post ?_
      rw [eg]
      refine ⟨by constructor <;> omega, by constructor <;> omega, fun g => absurd g (by omega), fun _ => ?_⟩
      have N3 : NR i e m3 := NR_fr hN fun a k q1 q2 => hF a k (by omega) (by omega) (by omega) (by omega)
      refine r_valueFrom (e := e) hp hi N3 (by omega) (by omega) hs ⟨hp, by omega, ?_⟩
      have hw := hok.2.2.1 _ (List.getElem_mem hvl)
      have evl : m3 333 (((6 * (i : Int)) + (v : Int)).toNat) = (((ndv e)[v].length : Nat) : Int) := by
        rw [show ((6 * (i : Int)) + (v : Int)).toNat = 6 * i + v by omega]
        exact N3.2.1 v hvl
      rw [evl]
      have ts := tk_succ hvl
      have tle := flat_take (vs := ndv e) (i := v + 1)
      have eV : ndg e ++ E = (ndl e ++ (ndr e ++ ((ndv e).take v).flatten)) ++ ((ndv e)[v] ++ (((ndv e).drop (v + 1)).flatten ++ E)) := by
        have : (ndv e).flatten = ((ndv e).take v).flatten ++ ((ndv e)[v] ++ ((ndv e).drop (v + 1)).flatten) := by
          conv => lhs; rw [← List.take_append_drop v (ndv e), List.drop_eq_getElem_cons hvl]
          rw [List.flatten_append, List.flatten_cons]
        rw [e2, this]
        simp only [List.append_assoc]
      have hAl : (ndl e ++ (ndr e ++ ((ndv e).take v).flatten)).length = (ndl e).length + (ndr e).length + ((ndv e).take v).flatten.length := by
        rw [List.length_append, List.length_append]; omega
      obtain ⟨s1, s2, s3, ⟨s4, s5⟩, s6, s7, s8⟩ := hS
      have hrv : Ro m 323 (e.2.1 + ((ndl e).length + (ndr e).length + ((ndv e).take v).flatten.length)) (ndv e)[v] := by
        have : (ndv e).flatten = ((ndv e).take v).flatten ++ ((ndv e)[v] ++ ((ndv e).drop (v + 1)).flatten) := by
          conv => lhs; rw [← List.take_append_drop v (ndv e), List.drop_eq_getElem_cons hvl]
          rw [List.flatten_append, List.flatten_cons]
        rw [this] at hr3
        have := (Ro_app.mp (Ro_app.mp hr3).2).1
        rw [show e.2.1 + ((ndl e).length + (ndr e).length + ((ndv e).take v).flatten.length) = e.2.1 + (ndl e).length + (ndr e).length + ((ndv e).take v).flatten.length by omega]
        exact this
      have hcv : ∀ q, q < (ndv e)[v].length → cl (ndg e) ((ndl e).length + (ndr e).length + ((ndv e).take v).flatten.length + q) = cl (ndv e)[v] q := fun q hq => by
        have h1 := hcl ((ndl e).length + (ndr e).length + ((ndv e).take v).flatten.length + q) (by rw [show (ndg e).length = _ from hln]; omega)
        rw [← h1, eV, ← hAl, cl_shift, cl_app hq]
      rw [← hAl] at s1 s2 s3
      refine r_loadL (d := d) (x1 := 323) (n1 := 40000) (from_ := e.2.1 + ((ndl e).length + (ndr e).length + ((ndv e).take v).flatten.length)) (A := ndl e ++ (ndr e ++ ((ndv e).take v).flatten)) (B := (ndv e)[v]) (w := (ndv e)[v]) (np := np) (mk := mk) (base := 0) (lim := 800) (K := K) hp kL (by omega) kT (by omega) (Or.inl rfl) (by omega) (by omega) zr0 (Nat.le_refl _) hG eV hw.1 (by omega) rfl (by omega) (by have : (ndg e).length = _ := hln; omega) (rel_v hs16 hw.2.2 fun q hq h0 => by
        have hq2 := hcv q hq
        have : (ndg e).length = _ := hln
        rw [hAl, hmk _ (by omega) (by rw [hq2]; exact h0), hq2]
        have := (hw.2.2 _ (cl_mem hq)).2
        omega) s1 s2 s3 (Ro_fr hrv fun k _ _ => hF _ _ (by omega) (by omega) (by omega) (by omega)) (hA hF) (fun np' K' m9 t1 t2 t3 t4 t5 t6 => ⟨hp, by omega, ?_⟩)
      obtain ⟨t1, t3⟩ := LDI_dor t1 t3
      rw [hAl] at t1 t2 t3 t4 t5
      have ee : (ndl e).length + (ndr e).length + ((ndv e).take v).flatten.length + (ndv e)[v].length = (ndl e).length + (ndr e).length + ((ndv e).take (v + 1)).flatten.length := by omega
      rw [ee] at t1 t2 t3
      rw [Int.toNat_natCast, show (v : Int) + 1 = ((v + 1 : Nat) : Int) by omega]
      have nF : ∀ a k, ¬ (a = 339 ∧ k = v) → mu m9 339 v (np' (ptc (cl (ndg e ++ E)) (ndl e ++ (ndr e ++ ((ndv e).take v).flatten)).length) : Nat) a k = m9 a k := fun a k h => mu_ne _ _ h
      refine ih (v + 1) np' K' _ (by omega) ⟨LDI_fr t1 (nF _ _ (by omega)) fun a k q1 q2 => nF a k (by omega), VTB_fr t2 fun k => nF _ _ (by omega), t3, ⟨?_, ?_⟩, fun q hq => ?_, fun u hu => ?_, fun u hu => ?_⟩ (tlF_trans hF fun a k g1 g2 g3 g4 => (nF a k (by omega)).trans (ldF_tl (Or.inl rfl) t6 a k g1 g2 g3 g4))
      · rw [nF _ _ (by omega), t6 _ _ (by omega) (by omega) (by omega) (by omega), s4, t4 0 (by omega)]
      · rw [nF _ _ (by omega), t6 _ _ (by omega) (by omega) (by omega) (by omega), s5, t4 _ (by omega)]
      · rw [nF _ _ (by omega), t6 _ _ (by omega) (by omega) (by omega) (by omega), s6 q hq, t4 q (by omega)]
      · by_cases huv : u = v
        · subst huv
          rw [mu_at, hAl]
        · have hm := flat_take_lt (ay := ayw ar) (vs := (ndv e).take v) (i := u) (fun w hw => (hok.2.2.1 w (List.mem_of_mem_take hw)).1) (by rw [List.length_take]; omega)
          rw [List.take_take, Nat.min_eq_left (by omega)] at hm
          rw [nF _ _ (by omega), t6 _ _ (by omega) (by omega) (by omega) (by omega), s7 u (by omega), t4 _ (by omega)]
      · rw [nF _ _ (by omega), t6 _ _ (by omega) (by omega) (by omega) (by omega)]
        exact s8 u hu
  exact loop (ndv e).length 0 np2 K2 m12 (by omega) S0 F12
end RTL_
