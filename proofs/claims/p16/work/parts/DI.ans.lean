/-! answer(), whole, on both sides -/
section ANS
variable {X : aX} {d x y : Nat} {P : Mp} {J : Mj} {m m' m0 : Mi} {ar : Nat → Int} {sc G mg b g N : Nat} {Lf Rf Lm Rm : Nat → List Int}
theorem gK_w {l r : List Int} {vm c : Nat} (h : gK sc ar l r vm) (hc : c < l.length + r.length) : (-6 ≤ cl (l ++ r) c ∧ cl (l ++ r) c < 16) ∧ -1 - cl (l ++ r) c < (vm : Int) := by
  have hm : cl (l ++ r) c ∈ l ++ r := cl_mem (by rw [List.length_append]; exact hc)
  obtain ⟨⟨a1, a2, a3⟩, a4⟩ := h.2.2.1 _ hm
  exact ⟨⟨a4, a2⟩, h.2.2.2.2.1 _ hm⟩
/-- putGoal() -/
theorem c_putGoal {kk : Nat} {a : An} {l r : List Int} {vm : Nat} {nm : Nat → Int} (hp : PP P) (hb : b = 54 ∨ b = 155) (hs : sc ≤ 16) (hg : P 38 2 = some g) (hgo : g = 39 ∨ g = 256) (hA : BA b sc ar m) (hQ : GQ g l r vm nm m J) (hK : gK sc ar l r vm) (hk : kk < 300) (ha : ACm kk a m) (hV : AV sc ar vm 30000 a) {post : Int → Mi → Mj → Mp → Prop} (kn : 200 < (sb (sgv a.2.2) l).length ∨ 200 < (sb (sgv a.2.2) r).length → ∀ m', pgF m m' → post (-1) m' J P) (k1 : (sb (sgv a.2.2) l).length ≤ 200 → (sb (sgv a.2.2) r).length ≤ 200 → ∀ m', MD 18 m' (sb (sgv a.2.2) l ++ sb (sgv a.2.2) r) → pgF m m' → post ((sb (sgv a.2.2) l).length : Int) m' J P) : Ci X (d + 3) 120 [.ref 38, .int (iz (kk : Int)), .ref b] m J P post := by
  have kb := kd_book hb
  have kg := (SP_kd hgo).1
  have h40 := hK.2.1
  have n1 := ct_ne hK.1.1
  have n2 := ct_ne hK.1.2
  have elr : (l ++ r).length = l.length + r.length := List.length_append
  refine Ci.of rfl rfl rfl (b_Tree_putGoal_0 (kk : Int) b kb m J P hp post ?_)
  have tkl : ∀ c, c ≤ l.length → (l ++ r).take c = l.take c := fun c hc => by rw [List.take_append_of_le_length hc]
  have tkr : ∀ c, l.length ≤ c → sb (sgv a.2.2) ((l ++ r).take c) = sb (sgv a.2.2) l ++ sb (sgv a.2.2) (r.take (c - l.length)) := fun c hc => by rw [List.take_append, List.take_of_length_le hc, sb_app]
  have loop : ∀ (q c : Nat) (m1 : Mi), c + q = l.length + r.length → MD 18 m1 (sb (sgv a.2.2) ((l ++ r).take c)) → pgF m m1 → (c ≤ l.length → (sb (sgv a.2.2) (l.take c)).length ≤ 200) → (l.length < c → (sb (sgv a.2.2) l).length ≤ 200 ∧ (sb (sgv a.2.2) (r.take (c - l.length))).length ≤ 200) → ∀ x3 : Int, (c ≤ l.length → x3 = -1) → (l.length < c → x3 = ((sb (sgv a.2.2) l).length : Int)) → Rn X (d + 3) 120 13 [some (.ref 38), some (.int (iz (kk : Int))), some (.ref b), some (.int (iz x3)), some (.int (iz (c : Int))), none, none, none] [] (SS m1 J P) (QI post) := by
    intro q
    induction q with
    | zero =>
      intro c m1 hc hM hF hb1 hb2 x3 h31 h32
      have e1 : m1 g 6 = ((l.length + r.length : Nat) : Int) := (hF _ _ (by omega) (by omega)).trans hQ.1.2.1
      refine b_Tree_putGoal_13 (kk : Int) b x3 (c : Int) kb m1 J P hp post ⟨g, hg, kg, by constructor <;> omega, by rw [e1]; constructor <;> omega, fun _ => ?_, fun q => absurd (by rw [e1]; omega) q⟩
      rw [h32 (by omega)]
      refine k1 (hb2 (by omega)).1 ?_ m1 ?_ hF
      · have := (hb2 (by omega)).2
        rw [List.take_of_length_le (by omega)] at this
        exact this
      · rw [List.take_of_length_le (by omega), sb_app] at hM
        exact hM
    | succ q ih =>
      intro c m1 hc hM hF hb1 hb2 x3 h31 h32
      have hcl : c < (l ++ r).length := by omega
      have e1 : m1 g 6 = ((l.length + r.length : Nat) : Int) := (hF _ _ (by omega) (by omega)).trans hQ.1.2.1
      have e2 : m1 g 5 = (l.length : Int) := (hF _ _ (by omega) (by omega)).trans hQ.1.1
      have ew : m1 (g + 1) c = cl (l ++ r) c := by
        rw [hF _ _ (by omega) (by omega), cl_get hcl]
        have := Ro_get hQ.2.1 hcl
        rw [Nat.zero_add] at this
        exact this
      obtain ⟨w1, w2⟩ := gK_w hK (c := c) (by omega)
      have ha1 : ACm kk a m1 := ACm_fr ha (hF _ _ (by omega) (by omega)) (hF _ _ (by omega) (by omega)) fun k _ _ => hF _ _ (by omega) (by omega)
      have hA1 : BA b sc ar m1 := BA_fr hA hs fun k _ => hF _ _ (by omega) (by omega)
      have ts := sb_take (σ := sgv a.2.2) hcl
      refine b_Tree_putGoal_13 (kk : Int) b x3 (c : Int) kb m1 J P hp post ⟨g, hg, kg, by constructor <;> omega, by rw [e1]; constructor <;> omega, fun q => absurd q (by rw [e1]; omega), fun _ => ⟨g, hg, kg, by constructor <;> omega, by rw [e2]; constructor <;> omega, fun hne => ?_, fun heq => ?_⟩⟩
      · rw [e2] at hne
        by_cases hlt : c < l.length
        · have ex := h31 (by omega)
          have eo : (l ++ r).take c = l.take c := tkl c (by omega)
          have ob : (sb (sgv a.2.2) ((l ++ r).take c)).length ≤ 200 := by rw [eo]; exact hb1 (by omega)
          have e3 : (sb (sgv a.2.2) (l.take (c + 1))).length = (sb (sgv a.2.2) ((l ++ r).take c)).length + (if cl (l ++ r) c < 0 then sgv a.2.2 (cl (l ++ r) c) else [cl (l ++ r) c]).length := by
            rw [← tkl (c + 1) (by omega), ts, List.length_append]
          have le := sb_take_le (σ := sgv a.2.2) (L := l) (c := c + 1)
          refine c_pgBody (d := d) (sc := sc) (ar := ar) (G := vm) (g := g) (kk := kk) (c := c) (lv := 0) (a := a) (w := cl (l ++ r) c) (out := sb (sgv a.2.2) ((l ++ r).take c)) rfl rfl rfl hp hb hs hg hgo hA1 hk ha1 hV (by omega) ew w1 w2 hM (by rw [ex]; rfl) (by rw [ex]; constructor <;> omega) (by omega) (by omega) (fun hgt => kn (Or.inl (by omega)) m1 hF) (fun hle m2 z1 z2 => ?_)
          rw [show (c : Int) + 1 = ((c + 1 : Nat) : Int) by omega]
          refine ih (c + 1) m2 (by omega) (by rw [ts]; exact z1) (pgF_trans hF z2) (fun _ => by omega) (fun g2 => absurd g2 (by omega)) x3 (fun _ => ex) fun g2 => absurd g2 (by omega)
        · have hgt : l.length < c := by omega
          have ex := h32 hgt
          obtain ⟨b1, b2⟩ := hb2 hgt
          have eo := tkr c (by omega)
          have eo1 := tkr (c + 1) (by omega)
          have ol : (sb (sgv a.2.2) ((l ++ r).take c)).length = (sb (sgv a.2.2) l).length + (sb (sgv a.2.2) (r.take (c - l.length))).length := by rw [eo, List.length_append]
          have e3 : (sb (sgv a.2.2) l).length + (sb (sgv a.2.2) (r.take (c + 1 - l.length))).length = (sb (sgv a.2.2) ((l ++ r).take c)).length + (if cl (l ++ r) c < 0 then sgv a.2.2 (cl (l ++ r) c) else [cl (l ++ r) c]).length := by
            rw [← List.length_append, ← eo1, ts, List.length_append]
          have le := sb_take_le (σ := sgv a.2.2) (L := r) (c := c + 1 - l.length)
          refine c_pgBody (d := d) (sc := sc) (ar := ar) (G := vm) (g := g) (kk := kk) (c := c) (lv := ((sb (sgv a.2.2) l).length : Int)) (a := a) (w := cl (l ++ r) c) (out := sb (sgv a.2.2) ((l ++ r).take c)) rfl rfl rfl hp hb hs hg hgo hA1 hk ha1 hV (by omega) ew w1 w2 hM (by rw [ex, if_neg (by omega)]) (by rw [ex]; constructor <;> omega) (by omega) (by omega) (fun hgt => kn (Or.inr (by omega)) m1 hF) (fun hle m2 z1 z2 => ?_)
          rw [show (c : Int) + 1 = ((c + 1 : Nat) : Int) by omega]
          exact ih (c + 1) m2 (by omega) (by rw [ts]; exact z1) (pgF_trans hF z2) (fun g2 => absurd g2 (by omega)) (fun _ => ⟨b1, by omega⟩) x3 (fun g2 => absurd g2 (by omega)) fun _ => ex
      · rw [e2] at heq
        have hcl' : c = l.length := by omega
        have eo : (l ++ r).take c = l := by rw [tkl c (by omega), hcl', List.take_length]
        have ol : (sb (sgv a.2.2) ((l ++ r).take c)).length = (sb (sgv a.2.2) l).length := by rw [eo]
        have b1 : (sb (sgv a.2.2) l).length ≤ 200 := by
          have := hb1 (by omega)
          rw [hcl', List.take_length] at this
          exact this
        have es : m1 18 12 = ((sb (sgv a.2.2) l).length : Int) := by rw [← ol]; exact hM.2.1
        have eo1 := tkr (c + 1) (by omega)
        have e3 : (sb (sgv a.2.2) l).length + (sb (sgv a.2.2) (r.take (c + 1 - l.length))).length = (sb (sgv a.2.2) ((l ++ r).take c)).length + (if cl (l ++ r) c < 0 then sgv a.2.2 (cl (l ++ r) c) else [cl (l ++ r) c]).length := by
          rw [← List.length_append, ← eo1, ts, List.length_append]
        have le := sb_take_le (σ := sgv a.2.2) (L := r) (c := c + 1 - l.length)
        refine c_pgBody (d := d) (sc := sc) (ar := ar) (G := vm) (g := g) (kk := kk) (c := c) (lv := ((sb (sgv a.2.2) l).length : Int)) (a := a) (w := cl (l ++ r) c) (out := sb (sgv a.2.2) ((l ++ r).take c)) (x3 := m1 18 12) rfl rfl rfl hp hb hs hg hgo hA1 hk ha1 hV (by omega) ew w1 w2 hM (by rw [es, if_neg (by omega)]) (by rw [es]; constructor <;> omega) (by omega) (by omega) (fun hgt => kn (Or.inr (by omega)) m1 hF) (fun hle m2 z1 z2 => ?_)
        rw [show (c : Int) + 1 = ((c + 1 : Nat) : Int) by omega]
        exact ih (c + 1) m2 (by omega) (by rw [ts]; exact z1) (pgF_trans hF z2) (fun g2 => absurd g2 (by omega)) (fun _ => ⟨b1, by omega⟩) (m1 18 12) (fun g2 => absurd g2 (by omega)) fun _ => es
  have := loop (l.length + r.length) 0 (mu m 18 12 0) (by omega) ⟨by simp [sb], by rw [mu_at]; simp [sb], by simp [sb, Ro]⟩ (fun a k g1 g2 => mu_ne _ _ g2) (fun _ => by simp [sb]) (fun g2 => absurd g2 (by omega)) (-1) (fun _ => rfl) fun g2 => absurd g2 (by omega)
  exact this
/-- answerFrom() -/
theorem r_answerFrom {kk v : Nat} {a : An} (hp : PP P) (hk : kk < 300) (ha : AR kk a m) (hv : v ≤ a.2.2.length) (h6 : a.2.2.length ≤ 6) (hs : a.2.1 + a.2.2.flatten.length ≤ 30000) {post : Int → Mi → Mj → Mp → Prop} (k : post ((a.2.1 + (a.2.2.take v).flatten.length : Nat) : Int) m J P) : Ci X d 212 [.ref 262, .int (iz (kk : Int)), .int (iz (v : Int))] m J P post := by
  obtain ⟨_, h2, hval, _⟩ := ha
  refine Ci.of rfl rfl rfl (b_Mdl_answerFrom_0 (kk : Int) (v : Int) m J P hp post ?_)
  rw [Int.toNat_natCast, h2]
  refine ⟨by omega, ?_⟩
  have loop : ∀ (q u : Nat), u + q = v → Rn X d 212 10 [some (.ref 262), some (.int (iz (kk : Int))), some (.int (iz (v : Int))), some (.int (iz ((a.2.1 + (a.2.2.take u).flatten.length : Nat) : Int))), some (.int (iz (u : Int)))] [] (SS m J P) (QI post) := by
    intro q
    induction q with
    | zero =>
      intro u hu
      refine b_Mdl_answerFrom_10 (kk : Int) (v : Int) _ (u : Int) m J P hp post ⟨by constructor <;> omega, by constructor <;> omega, fun _ => ?_, fun g => absurd (by omega) g⟩
      rw [show u = v by omega]
      exact k
    | succ q ih =>
      intro u hu
      refine b_Mdl_answerFrom_10 (kk : Int) (v : Int) _ (u : Int) m J P hp post ⟨by constructor <;> omega, by constructor <;> omega, fun g => absurd g (by omega), fun _ => ⟨by omega, ?_⟩⟩
      rw [show ((6 * (kk : Int)) + (u : Int)).toNat = 6 * kk + u by omega, hval u (by omega)]
      have := ih (u + 1) (by omega)
      rw [tk_succ (by omega)] at this
      rw [show ((a.2.1 + (a.2.2.take u).flatten.length : Nat) : Int) + (a.2.2[u].length : Int) = ((a.2.1 + ((a.2.2.take u).flatten.length + a.2.2[u].length) : Nat) : Int) by omega, show (u : Int) + 1 = ((u + 1 : Nat) : Int) by omega]
      exact this
  have := loop v 0 (by omega)
  simp only [List.take_zero, List.flatten_nil, List.length_nil, Nat.add_zero] at this
  exact this
/-- cells are put: x10 of many -/
theorem r_pt84 {x1 x2 x3 : Int} {x4 nx4 n i f many : Nat} {x7 x8 : Int} {w : List Int} (hp : PP P) (k4 : am_kd an_K x4 = some (.inr (0, nx4))) (b4 : nx4 ≤ 100000) (hx4 : x4 ≠ 323 ∧ x4 ≠ 262) (hmany : many = w.length) (hfit : n + many ≤ nx4) (z7 : Zr x7) (hi : i < 40000) (hcase : (0 ≤ x7 ∧ w = [zrem x7 64]) ∨ (x7 < 0 ∧ x8 = (f : Int) ∧ f + many ≤ 40000 ∧ Ro m 323 f w)) {post : Int → Mi → Mj → Mp → Prop} (kx : ∀ m1, Ro m1 x4 n w → (∀ a k, ¬ (a = x4 ∧ n ≤ k) → m1 a k = m a k) → Rn X (d + 1) 211 6 [some (.ref 262), some (.int (iz x1)), some (.int (iz x2)), some (.int (iz x3)), some (.ref x4), some (.int (iz ((n + many : Nat) : Int))), some (.int (iz ((i + 1 : Nat) : Int))), none, none, none, none] [] (SS m1 J P) (QI post)) : ∀ (q j : Nat) (m1 : Mi), j + q = many → (∀ v, v < j → m1 x4 (n + v) = cl w v) → (∀ a k, ¬ (a = x4 ∧ n ≤ k) → m1 a k = m a k) → Rn X (d + 1) 211 84 [some (.ref 262), some (.int (iz x1)), some (.int (iz x2)), some (.int (iz x3)), some (.ref x4), some (.int (iz (n : Int))), some (.int (iz (i : Int))), some (.int (iz x7)), some (.int (iz x8)), some (.int (iz (many : Int))), some (.int (iz (j : Int)))] [] (SS m1 J P) (QI post) := by
  intro q
  induction q with
  | zero =>
    intro j m1 hj h1 hF
    refine b_Mdl_puts_84 x1 x2 x3 x4 nx4 (n : Int) (i : Int) x7 x8 (many : Int) (j : Int) k4 b4 m1 J P hp post ⟨by constructor <;> omega, by constructor <;> omega, fun _ => ?_, fun g => absurd (by omega) g⟩
    rw [show (n : Int) + (many : Int) = ((n + many : Nat) : Int) by omega, show (i : Int) + 1 = ((i + 1 : Nat) : Int) by omega]
    exact kx m1 (Ro_of fun v hv => by rw [h1 v (by omega), cl_get hv]) hF
  | succ q ih =>
    intro j m1 hj h1 hF
    have hjl : j < w.length := by omega
    have step : ∀ v : Int, v = cl w j → Rn X (d + 1) 211 84 [some (.ref 262), some (.int (iz x1)), some (.int (iz x2)), some (.int (iz x3)), some (.ref x4), some (.int (iz (n : Int))), some (.int (iz (i : Int))), some (.int (iz x7)), some (.int (iz x8)), some (.int (iz (many : Int))), some (.int (iz ((j : Int) + 1)))] [] (SS (mu m1 x4 (n + j) v) J P) (QI post) := fun v hv => by
      rw [show (j : Int) + 1 = ((j + 1 : Nat) : Int) by omega]
      refine ih (j + 1) _ (by omega) (fun u hu => ?_) fun a k g => (mu_ne _ _ (by omega)).trans (hF a k g)
      by_cases huj : u = j
      · subst huj
        rw [mu_at, hv]
      · rw [mu_ne _ _ (by omega)]
        exact h1 u (by omega)
    refine b_Mdl_puts_84 x1 x2 x3 x4 nx4 (n : Int) (i : Int) x7 x8 (many : Int) (j : Int) k4 b4 m1 J P hp post ?_
    rw [show ((n : Int) + (j : Int)).toNat = n + j by omega]
    refine ⟨by constructor <;> omega, by constructor <;> omega, fun g => absurd g (by omega), fun _ => ⟨z7, fun h7 => ⟨by omega, step _ ?_⟩, fun h7 => ?_⟩⟩
    · rcases hcase with h | h
      · have hl := h.2
        subst hl
        have : j = 0 := by simp only [List.length_cons, List.length_nil] at hjl; omega
        subst this
        rfl
      · omega
    · rcases hcase with h | h
      · exact absurd h.1 h7
      · obtain ⟨_, h8, h9, h10⟩ := h
        refine ⟨by omega, by omega, step _ ?_⟩
        rw [show (x8 + (j : Int)).toNat = f + j by omega, hF _ _ (by omega), cl_get hjl]
        exact Ro_get h10 hjl
theorem zrem_w {w : Int} (h : 0 ≤ w ∧ w < 16) : zrem (w + 64) 64 = w := by
  have := (zrem_64 (x := w + 64) (by omega)).1
  omega
/-- puts() -/
theorem r_puts {x4 from_ kk : Nat} {a : An} {L : List Int} (hp : PP P) (hx4 : x4 = 343 ∨ x4 = 344) (hk : kk < 300) (ha : AR kk a m) (h6 : a.2.2.length ≤ 6) (hs : a.2.1 + a.2.2.flatten.length ≤ 30000) (hL : ∀ c, c < L.length → (-6 ≤ cl L c ∧ cl L c < 16) ∧ -1 - cl L c < (a.2.2.length : Int)) (hl40 : L.length ≤ 40) (hfr : from_ + L.length ≤ 30000) (hrow : ∀ c, c < L.length → m 323 (from_ + c) = if cl L c < 0 then cl L c else cl L c + 64) {post : Int → Mi → Mj → Mp → Prop} (kn : 200 < (sb (sgv a.2.2) L).length → ∀ m', (∀ b k, b ≠ x4 → m' b k = m b k) → post (-1) m' J P) (k1 : (sb (sgv a.2.2) L).length ≤ 200 → ∀ m', Ro m' x4 0 (sb (sgv a.2.2) L) → (∀ b k, b ≠ x4 → m' b k = m b k) → post ((sb (sgv a.2.2) L).length : Int) m' J P) : Ci X (d + 1) 211 [.ref 262, .int (iz (kk : Int)), .int (iz (from_ : Int)), .int (iz (L.length : Int)), .ref x4] m J P post := by
  have k4 : am_kd an_K x4 = some (.inr (0, 200)) := by rcases hx4 with h | h <;> (rw [h]; decide +kernel)
  have hx4' : x4 ≠ 323 ∧ x4 ≠ 262 ∧ ¬ (323 ≤ x4 ∧ x4 ≤ 336) := by omega
  refine Ci.of rfl rfl rfl (b_Mdl_puts_0 (kk : Int) (from_ : Int) (L.length : Int) x4 200 k4 (by omega) m J P hp post ?_)
  have loop : ∀ (q c : Nat) (m1 : Mi), c + q = L.length → (sb (sgv a.2.2) (L.take c)).length ≤ 200 → Ro m1 x4 0 (sb (sgv a.2.2) (L.take c)) → (∀ b k, b ≠ x4 → m1 b k = m b k) → Rn X (d + 1) 211 6 [some (.ref 262), some (.int (iz (kk : Int))), some (.int (iz (from_ : Int))), some (.int (iz (L.length : Int))), some (.ref x4), some (.int (iz ((sb (sgv a.2.2) (L.take c)).length : Int))), some (.int (iz ((from_ + c : Nat) : Int))), none, none, none, none] [] (SS m1 J P) (QI post) := by
    intro q
    induction q with
    | zero =>
      intro c m1 hc hle hR hF
      refine b_Mdl_puts_6 (kk : Int) (from_ : Int) (L.length : Int) x4 200 _ _ k4 (by omega) m1 J P hp post ⟨by constructor <;> omega, by constructor <;> omega, fun _ => ?_, fun g => absurd (by omega) g⟩
      rw [List.take_of_length_le (by omega)] at hle hR ⊢
      exact k1 hle m1 hR hF
    | succ q ih =>
      intro c m1 hc hle hR hF
      have hcl : c < L.length := by omega
      obtain ⟨⟨w1, w2⟩, w3⟩ := hL c hcl
      have ts := sb_take (σ := sgv a.2.2) hcl
      have le := sb_take_le (σ := sgv a.2.2) (L := L) (c := c + 1)
      have er : m1 323 (from_ + c) = if cl L c < 0 then cl L c else cl L c + 64 := (hF _ _ (by omega)).trans (hrow c hcl)
      have ha1 : AR kk a m1 := AR_fr ha fun b k g1 g2 => hF _ _ (by omega)
      have next : ∀ (x7 x8 : Int) (f many : Nat), many = (if cl L c < 0 then sgv a.2.2 (cl L c) else [cl L c]).length → ((0 ≤ x7 ∧ (if cl L c < 0 then sgv a.2.2 (cl L c) else [cl L c]) = [zrem x7 64]) ∨ (x7 < 0 ∧ x8 = (f : Int) ∧ f + many ≤ 40000 ∧ Ro m1 323 f (if cl L c < 0 then sgv a.2.2 (cl L c) else [cl L c]))) → Zr x7 → (sb (sgv a.2.2) (L.take c)).length + many ≤ 200 → Rn X (d + 1) 211 84 [some (.ref 262), some (.int (iz (kk : Int))), some (.int (iz (from_ : Int))), some (.int (iz (L.length : Int))), some (.ref x4), some (.int (iz ((sb (sgv a.2.2) (L.take c)).length : Int))), some (.int (iz ((from_ + c : Nat) : Int))), some (.int (iz x7)), some (.int (iz x8)), some (.int (iz (many : Int))), some (.int (iz 0))] [] (SS m1 J P) (QI post) := fun x7 x8 f many hmany hcase z7 hfit => by
        refine r_pt84 (d := d) (m := m1) (nx4 := 200) (n := (sb (sgv a.2.2) (L.take c)).length) (i := from_ + c) (f := f) (w := if cl L c < 0 then sgv a.2.2 (cl L c) else [cl L c]) hp k4 (by omega) ⟨hx4'.1, hx4'.2.1⟩ hmany hfit z7 (by omega) hcase (fun m2 c1 c2 => ?_) many 0 m1 (by omega) (fun v hv => absurd hv (Nat.not_lt_zero _)) fun _ _ _ => rfl
        have e3 : (sb (sgv a.2.2) (L.take c)).length + many = (sb (sgv a.2.2) (L.take (c + 1))).length := by rw [ts, List.length_append, hmany]
        rw [e3, show from_ + c + 1 = from_ + (c + 1) by omega]
        refine ih (c + 1) m2 (by omega) (by omega) ?_ fun b k h => (c2 b k (fun g => h g.1)).trans (hF b k h)
        rw [ts]
        exact Ro_app.mpr ⟨Ro_fr hR fun k h1 h2 => c2 _ _ (fun g => by omega), by rw [Nat.zero_add]; exact c1⟩
      have e3 : (sb (sgv a.2.2) (L.take (c + 1))).length = (sb (sgv a.2.2) (L.take c)).length + (if cl L c < 0 then sgv a.2.2 (cl L c) else [cl L c]).length := by rw [ts, List.length_append]
      refine b_Mdl_puts_6 (kk : Int) (from_ : Int) (L.length : Int) x4 200 _ _ k4 (by omega) m1 J P hp post ?_
      rw [Int.toNat_natCast, er]
      by_cases hneg : cl L c < 0
      · rw [if_pos hneg] at e3 next ⊢
        obtain ⟨v, hv⟩ : ∃ v : Nat, cl L c = -1 - (v : Int) := ⟨(-1 - cl L c).toNat, by omega⟩
        rw [hv] at e3 next ⊢
        have hvl : v < a.2.2.length := by omega
        rw [sgv_get hvl] at e3 next
        have ts2 := tk_succ hvl
        have tle := flat_take (vs := a.2.2) (i := v + 1)
        have eV : a.2.2.flatten = (a.2.2.take v).flatten ++ (a.2.2[v] ++ (a.2.2.drop (v + 1)).flatten) := by
          conv => lhs; rw [← List.take_append_drop v a.2.2, List.drop_eq_getElem_cons hvl]
          rw [List.flatten_append, List.flatten_cons]
        have hrw := ha1.2.2.2
        rw [eV] at hrw
        have hr := (Ro_app.mp (Ro_app.mp hrw).2).1
        refine ⟨by constructor <;> omega, by constructor <;> omega, fun g => absurd g (by omega), fun _ => ⟨by omega, by constructor <;> omega, fun g => absurd g (by omega), fun _ => ?_⟩⟩
        rw [show (-1 : Int) - (-1 - (v : Int)) = (v : Int) by omega]
        refine r_answerFrom (d := d) hp hk ha1 (by omega) h6 hs ⟨hp, by constructor <;> omega, fun g => absurd g (by omega), fun _ => ⟨by omega, ?_⟩⟩
        have ei : (((6 * (kk : Int)) - 1) - (-1 - (v : Int))).toNat = 6 * kk + v := by omega
        rw [ei, show m1 336 (6 * kk + v) = (a.2.2[v].length : Int) from ha1.2.2.1 v hvl]
        refine ⟨by constructor <;> omega, fun hle2 => ?_, fun hgt => kn (by omega) m1 hF⟩
        exact next _ _ (a.2.1 + (a.2.2.take v).flatten.length) _ rfl (Or.inr ⟨by omega, rfl, by omega, hr⟩) (by constructor <;> omega) (by omega)
      · rw [if_neg hneg] at e3 next ⊢
        simp only [List.length_cons, List.length_nil] at e3
        refine ⟨by constructor <;> omega, by constructor <;> omega, fun g => absurd g (by omega), fun _ => ⟨by omega, by constructor <;> omega, fun _ => ⟨by constructor <;> omega, fun _ => ⟨by constructor <;> omega, fun hle2 => ?_, fun hgt => kn (by omega) m1 hF⟩, fun g => absurd (by omega) g⟩, fun g => absurd (by omega) g⟩⟩
        exact next _ (-1) 0 1 rfl (Or.inl ⟨by omega, by rw [zrem_w ⟨by omega, w2⟩]⟩) (by constructor <;> omega) (by omega)
  have := loop L.length 0 m (by omega) (by simp [sb]) (by simp [sb, Ro]) fun _ _ _ => rfl
  exact this
end ANS
