/-! addsNode() of the reference -/
section RAD
variable {X : aX} {d : Nat} {P : Mp} {J : Mj} {m m' : Mi} {ar : Nat → Int} {sc G mg : Nat}
theorem cmk_app {b : List Int} : ∀ {a : List Int}, cmk (a ++ b) = cmk a + cmk b
  | [] => (Nat.zero_add _).symm
  | c :: a => by
    show (if 32 ≤ c then 1 else 0) + cmk (a ++ b) = (if 32 ≤ c then 1 else 0) + cmk a + cmk b
    rw [cmk_app]
    omega
theorem cmk_take {L : List Int} {q : Nat} (h : q < L.length) : cmk (L.take (q + 1)) = cmk (L.take q) + if 32 ≤ cl L q then 1 else 0 := by
  rw [List.take_succ_eq_append_getElem h, cmk_app, cl_get h]
  show _ + ((if 32 ≤ L[q] then 1 else 0) + 0) = _
  omega
theorem cmk_le : ∀ {L : List Int}, cmk L ≤ L.length
  | [] => Nat.le_refl _
  | c :: L => by
    show (if 32 ≤ c then 1 else 0) + cmk L ≤ L.length + 1
    have := cmk_le (L := L)
    split <;> omega
/-- the SIZES of VALUES are kept -/
theorem r_ad109 {n N : Nat} {x1 x2 x3 : Int} {post : Int → Mi → Mj → Mp → Prop} (hp : PP P) (hn : n < 1000) (hN : N ≤ 6) {m0 : Mi} (hgv : m0 262 101 = (N : Int)) (kx : ∀ m1 : Mi, (∀ v, v < N → m1 333 (6 * n + v) = m0 338 v) → (∀ a k, ¬ (a = 333 ∧ 6 * n ≤ k ∧ k < 6 * n + 6) → m1 a k = m0 a k) → Rn X (d + 4) 199 147 [some (.ref 262), some (.int (iz x1)), some (.int (iz x2)), some (.int (iz x3)), some (.int (iz (n : Int))), some (.int (iz 0))] [] (SS m1 J P) (QI post)) : ∀ (q u : Nat) (m : Mi), u + q = N → (∀ v, v < u → m 333 (6 * n + v) = m0 338 v) → (∀ a k, ¬ (a = 333 ∧ 6 * n ≤ k ∧ k < 6 * n + 6) → m a k = m0 a k) → Rn X (d + 4) 199 109 [some (.ref 262), some (.int (iz x1)), some (.int (iz x2)), some (.int (iz x3)), some (.int (iz (n : Int))), some (.int (iz (u : Int)))] [] (SS m J P) (QI post) := by
  intro q
  induction q with
  | zero =>
    intro u m hu h1 h2
    refine b_Mdl_addsNode_109 x1 x2 x3 (n : Int) (u : Int) m J P hp post ?_
    rw [show m 262 101 = (N : Int) from (h2 _ _ (by omega)).trans hgv]
    exact ⟨by constructor <;> omega, by constructor <;> omega, fun _ => kx m (fun v hv => h1 v (by omega)) h2, fun g => absurd (by omega) g⟩
  | succ q ih =>
    intro u m hu h1 h2
    refine b_Mdl_addsNode_109 x1 x2 x3 (n : Int) (u : Int) m J P hp post ?_
    rw [show m 262 101 = (N : Int) from (h2 _ _ (by omega)).trans hgv, Int.toNat_natCast, show ((6 * (n : Int)) + (u : Int)).toNat = 6 * n + u by omega]
    refine ⟨by constructor <;> omega, by constructor <;> omega, fun g => absurd g (by omega), fun _ => ⟨by omega, by omega, ?_⟩⟩
    rw [show (u : Int) + 1 = ((u + 1 : Nat) : Int) by omega]
    refine ih (u + 1) _ (by omega) (fun v hv => ?_) fun a k h => (mu_ne _ _ (by omega)).trans (h2 a k h)
    by_cases hvu : v = u
    · subst hvu
      rw [mu_at]
      exact h2 _ _ (by omega)
    · rw [mu_ne _ _ (by omega)]
      exact h1 v (by omega)
/-- what addsNode() writes behind its loops -/
def row6 (m : Mi) (n : Nat) (st v1 v2 v3 v4 : Int) : Mi := mu (mu (mu (mu (mu (mu m 262 102 st) 327 n v1) 328 n v2) 329 n v3) 330 n v4) 332 n (-1)
/-- cells are kept, MARKED ones counted -/
theorem r_ad147 {n pn f sz : Nat} {x1 x2 x3 D : Int} {L : List Int} {post : Int → Mi → Mj → Mp → Prop} (hp : PP P) (hn : n < 1000) (hpn : pn < 1000) (hs : sz ≤ 800) (hf : f + sz ≤ 40000) (hL : L.length ≤ sz) (hLg : ∀ c, c ∈ L → -10000 ≤ c ∧ c < 64) {m0 : Mi} (hst : m0 262 102 = (f : Int)) (hms : m0 262 122 = (sz : Int)) (hml : m0 262 120 + m0 262 121 = (L.length : Int)) (hmk : m0 331 n = 0) (hmd : ∀ q, q < L.length → m0 337 q = c64 (cl L q)) (hpar : (x1 = -1 ∧ D = 0) ∨ (x1 = (pn : Int) ∧ m0 330 pn + 1 = D)) (kx : ∀ m1 : Mi, (∀ q, q < sz → m1 323 (f + q) = m0 337 q) → m1 331 n = (cmk L : Int) → (∀ a k, ¬ (a = 323 ∧ f ≤ k ∧ k < f + sz) → ¬ (a = 331 ∧ k = n) → m1 a k = m0 a k) → Ci X (d + 3) 200 [.ref 262, .int (iz (n : Int))] (row6 m1 n ((f : Int) + (sz : Int)) x1 x2 x3 D) J P (fun z m J P => PP P ∧ (z = 0 ∨ z = 1) ∧ post z m J P)) : ∀ (q u : Nat) (m : Mi), u + q = sz → (∀ v, v < u → m 323 (f + v) = m0 337 v) → m 331 n = (cmk (L.take u) : Int) → (∀ a k, ¬ (a = 323 ∧ f ≤ k ∧ k < f + sz) → ¬ (a = 331 ∧ k = n) → m a k = m0 a k) → Rn X (d + 4) 199 147 [some (.ref 262), some (.int (iz x1)), some (.int (iz x2)), some (.int (iz x3)), some (.int (iz (n : Int))), some (.int (iz (u : Int)))] [] (SS m J P) (QI post) := by
  intro q
  induction q with
  | zero =>
    intro u m hu h1 hm h2
    refine b_Mdl_addsNode_147 x1 x2 x3 (n : Int) (u : Int) m J P hp post ?_
    rw [show m 262 122 = (sz : Int) from (h2 _ _ (by omega) (by omega)).trans hms, show m 262 102 = (f : Int) from (h2 _ _ (by omega) (by omega)).trans hst, Int.toNat_natCast]
    refine ⟨by constructor <;> omega, by constructor <;> omega, fun _ => ⟨by omega, by omega, by omega, by rcases hpar with h | h <;> (constructor <;> omega), fun g => ?_, fun g => ?_⟩, fun g => absurd (by omega) g⟩
    · rcases hpar with h | h
      · omega
      · refine ⟨by omega, by omega, by omega, ?_⟩
        have e : (mu (mu (mu (mu m 262 102 ((f : Int) + (sz : Int))) 327 n x1) 328 n x2) 329 n x3) 330 x1.toNat + 1 = D := by
          rw [mu_a _ (by omega), mu_a _ (by omega), mu_a _ (by omega), mu_a _ (by omega), h2 _ _ (by omega) (by omega), show x1.toNat = pn by omega]
          exact h.2
        rw [e]
        exact kx m (fun v hv => h1 v (by omega)) (by rw [hm, List.take_of_length_le (by omega)]) h2
    · rcases hpar with h | h
      · refine ⟨by omega, by omega, ?_⟩
        have := kx m (fun v hv => h1 v (by omega)) (by rw [hm, List.take_of_length_le (by omega)]) h2
        rw [h.2] at this
        exact this
      · exact absurd (by omega) g
  | succ q ih =>
    intro u m hu h1 hm h2
    refine b_Mdl_addsNode_147 x1 x2 x3 (n : Int) (u : Int) m J P hp post ?_
    have cmkl := cmk_le (L := L.take u)
    have ltk : (L.take u).length ≤ u := by rw [List.length_take]; omega
    rw [show m 262 122 = (sz : Int) from (h2 _ _ (by omega) (by omega)).trans hms, show m 262 102 = (f : Int) from (h2 _ _ (by omega) (by omega)).trans hst, Int.toNat_natCast, Int.toNat_natCast, show ((f : Int) + (u : Int)).toNat = f + u by omega]
    generalize hM : mu m 323 (f + u) (m 337 u) = m3
    have g3 : ∀ a k, ¬ (a = 323 ∧ k = f + u) → m3 a k = m a k := fun a k h => by rw [← hM, mu_ne _ _ h]
    rw [show m3 262 120 + m3 262 121 = (L.length : Int) by rw [g3 _ _ (by omega), g3 _ _ (by omega), h2 _ _ (by omega) (by omega), h2 _ _ (by omega) (by omega)]; exact hml, show m3 337 u = m0 337 u from (g3 _ _ (by omega)).trans (h2 _ _ (by omega) (by omega)), show m3 331 n = (cmk (L.take u) : Int) from (g3 _ _ (by omega)).trans hm, show (u : Int) + 1 = ((u + 1 : Nat) : Int) by omega]
    have hc : ∀ m4 : Mi, (∀ a k, ¬ (a = 331 ∧ k = n) → m4 a k = m3 a k) → (∀ v, v < u + 1 → m4 323 (f + v) = m0 337 v) ∧ ∀ a k, ¬ (a = 323 ∧ f ≤ k ∧ k < f + sz) → ¬ (a = 331 ∧ k = n) → m4 a k = m0 a k := fun m4 h4 => by
      refine ⟨fun v hv => ?_, fun a k q1 q2 => (h4 a k q2).trans ((g3 a k (by omega)).trans (h2 a k q1 q2))⟩
      rw [h4 _ _ (by omega)]
      by_cases hvu : v = u
      · subst hvu
        rw [← hM, mu_at]
        exact h2 _ _ (by omega) (by omega)
      · rw [g3 _ _ (by omega)]
        exact h1 v (by omega)
    refine ⟨by constructor <;> omega, by constructor <;> omega, fun g => absurd g (by omega), fun _ => ⟨by omega, by omega, by constructor <;> omega, by constructor <;> omega, fun g => ?_, fun g => ⟨by omega, ?_, fun g2 => ?_, fun g2 => ⟨by omega, by omega, ?_⟩⟩⟩⟩
    · obtain ⟨h5, h6⟩ := hc m3 fun _ _ _ => rfl
      refine ih (u + 1) m3 (by omega) h5 ?_ h6
      rw [g3 _ _ (by omega), hm, List.take_of_length_le (by omega), List.take_of_length_le (by omega)]
    · have hul : u < L.length := by omega
      have := hLg _ (cl_mem hul)
      rw [hmd u hul]
      unfold c64
      split <;> (constructor <;> omega)
    · have hul : u < L.length := by omega
      have hg := hLg _ (cl_mem hul)
      obtain ⟨h5, h6⟩ := hc m3 fun _ _ _ => rfl
      refine ih (u + 1) m3 (by omega) h5 ?_ h6
      rw [hmd u hul] at g2
      rw [g3 _ _ (by omega), hm, cmk_take hul, if_neg]
      · omega
      · unfold c64 at g2
        split at g2 <;> omega
    · have hul : u < L.length := by omega
      have hg := hLg _ (cl_mem hul)
      obtain ⟨h5, h6⟩ := hc (mu m3 331 n ((cmk (L.take u) : Int) + 1)) fun a k h => mu_ne _ _ h
      refine ih (u + 1) _ (by omega) h5 ?_ h6
      rw [hmd u hul] at g2
      rw [mu_at, cmk_take hul, if_pos]
      · omega
      · unfold c64 at g2
        split at g2 <;> omega
theorem row6_o {n : Nat} {st v1 v2 v3 v4 : Int} {a k : Nat} (h : ¬ (a = 262 ∧ k = 102)) (h2 : ¬ (327 ≤ a ∧ a ≤ 330 ∧ k = n)) (h3 : ¬ (a = 332 ∧ k = n)) : row6 m n st v1 v2 v3 v4 a k = m a k := by
  unfold row6
  rw [mu_ne _ _ h3, mu_ne _ _ (by omega), mu_ne _ _ (by omega), mu_ne _ _ (by omega), mu_ne _ _ (by omega), mu_ne _ _ h]
/-- addsNode() -/
theorem r_addsNode {S : Ts} {l r : List Int} {vs : List (List Int)} {par p u D : Int} {pn : Nat} (hp : PP P) (har : arK sc ar) (hRA : RAr sc ar m) (hgv : m 262 101 = (G : Int)) (hV : TV sc ar G mg S) (hT : TR S m) (hok : okN sc ar l r vs) (hvG : vs.length = G) (hmg : mg = 2 → ∀ c, c ∈ l ++ r → 0 ≤ c → 32 ≤ c) (hml : m 262 120 = (l.length : Int)) (hmr : m 262 121 = (r.length : Int)) (hms : m 262 122 = ((ngr l r vs).length : Int)) (hmd : Ro m 337 0 (l.map c64 ++ (r.map c64 ++ vs.flatten))) (hmv : ∀ v, (h : v < vs.length) → m 338 v = (vs[v].length : Int)) (hpar : (par = -1 ∧ D = 0) ∨ (par = (pn : Int) ∧ pn < S.1.length ∧ m 330 pn + 1 = D)) {post : Int → Mi → Mj → Mp → Prop} (k : ∀ m', TR (tAdd (ayw ar) S (par, p, u, D) l r vs).1 m' → rkF m m' → post (i2b (tAdd (ayw ar) S (par, p, u, D) l r vs).2) m' J P) : Ci X (d + 5) 199 [.ref 262, .int (iz par), .int (iz p), .int (iz u)] m J P post := by
  have hG6 := hV.2.1.1
  have hb1 := hV.1
  simp only [tcl] at hb1
  have h800 := ng_800 hok
  have hln := ng_len (l := l) (r := r) (vs := vs)
  have hgd := ng_gd har.1 hok
  obtain ⟨⟨t1, t2, t3, t4, t5, t6, t6'⟩, t7, t8⟩ := id hT
  have full : (1000 ≤ S.1.length ∨ 30000 < tcl S + 4 + (ngr l r vs).length) → post 0 (mu m 262 95 1) J P := fun hc => by
    have kk := k (mu m 262 95 1)
    unfold tAdd at kk
    rw [if_pos hc] at kk
    exact kk (TR_full hT) fun a k g1 g2 g3 => mu_ne _ _ (by omega)
  have htc : tcl S ≤ 30000 := hV.1.2.2
  refine Ci.of rfl rfl rfl (b_Mdl_addsNode_0 (d := d + 1) par p u m J P hp post ?_)
  rw [t1, t6', hms]
  refine ⟨by constructor <;> omega, fun hc => full (Or.inl (by omega)), fun hc => ⟨by constructor <;> omega, fun hc2 => ⟨by omega, by omega, by omega, by omega, ?_⟩, fun hc2 => full (Or.inr (by omega))⟩⟩
  have hn : S.1.length < 1000 := by omega
  have eT : tAdd (ayw ar) S (par, p, u, D) l r vs = tLook (ayw ar) S.1 ((par, p, u, D), S.2.2.1, (l, r, vs), -1) S.2.1 (S.2.2.1 + (ngr l r vs).length) S.2.2.2.1 S.2.2.2.2.1 S.2.2.2.2.2 := by
    unfold tAdd
    rw [if_neg (by omega)]
  rw [eT] at k
  simp only [Int.toNat_natCast, mu_ne (a := 262) (k := 96) m _ (show ¬ ((262 : Nat) = 262 ∧ (100 : Nat) = 96) by decide), mu_ne (a := 262) (k := 96) m _ (show ¬ ((262 : Nat) = 262 ∧ (122 : Nat) = 96) by decide), t6', hms]
  generalize hM1 : mu (mu m 262 96 ((S.1.length : Int) + 1)) 262 100 ((tcl S : Int) + (4 + ((ngr l r vs).length : Int))) = m1
  have f1 : ∀ a k, ¬ (a = 262 ∧ (k = 96 ∨ k = 100)) → m1 a k = m a k := fun a k h => by rw [← hM1, mu_ne _ _ (by omega), mu_ne _ _ (by omega)]
  rw [show m1 262 102 = (S.2.2.1 : Int) from (f1 _ _ (by omega)).trans t3]
  generalize hM2 : mu m1 324 S.1.length (S.2.2.1 : Int) = m2
  rw [show m2 262 120 = (l.length : Int) by rw [← hM2, mu_a _ (by omega), f1 _ _ (by omega)]; exact hml]
  generalize hM3 : mu m2 325 S.1.length (l.length : Int) = m3
  rw [show m3 262 121 = (r.length : Int) by rw [← hM3, mu_a _ (by omega), ← hM2, mu_a _ (by omega), f1 _ _ (by omega)]; exact hmr]
  generalize hM5 : mu (mu m3 326 S.1.length (r.length : Int)) 331 S.1.length 0 = m5
  have f5 : ∀ a k, ¬ (a = 262 ∧ (k = 96 ∨ k = 100)) → ¬ (324 ≤ a ∧ a ≤ 326 ∧ k = S.1.length) → ¬ (a = 331 ∧ k = S.1.length) → m5 a k = m a k := fun a k h1 h2 h3 => by rw [← hM5, mu_ne _ _ h3, mu_ne _ _ (by omega), ← hM3, mu_ne _ _ (by omega), ← hM2, mu_ne _ _ (by omega), f1 a k h1]
  refine r_ad109 (d := d + 1) (n := S.1.length) (N := vs.length) (m0 := m5) hp hn (by omega) ((f5 _ _ (by omega) (by omega) (by omega)).trans (by rw [hgv, hvG])) (fun m6 c1 c2 => ?_) vs.length 0 _ (by omega) (fun v hv => absurd hv (Nat.not_lt_zero _)) fun _ _ _ => rfl
  have f6 : ∀ a k, ¬ (a = 262 ∧ (k = 96 ∨ k = 100)) → ¬ (324 ≤ a ∧ a ≤ 326 ∧ k = S.1.length) → ¬ (a = 331 ∧ k = S.1.length) → ¬ (a = 333 ∧ 6 * S.1.length ≤ k ∧ k < 6 * S.1.length + 6) → m6 a k = m a k := fun a k h1 h2 h3 h4 => (c2 a k h4).trans (f5 a k h1 h2 h3)
  have elr : (l ++ r).length = l.length + r.length := List.length_append
  obtain ⟨pn', hpn', hpar'⟩ : ∃ pn' : Nat, pn' < 1000 ∧ ((par = -1 ∧ D = 0) ∨ (par = (pn' : Int) ∧ m6 330 pn' + 1 = D)) := by
    rcases hpar with h | h
    · exact ⟨0, by omega, Or.inl h⟩
    · exact ⟨pn, by omega, Or.inr ⟨h.1, by rw [f6 _ _ (by omega) (by omega) (by omega) (by omega)]; exact h.2.2⟩⟩
  refine r_ad147 (d := d + 1) (n := S.1.length) (pn := pn') (f := S.2.2.1) (sz := (ngr l r vs).length) (L := l ++ r) (D := D) (m0 := m6) hp hn hpn' h800.1 (by omega) (by omega) (fun c hc => by have := (hok.2.2.2 c hc).1; exact ⟨this.1, this.2.1⟩) ((f6 _ _ (by omega) (by omega) (by omega) (by omega)).trans t3) ((f6 _ _ (by omega) (by omega) (by omega) (by omega)).trans hms) (by rw [f6 _ _ (by omega) (by omega) (by omega) (by omega), f6 _ _ (by omega) (by omega) (by omega) (by omega), hml, hmr]; omega) (by rw [c2 _ _ (by omega), ← hM5, mu_at]) (fun q hq => ?_) hpar' (fun m7 c3 c4 c5 => ?_) (ngr l r vs).length 0 _ (by omega) (fun v hv => absurd hv (Nat.not_lt_zero _)) (by rw [c2 _ _ (by omega), ← hM5, mu_at]; rfl) fun _ _ _ _ => rfl
  · rw [f6 _ _ (by omega) (by omega) (by omega) (by omega)]
    rw [← List.append_assoc, ← List.map_append] at hmd
    have := Ro_get (Ro_app.mp hmd).1 (i := q) (by rw [List.length_map]; exact hq)
    rw [Nat.zero_add] at this
    rw [this, List.getElem_map, cl_get hq]
  have f7 : ∀ a k, ¬ (a = 262 ∧ (k = 96 ∨ k = 100)) → ¬ (324 ≤ a ∧ a ≤ 326 ∧ k = S.1.length) → ¬ (a = 331 ∧ k = S.1.length) → ¬ (a = 333 ∧ 6 * S.1.length ≤ k ∧ k < 6 * S.1.length + 6) → ¬ (a = 323 ∧ S.2.2.1 ≤ k ∧ k < S.2.2.1 + (ngr l r vs).length) → m7 a k = m a k := fun a k h1 h2 h3 h4 h5 => (c5 a k h5 h3).trans (f6 a k h1 h2 h3 h4)
  generalize hM8 : row6 m7 S.1.length ((S.2.2.1 : Int) + ((ngr l r vs).length : Int)) par p u D = m8
  have f87 : ∀ a k, ¬ (a = 262 ∧ k = 102) → ¬ (327 ≤ a ∧ a ≤ 330 ∧ k = S.1.length) → ¬ (a = 332 ∧ k = S.1.length) → m8 a k = m7 a k := fun a k h1 h2 h3 => by rw [← hM8]; exact row6_o h1 h2 h3
  have f8 : ∀ a k, ¬ (a = 262 ∧ (k = 96 ∨ k = 100 ∨ k = 102)) → ¬ (324 ≤ a ∧ a ≤ 332 ∧ k = S.1.length) → ¬ (a = 333 ∧ 6 * S.1.length ≤ k ∧ k < 6 * S.1.length + 6) → ¬ (a = 323 ∧ S.2.2.1 ≤ k ∧ k < S.2.2.1 + (ngr l r vs).length) → m8 a k = m a k := fun a k h1 h2 h3 h4 => (f87 a k (by omega) (by omega) (by omega)).trans (f7 a k (by omega) (by omega) (by omega) h3 h4)
  have ll : (S.1 ++ [((par, p, u, D), S.2.2.1, (l, r, vs), (-1 : Int))]).length = S.1.length + 1 := by rw [List.length_append]; rfl
  have V2 : TV sc ar G mg (S.1 ++ [((par, p, u, D), S.2.2.1, (l, r, vs), -1)], S.2.1, S.2.2.1 + (ngr l r vs).length, S.2.2.2.1, S.2.2.2.2.1, S.2.2.2.2.2) := by
    refine ⟨⟨?_, hV.1.2.1, ?_⟩, hV.2.1, fun x hx => ?_, fun x hx => AV_up (hV.2.2.2 x hx) (Nat.le_add_right _ _)⟩
    · show (S.1 ++ [((par, p, u, D), S.2.2.1, (l, r, vs), (-1 : Int))]).length ≤ 1000
      omega
    · simp only [tcl] at hc2
      simp only [tcl, ll]
      omega
    · rcases List.mem_append.mp hx with q | q
      · exact NV_up (hV.2.2.1 x q) (Nat.le_add_right _ _)
      · rw [List.mem_singleton.mp q]
        exact ⟨hok, hvG, Nat.le_refl _, hmg⟩
  have T8 : TR (S.1 ++ [((par, p, u, D), S.2.2.1, (l, r, vs), -1)], S.2.1, S.2.2.1 + (ngr l r vs).length, S.2.2.2.1, S.2.2.2.2.1, S.2.2.2.2.2) m8 := by
    refine ⟨⟨?_, ?_, ?_, ?_, ?_, ?_, ?_⟩, fun i x hx => ?_, fun q a ha => ?_⟩
    · simp only [ll]
      rw [f87 _ _ (by omega) (by omega) (by omega), c5 _ _ (by omega) (by omega), c2 _ _ (by omega), ← hM5, mu_a _ (by omega), mu_a _ (by omega), ← hM3, mu_a _ (by omega), ← hM2, mu_a _ (by omega), ← hM1, mu_ne _ _ (by omega), mu_at]; omega
    · rw [f8 _ _ (by omega) (by omega) (by omega) (by omega)]; exact t2
    · rw [← hM8, row6, mu_a _ (by omega), mu_a _ (by omega), mu_a _ (by omega), mu_a _ (by omega), mu_a _ (by omega), mu_at]
      show (S.2.2.1 : Int) + ((ngr l r vs).length : Int) = ((S.2.2.1 + (ngr l r vs).length : Nat) : Int)
      omega
    · rw [f8 _ _ (by omega) (by omega) (by omega) (by omega)]; exact t4
    · rw [f8 _ _ (by omega) (by omega) (by omega) (by omega)]; exact t5
    · rw [f8 _ _ (by omega) (by omega) (by omega) (by omega)]; exact t6
    · simp only [tcl, ll]
      rw [f87 _ _ (by omega) (by omega) (by omega), c5 _ _ (by omega) (by omega), c2 _ _ (by omega), ← hM5, mu_a _ (by omega), mu_a _ (by omega), ← hM3, mu_a _ (by omega), ← hM2, mu_a _ (by omega), ← hM1, mu_at]
      simp only [tcl]
      omega
    · rcases gl_snoc hx with ⟨q1, q⟩ | ⟨q, q2⟩
      · have hx2 := (hV.2.2.1 x (gl_lt q).2).2.2.1
        obtain ⟨⟨h1, h2, h3', h4', h5, h6, h7, h8, h9⟩, h10, h11⟩ := t7 i x q
        have hvl := (hV.2.2.1 x (gl_lt q).2).2.1
        have g8 : ∀ a, 324 ≤ a → a ≤ 332 → m8 a i = m a i := fun a g1 g2 => f8 _ _ (by omega) (by omega) (by omega) (by omega)
        refine ⟨⟨(g8 _ (by omega) (by omega)).trans h1, (g8 _ (by omega) (by omega)).trans h2, (g8 _ (by omega) (by omega)).trans h3', (g8 _ (by omega) (by omega)).trans h4', (g8 _ (by omega) (by omega)).trans h5, (g8 _ (by omega) (by omega)).trans h6, (g8 _ (by omega) (by omega)).trans h7, (g8 _ (by omega) (by omega)).trans h8, (g8 _ (by omega) (by omega)).trans h9⟩, fun v hv => ?_, Ro_fr h11 fun k g1 g2 => f8 _ _ (by omega) (by omega) (by omega) (fun g => ?_)⟩
        · rw [f8 _ _ (by omega) (by omega) (by omega) (by omega)]; exact h10 v hv
        · have e1 := ng_len (l := ndl x) (r := ndr x) (vs := ndv x)
          have e2 : (ndg x).length = (ngr (ndl x) (ndr x) (ndv x)).length := rfl
          rw [List.length_append, List.length_append, List.length_map, List.length_map] at g2
          omega
      · subst q; subst q2
        have g87 : ∀ a, ¬ (327 ≤ a ∧ a ≤ 330) → a ≠ 332 → a ≠ 262 → m8 a S.1.length = m7 a S.1.length := fun a g1 g2 g3 => f87 _ _ (by omega) (by omega) (by omega)
        refine ⟨⟨?_, ?_, ?_, ?_, ?_, ?_, ?_, ?_, ?_⟩, fun v hv => ?_, ?_⟩
        · rw [← hM8, row6, mu_a _ (by omega), mu_a _ (by omega), mu_a _ (by omega), mu_a _ (by omega), mu_at]
        · rw [← hM8, row6, mu_a _ (by omega), mu_a _ (by omega), mu_a _ (by omega), mu_at]
        · rw [← hM8, row6, mu_a _ (by omega), mu_a _ (by omega), mu_at]
        · rw [← hM8, row6, mu_a _ (by omega), mu_at]
        · rw [g87 _ (by omega) (by omega) (by omega), c5 _ _ (by omega) (by omega), c2 _ _ (by omega), ← hM5, mu_a _ (by omega), mu_a _ (by omega), ← hM3, mu_at]
        · rw [g87 _ (by omega) (by omega) (by omega), c5 _ _ (by omega) (by omega), c2 _ _ (by omega), ← hM5, mu_a _ (by omega), mu_at]
        · rw [← hM8, row6, mu_at]
        · rw [g87 _ (by omega) (by omega) (by omega), c5 _ _ (by omega) (by omega), c2 _ _ (by omega), ← hM5, mu_a _ (by omega), mu_a _ (by omega), ← hM3, mu_a _ (by omega), ← hM2, mu_at]
        · rw [g87 _ (by omega) (by omega) (by omega), c4]
        · have hv2 : v < vs.length := hv
          rw [f87 _ _ (by omega) (by omega) (by omega), c5 _ _ (by omega) (by omega), c1 v hv2, f5 _ _ (by omega) (by omega) (by omega)]
          exact hmv v hv2
        · refine Ro_of fun j hj => ?_
          have h1 := Ro_get hmd hj
          have hj2 : j < (ngr l r vs).length := by
            rw [List.length_append, List.length_append, List.length_map, List.length_map] at hj
            have : (ndv ((par, p, u, D), S.2.2.1, (l, r, vs), (-1 : Int))).flatten.length = vs.flatten.length := rfl
            have : (ndl ((par, p, u, D), S.2.2.1, (l, r, vs), (-1 : Int))).length = l.length := rfl
            have : (ndr ((par, p, u, D), S.2.2.1, (l, r, vs), (-1 : Int))).length = r.length := rfl
            omega
          rw [Nat.zero_add] at h1
          rw [f87 _ _ (by omega) (by omega) (by omega)]
          show m7 323 (S.2.2.1 + j) = _
          rw [c3 j hj2, f6 _ _ (by omega) (by omega) (by omega) (by omega), h1]
    · have hx2 := (hV.2.2.2 a (gl_lt ha).2).2.2.1
      obtain ⟨h1, h2, h3, h4⟩ := t8 q a ha
      refine ⟨?_, ?_, fun v hv => ?_, Ro_fr h4 fun k g1 g2 => f8 _ _ (by omega) (by omega) (by omega) (by omega)⟩
      · rw [f8 _ _ (by omega) (by omega) (by omega) (by omega)]; exact h1
      · rw [f8 _ _ (by omega) (by omega) (by omega) (by omega)]; exact h2
      · rw [f8 _ _ (by omega) (by omega) (by omega) (by omega)]; exact h3 v hv
  refine r_lookA (d := d) (G := G) (mg := mg) hp har (RAr_fr hRA fun k => f8 _ _ (by omega) (by omega) (by omega) (by omega)) ((f8 _ _ (by omega) (by omega) (by omega) (by omega)).trans hgv) V2 T8 (fun m9 w1 w2 => ⟨hp, ?_, k m9 w1 fun a k g1 g2 g3 => (w2 a k g1 g2 g3).trans (f8 a k (by omega) (by omega) (by omega) (by omega))⟩)
  unfold i2b
  split
  · exact Or.inr rfl
  · exact Or.inl rfl
end RAD
