/-! answer(): the GOAL with an ANSWER's VALUES, in the class -/
section CAN
variable {X : aX} {d : Nat} {P : Mp} {J : Mj} {m m' m0 : Mi} {ar : Nat → Int} {sc G mg b g : Nat}
/-- what a VARIABLE becomes -/
def sgv (vs : List (List Int)) (c : Int) : List Int := (vs[(-1 - c).toNat]?).getD [-1]
theorem sgv_get {vs : List (List Int)} {v : Nat} (h : v < vs.length) : sgv vs (-1 - (v : Int)) = vs[v] := by
  unfold sgv
  rw [show (-1 - (-1 - (v : Int))).toNat = v by omega, List.getElem?_eq_getElem h]
  rfl
theorem sb_take {σ : Int → List Int} {L : List Int} {c : Nat} (h : c < L.length) : sb σ (L.take (c + 1)) = sb σ (L.take c) ++ (if cl L c < 0 then σ (cl L c) else [cl L c]) := by
  rw [List.take_succ_eq_append_getElem h, sb_app, cl_get h, sb_cons, sb_nil, List.append_nil]
theorem sb_take_le {σ : Int → List Int} {L : List Int} {c : Nat} : (sb σ (L.take c)).length ≤ (sb σ L).length := by
  have : sb σ L = sb σ (L.take c) ++ sb σ (L.drop c) := by rw [← sb_app, List.take_append_drop]
  rw [this, List.length_append]
  omega
/-- valueStart() -/
theorem c_valueStart {kk v : Nat} {a : An} {S : Ts} (hp : PP P) (hb : b = 54 ∨ b = 155) (hs : sc ≤ 16) (hA : BA b sc ar m) (hk : kk < 300) (ha : ACm kk a m) (hV : AV sc ar G 30000 a) (hv : v ≤ a.2.2.length) {post : Int → Mi → Mj → Mp → Prop} (k : post ((a.2.1 + (a.2.2.take v).flatten.length : Nat) : Int) m J P) : Ci X (d + 2) 121 [.ref 38, .int (iz (kk : Int)), .int (iz (v : Int)), .ref b] m J P post := by
  have kb := kd_book hb
  have kS : am_kd an_K 45 = some (.inr (0, 30000)) := by decide +kernel
  refine Ci.of rfl rfl rfl (b_Tree_valueStart_0 (kk : Int) (v : Int) b kb m J P hp post ?_)
  rw [Int.toNat_natCast, ha.2.1]
  refine ⟨by omega, ?_⟩
  have hfl := hV.2.2.1
  have loop : ∀ (q u : Nat), u + q = v → v < 100000 → Rn X (d + 2) 121 11 [some (.ref 38), some (.int (iz (kk : Int))), some (.int (iz (v : Int))), some (.ref b), some (.int (iz ((a.2.1 + (a.2.2.take u).flatten.length : Nat) : Int))), some (.int (iz (u : Int)))] [] (SS m J P) (QI post) := by
    intro q
    induction q with
    | zero =>
      intro u hu hv2
      refine b_Tree_valueStart_11 (kk : Int) (v : Int) b _ (u : Int) kb m J P hp post ⟨by constructor <;> omega, by constructor <;> omega, fun _ => ?_, fun g => absurd (by omega) g⟩
      rw [show u = v by omega]
      exact k
    | succ q ih =>
      intro u hu hv2
      have hul : u < a.2.2.length := by omega
      have hw := hV.2.1 _ (List.getElem_mem hul)
      have ts := tk_succ hul
      have tle := flat_take (vs := a.2.2) (i := u + 1)
      have eV : a.2.2.flatten = (a.2.2.take u).flatten ++ (a.2.2[u] ++ (a.2.2.drop (u + 1)).flatten) := by
        conv => lhs; rw [← List.take_append_drop u a.2.2, List.drop_eq_getElem_cons hul]
        rw [List.flatten_append, List.flatten_cons]
      have hrow := ha.2.2
      rw [eV] at hrow
      have hr := (Ro_app.mp (Ro_app.mp hrow).2).1
      refine b_Tree_valueStart_11 (kk : Int) (v : Int) b _ (u : Int) kb m J P hp post ⟨by constructor <;> omega, by constructor <;> omega, fun g => absurd g (by omega), fun _ => ?_⟩
      refine c_behind (d := d) (x := 45) (nx := 30000) (f := a.2.1 + (a.2.2.take u).flatten.length) (w := a.2.2[u]) (sc := sc) (ar := ar) hp kb hA hs kS (by omega) (by omega) hw.2.2 hw.1 (Ro_RC hr fun c hc => by have := (hw.2.2 c hc).2; omega) ⟨hp, ?_⟩
      have := ih (u + 1) (by omega) hv2
      rw [ts] at this
      rw [show a.2.1 + (a.2.2.take u).flatten.length + a.2.2[u].length = a.2.1 + ((a.2.2.take u).flatten.length + a.2.2[u].length) by omega, show (u : Int) + 1 = ((u + 1 : Nat) : Int) by omega]
      exact this
  by_cases hv1 : v < 100000
  · have := loop v 0 (by omega) hv1
    simp only [List.take_zero, List.flatten_nil, List.length_nil, Nat.add_zero] at this
    exact this
  · have h1 : a.2.2.flatten.length ≥ a.2.2.length := by
      have : ∀ ws : List (List Int), (∀ w, w ∈ ws → 0 < w.length) → ws.length ≤ ws.flatten.length := fun ws => by
        induction ws with
        | nil => intro _; exact Nat.le_refl _
        | cons w ws ih =>
          intro h
          have h1 := h w List.mem_cons_self
          have h2 := ih fun w' hw => h w' (List.mem_cons_of_mem _ hw)
          rw [List.flatten_cons, List.length_cons, List.length_append]
          omega
      exact this _ fun w hw => ct_ne (hV.2.1 w hw).1
    omega
/-- what putGoal() may change -/
def pgF (m m' : Mi) : Prop := ∀ a k, a ≠ 26 → ¬ (a = 18 ∧ k = 12) → m' a k = m a k
theorem pgF_trans {m'' : Mi} (h : pgF m m') (h2 : pgF m' m'') : pgF m m'' := fun a k g1 g2 => (h2 a k g1 g2).trans (h a k g1 g2)
theorem c_pg160 {x1 x3 x4 : Int} {f len : Nat} {w : List Int} (hp : PP P) (hb : b = 54 ∨ b = 155) (hw : Ro m 45 f w) (hf : f + w.length ≤ 30000) {post : Int → Mi → Mj → Mp → Prop} {out : List Int} (hlen : out.length + w.length ≤ 800) (kx : ∀ m1, MD 18 m1 (out ++ w) → pgF m m1 → Rn X (d + 3) 120 13 [some (.ref 38), some (.int (iz x1)), some (.ref b), some (.int (iz x3)), some (.int (iz (x4 + 1))), none, none, none] [] (SS m1 J P) (QI post)) : ∀ (q j : Nat) (m1 : Mi), j + q = w.length → MD 18 m1 (out ++ w.take j) → pgF m m1 → Rn X (d + 3) 120 160 [some (.ref 38), some (.int (iz x1)), some (.ref b), some (.int (iz x3)), some (.int (iz x4)), some (.int (iz (f : Int))), some (.int (iz (w.length : Int))), some (.int (iz ((f + j : Nat) : Int)))] [] (SS m1 J P) (QI post) := by
  have kb := kd_book hb
  intro q
  induction q with
  | zero =>
    intro j m1 hj h1 hF
    refine b_Tree_putGoal_160 x1 b x3 x4 (f : Int) (w.length : Int) ((f + j : Nat) : Int) kb m1 J P hp post ⟨by constructor <;> omega, by constructor <;> omega, fun _ => ?_, fun g => absurd (by omega) g⟩
    rw [List.take_of_length_le (by omega)] at h1
    exact b_Tree_putGoal_190 x1 b x3 x4 _ _ kb m1 J P hp post (kx m1 h1 hF)
  | succ q ih =>
    intro j m1 hj h1 hF
    have hjl : j < w.length := by omega
    refine b_Tree_putGoal_160 x1 b x3 x4 (f : Int) (w.length : Int) ((f + j : Nat) : Int) kb m1 J P hp post ⟨by constructor <;> omega, by constructor <;> omega, fun g => absurd g (by omega), fun _ => ⟨by omega, ?_⟩⟩
    rw [Int.toNat_natCast, show m1 45 (f + j) = w[j] from (hF _ _ (by omega) (by omega)).trans (Ro_get hw hjl)]
    refine c_bwrite (x0 := 18) hp (kd_bench (Or.inr rfl)) h1 (by rw [List.length_append, List.length_take]; omega) (fun m2 w1 w2 => ⟨hp, ?_⟩)
    rw [show ((f + j : Nat) : Int) + 1 = ((f + (j + 1) : Nat) : Int) by omega]
    refine ih (j + 1) m2 (by omega) ?_ (pgF_trans hF fun a k g1 g2 => w2 a k g1 g2)
    rw [List.take_succ_eq_append_getElem hjl, ← List.append_assoc]
    exact w1
theorem c_pgBody {x1 x3 x4 : Int} {x2 kk c : Nat} {lv : Int} {w : Int} {a : An} {out : List Int} (hx1 : x1 = (kk : Int)) (hx4 : x4 = (c : Int)) (hx2 : x2 = b) (hp : PP P) (hb : b = 54 ∨ b = 155) (hs : sc ≤ 16) (hg : P 38 2 = some g) (hgo : g = 39 ∨ g = 256) (hA : BA b sc ar m) (hk : kk < 300) (ha : ACm kk a m) (hV : AV sc ar G 30000 a) (hc : c < 80) (hw : m (g + 1) c = w) (hwb : -6 ≤ w ∧ w < 16) (hwv : -1 - w < (G : Int)) (hM : MD 18 m out) (hlv : (if x3 < 0 then 0 else x3) = lv) (z3 : Zr x3) (hlv2 : 0 ≤ lv ∧ lv ≤ out.length) (ho : out.length ≤ 400) {post : Int → Mi → Mj → Mp → Prop} (kn : 200 < (out.length : Int) + ((if w < 0 then sgv a.2.2 w else [w]).length : Int) - lv → post (-1) m J P) (kx : (out.length : Int) + ((if w < 0 then sgv a.2.2 w else [w]).length : Int) - lv ≤ 200 → ∀ m1, MD 18 m1 (out ++ (if w < 0 then sgv a.2.2 w else [w])) → pgF m m1 → Rn X (d + 3) 120 13 [some (.ref 38), some (.int (iz x1)), some (.ref b), some (.int (iz x3)), some (.int (iz (x4 + 1))), none, none, none] [] (SS m1 J P) (QI post)) : (∃ q7, P 38 2 = some q7 ∧ am_kd an_K q7 = some (.inl 8) ∧ ((0 : Int) ≤ x4 ∧ (x4 : Int) < 80) ∧ Zr (m (q7 + 1) x4.toNat) ∧ (((0 ≤ (m (q7 + 1) x4.toNat)) → Zr (x3) ∧ Zr (((m 18 12) + 1) - (if x3 < 0 then 0 else x3)) ∧ ((((((m 18 12) + 1) - (if x3 < 0 then 0 else x3)) ≤ 200) → (∃ q12, P 38 2 = some q12 ∧ am_kd an_K q12 = some (.inl 8) ∧ ((0 : Int) ≤ x4 ∧ (x4 : Int) < 80) ∧ Zr (m (q12 + 1) x4.toNat) ∧ ((((m (q12 + 1) x4.toNat) < 0) → Rn X (d + 3) 120 160 [some (.ref 38), some (.int (iz x1)), some (.ref x2), some (.int (iz x3)), some (.int (iz x4)), some (.int (iz 0)), some (.int (iz 1)), some (.int (iz 0))] [] (SS m J P) (QI post)) ∧ (¬ ((m (q12 + 1) x4.toNat) < 0) → (∃ q15, P 38 2 = some q15 ∧ am_kd an_K q15 = some (.inl 8) ∧ ((0 : Int) ≤ x4 ∧ (x4 : Int) < 80) ∧ Cv X (d + 2) 62 [.ref 18, .int (iz (m (q15 + 1) x4.toNat))] m J P (fun m17 J18 P19 => PP P19 ∧ Rn X (d + 3) 120 190 [some (.ref 38), some (.int (iz x1)), some (.ref x2), some (.int (iz x3)), some (.int (iz x4)), some (.int (iz 0)), some (.int (iz 1)), none] [] (SS m17 J18 P19) (QI post))))))) ∧ (¬ ((((m 18 12) + 1) - (if x3 < 0 then 0 else x3)) ≤ 200) → post ((-1)) m J P))) ∧ (¬ (0 ≤ (m (q7 + 1) x4.toNat)) → (∃ q22, P 38 2 = some q22 ∧ am_kd an_K q22 = some (.inl 8) ∧ ((0 : Int) ≤ x4 ∧ (x4 : Int) < 80) ∧ Ci X (d + 2) 121 [.ref 38, .int (iz x1), .int (iz (((-1)) - (m (q22 + 1) x4.toNat))), .ref x2] m J P (fun z27 m24 J25 P26 => PP P26 ∧ Ci X (d + 2) 96 [.ref x2, .ref 45, .int (iz z27)] m24 J25 P26 (fun z32 m29 J30 P31 => PP P31 ∧ Zr (x3) ∧ Zr (((m29 18 12) + (z32 - z27)) - (if x3 < 0 then 0 else x3)) ∧ ((((((m29 18 12) + (z32 - z27)) - (if x3 < 0 then 0 else x3)) ≤ 200) → (∃ q36, P31 38 2 = some q36 ∧ am_kd an_K q36 = some (.inl 8) ∧ ((0 : Int) ≤ x4 ∧ (x4 : Int) < 80) ∧ Zr (m29 (q36 + 1) x4.toNat) ∧ ((((m29 (q36 + 1) x4.toNat) < 0) → Rn X (d + 3) 120 160 [some (.ref 38), some (.int (iz x1)), some (.ref x2), some (.int (iz x3)), some (.int (iz x4)), some (.int (iz z27)), some (.int (iz (z32 - z27))), some (.int (iz z27))] [] (SS m29 J30 P31) (QI post)) ∧ (¬ ((m29 (q36 + 1) x4.toNat) < 0) → (∃ q39, P31 38 2 = some q39 ∧ am_kd an_K q39 = some (.inl 8) ∧ ((0 : Int) ≤ x4 ∧ (x4 : Int) < 80) ∧ Cv X (d + 2) 62 [.ref 18, .int (iz (m29 (q39 + 1) x4.toNat))] m29 J30 P31 (fun m41 J42 P43 => PP P43 ∧ Rn X (d + 3) 120 190 [some (.ref 38), some (.int (iz x1)), some (.ref x2), some (.int (iz x3)), some (.int (iz x4)), some (.int (iz z27)), some (.int (iz (z32 - z27))), none] [] (SS m41 J42 P43) (QI post))))))) ∧ (¬ ((((m29 18 12) + (z32 - z27)) - (if x3 < 0 then 0 else x3)) ≤ 200) → post ((-1)) m29 J30 P31)))))))) := by
  subst hx1 hx4 hx2
  have kb := kd_book hb
  have kg := (SP_kd hgo).1
  have e12 := hM.2.1
  have kS : am_kd an_K 45 = some (.inr (0, 30000)) := by decide +kernel
  refine ⟨g, hg, kg, by omega, ?_⟩
  rw [Int.toNat_natCast, hw, hlv, e12]
  refine ⟨by constructor <;> omega, fun h0 => ?_, fun h0 => ?_⟩
  · rw [if_neg (by omega)] at kn kx
    refine ⟨z3, by constructor <;> omega, fun hle => ⟨g, hg, kg, by omega, by rw [hw]; constructor <;> omega, fun g2 => absurd g2 (by rw [hw]; omega), fun _ => ⟨g, hg, kg, by omega, ?_⟩⟩, fun hgt => kn (by simp only [List.length_cons, List.length_nil]; omega)⟩
    rw [hw]
    refine c_bwrite (x0 := 18) hp (kd_bench (Or.inr rfl)) hM (by omega) (fun m2 w1 w2 => ⟨hp, ?_⟩)
    exact b_Tree_putGoal_190 _ _ x3 _ _ _ kb m2 J P hp post (kx (by simp only [List.length_cons, List.length_nil]; omega) m2 w1 fun a k g1 g2 => w2 a k g1 g2)
  · rw [if_pos (by omega)] at kn kx
    obtain ⟨v, hv⟩ : ∃ v : Nat, w = -1 - (v : Int) := ⟨(-1 - w).toNat, by omega⟩
    have hvl : v < a.2.2.length := by have := hV.1; omega
    rw [hv, sgv_get hvl] at kn kx
    have hwv2 := hV.2.1 _ (List.getElem_mem hvl)
    have hfl := hV.2.2.1
    have ts := tk_succ hvl
    have tle := flat_take (vs := a.2.2) (i := v + 1)
    have eV : a.2.2.flatten = (a.2.2.take v).flatten ++ (a.2.2[v] ++ (a.2.2.drop (v + 1)).flatten) := by
      conv => lhs; rw [← List.take_append_drop v a.2.2, List.drop_eq_getElem_cons hvl]
      rw [List.flatten_append, List.flatten_cons]
    have hrow := ha.2.2
    rw [eV] at hrow
    have hr := (Ro_app.mp (Ro_app.mp hrow).2).1
    refine ⟨g, hg, kg, by omega, ?_⟩
    rw [hw, hv, show (-1 : Int) - (-1 - (v : Int)) = (v : Int) by omega]
    refine c_valueStart (d := d) (S := ([], [], 0, 0, 0, false)) hp hb hs hA hk ha hV (by omega) ⟨hp, ?_⟩
    refine c_behind (d := d + 1) (x := 45) (nx := 30000) (f := a.2.1 + (a.2.2.take v).flatten.length) (w := a.2.2[v]) (sc := sc) (ar := ar) hp kb hA hs kS (by omega) (by omega) hwv2.2.2 hwv2.1 (Ro_RC hr fun c hc => by have := (hwv2.2.2 c hc).2; omega) ⟨hp, ?_⟩
    rw [show (((a.2.1 + (a.2.2.take v).flatten.length + a.2.2[v].length : Nat) : Int)) - ((a.2.1 + (a.2.2.take v).flatten.length : Nat) : Int) = (a.2.2[v].length : Int) by omega]
    refine ⟨z3, by constructor <;> omega, fun hle => ⟨g, hg, kg, by omega, by rw [hw]; constructor <;> omega, fun _ => ?_, fun g2 => absurd (by rw [hw]; omega) g2⟩, fun hgt => kn (by omega)⟩
    have := c_pg160 (X := X) (d := d) (P := P) (J := J) (m := m) (b := x2) (x1 := (kk : Int)) (x3 := x3) (x4 := (c : Int)) (f := a.2.1 + (a.2.2.take v).flatten.length) (len := 0) (w := a.2.2[v]) (out := out) (post := post) hp hb hr (by omega) (by omega) (fun m1 w1 w2 => kx (by omega) m1 w1 w2) a.2.2[v].length 0 m (by omega) (by rw [List.take_zero, List.append_nil]; exact hM) fun _ _ _ _ => rfl
    rw [Nat.add_zero] at this
    exact this
end CAN
