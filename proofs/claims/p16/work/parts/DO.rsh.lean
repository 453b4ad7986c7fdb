/-! show() in the reference -/
section RSH
variable {X : aX} {d : Nat} {P : Mp} {J J' : Mj} {m m' m0 : Mi} {Sn : Nat → Nat} {sc G mg N : Nat} {ar : Nat → Int} {R : Nat → Mi} {nm : Nat → Int} {Lf Rf : Nat → List Int}
theorem RK_wr (h : RK sc Sn ar m J) (f : wrF_ m J m' J') : RK sc Sn ar m' J' := RK_fr h (f.1 _ _ (by omega) (by omega) (by omega) (by omega)) (fun k => f.1 _ _ (by omega) (by omega) (by omega) (by omega)) (fun k => f.2 _ _ (by omega))
theorem RD_pln {xr f : Nat} {l : List Int} (h : Ro m xr f (l.map c64)) (hg : ∀ c, c ∈ l → c < 64) : RD xr f (l.map pln) m := fun i hi => by
  rw [List.length_map] at hi
  have hi2 : i < (l.map c64).length := by rw [List.length_map]; exact hi
  rw [cl_map hi, Ro_get h hi2, List.getElem_map, ← cl_get hi]
  have := hg _ (cl_mem hi)
  unfold plR pln c64
  by_cases q : cl l i < 0
  · rw [if_pos q, if_pos q]
    exact ⟨fun _ => rfl, fun q2 => by omega⟩
  · rw [if_neg q, if_neg q]
    exact ⟨fun q2 => by omega, fun _ => ⟨by omega, by omega⟩⟩
/-- two sides are shown -/
theorem r_sides {xr yr nx ny f f2 n : Nat} {l r : List Int} {s : Ws} (hp : PP P) (hK : RK sc Sn ar m J) (kx : am_kd an_K xr = some (.inr (0, nx))) (bx : nx ≤ 100000) (hx : (xr < 262 ∨ (280 < xr ∧ xr < 299)) ∨ (299 < xr ∧ xr < 347)) (ky : am_kd an_K yr = some (.inr (0, ny))) (bY : ny ≤ 100000) (hy : (yr < 262 ∨ (280 < yr ∧ yr < 299)) ∨ (299 < yr ∧ yr < 347)) (hf : f + l.length ≤ nx) (hf2 : f2 + r.length ≤ ny) (hl : l.length ≤ 200 ∧ r.length ≤ 200) (hg : ∀ c, c ∈ l ++ r → gq sc c) (hct : ctt (ayw ar) l = some 1 ∧ ctt (ayw ar) r = some 1) (hR1 : RD xr f l m) (hR2 : RD yr f2 r m) (h : WR s m J) (hw : Wb n s) (hn : n + 500 ≤ 3000) {mid : Mi → Mj → Mp → Prop} {post : Mi → Mj → Mp → Prop} (k : ∀ m2, wrF_ m J m2 J → (Cv X (d + 3) 189 [.ref 262, .ref yr, .int (iz (f2 : Int)), .int (iz (r.length : Int))] m2 J P post → mid m2 J P)) (k2 : ∀ m', WR (oSide (ayw ar) Sn l r s) m' J → wrF_ m J m' J → post m' J P) : Cv X (d + 3) 189 [.ref 262, .ref xr, .int (iz (f : Int)), .int (iz (l.length : Int))] m J P (fun m28 J29 P30 => PP P30 ∧ Cv X (d + 3) 193 [.ref 262, .int (iz 61)] m28 J29 P30 (fun m33 J34 P35 => PP P35 ∧ mid m33 J34 P35)) := by
  refine r_showRow (d := d) (n := n) hp hK kx bx hx hf hl.1 (fun c hc => hg c (List.mem_append_left _ hc)) hct.1 hR1 h hw (by omega) (fun m1 w1 w2 w3 => ⟨hp, ?_⟩)
  have wl := w2.1.1
  refine r_put (d := d + 3) hp w1.1 (by omega) (by omega) (fun m2 v1 v2 => ⟨hp, ?_⟩)
  have w4 : WR ((wtm (ayw ar) Sn l [] s).1 ++ [61], (wtm (ayw ar) Sn l [] s).2.1, (wtm (ayw ar) Sn l [] s).2.2) m2 J := WR_or w1 v1 v2
  have F2 : wrF_ m J m2 J := wrF__trans w3 (orF_wr v2)
  refine k m2 F2 ?_
  refine r_showRow (d := d) (n := n + l.length + 1) hp (RK_wr hK F2) ky bY hy hf2 hl.2 (fun c hc => hg c (List.mem_append_right _ hc)) hct.2 (fun i hi => ?_) w4 (Wb_add w2 (by simp) (by omega)) (by omega) (fun m3 u1 u2 u3 => k2 m3 u1 (wrF__trans F2 u3))
  rw [F2.1 _ _ (by omega) (by omega) (by omega) (by omega)]
  exact hR2 i hi
/-- OUT shows nothing known -/
theorem r_showx {what k : Int} (hp : PP P) (hz : Zr what) (hw : what < 0 ∨ 4 < what) {post : Int → Mi → Mj → Mp → Prop} (k0 : post (-1) m J P) : Ci X (d + 6) 215 [.ref 262, .int (iz what), .int (iz k)] m J P post := by
  refine Ci.of rfl rfl rfl (b_Mdl_show_0 (d := d + 1) what k m J P hp post ⟨hz, fun _ => ⟨hz, fun _ => ⟨hz, fun g => absurd g (by omega), fun _ => ⟨hz, fun _ => ⟨hz, fun _ => k0, fun g => absurd (by omega) g⟩, fun g => absurd (by omega) g⟩⟩, fun g => absurd (by omega) g⟩, fun g => absurd (by omega) g⟩)
/-- a RULE -/
theorem r_show0 {k : Int} (hp : PP P) (hS : Sq sc Sn ar N R) (hSN : SqN sc Sn N R) (hC : RSy sc Sn ar N R m J) (hz : Zr k) {post : Int → Mi → Mj → Mp → Prop} (k0 : k < 0 ∨ (N : Int) ≤ k → post (-1) m J P) (k1 : 0 ≤ k ∧ k < (N : Int) → ∀ m' J', WR (oRule (ayw ar) Sn (R k.toNat 7) (R k.toNat 0 4).toNat (ZLs Sn sc R k.toNat) (ZRs Sn sc R k.toNat)) m' J' → wrF_ m J m' J' → post ((oRule (ayw ar) Sn (R k.toNat 7) (R k.toNat 0 4).toNat (ZLs Sn sc R k.toNat) (ZRs Sn sc R k.toNat)).1.length : Int) m' J' P) : Ci X (d + 6) 215 [.ref 262, .int (iz 0), .int (iz k)] m J P post := by
  have hs := hS.1.1
  have hy := RSy_Ry hS hSN hC
  have hN := hy.1.1
  have kL : am_kd an_K 281 = some (.inr (0, 640)) := by decide +kernel
  have kR : am_kd an_K 282 = some (.inr (0, 640)) := by decide +kernel
  refine Ci.of rfl rfl rfl (b_Mdl_show_0 (d := d + 1) 0 k m J P hp post ⟨zr0, fun g => absurd rfl g, fun _ => ⟨hz, fun g => k0 (Or.inl g), fun h0 => ⟨hz, by rw [hy.1.2]; constructor <;> omega, fun hlt => ?_, fun g => k0 (Or.inr (by rw [hy.1.2] at g; omega))⟩⟩⟩)
  rw [hy.1.2] at hlt
  obtain ⟨u, rfl⟩ := Int.eq_ofNat_of_zero_le (show 0 ≤ k by omega)
  have hu : u < N := by omega
  have k1' := k1 ⟨by omega, hlt⟩
  rw [Int.toNat_natCast] at k1'
  obtain ⟨n1, n2⟩ := Sq_nm hS hu
  have hZ := Sq_ZK hS u hu
  obtain ⟨⟨y1, y2⟩, ⟨y3, y4⟩, _, _, _⟩ := hy.2 u hu
  obtain ⟨⟨_, _, t3⟩, _, _, t4⟩ := hC.2.2 u hu
  have hgq : ∀ c, c ∈ ZLs Sn sc R u ++ ZRs Sn sc R u → gq sc c := fun c hc => gp_gq (hZ.2.1 c hc)
  obtain ⟨vm, hvm⟩ : ∃ vm, vm = (R u 0 4).toNat := ⟨_, rfl⟩
  rw [← hvm] at k1'
  generalize ZLs Sn sc R u = l at *
  generalize ZRs Sn sc R u = r at *
  have h40 := hZ.2.2
  have hn8 : ∀ v, v < vm → isN (R u 7 v).toNat ∧ 0 < R u 7 v := fun v hv => n2 v (by omega)
  refine r_beginOut hp (fun m1 J1 a1 a2 => ⟨hp, ?_⟩)
  have loop : ∀ (q i : Nat) (J5 : Mj), i + q = vm → (∀ v, v < i → J5 348 v = rN (R u 7 v).toNat) → (∀ v, i ≤ v → J5 348 v = J1 348 v) → (∀ a k, a ≠ 348 → J5 a k = J1 a k) → Rn X (d + 6) 215 24 [some (.ref 262), some (.int (iz 0)), some (.int (iz (u : Int))), some (.int (iz (i : Int)))] [] (SS m1 J5 P) (QI post) := by
    intro q
    induction q with
    | zero =>
      intro i J5 hi h1 h2 h3
      refine b_Mdl_show_24 (d := d + 1) 0 (u : Int) (i : Int) m1 J5 P hp post ?_
      rw [Int.toNat_natCast, show m1 285 u = R u 0 4 from (a2.1 _ _ (by omega) (by omega) (by omega) (by omega)).trans t3, show m1 283 u = (l.length : Int) from (a2.1 _ _ (by omega) (by omega) (by omega) (by omega)).trans y1]
      refine ⟨by omega, by constructor <;> omega, by constructor <;> omega, fun _ => ⟨by omega, ?_⟩, fun g => absurd (by omega) g⟩
      have hWR : WR ([], nmL (R u 7) vm, 0) m1 J5 := ⟨a1.1, a1.2.1, fun v hv => by
        show J5 348 v = (if 0 < nmL (R u 7) vm v then rN (nmL (R u 7) vm v).toNat else 0) ∧ m1 349 v = if nmL (R u 7) vm v < 0 then -(nmL (R u 7) vm v) else 0
        have q0 := a1.2.2 v hv
        unfold nmL
        by_cases g : v < vm
        · have t6v := (hn8 v g).2
          rw [if_pos g, if_pos t6v, if_neg (by omega), h1 v (by omega)]
          exact ⟨rfl, q0.2⟩
        · rw [if_neg g, if_neg (by decide), if_neg (by decide), h2 v (by omega)]
          exact ⟨q0.1, q0.2⟩⟩
      have F1 : wrF_ m J m1 J5 := wrF__trans a2 ⟨fun _ _ _ _ _ _ => rfl, h3⟩
      rw [show (40 * (u : Int)) = ((40 * u : Nat) : Int) by omega]
      refine r_showRow (d := d + 2) (n := 0) (f := 40 * u) (l := l) hp (RK_wr hC.1 F1) kL (by omega) (by omega) (by omega) (by omega) (fun c hc => hgq c (List.mem_append_left _ hc)) hZ.1.1 (Ro_RD (Ro_fr y3 fun k _ _ => F1.1 _ _ (by omega) (by omega) (by omega) (by omega)) fun c hc => by have := (hgq c (List.mem_append_left _ hc)).2; omega) hWR (Wb_nm hn8) (by omega) (fun m2 w1 w2 w3 => ⟨hp, ?_⟩)
      have wl := w2.1.1
      refine r_put hp w1.1 (by omega) (by omega) (fun m3 v1 v2 => ⟨hp, ?_⟩)
      have w4 := WR_or w1 v1 v2
      refine r_put hp w4.1 (by dsimp only; rw [List.length_append]; simp only [List.length_cons, List.length_nil]; omega) (by omega) (fun m5 v3 v4 => ⟨hp, by omega, ?_⟩)
      have w5 := WR_or w4 v3 v4
      have F5 : wrF_ m J m5 J5 := wrF__trans F1 (wrF__trans w3 (wrF__trans (orF_wr v2) (orF_wr v4)))
      rw [show m5 284 u = (r.length : Int) from (F5.1 _ _ (by omega) (by omega) (by omega) (by omega)).trans y2]
      refine r_showRow (d := d + 2) (n := 0 + l.length + 1 + 1) (f := 40 * u) (l := r) hp (RK_wr hC.1 F5) kR (by omega) (by omega) (by omega) (by omega) (fun c hc => hgq c (List.mem_append_right _ hc)) hZ.1.2 (Ro_RD (Ro_fr y4 fun k _ _ => F5.1 _ _ (by omega) (by omega) (by omega) (by omega)) fun c hc => by have := (hgq c (List.mem_append_right _ hc)).2; omega) w5 (Wb_add (Wb_add w2 (by simp) (by omega)) (by simp) (by omega)) (by omega) (fun m6 u1 u2 u3 => ⟨hp, ?_⟩)
      have e := u1.1.1
      rw [show m6 262 136 = _ from e]
      exact k1' m6 J5 u1 (wrF__trans F5 u3)
    | succ q ih =>
      intro i J5 hi h1 h2 h3
      refine b_Mdl_show_24 (d := d + 1) 0 (u : Int) (i : Int) m1 J5 P hp post ?_
      rw [Int.toNat_natCast, show m1 285 u = R u 0 4 from (a2.1 _ _ (by omega) (by omega) (by omega) (by omega)).trans t3]
      refine ⟨by omega, by constructor <;> omega, by constructor <;> omega, fun g => absurd g (by omega), fun _ => ⟨by omega, by omega, ?_⟩⟩
      rw [Int.toNat_natCast, show ((8 * (u : Int)) + (i : Int)).toNat = 8 * u + i by omega, show (i : Int) + 1 = ((i + 1 : Nat) : Int) from rfl]
      refine ih (i + 1) _ (by omega) (fun v hv => ?_) (fun v hv => (mju_ne _ _ (by omega)).trans (h2 v (by omega))) (fun a k g => (mju_ne _ _ (by omega)).trans (h3 a k g))
      by_cases e : v = i
      · rw [e, mju_at, h3 _ _ (by omega), a2.2 _ _ (by omega)]
        exact t4 i (by omega)
      · rw [mju_ne _ _ (by omega)]; exact h1 v (by omega)
  exact loop vm 0 J1 (by omega) (fun v hv => absurd hv (Nat.not_lt_zero _)) (fun _ _ => rfl) fun _ _ _ => rfl
/-- kept PAIRS, looked up -/
theorem QKr_get : ∀ {K : List (Nat × Nat × Nat × Int)} {k i : Nat} {e : Nat × Nat × Nat × Int}, QKr m k K → K[i]? = some e → m 287 (k + i) = (e.1 : Int) ∧ m 288 (k + i) = (e.2.1 : Int) ∧ m 289 (k + i) = (e.2.2.1 : Int) ∧ m 290 (k + i) = e.2.2.2
  | [], _, _, _, _, h => by cases h
  | x :: K, k, 0, e, h, h2 => by
    have : x = e := Option.some.inj h2
    subst this
    exact h.1
  | x :: K, k, i + 1, e, h, h2 => by
    have := QKr_get (k := k + 1) h.2 (show K[i]? = some e from h2)
    rw [show k + (i + 1) = k + 1 + i by omega]
    exact this
/-- what show() may change in the reference -/
def rshF (m : Mi) (J : Mj) (m' : Mi) (J' : Mj) : Prop := (∀ a k, a ≠ 347 → a ≠ 299 → a ≠ 349 → ¬ (302 ≤ a ∧ a ≤ 320) → ¬ (a = 262 ∧ (k = 136 ∨ k = 139 ∨ k = 74 ∨ k = 87 ∨ k = 86 ∨ k = 90 ∨ k = 91)) → m' a k = m a k) ∧ ∀ a k, a ≠ 348 → J' a k = J a k
theorem wrF_rsh (h : wrF_ m J m' J') : rshF m J m' J' := ⟨fun a k g1 g2 g3 _ g5 => h.1 a k g1 g2 g3 (by omega), h.2⟩
theorem mpF_rsh (h : mpF m m') : rshF m J m' J := ⟨fun a k g1 g2 g3 g4 g5 => h a k g4 (by omega), fun _ _ _ => rfl⟩
theorem rshF_trans {m'' : Mi} {J'' : Mj} (h : rshF m J m' J') (h2 : rshF m' J' m'' J'') : rshF m J m'' J'' := ⟨fun a k g1 g2 g3 g4 g5 => (h2.1 a k g1 g2 g3 g4 g5).trans (h.1 a k g1 g2 g3 g4 g5), fun a k g => (h2.2 a k g).trans (h.2 a k g)⟩
/-- a PAIR -/
theorem r_show1 {k : Int} {t : Nat} {K : List (Nat × Nat × Nat × Int)} (hp : PP P) (har : arK sc ar) (hRK : RK sc Sn ar m J) (hK : RyM N Lf Rf m) (hZ : ∀ u, u < N → ZK sc ar (Lf u) (Rf u)) (hz : Zr k) (hQK : QKh t K m) (hok : pkok (t, K)) (ht : t < 100000) (hG : ∀ e, e ∈ K → pkG (ayw ar) N Lf Rf e) (hc0 : ∀ u, u < N → 0 ≤ cl (Lf u) 0) {post : Int → Mi → Mj → Mp → Prop} (k0 : k < 0 ∨ (K.length : Int) ≤ k → post (-1) m J P) (kn : ∀ e Q, K[k.toNat]? = some e → 0 ≤ k → ovl (ayw ar) (Lf e.1) (Rf e.1) (Lf e.2.2.1) (Rf e.2.2.1) e.2.1 = some Q → pw1 (ayw ar) (Lf e.1) (Rf e.1) (Lf e.2.2.1) (Rf e.2.2.1) e.2.1 Q = none ∨ pw2 (ayw ar) (Lf e.1) (Rf e.1) (Lf e.2.2.1) (Rf e.2.2.1) e.2.1 Q = none → ∀ m', mpF m m' → post (-1) m' J P) (k1 : ∀ e Q w1 w2, K[k.toNat]? = some e → 0 ≤ k → ovl (ayw ar) (Lf e.1) (Rf e.1) (Lf e.2.2.1) (Rf e.2.2.1) e.2.1 = some Q → pw1 (ayw ar) (Lf e.1) (Rf e.1) (Lf e.2.2.1) (Rf e.2.2.1) e.2.1 Q = some w1 → pw2 (ayw ar) (Lf e.1) (Rf e.1) (Lf e.2.2.1) (Rf e.2.2.1) e.2.1 Q = some w2 → ∀ m' J', WR (oPair (ayw ar) Sn w1 w2) m' J' → rshF m J m' J' → post ((oPair (ayw ar) Sn w1 w2).1.length : Int) m' J' P) : Ci X (d + 6) 215 [.ref 262, .int (iz 1), .int (iz k)] m J P post := by
  have hRA : RAr sc ar m := ⟨hRK.1.2, hRK.2.2⟩
  have hN := hK.1.1
  have hkl : K.length = if t < 200 then t else 200 := hok
  have ek : m 262 45 = (K.length : Int) := hQK.1.2.1
  have kF : am_kd an_K 319 = some (.inr (0, 200)) := by decide +kernel
  have kS : am_kd an_K 320 = some (.inr (0, 200)) := by decide +kernel
  refine Ci.of rfl rfl rfl (b_Mdl_show_0 (d := d + 1) 1 k m J P hp post ⟨zr1, fun _ => ⟨zr1, fun g => absurd rfl g, fun _ => ⟨hz, fun g => k0 (Or.inl g), fun h0 => ⟨hz, by rw [ek]; constructor <;> (split at hkl <;> omega), fun hlt => ?_, fun g => k0 (Or.inr (by rw [ek] at g; omega))⟩⟩⟩, fun g => absurd (by omega) g⟩)
  rw [ek] at hlt
  obtain ⟨i, rfl⟩ := Int.eq_ofNat_of_zero_le (show 0 ≤ k by omega)
  have hil : i < K.length := by omega
  have hi200 : i < 200 := by split at hkl <;> omega
  rw [Int.toNat_natCast] at kn k1 ⊢
  have he : K[i]? = some K[i] := List.getElem?_eq_getElem hil
  have hm : K[i] ∈ K := List.getElem_mem hil
  generalize K[i] = e at he hm
  obtain ⟨h1, h2, h3, h4⟩ := QKr_get (k := 0) hQK.2 he
  rw [Nat.zero_add] at h1 h2 h3 h4
  obtain ⟨g1, g2, g3, g4, Q, g5⟩ := hG e hm
  rw [h1, h2, h3]
  refine ⟨by omega, by omega, by omega, ?_⟩
  refine r_makesPair (d := d + 2) hp har hRA hK hZ g1 g2 g3 (by rw [g4]; exact hc0 _ g2) (fun Q' hQ' m1 w1n w1s w3 => ⟨hp, ?_⟩) (fun hn m1 w3 => by rw [g5] at hn; cases hn)
  have eQ : Q' = Q := by rw [g5] at hQ'; exact (Option.some.inj hQ').symm
  subst eQ
  rcases h5 : pw1 (ayw ar) (Lf e.1) (Rf e.1) (Lf e.2.2.1) (Rf e.2.2.1) e.2.1 Q' with _ | w1
  · rw [show m1 262 90 = -1 from w1n h5]
    exact ⟨zrm, fun _ => kn e Q' he (by omega) g5 (Or.inl h5) m1 w3, fun g => absurd (by omega) g⟩
  · obtain ⟨f1, f2, f3⟩ := w1s w1 h5
    have lw1 : w1.length ≤ 200 := pt_len h5
    rw [show m1 262 90 = (w1.length : Int) from f1]
    refine ⟨by constructor <;> omega, fun g => absurd g (by omega), fun _ => ?_⟩
    rcases h6 : pw2 (ayw ar) (Lf e.1) (Rf e.1) (Lf e.2.2.1) (Rf e.2.2.1) e.2.1 Q' with _ | w2
    · rw [show m1 262 91 = -1 from f2 h6]
      exact ⟨zrm, fun g => absurd g (by omega), fun _ => kn e Q' he (by omega) g5 (Or.inr h6) m1 w3⟩
    · obtain ⟨f4, f5, f6⟩ := f3 w2 h6
      have lw2 : w2.length ≤ 200 := pt_len h6
      rw [show m1 262 91 = (w2.length : Int) from f4]
      refine ⟨by constructor <;> omega, fun _ => ?_, fun g => absurd (by omega) g⟩
      obtain ⟨⟨c1, c2⟩, ⟨l1, l2⟩, gg⟩ := pw_good har (hZ _ g1) (hZ _ g2) g3 g5 h5 h6
      have hs := har.1
      refine r_beginOut hp (fun m2 J2 a1 a2 => ⟨hp, ?_⟩)
      rw [show m2 262 90 = ((nbr [] w1).1.length : Int) from (a2.1 _ _ (by omega) (by omega) (by omega) (by omega)).trans (by rw [nbr_len]; exact f1)]
      have hRK2 : RK sc Sn ar m2 J2 := RK_wr (RK_fr hRK (w3 _ _ (by omega) (by omega)) (fun k => w3 _ _ (by omega) (by omega)) fun _ => rfl) a2
      refine r_sides (d := d + 2) (post := fun m145 J146 P147 => PP P147 ∧ post (m145 262 136) m145 J146 P147) (xr := 319) (yr := 320) (nx := 200) (ny := 200) (f := 0) (f2 := 0) (n := 0) (l := (nbr [] w1).1) (r := (nbr (nbr [] w1).2 w2).1) hp hRK2 kF (by omega) (by omega) kS (by omega) (by omega) (by omega) (by omega) ⟨l1, l2⟩ gg ⟨c1, c2⟩ (Ro_RD (Ro_fr f5 fun k _ _ => a2.1 _ _ (by omega) (by omega) (by omega) (by omega)) fun c hc => by have := (gg c (List.mem_append_left _ hc)).2; omega) (Ro_RD (Ro_fr f6 fun k _ _ => a2.1 _ _ (by omega) (by omega) (by omega) (by omega)) fun c hc => by have := (gg c (List.mem_append_right _ hc)).2; omega) a1 Wb_0 (by omega) (fun m3 z1 z2 => ?_) (fun m4 u1 u2 => ⟨hp, ?_⟩)
      · rw [show m3 262 91 = ((nbr (nbr [] w1).2 w2).1.length : Int) from (z1.1 _ _ (by omega) (by omega) (by omega) (by omega)).trans ((a2.1 _ _ (by omega) (by omega) (by omega) (by omega)).trans (by rw [nbr_len]; exact f4))]
        exact z2
      · have e2 := u1.1.1
        rw [show m4 262 136 = _ from e2]
        exact k1 e Q' w1 w2 he (by omega) g5 h5 h6 m4 J2 u1 (rshF_trans (mpF_rsh w3) (rshF_trans (wrF_rsh a2) (wrF_rsh u2)))
end RSH
