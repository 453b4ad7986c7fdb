/-! PAIRS and VALUES shown; show() of the class, whole -/
section CPR
variable {X : aX} {d : Nat} {P : Mp} {J J' : Mj} {m m' m0 : Mi} {Sn : Nat → Nat} {sc b s o g G mg N : Nat} {ar : Nat → Int} {R : Nat → Mi} {nm : Nat → Int} {Lf Rf Lm Rm : Nat → List Int}
theorem pkst_G {ay : Int → Nat} {i p j : Nat} {s : PKs} (hi : i < N) (hj : j < N) (hp : p < (Lf i).length) (h : ∀ e, e ∈ s.2 → pkG ay N Lf Rf e) : ∀ e, e ∈ (pkst ay N Lm Rm Lf Rf i p j s).2 → pkG ay N Lf Rf e := by
  unfold pkst pst
  split
  · exact h
  · rename_i z hz
    split at hz
    · cases hz
    · split at hz
      · rename_i hc
        split at hz
        · cases hz
        · rename_i Q hQ
          intro e he
          dsimp only at he
          split at he
          · rcases List.mem_append.mp he with q | q
            · exact h e q
            · rw [List.mem_singleton.mp q]
              exact ⟨hi, hj, hp, hc, Q, hQ⟩
          · exact h e he
      · cases hz
theorem pkJ_G {ay : Int → Nat} {i p : Nat} (hi : i < N) (hp : p < (Lf i).length) : ∀ {q j : Nat} {s : PKs}, j + q ≤ N → (∀ e, e ∈ s.2 → pkG ay N Lf Rf e) → ∀ e, e ∈ (pkJ ay N Lm Rm Lf Rf i p q j s).2 → pkG ay N Lf Rf e
  | 0, _, _, _, h => h
  | q + 1, j, s, hq, h => pkJ_G (q := q) (j := j + 1) (s := pkst ay N Lm Rm Lf Rf i p j s) hi hp (by omega) (pkst_G hi (by omega) hp h)
theorem pkP_G {ay : Int → Nat} {i : Nat} (hi : i < N) : ∀ {q p : Nat} {s : PKs}, p + q ≤ (Lf i).length → (∀ e, e ∈ s.2 → pkG ay N Lf Rf e) → ∀ e, e ∈ (pkP ay N Lm Rm Lf Rf i q p s).2 → pkG ay N Lf Rf e
  | 0, _, _, _, h => h
  | q + 1, p, s, hq, h => pkP_G (q := q) (p := p + 1) (s := pkJ ay N Lm Rm Lf Rf i p N 0 s) hi (by omega) (pkJ_G hi (by omega) (by omega) h)
theorem pkI_G {ay : Int → Nat} : ∀ {q i : Nat} {s : PKs}, i + q ≤ N → (∀ e, e ∈ s.2 → pkG ay N Lf Rf e) → ∀ e, e ∈ (pkI ay N Lm Rm Lf Rf q i s).2 → pkG ay N Lf Rf e
  | 0, _, _, _, h => h
  | q + 1, i, s, hq, h => pkI_G (q := q) (i := i + 1) (s := pkP ay N Lm Rm Lf Rf i (Lf i).length 0 s) (by omega) (pkP_G (by omega) (by omega) h)
/-- what rebuild() may change -/
def rbF (m m' : Mi) : Prop := ∀ a k, ¬ (8 ≤ a ∧ a ≤ 17) → ¬ (a = 36 ∧ k = 6) → m' a k = m a k
theorem c_rebuild {k : Int} {t : Nat} {K : List (Nat × Nat × Nat × Int)} (hp : PP P) (hb : b = 54 ∨ b = 155) (har : arK sc ar) (hX : BKC b sc ar N Lm Rm Lf Rf m) (hZ : ∀ u, u < N → ZK sc ar (Lf u) (Rf u)) (hz : Zr k) (hK : PKh t K m) (hok : pkok (t, K)) (ht : t < 100000) (hG : ∀ e, e ∈ K → pkG (ayw ar) N Lf Rf e) (hAT : ATT 8 m) (hA0 : m 8 8 < 2147483647) {post : Int → Mi → Mj → Mp → Prop} (k0 : k < 0 ∨ (K.length : Int) ≤ k → post 0 m J P) (kn : ∀ e Q, K[k.toNat]? = some e → 0 ≤ k → ovl (ayw ar) (Lf e.1) (Rf e.1) (Lf e.2.2.1) (Rf e.2.2.1) e.2.1 = some Q → pw1 (ayw ar) (Lf e.1) (Rf e.1) (Lf e.2.2.1) (Rf e.2.2.1) e.2.1 Q = none ∨ pw2 (ayw ar) (Lf e.1) (Rf e.1) (Lf e.2.2.1) (Rf e.2.2.1) e.2.1 Q = none → ∀ m', ATT 8 m' → m' 8 8 ≤ m 8 8 + 1 → rbF m m' → post 0 m' J P) (k1 : ∀ e Q w1 w2, K[k.toNat]? = some e → 0 ≤ k → ovl (ayw ar) (Lf e.1) (Rf e.1) (Lf e.2.2.1) (Rf e.2.2.1) e.2.1 = some Q → pw1 (ayw ar) (Lf e.1) (Rf e.1) (Lf e.2.2.1) (Rf e.2.2.1) e.2.1 Q = some w1 → pw2 (ayw ar) (Lf e.1) (Rf e.1) (Lf e.2.2.1) (Rf e.2.2.1) e.2.1 Q = some w2 → ∀ m', MD 8 m' (nbr [] (w1 ++ w2)).1 → ATT 8 m' → m' 8 8 ≤ m 8 8 + 1 → rbF m m' → post 1 m' J P) : Ci X (d + 4) 128 [.ref 36, .int (iz k), .ref b] m J P post := by
  have kb := kd_book hb
  have hN := hX.2.1.1
  have hkl : K.length = if t < 200 then t else 200 := hok
  have et := hK.1.1
  refine Ci.of rfl rfl rfl (b_Pairs_rebuild_0 k b kb m J P hp post ?_)
  refine c_holds hp hz (by rw [et]; constructor <;> omega) (fun hh => ⟨hp, zr0, fun g => absurd rfl g, fun _ => k0 ?_⟩) (fun hh => ⟨hp, zr1, fun _ => ?_, fun g => absurd (by omega) g⟩)
  · rw [et] at hh
    split at hkl <;> omega
  · rw [et] at hh
    obtain ⟨i, rfl⟩ := Int.eq_ofNat_of_zero_le hh.1
    rw [Int.toNat_natCast] at kn k1
    have hil : i < K.length := by split at hkl <;> omega
    have he : K[i]? = some K[i] := List.getElem?_eq_getElem hil
    have hm : K[i] ∈ K := List.getElem_mem hil
    generalize K[i] = e at he hm
    obtain ⟨h1, h2, h3, h4⟩ := PKr_get (k := 0) hK.2 he
    rw [Nat.zero_add] at h1 h2 h3 h4
    obtain ⟨g1, g2, g3, g4, Q, g5⟩ := hG e hm
    rw [show ((i : Int) * 4).toNat = 4 * i by omega, show ((i : Int) * 4 + 1).toNat = 4 * i + 1 by omega, show ((i : Int) * 4 + 2).toNat = 4 * i + 2 by omega, h1, h2, h3]
    refine ⟨by omega, by omega, by omega, ?_⟩
    have hZ1 := hZ _ g1
    have hZ2 := hZ _ g2
    refine c_overlap (d := d) hp hb har hX.1 (by omega) (by omega) g3 hZ1 hZ2 (hX.2.2 _ g1) (hX.2.2 _ g2) hAT hA0 (fun _ Q' hQ' m1 rt T B col y1 y2 y3 y4 y5 y6 y7 y8 => ⟨hp, zr1, fun q => absurd q (by omega), fun _ => ⟨by omega, by omega, by omega, ?_⟩⟩) (fun hn m1 y1 y2 y3 => ?_)
    · have eQ : Q' = Q := by rw [g5] at hQ'; exact (Option.some.inj hQ').symm
      subst eQ
      have f8 : ∀ k, m1 37 k = m 37 k := fun k => y8 _ _ (by omega)
      rw [f8, f8, f8, h1, h2, h3]
      refine c_pwrite (d := d + 1) hp hb har (by omega) (by omega) g3 hZ1 hZ2 (RB_fr (hX.2.2 _ g1) fun a k q1 q2 => y8 _ _ (by omega)) (RB_fr (hX.2.2 _ g2) fun a k q1 q2 => y8 _ _ (by omega)) g5 y1 y2 y4 y5 y6 (fun w1 w2 e1 e2 m2 z1 z2 z3 z4 z5 => ⟨hp, zr1, fun q => absurd q (by omega), fun _ => ?_⟩) (fun hn m2 z3 z4 z5 => ⟨hp, zr0, fun _ => ?_, fun q => absurd rfl q⟩)
      · exact k1 e Q' w1 w2 he (by omega) g5 e1 e2 m2 z1 z3 (by omega) fun a k q1 q2 => (z5 a k q1 q2).trans (y8 _ _ (by omega))
      · exact kn e Q' he (by omega) g5 hn m2 z3 (by omega) fun a k q1 q2 => (z5 a k q1 q2).trans (y8 _ _ (by omega))
    · have := hn g4
      rw [g5] at this
      cases this
/-- a PAIR, shown -/
def oPair (ay : Int → Nat) (Sn : Nat → Nat) (w1 w2 : List Int) : Ws := oSide ay Sn (nbr [] w1).1 (nbr (nbr [] w1).2 w2).1 W0
/-- what is good about the two TERMS of a PAIR -/
theorem pw_good {l1 r1 l2 r2 : List Int} {p : Nat} {Q : Nat → Nat} {w1 w2 : List Int} (har : arK sc ar) (h1 : ZK sc ar l1 r1) (h2 : ZK sc ar l2 r2) (hpl : p < l1.length) (hQ : ovl (ayw ar) l1 r1 l2 r2 p = some Q) (e1 : pw1 (ayw ar) l1 r1 l2 r2 p Q = some w1) (e2 : pw2 (ayw ar) l1 r1 l2 r2 p Q = some w2) : (ctt (ayw ar) (nbr [] w1).1 = some 1 ∧ ctt (ayw ar) (nbr (nbr [] w1).2 w2).1 = some 1) ∧ ((nbr [] w1).1.length ≤ 200 ∧ (nbr (nbr [] w1).2 w2).1.length ≤ 200) ∧ ∀ c, c ∈ (nbr [] w1).1 ++ (nbr (nbr [] w1).2 w2).1 → gq sc c := by
  have n0 := ct_ne h1.1.1
  have hlen := pgr_len (l1 := l1) (r1 := r1) (l2 := l2) (r2 := r2)
  have n1 := ct_ne h1.1.2
  have k1 := pw_ok har h1 h2 hpl hQ (a := l1.length) (by omega) e1
  have k2 := pw_ok har h1 h2 hpl hQ (a := 0) (by omega) e2
  have hv : ∀ c, c < 0 → ayw ar c = 0 := fun c hc => by unfold ayw; rw [if_pos hc]
  have s1 := nbr_seen (l := w1) (seen := [])
  rw [List.length_nil] at s1
  have hs := har.1
  refine ⟨⟨by rw [ct_cong (nbr_ay hv)]; exact k1.1.1, by rw [ct_cong (nbr_ay hv)]; exact k2.1.1⟩, ⟨by rw [nbr_len]; exact k1.1.2, by rw [nbr_len]; exact k2.1.2⟩, fun c hc => ?_⟩
  have l1' := k1.1.2
  have l2' := k2.1.2
  unfold gq
  rcases List.mem_append.mp hc with q | q
  · rcases nbr_mem q with g | g
    · have := (k1.2 c g.2).1 g.1
      omega
    · rw [List.length_nil] at g
      omega
  · rcases nbr_mem q with g | g
    · have := (k2.2 c g.2).1 g.1
      omega
    · omega
/-- what show() may change in the class -/
def cshF (m : Mi) (J : Mj) (m' : Mi) (J' : Mj) : Prop := (∀ a k, a ≠ 51 → a ≠ 53 → ¬ (a = 50 ∧ (k = 1 ∨ k = 3)) → ¬ (8 ≤ a ∧ a ≤ 17) → ¬ (a = 36 ∧ k = 6) → m' a k = m a k) ∧ ∀ a k, a ≠ 52 → J' a k = J a k
theorem wcF_csh (h : wcF m J m' J') : cshF m J m' J' := ⟨fun a k g1 g2 g3 _ _ => h.1 a k g1 g2 g3, h.2⟩
theorem c_showPair {k : Int} {t : Nat} {K : List (Nat × Nat × Nat × Int)} (hp : PP P) (hb : b = 54 ∨ b = 155) (hP : P 1 8 = some b) (har : arK sc ar) (hB : BN b Sn sc m J) (hX : BKC b sc ar N Lm Rm Lf Rf m) (hZ : ∀ u, u < N → ZK sc ar (Lf u) (Rf u)) (hz : Zr k) (hK : PKh t K m) (hok : pkok (t, K)) (ht : t < 100000) (hG : ∀ e, e ∈ K → pkG (ayw ar) N Lf Rf e) (hAT : ATT 8 m) (hA0 : m 8 8 < 2147483647) {post : Int → Mi → Mj → Mp → Prop} (k0 : k < 0 ∨ (K.length : Int) ≤ k → post (-1) m J P) (kn : ∀ e Q, K[k.toNat]? = some e → 0 ≤ k → ovl (ayw ar) (Lf e.1) (Rf e.1) (Lf e.2.2.1) (Rf e.2.2.1) e.2.1 = some Q → pw1 (ayw ar) (Lf e.1) (Rf e.1) (Lf e.2.2.1) (Rf e.2.2.1) e.2.1 Q = none ∨ pw2 (ayw ar) (Lf e.1) (Rf e.1) (Lf e.2.2.1) (Rf e.2.2.1) e.2.1 Q = none → ∀ m', ATT 8 m' → m' 8 8 ≤ m 8 8 + 1 → rbF m m' → post (-1) m' J P) (k1 : ∀ e Q w1 w2, K[k.toNat]? = some e → 0 ≤ k → ovl (ayw ar) (Lf e.1) (Rf e.1) (Lf e.2.2.1) (Rf e.2.2.1) e.2.1 = some Q → pw1 (ayw ar) (Lf e.1) (Rf e.1) (Lf e.2.2.1) (Rf e.2.2.1) e.2.1 Q = some w1 → pw2 (ayw ar) (Lf e.1) (Rf e.1) (Lf e.2.2.1) (Rf e.2.2.1) e.2.1 Q = some w2 → ∀ m' J', WC (oPair (ayw ar) Sn w1 w2) m' J' → ATT 8 m' → m' 8 8 ≤ m 8 8 + 1 → cshF m J m' J' → post ((oPair (ayw ar) Sn w1 w2).1.length : Int) m' J' P) : Ci X (d + 5) 127 [.ref 1, .int (iz k)] m J P post := by
  have kb := kd_book hb
  have hs := har.1
  have kM : am_kd an_K 16 = some (.inr (0, 800)) := by decide +kernel
  refine Ci.of rfl rfl rfl (b_Nh_showPair_0 k m J P hp post ⟨b, hP, kb, ?_⟩)
  refine c_rebuild (d := d) hp hb har hX hZ hz hK hok ht hG hAT hA0 (fun h => ⟨hp, zr0, fun g => absurd rfl g, fun _ => k0 h⟩) (fun e Q he h0 hQ hn m1 z1 z2 z3 => ⟨hp, zr0, fun g => absurd rfl g, fun _ => kn e Q he h0 hQ hn m1 z1 z2 z3⟩) (fun e Q w1 w2 he h0 hQ e1 e2 m1 z1 z2 z3 z4 => ⟨hp, zr1, fun _ => ?_, fun g => absurd (by omega) g⟩)
  have hm : e ∈ K := (gl_lt he).2
  obtain ⟨g1, g2, g3, g4, _⟩ := hG e hm
  obtain ⟨⟨c1, c2⟩, ⟨l1, l2⟩, gg⟩ := pw_good har (hZ _ g1) (hZ _ g2) g3 hQ e1 e2
  refine c_beginPage hp (fun m2 J2 a1 a2 => ⟨hp, ?_⟩)
  have hrow := z1.2.2
  rw [nbr_app] at hrow
  obtain ⟨hr1, hr2⟩ := Ro_app.mp hrow
  have F : ∀ a k, ¬ (8 ≤ a ∧ a ≤ 17) → ¬ (a = 36 ∧ k = 6) → a ≠ 51 → a ≠ 53 → ¬ (a = 50 ∧ (k = 1 ∨ k = 3)) → m2 a k = m a k := fun a k h1 h2 h3 h4 h5 => (a2.1 a k h3 h4 h5).trans (z4 a k h1 h2)
  have hB2 : BN b Sn sc m2 J2 := ⟨⟨(F _ _ (by omega) (by omega) (by omega) (by omega) (by omega)).trans hB.1.1, hB.1.2⟩, fun i hi => ⟨(a2.2 _ _ (by omega)).trans (hB.2 i hi).1, (hB.2 i hi).2⟩⟩
  have hA2 : BA b sc ar m2 := BA_fr hX.1 hs fun k _ => F _ _ (by omega) (by omega) (by omega) (by omega) (by omega)
  refine c_showSides (d := d) (x := 16) (nx := 800) (f := 0) (n := 0) (l := (nbr [] w1).1) (r := (nbr (nbr [] w1).2 w2).1) hp hb hP hB2 hA2 kM (by omega) (by omega) (by omega) (by omega) ⟨l1, l2⟩ gg ⟨c1, c2⟩ (Ro_RC (Ro_fr hr1 fun k _ _ => a2.1 _ _ (by omega) (by omega) (by omega)) fun c hc => by have := (gg c (List.mem_append_left _ hc)).2; omega) (Ro_RC (Ro_fr hr2 fun k _ _ => a2.1 _ _ (by omega) (by omega) (by omega)) fun c hc => by have := (gg c (List.mem_append_right _ hc)).2; omega) a1 Wb_0 (by omega) (fun m3 J3 u1 u2 => ⟨hp, ?_⟩)
  have F3 : ∀ a k, 8 ≤ a → a ≤ 17 → m3 a k = m1 a k := fun a k h1 h2 => (u2.1 a k (by omega) (by omega) (by omega)).trans (a2.1 a k (by omega) (by omega) (by omega))
  exact k1 e Q w1 w2 he h0 hQ e1 e2 m3 J3 u1 (ATT_fr z2 (F3 _ _ (by omega) (by omega)) fun z => F3 _ _ (by omega) (by omega)) (by rw [F3 _ _ (by omega) (by omega)]; exact z3) ⟨fun a k h1 h2 h3 h4 h5 => (u2.1 a k h1 h2 h3).trans (F a k h4 h5 h1 h2 h3), fun a k h => (u2.2 a k h).trans (a2.2 a k h)⟩
/-- VALUES of a NODE or an ANSWER, shown -/
theorem c_showV {f fil : Nat} {l r : List Int} {vm : Nat} {vs : List (List Int)} (hp : PP P) (hb : b = 54 ∨ b = 155) (hP : P 1 8 = some b) (hgo : g = 39 ∨ g = 256) (har : arK sc ar) (hB : BN b Sn sc m J) (hA : BA b sc ar m) (hQ : GQ g l r vm nm m J) (hv6 : vm ≤ 6) (hnm : ∀ v, v < vm → isN (nm v).toNat ∧ 0 < nm v) (hlen : vs.length = vm) (hok : ∀ w, w ∈ vs → okw sc ar w) (hf : f + vs.flatten.length ≤ 30000) (h800 : vs.flatten.length ≤ 800) (hrow : Ro m 45 f vs.flatten) {post : Int → Mi → Mj → Mp → Prop} (k : ∀ m' J', WC (oVal (ayw ar) Sn nm vs) m' J' → wcF m J m' J' → post ((oVal (ayw ar) Sn nm vs).1.length : Int) m' J' P) : Ci X (d + 4) 94 [.ref 1, .ref 45, .int (iz (f : Int)), .ref g] m J P post := by
  have kg := (SP_kd hgo).1
  have hs := har.1
  have kS : am_kd an_K 45 = some (.inr (0, 30000)) := by decide +kernel
  have tl : tln vs = vs.flatten.length := tln_flat
  exact c_showValues (d := d) (x := 45) (nx := 30000) (f := f) (o := g) (N := vm) (vs := vs) (nm := nm) hp hb hP hB hA kS (by omega) (by omega) (by omega) kg ⟨by omega, by omega⟩ hv6 hQ.1.2.2 hQ.2.2 hnm hlen (by omega) hok (Ro_RCl hrow (okw_32 hs hok)) (by omega) k
end CPR
