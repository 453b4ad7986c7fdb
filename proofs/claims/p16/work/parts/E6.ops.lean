/-! single calls: system, normal -/
section OPF
variable {X : aX} {d x y : Nat} {P P' : Mp} {J J' : Mj} {m m' m0 m1 : Mi} {Sn : Nat → Nat} {ar : Nat → Int} {sc G mg b s o g N vm t h : Nat} {R : Nat → Mi} {nm : Nat → Int} {l r : List Int} {S : Ts} {st rl q qa z A n : Int} {T : Nat → Int} {L : Nat → Int} {K : List (Nat × Nat × Nat × Int)} {Lm Rm Lf Rf : Nat → List Int}
theorem pkst_t {ay : Int → Nat} {i p j : Nat} {s : PKs} : (pkst ay N Lm Rm Lf Rf i p j s).1 ≤ s.1 + 1 := by
  unfold pkst
  cases pst ay N Lm Rm Lf Rf i p j with
  | none => exact Nat.le_succ _
  | some z => exact Nat.le_refl _
theorem pkJ_t {ay : Int → Nat} {i p : Nat} : ∀ {q j : Nat} {s : PKs}, (pkJ ay N Lm Rm Lf Rf i p q j s).1 ≤ s.1 + q
  | 0, _, _ => Nat.le_refl _
  | q + 1, j, s => by
    have h1 := pkJ_t (ay := ay) (i := i) (p := p) (q := q) (j := j + 1) (s := pkst ay N Lm Rm Lf Rf i p j s)
    have h2 := pkst_t (ay := ay) (N := N) (Lm := Lm) (Rm := Rm) (Lf := Lf) (Rf := Rf) (i := i) (p := p) (j := j) (s := s)
    show (pkJ ay N Lm Rm Lf Rf i p q (j + 1) (pkst ay N Lm Rm Lf Rf i p j s)).1 ≤ _
    omega
theorem pkP_t {ay : Int → Nat} {i : Nat} : ∀ {q p : Nat} {s : PKs}, (pkP ay N Lm Rm Lf Rf i q p s).1 ≤ s.1 + q * N
  | 0, _, s => by rw [Nat.zero_mul]; exact Nat.le_refl _
  | q + 1, p, s => by
    have h1 := pkP_t (ay := ay) (i := i) (q := q) (p := p + 1) (s := pkJ ay N Lm Rm Lf Rf i p N 0 s)
    have h2 := pkJ_t (ay := ay) (N := N) (Lm := Lm) (Rm := Rm) (Lf := Lf) (Rf := Rf) (i := i) (p := p) (q := N) (j := 0) (s := s)
    show (pkP ay N Lm Rm Lf Rf i q (p + 1) (pkJ ay N Lm Rm Lf Rf i p N 0 s)).1 ≤ _
    rw [Nat.add_mul, Nat.one_mul]
    omega
theorem pkI_t {ay : Int → Nat} (hL : ∀ u, u < N → (Lf u).length ≤ 40) : ∀ {q i : Nat} {s : PKs}, i + q ≤ N → (pkI ay N Lm Rm Lf Rf q i s).1 ≤ s.1 + q * (40 * N)
  | 0, _, s, _ => by rw [Nat.zero_mul]; exact Nat.le_refl _
  | q + 1, i, s, hi => by
    have h1 := pkI_t (ay := ay) hL (q := q) (i := i + 1) (s := pkP ay N Lm Rm Lf Rf i (Lf i).length 0 s) (by omega)
    have h2 := pkP_t (ay := ay) (N := N) (Lm := Lm) (Rm := Rm) (Lf := Lf) (Rf := Rf) (i := i) (q := (Lf i).length) (p := 0) (s := s)
    have h3 : (Lf i).length * N ≤ 40 * N := Nat.mul_le_mul_right _ (hL i (by omega))
    show (pkI ay N Lm Rm Lf Rf q (i + 1) (pkP ay N Lm Rm Lf Rf i (Lf i).length 0 s)).1 ≤ _
    rw [Nat.add_mul, Nat.one_mul]
    omega
theorem pkI_b {ay : Int → Nat} (hN : N ≤ 16) (hL : ∀ u, u < N → (Lf u).length ≤ 40) : (pkI ay N Lm Rm Lf Rf N 0 (0, [])).1 < 100000 := by
  have h1 := pkI_t (ay := ay) (Lm := Lm) (Rm := Rm) (Rf := Rf) hL (q := N) (i := 0) (s := (0, [])) (by omega)
  have h2 : N * (40 * N) ≤ 16 * (40 * 16) := Nat.mul_le_mul hN (Nat.mul_le_mul_left _ hN)
  have h3 : (((0, []) : PKs)).1 = 0 := rfl
  omega
/-- both read one text -/
theorem tx_eq (hc : iB h T q qa m) (hr : ujB h T q qa m' J) (h0 : 0 ≤ n) (hn : n ≤ (h : Int)) : txR m' n = txC m n := by
  funext u
  unfold txR txC
  by_cases g : n ≤ u
  · rw [if_pos g, if_pos g]
  · rw [if_neg g, if_neg g, hr.2.2 _ (by omega), hc.2.2 _ (by omega)]
theorem iB_0 {k ka : Int} (H : iB h T q qa m) (h1 : m' 2 1 = 0) (h2 : m' 4 3 = k) (h3 : m' 4 4 = ka) (f : ∀ j, m' 3 j = m 3 j) : iB 0 T k ka m' := ⟨fun j hj => by rw [f j]; exact H.1 j hj, ⟨h1, h2, h3⟩, fun j hj => (f j).trans (H.2.2 j (by omega))⟩
theorem ujB_0 {k ka : Int} (H : ujB h T q qa m J) (h1 : m' 262 1 = 0) (h2 : m' 262 12 = k) (h3 : m' 262 13 = ka) (f : ∀ j, m' 263 j = m 263 j) (f2 : ∀ k, k = 8 ∨ k = 9 → J' 262 k = J 262 k) : ujB 0 T k ka m' J' := ⟨⟨(f2 _ (by omega)).trans H.1.1, (f2 _ (by omega)).trans H.1.2⟩, ⟨h1, h2, h3⟩, fun j hj => by rw [f j]; exact H.2.2 j (by omega)⟩
theorem v_system (H : IV A m J P) (hz : Zr n) (hA : A + 600000 < 2147483647) : Pr X (d + 8) 14 136 [vi n] m J P (IVk (A + 400000)) := by
  have H' : IV (A + 400000) m J P := IV_up H (by omega)
  obtain ⟨b, s, o, g, x', y, hP, h, T, q, qa, z, L, h16, sc, Sn, ar, N, R, t, K, rl, pi, l, r, vm, mg, nm, S, st, pt, hc, hr⟩ := H
  have hp := hP.1
  have hs := pi.1.1.1
  have hb := (BP_kd hP.2.1).1
  have hbs := hP.2.1.2.2
  have hgo : g = 39 ∨ g = 256 := by rcases hP.2.2.1.2.2 with h | h <;> omega
  have c2 : m 2 1 = (h : Int) := hc.1.2.1.1
  have A8 := hc.2.1.1
  have A18 := hc.2.1.2
  have rt : ∀ {m1 J1}, rH h T q qa z L sc Sn ar N R t K rl vm mg nm S st m1 J1 → m1 262 1 = (h : Int) := fun hr1 => hr1.1.2.1.1
  refine Pr.mk' (c_system (d := d + 1) hp hP.2.1 hc.1.1 hz (by show 0 ≤ m 2 1 ∧ m 2 1 ≤ 1600; omega) A8.1 (by have := A8.2; show m 8 _ + _ < _; omega) (fun g0 => ⟨hp, ?_⟩) (fun g0 gj m1 J1 a1 a2 f1 => ⟨hp, ?_⟩) (fun g0 gj m1 J1 P1 hp1 hbp1 hC1 hK1 hat a3 f1 => ⟨hp1, ?_⟩))
  · have g0 : n < 0 ∨ m 2 1 < n := g0
    have rt0 := rt hr
    exact r_system hp hP.2.2.2 hz (by show 0 ≤ m 262 1 ∧ m 262 1 ≤ 1600; omega) hr.1.1 (fun _ => ⟨hp, rfl, H'⟩) (fun g1 => absurd (show 0 ≤ n ∧ n ≤ m 262 1 from g1) (by omega)) (fun g1 => absurd (show 0 ≤ n ∧ n ≤ m 262 1 from g1) (by omega))
  · have g0 : 0 ≤ n ∧ n ≤ m 2 1 := g0
    have hr1 := rH_fr (J' := J1) (m' := m1) hr (fun a k _ => f1.1 a k (by omega) (by omega) (by omega) (by omega) (by omega)) (fun a k _ => f1.2.1 a k (by omega) (by omega))
    have rt1 := rt hr1
    have e : txR m1 n = txC m n := tx_eq hc.1 hr1.1 g0.1 (by omega)
    have hc1 : cH (A + 400000) b g 0 T _ _ z L sc Sn ar N R t K rl l r vm mg nm S st m1 J1 := ⟨iB_0 hc.1 f1.2.2 a1 a2 fun j => f1.1 _ _ (by omega) (by omega) (by omega) (by omega) (by omega), iA_up (iA_fr hc.2.1 fun a k _ => f1.1 a k (by omega) (by omega) (by omega) (by omega) (by omega)) (by omega), iO_fr hc.2.2.1 fun a k _ => f1.1 a k (by omega) (by omega) (by omega) (by omega) (by omega), iS_fr hs hc.2.2.2.1 (fun a k _ => f1.1 a k (by omega) (by omega) (by omega) (by omega) (by omega)) (fun a k _ _ => f1.2.1 a k (by omega) (by omega)), iT_fr hc.2.2.2.2 (fun a k _ => f1.1 a k (by omega) (by omega) (by omega) (by omega) (by omega)) fun k => f1.2.1 _ k (by omega) (by omega)⟩
    refine r_system hp hP.2.2.2 hz (by show 0 ≤ m1 262 1 ∧ m1 262 1 ≤ 1600; omega) hr1.1.1 (fun g1 => absurd (show n < 0 ∨ m1 262 1 < n from g1) (by omega)) ?_ ?_
    · rw [e]
      intro _ _ m2 J2 b1 b2 b3 f2 f3
      exact ⟨hp, rfl, b, s, o, g, x', y, hP, 0, T, _, _, z, L, by omega, sc, Sn, ar, N, R, t, K, rl, pi, l, r, vm, mg, nm, S, st, pt, cH_fr hs hb hgo hc1 (fun a k _ => f2 a k (by omega) (by omega) (by omega)) (fun a k _ => f3 a k (by omega) (by omega)), ujB_0 hr1.1 b3 b1 b2 (fun j => f2 _ _ (by omega) (by omega) (by omega)) (fun k _ => f3 _ k (by omega) (by omega)), ujO_fr hr1.2.1 (fun a k _ => f2 a k (by omega) (by omega) (by omega)), ujS_fr hr1.2.2.1 (fun a k _ => f2 a k (by omega) (by omega) (by omega)) (fun a k _ _ => f3 a k (by omega) (by omega)), ujT_fr hr1.2.2.2 (fun a k _ => f2 a k (by omega) (by omega) (by omega)) fun k => f3 _ k (by omega) (by omega)⟩
    · rw [e]
      intro _ g1
      exact absurd g1 gj
  · have g0 : 0 ≤ n ∧ n ≤ m 2 1 := g0
    have hT : Tx (txC m n) n := txC_T hc.1.1 ⟨g0.1, by omega⟩
    have hS' := qJ_Sq hT gj
    have hN' := qJ_N gj
    have hr1 := rH_fr (J' := J1) (m' := m1) hr (fun a k _ => f1.1 a k (by omega) (by omega) (by omega) (by omega) (by omega) (by omega) (by omega) (by omega) (by omega)) (fun a k _ => f1.2.1 a k (by omega) (by omega))
    have rt1 := rt hr1
    have e : txR m1 n = txC m n := tx_eq hc.1 hr1.1 g0.1 (by omega)
    have hTP1 : TP P1 x' y := ⟨(f1.2.2 _ _ (by omega)).trans hP.2.2.2.1, (f1.2.2 _ _ (by omega)).trans hP.2.2.2.2.1, hP.2.2.2.2.2⟩
    have hSP1 : SPt P1 o g := ⟨(f1.2.2 _ _ (by omega)).trans hP.2.2.1.1, (f1.2.2 _ _ (by omega)).trans hP.2.2.1.2.1, hP.2.2.1.2.2⟩
    have hg8 := hat.2
    refine r_system hp1 hTP1 hz (by show 0 ≤ m1 262 1 ∧ m1 262 1 ≤ 1600; omega) hr1.1.1 (fun g1 => absurd (show n < 0 ∨ m1 262 1 < n from g1) (by omega)) ?_ ?_
    · rw [e]
      intro _ g1
      exact absurd gj g1
    · rw [e]
      intro _ _ m2 J2 P2 x2 y2 hp2 hTP2 pf hC2 hK2 hok b3 f2
      have hpi : pI (qsc (txC m n) n) (qSn (txC m n) n) (qar (txC m n) n) (qN (txC m n) n) (qR (txC m n) n) _ _ 1 := ⟨hS', hN', ⟨hok, pkI_b hS'.1.2 (fun u hu => (Sq_ZK hS' u hu).2.2.1), pkI_G (by omega) (fun e he => by cases he)⟩, Or.inr rfl⟩
      have hc1 : cH (A + 400000) s g 0 T 0 (-1) z L (qsc (txC m n) n) (qSn (txC m n) n) (qar (txC m n) n) (qN (txC m n) n) (qR (txC m n) n) _ _ 1 l r vm mg nm S 0 m1 J1 := ⟨iB_0 hc.1 a3.2.2.1 a3.2.2.2.1 a3.2.2.2.2 fun j => f1.1 _ _ (by omega) (by omega) (by omega) (by omega) (by omega) (by omega) (by omega) (by omega) (by omega), ⟨⟨hat.1, by have := A8.2; omega⟩, ATT_fr A18.1 (f1.1 _ _ (by omega) (by omega) (by omega) (by omega) (by omega) (by omega) (by omega) (by omega) (by omega)) (fun _ => f1.1 _ _ (by omega) (by omega) (by omega) (by omega) (by omega) (by omega) (by omega) (by omega) (by omega)), by rw [f1.1 _ _ (by omega) (by omega) (by omega) (by omega) (by omega) (by omega) (by omega) (by omega) (by omega)]; have := A18.2; omega⟩, iO_fr hc.2.2.1 fun a k _ => f1.1 a k (by omega) (by omega) (by omega) (by omega) (by omega) (by omega) (by omega) (by omega) (by omega), ⟨hC1, hK1, a3.1⟩, a3.2.1, ⟨by rw [f1.1 _ _ (by omega) (by omega) (by omega) (by omega) (by omega) (by omega) (by omega) (by omega) (by omega)]; exact hc.2.2.2.2.2.1.1, by rw [f1.1 _ _ (by omega) (by omega) (by omega) (by omega) (by omega) (by omega) (by omega) (by omega) (by omega)]; exact hc.2.2.2.2.2.1.2⟩, fun g1 => absurd g1 (by omega)⟩
      exact ⟨hp2, rfl, s, b, o, g, x2, y2, ⟨hp2, ⟨(pf _ _ (by omega)).trans hbp1.1, (pf _ _ (by omega)).trans hbp1.2.1, hbp1.2.2⟩, ⟨(pf _ _ (by omega)).trans hSP1.1, (pf _ _ (by omega)).trans hSP1.2.1, hSP1.2.2⟩, hTP2⟩, 0, T, 0, -1, z, L, by omega, _, _, _, _, _, _, _, 1, hpi, l, r, vm, mg, nm, S, 0, ⟨Or.inl rfl, fun g1 => absurd g1 (by omega), fun g1 => absurd g1 (by omega)⟩, cH_fr hS'.1.1 (by omega) hgo hc1 (fun a k _ => f2.1 a k (by omega) (by omega)) (fun a k _ => f2.2 a k (by omega) (by omega)), ujB_0 hr1.1 b3.2.2.1 b3.2.2.2.1 b3.2.2.2.2 (fun j => f2.1 _ _ (by omega) (by omega)) (fun k _ => f2.2 _ k (by omega) (by omega)), ujO_fr hr1.2.1 (fun a k _ => f2.1 a k (by omega) (by omega)), ⟨hC2, hK2, b3.1⟩, b3.2.1, ⟨by rw [f2.1 _ _ (by omega) (by omega)]; exact hr1.2.2.2.2.1.1, by rw [f2.1 _ _ (by omega) (by omega)]; exact hr1.2.2.2.2.1.2⟩, fun g1 => absurd g1 (by omega)⟩
end OPF
