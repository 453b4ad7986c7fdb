/-! single calls: normal, unify, goal -/
section OPG
variable {X : aX} {d x y : Nat} {P P' : Mp} {J J' : Mj} {m m' m0 m1 : Mi} {Sn : Nat → Nat} {ar : Nat → Int} {sc G mg b s o g N vm t h : Nat} {R : Nat → Mi} {nm : Nat → Int} {l r : List Int} {S : Ts} {st rl q qa z A n : Int} {T : Nat → Int} {L : Nat → Int} {K : List (Nat × Nat × Nat × Int)} {Lm Rm Lf Rf : Nat → List Int}
/-- the class's half behind a question that empties the tape -/
theorem cH_n {k ka : Int} (hs : sc ≤ 16) (hb : b = 54 ∨ b = 155) (hog : (o = 39 ∧ g = 256) ∨ (o = 256 ∧ g = 39)) (H : cH A b g h T q qa z L sc Sn ar N R t K rl l r vm mg nm S st m J) (f : cnF o m J m' J') (h2 : m' 4 3 = k) (h3 : m' 4 4 = ka) {z' : Int} {L' : Nat → Int} (ho : iO z' L' m') : cH A b g 0 T k ka z' L' sc Sn ar N R t K rl l r vm mg nm S st m' J' := ⟨iB_0 H.1 f.2.1 h2 h3 fun j => f.1 _ _ (by omega) (by omega) (by omega) (by omega) (by omega) (by omega) (by omega) (by omega) (by omega), iA_fr H.2.1 fun a k _ => f.1 a k (by omega) (by omega) (by omega) (by omega) (by omega) (by omega) (by omega) (by omega) (by omega), ho, iS_fr hs H.2.2.2.1 (fun a k _ => f.1 a k (by omega) (by omega) (by omega) (by omega) (by omega) (by omega) (by omega) (by omega) (by omega)) (fun a k _ _ => f.2.2 a k (by omega) (by omega) (by omega)), iT_fr H.2.2.2.2 (fun a k _ => f.1 a k (by omega) (by omega) (by omega) (by omega) (by omega) (by omega) (by omega) (by omega) (by omega)) fun k => f.2.2 _ k (by omega) (by omega) (by omega)⟩
theorem iO_same (H : iO z L m) (h1 : m' 50 1 = m 50 1) (h2 : ∀ k, m' 51 k = m 51 k) : iO z L m' := ⟨H.1, h1.trans H.2.1, fun k g1 g2 => (h2 k).trans (H.2.2 k g1 g2)⟩
theorem ujO_same (H : ujO z L m) (h1 : m' 262 136 = m 262 136) (h2 : ∀ k, m' 347 k = m 347 k) : ujO z L m' := ⟨H.1, h1.trans H.2.1, fun k g1 g2 => (h2 k).trans (H.2.2 k g1 g2)⟩
theorem rH_n {k ka : Int} (H : rH h T q qa z L sc Sn ar N R t K rl vm mg nm S st m J) (f : rnF m J m' J') (h1 : m' 262 1 = 0) (h2 : m' 262 12 = k) (h3 : m' 262 13 = ka) {z' : Int} {L' : Nat → Int} (ho : ujO z' L' m') : rH 0 T k ka z' L' sc Sn ar N R t K rl vm mg nm S st m' J' := ⟨ujB_0 H.1 h1 h2 h3 (fun j => f.1 _ _ (by omega) (by omega) (by omega) (by omega) (by omega) (by omega) (by omega)) (fun k _ => f.2 _ k (by omega) (by omega) (by omega) (by omega)), ho, ujS_fr H.2.2.1 (fun a k _ => f.1 a k (by omega) (by omega) (by omega) (by omega) (by omega) (by omega) (by omega)) (fun a k _ _ => f.2 a k (by omega) (by omega) (by omega) (by omega)), ujT_fr H.2.2.2 (fun a k _ => f.1 a k (by omega) (by omega) (by omega) (by omega) (by omega) (by omega) (by omega)) fun k => f.2 _ k (by omega) (by omega) (by omega) (by omega)⟩
theorem iP_pf {x2 y2 : Nat} (hP : iP b s o g x y P) (hp2 : PP P') (hTP : TP P' x2 y2) (pf : PF P P') : iP b s o g x2 y2 P' := ⟨hp2, ⟨(pf _ _ (by omega)).trans hP.2.1.1, (pf _ _ (by omega)).trans hP.2.1.2.1, hP.2.1.2.2⟩, ⟨(pf _ _ (by omega)).trans hP.2.2.1.1, (pf _ _ (by omega)).trans hP.2.2.1.2.1, hP.2.2.1.2.2⟩, hTP⟩
theorem v_normal (H : IV A m J P) (hz : Zr n) : Pr X (d + 6) 79 184 [vi n] m J P (IVk A) := by
  obtain ⟨b, s, o, g, x', y, hP, h, T, q, qa, z, L, h16, sc, Sn, ar, N, R, t, K, rl, pi, l, r, vm, mg, nm, S, st, pt, hc, hr⟩ := id H
  have hp := hP.1
  have hs := pi.1.1.1
  have hb := (BP_kd hP.2.1).1
  have hog := hP.2.2.1.2.2
  have hgo : g = 39 ∨ g = 256 := by omega
  have c2 : m 2 1 = (h : Int) := hc.1.2.1.1
  have rt : ∀ {m1 J1}, rH h T q qa z L sc Sn ar N R t K rl vm mg nm S st m1 J1 → m1 262 1 = (h : Int) := fun hr1 => hr1.1.2.1.1
  have r1 : ∀ {m1 J1}, cnF o m J m1 J1 → rH h T q qa z L sc Sn ar N R t K rl vm mg nm S st m1 J1 := fun f1 => rH_fr hr (fun a k _ => f1.1 a k (by omega) (by omega) (by omega) (by omega) (by omega) (by omega) (by omega) (by omega) (by omega)) (fun a k _ => f1.2.2 a k (by omega) (by omega) (by omega))
  have fin : ∀ {m1 J1 m2 J2 P2 x2 y2 k ka z' L'}, cH A b g 0 T k ka z' L' sc Sn ar N R t K rl l r vm mg nm S st m1 J1 → rH 0 T k ka z' L' sc Sn ar N R t K rl vm mg nm S st m2 J2 → rnF m1 J1 m2 J2 → iP b s o g x2 y2 P2 → IV A m2 J2 P2 := fun hc1 hr2 f2 hP2 => ⟨b, s, o, g, _, _, hP2, 0, T, _, _, _, _, by omega, sc, Sn, ar, N, R, t, K, rl, pi, l, r, vm, mg, nm, S, st, pt, cH_fr hs hb hgo hc1 (fun a k _ => f2.1 a k (by omega) (by omega) (by omega) (by omega) (by omega) (by omega) (by omega)) (fun a k _ => f2.2 a k (by omega) (by omega) (by omega) (by omega)), hr2⟩
  refine Pr.mk' (c_normal hp hP.2.1 hP.2.2.1 hc.1.1 hz (by show 0 ≤ m 2 1 ∧ m 2 1 ≤ 1600; omega) hc.2.2.2.1.2.2 pi.2.2.2 pi.1 hc.2.2.2.1.1 (fun g0 => ⟨hp, ?_⟩) (fun h1 g0 gj m1 J1 a1 a2 a3 a4 f1 => ⟨hp, ?_⟩) (fun h1 g0 gj gn m1 J1 a1 a2 a3 a4 f1 => ⟨hp, ?_⟩) (fun h1 g0 gj gn m1 J1 a1 a2 a3 f1 => ⟨hp, ?_⟩))
  · have rt0 := rt hr
    have g0 : rl = 0 ∨ n < 0 ∨ m 2 1 < n := g0
    exact r_normal (d := d + 1) hp hP.2.2.2 hz (by show 0 ≤ m 262 1 ∧ m 262 1 ≤ 1600; omega) hr.1.1 hr.2.2.1.2.2 pi.2.2.2 pi.1 pi.2.1 hr.2.2.1.1 (fun _ => ⟨hp, rfl, H⟩) (fun h1 g1 => absurd (show 0 ≤ n ∧ n ≤ m 262 1 from g1) (by omega)) (fun h1 g1 => absurd (show 0 ≤ n ∧ n ≤ m 262 1 from g1) (by omega)) (fun h1 g1 => absurd (show 0 ≤ n ∧ n ≤ m 262 1 from g1) (by omega))
  · have hr1 := r1 f1
    have rt1 := rt hr1
    have g0 : 0 ≤ n ∧ n ≤ m 2 1 := g0
    have e : txR m1 n = txC m n := tx_eq hc.1 hr1.1 g0.1 (by omega)
    have hc1 := cH_n hs hb hog hc f1 a1 a2 (iO_same hc.2.2.1 a3 a4)
    refine r_normal (d := d + 1) hp hP.2.2.2 hz (by show 0 ≤ m1 262 1 ∧ m1 262 1 ≤ 1600; omega) hr1.1.1 hr1.2.2.1.2.2 pi.2.2.2 pi.1 pi.2.1 hr1.2.2.1.1 (fun g1 => absurd (show rl = 0 ∨ n < 0 ∨ m1 262 1 < n from g1) (by omega)) ?_ ?_ ?_
    · rw [e]
      intro _ _ _ m2 J2 b1 b2 b3 b4 b5 f2
      exact ⟨hp, rfl, fin hc1 (rH_n hr1 f2 b5 b1 b2 (ujO_same hr1.2.1 b3 b4)) f2 hP⟩
    · rw [e]
      intro _ _ g1
      exact absurd g1 gj
    · rw [e]
      intro _ _ g1
      exact absurd g1 gj
  · have hr1 := r1 f1
    have rt1 := rt hr1
    have g0 : 0 ≤ n ∧ n ≤ m 2 1 := g0
    have e : txR m1 n = txC m n := tx_eq hc.1 hr1.1 g0.1 (by omega)
    have hc1 := cH_n hs hb hog hc f1 a1 a2 (iO_same hc.2.2.1 a3 a4)
    refine r_normal (d := d + 1) hp hP.2.2.2 hz (by show 0 ≤ m1 262 1 ∧ m1 262 1 ≤ 1600; omega) hr1.1.1 hr1.2.2.1.2.2 pi.2.2.2 pi.1 pi.2.1 hr1.2.2.1.1 (fun g1 => absurd (show rl = 0 ∨ n < 0 ∨ m1 262 1 < n from g1) (by omega)) ?_ ?_ ?_
    · rw [e]
      intro _ _ g1
      exact absurd gj g1
    · rw [e]
      intro _ _ _ _ m2 J2 P2 x2 y2 hp2 hTP2 pf b1 b2 b3 b4 b5 f2
      exact ⟨hp2, rfl, fin hc1 (rH_n hr1 f2 b5 b1 b2 (ujO_same hr1.2.1 b3 b4)) f2 (iP_pf hP hp2 hTP2 pf)⟩
    · rw [e]
      intro _ _ _ g1
      exact absurd g1 gn
  · have hr1 := r1 f1
    have rt1 := rt hr1
    have g0 : 0 ≤ n ∧ n ≤ m 2 1 := g0
    have e : txR m1 n = txC m n := tx_eq hc.1 hr1.1 g0.1 (by omega)
    have hc1 := cH_n hs hb hog hc f1 a1 a2 (OC_iO a3)
    refine r_normal (d := d + 1) hp hP.2.2.2 hz (by show 0 ≤ m1 262 1 ∧ m1 262 1 ≤ 1600; omega) hr1.1.1 hr1.2.2.1.2.2 pi.2.2.2 pi.1 pi.2.1 hr1.2.2.1.1 (fun g1 => absurd (show rl = 0 ∨ n < 0 ∨ m1 262 1 < n from g1) (by omega)) ?_ ?_ ?_
    · rw [e]
      intro _ _ g1
      exact absurd gj g1
    · rw [e]
      intro _ _ _ g1
      exact absurd gn g1
    · rw [e]
      intro _ _ _ _ m2 J2 P2 x2 y2 hp2 hTP2 pf b1 b2 b3 b5 f2
      exact ⟨hp2, rfl, fin hc1 (rH_n hr1 f2 b5 b1 b2 (OR_jO b3)) f2 (iP_pf hP hp2 hTP2 pf)⟩
theorem cH_u {k ka : Int} {A' : Int} (hs : sc ≤ 16) (hb : b = 54 ∨ b = 155) (hog : (o = 39 ∧ g = 256) ∨ (o = 256 ∧ g = 39)) (H : cH A b g h T q qa z L sc Sn ar N R t K rl l r vm mg nm S st m J) (f : cuF o m J m' J') (h2 : m' 4 3 = k) (h3 : m' 4 4 = ka) (hA : ATT 18 m') (hA' : m' 18 8 ≤ A') (le : A ≤ A') {z' : Int} {L' : Nat → Int} (ho : iO z' L' m') : cH A' b g 0 T k ka z' L' sc Sn ar N R t K rl l r vm mg nm S st m' J' := ⟨iB_0 H.1 f.2.1 h2 h3 fun j => f.1 _ _ (by omega) (by omega) (by omega) (by omega) (by omega) (by omega) (by omega) (by omega), ⟨⟨ATT_fr H.2.1.1.1 (f.1 _ _ (by omega) (by omega) (by omega) (by omega) (by omega) (by omega) (by omega) (by omega)) (fun _ => f.1 _ _ (by omega) (by omega) (by omega) (by omega) (by omega) (by omega) (by omega) (by omega)), by rw [f.1 _ _ (by omega) (by omega) (by omega) (by omega) (by omega) (by omega) (by omega) (by omega)]; have := H.2.1.1.2; omega⟩, hA, hA'⟩, ho, iS_fr hs H.2.2.2.1 (fun a k _ => f.1 a k (by omega) (by omega) (by omega) (by omega) (by omega) (by omega) (by omega) (by omega)) (fun a k _ _ => f.2.2 a k (by omega) (by omega) (by omega)), iT_fr H.2.2.2.2 (fun a k _ => f.1 a k (by omega) (by omega) (by omega) (by omega) (by omega) (by omega) (by omega) (by omega)) fun k => f.2.2 _ k (by omega) (by omega) (by omega)⟩
theorem rH_u {k ka : Int} (H : rH h T q qa z L sc Sn ar N R t K rl vm mg nm S st m J) (f : ruF m J m' J') (h0 : m' 262 101 = m 262 101) (h1 : m' 262 1 = 0) (h2 : m' 262 12 = k) (h3 : m' 262 13 = ka) {z' : Int} {L' : Nat → Int} (ho : ujO z' L' m') : rH 0 T k ka z' L' sc Sn ar N R t K rl vm mg nm S st m' J' := by
  have f0 : ∀ a k, ((a = 262 ∧ (k = 93 ∨ k = 94 ∨ k = 101 ∨ k = 96 ∨ k = 98 ∨ k = 102 ∨ k = 97 ∨ k = 99 ∨ k = 95 ∨ k = 100)) ∨ (323 ≤ a ∧ a ≤ 336)) → m' a k = m a k := fun a k ga => by
    by_cases e : a = 262 ∧ k = 101
    · rw [e.1, e.2]; exact h0
    · exact f.1 a k (by omega) (by omega) (by omega) (by omega) (by omega) (by omega) (by omega) (by omega) (by omega) (by omega) (by omega)
  exact ⟨ujB_0 H.1 h1 h2 h3 (fun j => f.1 _ _ (by omega) (by omega) (by omega) (by omega) (by omega) (by omega) (by omega) (by omega) (by omega) (by omega) (by omega)) (fun k _ => f.2 _ k (by omega) (by omega) (by omega) (by omega)), ho, ujS_fr H.2.2.1 (fun a k _ => f.1 a k (by omega) (by omega) (by omega) (by omega) (by omega) (by omega) (by omega) (by omega) (by omega) (by omega) (by omega)) (fun a k _ _ => f.2 a k (by omega) (by omega) (by omega) (by omega)), ujT_fr H.2.2.2 f0 fun k => f.2 _ k (by omega) (by omega) (by omega) (by omega)⟩
theorem v_unify (H : IV A m J P) (hz : Zr n) (hA : A + 600000 < 2147483647) : Pr X (d + 7) 90 194 [vi n] m J P (IVk (A + 400000)) := by
  have H' : IV (A + 400000) m J P := IV_up H (by omega)
  obtain ⟨b, s, o, g, x', y, hP, h, T, q, qa, z, L, h16, sc, Sn, ar, N, R, t, K, rl, pi, l, r, vm, mg, nm, S, st, pt, hc, hr⟩ := H
  have hp := hP.1
  have hs := pi.1.1.1
  have hb := (BP_kd hP.2.1).1
  have hog := hP.2.2.1.2.2
  have hgo : g = 39 ∨ g = 256 := by omega
  have c2 : m 2 1 = (h : Int) := hc.1.2.1.1
  have A18 := hc.2.1.2
  have rt : ∀ {m1 J1}, rH h T q qa z L sc Sn ar N R t K rl vm mg nm S st m1 J1 → m1 262 1 = (h : Int) := fun hr1 => hr1.1.2.1.1
  have r1 : ∀ {m1 J1}, cuF o m J m1 J1 → rH h T q qa z L sc Sn ar N R t K rl vm mg nm S st m1 J1 := fun f1 => rH_fr hr (fun a k _ => f1.1 a k (by omega) (by omega) (by omega) (by omega) (by omega) (by omega) (by omega) (by omega)) (fun a k _ => f1.2.2 a k (by omega) (by omega) (by omega))
  have fin : ∀ {m1 J1 m2 J2 k ka z' L'}, cH (A + 400000) b g 0 T k ka z' L' sc Sn ar N R t K rl l r vm mg nm S st m1 J1 → rH 0 T k ka z' L' sc Sn ar N R t K rl vm mg nm S st m2 J2 → ruF m1 J1 m2 J2 → IV (A + 400000) m2 J2 P := fun hc1 hr2 f2 => ⟨b, s, o, g, _, _, hP, 0, T, _, _, _, _, by omega, sc, Sn, ar, N, R, t, K, rl, pi, l, r, vm, mg, nm, S, st, pt, cH_fr hs hb hgo hc1 (fun a k _ => f2.1 a k (by omega) (by omega) (by omega) (by omega) (by omega) (by omega) (by omega) (by omega) (by omega) (by omega) (by omega)) (fun a k _ => f2.2 a k (by omega) (by omega) (by omega) (by omega)), hr2⟩
  refine Pr.mk' (c_unify hp hP.2.1 hP.2.2.1 hc.1.1 hz (by show 0 ≤ m 2 1 ∧ m 2 1 ≤ 1600; omega) hc.2.2.2.1.2.2 pi.2.2.2 pi.1 hc.2.2.2.1.1 A18.1 (by have := A18.2; omega) (fun g0 => ⟨hp, ?_⟩) (fun h1 g0 gj m1 J1 a1 a2 a3 a4 a5 a6 f1 => ⟨hp, ?_⟩) (fun h1 g0 gj l1 r1' v1 n1 el er ev en m1 J1 a1 a2 a5 a6 f1 => ?_))
  · have rt0 := rt hr
    have g0 : rl = 0 ∨ n < 0 ∨ m 2 1 < n := g0
    exact r_unify (d := d + 1) hp hz (by show 0 ≤ m 262 1 ∧ m 262 1 ≤ 1600; omega) hr.1.1 hr.2.2.1.2.2 pi.2.2.2 pi.1 hr.2.2.1.1 (fun _ => ⟨hp, rfl, H'⟩) (fun h1 g1 => absurd (show 0 ≤ n ∧ n ≤ m 262 1 from g1) (by omega)) (fun h1 g1 => absurd (show 0 ≤ n ∧ n ≤ m 262 1 from g1) (by omega))
  · have hr1 := r1 f1
    have rt1 := rt hr1
    have g0 : 0 ≤ n ∧ n ≤ m 2 1 := g0
    have e : txR m1 n = txC m n := tx_eq hc.1 hr1.1 g0.1 (by omega)
    have hc1 := cH_u (A' := A + 400000) hs hb hog hc f1 a1 a2 a5 (by rw [a6]; have := A18.2; omega) (by omega) (iO_same hc.2.2.1 a3 a4)
    refine r_unify (d := d + 1) hp hz (by show 0 ≤ m1 262 1 ∧ m1 262 1 ≤ 1600; omega) hr1.1.1 hr1.2.2.1.2.2 pi.2.2.2 pi.1 hr1.2.2.1.1 (fun g1 => absurd (show rl = 0 ∨ n < 0 ∨ m1 262 1 < n from g1) (by omega)) ?_ ?_
    · rw [e]
      intro _ _ _ m2 J2 b1 b2 b3 b4 b5 b6 f2
      exact ⟨hp, rfl, fin hc1 (rH_u hr1 f2 b6 b5 b1 b2 (ujO_same hr1.2.1 b3 b4)) f2⟩
    · rw [e]
      intro _ _ g1
      exact absurd g1 gj
  · have hr1 := r1 f1
    have rt1 := rt hr1
    have g0 : 0 ≤ n ∧ n ≤ m 2 1 := g0
    have e : txR m1 n = txC m n := tx_eq hc.1 hr1.1 g0.1 (by omega)
    have aA : m1 18 8 ≤ A + 400000 := by rw [a6]; have := A18.2; omega
    have ref : ∀ {post : Int → Mi → Mj → Mp → Prop}, (∀ m2 J2, m2 262 12 = 0 → m2 262 13 = -1 → m2 262 1 = 0 → m2 262 101 = m1 262 101 → ruF m1 J1 m2 J2 → (nuni (ayw ar) l1 r1' v1 = none → m2 262 136 = m1 262 136 → (∀ k, m2 347 k = m1 347 k) → post 0 m2 J2 P) ∧ ∀ Q, nuni (ayw ar) l1 r1' v1 = some Q → (nval (ayw ar) l1 r1' v1 Q = none → m2 262 136 = m1 262 136 → (∀ k, m2 347 k = m1 347 k) → post 2 m2 J2 P) ∧ ∀ ls, nval (ayw ar) l1 r1' v1 Q = some ls → OR (ushow (ayw ar) Sn n1 ls).1 m2 → post 1 m2 J2 P) → Ci X (d + 7) 194 [.ref 262, vi n] m1 J1 P post := fun {post} k => by
      refine r_unify (d := d + 1) hp hz (by show 0 ≤ m1 262 1 ∧ m1 262 1 ≤ 1600; omega) hr1.1.1 hr1.2.2.1.2.2 pi.2.2.2 pi.1 hr1.2.2.1.1 (fun g1 => absurd (show rl = 0 ∨ n < 0 ∨ m1 262 1 < n from g1) (by omega)) ?_ ?_
      · rw [e]
        intro _ _ g1
        exact absurd gj g1
      · rw [e]
        intro _ _ _ l2 r2 v2 n2 el2 er2 ev2 en2 m2 J2 b1 b2 b5 b6 f2
        rw [el2, er2, ev2, en2, ← el, ← er, ← ev, ← en]
        exact k m2 J2 b1 b2 b5 b6 f2
    refine ⟨fun u1 a3 a4 => ⟨hp, ref fun m2 J2 b1 b2 b5 b6 f2 => ⟨fun _ b3 b4 => ⟨hp, rfl, fin (cH_u hs hb hog hc f1 a1 a2 a5 aA (by omega) (iO_same hc.2.2.1 a3 a4)) (rH_u hr1 f2 b6 b5 b1 b2 (ujO_same hr1.2.1 b3 b4)) f2⟩, fun Q hQ => absurd (u1.symm.trans hQ) (by intro h; cases h)⟩⟩, fun Q hQ => ⟨fun u2 a3 a4 => ⟨hp, ref fun m2 J2 b1 b2 b5 b6 f2 => ⟨fun u1 => absurd (u1.symm.trans hQ) (by intro h; cases h), fun Q2 hQ2 => ?_⟩⟩, fun ls hls w1 => ⟨hp, ref fun m2 J2 b1 b2 b5 b6 f2 => ⟨fun u1 => absurd (u1.symm.trans hQ) (by intro h; cases h), fun Q2 hQ2 => ?_⟩⟩⟩⟩
    · rw [hQ] at hQ2
      rw [← Option.some.inj hQ2]
      exact ⟨fun _ b3 b4 => ⟨hp, rfl, fin (cH_u hs hb hog hc f1 a1 a2 a5 aA (by omega) (iO_same hc.2.2.1 a3 a4)) (rH_u hr1 f2 b6 b5 b1 b2 (ujO_same hr1.2.1 b3 b4)) f2⟩, fun ls hls => absurd (u2.symm.trans hls) (by intro h; cases h)⟩
    · rw [hQ] at hQ2
      rw [← Option.some.inj hQ2]
      refine ⟨fun u2 => absurd (u2.symm.trans hls) (by intro h; cases h), fun ls2 hls2 w2 => ⟨hp, rfl, ?_⟩⟩
      rw [hls] at hls2
      rw [← Option.some.inj hls2] at w2
      exact fin (cH_u hs hb hog hc f1 a1 a2 a5 aA (by omega) (OC_iO w1)) (rH_u hr1 f2 b6 b5 b1 b2 (OR_jO w2)) f2
end OPG
