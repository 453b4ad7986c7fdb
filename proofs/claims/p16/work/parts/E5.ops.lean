/-! single calls: expand, show -/
section OPE
variable {X : aX} {d x y : Nat} {P P' : Mp} {J J' : Mj} {m m' m0 m1 : Mi} {Sn : Nat → Nat} {ar : Nat → Int} {sc G mg b s o g N vm t h : Nat} {R : Nat → Mi} {nm : Nat → Int} {l r : List Int} {S : Ts} {st rl q qa z A : Int} {T : Nat → Int} {L : Nat → Int} {K : List (Nat × Nat × Nat × Int)}
theorem IV_up {A' : Int} (H : IV A m J P) (g : A ≤ A') : IV A' m J P := by
  obtain ⟨b, s, o, g', x', y, hP, h, T, q, qa, z, L, h16, sc, Sn, ar, N, R, t, K, rl, pi, l, r, vm, mg, nm, S, st, pt, hc, hr⟩ := H
  exact ⟨b, s, o, g', x', y, hP, h, T, q, qa, z, L, h16, sc, Sn, ar, N, R, t, K, rl, pi, l, r, vm, mg, nm, S, st, pt, ⟨hc.1, iA_up hc.2.1 g, hc.2.2⟩, hr⟩
theorem v_expand {u : Int} (H : IV A m J P) (hu : Zr u) (hA : A + 600000 < 2147483647) : Pr X (d + 8) 105 203 [vi u] m J P (IVk (A + 400000)) := by
  obtain ⟨b, s, o, g, x', y, hP, h, T, q, qa, z, L, h16, sc, Sn, ar, N, R, t, K, rl, pi, l, r, vm, mg, nm, S, st, pt, hc, hr⟩ := id H
  have hp := hP.1
  have hs := pi.1.1.1
  have hb := (BP_kd hP.2.1).1
  have hgo : g = 39 ∨ g = 256 := by rcases hP.2.2.1.2.2 with h | h <;> omega
  have har := Sq_ar pi.1
  have hZ := Sq_ZK pi.1
  obtain ⟨⟨A8, A8'⟩, A18, A18'⟩ := hc.2.1
  have rest : ∀ m1, cH A b g h T q qa z L sc Sn ar N R t K rl l r vm mg nm S st m1 J ∨ True → rH h T q qa z L sc Sn ar N R t K rl vm mg nm S st m1 J → ∀ {post : Int → Mi → Mj → Mp → Prop}, (st = 0 ∨ u < 1 ∨ 100 < u → post (-1) m1 J P) → (st = 1 → 1 ≤ u ∧ u ≤ 100 → ∀ m', REI sc ar vm mg m1 (tEx (ayw ar) mg N (ZLs Sn sc R) (ZRs Sn sc R) u.toNat S).1 m' → post ((tEx (ayw ar) mg N (ZLs Sn sc R) (ZRs Sn sc R) u.toNat S).2 : Int) m' J P) → Ci X (d + 8) 203 [.ref 262, vi u] m1 J P post := fun m1 _ hr1 {post} k0 k1 =>
    r_expand (S := S) (st := st) (G := vm) (mg := mg) hp har (RSy_RA hr1.2.2.1.1) (RSy_Ry pi.1 pi.2.1 hr1.2.2.1.1) hZ hu hr1.2.2.2.1 pt.1 (fun h1 => ⟨(hr1.2.2.2.2.2 h1).1.1, (hr1.2.2.2.2.2 h1).2.2, (hr1.2.2.2.2.2 h1).2.1, (pt.2.2 h1).1, by have := (pt.2.2 h1).2.2.2.2; have := (pt.2.2 h1).1.1.1; omega⟩) k0 k1
  refine Pr.mk' (c_expand (d := d + 2) (S := S) (st := st) (G := vm) (mg := mg) hp hP.2.1.1 hb har (CSy_BKC pi.1 pi.2.1 hc.2.2.2.1.1) hZ hP.2.2.1.2.1 hgo hu hc.2.2.2.2.1 pt.1 (fun h1 => ⟨(hc.2.2.2.2.2.2 h1).1.1.2.2, (hc.2.2.2.2.2.2 h1).2.2, (hc.2.2.2.2.2.2 h1).2.1, (pt.2.2 h1).1, by have := (pt.2.2 h1).2.2.2.2; have := (pt.2.2 h1).1.1.1; omega⟩) (by omega) (by omega) A8 A18 (fun g0 => ⟨hp, ?_⟩) (fun h1 g1 m1 E1 => ⟨hp, ?_⟩))
  · exact rest m (Or.inr trivial) hr (fun _ => ⟨hp, rfl, IV_up H (by omega)⟩) (fun h1 g1 _ _ => absurd g0 (by omega))
  · obtain ⟨e1, e2, ⟨e3, e4⟩, ⟨e5, e6⟩, e7⟩ := E1
    have hr1 := rH_fr (J' := J) (m' := m1) hr (fun a k _ => e7 a k (by omega) (by omega) (by omega)) fun _ _ _ => rfl
    refine rest m1 (Or.inr trivial) hr1 (fun g0 => absurd g0 (by omega)) (fun _ _ m2 E2 => ⟨hp, rfl, ?_⟩)
    obtain ⟨q1, q2, q3⟩ := E2
    have hex := tEx_ex har hZ (q := u.toNat) (pt.2.2 h1).1 (pt.2.2 h1).2.2.2.2
    have hnG := tEx_nG har hZ (q := u.toNat) (pt.2.2 h1).1 (pt.2.2 h1).2.2.2.1
    have hl := e2.1
    have f : ∀ a k, a < 262 → m2 a k = m1 a k := fun a k ga => q3 a k (by omega) (by omega) (by omega)
    have hc1 : cH (A + 400000) b g h T q qa z L sc Sn ar N R t K rl l r vm mg nm (tEx (ayw ar) mg N (ZLs Sn sc R) (ZRs Sn sc R) u.toNat S).1 st m1 J := ⟨iB_fr hc.1 fun a k _ => e7 a k (by omega) (by omega) (by omega), ⟨⟨e3, by omega⟩, e5, by omega⟩, iO_fr hc.2.2.1 fun a k _ => e7 a k (by omega) (by omega) (by omega), iS_fr hs hc.2.2.2.1 (fun a k _ => e7 a k (by omega) (by omega) (by omega)) (fun _ _ _ _ => rfl), (e7 _ _ (by omega) (by omega) (by omega)).trans hc.2.2.2.2.1, ⟨by rw [show m1 38 11 = _ from e1.1.1]; constructor <;> omega, by rw [show m1 38 12 = _ from e1.1.2.1]; constructor <;> omega⟩, fun _ => ⟨GQ_fr (hc.2.2.2.2.2.2 h1).1 (fun a k g1 g2 => e7 a k (by omega) (by omega) (by omega)) (fun _ => rfl), e1, (e7 _ _ (by omega) (by omega) (by omega)).trans (hc.2.2.2.2.2.2 h1).2.2⟩⟩
    exact ⟨b, s, o, g, x', y, hP, h, T, q, qa, z, L, h16, sc, Sn, ar, N, R, t, K, rl, pi, l, r, vm, mg, nm, _, st, ⟨pt.1, pt.2.1, fun _ => ⟨e2, (pt.2.2 h1).2.1, (pt.2.2 h1).2.2.1, hnG, hex⟩⟩, cH_fr (J' := J) hs hb hgo hc1 f (fun _ _ _ => rfl), ujB_fr hr1.1 (fun a k _ => q3 a k (by omega) (by omega) (by omega)) (fun _ _ => rfl), ujO_fr hr1.2.1 (fun a k _ => q3 a k (by omega) (by omega) (by omega)), ujS_fr hr1.2.2.1 (fun a k _ => q3 a k (by omega) (by omega) (by omega)) (fun _ _ _ _ => rfl), (q3 _ _ (by omega) (by omega) (by omega)).trans hr1.2.2.2.1, ⟨by rw [show m2 262 96 = _ from q1.1.1]; constructor <;> omega, by rw [show m2 262 98 = _ from q1.1.2.1]; constructor <;> omega⟩, fun _ => ⟨⟨(q3 _ _ (by omega) (by omega) (by omega)).trans (hr1.2.2.2.2.2 h1).1.1, (hr1.2.2.2.2.2 h1).1.2⟩, q1, (q3 _ _ (by omega) (by omega) (by omega)).trans (hr1.2.2.2.2.2 h1).2.2⟩⟩
theorem cH_w {w : Ws} (hs : sc ≤ 16) (hb : b = 54 ∨ b = 155) (hg : g = 39 ∨ g = 256) (H : cH A b g h T q qa z L sc Sn ar N R t K rl l r vm mg nm S st m J) (f : wcF m J m' J') (hw : WC w m' J') : cH A b g h T q qa (w.1.length : Int) (cl w.1) sc Sn ar N R t K rl l r vm mg nm S st m' J' := ⟨iB_fr H.1 fun a k _ => f.1 a k (by omega) (by omega) (by omega), iA_fr H.2.1 fun a k _ => f.1 a k (by omega) (by omega) (by omega), OC_iO hw.1, iS_fr hs H.2.2.2.1 (fun a k _ => f.1 a k (by omega) (by omega) (by omega)) fun a k _ _ => f.2 a k (by omega), iT_fr H.2.2.2.2 (fun a k _ => f.1 a k (by omega) (by omega) (by omega)) fun k => f.2 _ k (by omega)⟩
theorem rH_w {w : Ws} (H : rH h T q qa z L sc Sn ar N R t K rl vm mg nm S st m J) (f : wrF_ m J m' J') (hw : WR w m' J') : rH h T q qa (w.1.length : Int) (cl w.1) sc Sn ar N R t K rl vm mg nm S st m' J' := ⟨ujB_fr H.1 (fun a k _ => f.1 a k (by omega) (by omega) (by omega) (by omega)) fun k _ => f.2 _ k (by omega), OR_jO hw.1, ujS_fr H.2.2.1 (fun a k _ => f.1 a k (by omega) (by omega) (by omega) (by omega)) fun a k _ _ => f.2 a k (by omega), ujT_fr H.2.2.2 (fun a k _ => f.1 a k (by omega) (by omega) (by omega) (by omega)) fun k => f.2 _ k (by omega)⟩
theorem gl_no {α : Type} {l : List α} {k : Int} {e : α} (h : l[k.toNat]? = some e) (h0 : 0 ≤ k) (g : k < 0 ∨ (l.length : Int) ≤ k) : False := by
  have := (gl_lt h).1
  omega
theorem v_show {u w : Int} (H : IV A m J P) (hu : Zr u) (hw : Zr w) (hA : A + 600000 < 2147483647) : Pr X (d + 6) 125 215 [vi u, vi w] m J P (IVk (A + 400000)) := by
  have H' : IV (A + 400000) m J P := IV_up H (by omega)
  obtain ⟨b, s, o, g, x', y, hP, h, T, q, qa, z, L, h16, sc, Sn, ar, N, R, t, K, rl, pi, l, r, vm, mg, nm, S, st, pt, hc, hr⟩ := H
  have hp := hP.1
  have hs := pi.1.1.1
  have hb := (BP_kd hP.2.1).1
  have hgo : g = 39 ∨ g = 256 := by rcases hP.2.2.1.2.2 with h | h <;> omega
  have har := Sq_ar pi.1
  have hZ := Sq_ZK pi.1
  have hPb : P 1 8 = some b := hP.2.1.1
  have hPg : P 38 2 = some g := hP.2.2.1.2.1
  have hC := hc.2.2.2.1.1
  have hRK := hr.2.2.1.1.1
  have hTc := iT_TQ pt hc.2.2.2.2
  have hTr : ∀ {m1 J1}, rH h T q qa z L sc Sn ar N R t K rl vm mg nm S st m1 J1 → st = 1 → TQR sc ar vm mg nm S m1 J1 := fun hr1 => ujT_TQ pt hr1.2.2.2
  have up : ∀ {m1 J1 m2 J2} {s1 : Ws}, cH A b g h T q qa z L sc Sn ar N R t K rl l r vm mg nm S st m J → WC s1 m1 J1 → wcF m J m1 J1 → WR s1 m2 J2 → wrF_ m1 J1 m2 J2 → IV (A + 400000) m2 J2 P := fun {m1 J1 m2 J2 s1} _ w1 f1 w2 f2 => by
    have hc1 := cH_w hs hb hgo hc f1 w1
    have hr1 := rH_fr (J' := J1) hr (fun a k _ => f1.1 a k (by omega) (by omega) (by omega)) fun a k _ => f1.2 a k (by omega)
    exact IV_up ⟨b, s, o, g, x', y, hP, h, T, q, qa, _, _, h16, sc, Sn, ar, N, R, t, K, rl, pi, l, r, vm, mg, nm, S, st, pt, cH_fr hs hb hgo hc1 (fun a k _ => f2.1 a k (by omega) (by omega) (by omega) (by omega)) fun a k _ => f2.2 a k (by omega), rH_w hr1 f2 w2⟩ (by omega)
  have hr1' : ∀ {m1 J1}, wcF m J m1 J1 → rH h T q qa z L sc Sn ar N R t K rl vm mg nm S st m1 J1 := fun f1 => rH_fr hr (fun a k _ => f1.1 a k (by omega) (by omega) (by omega)) fun a k _ => f1.2 a k (by omega)
  by_cases e : u < 0 ∨ 4 < u
  · exact Pr.mk' (c_showx hp hu e ⟨hp, r_showx hp hu e ⟨hp, rfl, H'⟩⟩)
  · by_cases e0 : u = 0
    · subst e0
      refine Pr.mk' (Ci.of rfl rfl rfl (b_Nh_show_0 0 w m J P hp _ ⟨hu, fun _ => ?_, fun g => absurd g (by omega), fun g => absurd g (by omega), fun g => absurd g (by omega), fun g => absurd g (by omega), fun g => absurd g (by omega)⟩))
      refine c_showRule (d := d + 1) hp hb hPb pi.1 pi.2.1 hC hw (fun g0 => ⟨hp, hp, ?_⟩) (fun g0 m1 J1 w1 f1 => ⟨hp, hp, ?_⟩)
      · exact r_show0 hp pi.1 pi.2.1 hr.2.2.1.1 hw (fun _ => ⟨hp, rfl, H'⟩) (fun g1 => absurd g0 (by omega))
      · exact r_show0 hp pi.1 pi.2.1 (hr1' f1).2.2.1.1 hw (fun g1 => absurd g0 (by omega)) (fun _ m2 J2 w2 f2 => ⟨hp, rfl, up hc w1 f1 w2 f2⟩)
    · by_cases e2 : u = 2
      · subst e2
        refine Pr.mk' (Ci.of rfl rfl rfl (b_Nh_show_0 2 w m J P hp _ ⟨hu, fun g => absurd g (by omega), fun g => absurd g (by omega), fun _ => ?_, fun g => absurd g (by omega), fun g => absurd g (by omega), fun g => absurd g (by omega)⟩))
        refine c_showEquation (d := d) (S := S) hp hb hPb hPg hgo har hC.1 hC.2.1 hw hc.2.2.2.2.1 pt.1 hc.2.2.2.2.2.1.1 hTc (fun g0 => ⟨hp, hp, ?_⟩) (fun h1 a ha g1 m1 J1 w1 f1 => ⟨hp, hp, ?_⟩)
        · exact r_showEq (S := S) hp har hRK hw hr.2.2.2.1 pt.1 hr.2.2.2.2.1.1 (hTr hr) (fun _ => ⟨hp, rfl, H'⟩) (fun h1 e' he' g1 => (gl_no he' g1 (g0 h1)).elim)
        · refine r_showEq (S := S) hp har (hr1' f1).2.2.1.1.1 hw (hr1' f1).2.2.2.1 pt.1 (hr1' f1).2.2.2.2.1.1 (hTr (hr1' f1)) (fun g0 => (gl_no ha g1 (g0 h1)).elim) (fun _ e' he' _ m2 J2 w2 f2 => ⟨hp, ?_, ?_⟩)
          · rw [ha] at he'; rw [Option.some.inj he']
          · rw [ha] at he'; rw [← Option.some.inj he'] at w2; exact up hc w1 f1 w2 f2
      · by_cases e3 : u = 3
        · subst e3
          refine Pr.mk' (c_show3 (S := S) hp hb hPb hPg hgo har hC.1 hC.2.1 hw hc.2.2.2.2.1 pt.1 hc.2.2.2.2.2.1.1 hTc (fun g0 => ⟨hp, ?_⟩) (fun h1 a ha g1 m1 J1 w1 f1 => ⟨hp, ?_⟩))
          · exact r_showNV (S := S) hp har hRK hw hr.2.2.2.1 pt.1 hr.2.2.2.2.1.1 (hTr hr) (fun _ => ⟨hp, rfl, H'⟩) (fun h1 e' he' g1 => (gl_no he' g1 (g0 h1)).elim)
          · refine r_showNV (S := S) hp har (hr1' f1).2.2.1.1.1 hw (hr1' f1).2.2.2.1 pt.1 (hr1' f1).2.2.2.2.1.1 (hTr (hr1' f1)) (fun g0 => (gl_no ha g1 (g0 h1)).elim) (fun _ e' he' _ m2 J2 w2 f2 => ⟨hp, ?_, ?_⟩)
            · rw [ha] at he'; rw [Option.some.inj he']
            · rw [ha] at he'; rw [← Option.some.inj he'] at w2; exact up hc w1 f1 w2 f2
        · by_cases e4 : u = 4
          · subst e4
            refine Pr.mk' (c_show4 (S := S) hp hb hPb hPg hgo har hC.1 hC.2.1 hw hc.2.2.2.2.1 pt.1 hc.2.2.2.2.2.1.2 hTc (fun g0 => ⟨hp, ?_⟩) (fun h1 a ha g1 m1 J1 w1 f1 => ⟨hp, ?_⟩))
            · exact r_showAV (S := S) hp har hRK hw hr.2.2.2.1 pt.1 hr.2.2.2.2.1.2 (hTr hr) (fun _ => ⟨hp, rfl, H'⟩) (fun h1 e' he' g1 => (gl_no he' g1 (g0 h1)).elim)
            · refine r_showAV (S := S) hp har (hr1' f1).2.2.1.1.1 hw (hr1' f1).2.2.2.1 pt.1 (hr1' f1).2.2.2.2.1.2 (hTr (hr1' f1)) (fun g0 => (gl_no ha g1 (g0 h1)).elim) (fun _ e' he' _ m2 J2 w2 f2 => ⟨hp, ?_, ?_⟩)
              · rw [ha] at he'; rw [Option.some.inj he']
              · rw [ha] at he'; rw [← Option.some.inj he'] at w2; exact up hc w1 f1 w2 f2
          · have e1 : u = 1 := by omega
            subst e1
            obtain ⟨⟨ok, ht, hG⟩, _⟩ := pi.2.2
            have hc0 : ∀ v, v < N → 0 ≤ cl (ZLs Sn sc R v) 0 := fun v hv => by
              obtain ⟨s0, l0, e0, h0⟩ := (Sq_lists pi.1 hv).2.2.2.1
              unfold ZLs
              rw [e0]
              exact h0
            have A8 := hc.2.1.1
            have ref : ∀ m1 J1, rH h T q qa z L sc Sn ar N R t K rl vm mg nm S st m1 J1 → ∀ {post : Int → Mi → Mj → Mp → Prop}, _ → _ → _ → Ci X (d + 6) 215 [.ref 262, vi 1, vi w] m1 J1 P post := fun m1 J1 hr1 {post} k0 kn k1 => r_show1 (post := post) hp har hr1.2.2.1.1.1 (RSy_Ry pi.1 pi.2.1 hr1.2.2.1.1) hZ hw hr1.2.2.1.2.1 ok ht hG hc0 k0 kn k1
            refine Pr.mk' (Ci.of rfl rfl rfl (b_Nh_show_0 1 w m J P hp _ ⟨hu, fun g => absurd g (by omega), fun _ => ?_, fun g => absurd g (by omega), fun g => absurd g (by omega), fun g => absurd g (by omega), fun g => absurd g (by omega)⟩))
            refine c_showPair (d := d) hp hb hPb har hC.1 (CSy_BKC pi.1 pi.2.1 hC) hZ hw hc.2.2.2.1.2.1 ok ht hG A8.1 (by have := A8.2; omega) (fun g0 => ⟨hp, hp, ?_⟩) (fun e' Q he g1 ho hn m1 a1 a2 f1 => ⟨hp, hp, ?_⟩) (fun e' Q w1 w2 he g1 ho h1 h2 m1 J1 v1 a1 a2 f1 => ⟨hp, hp, ?_⟩)
            · exact ref m J hr (fun _ => ⟨hp, rfl, H'⟩) (fun e' Q he g1 => (gl_no he g1 g0).elim) (fun e' Q w1 w2 he g1 => (gl_no he g1 g0).elim)
            · have hc1 : cH (A + 400000) b g h T q qa z L sc Sn ar N R t K rl l r vm mg nm S st m1 J := ⟨iB_fr hc.1 fun a k _ => f1 a k (by omega) (by omega), ⟨⟨a1, by have := A8.2; omega⟩, ATT_fr hc.2.1.2.1 (f1 _ _ (by omega) (by omega)) (fun _ => f1 _ _ (by omega) (by omega)), by rw [f1 _ _ (by omega) (by omega)]; have := hc.2.1.2.2; omega⟩, iO_fr hc.2.2.1 fun a k _ => f1 a k (by omega) (by omega), iS_fr hs hc.2.2.2.1 (fun a k _ => f1 a k (by omega) (by omega)) (fun _ _ _ _ => rfl), iT_fr hc.2.2.2.2 (fun a k _ => f1 a k (by omega) (by omega)) fun _ => rfl⟩
              have hr1 := rH_fr (J' := J) (m' := m1) hr (fun a k _ => f1 a k (by omega) (by omega)) fun _ _ _ => rfl
              refine ref m1 J hr1 (fun g0 => (gl_no he g1 g0).elim) (fun _ _ _ _ _ _ m2 f2 => ⟨hp, rfl, b, s, o, g, x', y, hP, h, T, q, qa, z, L, h16, sc, Sn, ar, N, R, t, K, rl, pi, l, r, vm, mg, nm, S, st, pt, cH_fr (J' := J) hs hb hgo hc1 (fun a k _ => f2 a k (by omega) (by omega)) (fun _ _ _ => rfl), ujB_fr hr1.1 (fun a k _ => f2 a k (by omega) (by omega)) (fun _ _ => rfl), ujO_fr hr1.2.1 (fun a k _ => f2 a k (by omega) (by omega)), ujS_fr hr1.2.2.1 (fun a k _ => f2 a k (by omega) (by omega)) (fun _ _ _ _ => rfl), ujT_fr hr1.2.2.2 (fun a k _ => f2 a k (by omega) (by omega)) fun _ => rfl⟩) (fun e2 Q2 w1 w2 he2 _ ho2 h1 h2 => ?_)
              rw [he] at he2
              rw [← Option.some.inj he2] at ho2 h1 h2
              rw [ho] at ho2
              rw [← Option.some.inj ho2] at h1 h2
              rcases hn with hn | hn
              · rw [hn] at h1; cases h1
              · rw [hn] at h2; cases h2
            · have hc1 : cH (A + 400000) b g h T q qa ((oPair (ayw ar) Sn w1 w2).1.length : Int) (cl (oPair (ayw ar) Sn w1 w2).1) sc Sn ar N R t K rl l r vm mg nm S st m1 J1 := ⟨iB_fr hc.1 fun a k _ => f1.1 a k (by omega) (by omega) (by omega) (by omega) (by omega), ⟨⟨a1, by have := A8.2; omega⟩, ATT_fr hc.2.1.2.1 (f1.1 _ _ (by omega) (by omega) (by omega) (by omega) (by omega)) (fun _ => f1.1 _ _ (by omega) (by omega) (by omega) (by omega) (by omega)), by rw [f1.1 _ _ (by omega) (by omega) (by omega) (by omega) (by omega)]; have := hc.2.1.2.2; omega⟩, OC_iO v1.1, iS_fr hs hc.2.2.2.1 (fun a k _ => f1.1 a k (by omega) (by omega) (by omega) (by omega) (by omega)) (fun a k _ _ => f1.2 a k (by omega)), iT_fr hc.2.2.2.2 (fun a k _ => f1.1 a k (by omega) (by omega) (by omega) (by omega) (by omega)) fun _ => f1.2 _ _ (by omega)⟩
              have hr1 := rH_fr (J' := J1) (m' := m1) hr (fun a k _ => f1.1 a k (by omega) (by omega) (by omega) (by omega) (by omega)) fun a k _ => f1.2 a k (by omega)
              refine ref m1 J1 hr1 (fun g0 => (gl_no he g1 g0).elim) (fun e2 Q2 he2 _ ho2 hn => ?_) (fun e2 Q2 y1 y2 he2 _ ho2 h1' h2' m2 J2 v2 f2 => ?_)
              · rw [he] at he2
                rw [← Option.some.inj he2] at ho2 hn
                rw [ho] at ho2
                rw [← Option.some.inj ho2] at hn
                rcases hn with hn | hn
                · rw [hn] at h1; cases h1
                · rw [hn] at h2; cases h2
              · rw [he] at he2
                rw [← Option.some.inj he2] at ho2 h1' h2'
                rw [ho] at ho2
                rw [← Option.some.inj ho2] at h1' h2'
                rw [h1] at h1'
                rw [h2] at h2'
                rw [← Option.some.inj h1', ← Option.some.inj h2'] at v2 ⊢
                exact ⟨hp, rfl, b, s, o, g, x', y, hP, h, T, q, qa, _, _, h16, sc, Sn, ar, N, R, t, K, rl, pi, l, r, vm, mg, nm, S, st, pt, cH_fr hs hb hgo hc1 (fun a k _ => f2.1 a k (by omega) (by omega) (by omega) (by omega) (by omega)) (fun a k _ => f2.2 a k (by omega)), ujB_fr hr1.1 (fun a k _ => f2.1 a k (by omega) (by omega) (by omega) (by omega) (by omega)) (fun k _ => f2.2 _ k (by omega)), OR_jO v2.1, ujS_fr hr1.2.2.1 (fun a k _ => f2.1 a k (by omega) (by omega) (by omega) (by omega) (by omega)) (fun a k _ _ => f2.2 a k (by omega)), ujT_fr hr1.2.2.2 (fun a k _ => f2.1 a k (by omega) (by omega) (by omega) (by omega) (by omega)) fun k => f2.2 _ k (by omega)⟩
end OPE
