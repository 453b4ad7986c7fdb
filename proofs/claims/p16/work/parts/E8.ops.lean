/-! single calls: goal -/
section OPH
variable {X : aX} {d x y : Nat} {P P' : Mp} {J J' : Mj} {m m' m0 m1 : Mi} {Sn : Nat → Nat} {ar : Nat → Int} {sc G mg b s o g N vm t h : Nat} {R : Nat → Mi} {nm : Nat → Int} {l r : List Int} {S : Ts} {st rl q qa z A n : Int} {T : Nat → Int} {L : Nat → Int} {K : List (Nat × Nat × Nat × Int)} {Lm Rm Lf Rf : Nat → List Int}
theorem amg_mgO {w : Int} (h : w = 0 ∨ w = 1) : amg (mgO w) = w := by
  rcases h with rfl | rfl <;> rfl
theorem mgO_12 {w : Int} : mgO w = 1 ∨ mgO w = 2 := by unfold mgO; split; exact Or.inl rfl; exact Or.inr rfl
theorem v_goal {w : Int} (H : IV A m J P) (hz : Zr n) (hw : w = 0 ∨ w = 1) (hA : A + 600000 < 2147483647) : Pr X (d + 7) 97 198 [vi n, vi w] m J P (IVk (A + 400000)) := by
  have H' : IV (A + 400000) m J P := IV_up H (by omega)
  obtain ⟨b, s, o, g, x', y, hP, h, T, q, qa, z, L, h16, sc, Sn, ar, N, R, t, K, rl, pi, l, r, vm, mg, nm, S, st, pt, hc, hr⟩ := H
  have hp := hP.1
  have hs := pi.1.1.1
  have hb := (BP_kd hP.2.1).1
  have hog := hP.2.2.1.2.2
  have hgo : g = 39 ∨ g = 256 := by omega
  have har := Sq_ar pi.1
  have c2 : m 2 1 = (h : Int) := hc.1.2.1.1
  have A8 := hc.2.1.1
  have A18 := hc.2.1.2
  have rt : ∀ {m1 J1}, rH h T q qa z L sc Sn ar N R t K rl vm mg nm S st m1 J1 → m1 262 1 = (h : Int) := fun hr1 => hr1.1.2.1.1
  refine Pr.mk' (c_goal hp hP.2.1 hP.2.2.1 hc.1.1 hz (by show 0 ≤ m 2 1 ∧ m 2 1 ≤ 1600; omega) hc.2.2.2.1.2.2 pi.2.2.2 hw pi.1 hc.2.2.2.1.1 A8.1 A18.1 (by have := A18.2; show m 18 _ < _; omega) (fun g0 => ⟨hp, ?_⟩) (fun h1 g0 gj m1 J1 a1 a2 f1 => ⟨hp, ?_⟩) (fun h1 g0 gj m1 J1 P1 hp1 hSP1 pf1 a1 a2 hQ hTC a3 a4 a5 a6 a7 a8 f1 => ⟨hp1, ?_⟩))
  · have rt0 := rt hr
    have g0 : rl = 0 ∨ n < 0 ∨ m 2 1 < n := g0
    exact r_goal (d := d + 1) hp hz (by show 0 ≤ m 262 1 ∧ m 262 1 ≤ 1600; omega) hr.1.1 hr.2.2.1.2.2 pi.2.2.2 hw pi.1 hr.2.2.1.1 (fun _ => ⟨hp, rfl, H'⟩) (fun h1 g1 => absurd (show 0 ≤ n ∧ n ≤ m 262 1 from g1) (by omega)) (fun h1 g1 => absurd (show 0 ≤ n ∧ n ≤ m 262 1 from g1) (by omega))
  · have hr1 := rH_fr (J' := J1) (m' := m1) hr (fun a k _ => f1.1 a k (by omega) (by omega) (by omega) (by omega)) (fun a k _ => f1.2.2 a k (by omega) (by omega))
    have rt1 := rt hr1
    have g0 : 0 ≤ n ∧ n ≤ m 2 1 := g0
    have e : txR m1 n = txC m n := tx_eq hc.1 hr1.1 g0.1 (by omega)
    have hc1 : cH (A + 400000) b g 0 T _ _ z L sc Sn ar N R t K rl l r vm mg nm S st m1 J1 := ⟨iB_0 hc.1 f1.2.1 a1 a2 fun j => f1.1 _ _ (by omega) (by omega) (by omega) (by omega), iA_up (iA_fr hc.2.1 fun a k _ => f1.1 a k (by omega) (by omega) (by omega) (by omega)) (by omega), iO_fr hc.2.2.1 fun a k _ => f1.1 a k (by omega) (by omega) (by omega) (by omega), iS_fr hs hc.2.2.2.1 (fun a k _ => f1.1 a k (by omega) (by omega) (by omega) (by omega)) (fun a k _ _ => f1.2.2 a k (by omega) (by omega)), iT_fr hc.2.2.2.2 (fun a k _ => f1.1 a k (by omega) (by omega) (by omega) (by omega)) fun k => f1.2.2 _ k (by omega) (by omega)⟩
    refine r_goal (d := d + 1) hp hz (by show 0 ≤ m1 262 1 ∧ m1 262 1 ≤ 1600; omega) hr1.1.1 hr1.2.2.1.2.2 pi.2.2.2 hw pi.1 hr1.2.2.1.1 (fun g1 => absurd (show rl = 0 ∨ n < 0 ∨ m1 262 1 < n from g1) (by omega)) ?_ ?_
    · rw [e]
      intro _ _ _ m2 J2 b1 b2 b3 f2 f3
      exact ⟨hp, rfl, b, s, o, g, _, _, hP, 0, T, _, _, z, L, by omega, sc, Sn, ar, N, R, t, K, rl, pi, l, r, vm, mg, nm, S, st, pt, cH_fr hs hb hgo hc1 (fun a k _ => f2 a k (by omega) (by omega) (by omega) (by omega)) (fun a k _ => f3 a k (by omega) (by omega) (by omega)), ujB_0 hr1.1 b3 b1 b2 (fun j => f2 _ _ (by omega) (by omega) (by omega) (by omega)) (fun k _ => f3 _ k (by omega) (by omega) (by omega)), ujO_fr hr1.2.1 (fun a k _ => f2 a k (by omega) (by omega) (by omega) (by omega)), ujS_fr hr1.2.2.1 (fun a k _ => f2 a k (by omega) (by omega) (by omega) (by omega)) (fun a k _ _ => f3 a k (by omega) (by omega) (by omega)), ujT_fr hr1.2.2.2 (fun a k _ => f2 a k (by omega) (by omega) (by omega) (by omega)) fun k => f3 _ k (by omega) (by omega) (by omega)⟩
    · rw [e]
      intro _ _ g1
      exact absurd g1 gj
  · have hr1 := rH_fr (J' := J1) (m' := m1) hr (fun a k _ => f1.1 a k (by omega) (by omega) (by omega) (by omega) (by omega) (by omega) (by omega)) (fun a k _ => f1.2.2 a k (by omega) (by omega))
    have rt1 := rt hr1
    have g0 : 0 ≤ n ∧ n ≤ m 2 1 := g0
    have e : txR m1 n = txC m n := tx_eq hc.1 hr1.1 g0.1 (by omega)
    have hT : Tx (txC m n) n := txC_T hc.1.1 ⟨g0.1, by omega⟩
    have hgK := qG_gK hT hs gj
    have hok := qG_ok hT hs gj
    obtain ⟨hV, hex⟩ := tPlant_TV har hgK (mgO_12 (w := w))
    have hnm := hok.2.2.2.2.2.1
    have hvm := hok.2.2.2.2.1
    have hl := hV.1
    have pt' : pT sc ar _ _ _ (mgO w) (qG (txC m n) n 7) _ 1 rl := ⟨Or.inr rfl, fun _ => h1, fun _ => ⟨hV, hgK, fun v hv => hnm v (by omega), tPlant_nG, by omega⟩⟩
    have hc1 : cH (A + 400000) b o 0 T 0 (-1) z L sc Sn ar N R t K rl _ _ _ (mgO w) (qG (txC m n) n 7) _ 1 m1 J1 := ⟨iB_0 hc.1 f1.2.1 a1 a2 fun j => f1.1 _ _ (by omega) (by omega) (by omega) (by omega) (by omega) (by omega) (by omega), ⟨⟨a5, by rw [a6]; have := A8.2; omega⟩, a7, by rw [a8]; have := A18.2; omega⟩, iO_fr hc.2.2.1 fun a k _ => f1.1 a k (by omega) (by omega) (by omega) (by omega) (by omega) (by omega) (by omega), iS_fr hs hc.2.2.2.1 (fun a k _ => f1.1 a k (by omega) (by omega) (by omega) (by omega) (by omega) (by omega) (by omega)) (fun a k _ _ => f1.2.2 a k (by omega) (by omega)), a3, ⟨by rw [show m1 38 11 = _ from hTC.1.1]; constructor <;> omega, by rw [show m1 38 12 = _ from hTC.1.2.1]; constructor <;> omega⟩, fun _ => ⟨hQ, hTC, a4⟩⟩
    have hP1 : iP b s g o x' y P1 := ⟨hp1, ⟨(pf1 _ _ (by omega) (by omega)).trans hP.2.1.1, (pf1 _ _ (by omega) (by omega)).trans hP.2.1.2.1, hP.2.1.2.2⟩, hSP1, ⟨(pf1 _ _ (by omega) (by omega)).trans hP.2.2.2.1, (pf1 _ _ (by omega) (by omega)).trans hP.2.2.2.2.1, hP.2.2.2.2.2⟩⟩
    refine r_goal (d := d + 1) hp1 hz (by show 0 ≤ m1 262 1 ∧ m1 262 1 ≤ 1600; omega) hr1.1.1 hr1.2.2.1.2.2 pi.2.2.2 hw pi.1 hr1.2.2.1.1 (fun g1 => absurd (show rl = 0 ∨ n < 0 ∨ m1 262 1 < n from g1) (by omega)) ?_ ?_
    · rw [e]
      intro _ _ g1
      exact absurd gj g1
    · rw [e]
      intro _ _ _ m2 J2 b1 b2 b3 hTR b4 b5 b6 b7 f2
      exact ⟨hp1, rfl, b, s, g, o, _, _, hP1, 0, T, 0, -1, z, L, by omega, sc, Sn, ar, N, R, t, K, rl, pi, _, _, _, _, _, _, 1, pt', cH_fr hs hb (by omega) hc1 (fun a k _ => f2.1 a k (by omega) (by omega) (by omega) (by omega) (by omega) (by omega)) (fun a k _ => f2.2 a k (by omega) (by omega) (by omega) (by omega)), ujB_0 hr1.1 b3 b1 b2 (fun j => f2.1 _ _ (by omega) (by omega) (by omega) (by omega) (by omega) (by omega)) (fun k _ => f2.2 _ k (by omega) (by omega) (by omega) (by omega)), ujO_fr hr1.2.1 (fun a k _ => f2.1 a k (by omega) (by omega) (by omega) (by omega) (by omega) (by omega)), ujS_fr hr1.2.2.1 (fun a k _ => f2.1 a k (by omega) (by omega) (by omega) (by omega) (by omega) (by omega)) (fun a k _ _ => f2.2 a k (by omega) (by omega) (by omega) (by omega)), b4, ⟨by rw [show m2 262 96 = _ from hTR.1.1]; constructor <;> omega, by rw [show m2 262 98 = _ from hTR.1.2.1]; constructor <;> omega⟩, fun _ => ⟨⟨b6, b7⟩, hTR, b5.trans (amg_mgO hw).symm⟩⟩
end OPH
