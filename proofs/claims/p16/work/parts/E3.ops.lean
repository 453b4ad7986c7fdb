/-! single calls: NODES, ANSWERS -/
section OPC
variable {X : aX} {d x y : Nat} {P P' : Mp} {J J' : Mj} {m m' m0 : Mi} {Sn : Nat → Nat} {ar : Nat → Int} {sc G mg b s o g N vm t h : Nat} {R : Nat → Mi} {nm : Nat → Int} {l r : List Int} {S : Ts} {st rl q qa z A : Int} {T : Nat → Int} {L : Nat → Int} {K : List (Nat × Nat × Nat × Int)}
/-- countMarked() -/
theorem c_countMarked {i : Nat} {e : Nd} (hp : PP P) (hi : i < 1000) (h : NC i e m) (hok : okN sc ar (ndl e) (ndr e) (ndv e)) (hf : e.2.1 + (ndg e).length ≤ 30000) {post : Int → Mi → Mj → Mp → Prop} (k : post (cmk (ndl e ++ ndr e) : Int) m J P) : Ci X (d + 1) 115 [.ref 38, .int (iz (i : Int))] m J P post := by
  refine Ci.of rfl rfl rfl (b_Tree_countMarked_0 (i : Int) m J P hp post (c_nodeStart hp hi h ⟨hp, ?_⟩))
  have hln := ng_len (l := ndl e) (r := ndr e) (vs := ndv e)
  have hge : (ndg e).length = (ngr (ndl e) (ndr e) (ndv e)).length := rfl
  have hk := hok.2.1
  have ell : (ndl e ++ ndr e).length = (ndl e).length + (ndr e).length := List.length_append
  have hrow : Ro m 45 e.2.1 ((ndl e ++ ndr e) ++ (ndv e).flatten) := by rw [List.append_assoc]; exact h.2
  have hr1 := (Ro_app.mp hrow).1
  have loop : ∀ (q k : Nat), k + q = (ndl e ++ ndr e).length → Rn X (d + 1) 115 8 [some (.ref 38), some (.int (iz (i : Int))), some (.int (iz (cmk ((ndl e ++ ndr e).take k) : Int))), some (.int (iz ((e.2.1 + k : Nat) : Int)))] [] (SS m J P) (QI post) := by
    intro q
    induction q with
    | zero =>
      intro k hk
      refine b_Tree_countMarked_8 (i : Int) _ _ m J P hp post (c_valuesStart hp hi h ⟨hp, by constructor <;> omega, by constructor <;> omega, fun _ => ?_, fun g => absurd (by omega) g⟩)
      rw [List.take_of_length_le (by omega)]
      assumption
    | succ q ih =>
      intro k hk
      have hkl : k < (ndl e ++ ndr e).length := by omega
      refine b_Tree_countMarked_8 (i : Int) _ _ m J P hp post (c_valuesStart hp hi h ⟨hp, by constructor <;> omega, by constructor <;> omega, fun g => absurd g (by omega), fun _ => ⟨by constructor <;> omega, ?_⟩⟩)
      have ec : m 45 (((e.2.1 + k : Nat) : Int)).toNat = cl (ndl e ++ ndr e) k := by
        have := Ro_get hr1 (i := k) hkl
        rw [← cl_get hkl] at this
        exact this
      rw [ec]
      have hc := hok.2.2.2 _ (cl_mem hkl)
      refine c_isMarked hp ⟨by omega, hc.1.2.1⟩ ⟨hp, ?_⟩
      have := ih (k + 1) (by omega)
      rw [cmk_take hkl] at this
      by_cases g : 32 ≤ cl (ndl e ++ ndr e) k
      · rw [if_pos g] at this
        rw [decide_eq_true g]
        refine ⟨by constructor <;> decide, fun g2 => absurd g2 (by decide), fun _ => ?_⟩
        rw [show (cmk ((ndl e ++ ndr e).take k) : Int) + 1 = ((cmk ((ndl e ++ ndr e).take k) + 1 : Nat) : Int) by omega, show ((e.2.1 + k : Nat) : Int) + 1 = ((e.2.1 + (k + 1) : Nat) : Int) by omega]
        exact this
      · rw [if_neg g] at this
        rw [decide_eq_false g]
        refine ⟨by constructor <;> decide, fun _ => ?_, fun g2 => absurd rfl g2⟩
        rw [show ((e.2.1 + k : Nat) : Int) + 1 = ((e.2.1 + (k + 1) : Nat) : Int) by omega]
        exact this
  have := loop (ndl e ++ ndr e).length 0 (by omega)
  exact this
theorem v_node {u w : Int} (H : IV A m J P) (hu : Zr u) (hw : Zr w) : Pr X (d + 3) 112 207 [vi u, vi w] m J P (IVk A) := by
  obtain ⟨b, s, o, g, x', y, hP, h, T, q, qa, z, L, h16, sc, Sn, ar, N, R, t, K, rl, pi, l, r, vm, mg, nm, S, st, pt, hc, hr⟩ := id H
  have hp := hP.1
  have c1 : m 38 8 = st := hc.2.2.2.2.1
  have r1 : m 262 93 = st := hr.2.2.2.1
  have zn := hc.2.2.2.2.2.1.1
  have zn2 := hr.2.2.2.2.1.1
  have cN1 : st = 1 → m 38 11 = (S.1.length : Int) := fun h1 => (hc.2.2.2.2.2.2 h1).2.1.1.1
  have rN1 : st = 1 → m 262 96 = (S.1.length : Int) := fun h1 => (hr.2.2.2.2.2 h1).2.1.1.1
  by_cases g0 : st = 1 ∧ 0 ≤ u ∧ u < (S.1.length : Int)
  · obtain ⟨h1, g1, g2⟩ := g0
    obtain ⟨i, rfl⟩ := Int.eq_ofNat_of_zero_le g1
    have hi : i < S.1.length := by omega
    have he : S.1[i]? = some S.1[i] := List.getElem?_eq_getElem hi
    generalize S.1[i] = e at he
    have hV := (pt.2.2 h1).1
    have hb1 := hV.1
    simp only [tcl] at hb1
    have hN := hV.2.2.1 e (gl_lt he).2
    have fit := hN.2.2.1
    have hNC := (hc.2.2.2.2.2.2 h1).2.1.2.1 i e he
    have hNR := (hr.2.2.2.2.2 h1).2.1.2.1 i e he
    obtain ⟨⟨n0, n1, n2, n3, n4, n5, n6, n7, n8⟩, _⟩ := id hNC
    obtain ⟨⟨m0, m1, m2, m3, m4, m5, m6, m7, m8⟩, _⟩ := id hNR
    have wv : ∀ v : Int, (0 ≤ w ∧ w ≤ 5 → m 46 ((i : Int) * 9 + w).toNat = v) → (w = 6 → (cmk (ndl e ++ ndr e) : Int) = v) → (w = 7 → e.2.2.2 = v) → (w < 0 ∨ 7 < w → -1 = v) → (w = 0 → m 327 i = v) → (w = 1 → m 328 i = v) → (w = 2 → m 329 i = v) → (w = 3 → m 330 i = v) → (w = 4 → m 325 i = v) → (w = 5 → m 326 i = v) → Pr X (d + 3) 112 207 [vi (i : Int), vi w] m J P (IVk A) := by
      intro v q0 q6 q7 q8 u0 u1 u2 u3 u4 u5
      refine pr_ofz (z1 := v) (z2 := v) rfl hp (fun post k => ?_) (fun post k => ?_) H
      · refine Ci.of rfl rfl rfl (b_Nh_node_0 (d := d) (i : Int) w m J P hp post (Ci.of rfl rfl rfl (b_Tree_tellNode_0 (i : Int) w m J P hp _ (c_hasN (S := S) hp hu c1 pt.1 zn cN1 (fun gg => absurd (gg h1) (by omega)) (fun _ _ _ _ => ⟨hp, zr1, fun gg => absurd gg (by omega), fun _ => ⟨hw, fun e1 => ⟨hp, by rw [q8 (Or.inl e1)]; exact k⟩, fun e1 => ⟨hw, fun e2 => ⟨hw, fun e3 => ⟨hw, fun e4 => ⟨by constructor <;> omega, hp, by rw [q0 (by omega)]; exact k⟩, fun e4 => ⟨by constructor <;> omega, hp, ?_⟩⟩, fun e3 => ?_⟩, fun e2 => ⟨hp, by rw [q8 (Or.inr (by omega))]; exact k⟩⟩⟩⟩)))))
        · rw [show ((i : Int) * 9 + 6).toNat = 9 * i + 6 by omega, show m 46 (9 * i + 6) = e.2.2.2 from n6, q7 (by omega)]
          exact k
        · refine c_countMarked (d := d) hp (by omega) hNC hN.1 (by omega) ⟨hp, hp, ?_⟩
          rw [q6 (by omega)]
          exact k
      · refine Ci.of rfl rfl rfl (b_Mdl_node_0 (d := d + 2) (i : Int) w m J P hp post (r_hasN (S := S) hp hu r1 pt.1 zn2 rN1 (fun gg => absurd (gg h1) (by omega)) (fun _ _ _ _ => ⟨hp, zr1, fun _ => ⟨hw, fun e1 => ⟨by constructor <;> omega, by rw [show m 327 (i : Int).toNat = v from u0 e1]; exact k⟩, fun e1 => ⟨by constructor <;> omega, by rw [show m 328 (i : Int).toNat = v from u1 e1]; exact k⟩, fun e1 => ⟨by constructor <;> omega, by rw [show m 329 (i : Int).toNat = v from u2 e1]; exact k⟩, fun e1 => ⟨by constructor <;> omega, by rw [show m 330 (i : Int).toNat = v from u3 e1]; exact k⟩, fun e1 => ⟨by constructor <;> omega, by rw [show m 325 (i : Int).toNat = v from u4 e1]; exact k⟩, fun e1 => ⟨by constructor <;> omega, by rw [show m 326 (i : Int).toNat = v from u5 e1]; exact k⟩, fun e1 => ⟨by constructor <;> omega, by rw [show m 331 (i : Int).toNat = v from m8.trans (q6 e1)]; exact k⟩, fun e1 => ⟨by constructor <;> omega, by rw [show m 332 (i : Int).toNat = v from m6.trans (q7 e1)]; exact k⟩, fun e1 => by rw [q8 e1]; exact k⟩, fun gg => absurd (by omega) gg⟩)))
    by_cases e0 : w = 0
    · exact wv _ (fun _ => by rw [show ((i : Int) * 9 + w).toNat = 9 * i by omega]; exact n0) (by omega) (by omega) (by omega) (fun _ => m0) (by omega) (by omega) (by omega) (by omega) (by omega)
    · by_cases e1 : w = 1
      · exact wv _ (fun _ => by rw [show ((i : Int) * 9 + w).toNat = 9 * i + 1 by omega]; exact n1) (by omega) (by omega) (by omega) (by omega) (fun _ => m1) (by omega) (by omega) (by omega) (by omega)
      · by_cases e2 : w = 2
        · exact wv _ (fun _ => by rw [show ((i : Int) * 9 + w).toNat = 9 * i + 2 by omega]; exact n2) (by omega) (by omega) (by omega) (by omega) (by omega) (fun _ => m2) (by omega) (by omega) (by omega)
        · by_cases e3 : w = 3
          · exact wv _ (fun _ => by rw [show ((i : Int) * 9 + w).toNat = 9 * i + 3 by omega]; exact n3) (by omega) (by omega) (by omega) (by omega) (by omega) (by omega) (fun _ => m3) (by omega) (by omega)
          · by_cases e4 : w = 4
            · exact wv _ (fun _ => by rw [show ((i : Int) * 9 + w).toNat = 9 * i + 4 by omega]; exact n4) (by omega) (by omega) (by omega) (by omega) (by omega) (by omega) (by omega) (fun _ => m4) (by omega)
            · by_cases e5 : w = 5
              · exact wv _ (fun _ => by rw [show ((i : Int) * 9 + w).toNat = 9 * i + 5 by omega]; exact n5) (by omega) (by omega) (by omega) (by omega) (by omega) (by omega) (by omega) (by omega) (fun _ => m5)
              · by_cases e6 : w = 6
                · exact wv _ (by omega) (fun _ => rfl) (by omega) (by omega) (by omega) (by omega) (by omega) (by omega) (by omega) (by omega)
                · by_cases e7 : w = 7
                  · exact wv _ (by omega) (by omega) (fun _ => rfl) (by omega) (by omega) (by omega) (by omega) (by omega) (by omega) (by omega)
                  · exact wv (-1) (fun gg => absurd gg (by omega)) (by omega) (by omega) (fun _ => rfl) (by omega) (by omega) (by omega) (by omega) (by omega) (by omega)
  · refine pr_ofz (z1 := -1) (z2 := -1) rfl hp (fun post k => ?_) (fun post k => ?_) H
    · exact Ci.of rfl rfl rfl (b_Nh_node_0 (d := d) u w m J P hp post (Ci.of rfl rfl rfl (b_Tree_tellNode_0 u w m J P hp _ (c_hasN (S := S) hp hu c1 pt.1 zn cN1 (fun _ => ⟨hp, zr0, fun _ => ⟨hp, k⟩, fun gg => absurd rfl gg⟩) (fun h1 a ha g1 => absurd ⟨h1, g1, by have := (gl_lt ha).1; omega⟩ g0)))))
    · exact Ci.of rfl rfl rfl (b_Mdl_node_0 (d := d + 2) u w m J P hp post (r_hasN (S := S) hp hu r1 pt.1 zn2 rN1 (fun _ => ⟨hp, zr0, fun gg => absurd rfl gg, fun _ => k⟩) (fun h1 a ha g1 => absurd ⟨h1, g1, by have := (gl_lt ha).1; omega⟩ g0)))
theorem v_covers {u w : Int} (H : IV A m J P) (hu : Zr u) (hw : Zr w) : Pr X (d + 5) 122 213 [vi u, vi w] m J P (IVk A) := by
  obtain ⟨b, s, o, g, x', y, hP, h, T, q, qa, z, L, h16, sc, Sn, ar, N, R, t, K, rl, pi, l, r, vm, mg, nm, S, st, pt, hc, hr⟩ := id H
  have hp := hP.1
  have hs := pi.1.1.1
  have hb := (BP_kd hP.2.1).1
  have hgo : g = 39 ∨ g = 256 := by rcases hP.2.2.1.2.2 with h | h <;> omega
  have har := Sq_ar pi.1
  refine Pr.mk' (c_covers (S := S) hp hb hP.2.1.1 hP.2.2.1.2.1 hgo har hc.2.2.2.1.1.2.1 hu hw hc.2.2.2.2.1 pt.1 hc.2.2.2.2.2.1.2 (iT_TQ pt hc.2.2.2.2) (fun g0 => ⟨hp, ?_⟩) (fun h1 a a' ha g1 ha' g2 m1 f1 => ⟨hp, ?_⟩))
  · refine r_covers (S := S) (d := d + 2) hp har (RSy_RA hr.2.2.1.1) hu hw hr.2.2.2.1 pt.1 hr.2.2.2.2.1.2 (ujT_TQ pt hr.2.2.2) (fun _ => ⟨hp, rfl, H⟩) (fun h1 a a' ha g1 ha' g2 m1 f1 => ?_)
    rcases g0 with g | g
    · have := g h1; have := (gl_lt ha).1; omega
    · have := g h1; have := (gl_lt ha').1; omega
  · have hc1 : cH A b g h T q qa z L sc Sn ar N R t K rl l r vm mg nm S st m1 J := ⟨iB_fr hc.1 fun a k _ => f1 a k (by omega), iA_fr hc.2.1 fun a k _ => f1 a k (by omega), iO_fr hc.2.2.1 fun a k _ => f1 a k (by omega), iS_fr hs hc.2.2.2.1 (fun a k _ => f1 a k (by omega)) (fun _ _ _ _ => rfl), iT_fr hc.2.2.2.2 (fun a k _ => f1 a k (by omega)) fun _ => rfl⟩
    have hr1 := rH_fr (J' := J) hr (fun a k _ => f1 a k (by omega)) fun _ _ _ => rfl
    refine r_covers (S := S) (d := d + 2) hp har (RSy_RA hr1.2.2.1.1) hu hw hr1.2.2.2.1 pt.1 hr1.2.2.2.2.1.2 (ujT_TQ pt hr1.2.2.2) (fun g0 => ?_) (fun _ b1 b2 hb1 _ hb2 _ m2 f2 => ⟨hp, ?_, b, s, o, g, x', y, hP, h, T, q, qa, z, L, h16, sc, Sn, ar, N, R, t, K, rl, pi, l, r, vm, mg, nm, S, st, pt, cH_fr (J' := J) hs hb hgo hc1 (fun a k _ => f2 a k (by omega) (by omega)) (fun _ _ _ => rfl), ujB_fr hr1.1 (fun a k _ => f2 a k (by omega) (by omega)) (fun _ _ => rfl), ujO_fr hr1.2.1 (fun a k _ => f2 a k (by omega) (by omega)), ujS_fr hr1.2.2.1 (fun a k _ => f2 a k (by omega) (by omega)) (fun _ _ _ _ => rfl), ujT_fr hr1.2.2.2 (fun a k _ => f2 a k (by omega) (by omega)) fun _ => rfl⟩)
    · rcases g0 with g | g
      · have := g h1; have := (gl_lt ha).1; omega
      · have := g h1; have := (gl_lt ha').1; omega
    · rw [ha] at hb1
      rw [ha'] at hb2
      rw [Option.some.inj hb1, Option.some.inj hb2]
theorem v_answer {u w : Int} (H : IV A m J P) (hu : Zr u) (hw : Zr w) : Pr X (d + 6) 118 209 [vi u, vi w] m J P (IVk A) := by
  obtain ⟨b, s, o, g, x', y, hP, h, T, q, qa, z, L, h16, sc, Sn, ar, N, R, t, K, rl, pi, l, r, vm, mg, nm, S, st, pt, hc, hr⟩ := id H
  have hp := hP.1
  have hs := pi.1.1.1
  have hb := (BP_kd hP.2.1).1
  have hgo : g = 39 ∨ g = 256 := by rcases hP.2.2.1.2.2 with h | h <;> omega
  have back : ∀ m1 J1, cH A b g h T q qa z L sc Sn ar N R t K rl l r vm mg nm S st m1 J1 → rH h T q qa z L sc Sn ar N R t K rl vm mg nm S st m1 J1 → ∀ {post : Int → Mi → Mj → Mp → Prop}, ((st = 1 → u < 0 ∨ (S.2.1.length : Int) ≤ u) → post (-1) m1 J1 P) → (w ≠ 0 → w ≠ 1 → post (-1) m1 J1 P) → (st = 1 → ∀ a, S.2.1[u.toNat]? = some a → 0 ≤ u → w = 0 → post (a.1 : Int) m1 J1 P) → (st = 1 → ∀ a, S.2.1[u.toNat]? = some a → 0 ≤ u → w = 1 → ∀ m' P', PP P' → IV A m' J1 P' → post (ans2 (ayw ar) N (SL Sn sc ar R) (SR Sn sc ar R) l r a.2.2) m' J1 P') → Ci X (d + 6) 209 [.ref 262, vi u, vi w] m1 J1 P post := fun m1 J1 hc1 hr1 {post} k0 kb kN kJ =>
    r_answer (S := S) (x := x') (y := y) hp hP.2.2.2 pi.1 pi.2.1 hr1.2.2.1.1 hu hw hr1.2.2.2.1 pt.1 hr1.2.2.2.2.1.2 (fun h1 => ⟨ujT_TQ pt hr1.2.2.2 h1, (pt.2.2 h1).2.1, (pt.2.2 h1).2.2.2.1⟩) k0 kb kN (fun h1 a ha g1 g2 m2 P2 x2 y2 hp2 hTP2 pf f2 => kJ h1 a ha g1 g2 m2 P2 hp2 ⟨b, s, o, g, x2, y2, ⟨hp2, ⟨(pf 1 8 (by omega)).trans hP.2.1.1, (pf 1 9 (by omega)).trans hP.2.1.2.1, hP.2.1.2.2⟩, ⟨(pf 1 10 (by omega)).trans hP.2.2.1.1, (pf 38 2 (by omega)).trans hP.2.2.1.2.1, hP.2.2.1.2.2⟩, hTP2⟩, h, T, q, qa, z, L, h16, sc, Sn, ar, N, R, t, K, rl, pi, l, r, vm, mg, nm, S, st, pt, cH_fr (J' := J1) hs hb hgo hc1 (fun a k _ => f2 a k (by omega) (by omega) (by omega) (by omega) (by omega)) (fun _ _ _ => rfl), ujB_fr hr1.1 (fun a k _ => f2 a k (by omega) (by omega) (by omega) (by omega) (by omega)) (fun _ _ => rfl), ujO_fr hr1.2.1 (fun a k _ => f2 a k (by omega) (by omega) (by omega) (by omega) (by omega)), ujS_fr hr1.2.2.1 (fun a k _ => f2 a k (by omega) (by omega) (by omega) (by omega) (by omega)) (fun _ _ _ _ => rfl), ujT_fr hr1.2.2.2 (fun a k _ => f2 a k (by omega) (by omega) (by omega) (by omega) (by omega)) fun _ => rfl⟩)
  refine Pr.mk' (c_answer (S := S) (d := d + 2) hp hb hP.2.1.1 hP.2.2.1.2.1 hgo pi.1 hc.2.2.2.1.1 hu hw hc.2.2.2.2.1 pt.1 hc.2.2.2.2.2.1.2 (iT_TQ pt hc.2.2.2.2) (fun g0 => ⟨hp, ?_⟩) (fun g0 g1 => ⟨hp, ?_⟩) (fun h1 a ha g1 g2 => ⟨hp, ?_⟩) (fun h1 a ha g1 g2 m1 f1 => ⟨hp, ?_⟩))
  · refine back m J hc hr (fun _ => ⟨hp, rfl, H⟩) (fun _ _ => ⟨hp, rfl, H⟩) (fun h1 a ha _ _ => ?_) (fun h1 a ha _ _ _ _ _ _ => ?_)
    · have := g0 h1; have := (gl_lt ha).1; omega
    · have := g0 h1; have := (gl_lt ha).1; omega
  · exact back m J hc hr (fun _ => ⟨hp, rfl, H⟩) (fun _ _ => ⟨hp, rfl, H⟩) (fun h1 a ha _ g2 => absurd g2 g0) (fun h1 a ha _ g2 => absurd g2 g1)
  · refine back m J hc hr (fun g0 => ?_) (fun gg => absurd g2 gg) (fun _ a' ha' _ _ => ⟨hp, ?_, H⟩) (fun _ _ _ _ g3 => absurd g3 (by omega))
    · have := g0 h1; have := (gl_lt ha).1; omega
    · rw [ha] at ha'; rw [Option.some.inj ha']
  · have hc1 : cH A b g h T q qa z L sc Sn ar N R t K rl l r vm mg nm S st m1 J := ⟨iB_fr hc.1 fun a k _ => f1 a k (by omega) (by omega) (by omega), iA_fr hc.2.1 fun a k _ => f1 a k (by omega) (by omega) (by omega), iO_fr hc.2.2.1 fun a k _ => f1 a k (by omega) (by omega) (by omega), iS_fr hs hc.2.2.2.1 (fun a k _ => f1 a k (by omega) (by omega) (by omega)) (fun _ _ _ _ => rfl), iT_fr hc.2.2.2.2 (fun a k _ => f1 a k (by omega) (by omega) (by omega)) fun _ => rfl⟩
    have hr1 := rH_fr (J' := J) hr (fun a k _ => f1 a k (by omega) (by omega) (by omega)) fun _ _ _ => rfl
    refine back m1 J hc1 hr1 (fun g0 => ?_) (fun _ gg => absurd g2 gg) (fun _ _ _ _ g3 => absurd g3 (by omega)) (fun _ a' ha' _ _ m2 P2 hp2 H2 => ⟨hp2, ?_, H2⟩)
    · have := g0 h1; have := (gl_lt ha).1; omega
    · rw [ha] at ha'; rw [Option.some.inj ha']
end OPC
