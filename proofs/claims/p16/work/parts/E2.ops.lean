/-! single calls: PAIRS, the TREE, ANSWERS -/
section OPB
variable {X : aX} {d x y : Nat} {P P' : Mp} {J J' : Mj} {m m' m0 : Mi} {Sn : Nat → Nat} {ar : Nat → Int} {sc mg b s o g N vm t h : Nat} {R : Nat → Mi} {nm : Nat → Int} {l r : List Int} {S : Ts} {st rl q qa z A : Int} {T : Nat → Int} {L : Nat → Int} {K : List (Nat × Nat × Nat × Int)}
theorem v_pair {u w : Int} (H : IV A m J P) (hu : Zr u) (hw : Zr w) : Pr X (d + 2) 76 183 [vi u, vi w] m J P (IVk A) := by
  obtain ⟨b, s, o, g, x', y, hP, h, T, q, qa, z, L, h16, sc, Sn, ar, N, R, t, K, rl, pi, l, r, vm, mg, nm, S, st, pt, hc, hr⟩ := id H
  have hp := hP.1
  obtain ⟨hC, ⟨⟨c2, c3, c4⟩, c5⟩, _⟩ := hc.2.2.2.1
  obtain ⟨hD, ⟨⟨e2, e5, e3, e4⟩, e6⟩, _⟩ := hr.2.2.1
  obtain ⟨ok, ht, _⟩ := pi.2.2.1
  have ok' : K.length = if t < 200 then t else 200 := ok
  have kl : K.length ≤ 200 ∧ K.length ≤ t ∧ (t < 200 → K.length = t) ∧ (200 ≤ t → K.length = 200) := by split at ok' <;> omega
  have e5' : m 262 45 = (K.length : Int) := e5
  have c2' : m 36 3 = (t : Int) := c2
  have zk : Zr (m 262 45) := by rw [e5']; constructor <;> omega
  have zt : Zr (m 36 3) := by rw [c2']; constructor <;> omega
  by_cases g0 : u < 0 ∨ (K.length : Int) ≤ u
  · refine pr_ofz (z1 := -1) (z2 := -1) rfl hp (fun post k => Ci.of rfl rfl rfl (b_Nh_pair_0 (d := d) u w m J P hp post (Ci.of rfl rfl rfl (b_Pairs_tell_0 u w m J P hp _ (c_holds hp hu zt (fun _ => ⟨hp, zr0, fun _ => ⟨hp, k⟩, fun g => absurd rfl g⟩) (fun gg => absurd gg (by rw [c2']; omega))))))) (fun post k => Ci.of rfl rfl rfl (b_Mdl_pair_0 u w m J P hp post ⟨hu, fun _ => k, fun g1 => ⟨hu, zk, fun g2 => absurd g2 (by omega), fun _ => k⟩⟩)) H
  · obtain ⟨i, rfl⟩ := Int.eq_ofNat_of_zero_le (show 0 ≤ u by omega)
    have hi : i < K.length := by omega
    have he : K[i]? = some K[i] := List.getElem?_eq_getElem hi
    have P1 := PKr_get c5 he
    have Q1 := QKr_get e6 he
    simp only [Nat.zero_add] at P1 Q1
    generalize K[i] = e at *
    have wv : ∀ v : Int, (0 ≤ w ∧ w ≤ 3 → m 37 ((i : Int) * 4 + w).toNat = v) → (w = 0 → m 287 i = v) → (w = 1 → m 288 i = v) → (w = 2 → m 289 i = v) → (w = 3 → m 290 i = v) → (w < 0 ∨ 3 < w → -1 = v) → Pr X (d + 2) 76 183 [vi (i : Int), vi w] m J P (IVk A) := fun v q0 u0 u1 u2 u3 u4 =>
      pr_ofz (z1 := v) (z2 := v) rfl hp (fun post k => Ci.of rfl rfl rfl (b_Nh_pair_0 (d := d) (i : Int) w m J P hp post (Ci.of rfl rfl rfl (b_Pairs_tell_0 (i : Int) w m J P hp _ (c_holds hp hu zt (fun gg => absurd gg (by rw [c2']; omega)) (fun _ => ⟨hp, zr1, fun g => absurd g (by omega), fun _ => ⟨hw, fun g => ⟨hp, by rw [u4 (Or.inl g)]; exact k⟩, fun g1 => ⟨hw, fun g => ⟨hp, by rw [u4 (Or.inr (by omega))]; exact k⟩, fun g2 => ⟨by constructor <;> omega, hp, by rw [q0 (by omega)]; exact k⟩⟩⟩⟩)))))) (fun post k => Ci.of rfl rfl rfl (b_Mdl_pair_0 (i : Int) w m J P hp post ⟨hu, fun g => absurd g (by omega), fun g1 => ⟨hu, zk, fun _ => ⟨hw, fun g => ⟨by constructor <;> omega, by rw [show m 287 (i : Int).toNat = v from u0 g]; exact k⟩, fun g => ⟨by constructor <;> omega, by rw [show m 288 (i : Int).toNat = v from u1 g]; exact k⟩, fun g => ⟨by constructor <;> omega, by rw [show m 289 (i : Int).toNat = v from u2 g]; exact k⟩, fun g => ⟨by constructor <;> omega, by rw [show m 290 (i : Int).toNat = v from u3 g]; exact k⟩, fun g => by rw [u4 g]; exact k⟩, fun g => absurd (by omega) g⟩⟩)) H
    by_cases g1 : w = 0
    · exact wv _ (fun _ => by rw [show ((i : Int) * 4 + w).toNat = 4 * i by omega]; exact P1.1) (fun _ => Q1.1) (by omega) (by omega) (by omega) (by omega)
    · by_cases g2 : w = 1
      · exact wv _ (fun _ => by rw [show ((i : Int) * 4 + w).toNat = 4 * i + 1 by omega]; exact P1.2.1) (by omega) (fun _ => Q1.2.1) (by omega) (by omega) (by omega)
      · by_cases g3 : w = 2
        · exact wv _ (fun _ => by rw [show ((i : Int) * 4 + w).toNat = 4 * i + 2 by omega]; exact P1.2.2.1) (by omega) (by omega) (fun _ => Q1.2.2.1) (by omega) (by omega)
        · by_cases g4 : w = 3
          · exact wv _ (fun _ => by rw [show ((i : Int) * 4 + w).toNat = 4 * i + 3 by omega]; exact P1.2.2.2) (by omega) (by omega) (by omega) (fun _ => Q1.2.2.2) (by omega)
          · exact wv (-1) (fun g => absurd g (by omega)) (by omega) (by omega) (by omega) (by omega) (fun _ => rfl)
/-- the TREE as its readers want it -/
theorem iT_TQ (pt : pT sc ar l r vm mg nm S st rl) (H : iT g l r vm mg nm S st m J) (h1 : st = 1) : TQ sc ar g l r vm mg nm S m J := ⟨(H.2.2 h1).1, (H.2.2 h1).2.1, (pt.2.2 h1).1, (pt.2.2 h1).2.1, (pt.2.2 h1).2.2.1⟩
theorem ujT_TQ (pt : pT sc ar l r vm mg nm S st rl) (H : ujT vm mg nm S st m J) (h1 : st = 1) : TQR sc ar vm mg nm S m J := ⟨(H.2.2 h1).1, (H.2.2 h1).2.1, (pt.2.2 h1).1, (pt.2.2 h1).2.2.1⟩
theorem v_tree {u : Int} (H : IV A m J P) (hu : Zr u) : Pr X (d + 2) 110 206 [vi u] m J P (IVk A) := by
  obtain ⟨b, s, o, g, x', y, hP, h, T, q, qa, z, L, h16, sc, Sn, ar, N, R, t, K, rl, pi, l, r, vm, mg, nm, S, st, pt, hc, hr⟩ := id H
  have hp := hP.1
  have hgo : g = 39 ∨ g = 256 := by rcases hP.2.2.1.2.2 with h | h <;> omega
  have hg : P 38 2 = some g := hP.2.2.1.2.1
  have c1 : m 38 8 = st := hc.2.2.2.2.1
  have r1 : m 262 93 = st := hr.2.2.2.1
  have zs : Zr st := by rcases pt.1 with h | h <;> rw [h] <;> constructor <;> omega
  have zc : Zr (m 38 8) := by rw [c1]; exact zs
  have zr_ : Zr (m 262 93) := by rw [r1]; exact zs
  by_cases g0 : u < 0 ∨ 6 < u
  · refine pr_ofz (z1 := -1) (z2 := -1) rfl hp (fun post k => Ci.of rfl rfl rfl (b_Nh_tree_0 u m J P hp post (Ci.of rfl rfl rfl (b_Tree_tell_0 u m J P hp _ ⟨hu, fun _ => ⟨hp, k⟩, fun _ => ⟨hu, fun g => absurd g (by omega), fun _ => ⟨hp, k⟩⟩⟩)))) (fun post k => Ci.of rfl rfl rfl (b_Mdl_tree_0 u m J P hp post ⟨hu, fun _ => k, fun _ => ⟨hu, fun g => absurd g (by omega), fun _ => k⟩⟩)) H
  · by_cases h1 : st = 1
    · obtain ⟨hQ, hTC, hV, hK, hnm⟩ := iT_TQ pt hc.2.2.2.2 h1
      obtain ⟨⟨hgv, hgn⟩, hTR, _, _⟩ := ujT_TQ pt hr.2.2.2 h1
      have hex := (pt.2.2 h1).2.2.2.2
      have hb1 := hV.1
      simp only [tcl] at hb1
      obtain ⟨⟨a1, a2, a3, a4, a5, a6⟩, _⟩ := hTC
      obtain ⟨⟨b1, b2, b3, b4, b5, b6, b7⟩, _⟩ := hTR
      have a1 : m 38 11 = (S.1.length : Int) := a1
      have a2 : m 38 12 = (S.2.1.length : Int) := a2
      have a3 : m 38 15 = (S.2.2.1 : Int) := a3
      have a4 : m 38 13 = (S.2.2.2.1 : Int) := a4
      have a5 : m 38 14 = S.2.2.2.2.1 := a5
      have a6 : m 38 9 = i2b S.2.2.2.2.2 := a6
      have b1 : m 262 96 = (S.1.length : Int) := b1
      have b2 : m 262 98 = (S.2.1.length : Int) := b2
      have b4 : m 262 97 = (S.2.2.2.1 : Int) := b4
      have b5 : m 262 99 = S.2.2.2.2.1 := b5
      have b6 : m 262 95 = i2b S.2.2.2.2.2 := b6
      have b7 : m 262 100 = (tcl S : Int) := b7
      have zi : Zr (i2b S.2.2.2.2.2) := by unfold i2b; split <;> constructor <;> omega
      have i0 : S.2.2.2.2.2 = true → i2b S.2.2.2.2.2 = 1 := fun e => by rw [e]; rfl
      have i1 : ¬ S.2.2.2.2.2 = true → i2b S.2.2.2.2.2 = 0 := fun e => by unfold i2b; rw [if_neg e]
      have gv : m g 7 = (vm : Int) := hQ.1.2.2
      have gv2 : m 262 101 = (vm : Int) := hgv
      have wv : ∀ v : Int, (u = 0 → (if S.2.2.2.2.2 = true then 3 else if S.1.length ≤ S.2.2.2.1 then 2 else 1) = v) → (u = 1 → (S.1.length : Int) = v) → (u = 2 → (S.2.2.2.1 : Int) = v) → (u = 3 → (S.2.1.length : Int) = v) → (u = 4 → S.2.2.2.2.1 = v) → (u = 5 → (tcl S : Int) = v) → (u < 0 ∨ 5 < u → (vm : Int) = v) → Pr X (d + 2) 110 206 [vi u] m J P (IVk A) := by
        intro v q0 q1 q2 q3 q4 q5 q6
        refine pr_ofz (z1 := v) (z2 := v) rfl hp (fun post k => ?_) (fun post k => ?_) H
        · refine Ci.of rfl rfl rfl (b_Nh_tree_0 u m J P hp post (Ci.of rfl rfl rfl (b_Tree_tell_0 u m J P hp _ ⟨hu, fun g => absurd g (by omega), fun _ => ⟨hu, fun _ => ⟨zc, fun _ => ⟨hu, fun e => ⟨by rw [a6]; exact zi, fun e2 => ?_, fun e2 => ⟨hp, ?_⟩⟩, fun e => ⟨hp, by rw [a1, q1 e]; exact k⟩, fun e => ⟨hp, by rw [a4, q2 e]; exact k⟩, fun e => ⟨hp, by rw [a2, q3 e]; exact k⟩, fun e => ⟨hp, by rw [a5, q4 e]; exact k⟩, fun e => Ci.of rfl rfl rfl (b_Tree_cells_0 m J P hp _ ⟨hp, hp, ?_⟩), fun e => ⟨g, hg, (SP_kd hgo).1, hp, by rw [gv, q6 e]; exact k⟩⟩, fun e => absurd (by rw [c1]; omega) e⟩, fun e => absurd (by omega) e⟩⟩)))
          · have nf : ¬ S.2.2.2.2.2 = true := fun e3 => by rw [a6, i0 e3] at e2; omega
            have v0 := q0 e
            rw [if_neg nf] at v0
            refine c_waits (S := S) hp (by show m 38 8 = 1; rw [c1]; exact h1) ⟨⟨a1, a2, a3, a4, a5, a6⟩, (hc.2.2.2.2.2.2 h1).2.1.2⟩ hV (fun e3 => ⟨hp, zr0, fun _ => ⟨hp, ?_⟩, fun gg => absurd rfl gg⟩) (fun e3 e4 => ⟨hp, zr1, fun gg => absurd gg (by omega), fun _ => ⟨hp, ?_⟩⟩) (by omega)
            · rw [if_pos (by rcases e3 with h | h; exact absurd h nf; exact h)] at v0
              rw [v0]; exact k
            · rw [if_neg (by omega)] at v0
              rw [v0]; exact k
          · have nf : S.2.2.2.2.2 = true := by
              by_cases e3 : S.2.2.2.2.2 = true
              · exact e3
              · exact absurd (by rw [a6, i1 e3]) e2
            have v0 := q0 e
            rw [if_pos nf] at v0
            rw [v0]; exact k
          · have v5 := q5 e
            rw [a1, a2, a3]
            rw [show 4 * (S.1.length : Int) + 2 * (S.2.1.length : Int) + (S.2.2.1 : Int) = (tcl S : Int) by simp only [tcl]; omega, v5]
            exact k
        · refine Ci.of rfl rfl rfl (b_Mdl_tree_0 u m J P hp post ⟨hu, fun g => absurd g (by omega), fun _ => ⟨hu, fun _ => ⟨zr_, fun _ => ⟨hu, fun e => ⟨by rw [b6]; exact zi, fun e2 => ⟨by rw [b4]; constructor <;> omega, by rw [b1]; constructor <;> omega, fun e3 => ?_, fun e3 => ?_⟩, fun e2 => ?_⟩, fun e => by rw [b1, q1 e]; exact k, fun e => by rw [b4, q2 e]; exact k, fun e => by rw [b2, q3 e]; exact k, fun e => by rw [b5, q4 e]; exact k, fun e => by rw [b7, q5 e]; exact k, fun e => by rw [gv2, q6 e]; exact k⟩, fun e => absurd (by rw [r1]; omega) e⟩, fun e => absurd (by omega) e⟩⟩)
          · have nf : ¬ S.2.2.2.2.2 = true := fun e4 => by rw [b6, i0 e4] at e2; omega
            have v0 := q0 e
            rw [b1, b4] at e3
            rw [if_neg nf, if_pos (by omega)] at v0
            rw [v0]; exact k
          · have nf : ¬ S.2.2.2.2.2 = true := fun e4 => by rw [b6, i0 e4] at e2; omega
            have v0 := q0 e
            rw [b1, b4] at e3
            rw [if_neg nf, if_neg (by omega)] at v0
            rw [v0]; exact k
          · have nf : S.2.2.2.2.2 = true := by
              by_cases e3 : S.2.2.2.2.2 = true
              · exact e3
              · exact absurd (by rw [b6, i1 e3]) e2
            have v0 := q0 e
            rw [if_pos nf] at v0
            rw [v0]; exact k
      by_cases e0 : u = 0
      · exact wv _ (fun _ => rfl) (by omega) (by omega) (by omega) (by omega) (by omega) (by omega)
      · by_cases e1 : u = 1
        · exact wv _ (by omega) (fun _ => rfl) (by omega) (by omega) (by omega) (by omega) (by omega)
        · by_cases e2 : u = 2
          · exact wv _ (by omega) (by omega) (fun _ => rfl) (by omega) (by omega) (by omega) (by omega)
          · by_cases e3 : u = 3
            · exact wv _ (by omega) (by omega) (by omega) (fun _ => rfl) (by omega) (by omega) (by omega)
            · by_cases e4 : u = 4
              · exact wv _ (by omega) (by omega) (by omega) (by omega) (fun _ => rfl) (by omega) (by omega)
              · by_cases e5 : u = 5
                · exact wv _ (by omega) (by omega) (by omega) (by omega) (by omega) (fun _ => rfl) (by omega)
                · exact wv _ (by omega) (by omega) (by omega) (by omega) (by omega) (by omega) (fun _ => rfl)
    · have h0 : st = 0 := by rcases pt.1 with h | h <;> omega
      exact pr_ofz (z1 := 0) (z2 := 0) rfl hp (fun post k => Ci.of rfl rfl rfl (b_Nh_tree_0 u m J P hp post (Ci.of rfl rfl rfl (b_Tree_tell_0 u m J P hp _ ⟨hu, fun g => absurd g (by omega), fun _ => ⟨hu, fun _ => ⟨zc, fun g => absurd (c1.trans h0) g, fun _ => ⟨hp, k⟩⟩, fun g => absurd (by omega) g⟩⟩)))) (fun post k => Ci.of rfl rfl rfl (b_Mdl_tree_0 u m J P hp post ⟨hu, fun g => absurd g (by omega), fun _ => ⟨hu, fun _ => ⟨zr_, fun g => absurd (r1.trans h0) g, fun _ => k⟩, fun g => absurd (by omega) g⟩⟩)) H
end OPB
