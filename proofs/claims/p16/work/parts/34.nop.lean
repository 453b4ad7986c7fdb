section NOQ
variable {X : aX} {d : Nat} {m : Mi} {J : Mj} {P : Mp}
theorem nw_show {x y : Int} (h : Nw m P) (hx : Zr x) (hy : Zr y) : Pr X (d + 6) 125 215 [vi x, vi y] m J P NW := by
  obtain ⟨⟨_, _, _, _, b1, _, _, b2, b3⟩, ⟨b4, _, _, _, b5, _⟩, _, _, _, _, f1, f2, f3, f4, f5, f6⟩ := h.fr
  have k54 : am_kd an_K 54 = some (.inl 10) := by decide +kernel
  refine pr_of (-1) zrm h.pp (fun post k => Ci.of rfl rfl rfl (b_Nh_show_0 x y m J P h.pp post ⟨hx, fun g => ?_, fun g => ?_, fun g => ?_, fun g => ?_, fun g => ?_, fun g => k⟩)) (fun post k => Ci.of rfl rfl rfl (b_Mdl_show_0 (d := d + 1) x y m J P h.pp post ⟨hx, fun g0 => ⟨hx, fun g1 => ⟨hx, fun g2 => ?_, fun g2 => ⟨hx, fun g3 => ⟨hx, fun g4 => k, fun g4 => ?_⟩, fun g3 => ?_⟩⟩, fun g1 => ?_⟩, fun g0 => ?_⟩)) h
  · refine Ci.of rfl rfl rfl (b_Nh_showRule_0 (d := d + 1) y m J P h.pp _ ⟨hy, fun _ => ⟨h.pp, k⟩, fun g2 => ⟨54, b1, k54, hy, zr_of b2 zr0, fun g3 => ?_, fun _ => ⟨h.pp, k⟩⟩⟩)
    rw [b2] at g3
    exact absurd g3 (by omega)
  · refine Ci.of rfl rfl rfl (b_Nh_showPair_0 y m J P h.pp _ ⟨54, b1, k54, ?_⟩)
    refine Ci.of rfl rfl rfl (b_Pairs_rebuild_0 y 54 k54 m J P h.pp _ ?_)
    refine c_holds h.pp hy (zr_of b4 zr0) (fun _ => ⟨h.pp, zr0, fun g2 => absurd rfl g2, fun _ => ⟨h.pp, zr0, fun g2 => absurd rfl g2, fun _ => ⟨h.pp, k⟩⟩⟩) (fun g2 => ?_)
    rw [b4] at g2
    exact absurd g2.2.2 (by omega)
  · refine Ci.of rfl rfl rfl (b_Nh_showEquation_0 y m J P h.pp _ ?_)
    exact nt_c_hasNode h.pp hy f1 f3 ⟨h.pp, zr0, fun g2 => absurd rfl g2, fun _ => ⟨h.pp, k⟩⟩
  · exact nt_c_hasNode h.pp hy f1 f3 ⟨h.pp, zr0, fun _ => k, fun g2 => absurd rfl g2⟩
  · exact nt_c_hasAnswer h.pp hy f1 f4 ⟨h.pp, zr0, fun _ => k, fun g2 => absurd rfl g2⟩
  · exact nt_r_isNode h.pp hy f2 f5 ⟨h.pp, zr0, fun g2 => absurd rfl g2, fun _ => k⟩
  · exact nt_r_isAnswer h.pp hy f2 f6 ⟨h.pp, zr0, fun g2 => absurd rfl g2, fun _ => k⟩
  · exact nt_r_isNode h.pp hy f2 f5 ⟨h.pp, zr0, fun g2 => absurd rfl g2, fun _ => k⟩
  · refine ⟨hy, fun _ => k, fun g2 => ⟨hy, zr_of b5 zr0, fun g3 => ?_, fun _ => k⟩⟩
    rw [b5] at g3
    exact absurd g3 (by omega)
  · refine ⟨hy, fun _ => k, fun g2 => ⟨hy, zr_of b3 zr0, fun g3 => ?_, fun _ => k⟩⟩
    rw [b3] at g3
    exact absurd g3 (by omega)
/-- SYSTEM on the new pair -/
theorem nw_system0 {x0 : Nat × (Nat → Int32)} {x : Int} (hx : Zr x) : Pr (some x0) 10 14 136 [vi x] an_m0 an_J0 an_P0 (fun _ _ _ => True) := by
  obtain ⟨_, t1, t2, w, σ, g1, g2, g3, g4, y, τ, f1, f2, f3, f4⟩ := an_new_is
  by_cases h : x = 0
  · subst h
    refine Ci.of_run (k := 3) g1 rfl rfl g3 ⟨g4, ?_⟩
    refine Ci.of_run (k := 2) f1 rfl rfl f3 ⟨f4, iz_zr _, iz_zr _, ?_, trivial⟩
    rw [g2, f2]
  · refine pr_of (-1) zrm an_PP0 (fun post k => Ci.of rfl rfl rfl (b_Nh_system_0 (d := 3) x an_m0 an_J0 an_P0 an_PP0 post ?_)) (fun post k => Ci.of rfl rfl rfl (b_Mdl_system_0 (d := 2) x an_m0 an_J0 an_P0 an_PP0 post ⟨hx, fun _ => k, fun g => ⟨hx, zr_of t2 zr0, fun g5 => ?_, fun _ => k⟩⟩)) trivial
    · refine c_lacks an_PP0 hx (zr_of t1 zr0) (fun _ => ⟨an_PP0, zr1, fun g => absurd g (by decide), fun _ => k⟩) (fun g => ?_)
      rw [t1] at g
      exact absurd g (by omega)
    · rw [t2] at g5
      exact absurd g5 (by omega)
theorem an_nw0 : Nw an_m0 an_P0 := by
  obtain ⟨h1, t1, t2, _⟩ := an_new_is
  exact ⟨an_PP0, h1, by rw [t1, t2], by rw [t1]; decide, by rw [t1]; decide⟩
/-- one call of each kind on the new pair -/
theorem nw_ops {x0 : Nat × (Nat → Int32)} : OPS (some x0) 10 (fun m J P => m = an_m0 ∧ J = an_J0 ∧ P = an_P0) (fun _ _ P => True) := by
  intro m J P e a1 a2 a3 a4 a5 h1 h2 h3 h4 h5
  rw [e.1, e.2.1, e.2.2]
  have h := an_nw0
  have w : ∀ {d c1 c2 : Nat} {as : List Value}, Pr (some x0) d c1 c2 as an_m0 an_J0 an_P0 NW → Pr (some x0) d c1 c2 as an_m0 an_J0 an_P0 (fun _ _ _ => True) := fun g => Pr.weak g fun _ _ _ _ => trivial
  exact ⟨w (nw_feed (d := 9) h), nw_system0 h1, w (nw_fault h h1), w (nw_count (d := 8) h h1), w (nw_pair (d := 8) h h1 h2), w (nw_normal (d := 4) h), w (nw_unify (d := 3) h), w (nw_goal (d := 3) h), w (nw_expand (d := 3) h h1), w (nw_tree (d := 8) h h1), w (nw_node (d := 7) h h1), w (nw_answer (d := 4) h h1), w (nw_covers (d := 6) h h1), w (nw_show (d := 4) h h1 h2), w (nw_out (d := 8) h h1)⟩
end NOQ
