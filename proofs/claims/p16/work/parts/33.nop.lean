/-! the calls before the first SYSTEM -/
section NOP
variable {X : aX} {d : Nat} {m : Mi} {J : Mj} {P : Mp}
theorem SS_of {σ : am_S} (h : σ.1 = an_K) : σ = SS (an_mz σ.2.1) σ.2.2.1 σ.2.2.2 := by
  unfold an_mz
  generalize σ = x at h ⊢
  rw [am_S_eta x, h]
  simp only [SS, iz_of]
theorem Ci.of_run {x0 : Nat × (Nat → Int32)} {n mid k : Nat} {as : List Value} {x : Int32} {σ : am_S} {post : Int → Mi → Mj → Mp → Prop} (e : am none an_ec an_mtf an_cd n d mid 0 (am_en as k) [] (SS m J P) = some (some (.int x), σ)) (hm : (an_mtf mid).map (fun M => M.2.2.1) = some k) (hl : (am_en as k).length = k) (hK : σ.1 = an_K) (hpost : post x.toInt (an_mz σ.2.1) σ.2.2.1 σ.2.2.2) : Ci (some x0) d mid as m J P post := by
  obtain ⟨M, h1, h2⟩ := Option.map_eq_some_iff.mp hm
  subst h2
  refine ⟨M, h1, hl, n, _, am_anyX _ _ _ _ _ _ _ _ e, x.toInt, _, _, _, ?_, SS_of hK, hpost⟩
  rw [iz_of]
theorem an_new_is : Fr an_m0 an_P0 ∧ an_m0 2 1 = 0 ∧ an_m0 262 1 = 0 ∧ ∃ (x : Int32) (σ : am_S), am none an_ec an_mtf an_cd 1000 10 14 0 (am_en [.ref 1, .int (iz 0)] 3) [] (SS an_m0 an_J0 an_P0) = some (some (.int x), σ) ∧ x.toInt = 2 ∧ σ.1 = an_K ∧ PP σ.2.2.2 ∧ ∃ (y : Int32) (τ : am_S), am none an_ec an_mtf an_cd 1000 10 136 0 (am_en [.ref 262, .int (iz 0)] 2) [] (SS (an_mz σ.2.1) σ.2.2.1 σ.2.2.2) = some (some (.int y), τ) ∧ y.toInt = 2 ∧ τ.1 = an_K ∧ PP τ.2.2.2 := by
  obtain ⟨σ0, h1, h2⟩ := an_ckr_of an_new_K
  have e : an_sig = σ0 := by unfold an_sig; rw [h1]
  rw [← e] at h2
  unfold an_new at h2
  rw [Bool.and_eq_true, decide_eq_true_eq] at h2
  obtain ⟨⟨h3, h4, h5⟩, h6⟩ := h2
  obtain ⟨x, σ, g1, g2, g3, g4, g5⟩ := an_okr_of h6
  obtain ⟨y, τ, f1, f2, f3, f4, _⟩ := an_okr_of g5
  refine ⟨h3, ?_, ?_, x, σ, ?_, g2, g3, g4, y, τ, ?_, f2, f3, f4⟩
  · show (an_sig.2.1 2 1).toInt = 0
    rw [h4]; rfl
  · show (an_sig.2.1 262 1).toInt = 0
    rw [h5]; rfl
  · rw [← an_sig_SS]; exact g1
  · rw [← SS_of g3]; exact f1
/-- no SYSTEM was taken yet, and both tapes are as long -/
def Nw (m : Mi) (P : Mp) : Prop := PP P ∧ Fr m P ∧ m 262 1 = m 2 1 ∧ 0 ≤ m 2 1 ∧ m 2 1 ≤ 1600
theorem Nw.pp (h : Nw m P) : PP P := h.1
theorem Nw.fr (h : Nw m P) : Fr m P := h.2.1
theorem Nw.te (h : Nw m P) : m 262 1 = m 2 1 := h.2.2.1
theorem Nw.t0 (h : Nw m P) : 0 ≤ m 2 1 := h.2.2.2.1
theorem Nw.t1 (h : Nw m P) : m 2 1 ≤ 1600 := h.2.2.2.2
abbrev NW : Mi → Mj → Mp → Prop := fun m _ P => Nw m P
theorem zr_of {x a : Int} (h : x = a) (ha : Zr a) : Zr x := by rw [h]; exact ha
theorem zr0 : Zr 0 := by constructor <;> decide
theorem zr1 : Zr 1 := by constructor <;> decide
theorem zrm : Zr (-1) := by constructor <;> decide
theorem pr_of {K : Mi → Mj → Mp → Prop} {c1 c2 : Nat} {as : List Value} (z : Int) (hz : Zr z) (hp : PP P) (h1 : ∀ post : Int → Mi → Mj → Mp → Prop, post z m J P → Ci X d c1 (.ref 1 :: as) m J P post) (h2 : ∀ post : Int → Mi → Mj → Mp → Prop, post z m J P → Ci X d c2 (.ref 262 :: as) m J P post) (k : K m J P) : Pr X d c1 c2 as m J P K := h1 _ ⟨hp, h2 _ ⟨hp, hz, hz, rfl, k⟩⟩
theorem Fr.mono {m' : Mi} (h : Fr m P) (he : ∀ a k, a ≠ 3 → a ≠ 263 → a ≠ 2 → ¬ (a = 262 ∧ k = 1) → m' a k = m a k) : Fr m' P := by
  obtain ⟨⟨_, _, _, _, _, _, _, _, _⟩, ⟨_, _, _, _, _, _, _⟩, _, _, _, _, _, _, _, _, _, _⟩ := h
  refine ⟨⟨?_, ?_, ?_, ?_, ?_, ?_, ?_, ?_, ?_⟩, ⟨?_, ?_, ?_, ?_, ?_, ?_, ?_⟩, ?_, ?_, ?_, ?_, ?_, ?_, ?_, ?_, ?_, ?_⟩ <;> first | assumption | exact (he _ _ (by decide) (by decide) (by decide) (by decide)).trans (by assumption)
theorem nw_feed {x1 x2 x3 x4 x5 : Int} (h : Nw m P) : Pr X (d + 1) 12 134 [vi x1, vi x2, vi x3, vi x4, vi x5] m J P NW := by
  have h1 := h.t0; have h2 := h.t1; have h3 := h.te
  refine c_feed h.pp ⟨h1, h2⟩ (fun g => ⟨h.pp, ?_⟩) (fun g => ⟨h.pp, ?_⟩)
  · have e : ap20 m x1 x2 x3 x4 x5 262 1 = m 2 1 := by rw [ap20_o _ _ _ _ _ _ (by decide) (by decide)]; exact h3
    refine r_feed h.pp (by rw [e]; omega) (fun g2 => ⟨h.pp, by constructor <;> omega, by constructor <;> omega, by omega, ?_⟩) (fun g2 => absurd g2 (by omega))
    have fr := h.fr
    refine ⟨h.pp, ?_, ?_, ?_, ?_⟩
    · refine Fr.mono fr fun a k g1 g2 g3 g4 => ?_
      rw [ly20_o _ _ _ _ _ _ g2 g4, ap20_o _ _ _ _ _ _ g1 (fun g => g3 g.1)]
    · rw [ly20_n, ly20_o _ _ _ _ _ _ (by decide) (by decide), ap20_n, e]
    · rw [ly20_o _ _ _ _ _ _ (by decide) (by decide), ap20_n]; omega
    · rw [ly20_o _ _ _ _ _ _ (by decide) (by decide), ap20_n]; omega
  · refine r_feed h.pp (by omega) (fun g2 => absurd g2 (by omega)) (fun g2 => ⟨h.pp, zrm, zrm, rfl, h⟩)
theorem nw_fault {x : Int} (h : Nw m P) (hx : Zr x) : Pr X d 73 181 [vi x] m J P NW := by
  obtain ⟨⟨f1, f2, f3, f4, _⟩, _⟩ := h.fr
  refine pr_of (-1) zrm h.pp (fun post k => Ci.of rfl rfl rfl (b_Nh_fault_0 x m J P h.pp post ⟨hx, fun _ => ⟨hx, fun _ => k, fun _ => ?_⟩, fun _ => ?_⟩)) (fun post k => Ci.of rfl rfl rfl (b_Mdl_fault_0 x m J P h.pp post ⟨hx, fun _ => ⟨hx, fun _ => k, fun _ => ?_⟩, fun _ => ?_⟩)) h
  · rw [f3]; exact k
  · rw [f1]; exact k
  · rw [f4]; exact k
  · rw [f2]; exact k
theorem nw_count {x : Int} (h : Nw m P) (hx : Zr x) : Pr X (d + 2) 74 182 [vi x] m J P NW := by
  obtain ⟨⟨_, _, _, _, f1, f2, f3, f4, f5⟩, ⟨f6, f7, f8, f9, f10, f11, f12⟩, ⟨f13, f14, _⟩⟩ := h.fr
  by_cases hb : x < 0 ∨ 5 < x
  · refine pr_of (-1) zrm h.pp (fun post k => Ci.of rfl rfl rfl (b_Nh_count_0 x m J P h.pp post ⟨hx, fun g => ?_, fun g => ?_, fun g => ?_, fun g => ?_, fun g => ?_, fun g => ?_, fun _ => k⟩)) (fun post k => Ci.of rfl rfl rfl (b_Mdl_count_0 x m J P h.pp post ⟨hx, fun g => ?_, fun g => ?_, fun g => ?_, fun g => ?_, fun g => ?_, fun g => ?_, fun _ => k⟩)) h <;> exact absurd hb (by omega)
  · refine pr_of 0 zr0 h.pp (fun post k => Ci.of rfl rfl rfl (b_Nh_count_0 x m J P h.pp post ⟨hx, fun g => ⟨54, f1, by decide +kernel, ?_⟩, fun g => ⟨54, f1, by decide +kernel, ?_⟩, fun g => ?_, fun g => ?_, fun g => ?_, fun g => ?_, fun g => absurd g hb⟩)) (fun post k => Ci.of rfl rfl rfl (b_Mdl_count_0 x m J P h.pp post ⟨hx, fun g => ?_, fun g => ?_, fun g => ?_, fun g => ?_, fun g => ?_, fun g => ?_, fun g => absurd g hb⟩)) h
    · rw [f2]; exact k
    · rw [f4]; exact k
    · rw [f6]; exact k
    · rw [f7]; exact k
    · rw [f8]; exact k
    · exact c_kept h.pp (zr_of f13 zr0) (by rw [f13]; rfl) ⟨h.pp, k⟩
    · rw [f3]; exact k
    · rw [f5]; exact k
    · rw [f9]; exact k
    · rw [f11]; exact k
    · rw [f12]; exact k
    · rw [f14]; exact k
theorem nw_pair {x y : Int} (h : Nw m P) (hx : Zr x) (hy : Zr y) : Pr X (d + 2) 76 183 [vi x, vi y] m J P NW := by
  obtain ⟨_, ⟨f6, f7, f8, f9, f10, f11, f12⟩, _⟩ := h.fr
  refine pr_of (-1) zrm h.pp (fun post k => Ci.of rfl rfl rfl (b_Nh_pair_0 x y m J P h.pp post ?_)) (fun post k => Ci.of rfl rfl rfl (b_Mdl_pair_0 x y m J P h.pp post ⟨hx, fun _ => k, fun g => ⟨hx, zr_of f10 zr0, fun g2 => ?_, fun _ => k⟩⟩)) h
  · refine Ci.of rfl rfl rfl (b_Pairs_tell_0 x y m J P h.pp _ ?_)
    refine c_holds h.pp hx (zr_of f6 zr0) (fun _ => ⟨h.pp, zr0, fun _ => ⟨h.pp, k⟩, fun g => absurd rfl g⟩) (fun g => ?_)
    rw [f6] at g
    exact absurd g (by omega)
  · rw [f10] at g2
    exact absurd g2 (by omega)
theorem nw_normal {x : Int} (h : Nw m P) : Pr X (d + 6) 79 184 [vi x] m J P NW := by
  obtain ⟨_, _, ⟨_, _, f1, f2, _⟩⟩ := h.fr
  exact pr_of (-1) zrm h.pp (fun post k => Ci.of rfl rfl rfl (b_Nh_normal_0 x m J P h.pp post ⟨zr_of f1 zr0, fun _ => k, fun g => absurd f1 g⟩)) (fun post k => Ci.of rfl rfl rfl (b_Mdl_normal_0 (d := d + 1) x m J P h.pp post ⟨zr_of f2 zr0, fun _ => k, fun g => absurd f2 g⟩)) h
theorem nw_unify {x : Int} (h : Nw m P) : Pr X (d + 7) 90 194 [vi x] m J P NW := by
  obtain ⟨_, _, ⟨_, _, f1, f2, _⟩⟩ := h.fr
  exact pr_of (-1) zrm h.pp (fun post k => Ci.of rfl rfl rfl (b_Nh_unify_0 x m J P h.pp post ⟨zr_of f1 zr0, fun _ => k, fun g => absurd f1 g⟩)) (fun post k => Ci.of rfl rfl rfl (b_Mdl_unify_0 (d := d + 2) x m J P h.pp post ⟨zr_of f2 zr0, fun _ => k, fun g => absurd f2 g⟩)) h
theorem nw_goal {x y : Int} (h : Nw m P) : Pr X (d + 7) 97 198 [vi x, vi y] m J P NW := by
  obtain ⟨_, _, ⟨_, _, f1, f2, _⟩⟩ := h.fr
  exact pr_of (-1) zrm h.pp (fun post k => Ci.of rfl rfl rfl (b_Nh_goal_0 x y m J P h.pp post ⟨zr_of f1 zr0, fun _ => k, fun g => absurd f1 g⟩)) (fun post k => Ci.of rfl rfl rfl (b_Mdl_goal_0 (d := d + 2) x y m J P h.pp post ⟨zr_of f2 zr0, fun _ => k, fun g => absurd f2 g⟩)) h
theorem nw_expand {x : Int} (h : Nw m P) (hx : Zr x) : Pr X (d + 7) 105 203 [vi x] m J P NW := by
  obtain ⟨_, _, ⟨_, _, _, _, f1, f2, _⟩⟩ := h.fr
  exact pr_of (-1) zrm h.pp (fun post k => Ci.of rfl rfl rfl (b_Nh_expand_0 (d := d + 1) x m J P h.pp post ⟨hx, fun _ => k, fun _ => ⟨hx, fun _ => k, fun _ => ⟨zr_of f1 zr0, fun g => absurd f1 g, fun _ => k⟩⟩⟩)) (fun post k => Ci.of rfl rfl rfl (b_Mdl_expand_0 x m J P h.pp post ⟨zr_of f2 zr0, fun _ => k, fun g => absurd f2 g⟩)) h
theorem nw_tree {x : Int} (h : Nw m P) (hx : Zr x) : Pr X (d + 2) 110 206 [vi x] m J P NW := by
  obtain ⟨_, _, ⟨_, _, _, _, f1, f2, _⟩⟩ := h.fr
  by_cases hb : x < 0 ∨ 6 < x
  · refine pr_of (-1) zrm h.pp (fun post k => Ci.of rfl rfl rfl (b_Nh_tree_0 x m J P h.pp post (Ci.of rfl rfl rfl (b_Tree_tell_0 x m J P h.pp _ ⟨hx, fun _ => ⟨h.pp, k⟩, fun g => ⟨hx, fun g2 => absurd hb (by omega), fun _ => ⟨h.pp, k⟩⟩⟩)))) (fun post k => Ci.of rfl rfl rfl (b_Mdl_tree_0 x m J P h.pp post ⟨hx, fun _ => k, fun g => ⟨hx, fun g2 => absurd hb (by omega), fun _ => k⟩⟩)) h
  · refine pr_of 0 zr0 h.pp (fun post k => Ci.of rfl rfl rfl (b_Nh_tree_0 x m J P h.pp post (Ci.of rfl rfl rfl (b_Tree_tell_0 x m J P h.pp _ ⟨hx, fun g => absurd (Or.inl g) hb, fun g => ⟨hx, fun g2 => ⟨zr_of f1 zr0, fun g3 => absurd f1 g3, fun _ => ⟨h.pp, k⟩⟩, fun g2 => absurd (Or.inr (by omega)) hb⟩⟩)))) (fun post k => Ci.of rfl rfl rfl (b_Mdl_tree_0 x m J P h.pp post ⟨hx, fun g => absurd (Or.inl g) hb, fun g => ⟨hx, fun g2 => ⟨zr_of f2 zr0, fun g3 => absurd f2 g3, fun _ => k⟩, fun g2 => absurd (Or.inr (by omega)) hb⟩⟩)) h
theorem nt_c_hasNode {x : Int} {post : Int → Mi → Mj → Mp → Prop} (hp : PP P) (hx : Zr x) (h0 : m 38 8 = 0) (h1 : m 38 11 = 0) (k : post 0 m J P) : Ci X d 114 [.ref 38, .int (iz x)] m J P post := c_hasNode hp hx (zr_of h0 zr0) (zr_of h1 zr0) (fun _ => k) (fun g => absurd h0 g.1)
theorem nt_c_hasAnswer {x : Int} {post : Int → Mi → Mj → Mp → Prop} (hp : PP P) (hx : Zr x) (h0 : m 38 8 = 0) (h1 : m 38 12 = 0) (k : post 0 m J P) : Ci X d 119 [.ref 38, .int (iz x)] m J P post := c_hasAnswer hp hx (zr_of h0 zr0) (zr_of h1 zr0) (fun _ => k) (fun g => absurd h0 g.1)
theorem nt_r_isNode {x : Int} {post : Int → Mi → Mj → Mp → Prop} (hp : PP P) (hx : Zr x) (h0 : m 262 93 = 0) (h1 : m 262 96 = 0) (k : post 0 m J P) : Ci X d 208 [.ref 262, .int (iz x)] m J P post := r_isNode hp hx (zr_of h0 zr0) (zr_of h1 zr0) (fun _ => k) (fun g => absurd h0 g.1)
theorem nt_r_isAnswer {x : Int} {post : Int → Mi → Mj → Mp → Prop} (hp : PP P) (hx : Zr x) (h0 : m 262 93 = 0) (h1 : m 262 98 = 0) (k : post 0 m J P) : Ci X d 210 [.ref 262, .int (iz x)] m J P post := r_isAnswer hp hx (zr_of h0 zr0) (zr_of h1 zr0) (fun _ => k) (fun g => absurd h0 g.1)
theorem nw_node {x y : Int} (h : Nw m P) (hx : Zr x) : Pr X (d + 3) 112 207 [vi x, vi y] m J P NW := by
  obtain ⟨_, _, ⟨_, _, _, _, f1, f2, f3, f4, f5, f6⟩⟩ := h.fr
  exact pr_of (-1) zrm h.pp (fun post k => Ci.of rfl rfl rfl (b_Nh_node_0 x y m J P h.pp post (Ci.of rfl rfl rfl (b_Tree_tellNode_0 x y m J P h.pp _ (nt_c_hasNode h.pp hx f1 f3 ⟨h.pp, zr0, fun _ => ⟨h.pp, k⟩, fun g => absurd rfl g⟩))))) (fun post k => Ci.of rfl rfl rfl (b_Mdl_node_0 (d := d + 2) x y m J P h.pp post (nt_r_isNode h.pp hx f2 f5 ⟨h.pp, zr0, fun g => absurd rfl g, fun _ => k⟩))) h
theorem nw_answer {x y : Int} (h : Nw m P) (hx : Zr x) : Pr X (d + 6) 118 209 [vi x, vi y] m J P NW := by
  obtain ⟨_, _, ⟨_, _, _, _, f1, f2, f3, f4, f5, f6⟩⟩ := h.fr
  exact pr_of (-1) zrm h.pp (fun post k => Ci.of rfl rfl rfl (b_Nh_answer_0 (d := d + 2) x y m J P h.pp post (nt_c_hasAnswer h.pp hx f1 f4 ⟨h.pp, zr0, fun g => absurd rfl g, fun _ => k⟩))) (fun post k => Ci.of rfl rfl rfl (b_Mdl_answer_0 x y m J P h.pp post (nt_r_isAnswer h.pp hx f2 f6 ⟨h.pp, zr0, fun _ => k, fun g => absurd rfl g⟩))) h
theorem nw_covers {x y : Int} (h : Nw m P) (hx : Zr x) : Pr X (d + 4) 122 213 [vi x, vi y] m J P NW := by
  obtain ⟨_, _, ⟨_, _, _, _, f1, f2, f3, f4, f5, f6⟩⟩ := h.fr
  exact pr_of 0 zr0 h.pp (fun post k => Ci.of rfl rfl rfl (b_Nh_covers_0 x y m J P h.pp post (nt_c_hasAnswer h.pp hx f1 f4 ⟨h.pp, zr0, fun _ => k, fun g => absurd rfl g⟩))) (fun post k => Ci.of rfl rfl rfl (b_Mdl_covers_0 (d := d + 2) x y m J P h.pp post (nt_r_isAnswer h.pp hx f2 f6 ⟨h.pp, zr0, fun _ => k, fun g => absurd rfl g⟩))) h
theorem nw_out {x : Int} (h : Nw m P) (hx : Zr x) : Pr X (d + 2) 131 216 [vi x] m J P NW := by
  obtain ⟨_, _, ⟨f1, f2, _⟩⟩ := h.fr
  refine pr_of (-1) zrm h.pp (fun post k => Ci.of rfl rfl rfl (b_Nh_out_0 x m J P h.pp post ⟨hx, fun _ => k, fun g => ?_⟩)) (fun post k => Ci.of rfl rfl rfl (b_Mdl_out_0 (d := d + 1) x m J P h.pp post ⟨hx, fun _ => k, fun g => ⟨zr_of f2 zr0, hx, by rw [f2]; exact zr0, fun g2 => ?_, fun _ => k⟩⟩)) h
  · exact c_kept h.pp (zr_of f1 zr0) (show _ = (0 : Int) by rw [f1]; rfl) ⟨h.pp, hx, zr0, fun _ => k, fun g2 => absurd g2 (by omega)⟩
  · rw [f2] at g2
    exact absurd g2 (by simp; omega)
end NOP
