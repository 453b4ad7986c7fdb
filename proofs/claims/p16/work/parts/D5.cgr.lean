/-! a NODE is EXPANDED: pure, and in the class -/
section CGR
variable {X : aX} {d : Nat} {P : Mp} {J : Mj} {m m' m0 : Mi} {ar : Nat → Int} {sc G mg b g N : Nat} {Lf Rf Lm Rm : Nat → List Int}
theorem tLook_f {ay : Int → Nat} {nds : List Nd} {e : Nd} {ans : List An} {fil ex : Nat} {lo : Int} {fu : Bool} (h : (tLook ay nds e ans fil ex lo fu).2 = false) : (tLook ay nds e ans fil ex lo fu).1.2.2.2.2.2 = true := by
  rcases hq : nuni ay (ndl e) (ndr e) (ndv e) with _ | Q
  · rw [tLook_none hq] at h; cases h
  · rcases hv : nval ay (ndl e) (ndr e) (ndv e) Q with _ | ls
    · rw [tLook_lost hq hv] at h; cases h
    · rw [tLook_some hq hv] at h ⊢
      split
      · rfl
      · rename_i q
        rw [if_neg q] at h; cases h
theorem tAdd_f {ay : Int → Nat} {S : Ts} {o : Int × Int × Int × Int} {l r : List Int} {vs : List (List Int)} (h : (tAdd ay S o l r vs).2 = false) : (tAdd ay S o l r vs).1.2.2.2.2.2 = true := by
  unfold tAdd at h ⊢
  split
  · rfl
  · rename_i q
    rw [if_neg q] at h
    exact tLook_f h
theorem tNar_f {ay : Int → Nat} {S : Ts} {e : Nd} {i p u : Nat} {lf rf : List Int} (h : (tNar ay mg S i e p u lf rf).2 = false) : (tNar ay mg S i e p u lf rf).1.2.2.2.2.2 = true := by
  rcases h0 : nov ay (ndg e) lf rf p with _ | R
  · rw [tNar_0 h0] at h; cases h
  · rcases h1 : twp ay mg (ndg e) lf rf p R 0 with _ | wl
    · rw [tNar_1 h0 h1] at h; cases h
    · rcases h2 : twp ay mg (ndg e) lf rf p R (ndl e).length with _ | wr
      · rw [tNar_2 h0 h1 h2] at h; cases h
      · rcases h3 : twv ay (ndg e) lf rf p R ((ndl e).length + (ndr e).length) (ndv e).length with _ | ls
        · rw [tNar_3 h0 h1 h2 h3] at h; cases h
        · rw [tNar_4 h0 h1 h2 h3] at h ⊢
          exact tAdd_f h
/-- by all RULES at one PLACE -/
noncomputable def tU (ay : Int → Nat) (mg i : Nat) (e : Nd) (p : Nat) (Lf Rf : Nat → List Int) : Nat → Nat → Ts → Ts × Bool
  | 0, _, S => (S, true)
  | q + 1, u, S => if cl (ndg e) p % 32 = cl (Lf u) 0 then (if (tNar ay mg S i e p u (Lf u) (Rf u)).2 = true then tU ay mg i e p Lf Rf q (u + 1) (tNar ay mg S i e p u (Lf u) (Rf u)).1 else ((tNar ay mg S i e p u (Lf u) (Rf u)).1, false)) else tU ay mg i e p Lf Rf q (u + 1) S
/-- at all PLACES -/
noncomputable def tPl (ay : Int → Nat) (mg i : Nat) (e : Nd) (N : Nat) (Lf Rf : Nat → List Int) : Nat → Nat → Ts → Ts × Bool
  | 0, _, S => (S, true)
  | q + 1, p, S => if 32 ≤ cl (ndg e) p then (if (tU ay mg i e p Lf Rf N 0 S).2 = true then tPl ay mg i e N Lf Rf q (p + 1) (tU ay mg i e p Lf Rf N 0 S).1 else ((tU ay mg i e p Lf Rf N 0 S).1, false)) else tPl ay mg i e N Lf Rf q (p + 1) S
theorem tU_f {ay : Int → Nat} {i p : Nat} {e : Nd} : ∀ {q u : Nat} {S : Ts}, (tU ay mg i e p Lf Rf q u S).2 = false → (tU ay mg i e p Lf Rf q u S).1.2.2.2.2.2 = true
  | 0, _, _, h => by cases h
  | q + 1, u, S, h => by
    unfold tU at h ⊢
    split at h
    · rename_i g1
      rw [if_pos g1]
      split at h
      · rename_i g2
        rw [if_pos g2]
        exact tU_f h
      · rename_i g2
        rw [if_neg g2]
        exact tNar_f (by simpa using g2)
    · rename_i g1
      rw [if_neg g1]
      exact tU_f h
theorem tPl_f {ay : Int → Nat} {i : Nat} {e : Nd} : ∀ {q p : Nat} {S : Ts}, (tPl ay mg i e N Lf Rf q p S).2 = false → (tPl ay mg i e N Lf Rf q p S).1.2.2.2.2.2 = true
  | 0, _, _, h => by cases h
  | q + 1, p, S, h => by
    unfold tPl at h ⊢
    split at h
    · rename_i g1
      rw [if_pos g1]
      split at h
      · rename_i g2
        rw [if_pos g2]
        exact tPl_f h
      · rename_i g2
        rw [if_neg g2]
        exact tU_f (by simpa using g2)
    · rename_i g1
      rw [if_neg g1]
      exact tPl_f h
/-- what stays good -/
def tKp (sc : Nat) (ar : Nat → Int) (G mg i : Nat) (e : Nd) (S : Ts) : Prop := TV sc ar G mg S ∧ S.1[i]? = some e ∧ S.2.2.2.1 = i
theorem tNar_K {S : Ts} {e : Nd} {i p u : Nat} {lf rf : List Int} (har : arK sc ar) (h : tKp sc ar G mg i e S) (hZ : ZK sc ar lf rf) (hp : p < (ndl e).length + (ndr e).length) : tKp sc ar G mg i e (tNar (ayw ar) mg S i e p u lf rf).1 := by
  obtain ⟨a1, _, _, a4, a5⟩ := tNar_TV (u := u) har h.1 h.2.1 hZ hp
  exact ⟨a1, a5 _ _ h.2.1, a4.trans h.2.2⟩
/-- a NODE is EXPANDED -/
noncomputable def tGr (ay : Int → Nat) (mg N : Nat) (Lf Rf : Nat → List Int) (S : Ts) (e : Nd) : Ts × Bool :=
  if (tPl ay mg S.2.2.2.1 e N Lf Rf ((ndl e).length + (ndr e).length) 0 S).2 = true then (((tPl ay mg S.2.2.2.1 e N Lf Rf ((ndl e).length + (ndr e).length) 0 S).1.1, (tPl ay mg S.2.2.2.1 e N Lf Rf ((ndl e).length + (ndr e).length) 0 S).1.2.1, (tPl ay mg S.2.2.2.1 e N Lf Rf ((ndl e).length + (ndr e).length) 0 S).1.2.2.1, (tPl ay mg S.2.2.2.1 e N Lf Rf ((ndl e).length + (ndr e).length) 0 S).1.2.2.2.1 + 1, (tPl ay mg S.2.2.2.1 e N Lf Rf ((ndl e).length + (ndr e).length) 0 S).1.2.2.2.2), true)
  else ((tPl ay mg S.2.2.2.1 e N Lf Rf ((ndl e).length + (ndr e).length) 0 S).1, false)
theorem zand_32 : ∀ n : Nat, n < 64 → zand (n : Int) 32 = if 32 ≤ n then 32 else 0 := by decide +kernel
theorem zan_31 : ∀ n : Nat, n < 64 → zand (n : Int) 31 = ((n % 32 : Nat) : Int) := by decide +kernel
theorem c_isMarked {c : Int} (hp : PP P) (hc : -10000 ≤ c ∧ c < 64) {post : Int → Mi → Mj → Mp → Prop} (k : post (i2b (decide (32 ≤ c))) m J P) : Ci X d 108 [.int (iz c)] m J P post := by
  refine Ci.of rfl rfl rfl (b_Tree_isMarked_0 c m J P hp post ⟨by constructor <;> omega, fun g => ?_, fun g => ?_⟩)
  · rw [decide_eq_false (by omega)] at k
    exact k
  · obtain ⟨n, rfl⟩ := Int.eq_ofNat_of_zero_le (show 0 ≤ c by omega)
    rw [zand_32 n (by omega)]
    by_cases h : 32 ≤ n
    · rw [if_pos h]
      rw [decide_eq_true (by omega)] at k
      exact ⟨by constructor <;> decide, fun g => absurd g (by omega), fun _ => k⟩
    · rw [if_neg h]
      rw [decide_eq_false (by omega)] at k
      exact ⟨zr0, fun _ => k, fun g => absurd rfl g⟩
/-- where grow() stands -/
def GI (sc : Nat) (ar : Nat → Int) (G mg i : Nat) (e : Nd) (m0 : Mi) (A : Nat) (S : Ts) (m : Mi) : Prop := TCm S m ∧ tKp sc ar G mg i e S ∧ BNd ar e m ∧ (ATT 8 m ∧ m 8 8 ≤ m0 8 8 + A) ∧ (ATT 18 m ∧ m 18 8 ≤ m0 18 8 + A) ∧ nwF m0 m
theorem GI_up {i A A' : Nat} {e : Nd} {S : Ts} (h : GI sc ar G mg i e m0 A S m) (g : A ≤ A') : GI sc ar G mg i e m0 A' S m := ⟨h.1, h.2.1, h.2.2.1, ⟨h.2.2.2.1.1, by have := h.2.2.2.1.2; omega⟩, ⟨h.2.2.2.2.1.1, by have := h.2.2.2.2.1.2; omega⟩, h.2.2.2.2.2⟩
theorem c_gU {i p : Nat} {e : Nd} (hp : PP P) (hb : b = 54 ∨ b = 155) (har : arK sc ar) (hX : BKC b sc ar N Lm Rm Lf Rf m0) (hZ : ∀ u, u < N → ZK sc ar (Lf u) (Rf u)) (hg : P 38 2 = some g) (hgo : g = 39 ∨ g = 256) (hgv : m0 g 7 = (G : Int)) (hmk : m0 38 10 = (mg : Int)) (hA8 : m0 8 8 + 100000 < 2147483647) (hA18 : m0 18 8 + 100000 < 2147483647) (hpl : p < (ndl e).length + (ndr e).length) (hc0 : 32 ≤ cl (ndg e) p) {x3 : Int} {post : Int → Mi → Mj → Mp → Prop} : ∀ {q u A : Nat} {S : Ts} {m : Mi}, u + q = N → GI sc ar G mg i e m0 A S m → A + q < 100000 → ((tU (ayw ar) mg i e p Lf Rf q u S).2 = true → ∀ m', GI sc ar G mg i e m0 (A + q) (tU (ayw ar) mg i e p Lf Rf q u S).1 m' → Rn X (d + 5) 107 42 [some (.ref 38), some (.ref b), some (.int (iz (i : Int))), some (.int (iz x3)), some (.int (iz ((p + 1 : Nat) : Int))), none] [] (SS m' J P) (QI post)) → ((tU (ayw ar) mg i e p Lf Rf q u S).2 = false → ∀ m', GI sc ar G mg i e m0 (A + q) (tU (ayw ar) mg i e p Lf Rf q u S).1 m' → post 0 m' J P) → Rn X (d + 5) 107 82 [some (.ref 38), some (.ref b), some (.int (iz (i : Int))), some (.int (iz x3)), some (.int (iz (p : Int))), some (.int (iz (u : Int)))] [] (SS m J P) (QI post) := by
  have kb := kd_book hb
  intro q
  induction q with
  | zero =>
    intro u A S m hu hI hA k1 k0
    have er : m b 5 = (N : Int) := (hI.2.2.2.2.2 _ _ (by omega) (by omega) (by omega)).trans hX.2.1.2.1
    have hN := hX.2.1.1
    refine b_Tree_grow_82 b (i : Int) x3 (p : Int) (u : Int) kb m J P hp post ?_
    rw [er]
    exact ⟨by constructor <;> omega, by constructor <;> omega, fun _ => k1 rfl m (GI_up hI (by omega)), fun g => absurd (by omega) g⟩
  | succ q ih =>
    intro u A S m hu hI hA k1 k0
    have hF := hI.2.2.2.2.2
    have er : m b 5 = (N : Int) := (hF _ _ (by omega) (by omega) (by omega)).trans hX.2.1.2.1
    have hN := hX.2.1.1
    have hu16 : u < 16 := by omega
    have hok := (hI.2.1.1.2.2.1 e (gl_lt hI.2.1.2.1).2).1
    have hln := ng_len (l := ndl e) (r := ndr e) (vs := ndv e)
    have h800 := ng_800 hok
    have hpg : p < (ndg e).length := by show p < (ngr (ndl e) (ndr e) (ndv e)).length; omega
    have hc := (hI.2.2.1.1 p hpg).1
    have hcd : -10000 ≤ cl (ndg e) p ∧ cl (ndg e) p < 64 ∧ (0 ≤ cl (ndg e) p → cl (ndg e) p % 32 < sc) := (ng_gd har.1 hok _ (cl_mem hpg)).1
    have hRB : RB (b + 5 + 6 * u) (ayw ar) (Lf u) (Rf u) m := RB_fr (hX.2.2 u (by omega)) fun a k g1 g2 => hF a k (by omega) (by omega) (by omega)
    have hZu := hZ u (by omega)
    have nf := ct_ne hZu.1.1
    have h0 : m (b + 5 + 6 * u + 1) 0 = cl (Lf u) 0 := by
      have := Ro_get hRB.2.1 (i := 0) (by rw [List.length_append]; omega)
      rw [Nat.zero_add] at this
      rw [this, ← cl_get, cl_app nf]
    have hlg : -10000 ≤ cl (Lf u) 0 ∧ cl (Lf u) 0 < 16 ∧ (0 ≤ cl (Lf u) 0 → cl (Lf u) 0 < sc) := (hZu.2.1 _ (List.mem_append_left _ (cl_mem nf))).1
    obtain ⟨c, ec⟩ := Int.eq_ofNat_of_zero_le (show 0 ≤ cl (ndg e) p by omega)
    have ec1 : m (8 + 1) p = (c : Int) := hc.trans ec
    refine b_Tree_grow_82 b (i : Int) x3 (p : Int) (u : Int) kb m J P hp post ?_
    rw [er, Int.toNat_natCast, Int.toNat_natCast, ec1, show ((0 : Int)).toNat = 0 from rfl, h0, zan_31 c (by omega)]
    have e32 : cl (ndg e) p % 32 = ((c % 32 : Nat) : Int) := by rw [ec]; omega
    unfold tU at k1 k0
    rw [e32] at k1 k0
    refine ⟨by constructor <;> omega, by constructor <;> omega, fun g => absurd g (by omega), fun _ => ⟨by omega, by omega, by decide, by constructor <;> omega, by constructor <;> omega, fun hne => ?_, fun heq => ?_⟩⟩
    · rw [if_neg hne] at k1 k0
      exact ih (u := u + 1) (A := A) (S := S) (m := m) (by omega) hI (by omega) (fun g m' hI' => k1 g m' (GI_up hI' (by omega))) (fun g m' hI' => k0 g m' (GI_up hI' (by omega)))
    · have heq' : ((c % 32 : Nat) : Int) = cl (Lf u) 0 := by omega
      rw [if_pos heq'] at k1 k0
      have hKn := tNar_K (u := u) har hI.2.1 hZu hpl
      refine c_narrow (d := d) (S := S) (i := i) (p := p) (u := u) (e := e) (G := G) (mg := mg) (g := g) hp hb har (BA_fr hX.1 har.1 fun k _ => hF _ _ (by omega) (by omega) (by omega)) hg hgo ((hF _ _ (by omega) (by omega) (by omega)).trans hgv) ((hF _ _ (by omega) (by omega) (by omega)).trans hmk) hI.2.2.1 hI.2.2.2.1.1 (by have := hI.2.2.2.1.2; omega) hI.2.2.2.2.1.1 (by have := hI.2.2.2.2.1.2; omega) hRB hZu hu16 hpl hI.2.1.1 hI.1 hI.2.1.2.1 (fun m' w1 w2 w3 w4 w5 w6 w7 => ⟨hp, ?_, ?_, ?_⟩)
      · unfold i2b
        split <;> (constructor <;> decide)
      · intro hz
        have h2 : (tNar (ayw ar) mg S i e p u (Lf u) (Rf u)).2 = true := by
          unfold i2b at hz
          split at hz
          · assumption
          · exact absurd rfl hz
        rw [if_pos h2] at k1 k0
        exact ih (u := u + 1) (A := A + 1) (m := m') (by omega) ⟨w1, hKn, w2, ⟨w3, by have := hI.2.2.2.1.2; omega⟩, ⟨w5, by have := hI.2.2.2.2.1.2; omega⟩, nwF_trans hF w7⟩ (by omega) (fun g m' hI' => k1 g m' (GI_up hI' (by omega))) (fun g m' hI' => k0 g m' (GI_up hI' (by omega)))
      · intro hz
        have h2 : (tNar (ayw ar) mg S i e p u (Lf u) (Rf u)).2 = false := by
          unfold i2b at hz
          split at hz
          · exact absurd (by omega) hz
          · rename_i g; simpa using g
        have h2' : ¬ (tNar (ayw ar) mg S i e p u (Lf u) (Rf u)).2 = true := by rw [h2]; decide
        rw [if_neg h2'] at k1 k0
        have ez : i2b (tNar (ayw ar) mg S i e p u (Lf u) (Rf u)).2 = 0 := by rw [h2]; rfl
        exact k0 rfl m' ⟨w1, hKn, w2, ⟨w3, by have := hI.2.2.2.1.2; omega⟩, ⟨w5, by have := hI.2.2.2.2.1.2; omega⟩, nwF_trans hF w7⟩
theorem tU_K {e : Nd} {i p : Nat} (har : arK sc ar) (hZ : ∀ u, u < N → ZK sc ar (Lf u) (Rf u)) (hp : p < (ndl e).length + (ndr e).length) : ∀ {q u : Nat} {S : Ts}, u + q = N → tKp sc ar G mg i e S → tKp sc ar G mg i e (tU (ayw ar) mg i e p Lf Rf q u S).1
  | 0, _, _, _, h => h
  | q + 1, u, S, hu, h => by
    unfold tU
    split
    · have := tNar_K (u := u) har h (hZ u (by omega)) hp
      split
      · exact tU_K har hZ hp (by omega) this
      · exact this
    · exact tU_K har hZ hp (by omega) h
theorem tPl_K {e : Nd} {i : Nat} (har : arK sc ar) (hZ : ∀ u, u < N → ZK sc ar (Lf u) (Rf u)) : ∀ {q p : Nat} {S : Ts}, p + q = (ndl e).length + (ndr e).length → tKp sc ar G mg i e S → tKp sc ar G mg i e (tPl (ayw ar) mg i e N Lf Rf q p S).1
  | 0, _, _, _, h => h
  | q + 1, p, S, hp, h => by
    unfold tPl
    split
    · have := tU_K (q := N) (u := 0) har hZ (p := p) (by omega) (by omega) h
      split
      · exact tPl_K har hZ (by omega) this
      · exact this
    · exact tPl_K har hZ (by omega) h
theorem c_gP {i : Nat} {e : Nd} (hp : PP P) (hb : b = 54 ∨ b = 155) (har : arK sc ar) (hX : BKC b sc ar N Lm Rm Lf Rf m0) (hZ : ∀ u, u < N → ZK sc ar (Lf u) (Rf u)) (hg : P 38 2 = some g) (hgo : g = 39 ∨ g = 256) (hgv : m0 g 7 = (G : Int)) (hmk : m0 38 10 = (mg : Int)) (hA8 : m0 8 8 + 100000 < 2147483647) (hA18 : m0 18 8 + 100000 < 2147483647) {post : Int → Mi → Mj → Mp → Prop} : ∀ {q p A : Nat} {S : Ts} {m : Mi}, p + q = (ndl e).length + (ndr e).length → GI sc ar G mg i e m0 A S m → A + q * 16 < 100000 → ((tPl (ayw ar) mg i e N Lf Rf q p S).2 = true → ∀ m', GI sc ar G mg i e m0 (A + q * 16) (tPl (ayw ar) mg i e N Lf Rf q p S).1 m' → post 1 (mu m' 38 13 (m' 38 13 + 1)) J P) → ((tPl (ayw ar) mg i e N Lf Rf q p S).2 = false → ∀ m', GI sc ar G mg i e m0 (A + q * 16) (tPl (ayw ar) mg i e N Lf Rf q p S).1 m' → post 0 m' J P) → Rn X (d + 5) 107 42 [some (.ref 38), some (.ref b), some (.int (iz (i : Int))), some (.int (iz (((ndl e).length + (ndr e).length : Nat) : Int))), some (.int (iz (p : Int))), none] [] (SS m J P) (QI post) := by
  have kb := kd_book hb
  have hN := hX.2.1.1
  intro q
  induction q with
  | zero =>
    intro p A S m hq hI hA k1 k0
    have hok := (hI.2.1.1.2.2.1 e (gl_lt hI.2.1.2.1).2).1
    have hk := hok.2.1
    refine b_Tree_grow_42 b (i : Int) (((ndl e).length + (ndr e).length : Nat) : Int) (p : Int) kb m J P hp post ?_
    exact ⟨by constructor <;> omega, by constructor <;> omega, fun _ => k1 rfl m (GI_up hI (by omega)), fun g => absurd (by omega) g⟩
  | succ q ih =>
    intro p A S m hq hI hA k1 k0
    have hok := (hI.2.1.1.2.2.1 e (gl_lt hI.2.1.2.1).2).1
    have hk := hok.2.1
    have hln := ng_len (l := ndl e) (r := ndr e) (vs := ndv e)
    have h800 := ng_800 hok
    have hpg : p < (ndg e).length := by show p < (ngr (ndl e) (ndr e) (ndv e)).length; omega
    have hc := (hI.2.2.1.1 p hpg).1
    have hcl := hI.2.2.1.2.1
    have hcd : -10000 ≤ cl (ndg e) p ∧ cl (ndg e) p < 64 ∧ (0 ≤ cl (ndg e) p → cl (ndg e) p % 32 < sc) := (ng_gd har.1 hok _ (cl_mem hpg)).1
    refine b_Tree_grow_42 b (i : Int) (((ndl e).length + (ndr e).length : Nat) : Int) (p : Int) kb m J P hp post ?_
    rw [hcl, Int.toNat_natCast, hc]
    have hgl : ((ndg e).length : Int) ≤ 800 := by have := h800.1; show (((ngr (ndl e) (ndr e) (ndv e)).length : Nat) : Int) ≤ 800; omega
    refine ⟨by constructor <;> omega, by constructor <;> omega, fun g => absurd g (by omega), fun _ => ⟨by constructor <;> omega, by constructor <;> omega, fun g => absurd g (by omega), fun _ => ⟨by omega, ?_⟩⟩⟩
    refine c_isMarked hp ⟨hcd.1, hcd.2.1⟩ ⟨hp, ?_, fun hz => ?_, fun hz => ?_⟩
    · unfold i2b
      split <;> (constructor <;> decide)
    · have h32 : 32 ≤ cl (ndg e) p := by
        unfold i2b at hz
        split at hz
        · rename_i g; exact of_decide_eq_true g
        · exact absurd rfl hz
      unfold tPl at k1 k0
      rw [if_pos h32] at k1 k0
      refine c_gU (d := d) (q := N) (u := 0) (A := A) (S := S) (g := g) hp hb har hX hZ hg hgo hgv hmk hA8 hA18 (by omega) h32 (by omega) hI (by omega) (fun g2 m' hI' => ?_) (fun g2 m' hI' => ?_)
      · rw [if_pos g2] at k1 k0
        exact ih (p := p + 1) (by omega) hI' (by omega) (fun g m'' hI'' => k1 g m'' (GI_up hI'' (by omega))) (fun g m'' hI'' => k0 g m'' (GI_up hI'' (by omega)))
      · have g2' : ¬ (tU (ayw ar) mg i e p Lf Rf N 0 S).2 = true := by rw [g2]; decide
        rw [if_neg g2'] at k1 k0
        exact k0 rfl m' (GI_up hI' (by omega))
    · have h32 : ¬ 32 ≤ cl (ndg e) p := by
        unfold i2b at hz
        split at hz
        · exact absurd (by omega) hz
        · rename_i g; exact fun q => g (decide_eq_true q)
      unfold tPl at k1 k0
      rw [if_neg h32] at k1 k0
      exact ih (p := p + 1) (by omega) hI (by omega) (fun g m'' hI'' => k1 g m'' (GI_up hI'' (by omega))) (fun g m'' hI'' => k0 g m'' (GI_up hI'' (by omega)))
/-- grow() -/
theorem c_grow {S : Ts} {e : Nd} (hp : PP P) (hb : b = 54 ∨ b = 155) (har : arK sc ar) (hX : BKC b sc ar N Lm Rm Lf Rf m0) (hZ : ∀ u, u < N → ZK sc ar (Lf u) (Rf u)) (hg : P 38 2 = some g) (hgo : g = 39 ∨ g = 256) (hgv : m0 g 7 = (G : Int)) (hmk : m0 38 10 = (mg : Int)) (hA8 : m0 8 8 + 100000 < 2147483647) (hA18 : m0 18 8 + 100000 < 2147483647) (hT : TCm S m0) (hV : TV sc ar G mg S) (he : S.1[S.2.2.2.1]? = some e) (hAT8 : ATT 8 m0) (hAT18 : ATT 18 m0) {post : Int → Mi → Mj → Mp → Prop} (k : ∀ m', TCm (tGr (ayw ar) mg N Lf Rf S e).1 m' → (ATT 8 m' ∧ m' 8 8 ≤ m0 8 8 + 3200) → (ATT 18 m' ∧ m' 18 8 ≤ m0 18 8 + 3200) → nwF m0 m' → post (i2b (tGr (ayw ar) mg N Lf Rf S e).2) m' J P) : Ci X (d + 5) 107 [.ref 38, .ref b] m0 J P post := by
  have kb := kd_book hb
  have hi := (gl_lt he).1
  have hN := hV.2.2.1 e (gl_lt he).2
  have hok := hN.1
  have hb1 := hV.1
  have hk := hok.2.1
  simp only [tcl] at hb1
  obtain ⟨⟨t1, t2, t3, t4, t5, t6⟩, t7, t8⟩ := id hT
  obtain ⟨⟨_, _, _, _, r4, r5, _, _, _⟩, _⟩ := t7 _ e he
  have i4 : (((S.2.2.2.1 : Int) * 9) + 4).toNat = 9 * S.2.2.2.1 + 4 := by omega
  have i5 : (((S.2.2.2.1 : Int) * 9) + 5).toNat = 9 * S.2.2.2.1 + 5 := by omega
  refine Ci.of rfl rfl rfl (b_Tree_grow_0 b kb m0 J P hp post ?_)
  rw [t4, i4, i5]
  refine c_loadNode (d := d + 2) (x0 := 8) (i := S.2.2.2.1) (e := e) hp (Or.inl rfl) hb har hX.1 hT he (by omega) hok (by have := hN.2.2.1; omega) (fun m1 u1 u2 u3 u4 => ⟨hp, by omega, by omega, ?_⟩)
  have F1 : ∀ a k, ¬ (8 ≤ a ∧ a ≤ 17) → m1 a k = m0 a k := fun a k q => u4 a k (by omega) (by omega) (by omega)
  rw [F1 _ _ (by omega), F1 _ _ (by omega), r4, r5, show ((ndl e).length : Int) + ((ndr e).length : Int) = (((ndl e).length + (ndr e).length : Nat) : Int) by omega, show (0 : Int) = ((0 : Nat) : Int) from rfl]
  have hI : GI sc ar G mg S.2.2.2.1 e m0 0 S m1 := ⟨TCm_fr hT (fun k _ => F1 _ _ (by omega)) fun a k g1 g2 => F1 _ _ (by omega), ⟨hV, he, rfl⟩, ⟨u1, u2, u3⟩, ⟨ATT_fr hAT8 (u4 _ _ (by omega) (by omega) (by omega)) fun z => u4 _ _ (by omega) (by omega) (by omega), by rw [u4 _ _ (by omega) (by omega) (by omega)]; omega⟩, ⟨ATT_fr hAT18 (F1 _ _ (by omega)) fun z => F1 _ _ (by omega), by rw [F1 _ _ (by omega)]; omega⟩, fun a k g1 _ _ => F1 a k (by omega)⟩
  refine c_gP (d := d) (q := (ndl e).length + (ndr e).length) (p := 0) (A := 0) (S := S) (g := g) hp hb har hX hZ hg hgo hgv hmk hA8 hA18 (by omega) hI (by omega) (fun g2 m' hI' => ?_) (fun g2 m' hI' => ?_)
  · have kk := k (mu m' 38 13 (m' 38 13 + 1))
    unfold tGr at kk
    rw [if_pos g2] at kk
    obtain ⟨w1, w2, w3, ⟨w4, w5⟩, ⟨w6, w7⟩, w8⟩ := hI'
    refine kk ?_ ⟨ATT_fr w4 (mu_a _ (by omega)) fun z => mu_a _ (by omega), by rw [mu_a _ (by omega)]; omega⟩ ⟨ATT_fr w6 (mu_a _ (by omega)) fun z => mu_a _ (by omega), by rw [mu_a _ (by omega)]; omega⟩ fun a k h1 h2 h3 => (mu_ne _ _ (by omega)).trans (w8 a k h1 h2 h3)
    obtain ⟨⟨s1, s2, s3, s4, s5, s6⟩, s7, s8⟩ := w1
    refine ⟨⟨?_, ?_, ?_, ?_, ?_, ?_⟩, fun i x hx => NC_fr (s7 i x hx) (fun k _ _ => mu_a _ (by omega)) fun k _ _ => mu_a _ (by omega), fun k a ha => ACm_fr (s8 k a ha) (mu_a _ (by omega)) (mu_a _ (by omega)) fun k _ _ => mu_a _ (by omega)⟩
    · rw [mu_ne _ _ (by omega)]; exact s1
    · rw [mu_ne _ _ (by omega)]; exact s2
    · rw [mu_ne _ _ (by omega)]; exact s3
    · rw [mu_at, s4]; dsimp only; omega
    · rw [mu_ne _ _ (by omega)]; exact s5
    · rw [mu_ne _ _ (by omega)]; exact s6
  · have kk := k m'
    unfold tGr at kk
    have g2' : ¬ (tPl (ayw ar) mg S.2.2.2.1 e N Lf Rf ((ndl e).length + (ndr e).length) 0 S).2 = true := by rw [g2]; decide
    rw [if_neg g2'] at kk
    obtain ⟨w1, w2, w3, ⟨w4, w5⟩, ⟨w6, w7⟩, w8⟩ := hI'
    exact kk w1 ⟨w4, by omega⟩ ⟨w6, by omega⟩ w8
end CGR
