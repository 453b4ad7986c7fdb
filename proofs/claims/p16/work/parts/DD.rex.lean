/-! expands(), expand() of the reference -/
section REX
variable {X : aX} {d : Nat} {P : Mp} {J : Mj} {m m' m0 : Mi} {ar : Nat → Int} {sc G mg N : Nat} {Lf Rf : Nat → List Int}
/-- where expands() stands -/
def RI (sc : Nat) (ar : Nat → Int) (G mg i : Nat) (e : Nd) (m0 : Mi) (S : Ts) (m : Mi) : Prop := TR S m ∧ tKp sc ar G mg i e S ∧ rkF m0 m
theorem RyM_rk (h : RyM N Lf Rf m) (f : rkF m m') : RyM N Lf Rf m' := by
  obtain ⟨⟨h1, h2⟩, h3⟩ := h
  refine ⟨⟨h1, (f _ _ (by omega) (by omega) (by omega)).trans h2⟩, fun u hu => ?_⟩
  obtain ⟨⟨a1, a2⟩, ⟨a3, a4⟩, a5, a6, a7⟩ := h3 u hu
  have e : m' 285 u = m 285 u := f _ _ (by omega) (by omega) (by omega)
  refine ⟨⟨(f _ _ (by omega) (by omega) (by omega)).trans a1, (f _ _ (by omega) (by omega) (by omega)).trans a2⟩, ⟨Ro_fr a3 fun k _ _ => f _ _ (by omega) (by omega) (by omega), Ro_fr a4 fun k _ _ => f _ _ (by omega) (by omega) (by omega)⟩, a5, by rw [e]; exact a6, fun c hc => by rw [e]; exact a7 c hc⟩
/-- a cell of a NODE's sides, in the reference -/
theorem NR_cell {i p : Nat} {e : Nd} (h : NR i e m) (hp : p < (ndl e).length + (ndr e).length) : m 323 (e.2.1 + p) = c64 (cl (ndg e) p) := by
  obtain ⟨_, _, hr⟩ := h
  rw [← List.append_assoc, ← List.map_append] at hr
  have := Ro_get (Ro_app.mp hr).1 (i := p) (by rw [List.length_map, List.length_append]; exact hp)
  rw [this, List.getElem_map]
  have e1 : cl (ndg e) p = cl (ndl e ++ ndr e) p := by
    show cl (ngr (ndl e) (ndr e) (ndv e)) p = _
    unfold ngr
    rw [← List.append_assoc, cl_app (by rw [List.length_append]; exact hp)]
  rw [e1, cl_get (by rw [List.length_append]; exact hp)]
theorem r_eU {i p : Nat} {e : Nd} (hp : PP P) (har : arK sc ar) (hRA : RAr sc ar m0) (hK : RyM N Lf Rf m0) (hZ : ∀ u, u < N → ZK sc ar (Lf u) (Rf u)) (hgv : m0 262 101 = (G : Int)) (hfl : m0 262 94 = amg mg) (hpl : p < (ndl e).length + (ndr e).length) (hc0 : 32 ≤ cl (ndg e) p) {post : Int → Mi → Mj → Mp → Prop} : ∀ {q u : Nat} {S : Ts} {m : Mi}, u + q = N → RI sc ar G mg i e m0 S m → ((tU (ayw ar) mg i e p Lf Rf q u S).2 = true → ∀ m', RI sc ar G mg i e m0 (tU (ayw ar) mg i e p Lf Rf q u S).1 m' → Rn X (d + 7) 204 2 [some (.ref 262), some (.int (iz (i : Int))), some (.int (iz ((p + 1 : Nat) : Int))), none, none] [] (SS m' J P) (QI post)) → ((tU (ayw ar) mg i e p Lf Rf q u S).2 = false → ∀ m', RI sc ar G mg i e m0 (tU (ayw ar) mg i e p Lf Rf q u S).1 m' → post 0 m' J P) → Rn X (d + 7) 204 45 [some (.ref 262), some (.int (iz (i : Int))), some (.int (iz (p : Int))), some (.int (iz (c64 (cl (ndg e) p)))), some (.int (iz (u : Int)))] [] (SS m J P) (QI post) := by
  intro q
  induction q with
  | zero =>
    intro u S m hu hI k1 k0
    have hKm := RyM_rk hK hI.2.2
    have hN := hKm.1.1
    refine b_Mdl_expands_45 (d := d + 1) (i : Int) (p : Int) _ (u : Int) m J P hp post ?_
    rw [hKm.1.2]
    exact ⟨by constructor <;> omega, by constructor <;> omega, fun _ => k1 rfl m hI, fun g => absurd (by omega) g⟩
  | succ q ih =>
    intro u S m hu hI k1 k0
    have hF := hI.2.2
    have hKm := RyM_rk hK hF
    have hN := hKm.1.1
    have hu16 : u < 16 := by omega
    have hok := (hI.2.1.1.2.2.1 e (gl_lt hI.2.1.2.1).2).1
    have hln := ng_len (l := ndl e) (r := ndr e) (vs := ndv e)
    have hpg : p < (ndg e).length := by show p < (ngr (ndl e) (ndr e) (ndv e)).length; omega
    have hcd : -10000 ≤ cl (ndg e) p ∧ cl (ndg e) p < 64 ∧ (0 ≤ cl (ndg e) p → cl (ndg e) p % 32 < sc) := (ng_gd har.1 hok _ (cl_mem hpg)).1
    have hZu := hZ u (by omega)
    have nf := ct_ne hZu.1.1
    have h0 : m 281 (40 * u) = cl (Lf u) 0 := by
      have := Ro_get (hKm.2 u (by omega)).2.1.1 (i := 0) nf
      rw [Nat.add_zero] at this
      rw [this, ← cl_get]
    have hlg : -10000 ≤ cl (Lf u) 0 ∧ cl (Lf u) 0 < 16 ∧ (0 ≤ cl (Lf u) 0 → cl (Lf u) 0 < sc) := (hZu.2.1 _ (List.mem_append_left _ (cl_mem nf))).1
    refine b_Mdl_expands_45 (d := d + 1) (i : Int) (p : Int) _ (u : Int) m J P hp post ?_
    rw [hKm.1.2, show (40 * (u : Int)).toNat = 40 * u by omega, h0, c64_p (show 0 ≤ cl (ndg e) p by omega)]
    have hx : cl (ndg e) p % 32 + 64 * (cl (ndg e) p / 32) = cl (ndg e) p % 32 + 64 := by omega
    unfold tU at k1 k0
    refine ⟨by constructor <;> omega, by constructor <;> omega, fun g => absurd g (by omega), fun _ => ⟨by omega, by constructor <;> omega, by constructor <;> omega, fun hne => ?_, fun heq => ?_⟩⟩
    · have hne' : ¬ cl (ndg e) p % 32 = cl (Lf u) 0 := by omega
      rw [if_neg hne'] at k1 k0
      have := ih (u := u + 1) (S := S) (m := m) (by omega) hI k1 k0
      rw [c64_p (show 0 ≤ cl (ndg e) p by omega)] at this
      exact this
    · have heq' : cl (ndg e) p % 32 = cl (Lf u) 0 := by omega
      rw [if_pos heq'] at k1 k0
      have hKn := tNar_K (u := u) har hI.2.1 hZu hpl
      refine r_narrows (d := d) (S := S) (i := i) (p := p) (u := u) (e := e) (G := G) (mg := mg) hp har (RAr_fr hRA fun k => hF _ _ (by omega) (by omega) (by omega)) hKm (by omega) hZu ((hF _ _ (by omega) (by omega) (by omega)).trans hgv) ((hF _ _ (by omega) (by omega) (by omega)).trans hfl) hI.2.1.1 hI.1 hI.2.1.2.1 hpl (by omega) (fun m' w1 w2 => ⟨hp, ?_, ?_, ?_⟩)
      · unfold i2b
        split <;> (constructor <;> omega)
      · intro hz
        have h2 : (tNar (ayw ar) mg S i e p u (Lf u) (Rf u)).2 = true := by
          unfold i2b at hz
          split at hz
          · assumption
          · exact absurd rfl hz
        rw [if_pos h2] at k1 k0
        have := ih (u := u + 1) (m := m') (by omega) ⟨w1, hKn, rkF_trans hF w2⟩ k1 k0
        rw [c64_p (show 0 ≤ cl (ndg e) p by omega)] at this
        exact this
      · intro hz
        have h2 : (tNar (ayw ar) mg S i e p u (Lf u) (Rf u)).2 = false := by
          unfold i2b at hz
          split at hz
          · exact absurd (by omega) hz
          · rename_i g; simpa using g
        rw [if_neg (by rw [h2]; decide)] at k1 k0
        exact k0 rfl m' ⟨w1, hKn, rkF_trans hF w2⟩
theorem r_eP {i : Nat} {e : Nd} (hp : PP P) (hi : i < 1000) (har : arK sc ar) (hRA : RAr sc ar m0) (hK : RyM N Lf Rf m0) (hZ : ∀ u, u < N → ZK sc ar (Lf u) (Rf u)) (hgv : m0 262 101 = (G : Int)) (hfl : m0 262 94 = amg mg) {post : Int → Mi → Mj → Mp → Prop} : ∀ {q p : Nat} {S : Ts} {m : Mi}, p + q = (ndl e).length + (ndr e).length → RI sc ar G mg i e m0 S m → ((tPl (ayw ar) mg i e N Lf Rf q p S).2 = true → ∀ m', RI sc ar G mg i e m0 (tPl (ayw ar) mg i e N Lf Rf q p S).1 m' → post 1 m' J P) → ((tPl (ayw ar) mg i e N Lf Rf q p S).2 = false → ∀ m', RI sc ar G mg i e m0 (tPl (ayw ar) mg i e N Lf Rf q p S).1 m' → post 0 m' J P) → Rn X (d + 7) 204 2 [some (.ref 262), some (.int (iz (i : Int))), some (.int (iz (p : Int))), none, none] [] (SS m J P) (QI post) := by
  intro q
  induction q with
  | zero =>
    intro p S m hq hI k1 k0
    have hok := (hI.2.1.1.2.2.1 e (gl_lt hI.2.1.2.1).2).1
    have hk := hok.2.1
    obtain ⟨⟨_, _, _, _, h5, h6, _, h8, _⟩, _, _⟩ := hI.1.2.1 i e hI.2.1.2.1
    refine b_Mdl_expands_2 (d := d + 1) (i : Int) (p : Int) m J P hp post ?_
    rw [Int.toNat_natCast, h5, h6]
    exact ⟨by omega, by omega, by constructor <;> omega, by constructor <;> omega, fun _ => k1 rfl m hI, fun g => absurd (by omega) g⟩
  | succ q ih =>
    intro p S m hq hI k1 k0
    have hN := hI.2.1.1.2.2.1 e (gl_lt hI.2.1.2.1).2
    have hok := hN.1
    have hk := hok.2.1
    have hfit := hN.2.2.1
    have hb1 := hI.2.1.1.1
    simp only [tcl] at hb1
    have hNR := hI.1.2.1 i e hI.2.1.2.1
    obtain ⟨⟨_, _, _, _, h5, h6, _, h8, _⟩, _, _⟩ := id hNR
    have hln := ng_len (l := ndl e) (r := ndr e) (vs := ndv e)
    have hge : (ndg e).length = (ngr (ndl e) (ndr e) (ndv e)).length := rfl
    have hpg : p < (ndg e).length := by omega
    have hcd : -10000 ≤ cl (ndg e) p ∧ cl (ndg e) p < 64 ∧ (0 ≤ cl (ndg e) p → cl (ndg e) p % 32 < sc) := (ng_gd har.1 hok _ (cl_mem hpg)).1
    refine b_Mdl_expands_2 (d := d + 1) (i : Int) (p : Int) m J P hp post ?_
    rw [Int.toNat_natCast, h5, h6, h8, show ((e.2.1 : Int) + (p : Int)).toNat = e.2.1 + p by omega, NR_cell hNR (by omega)]
    have hz : Zr (c64 (cl (ndg e) p)) := by unfold c64; split <;> (constructor <;> omega)
    have h64 : 64 ≤ c64 (cl (ndg e) p) ↔ 32 ≤ cl (ndg e) p := by unfold c64; split <;> omega
    unfold tPl at k1 k0
    refine ⟨by omega, by omega, by constructor <;> omega, by constructor <;> omega, fun g => absurd g (by omega), fun _ => ⟨by omega, by omega, hz, fun g => ?_, fun g => ?_⟩⟩
    · have h32 := h64.mp g
      rw [if_pos h32] at k1 k0
      refine r_eU (d := d) (q := N) (u := 0) (S := S) hp har hRA hK hZ hgv hfl (by omega) h32 (by omega) hI (fun g2 m' hI' => ?_) (fun g2 m' hI' => ?_)
      · rw [if_pos g2] at k1 k0
        exact ih (p := p + 1) (by omega) hI' k1 k0
      · rw [if_neg (by rw [g2]; decide)] at k1 k0
        exact k0 rfl m' hI'
    · have h32 : ¬ 32 ≤ cl (ndg e) p := fun q => g (h64.mpr q)
      rw [if_neg h32] at k1 k0
      exact ih (p := p + 1) (by omega) hI k1 k0
/-- where expand() stands -/
def REI (sc : Nat) (ar : Nat → Int) (G mg : Nat) (m0 : Mi) (S : Ts) (m : Mi) : Prop := TR S m ∧ TV sc ar G mg S ∧ ∀ a k, ¬ (302 ≤ a ∧ a ≤ 320) → ¬ (323 ≤ a ∧ a ≤ 340) → ¬ (a = 262 ∧ (k = 74 ∨ k = 87 ∨ k = 86 ∨ k = 95 ∨ k = 96 ∨ k = 97 ∨ k = 98 ∨ k = 99 ∨ k = 100 ∨ k = 102 ∨ k = 120 ∨ k = 121 ∨ k = 122 ∨ k = 124 ∨ k = 125)) → m a k = m0 a k
theorem r_ex_22 {n : Nat} (hp : PP P) (har : arK sc ar) (hRA : RAr sc ar m0) (hK : RyM N Lf Rf m0) (hZ : ∀ u, u < N → ZK sc ar (Lf u) (Rf u)) (hgv : m0 262 101 = (G : Int)) (hfl : m0 262 94 = amg mg) (hn : n ≤ 100) {post : Int → Mi → Mj → Mp → Prop} : ∀ {q dn : Nat} {S : Ts} {m : Mi}, dn + q = n → REI sc ar G mg m0 S m → S.2.2.2.1 + q ≤ 100000 → (∀ m', REI sc ar G mg m0 (tEx (ayw ar) mg N Lf Rf q S).1 m' → post ((dn + (tEx (ayw ar) mg N Lf Rf q S).2 : Nat) : Int) m' J P) → Rn X (d + 8) 203 22 [some (.ref 262), some (.int (iz (n : Int))), some (.int (iz (dn : Int)))] [] (SS m J P) (QI post) := by
  have zb : ∀ b : Bool, Zr (i2b b) := fun b => by unfold i2b; split <;> (constructor <;> omega)
  have stop : ∀ {dn : Nat} {S : Ts} {m : Mi}, dn ≤ n → REI sc ar G mg m0 S m → S.2.2.2.2.2 = true → S.2.2.2.1 ≤ 100000 → post (dn : Int) m J P → Rn X (d + 8) 203 22 [some (.ref 262), some (.int (iz (n : Int))), some (.int (iz (dn : Int)))] [] (SS m J P) (QI post) := fun {dn S m} hd hI hf hx k => by
    obtain ⟨t1, t2, t3, t4, t5, t6, t7⟩ := hI.1.1
    have hb1 := hI.2.1.1
    refine b_Mdl_expand_22 (d := d + 1) (n : Int) (dn : Int) m J P hp post ?_
    rw [t1, t4, t6, hf]
    exact ⟨by constructor <;> omega, by constructor <;> omega, fun _ => k, fun _ => ⟨by constructor <;> omega, by constructor <;> omega, fun _ => k, fun _ => ⟨zb _, fun _ => k, fun g => absurd (by decide : ¬ i2b true = 0) g⟩⟩⟩
  intro q
  induction q with
  | zero =>
    intro dn S m hq hI hx k
    refine b_Mdl_expand_22 (d := d + 1) (n : Int) (dn : Int) m J P hp post ⟨by constructor <;> omega, by constructor <;> omega, fun _ => k m hI, fun g => absurd (by omega) g⟩
  | succ q ih =>
    intro dn S m hq hI hx k
    obtain ⟨t1, t2, t3, t4, t5, t6, t7⟩ := hI.1.1
    have hb1 := hI.2.1.1
    have hF := hI.2.2
    refine b_Mdl_expand_22 (d := d + 1) (n : Int) (dn : Int) m J P hp post ?_
    rw [t1, t4, t6]
    unfold tEx at k
    refine ⟨by constructor <;> omega, by constructor <;> omega, fun g => absurd g (by omega), fun _ => ⟨by constructor <;> omega, by constructor <;> omega, fun hle => ?_, fun hlt => ⟨zb _, fun hf => ?_, fun hf => ?_⟩⟩⟩
    · by_cases hf : S.2.2.2.2.2 = true
      · rw [if_pos hf] at k
        exact k m hI
      · rw [if_neg hf] at k
        have hn : S.1[S.2.2.2.1]? = none := List.getElem?_eq_none (by omega)
        rw [hn] at k
        exact k m hI
    · have hf' : S.2.2.2.2.2 = true := by
        unfold i2b at hf
        split at hf
        · assumption
        · exact absurd rfl hf
      rw [if_pos hf'] at k
      exact k m hI
    · have hf' : S.2.2.2.2.2 = false := by
        unfold i2b at hf
        split at hf
        · exact absurd (by omega) hf
        · rename_i g; simpa using g
      rw [if_neg (by rw [hf']; decide)] at k
      have hlt' : S.2.2.2.1 < S.1.length := by omega
      have he : S.1[S.2.2.2.1]? = some S.1[S.2.2.2.1] := List.getElem?_eq_getElem hlt'
      generalize S.1[S.2.2.2.1] = e at he
      rw [he] at k
      dsimp only at k
      have hKm : RyM N Lf Rf m := by
        obtain ⟨⟨h1, h2⟩, h3⟩ := hK
        refine ⟨⟨h1, (hF _ _ (by omega) (by omega) (by omega)).trans h2⟩, fun u hu => ?_⟩
        obtain ⟨⟨a1, a2⟩, ⟨a3, a4⟩, a5, a6, a7⟩ := h3 u hu
        have e : m 285 u = m0 285 u := hF _ _ (by omega) (by omega) (by omega)
        refine ⟨⟨(hF _ _ (by omega) (by omega) (by omega)).trans a1, (hF _ _ (by omega) (by omega) (by omega)).trans a2⟩, ⟨Ro_fr a3 fun k _ _ => hF _ _ (by omega) (by omega) (by omega), Ro_fr a4 fun k _ _ => hF _ _ (by omega) (by omega) (by omega)⟩, a5, by rw [e]; exact a6, fun c hc => by rw [e]; exact a7 c hc⟩
      have hTK : tKp sc ar G mg S.2.2.2.1 e S := ⟨hI.2.1, he, rfl⟩
      have hpk := tPl_K (q := (ndl e).length + (ndr e).length) (p := 0) har hZ (by omega) hTK
      refine Ci.of rfl rfl rfl (b_Mdl_expands_0 (d := d + 1) (S.2.2.2.1 : Int) m J P hp _ ?_)
      refine r_eP (d := d) (i := S.2.2.2.1) (e := e) (q := (ndl e).length + (ndr e).length) (p := 0) (S := S) (m0 := m) hp (by omega) har (RAr_fr hRA fun k => hF _ _ (by omega) (by omega) (by omega)) hKm hZ ((hF _ _ (by omega) (by omega) (by omega)).trans hgv) ((hF _ _ (by omega) (by omega) (by omega)).trans hfl) (by omega) ⟨hI.1, hTK, fun _ _ _ _ _ => rfl⟩ (fun g2 m' hI' => ⟨hp, zr1, fun _ => ?_, fun g => absurd (by omega) g⟩) (fun g2 m' hI' => ⟨hp, zr0, fun g => absurd rfl g, fun _ => ?_⟩)
      · have g3 : (tGr (ayw ar) mg N Lf Rf S e).2 = true := by unfold tGr; rw [if_pos g2]
        rw [if_pos g3] at k
        obtain ⟨w1, w2, w3⟩ := hI'
        have eG : (tGr (ayw ar) mg N Lf Rf S e).1 = ((tPl (ayw ar) mg S.2.2.2.1 e N Lf Rf ((ndl e).length + (ndr e).length) 0 S).1.1, (tPl (ayw ar) mg S.2.2.2.1 e N Lf Rf ((ndl e).length + (ndr e).length) 0 S).1.2.1, (tPl (ayw ar) mg S.2.2.2.1 e N Lf Rf ((ndl e).length + (ndr e).length) 0 S).1.2.2.1, (tPl (ayw ar) mg S.2.2.2.1 e N Lf Rf ((ndl e).length + (ndr e).length) 0 S).1.2.2.2.1 + 1, (tPl (ayw ar) mg S.2.2.2.1 e N Lf Rf ((ndl e).length + (ndr e).length) 0 S).1.2.2.2.2) := by unfold tGr; rw [if_pos g2]
        have hTV := tGr_TV har hZ hI.2.1 he
        have T2 : TR (tGr (ayw ar) mg N Lf Rf S e).1 (mu m' 262 97 ((m' 262 97) + 1)) := by
          rw [eG]
          obtain ⟨⟨s1, s2, s3, s4, s5, s6, s7⟩, s8, s9⟩ := w1
          have g : ∀ a k, 323 ≤ a → a ≤ 336 → mu m' 262 97 ((m' 262 97) + 1) a k = m' a k := fun a k g1 g2 => mu_a _ (by omega)
          refine ⟨⟨?_, ?_, ?_, ?_, ?_, ?_, ?_⟩, fun i e q => NR_fr (s8 i e q) g, fun k a q => AR_fr (s9 k a q) g⟩
          · rw [mu_ne _ _ (by omega)]; exact s1
          · rw [mu_ne _ _ (by omega)]; exact s2
          · rw [mu_ne _ _ (by omega)]; exact s3
          · rw [mu_at, s4]; dsimp only; omega
          · rw [mu_ne _ _ (by omega)]; exact s5
          · rw [mu_ne _ _ (by omega)]; exact s6
          · rw [mu_ne _ _ (by omega)]; exact s7
        have hx2 : (tGr (ayw ar) mg N Lf Rf S e).1.2.2.2.1 ≤ S.2.2.2.1 + 1 := by
          rw [eG]
          have := hpk.2.2
          dsimp only; omega
        have := ih (dn := dn + 1) (S := (tGr (ayw ar) mg N Lf Rf S e).1) (m := mu m' 262 97 ((m' 262 97) + 1)) (by omega) ⟨T2, hTV, fun a k h1 h2 h3 => (mu_ne _ _ (by omega)).trans ((w3 a k h1 h2 (by omega)).trans (hF a k h1 h2 h3))⟩ (by omega) (fun m'' hI'' => by
          have := k m'' hI''
          rw [show dn + 1 + (tEx (ayw ar) mg N Lf Rf q (tGr (ayw ar) mg N Lf Rf S e).1).2 = dn + ((tEx (ayw ar) mg N Lf Rf q (tGr (ayw ar) mg N Lf Rf S e).1).2 + 1) by omega]
          exact this)
        exact this
      · have g3 : ¬ (tGr (ayw ar) mg N Lf Rf S e).2 = true := by unfold tGr; rw [if_neg (by rw [g2]; decide)]; exact Bool.false_ne_true
        rw [if_neg g3] at k
        have eG : (tGr (ayw ar) mg N Lf Rf S e).1 = (tPl (ayw ar) mg S.2.2.2.1 e N Lf Rf ((ndl e).length + (ndr e).length) 0 S).1 := by unfold tGr; rw [if_neg (by rw [g2]; decide)]
        rw [eG] at k
        obtain ⟨w1, w2, w3⟩ := hI'
        have hI2 : REI sc ar G mg m0 (tPl (ayw ar) mg S.2.2.2.1 e N Lf Rf ((ndl e).length + (ndr e).length) 0 S).1 m' := ⟨w1, w2.1, fun a k h1 h2 h3 => (w3 a k h1 h2 (by omega)).trans (hF a k h1 h2 h3)⟩
        exact stop (dn := dn) (by omega) hI2 (tPl_f g2) (by have := w2.2.2; omega) (by have := k m' hI2; rw [Nat.add_zero] at this; exact this)
/-- expand() -/
theorem r_expand {n : Int} {S : Ts} {st : Int} (hp : PP P) (har : arK sc ar) (hRA : RAr sc ar m) (hK : RyM N Lf Rf m) (hZ : ∀ u, u < N → ZK sc ar (Lf u) (Rf u)) (hz : Zr n) (hst : m 262 93 = st) (hs01 : st = 0 ∨ st = 1) (hgv : st = 1 → m 262 101 = (G : Int) ∧ m 262 94 = amg mg ∧ TR S m ∧ TV sc ar G mg S ∧ S.2.2.2.1 ≤ 60000) {post : Int → Mi → Mj → Mp → Prop} (k0 : st = 0 ∨ n < 1 ∨ 100 < n → post (-1) m J P) (k1 : st = 1 → 1 ≤ n ∧ n ≤ 100 → ∀ m', REI sc ar G mg m (tEx (ayw ar) mg N Lf Rf n.toNat S).1 m' → post ((tEx (ayw ar) mg N Lf Rf n.toNat S).2 : Int) m' J P) : Ci X (d + 8) 203 [.ref 262, .int (iz n)] m J P post := by
  refine Ci.of rfl rfl rfl (b_Mdl_expand_0 (d := d + 1) n m J P hp post ?_)
  rw [hst]
  refine ⟨by rcases hs01 with h | h <;> rw [h] <;> constructor <;> omega, fun h => k0 (Or.inl h), fun h1 => ⟨hz, fun g => k0 (Or.inr (Or.inl g)), fun h2 => ⟨hz, fun h3 => ?_, fun g => k0 (Or.inr (Or.inr (by omega)))⟩⟩⟩
  have h31 : st = 1 := by omega
  obtain ⟨v1, v2, v3, v4, v5⟩ := hgv h31
  obtain ⟨q, rfl⟩ := Int.eq_ofNat_of_zero_le (show 0 ≤ n by omega)
  have := r_ex_22 (X := X) (d := d) (P := P) (J := J) (n := q) (post := post) (m0 := m) hp har hRA hK hZ v1 v2 (by omega) (q := q) (dn := 0) (S := S) (m := m) (by omega) ⟨v3, v4, fun _ _ _ _ _ => rfl⟩ (by omega) (fun m' hI => by
    have := k1 h31 (by omega) m' hI
    rw [Nat.zero_add]
    exact this)
  exact this
end REX
