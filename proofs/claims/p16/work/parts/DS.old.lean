/-! what stays in a TREE; show() of the class -/
section OLD
variable {X : aX} {d x y : Nat} {P : Mp} {J J' : Mj} {m m' m0 : Mi} {Sn : Nat → Nat} {ar : Nat → Int} {sc mg b g N G vm t : Nat} {R : Nat → Mi} {nm : Nat → Int} {l r : List Int} {S : Ts} {st : Int} {Lf Rf : Nat → List Int}
theorem tU_old {e w : Nd} {i p j : Nat} (har : arK sc ar) (hZ : ∀ u, u < N → ZK sc ar (Lf u) (Rf u)) (hp : p < (ndl e).length + (ndr e).length) : ∀ {q u : Nat} {S : Ts}, u + q = N → tKp sc ar G mg i e S → S.1[j]? = some w → (tU (ayw ar) mg i e p Lf Rf q u S).1.1[j]? = some w
  | 0, _, _, _, _, h => h
  | q + 1, u, S, hq, hK, h => by
    unfold tU
    split
    · have n := (tNar_TV (u := u) har hK.1 hK.2.1 (hZ u (by omega)) hp).2.2.2.2 j w h
      split
      · exact tU_old har hZ hp (by omega) (tNar_K har hK (hZ u (by omega)) hp) n
      · exact n
    · exact tU_old har hZ hp (by omega) hK h
theorem tPl_old {e w : Nd} {i j : Nat} (har : arK sc ar) (hZ : ∀ u, u < N → ZK sc ar (Lf u) (Rf u)) : ∀ {q p : Nat} {S : Ts}, p + q = (ndl e).length + (ndr e).length → tKp sc ar G mg i e S → S.1[j]? = some w → (tPl (ayw ar) mg i e N Lf Rf q p S).1.1[j]? = some w
  | 0, _, _, _, _, h => h
  | q + 1, p, S, hq, hK, h => by
    unfold tPl
    split
    · have n := tU_old har hZ (p := p) (by omega) (by omega) hK h (q := N) (u := 0)
      split
      · exact tPl_old har hZ (by omega) (tU_K har hZ (by omega) (by omega) hK) n
      · exact n
    · exact tPl_old har hZ (by omega) hK h
theorem tGr_old {e w : Nd} {j : Nat} (har : arK sc ar) (hZ : ∀ u, u < N → ZK sc ar (Lf u) (Rf u)) (hV : TV sc ar G mg S) (he : S.1[S.2.2.2.1]? = some e) (h : S.1[j]? = some w) : (tGr (ayw ar) mg N Lf Rf S e).1.1[j]? = some w := by
  have := tPl_old (q := (ndl e).length + (ndr e).length) (p := 0) har hZ (by omega) (⟨hV, he, rfl⟩ : tKp sc ar G mg S.2.2.2.1 e S) h
  unfold tGr
  split
  · exact this
  · exact this
theorem tGr_ex {e : Nd} (har : arK sc ar) (hZ : ∀ u, u < N → ZK sc ar (Lf u) (Rf u)) (hV : TV sc ar G mg S) (he : S.1[S.2.2.2.1]? = some e) : (tGr (ayw ar) mg N Lf Rf S e).1.2.2.2.1 ≤ (tGr (ayw ar) mg N Lf Rf S e).1.1.length := by
  have := tPl_K (q := (ndl e).length + (ndr e).length) (p := 0) har hZ (by omega) (⟨hV, he, rfl⟩ : tKp sc ar G mg S.2.2.2.1 e S)
  have h1 := (gl_lt this.2.1).1
  have h2 := this.2.2
  by_cases g : (tPl (ayw ar) mg S.2.2.2.1 e N Lf Rf ((ndl e).length + (ndr e).length) 0 S).2 = true
  · have e1 : (tGr (ayw ar) mg N Lf Rf S e).1 = ((tPl (ayw ar) mg S.2.2.2.1 e N Lf Rf ((ndl e).length + (ndr e).length) 0 S).1.1, (tPl (ayw ar) mg S.2.2.2.1 e N Lf Rf ((ndl e).length + (ndr e).length) 0 S).1.2.1, (tPl (ayw ar) mg S.2.2.2.1 e N Lf Rf ((ndl e).length + (ndr e).length) 0 S).1.2.2.1, (tPl (ayw ar) mg S.2.2.2.1 e N Lf Rf ((ndl e).length + (ndr e).length) 0 S).1.2.2.2.1 + 1, (tPl (ayw ar) mg S.2.2.2.1 e N Lf Rf ((ndl e).length + (ndr e).length) 0 S).1.2.2.2.2) := by unfold tGr; rw [if_pos g]
    rw [e1]
    show (tPl (ayw ar) mg S.2.2.2.1 e N Lf Rf ((ndl e).length + (ndr e).length) 0 S).1.2.2.2.1 + 1 ≤ (tPl (ayw ar) mg S.2.2.2.1 e N Lf Rf ((ndl e).length + (ndr e).length) 0 S).1.1.length
    omega
  · have e1 : (tGr (ayw ar) mg N Lf Rf S e).1 = (tPl (ayw ar) mg S.2.2.2.1 e N Lf Rf ((ndl e).length + (ndr e).length) 0 S).1 := by unfold tGr; rw [if_neg g]
    rw [e1]
    omega
theorem tEx_old {w : Nd} {j : Nat} (har : arK sc ar) (hZ : ∀ u, u < N → ZK sc ar (Lf u) (Rf u)) : ∀ {q : Nat} {S : Ts}, TV sc ar G mg S → S.1[j]? = some w → (tEx (ayw ar) mg N Lf Rf q S).1.1[j]? = some w
  | 0, _, _, h => h
  | q + 1, S, hV, h => by
    unfold tEx
    split
    · exact h
    · split
      · exact h
      · rename_i e he
        split
        · exact tEx_old har hZ (tGr_TV har hZ hV he) (tGr_old har hZ hV he h)
        · exact tGr_old har hZ hV he h
theorem tEx_ex (har : arK sc ar) (hZ : ∀ u, u < N → ZK sc ar (Lf u) (Rf u)) : ∀ {q : Nat} {S : Ts}, TV sc ar G mg S → S.2.2.2.1 ≤ S.1.length → (tEx (ayw ar) mg N Lf Rf q S).1.2.2.2.1 ≤ (tEx (ayw ar) mg N Lf Rf q S).1.1.length
  | 0, _, _, h => h
  | q + 1, S, hV, h => by
    unfold tEx
    split
    · exact h
    · split
      · exact h
      · rename_i e he
        split
        · exact tEx_ex har hZ (tGr_TV har hZ hV he) (tGr_ex har hZ hV he)
        · exact tGr_ex har hZ hV he
theorem tEx_nG (har : arK sc ar) (hZ : ∀ u, u < N → ZK sc ar (Lf u) (Rf u)) {q : Nat} (hV : TV sc ar G mg S) (h : nG l r S) : nG l r (tEx (ayw ar) mg N Lf Rf q S).1 := by
  obtain ⟨e, h1, h2⟩ := h
  exact ⟨e, tEx_old har hZ hV h1, h2⟩
/-- the first NODE holds the GOAL -/
theorem tPlant_nG {ay : Int → Nat} : nG l r (tPlant ay l r vm) := by
  unfold tPlant
  cases h : nuni ay (ndl (nd0 l r vm)) (ndr (nd0 l r vm)) (ndv (nd0 l r vm)) with
  | none => rw [tLook_none h]; exact ⟨_, rfl, rfl, rfl⟩
  | some Q => cases h2 : nval ay (ndl (nd0 l r vm)) (ndr (nd0 l r vm)) (ndv (nd0 l r vm)) Q with
    | none => rw [tLook_lost h h2]; exact ⟨_, rfl, rfl, rfl⟩
    | some ls =>
      rw [tLook_some h h2]
      split
      · exact ⟨_, rfl, rfl, rfl⟩
      · exact ⟨_, rfl, rfl, rfl⟩
/-- show() of the class: VALUES of NODES and ANSWERS -/
theorem c_show3 {k : Int} (hp : PP P) (hb : b = 54 ∨ b = 155) (hP : P 1 8 = some b) (hg : P 38 2 = some g) (hgo : g = 39 ∨ g = 256) (har : arK sc ar) (hB : BN b Sn sc m J) (hA : BA b sc ar m) (hz : Zr k) (hst : m 38 8 = st) (hs01 : st = 0 ∨ st = 1) (zn : Zr (m 38 11)) (hT : st = 1 → TQ sc ar g l r vm mg nm S m J) {post : Int → Mi → Mj → Mp → Prop} (k0 : (st = 1 → k < 0 ∨ (S.1.length : Int) ≤ k) → post (-1) m J P) (k1 : st = 1 → ∀ e, S.1[k.toNat]? = some e → 0 ≤ k → ∀ m' J', WC (oVal (ayw ar) Sn nm (ndv e)) m' J' → wcF m J m' J' → post ((oVal (ayw ar) Sn nm (ndv e)).1.length : Int) m' J' P) : Ci X (d + 6) 125 [.ref 1, .int (iz 3), .int (iz k)] m J P post := by
  refine Ci.of rfl rfl rfl (b_Nh_show_0 3 k m J P hp post ⟨by constructor <;> omega, fun g => absurd g (by omega), fun g => absurd g (by omega), fun g => absurd g (by omega), fun _ => ?_, fun g => absurd g (by omega), fun g => absurd g (by omega)⟩)
  refine c_hasN (S := S) hp hz hst hs01 zn (fun h1 => (hT h1).2.1.1.1) (fun hh => ⟨hp, zr0, fun _ => k0 hh, fun g => absurd rfl g⟩) (fun h1 e he g1 => ⟨hp, zr1, fun g => absurd g (by omega), fun _ => ?_⟩)
  obtain ⟨hQ, hTC, hV, hK, hnm⟩ := hT h1
  have k1' := k1 h1 e he g1
  obtain ⟨i, rfl⟩ := Int.eq_ofNat_of_zero_le g1
  have he : S.1[i]? = some e := he
  have hb1 := hV.1
  simp only [tcl] at hb1
  have hN := hV.2.2.1 e (gl_lt he).2
  have hNC := hTC.2.1 i e he
  have hi := (gl_lt he).1
  have hfit := hN.2.2.1
  have hln := ng_len (l := ndl e) (r := ndr e) (vs := ndv e)
  have hge : (ndg e).length = (ngr (ndl e) (ndr e) (ndv e)).length := rfl
  have h800 := ng_800 hN.1
  have hrow : Ro m 45 e.2.1 (ndl e ++ (ndr e ++ (ndv e).flatten)) := hNC.2
  obtain ⟨hr1, hr2⟩ := Ro_app.mp hrow
  obtain ⟨hr2, hr3⟩ := Ro_app.mp hr2
  refine c_valuesStart (e := e) hp (by omega) hNC ⟨hp, g, hg, (SP_kd hgo).1, ?_⟩
  refine c_showV (d := d + 1) (l := l) (r := r) (fil := 0) hp hb hP hgo har hB hA hQ hV.2.1.1 hnm hN.2.1 (NV_okw hN) (by omega) (by omega) (by rw [show e.2.1 + ((ndl e).length + (ndr e).length) = e.2.1 + (ndl e).length + (ndr e).length by omega]; exact hr3) (fun m1 J1 u1 u2 => ⟨hp, k1' m1 J1 u1 u2⟩)
theorem c_show4 {k : Int} (hp : PP P) (hb : b = 54 ∨ b = 155) (hP : P 1 8 = some b) (hg : P 38 2 = some g) (hgo : g = 39 ∨ g = 256) (har : arK sc ar) (hB : BN b Sn sc m J) (hA : BA b sc ar m) (hz : Zr k) (hst : m 38 8 = st) (hs01 : st = 0 ∨ st = 1) (zn : Zr (m 38 12)) (hT : st = 1 → TQ sc ar g l r vm mg nm S m J) {post : Int → Mi → Mj → Mp → Prop} (k0 : (st = 1 → k < 0 ∨ (S.2.1.length : Int) ≤ k) → post (-1) m J P) (k1 : st = 1 → ∀ a, S.2.1[k.toNat]? = some a → 0 ≤ k → ∀ m' J', WC (oVal (ayw ar) Sn nm a.2.2) m' J' → wcF m J m' J' → post ((oVal (ayw ar) Sn nm a.2.2).1.length : Int) m' J' P) : Ci X (d + 6) 125 [.ref 1, .int (iz 4), .int (iz k)] m J P post := by
  refine Ci.of rfl rfl rfl (b_Nh_show_0 4 k m J P hp post ⟨by constructor <;> omega, fun g => absurd g (by omega), fun g => absurd g (by omega), fun g => absurd g (by omega), fun g => absurd g (by omega), fun _ => ?_, fun g => absurd g (by omega)⟩)
  refine c_hasA (S := S) hp hz hst hs01 zn (fun h1 => (hT h1).2.1.1.2.1) (fun hh => ⟨hp, zr0, fun _ => k0 hh, fun g => absurd rfl g⟩) (fun h1 a he g1 => ⟨hp, zr1, fun g => absurd g (by omega), fun _ => ?_⟩)
  obtain ⟨hQ, hTC, hV, hK, hnm⟩ := hT h1
  have k1' := k1 h1 a he g1
  obtain ⟨i, rfl⟩ := Int.eq_ofNat_of_zero_le g1
  have he : S.2.1[i]? = some a := he
  obtain ⟨q1, q2⟩ := TV_A hV he
  have hAC := hTC.2.2 i a he
  refine ⟨by constructor <;> omega, g, hg, (SP_kd hgo).1, ?_⟩
  rw [show m 48 (i : Int).toNat = (a.2.1 : Int) from hAC.2.1]
  have h6 := hV.2.1.1
  have h800 : a.2.2.flatten.length ≤ 800 := by
    have fl := flat_len (B := 100) (vs := a.2.2) fun w hw => (q2.2.1 w hw).2.1
    have e1 := q2.1
    have : 100 * a.2.2.length ≤ 100 * 6 := Nat.mul_le_mul_left _ (by omega)
    omega
  refine c_showV (d := d + 1) (l := l) (r := r) (fil := 0) hp hb hP hgo har hB hA hQ hV.2.1.1 hnm q2.1 (AV_okw q2) q2.2.2.1 h800 hAC.2.2 (fun m1 J1 u1 u2 => ⟨hp, k1' m1 J1 u1 u2⟩)
theorem c_showx {what k : Int} (hp : PP P) (hz : Zr what) (hw : what < 0 ∨ 4 < what) {post : Int → Mi → Mj → Mp → Prop} (k0 : post (-1) m J P) : Ci X (d + 6) 125 [.ref 1, .int (iz what), .int (iz k)] m J P post :=
  Ci.of rfl rfl rfl (b_Nh_show_0 what k m J P hp post ⟨hz, fun g => absurd g (by omega), fun g => absurd g (by omega), fun g => absurd g (by omega), fun g => absurd g (by omega), fun g => absurd g (by omega), fun _ => k0⟩)
end OLD
