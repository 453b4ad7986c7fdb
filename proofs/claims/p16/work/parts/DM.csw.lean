/-! show() in the class, whole -/
section CSW
variable {X : aX} {d : Nat} {P : Mp} {J J' : Mj} {m m' m0 : Mi} {Sn : Nat → Nat} {sc b s o g G mg N : Nat} {ar : Nat → Int} {R : Nat → Mi} {nm : Nat → Int}
/-- cells of a side, plain -/
theorem RC_pln {xr f : Nat} {l : List Int} (h : Ro m xr f l) (hg : ∀ c, c ∈ l → c < 64) : RC xr f (l.map pln) m := fun i hi => by
  rw [List.length_map] at hi
  rw [cl_map hi, Ro_get h hi, ← cl_get hi]
  have := hg _ (cl_mem hi)
  unfold plC pln
  by_cases q : cl l i < 0
  · rw [if_pos q]
    exact ⟨fun _ => rfl, fun q2 => by omega⟩
  · rw [if_neg q]
    exact ⟨fun q2 => by omega, fun _ => ⟨by omega, rfl⟩⟩
theorem pln_gq {l : List Int} (h : ∀ c, c ∈ l → gd sc c ∧ -800 ≤ c) : ∀ c, c ∈ l.map pln → gq sc c := fun c hc => by
  obtain ⟨c', h1, rfl⟩ := List.mem_map.mp hc
  obtain ⟨⟨g1, g2, g3⟩, g4⟩ := h c' h1
  unfold pln gq
  split
  · omega
  · have := g3 (by omega)
    omega
/-- nodeStart(), valuesStart() -/
theorem c_nodeStart {i : Nat} {e : Nd} (hp : PP P) (hi : i < 1000) (h : NC i e m) {post : Int → Mi → Mj → Mp → Prop} (k : post (e.2.1 : Int) m J P) : Ci X d 116 [.ref 38, .int (iz (i : Int))] m J P post := by
  obtain ⟨⟨_, _, _, _, _, _, _, h8, _⟩, _⟩ := h
  refine Ci.of rfl rfl rfl (b_Tree_nodeStart_0 (i : Int) m J P hp post ?_)
  rw [show (((i : Int) * 9) + 7).toNat = 9 * i + 7 by omega, h8]
  exact ⟨by omega, k⟩
theorem c_valuesStart {i : Nat} {e : Nd} (hp : PP P) (hi : i < 1000) (h : NC i e m) {post : Int → Mi → Mj → Mp → Prop} (k : post ((e.2.1 + ((ndl e).length + (ndr e).length) : Nat) : Int) m J P) : Ci X d 117 [.ref 38, .int (iz (i : Int))] m J P post := by
  obtain ⟨⟨_, _, _, _, h5, h6, _, h8, _⟩, _⟩ := h
  refine Ci.of rfl rfl rfl (b_Tree_valuesStart_0 (i : Int) m J P hp post ?_)
  rw [show (((i : Int) * 9) + 7).toNat = 9 * i + 7 by omega, show (((i : Int) * 9) + 4).toNat = 9 * i + 4 by omega, show (((i : Int) * 9) + 5).toNat = 9 * i + 5 by omega, h8, h5, h6, show (e.2.1 : Int) + ((ndl e).length : Int) + ((ndr e).length : Int) = ((e.2.1 + ((ndl e).length + (ndr e).length) : Nat) : Int) by omega]
  exact ⟨by omega, by omega, by omega, k⟩
/-- the TREE as show() looks at it -/
def TQ (sc : Nat) (ar : Nat → Int) (g : Nat) (l r : List Int) (vm mg : Nat) (nm : Nat → Int) (S : Ts) (m : Mi) (J : Mj) : Prop := GQ g l r vm nm m J ∧ TCm S m ∧ TV sc ar vm mg S ∧ gK sc ar l r vm ∧ ∀ v, v < vm → isN (nm v).toNat ∧ 0 < nm v
theorem AV_okw {a : An} {fil : Nat} (h : AV sc ar G fil a) : ∀ w, w ∈ a.2.2 → okw sc ar w := fun w hw => by
  obtain ⟨h1, h2, h3⟩ := h.2.1 w hw
  exact ⟨h1, by omega, h3⟩
theorem NV_okw {e : Nd} {fil : Nat} (h : NV sc ar G mg fil e) : ∀ w, w ∈ ndv e → okw sc ar w := fun w hw => by
  obtain ⟨h1, h2, h3⟩ := h.1.2.2.1 w hw
  exact ⟨h1, by omega, h3⟩
theorem okw_32 (hs : sc ≤ 16) {vs : List (List Int)} (h : ∀ w, w ∈ vs → okw sc ar w) : ∀ w, w ∈ vs → ∀ c, c ∈ w → c < 32 := fun w hw c hc => by
  have := ((h w hw).2.2 c hc).2
  omega
theorem c_showEquation {k : Int} {l r : List Int} {vm : Nat} {S : Ts} {st : Int} (hp : PP P) (hb : b = 54 ∨ b = 155) (hP : P 1 8 = some b) (hg : P 38 2 = some g) (hgo : g = 39 ∨ g = 256) (har : arK sc ar) (hB : BN b Sn sc m J) (hA : BA b sc ar m) (hz : Zr k) (hst : m 38 8 = st) (hs01 : st = 0 ∨ st = 1) (zn : Zr (m 38 11)) (hT : st = 1 → TQ sc ar g l r vm mg nm S m J) {post : Int → Mi → Mj → Mp → Prop} (k0 : (st = 1 → k < 0 ∨ (S.1.length : Int) ≤ k) → post (-1) m J P) (k1 : st = 1 → ∀ e, S.1[k.toNat]? = some e → 0 ≤ k → ∀ m' J', WC (oEq (ayw ar) Sn nm (ndl e) (ndr e) (ndv e)) m' J' → wcF m J m' J' → post ((oEq (ayw ar) Sn nm (ndl e) (ndr e) (ndv e)).1.length : Int) m' J' P) : Ci X (d + 5) 130 [.ref 1, .int (iz k)] m J P post := by
  have kb := kd_book hb
  have kg := (SP_kd hgo).1
  have hs := har.1
  have kS : am_kd an_K 45 = some (.inr (0, 30000)) := by decide +kernel
  refine Ci.of rfl rfl rfl (b_Nh_showEquation_0 k m J P hp post ?_)
  refine c_hasNode hp hz (by rw [hst]; rcases hs01 with h | h <;> rw [h] <;> constructor <;> omega) zn (fun hh => ⟨hp, zr0, fun g => absurd rfl g, fun _ => k0 fun h1 => ?_⟩) (fun hh => ⟨hp, zr1, fun _ => ?_, fun g => absurd (by omega) g⟩)
  · rcases hh with h | h | h
    · omega
    · exact Or.inl h
    · rw [(hT h1).2.1.1.1] at h
      exact Or.inr h
  · have h1 : st = 1 := by omega
    obtain ⟨hQ, hC, hV, hK, hnm⟩ := hT h1
    have hb1 := hV.1
    simp only [tcl] at hb1
    obtain ⟨i, rfl⟩ := Int.eq_ofNat_of_zero_le (show 0 ≤ k by omega)
    have hi : i < S.1.length := by have := hh.2.2; rw [hC.1.1] at this; omega
    have he : S.1[i]? = some S.1[i] := List.getElem?_eq_getElem hi
    generalize S.1[i] = e at he
    have k1' := k1 h1 e he (by omega)
    have hN := hV.2.2.1 e (gl_lt he).2
    have hok := hN.1
    have hfit := hN.2.2.1
    have hNC := hC.2.1 i e he
    have hk := hok.2.1
    have h800 := ng_800 hok
    have hln := ng_len (l := ndl e) (r := ndr e) (vs := ndv e)
    have hge : (ndg e).length = (ngr (ndl e) (ndr e) (ndv e)).length := rfl
    have hrow : Ro m 45 e.2.1 (ndl e ++ (ndr e ++ (ndv e).flatten)) := hNC.2
    obtain ⟨hr1, hr2⟩ := Ro_app.mp hrow
    obtain ⟨hr2, hr3⟩ := Ro_app.mp hr2
    have hg6 := hV.2.1.1
    have hGv := hN.2.1
    refine c_beginPage hp (fun m1 J1 a1 a2 => ⟨hp, ?_⟩)
    have N1 : NC i e m1 := NC_fr hNC (fun k _ _ => a2.1 _ _ (by omega) (by omega) (by omega)) fun k _ _ => a2.1 _ _ (by omega) (by omega) (by omega)
    refine c_valuesStart (e := e) hp (by omega) N1 ⟨hp, g, hg, kg, b, hP, kb, ?_⟩
    have tl : tln (ndv e) = (ndv e).flatten.length := tln_flat
    have okk := NV_okw hN
    refine c_nameValues (d := d + 2) (x := 45) (nx := 30000) (f := e.2.1 + ((ndl e).length + (ndr e).length)) (N := vm) (vs := ndv e) (nm := nm) hp hb (BA_wc hA hb hs a2) hs kS (by omega) kg (by omega) (by omega) ((a2.1 _ _ (by omega) (by omega) (by omega)).trans hQ.1.2.2) (fun v hv => (a2.2 _ _ (by omega)).trans (hQ.2.2 v hv)) hnm (by omega) (by omega) okk (Ro_RCl (Ro_fr (by rw [show e.2.1 + ((ndl e).length + (ndr e).length) = e.2.1 + (ndl e).length + (ndr e).length by omega]; exact hr3) fun k _ _ => a2.1 _ _ (by omega) (by omega) (by omega)) (okw_32 hs okk)) a1 (fun J2 b1 b2 => ⟨hp, ?_⟩)
    have F2 : wcF m J m1 J2 := wcF_trans a2 ⟨fun _ _ _ _ _ => rfl, b2⟩
    refine c_nodeStart (e := e) hp (by omega) N1 ⟨hp, ?_⟩
    have hL := nvL_ok (nm := nm) (N := vm) hnm (vs := ndv e) (v := 0) (L := fun _ => 0) (by omega) fun u => ⟨Int.le_refl 0, fun g => absurd g (Int.lt_irrefl 0)⟩
    have g64 : ∀ c, c ∈ ndl e ++ ndr e → c < 64 := fun c hc => (hok.2.2.2 c hc).1.2.1
    refine c_showSides (d := d) (x := 45) (nx := 30000) (f := e.2.1) (n := 0) (l := (ndl e).map pln) (r := (ndr e).map pln) hp hb hP (BN_wc hB hb F2) (BA_wc hA hb hs F2) kS (by omega) (by omega) (by omega) (by rw [List.length_map, List.length_map]; omega) (by rw [List.length_map, List.length_map]; omega) (fun c hc => pln_gq hok.2.2.2 c (by rw [List.map_append]; exact hc)) ⟨ct_map (fun c _ => pln_ay) hok.1.1, ct_map (fun c _ => pln_ay) hok.1.2⟩ (RC_pln (Ro_fr hr1 fun k _ _ => F2.1 _ _ (by omega) (by omega) (by omega)) fun c hc => g64 c (List.mem_append_left _ hc)) (by rw [List.length_map]; exact RC_pln (Ro_fr hr2 fun k _ _ => F2.1 _ _ (by omega) (by omega) (by omega)) fun c hc => g64 c (List.mem_append_right _ hc)) b1 ⟨⟨Nat.le_refl _, Nat.le_refl _, by omega⟩, fun u => ⟨(hL u).2, (hL u).1⟩⟩ (by omega) (fun m3 J3 u1 u2 => ⟨hp, k1' m3 J3 u1 (wcF_trans F2 u2)⟩)
/-- kept PAIRS, looked up -/
theorem PKr_get : ∀ {K : List (Nat × Nat × Nat × Int)} {k i : Nat} {e : Nat × Nat × Nat × Int}, PKr m k K → K[i]? = some e → m 37 (4 * (k + i)) = (e.1 : Int) ∧ m 37 (4 * (k + i) + 1) = (e.2.1 : Int) ∧ m 37 (4 * (k + i) + 2) = (e.2.2.1 : Int) ∧ m 37 (4 * (k + i) + 3) = e.2.2.2
  | [], _, _, _, _, h => by cases h
  | x :: K, k, 0, e, h, h2 => by
    have : x = e := Option.some.inj h2
    subst this
    exact h.1
  | x :: K, k, i + 1, e, h, h2 => by
    have := PKr_get (k := k + 1) h.2 (show K[i]? = some e from h2)
    rw [show k + (i + 1) = k + 1 + i by omega]
    exact this
/-- what is true of a kept PAIR -/
def pkG (ay : Int → Nat) (N : Nat) (Lf Rf : Nat → List Int) (e : Nat × Nat × Nat × Int) : Prop := e.1 < N ∧ e.2.2.1 < N ∧ e.2.1 < (Lf e.1).length ∧ cl (Lf e.1) e.2.1 = cl (Lf e.2.2.1) 0 ∧ ∃ Q, ovl ay (Lf e.1) (Rf e.1) (Lf e.2.2.1) (Rf e.2.2.1) e.2.1 = some Q
end CSW
