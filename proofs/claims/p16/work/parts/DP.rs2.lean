/-! show() in the reference: NODES and ANSWERS -/
section RS2
variable {X : aX} {d : Nat} {P : Mp} {J J' : Mj} {m m' m0 : Mi} {Sn : Nat → Nat} {sc G mg N : Nat} {ar : Nat → Int} {R : Nat → Mi} {nm : Nat → Int} {Lf Rf : Nat → List Int}
/-- the TREE as the reference's show() looks at it -/
def TQR (sc : Nat) (ar : Nat → Int) (vm mg : Nat) (nm : Nat → Int) (S : Ts) (m : Mi) (J : Mj) : Prop := (m 262 101 = (vm : Int) ∧ ∀ v, v < vm → J 322 v = rN (nm v).toNat) ∧ TR S m ∧ TV sc ar vm mg S ∧ ∀ v, v < vm → isN (nm v).toNat ∧ 0 < nm v
theorem okw_64 (hs : sc ≤ 16) {vs : List (List Int)} (h : ∀ w, w ∈ vs → okw sc ar w) : ∀ w, w ∈ vs → ∀ c, c ∈ w → c < 64 := fun w hw c hc => by
  have := ((h w hw).2.2 c hc).2
  omega
theorem NR_wr {i : Nat} {e : Nd} (h : NR i e m) (f : wrF_ m J m' J') : NR i e m' := NR_fr h fun a k g1 g2 => f.1 a k (by omega) (by omega) (by omega) (by omega)
theorem AR_wr {i : Nat} {a : An} (h : AR i a m) (f : wrF_ m J m' J') : AR i a m' := AR_fr h fun a k g1 g2 => f.1 a k (by omega) (by omega) (by omega) (by omega)
/-- VALUES of a NODE stand behind its sides -/
theorem NR_vals {i : Nat} {e : Nd} (h : NR i e m) : Ro m 323 (e.2.1 + ((ndl e).length + (ndr e).length)) (ndv e).flatten ∧ Ro m 323 e.2.1 ((ndl e).map c64) ∧ Ro m 323 (e.2.1 + (ndl e).length) ((ndr e).map c64) := by
  obtain ⟨_, _, hr⟩ := h
  obtain ⟨h1, h2⟩ := Ro_app.mp hr
  obtain ⟨h2, h3⟩ := Ro_app.mp h2
  rw [List.length_map] at h2 h3
  rw [List.length_map] at h3
  refine ⟨?_, h1, h2⟩
  rw [show e.2.1 + ((ndl e).length + (ndr e).length) = e.2.1 + (ndl e).length + (ndr e).length by omega]
  exact h3
/-- VALUES of a NODE -/
theorem r_showNV {k : Int} {vm : Nat} {S : Ts} {st : Int} (hp : PP P) (har : arK sc ar) (hRK : RK sc Sn ar m J) (hz : Zr k) (hst : m 262 93 = st) (hs01 : st = 0 ∨ st = 1) (zn : Zr (m 262 96)) (hT : st = 1 → TQR sc ar vm mg nm S m J) {post : Int → Mi → Mj → Mp → Prop} (k0 : (st = 1 → k < 0 ∨ (S.1.length : Int) ≤ k) → post (-1) m J P) (k1 : st = 1 → ∀ e, S.1[k.toNat]? = some e → 0 ≤ k → ∀ m' J', WR (oVal (ayw ar) Sn nm (ndv e)) m' J' → wrF_ m J m' J' → post ((oVal (ayw ar) Sn nm (ndv e)).1.length : Int) m' J' P) : Ci X (d + 6) 215 [.ref 262, .int (iz 3), .int (iz k)] m J P post := by
  have hs := har.1
  have kC : am_kd an_K 323 = some (.inr (0, 40000)) := by decide +kernel
  have kV : am_kd an_K 333 = some (.inr (0, 6000)) := by decide +kernel
  have kG : am_kd an_K 322 = some (.inr (3, 6)) := by decide +kernel
  refine Ci.of rfl rfl rfl (b_Mdl_show_0 (d := d + 1) 3 k m J P hp post ⟨by constructor <;> omega, fun _ => ⟨by constructor <;> omega, fun _ => ⟨by constructor <;> omega, fun g => absurd g (by omega), fun _ => ⟨by constructor <;> omega, fun g => absurd rfl g, fun _ => ?_⟩⟩, fun g => absurd (by omega) g⟩, fun g => absurd (by omega) g⟩)
  refine r_isNode hp hz (by show Zr (m 262 93); rw [show m 262 93 = st from hst]; rcases hs01 with h | h <;> rw [h] <;> constructor <;> omega) zn (fun hh => ⟨hp, zr0, fun g => absurd rfl g, fun _ => k0 fun h1 => ?_⟩) (fun hh => ⟨hp, zr1, fun _ => ?_, fun g => absurd (by omega) g⟩)
  · rcases hh with h | h | h
    · rw [show m 262 93 = st from hst] at h; omega
    · exact Or.inl h
    · rw [show m 262 96 = _ from (hT h1).2.1.1.1] at h
      exact Or.inr h
  · have h1 : st = 1 := by have := hh.1; rw [show m 262 93 = st from hst] at this; omega
    obtain ⟨⟨hgv, hgn⟩, hR, hV, hnm⟩ := hT h1
    have hb1 := hV.1
    simp only [tcl] at hb1
    obtain ⟨i, rfl⟩ := Int.eq_ofNat_of_zero_le (show 0 ≤ k by omega)
    have hi : i < S.1.length := by have := hh.2.2; rw [show m 262 96 = _ from hR.1.1] at this; omega
    have he : S.1[i]? = some S.1[i] := List.getElem?_eq_getElem hi
    generalize S.1[i] = e at he
    have k1' := k1 h1 e he (by omega)
    have hN := hV.2.2.1 e (gl_lt he).2
    have hok := hN.1
    have hfit := hN.2.2.1
    have hNR := hR.2.1 i e he
    have hk := hok.2.1
    have h800 := ng_800 hok
    have hln := ng_len (l := ndl e) (r := ndr e) (vs := ndv e)
    have hge : (ndg e).length = (ngr (ndl e) (ndr e) (ndv e)).length := rfl
    have hg6 := hV.2.1.1
    have hGv := hN.2.1
    have okk := NV_okw hN
    have tl : tln (ndv e) = (ndv e).flatten.length := tln_flat
    refine r_beginOut hp (fun m1 J1 a1 a2 => ⟨hp, ?_⟩)
    have N1 := NR_wr hNR a2
    refine r_valueFrom (e := e) (v := 0) hp (by omega) N1 (Nat.zero_le _) (by omega) (by omega) ⟨hp, by constructor <;> omega, fun g => absurd rfl g, fun _ => ?_⟩
    rw [show m1 262 101 = (vm : Int) from (a2.1 _ _ (by omega) (by omega) (by omega) (by omega)).trans hgv, show (6 * (i : Int)) = ((6 * i : Nat) : Int) by omega]
    simp only [List.take_zero, List.flatten_nil, List.length_nil, Nat.add_zero]
    refine r_showValues (d := d + 1) (x := 323) (nx := 40000) (y := 333) (ny := 6000) (z := 322) (nz := 6) (g0 := 6 * i) (N := vm) (vs := ndv e) (nm := nm) hp (RK_wr hRK a2) kC (by omega) (by omega) kV (by omega) (by omega) kG (by omega) (by omega) (by omega) (by omega) (by omega) (fun v hv => N1.2.1 v hv) (fun v hv => (a2.2 _ _ (by omega)).trans (hgn v hv)) hnm (by omega) (by omega) okk (Ro_RDl (NR_vals N1).1 (okw_64 hs okk)) a1 (by omega) (fun m2 J2 u1 u2 => ⟨hp, ?_⟩)
    rw [show m2 262 136 = _ from u1.1.1]
    exact k1' m2 J2 u1 (wrF__trans a2 u2)
/-- VALUES of an ANSWER -/
theorem r_showAV {k : Int} {vm : Nat} {S : Ts} {st : Int} (hp : PP P) (har : arK sc ar) (hRK : RK sc Sn ar m J) (hz : Zr k) (hst : m 262 93 = st) (hs01 : st = 0 ∨ st = 1) (zn : Zr (m 262 98)) (hT : st = 1 → TQR sc ar vm mg nm S m J) {post : Int → Mi → Mj → Mp → Prop} (k0 : (st = 1 → k < 0 ∨ (S.2.1.length : Int) ≤ k) → post (-1) m J P) (k1 : st = 1 → ∀ a, S.2.1[k.toNat]? = some a → 0 ≤ k → ∀ m' J', WR (oVal (ayw ar) Sn nm a.2.2) m' J' → wrF_ m J m' J' → post ((oVal (ayw ar) Sn nm a.2.2).1.length : Int) m' J' P) : Ci X (d + 6) 215 [.ref 262, .int (iz 4), .int (iz k)] m J P post := by
  have hs := har.1
  have kC : am_kd an_K 323 = some (.inr (0, 40000)) := by decide +kernel
  have kV : am_kd an_K 336 = some (.inr (0, 1800)) := by decide +kernel
  have kG : am_kd an_K 322 = some (.inr (3, 6)) := by decide +kernel
  refine Ci.of rfl rfl rfl (b_Mdl_show_0 (d := d + 1) 4 k m J P hp post ⟨by constructor <;> omega, fun _ => ⟨by constructor <;> omega, fun _ => ⟨by constructor <;> omega, fun g => absurd g (by omega), fun _ => ⟨by constructor <;> omega, fun _ => ⟨by constructor <;> omega, fun g => absurd rfl g, fun _ => ?_⟩, fun g => absurd (by omega) g⟩⟩, fun g => absurd (by omega) g⟩, fun g => absurd (by omega) g⟩)
  refine r_isAnswer hp hz (by show Zr (m 262 93); rw [show m 262 93 = st from hst]; rcases hs01 with h | h <;> rw [h] <;> constructor <;> omega) zn (fun hh => ⟨hp, zr0, fun g => absurd rfl g, fun _ => k0 fun h1 => ?_⟩) (fun hh => ⟨hp, zr1, fun _ => ?_, fun g => absurd (by omega) g⟩)
  · rcases hh with h | h | h
    · rw [show m 262 93 = st from hst] at h; omega
    · exact Or.inl h
    · rw [show m 262 98 = _ from (hT h1).2.1.1.2.1] at h
      exact Or.inr h
  · have h1 : st = 1 := by have := hh.1; rw [show m 262 93 = st from hst] at this; omega
    obtain ⟨⟨hgv, hgn⟩, hR, hV, hnm⟩ := hT h1
    have hb1 := hV.1
    simp only [tcl] at hb1
    obtain ⟨i, rfl⟩ := Int.eq_ofNat_of_zero_le (show 0 ≤ k by omega)
    have hi : i < S.2.1.length := by have := hh.2.2; rw [show m 262 98 = _ from hR.1.2.1] at this; omega
    have he : S.2.1[i]? = some S.2.1[i] := List.getElem?_eq_getElem hi
    generalize S.2.1[i] = a at he
    have k1' := k1 h1 a he (by omega)
    have hA := hV.2.2.2 a (gl_lt he).2
    have hfit := hA.2.2.1
    have hg6 := hV.2.1.1
    have hGv := hA.1
    have okk := AV_okw hA
    have fl := flat_len (B := 100) (vs := a.2.2) fun w hw => (hA.2.1 w hw).2.1
    have tl : tln a.2.2 = a.2.2.flatten.length := tln_flat
    refine r_beginOut hp (fun m1 J1 a1 a2 => ⟨hp, by omega, ?_⟩)
    have A1 := AR_wr (hR.2.2 i a he) a2
    rw [show m1 262 101 = (vm : Int) from (a2.1 _ _ (by omega) (by omega) (by omega) (by omega)).trans hgv, show (6 * (i : Int)) = ((6 * i : Nat) : Int) by omega, Int.toNat_natCast, show m1 335 i = (a.2.1 : Int) from A1.2.1]
    refine r_showValues (d := d + 1) (x := 323) (nx := 40000) (y := 336) (ny := 1800) (z := 322) (nz := 6) (f := a.2.1) (g0 := 6 * i) (N := vm) (vs := a.2.2) (nm := nm) hp (RK_wr hRK a2) kC (by omega) (by omega) kV (by omega) (by omega) kG (by omega) (by omega) (by omega) (by omega) (by omega) (fun v hv => A1.2.2.1 v hv) (fun v hv => (a2.2 _ _ (by omega)).trans (hgn v hv)) hnm (by omega) (by omega) okk (Ro_RDl A1.2.2.2 (okw_64 hs okk)) a1 (by omega) (fun m2 J2 u1 u2 => ⟨hp, ?_⟩)
    rw [show m2 262 136 = _ from u1.1.1]
    exact k1' m2 J2 u1 (wrF__trans a2 u2)
/-- a NODE's EQUATION -/
theorem r_showEq {k : Int} {vm : Nat} {S : Ts} {st : Int} (hp : PP P) (har : arK sc ar) (hRK : RK sc Sn ar m J) (hz : Zr k) (hst : m 262 93 = st) (hs01 : st = 0 ∨ st = 1) (zn : Zr (m 262 96)) (hT : st = 1 → TQR sc ar vm mg nm S m J) {post : Int → Mi → Mj → Mp → Prop} (k0 : (st = 1 → k < 0 ∨ (S.1.length : Int) ≤ k) → post (-1) m J P) (k1 : st = 1 → ∀ e, S.1[k.toNat]? = some e → 0 ≤ k → ∀ m' J', WR (oEq (ayw ar) Sn nm (ndl e) (ndr e) (ndv e)) m' J' → wrF_ m J m' J' → post ((oEq (ayw ar) Sn nm (ndl e) (ndr e) (ndv e)).1.length : Int) m' J' P) : Ci X (d + 6) 215 [.ref 262, .int (iz 2), .int (iz k)] m J P post := by
  have hs := har.1
  have kC : am_kd an_K 323 = some (.inr (0, 40000)) := by decide +kernel
  have kV : am_kd an_K 333 = some (.inr (0, 6000)) := by decide +kernel
  have kG : am_kd an_K 322 = some (.inr (3, 6)) := by decide +kernel
  refine Ci.of rfl rfl rfl (b_Mdl_show_0 (d := d + 1) 2 k m J P hp post ⟨by constructor <;> omega, fun _ => ⟨by constructor <;> omega, fun _ => ⟨by constructor <;> omega, fun _ => ?_, fun g => absurd rfl g⟩, fun g => absurd (by omega) g⟩, fun g => absurd (by omega) g⟩)
  refine r_isNode hp hz (by show Zr (m 262 93); rw [show m 262 93 = st from hst]; rcases hs01 with h | h <;> rw [h] <;> constructor <;> omega) zn (fun hh => ⟨hp, zr0, fun g => absurd rfl g, fun _ => k0 fun h1 => ?_⟩) (fun hh => ⟨hp, zr1, fun _ => ?_, fun g => absurd (by omega) g⟩)
  · rcases hh with h | h | h
    · rw [show m 262 93 = st from hst] at h; omega
    · exact Or.inl h
    · rw [show m 262 96 = _ from (hT h1).2.1.1.1] at h
      exact Or.inr h
  · have h1 : st = 1 := by have := hh.1; rw [show m 262 93 = st from hst] at this; omega
    obtain ⟨⟨hgv, hgn⟩, hR, hV, hnm⟩ := hT h1
    have hb1 := hV.1
    simp only [tcl] at hb1
    obtain ⟨i, rfl⟩ := Int.eq_ofNat_of_zero_le (show 0 ≤ k by omega)
    have hi : i < S.1.length := by have := hh.2.2; rw [show m 262 96 = _ from hR.1.1] at this; omega
    have he : S.1[i]? = some S.1[i] := List.getElem?_eq_getElem hi
    generalize S.1[i] = e at he
    have k1' := k1 h1 e he (by omega)
    have hN := hV.2.2.1 e (gl_lt he).2
    have hok := hN.1
    have hfit := hN.2.2.1
    have hNR := hR.2.1 i e he
    have hk := hok.2.1
    have h800 := ng_800 hok
    have hln := ng_len (l := ndl e) (r := ndr e) (vs := ndv e)
    have hge : (ndg e).length = (ngr (ndl e) (ndr e) (ndv e)).length := rfl
    have hg6 := hV.2.1.1
    have hGv := hN.2.1
    have okk := NV_okw hN
    have tl : tln (ndv e) = (ndv e).flatten.length := tln_flat
    refine r_beginOut hp (fun m1 J1 a1 a2 => ⟨hp, ?_⟩)
    have N1 := NR_wr hNR a2
    refine r_valueFrom (e := e) (v := 0) hp (by omega) N1 (Nat.zero_le _) (by omega) (by omega) ⟨hp, by constructor <;> omega, fun _ => ?_, fun g => absurd (by omega) g⟩
    rw [show m1 262 101 = (vm : Int) from (a2.1 _ _ (by omega) (by omega) (by omega) (by omega)).trans hgv, show (6 * (i : Int)) = ((6 * i : Nat) : Int) by omega]
    simp only [List.take_zero, List.flatten_nil, List.length_nil, Nat.add_zero]
    refine r_namesOf (x := 323) (nx := 40000) (y := 333) (ny := 6000) (z := 322) (nz := 6) (g0 := 6 * i) (N := vm) (vs := ndv e) (nm := nm) hp kC (by omega) kV (by omega) kG (by omega) (by omega) (by omega) (by omega) (by omega) (fun v hv => N1.2.1 v hv) (fun v hv => (a2.2 _ _ (by omega)).trans (hgn v hv)) hnm (by omega) (by omega) okk (Ro_RDl (NR_vals N1).1 (okw_64 hs okk)) a1 (fun J2 b1 b2 => ⟨hp, by omega, by omega, ?_⟩)
    have F2 : wrF_ m J m1 J2 := wrF__trans a2 ⟨fun _ _ _ _ _ _ => rfl, b2⟩
    have hL := nvL_ok (nm := nm) (N := vm) hnm (vs := ndv e) (v := 0) (L := fun _ => 0) (by omega) fun u => ⟨Int.le_refl 0, fun g => absurd g (Int.lt_irrefl 0)⟩
    have g64 : ∀ c, c ∈ ndl e ++ ndr e → c < 64 := fun c hc => (hok.2.2.2 c hc).1.2.1
    obtain ⟨v1, v2, v3⟩ := NR_vals N1
    obtain ⟨⟨_, _, _, _, h5, h6, _, h8, _⟩, _, _⟩ := id N1
    rw [Int.toNat_natCast, h8, h5, show ((ndl e).length : Int) = (((ndl e).map pln).length : Int) by rw [List.length_map]]
    refine r_sides (d := d + 2) (post := fun m145 J146 P147 => PP P147 ∧ post (m145 262 136) m145 J146 P147) (xr := 323) (yr := 323) (nx := 40000) (ny := 40000) (f := e.2.1) (f2 := e.2.1 + (ndl e).length) (n := 0) (l := (ndl e).map pln) (r := (ndr e).map pln) hp (RK_wr hRK F2) kC (by omega) (by omega) kC (by omega) (by omega) (by rw [List.length_map]; omega) (by rw [List.length_map]; omega) (by rw [List.length_map, List.length_map]; omega) (fun c hc => pln_gq hok.2.2.2 c (by rw [List.map_append]; exact hc)) ⟨ct_map (fun c _ => pln_ay) hok.1.1, ct_map (fun c _ => pln_ay) hok.1.2⟩ (RD_pln v2 fun c hc => g64 c (List.mem_append_left _ hc)) (RD_pln v3 fun c hc => g64 c (List.mem_append_right _ hc)) b1 ⟨⟨Nat.le_refl _, Nat.le_refl _, by omega⟩, fun u => ⟨(hL u).2, (hL u).1⟩⟩ (by omega) (fun m3 z1 z2 => ⟨by omega, by omega, by omega, ?_⟩) (fun m4 u1 u2 => ⟨hp, ?_⟩)
    · have N3 := NR_wr (J := J2) (J' := J2) N1 z1
      obtain ⟨⟨_, _, _, _, h5', h6', _, h8', _⟩, _, _⟩ := N3
      rw [h8', h5', h6', show (e.2.1 : Int) + ((ndl e).length : Int) = ((e.2.1 + (ndl e).length : Nat) : Int) by omega, show ((ndr e).length : Int) = (((ndr e).map pln).length : Int) by rw [List.length_map]]
      exact z2
    · rw [show m4 262 136 = _ from u1.1.1]
      exact k1' m4 J2 u1 (wrF__trans F2 u2)
end RS2
