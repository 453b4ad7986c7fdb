/-! narrowing, pure -/
section NAR
variable {m m' : Mi} {ar : Nat → Int} {sc G mg : Nat}
/-- the graph of a NODE and a RULE -/
abbrev ngx (L lf rf : List Int) : List Int := L ++ adl (vmx L) lf rf
noncomputable def nov (ay : Int → Nat) (L lf rf : List Int) (p : Nat) : Option (Nat → Nat) := uni ay (cl (ngx L lf rf)) (nl ay (ngx L lf rf)) (ngx L lf rf).length p L.length
/-- what narrowing writes: a side, VALUES -/
def twp (ay : Int → Nat) (mg : Nat) (L lf rf : List Int) (p : Nat) (R : Nat → Nat) (a : Nat) : Option (List Int) := pt ay (cl (ngx L lf rf)) (nl ay (ngx L lf rf)) R (emc (cl (ngx L lf rf)) (mg : Int)) p (L.length + lf.length) 100 [(a, false)]
def twv (ay : Int → Nat) (L lf rf : List Int) (p : Nat) (R : Nat → Nat) (a c : Nat) : Option (List (List Int)) := pvs ay (cl (ngx L lf rf)) (nl ay (ngx L lf rf)) R (emc (cl (ngx L lf rf)) 0) p (L.length + lf.length) c a
/-- a NODE more -/
noncomputable def tAdd (ay : Int → Nat) (S : Ts) (o : Int × Int × Int × Int) (l r : List Int) (vs : List (List Int)) : Ts × Bool :=
  if 1000 ≤ S.1.length ∨ 30000 < tcl S + 4 + (ngr l r vs).length then ((S.1, S.2.1, S.2.2.1, S.2.2.2.1, S.2.2.2.2.1, true), false)
  else tLook ay S.1 (o, S.2.2.1, (l, r, vs), -1) S.2.1 (S.2.2.1 + (ngr l r vs).length) S.2.2.2.1 S.2.2.2.2.1 S.2.2.2.2.2
def tLst (S : Ts) : Ts := (S.1, S.2.1, S.2.2.1, S.2.2.2.1, S.2.2.2.2.1 + 1, S.2.2.2.2.2)
/-- narrowing by one RULE at one PLACE -/
noncomputable def tNar (ay : Int → Nat) (mg : Nat) (S : Ts) (i : Nat) (e : Nd) (p u : Nat) (lf rf : List Int) : Ts × Bool :=
  match nov ay (ndg e) lf rf p with
  | none => (S, true)
  | some R => match twp ay mg (ndg e) lf rf p R 0 with
    | none => (tLst S, true)
    | some wl => match twp ay mg (ndg e) lf rf p R (ndl e).length with
      | none => (tLst S, true)
      | some wr => match twv ay (ndg e) lf rf p R ((ndl e).length + (ndr e).length) (ndv e).length with
        | none => (tLst S, true)
        | some ls => tAdd ay S ((i : Int), (p : Int), (u : Int), e.1.2.2.2 + 1) (nbr [] wl).1 (nbr (nbr [] wl).2 wr).1 (nbl (nbr (nbr [] wl).2 wr).2 ls)
variable {ay : Int → Nat} {S : Ts} {e : Nd} {i p u : Nat} {lf rf : List Int} {R : Nat → Nat}
theorem tNar_0 (h : nov ay (ndg e) lf rf p = none) : tNar ay mg S i e p u lf rf = (S, true) := by
  unfold tNar
  rw [h]
theorem tNar_1 (h : nov ay (ndg e) lf rf p = some R) (h1 : twp ay mg (ndg e) lf rf p R 0 = none) : tNar ay mg S i e p u lf rf = (tLst S, true) := by
  unfold tNar
  simp only [h, h1]
theorem tNar_2 {wl : List Int} (h : nov ay (ndg e) lf rf p = some R) (h1 : twp ay mg (ndg e) lf rf p R 0 = some wl) (h2 : twp ay mg (ndg e) lf rf p R (ndl e).length = none) : tNar ay mg S i e p u lf rf = (tLst S, true) := by
  unfold tNar
  simp only [h, h1, h2]
theorem tNar_3 {wl wr : List Int} (h : nov ay (ndg e) lf rf p = some R) (h1 : twp ay mg (ndg e) lf rf p R 0 = some wl) (h2 : twp ay mg (ndg e) lf rf p R (ndl e).length = some wr) (h3 : twv ay (ndg e) lf rf p R ((ndl e).length + (ndr e).length) (ndv e).length = none) : tNar ay mg S i e p u lf rf = (tLst S, true) := by
  unfold tNar
  simp only [h, h1, h2, h3]
theorem tNar_4 {wl wr : List Int} {ls : List (List Int)} (h : nov ay (ndg e) lf rf p = some R) (h1 : twp ay mg (ndg e) lf rf p R 0 = some wl) (h2 : twp ay mg (ndg e) lf rf p R (ndl e).length = some wr) (h3 : twv ay (ndg e) lf rf p R ((ndl e).length + (ndr e).length) (ndv e).length = some ls) : tNar ay mg S i e p u lf rf = tAdd ay S ((i : Int), (p : Int), (u : Int), e.1.2.2.2 + 1) (nbr [] wl).1 (nbr (nbr [] wl).2 wr).1 (nbl (nbr (nbr [] wl).2 wr).2 ls) := by
  unfold tNar
  simp only [h, h1, h2, h3]
/-- the graph of a NODE and a RULE is good -/
theorem ngx_G {l r : List Int} {vs : List (List Int)} (har : arK sc ar) (h : okN sc ar l r vs) (hZ : ZK sc ar lf rf) : Gok (ayw ar) (cl (ngx (ngr l r vs) lf rf)) (nl (ayw ar) (ngx (ngr l r vs) lf rf)) (ngx (ngr l r vs) lf rf).length ∧ Amt (ayw ar) (cl (ngx (ngr l r vs) lf rf)) (ngx (ngr l r vs) lf rf).length (fun z => z) ≤ 880 := GokA har (ng_ct h) (ng_800 h).1 (ng_gd har.1 h) hZ
theorem ngx_len {L : List Int} : (ngx L lf rf).length = L.length + (lf.length + rf.length) := by
  rw [List.length_append, adl_len]
theorem ngx_gd {l r : List Int} {vs : List (List Int)} (har : arK sc ar) (h : okN sc ar l r vs) (hZ : ZK sc ar lf rf) : ∀ c, c ∈ ngx (ngr l r vs) lf rf → gd sc c ∧ -808 ≤ c := fun c hc => by
  have hvx : vmx (ngr l r vs) ≤ 800 := vmx_le (by omega) fun c hc => by have := (ng_gd har.1 h c hc).2; omega
  rcases List.mem_append.mp hc with q | q
  · have := ng_gd har.1 h c q
    exact ⟨this.1, by omega⟩
  · exact adl_mem har.1 hZ.2.1 q vmx_0 hvx
/-- where VALUES stand there -/
theorem ngx_kid {l r : List Int} {vs : List (List Int)} (h : okN sc ar l r vs) {i : Nat} (hi : i ≤ vs.length) : kid (nl (ayw ar) (ngx (ngr l r vs) lf rf)) (l.length + r.length) i = l.length + r.length + (vs.take i).flatten.length := by
  have := kid_flat (ay := ayw ar) (A := l ++ r) (E := adl (vmx (ngr l r vs)) lf rf) (vs := vs) (fun w hw => (h.2.2.1 w hw).1) hi
  have e : l ++ r ++ (vs.flatten ++ adl (vmx (ngr l r vs)) lf rf) = ngx (ngr l r vs) lf rf := by
    show _ = ngr l r vs ++ _
    unfold ngr
    simp only [List.append_assoc]
  rw [e, List.length_append] at this
  exact this
theorem ngx_st {l r : List Int} {vs : List (List Int)} (h : okN sc ar l r vs) {i : Nat} (hi : i < vs.length) : kid (nl (ayw ar) (ngx (ngr l r vs) lf rf)) (l.length + r.length) i < (ngr l r vs).length ∧ l.length + r.length ≤ kid (nl (ayw ar) (ngx (ngr l r vs) lf rf)) (l.length + r.length) i := by
  have := flat_take_lt (fun w hw => (h.2.2.1 w hw).1) hi
  rw [ngx_kid h (by omega), ng_len]
  omega
/-- what is written is good -/
theorem twp_ok {l r : List Int} {vs : List (List Int)} (har : arK sc ar) (h : okN sc ar l r vs) (hZ : ZK sc ar lf rf) (hm : mg = 1 ∨ mg = 2) (hp : p < (ngr l r vs).length) (hR : nov (ayw ar) (ngr l r vs) lf rf p = some R) {a : Nat} {w : List Int} (ha : a < (ngx (ngr l r vs) lf rf).length) (hw : twp (ayw ar) mg (ngr l r vs) lf rf p R a = some w) : (ctt (ayw ar) w = some 1 ∧ w.length ≤ 100) ∧ ∀ v, v ∈ w → (0 ≤ v → v < 64 ∧ v % 32 < sc ∧ (mg = 2 → 32 ≤ v)) ∧ (v < 0 → -1 - v < vmx (ngr l r vs) + 8) := by
  obtain ⟨hG, _⟩ := ngx_G har h hZ
  have hgd := ngx_gd har h hZ
  have nr := ct_ne hZ.1.2
  have nl_ := ct_ne hZ.1.1
  have hln := ngx_len (L := ngr l r vs) (lf := lf) (rf := rf)
  obtain ⟨_, hO⟩ := uni_ok hG ayw_32 (by omega) (by omega) hR
  have hcd : ∀ c, c < (ngx (ngr l r vs) lf rf).length → 0 ≤ cl (ngx (ngr l r vs) lf rf) c → cl (ngx (ngr l r vs) lf rf) c < 64 ∧ cl (ngx (ngr l r vs) lf rf) c % 32 < sc := fun c hc h0 => by
    have := (hgd _ (cl_mem hc)).1
    exact ⟨this.2.1, this.2.2 h0⟩
  obtain ⟨i1, i2⟩ := pt_ok hG hO (em := emc (cl (ngx (ngr l r vs) lf rf)) (mg : Int)) (hole := p) (patch := (ngr l r vs).length + lf.length) (fun c w hc h0 => by
    unfold emc
    split
    · exact ayw_32 _ _ (by omega) h0 (by omega)
    · split
      · exact ayw_32 _ _ (by omega) h0 (by omega)
      · rfl) (by omega) 100 [(a, false)] w hw (fun e he => by rw [List.mem_singleton.mp he]; exact ha)
  refine ⟨⟨i1, pt_len hw⟩, fun v hv => ?_⟩
  rcases i2 v hv with ⟨c, w', hc, h0, e⟩ | ⟨z, hz, h8, e⟩
  · have := hcd c hc h0
    subst e
    unfold emc
    split
    · exact ⟨fun _ => ⟨by omega, by omega, fun _ => by omega⟩, fun _ => by omega⟩
    · split
      · exact ⟨fun _ => ⟨by omega, by omega, fun g => by omega⟩, fun _ => by omega⟩
      · exact ⟨fun _ => ⟨by omega, by omega, fun g => by omega⟩, fun _ => by omega⟩
  · refine ⟨fun g => by omega, fun _ => ?_⟩
    have := ocr_b (fun c hc => gvb (fun c hc => (hZ.2.1 c hc).2) c hc) hz h8 hG.1
    omega
theorem twv_ok {l r : List Int} {vs ls : List (List Int)} (har : arK sc ar) (h : okN sc ar l r vs) (hZ : ZK sc ar lf rf) (hp : p < (ngr l r vs).length) (hR : nov (ayw ar) (ngr l r vs) lf rf p = some R) (hw : twv (ayw ar) (ngr l r vs) lf rf p R (l.length + r.length) vs.length = some ls) : ls.length = vs.length ∧ okV sc ar (vmx (ngr l r vs) + 8) ls := by
  obtain ⟨hG, _⟩ := ngx_G har h hZ
  have hgd := ngx_gd har h hZ
  have nr := ct_ne hZ.1.2
  have nl_ := ct_ne hZ.1.1
  have hln := ngx_len (L := ngr l r vs) (lf := lf) (rf := rf)
  obtain ⟨_, hO⟩ := uni_ok hG ayw_32 (by omega) (by omega) hR
  exact pvs_ok har hG hO (fun c hc h0 => (hgd _ (cl_mem hc)).1.2.2 h0) (fun z hz h8 => by have := ocr_b (fun c hc => gvb (fun c hc => (hZ.2.1 c hc).2) c hc) hz h8 hG.1; omega) (Or.inl (by omega)) hw fun i hi => by have := (ngx_st (lf := lf) (rf := rf) h hi).1; omega
/-- the new NODE is good -/
theorem tnew_ok {wl wr : List Int} {ls : List (List Int)} {B : Int} (hl : ctt (ayw ar) wl = some 1 ∧ wl.length ≤ 100) (hr : ctt (ayw ar) wr = some 1 ∧ wr.length ≤ 100) (hls : ls.length ≤ 6 ∧ okV sc ar B ls) (hg : ∀ v, v ∈ wl ++ wr → 0 ≤ v → v < 64 ∧ v % 32 < sc ∧ (mg = 2 → 32 ≤ v)) : okN sc ar (nbr [] wl).1 (nbr (nbr [] wl).2 wr).1 (nbl (nbr (nbr [] wl).2 wr).2 ls) ∧ (mg = 2 → ∀ c, c ∈ (nbr [] wl).1 ++ (nbr (nbr [] wl).2 wr).1 → 0 ≤ c → 32 ≤ c) ∧ ngr (nbr [] wl).1 (nbr (nbr [] wl).2 wr).1 (nbl (nbr (nbr [] wl).2 wr).2 ls) = (nbr [] (wl ++ wr ++ ls.flatten)).1 ∧ (ngr (nbr [] wl).1 (nbr (nbr [] wl).2 wr).1 (nbl (nbr (nbr [] wl).2 wr).2 ls)).length = wl.length + wr.length + ls.flatten.length := by
  have fl := flat_len (B := 100) (vs := ls) fun w hw => (hls.2 w hw).2.1
  have hv : ∀ c, c < 0 → ayw ar c = 0 := fun c hc => by unfold ayw; rw [if_pos hc]
  have s1 := nbr_seen (l := wl) (seen := [])
  have s2 := nbr_seen (l := wr) (seen := (nbr [] wl).2)
  rw [List.length_nil] at s1
  have e : ngr (nbr [] wl).1 (nbr (nbr [] wl).2 wr).1 (nbl (nbr (nbr [] wl).2 wr).2 ls) = (nbr [] (wl ++ wr ++ ls.flatten)).1 := by
    unfold ngr
    rw [nbl_flat, List.append_assoc, nbr_app, nbr_app]
  have mem : ∀ c, c ∈ (nbr [] wl).1 ++ (nbr (nbr [] wl).2 wr).1 → (0 ≤ c ∧ c ∈ wl ++ wr) ∨ (c < 0 ∧ -800 ≤ c) := fun c hc => by
    rcases List.mem_append.mp hc with q | q
    · rcases nbr_mem q with g | g
      · exact Or.inl ⟨g.1, List.mem_append_left _ g.2⟩
      · rw [List.length_nil] at g
        exact Or.inr ⟨g.1, by omega⟩
    · rcases nbr_mem q with g | g
      · exact Or.inl ⟨g.1, List.mem_append_right _ g.2⟩
      · exact Or.inr ⟨g.1, by omega⟩
  refine ⟨⟨⟨?_, ?_⟩, ⟨?_, ?_, ?_⟩, ?_, fun c hc => ?_⟩, fun hm c hc h0 => ?_, e, ?_⟩
  · rw [ct_cong (nbr_ay hv)]; exact hl.1
  · rw [ct_cong (nbr_ay hv)]; exact hr.1
  · rw [nbr_len]; exact hl.2
  · rw [nbr_len]; exact hr.2
  · rw [nbl_len]; exact hls.1
  · exact nbl_ok hls.2 (by omega)
  · rcases mem c hc with g | g
    · have := hg c g.2 g.1
      exact ⟨⟨by omega, this.1, fun _ => this.2.1⟩, by omega⟩
    · exact ⟨⟨by omega, by omega, fun q => by omega⟩, g.2⟩
  · rcases mem c hc with g | g
    · exact (hg c g.2 h0).2.2 hm
    · omega
  · rw [e, nbr_len, List.length_append, List.length_append]
/-- narrowing keeps what is good -/
theorem tAdd_TV {o : Int × Int × Int × Int} {l r : List Int} {vs : List (List Int)} (har : arK sc ar) (hV : TV sc ar G mg S) (hN : okN sc ar l r vs) (hG : vs.length = G) (hm : mg = 2 → ∀ c, c ∈ l ++ r → 0 ≤ c → 32 ≤ c) : TV sc ar G mg (tAdd (ayw ar) S o l r vs).1 ∧ S.2.2.1 ≤ (tAdd (ayw ar) S o l r vs).1.2.2.1 ∧ S.1.length ≤ (tAdd (ayw ar) S o l r vs).1.1.length ∧ (tAdd (ayw ar) S o l r vs).1.2.2.2.1 = S.2.2.2.1 ∧ ∀ (i : Nat) (x : Nd), S.1[i]? = some x → (tAdd (ayw ar) S o l r vs).1.1[i]? = some x := by
  unfold tAdd
  split
  · exact ⟨hV, Nat.le_refl _, Nat.le_refl _, rfl, fun _ _ h => h⟩
  · rename_i g
    have ll : (S.1 ++ [(o, S.2.2.1, (l, r, vs), (-1 : Int))]).length = S.1.length + 1 := by rw [List.length_append]; rfl
    have hb := hV.1
    have V2 : TV sc ar G mg (S.1 ++ [(o, S.2.2.1, (l, r, vs), -1)], S.2.1, S.2.2.1 + (ngr l r vs).length, S.2.2.2.1, S.2.2.2.2.1, S.2.2.2.2.2) := by
      refine ⟨⟨?_, hb.2.1, ?_⟩, hV.2.1, fun x hx => ?_, fun x hx => AV_up (hV.2.2.2 x hx) (Nat.le_add_right _ _)⟩
      · show (S.1 ++ [(o, S.2.2.1, (l, r, vs), (-1 : Int))]).length ≤ 1000
        omega
      · simp only [tcl, ll] at g ⊢
        omega
      · rcases List.mem_append.mp hx with q | q
        · exact NV_up (hV.2.2.1 x q) (Nat.le_add_right _ _)
        · rw [List.mem_singleton.mp q]
          exact ⟨hN, hG, Nat.le_refl _, hm⟩
    obtain ⟨a1, a2, a3, a4, a5⟩ := tLook_TV har V2
    exact ⟨a1, by omega, by omega, a4, a5⟩
theorem tNar_TV (har : arK sc ar) (hV : TV sc ar G mg S) (he : S.1[i]? = some e) (hZ : ZK sc ar lf rf) (hp : p < (ndl e).length + (ndr e).length) : TV sc ar G mg (tNar (ayw ar) mg S i e p u lf rf).1 ∧ S.2.2.1 ≤ (tNar (ayw ar) mg S i e p u lf rf).1.2.2.1 ∧ S.1.length ≤ (tNar (ayw ar) mg S i e p u lf rf).1.1.length ∧ (tNar (ayw ar) mg S i e p u lf rf).1.2.2.2.1 = S.2.2.2.1 ∧ ∀ (j : Nat) (x : Nd), S.1[j]? = some x → (tNar (ayw ar) mg S i e p u lf rf).1.1[j]? = some x := by
  have hN := hV.2.2.1 e (gl_lt he).2
  have hpl : p < (ndg e).length := by
    have := ng_len (l := ndl e) (r := ndr e) (vs := ndv e)
    show p < (ngr (ndl e) (ndr e) (ndv e)).length
    omega
  have lst : TV sc ar G mg (tLst S) ∧ S.2.2.1 ≤ (tLst S).2.2.1 ∧ S.1.length ≤ (tLst S).1.length ∧ (tLst S).2.2.2.1 = S.2.2.2.1 ∧ ∀ (j : Nat) (x : Nd), S.1[j]? = some x → (tLst S).1[j]? = some x := ⟨hV, Nat.le_refl _, Nat.le_refl _, rfl, fun _ _ h => h⟩
  have nr := ct_ne hZ.1.2
  have hln := ngx_len (L := ngr (ndl e) (ndr e) (ndv e)) (lf := lf) (rf := rf)
  have n2 := ct_ne hN.1.1.2
  have hl2 := ng_len (l := ndl e) (r := ndr e) (vs := ndv e)
  rcases h0 : nov (ayw ar) (ndg e) lf rf p with _ | R
  · rw [tNar_0 h0]
    exact ⟨hV, Nat.le_refl _, Nat.le_refl _, rfl, fun _ _ h => h⟩
  · rcases h1 : twp (ayw ar) mg (ndg e) lf rf p R 0 with _ | wl
    · rw [tNar_1 h0 h1]; exact lst
    · rcases h2 : twp (ayw ar) mg (ndg e) lf rf p R (ndl e).length with _ | wr
      · rw [tNar_2 h0 h1 h2]; exact lst
      · rcases h3 : twv (ayw ar) (ndg e) lf rf p R ((ndl e).length + (ndr e).length) (ndv e).length with _ | ls
        · rw [tNar_3 h0 h1 h2 h3]; exact lst
        · rw [tNar_4 h0 h1 h2 h3]
          have k1 := twp_ok har hN.1 hZ hV.2.1.2 hpl h0 (by omega) h1
          have k2 := twp_ok har hN.1 hZ hV.2.1.2 hpl h0 (by omega) h2
          have k3 := twv_ok har hN.1 hZ hpl h0 h3
          have hv := hN.2.1
          have h6 := hV.2.1.1
          obtain ⟨w1, w2, _, _⟩ := tnew_ok (mg := mg) k1.1 k2.1 ⟨by omega, k3.2⟩ fun v hv h0 => by
            rcases List.mem_append.mp hv with q | q
            · exact (k1.2 v q).1 h0
            · exact (k2.2 v q).1 h0
          exact tAdd_TV har hV w1 (by rw [nbl_len]; omega) w2
end NAR
