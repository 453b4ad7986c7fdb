/-! narrows() of the reference -/
section RNW
variable {X : aX} {d : Nat} {P : Mp} {J : Mj} {m m' : Mi} {ar : Nat → Int} {sc G mg N : Nat} {Lf Rf : Nat → List Int} {lf rf : List Int} {R : Nat → Nat}
/-- marks of a NODE's and a RULE's cells -/
def mkx (L : List Int) (c : Nat) : Int := if c < L.length then mkn L c else 1
theorem mkx_0 {L : List Int} {c : Nat} : 0 ≤ mkx L c := by
  unfold mkx
  split
  · exact mkn_0
  · omega
theorem rel_f1 {l : List Int} {n vn : Nat} {vv : Int} {mk : Nat → Int} (hs : sc ≤ 16) (hv : vv = (vn : Int)) (h : ∀ c, c ∈ l → gp sc c ∧ -8 ≤ c) (hm : ∀ q, mk (n + q) = 1) : ∀ q, q < (l.map (shf vv)).length → (0 ≤ cl (l.map (shf vv)) q → (0 ≤ cl l q ∧ cl l q < 128) ∧ cl l q % 64 = cl (l.map (shf vv)) q % 32 ∧ mk (n + q) = if (0 : Int) ≤ 1 then 1 else cl l q / 64) ∧ (cl (l.map (shf vv)) q < 0 → ∃ v : Nat, v < 8 ∧ cl l q = -1 - (v : Int) ∧ (879 - cl (l.map (shf vv)) q).toNat = 880 + vn + v) := by
  intro q hq
  rw [List.length_map] at hq
  rw [cl_map hq, hm q]
  obtain ⟨⟨g1, g2, g3⟩, g4⟩ := h _ (cl_mem hq)
  unfold shf
  by_cases g : cl l q < 0
  · rw [if_pos g]
    exact ⟨fun h0 => by omega, fun h0 => ⟨(-1 - cl l q).toNat, by omega, by omega, by omega⟩⟩
  · rw [if_neg g]
    exact ⟨fun h0 => ⟨⟨h0, by omega⟩, by omega, rfl⟩, fun h0 => absurd h0 g⟩
theorem rel_m1 {l : List Int} {n vn : Nat} {vv : Int} {mk : Nat → Int} (hs : sc ≤ 16) (hv : vv = (vn : Int)) (h : ∀ c, c ∈ l → gp sc c ∧ -8 ≤ c) (hm : ∀ q, mk (n + q) = 1) : ∀ q, q < (l.map (shm vv)).length → (0 ≤ cl (l.map (shm vv)) q → (0 ≤ cl l q ∧ cl l q < 128) ∧ cl l q % 64 = cl (l.map (shm vv)) q % 32 ∧ mk (n + q) = if (0 : Int) ≤ 1 then 1 else cl l q / 64) ∧ (cl (l.map (shm vv)) q < 0 → ∃ v : Nat, v < 8 ∧ cl l q = -1 - (v : Int) ∧ (879 - cl (l.map (shm vv)) q).toNat = 880 + vn + v) := by
  intro q hq
  rw [List.length_map] at hq
  rw [cl_map hq, hm q]
  obtain ⟨⟨g1, g2, g3⟩, g4⟩ := h _ (cl_mem hq)
  unfold shm
  by_cases g : cl l q < 0
  · rw [if_pos g]
    exact ⟨fun h0 => by omega, fun h0 => ⟨(-1 - cl l q).toNat, by omega, by omega, by omega⟩⟩
  · rw [if_neg g]
    exact ⟨fun h0 => ⟨⟨by omega, by omega⟩, by omega, rfl⟩, fun h0 => by omega⟩
theorem c64_neg (v : Int) (h : v < 0) : c64 v = v := by unfold c64; rw [if_pos h]
theorem c64_pos (v : Int) (h : 0 ≤ v) : 0 ≤ c64 v := by unfold c64; rw [if_neg (by omega)]; omega
theorem c64_nbr {l seen : List Int} : nbr seen (l.map c64) = ((nbr seen l).1.map c64, (nbr seen l).2) := nbr_map c64_neg c64_pos
/-- the amount that class and reference mark all with -/
def amg (mg : Nat) : Int := if mg = 2 then 1 else 0
theorem amg_01 {mg : Nat} : amg mg = 0 ∨ amg mg = 1 := by unfold amg; split; exact Or.inr rfl; exact Or.inl rfl
theorem emc_1 {cd : Nat → Int} {c : Nat} : emc cd ((1 : Nat) : Int) c false = cd c := by
  unfold emc
  rw [if_neg (by omega), if_neg (by decide)]
theorem emc_1t {cd : Nat → Int} {c : Nat} : emc cd ((1 : Nat) : Int) c true = cd c % 32 := by
  unfold emc
  rw [if_neg (by omega), if_pos (Or.inl rfl)]
theorem emc_2 {cd : Nat → Int} {c : Nat} {w : Bool} : emc cd ((2 : Nat) : Int) c w = cd c % 32 + 32 := by
  unfold emc
  rw [if_pos (by omega)]
theorem c64_p {x : Int} (h : 0 ≤ x) : c64 x = x % 32 + 64 * (x / 32) := by
  unfold c64
  rw [if_neg (by omega)]
/-- a side, in class and reference -/
theorem twp_pq {l r : List Int} {vs : List (List Int)} {p a : Nat} (har : arK sc ar) (h : okN sc ar l r vs) (hZ : ZK sc ar lf rf) (hm : mg = 1 ∨ mg = 2) (hmg : mg = 2 → ∀ c, c ∈ l ++ r → 0 ≤ c → 32 ≤ c) (hp : p < l.length + r.length) (hp0 : 0 ≤ cl (ngr l r vs) p) (hR : nov (ayw ar) (ngr l r vs) lf rf p = some R) (ha : a = 0 ∨ a = l.length) : pq (ayw ar) (cl (ngx (ngr l r vs) lf rf)) (nl (ayw ar) (ngx (ngr l r vs) lf rf)) R (mkx (ngr l r vs)) (amg mg) p ((ngr l r vs).length + lf.length) 100 [(ptc (cl (ngx (ngr l r vs) lf rf)) a, false)] = (twp (ayw ar) mg (ngr l r vs) lf rf p R a).map fun w => w.map c64 := by
  obtain ⟨hG, _⟩ := ngx_G har h hZ
  have hgd := ngx_gd har h hZ
  have nr := ct_ne hZ.1.2
  have nf := ct_ne hZ.1.1
  have n1 := ct_ne h.1.1
  have n2 := ct_ne h.1.2
  have hln := ngx_len (L := ngr l r vs) (lf := lf) (rf := rf)
  have hl2 := ng_len (l := l) (r := r) (vs := vs)
  have hpg : p < (ngr l r vs).length := by omega
  obtain ⟨⟨hU, hY, hC⟩, hO⟩ := uni_ok hG ayw_32 (by omega) (by omega) hR
  have eG : ngx (ngr l r vs) lf rf = [] ++ (l ++ (r ++ (vs.flatten ++ adl (vmx (ngr l r vs)) lf rf))) := by
    show ngr l r vs ++ _ = _
    unfold ngr
    simp only [List.append_assoc, List.nil_append]
  have eG2 : ngx (ngr l r vs) lf rf = l ++ (r ++ (vs.flatten ++ adl (vmx (ngr l r vs)) lf rf)) := by rw [eG, List.nil_append]
  have ecl : ∀ c, c < (ngr l r vs).length → cl (ngx (ngr l r vs) lf rf) c = cl (ngr l r vs) c := fun c hc => cl_app hc
  have ep : cl (ngx (ngr l r vs) lf rf) p = cl (ngr l r vs) p := ecl p hpg
  have hkid : ∀ c i, (c < l.length + r.length ∨ (ngr l r vs).length + lf.length ≤ c) → c < (ngx (ngr l r vs) lf rf).length → i < ayw ar (cl (ngx (ngr l r vs) lf rf) c) → kid (nl (ayw ar) (ngx (ngr l r vs) lf rf)) (c + 1) i < l.length + r.length ∨ (ngr l r vs).length + lf.length ≤ kid (nl (ayw ar) (ngx (ngr l r vs) lf rf)) (c + 1) i := fun c i g1 g2 hi => by
    have h4 := G_kid hG (c := c) g2 hi
    rcases g1 with g1 | g1
    · by_cases g5 : c < l.length
      · have h3 := nl_rng (A := []) (B := l) (C := r ++ (vs.flatten ++ adl (vmx (ngr l r vs)) lf rf)) h.1.1 (Nat.zero_le c) (by rw [List.length_nil]; omega)
        rw [← eG, List.length_nil] at h3
        omega
      · have h3 := nl_rng (A := l) (B := r) (C := vs.flatten ++ adl (vmx (ngr l r vs)) lf rf) (c := c) h.1.2 (by omega) (by omega)
        rw [← eG2] at h3
        omega
    · omega
  have hpp : ptc (cl (ngx (ngr l r vs) lf rf)) p = p := ptc_s (by rw [ep]; exact hp0)
  have hole_s : ∀ a, a < (ngx (ngr l r vs) lf rf).length → (a = p ↔ ptc (cl (ngx (ngr l r vs) lf rf)) a = p) := fun a ha => by
    constructor
    · intro e; rw [e]; exact hpp
    · intro e
      by_cases g : 0 ≤ cl (ngx (ngr l r vs) lf rf) a
      · rw [ptc_s g] at e; exact e
      · have := ptc_v (cd := cl (ngx (ngr l r vs) lf rf)) (c := a) (by omega) (hG.2.2 a ha).2.2.1
        have := hG.1
        omega
  have hcd : ∀ c, c < (ngx (ngr l r vs) lf rf).length → cl (ngx (ngr l r vs) lf rf) c < 64 := fun c hc => (hgd _ (cl_mem hc)).1.2.1
  have hsd : ∀ c, c < l.length + r.length → cl (ngr l r vs) c ∈ l ++ r := fun c hc => by
    have : cl (ngr l r vs) c = cl (l ++ r) c := by
      unfold ngr
      rw [← List.append_assoc, cl_app (by rw [List.length_append]; omega)]
    rw [this]
    exact cl_mem (by rw [List.length_append]; omega)
  have hrd : ∀ c, (ngr l r vs).length + lf.length ≤ c → c < (ngx (ngr l r vs) lf rf).length → 0 ≤ cl (ngx (ngr l r vs) lf rf) c → 32 ≤ cl (ngx (ngr l r vs) lf rf) c := fun c hc hc2 h0 => by
    obtain ⟨q, rfl⟩ : ∃ q, c = (ngr l r vs).length + q := ⟨c - (ngr l r vs).length, by omega⟩
    have e1 : cl (ngx (ngr l r vs) lf rf) ((ngr l r vs).length + q) = shm (vmx (ngr l r vs)) (cl (lf ++ rf) q) := by
      show cl (ngr l r vs ++ _) _ = _
      rw [cl_shift, adl_cl (by omega), if_neg (by omega)]
    rw [e1] at h0 ⊢
    unfold shm at h0 ⊢
    have := vmx_0 (L := ngr l r vs)
    split at h0
    · omega
    · rename_i g
      rw [if_neg g]
      omega
  have := pt_pq (f := c64) (em := emc (cl (ngx (ngr l r vs) lf rf)) (mg : Int)) (mk := mkx (ngr l r vs)) (am := amg mg) (hole := p) (patch := (ngr l r vs).length + lf.length) (S := fun c => c < l.length + r.length ∨ (ngr l r vs).length + lf.length ≤ c) (V := fun _ => False) hG ayw_32 hU hY hC (by omega) (fun c hc hS h0 => ⟨fun i hi => hkid c i hS hc hi, by
    have h64 := hcd c hc
    rcases hS with g | g
    · have e1 := ecl c (by omega)
      have hin := hsd c g
      have emk : mkx (ngr l r vs) c = cl (ngr l r vs) c / 32 := by
        unfold mkx mkn
        rw [if_pos (by omega), if_pos (by omega)]
      rw [emk]
      unfold syc
      rcases hm with rfl | rfl
      · rw [emc_1, c64_p h0, e1]
      · have := hmg rfl _ hin (by omega)
        rw [emc_2, c64_p (by omega), e1]
        omega
    · have h32 := hrd c g hc h0
      have emk : mkx (ngr l r vs) c = 1 := by
        unfold mkx
        rw [if_neg (by omega)]
      rw [emk]
      unfold syc
      rcases hm with rfl | rfl
      · rw [emc_1, c64_p h0]
        omega
      · rw [emc_2, c64_p (by omega)]
        omega⟩) (fun a hS e => Or.inr (Nat.le_refl _)) (fun c hc hv _ => hv.elim) (fun c hc h0 => by
    have h64 := hcd c hc
    unfold syc amg
    rcases hm with rfl | rfl
    · rw [emc_1t, c64_p (by omega), if_neg (by omega)]
      omega
    · rw [emc_2, c64_p (by omega), if_pos rfl]
      omega) c64_neg (fun a ha hS => hole_s a ha) 100 [(a, false)] [(ptc (cl (ngx (ngr l r vs) lf rf)) a, false)] ⟨⟨by show a < _; omega, Or.inl ⟨rfl, rfl, rfl, Or.inl (by show a < _; omega)⟩⟩, trivial⟩
  rw [this]
  rfl
/-- the hole is not in the VALUES -/
theorem pvs_hole {ay : Int → Nat} {cd : Nat → Int} {nx : Nat → Nat} {n : Nat} {em : Nat → Bool → Int} {hole hole' patch patch' : Nat} (hG : Gok ay cd nx n) {S : Nat → Prop} (hS : ∀ c, S c → c < n ∧ c ≠ hole ∧ c ≠ hole' ∧ ∀ i, i < ay (cd c) → S (kid nx (c + 1) i)) : ∀ {count a : Nat}, (∀ i, i < count → S (kid nx a i)) → pvs ay cd nx R em hole patch count a = pvs ay cd nx R em hole' patch' count a
  | 0, _, _ => rfl
  | c + 1, a, h => by
    unfold pvs
    rw [pt_hole (hole' := hole') (patch' := patch') hG hS 100 [(a, false)] fun e he _ => by rw [List.mem_singleton.mp he]; exact h 0 (by omega)]
    rw [pvs_hole (hole' := hole') (patch' := patch') hG hS (a := nx a) fun i hi => by rw [kid_nx]; exact h (i + 1) (by omega)]
theorem twv_hole {l r : List Int} {vs : List (List Int)} {p : Nat} (har : arK sc ar) (h : okN sc ar l r vs) (hZ : ZK sc ar lf rf) (hp : p < l.length + r.length) : twv (ayw ar) (ngr l r vs) lf rf p R (l.length + r.length) vs.length = pvs (ayw ar) (cl (ngx (ngr l r vs) lf rf)) (nl (ayw ar) (ngx (ngr l r vs) lf rf)) R (emc (cl (ngx (ngr l r vs) lf rf)) 0) 100000 0 vs.length (l.length + r.length) := by
  obtain ⟨hG, _⟩ := ngx_G har h hZ
  have hln := ngx_len (L := ngr l r vs) (lf := lf) (rf := rf)
  have h880 := hG.1
  refine pvs_hole (S := fun c => l.length + r.length ≤ c ∧ c < (ngr l r vs).length) hG (fun c hc => ⟨by omega, by omega, by omega, fun i hi => ?_⟩) fun i hi => ?_
  · have h4 := G_kid hG (c := c) (by omega) hi
    have h3 := nl_rng (A := []) (B := ngr l r vs) (C := adl (vmx (ngr l r vs)) lf rf) (c := c) (ng_ct h) (Nat.zero_le c) (by rw [List.length_nil]; omega)
    rw [List.nil_append, List.length_nil] at h3
    have h5 : nl (ayw ar) (ngr l r vs ++ adl (vmx (ngr l r vs)) lf rf) c = nl (ayw ar) (ngx (ngr l r vs) lf rf) c := rfl
    omega
  · have := ngx_st (lf := lf) (rf := rf) h hi
    omega
/-- a NODE and a RULE are loaded -/
theorem r_loadNR {i u : Nat} {e : Nd} (hp : PP P) (har : arK sc ar) (hRA : RAr sc ar m) (hK : RyM N Lf Rf m) (hu : u < N) (hi : i < 1000) (hN : NR i e m) (hok : okN sc ar (ndl e) (ndr e) (ndv e)) (hs : e.2.1 + (ndg e).length ≤ 30000) (hgv : m 262 101 = ((ndv e).length : Int)) (hZ : ZK sc ar (Lf u) (Rf u)) {post : Int → Int → Mi → Mj → Mp → Prop} (k : ∀ np K m', RGr (ayw ar) (cl (ngx (ndg e) (Lf u) (Rf u))) (nl (ayw ar) (ngx (ndg e) (Lf u) (Rf u))) (mkx (ndg e)) np (ngx (ndg e) (Lf u) (Rf u)).length K m' → (∀ k, k < K → m' 303 k = -1) → ARr (ayw ar) (cl (ngx (ndg e) (Lf u) (Rf u))) (ngx (ndg e) (Lf u) (Rf u)).length m' → (m' 262 124 = (np (ptc (cl (ngx (ndg e) (Lf u) (Rf u))) 0) : Int) ∧ m' 262 125 = (np (ptc (cl (ngx (ndg e) (Lf u) (Rf u))) (ndl e).length) : Int)) → (∀ q, q < (ndl e).length + (ndr e).length → m' 340 q = (np (ptc (cl (ngx (ndg e) (Lf u) (Rf u))) q) : Int)) → (∀ v, v < (ndv e).length → m' 339 v = (np (ptc (cl (ngx (ndg e) (Lf u) (Rf u))) ((ndl e).length + (ndr e).length + ((ndv e).take v).flatten.length)) : Int)) → rnT m m' → post (np (ptc (cl (ngx (ndg e) (Lf u) (Rf u))) (ndg e).length) : Nat) (np (ptc (cl (ngx (ndg e) (Lf u) (Rf u))) ((ndg e).length + (Lf u).length)) : Nat) m' J P) : Cv X (d + 2) 201 [.ref 262, .int (iz (i : Int))] m J P (fun m1 J2 P3 => PP P3 ∧ ((0 : Int) ≤ (u : Int) ∧ ((u : Int) : Int) < 16) ∧ Ci X (d + 2) 166 [.ref 262, .ref 281, .int (iz (40 * (u : Int))), .int (iz ((40 * (u : Int)) + (m1 283 (u : Int).toNat))), .ref 309, .int (iz 1)] m1 J2 P3 (fun z10 m7 J8 P9 => PP P9 ∧ ((0 : Int) ≤ (u : Int) ∧ ((u : Int) : Int) < 16) ∧ Ci X (d + 2) 166 [.ref 262, .ref 282, .int (iz (40 * (u : Int))), .int (iz ((40 * (u : Int)) + (m7 284 (u : Int).toNat))), .ref 309, .int (iz 1)] m7 J8 P9 (fun z16 m13 J14 P15 => PP P15 ∧ post z10 z16 m13 J14 P15))) := by
  obtain ⟨⟨hN16, _⟩, hK2⟩ := hK
  obtain ⟨⟨j1, j2⟩, ⟨j3, j4⟩, ⟨j5, j6⟩, _⟩ := hK2 u hu
  generalize Lf u = lf at *
  generalize Rf u = rf at *
  obtain ⟨hG, hAm⟩ := ngx_G har hok hZ
  have hgd := ngx_gd har hok hZ
  have hgn := ng_gd har.1 hok
  have h800 := ng_800 hok
  have hge : (ndg e).length = (ngr (ndl e) (ndr e) (ndv e)).length := rfl
  have hln := ng_len (l := ndl e) (r := ndr e) (vs := ndv e)
  have hlx := ngx_len (L := ndg e) (lf := lf) (rf := rf)
  have n1 := ct_ne hok.1.1
  have n2 := ct_ne hok.1.2
  have nr := ct_ne hZ.1.2
  have nf := ct_ne hZ.1.1
  have hs16 := har.1
  have hv0 := vmx_0 (L := ndg e)
  have hv1 : vmx (ndg e) ≤ 800 := vmx_le (by omega) fun c hc => by have := (hgn c hc).2; omega
  obtain ⟨vn, hvn⟩ : ∃ vn : Nat, vmx (ndg e) = (vn : Int) := ⟨(vmx (ndg e)).toNat, by omega⟩
  have eG : ngx (ndg e) lf rf = ndg e ++ (lf.map (shf (vmx (ndg e))) ++ rf.map (shm (vmx (ndg e)))) := rfl
  have e4 : ngx (ndg e) lf rf = (ndg e ++ lf.map (shf (vmx (ndg e)))) ++ (rf.map (shm (vmx (ndg e))) ++ []) := by rw [eG]; simp
  have kL : am_kd an_K 281 = some (.inr (0, 640)) := by decide +kernel
  have kR : am_kd an_K 282 = some (.inr (0, 640)) := by decide +kernel
  have kU : am_kd an_K 309 = some (.inr (0, 8)) := by decide +kernel
  have llf : (lf.map (shf (vmx (ndg e)))).length = lf.length := List.length_map _
  have lrf : (rf.map (shm (vmx (ndg e)))).length = rf.length := List.length_map _
  have c2 := ct_shf hv0 hZ.1.1
  have c3 := ct_shf hv0 hZ.1.2
  have hA : ∀ {m2}, rnT m m2 → ARr (ayw ar) (cl (ngx (ndg e) lf rf)) (ngx (ndg e) lf rf).length m2 := fun h => ARr_K har (RAr_fr hRA fun k => h _ _ (by omega) (by omega) (by omega)) fun c hc => (hgd c hc).1
  refine r_tloads (d := d) (i := i) (e := e) (E := adl (vmx (ndg e)) lf rf) (mk := mkx (ndg e)) hp har hRA hi hN hok hs hgv hG (fun c hc => (hgd c (List.mem_append_right _ hc)).1) (fun c hc h0 => by unfold mkx mkn; rw [if_pos hc, if_pos h0]) (fun np K m1 hL F1 => ⟨hp, by omega, ?_⟩)
  have hL2 : LSt ar (ndl e) (ndr e) (ndv e) (ngx (ndg e) lf rf) (mkx (ndg e)) np K (ndv e).length m1 := hL
  obtain ⟨s1, s2, s3, ⟨s4, s5⟩, s6, s7, s8⟩ := hL2
  have hlg : (ndl e).length + (ndr e).length + (ndv e).flatten.length = (ndg e).length := by omega
  rw [List.take_length, hlg] at s1 s3
  have G1 := tlF_nT F1
  rw [Int.toNat_natCast, show (40 * (u : Int)) = ((40 * u : Nat) : Int) by omega, show m1 283 u = (lf.length : Int) from (G1 _ _ (by omega) (by omega) (by omega)).trans j1]
  have hno : ∀ v, v < 8 → ¬ Ocr (cl (ngx (ndg e) lf rf)) (ndg e).length (880 + vn + v) := fun v hv h => by
    obtain ⟨c, hc, e0⟩ := h
    have ec : cl (ngx (ndg e) lf rf) c = cl (ndg e) c := by rw [eG, cl_app hc]
    have := vmx_mem (cl_mem hc)
    unfold ptc at e0
    rw [ec] at e0
    split at e0 <;> omega
  refine r_loadL (d := d + 1) (x1 := 281) (n1 := 640) (from_ := 40 * u) (A := ndg e) (B := lf.map (shf (vmx (ndg e)))) (w := lf) (np := np) (mk := mkx (ndg e)) (base := vn) (lim := 8) hp kL (by omega) kU (by omega) (Or.inr rfl) (by omega) (by omega) zr1 (Nat.le_refl _) hG eG c2.1 (by omega) (by omega) (by rw [llf]; omega) (by omega) (rel_f1 (n := (ndg e).length) hs16 hvn (fun c hc => hZ.2.1 c (List.mem_append_left _ hc)) fun q => by unfold mkx; rw [if_neg (by omega)]) s1 (VTB_new s8 hno) s3 (Ro_fr j3 fun k _ _ => G1 _ _ (by omega) (by omega) (by omega)) (hA G1) (fun np3 K3 m20 f1 f2 f3 f4 f5 f6 => ⟨hp, by omega, ?_⟩)
  have G20 : rnT m m20 := rnT_trans G1 (tlF_nT (ldF_tl (Or.inr rfl) f6))
  rw [show m20 284 u = (rf.length : Int) from (G20 _ _ (by omega) (by omega) (by omega)).trans j2]
  rw [← List.length_append] at f1 f2 f3
  refine r_loadL (d := d + 1) (x1 := 282) (n1 := 640) (from_ := 40 * u) (A := ndg e ++ lf.map (shf (vmx (ndg e)))) (B := rf.map (shm (vmx (ndg e)))) (w := rf) (np := np3) (mk := mkx (ndg e)) (base := vn) (lim := 8) hp kR (by omega) kU (by omega) (Or.inr rfl) (by omega) (by omega) zr1 (Nat.le_refl _) hG e4 c3.2 (by omega) (by omega) (by rw [lrf]; omega) (by omega) (rel_m1 (n := (ndg e ++ lf.map (shf (vmx (ndg e)))).length) hs16 hvn (fun c hc => hZ.2.1 c (List.mem_append_right _ hc)) fun q => by unfold mkx; rw [List.length_append, if_neg (by omega)]) f1 f2 f3 (Ro_fr j4 fun k _ _ => G20 _ _ (by omega) (by omega) (by omega)) (hA G20) (fun np4 K4 m26 g1 g2 g3 g4 g5 g6 => ⟨hp, ?_⟩)
  have G26 : rnT m m26 := rnT_trans G20 (tlF_nT (ldF_tl (Or.inr rfl) g6))
  have l3 : (ndg e ++ lf.map (shf (vmx (ndg e)))).length = (ndg e).length + lf.length := by rw [List.length_append, llf]
  rw [lrf, l3] at g1
  rw [l3] at g4
  have hn : (ndg e).length + lf.length + rf.length = (ngx (ndg e) lf rf).length := by omega
  rw [hn] at g1
  have w1 : ∀ q, q < (ndg e).length → np4 (ptc (cl (ngx (ndg e) lf rf)) q) = np (ptc (cl (ngx (ndg e) lf rf)) q) := fun q hq => (g4 q (by omega)).trans (f4 q hq)
  have w2 : ∀ a k, ¬ (302 ≤ a ∧ a ≤ 307) → ¬ (310 ≤ a ∧ a ≤ 312) → a ≠ 309 → ¬ (a = 262 ∧ k = 74) → m26 a k = m1 a k := fun a k q1 q2 q3 q4 => (g6 a k q1 q2 q3 q4).trans (f6 a k q1 q2 q3 q4)
  have fin := k np4 K4 m26 (RGr_of g1 fun c hc => ?_) g1.2.2.2.2.2.2 (hA G26) ⟨?_, ?_⟩ (fun q hq => ?_) (fun v hv => ?_) G26
  · rw [g4 (ndg e).length (by omega)] at fin
    rw [l3]
    exact fin
  · simp only [Dor]
    omega
  · rw [w2 _ _ (by omega) (by omega) (by omega) (by omega), s4, w1 0 (by omega)]
  · rw [w2 _ _ (by omega) (by omega) (by omega) (by omega), s5, w1 _ (by omega)]
  · rw [w2 _ _ (by omega) (by omega) (by omega) (by omega), s6 q hq, w1 q (by omega)]
  · have := flat_take_lt (fun w hw => (hok.2.2.1 w hw).1) hv
    rw [w2 _ _ (by omega) (by omega) (by omega) (by omega), s7 v hv, w1 _ (by omega)]
end RNW
