/-! the reference: makesPair() -/
section RMK
variable {X : aX} {d : Nat} {P : Mp} {J : Mj} {m m' : Mi} {ar : Nat → Int} {sc N : Nat} {Lf Rf : Nat → List Int}
theorem Ocr_lt {cd : Nat → Int} {nx : Nat → Nat} {ay : Int → Nat} {n z : Nat} (hG : Gok ay cd nx n) (h : Ocr cd n z) : z < 1688 := by
  obtain ⟨c, hc, e⟩ := h
  rw [← e]
  exact (vp_lt hG (vp_pt hG hc)).1
theorem map_same {o : Option (List Int)} : o.map (fun l => l.map fun v => v) = o := by cases o <;> simp
theorem pgr_len {l1 r1 l2 r2 : List Int} : (pgr l1 r1 l2 r2).length = l1.length + r1.length + (l2.length + r2.length) := by unfold pgr; rw [List.length_append, adl_len, List.length_append]
/-- the first TERM of a PAIR, in the reference -/
theorem pw1_pq {l1 r1 l2 r2 : List Int} {p : Nat} {R : Nat → Nat} (har : arK sc ar) (h1 : ZK sc ar l1 r1) (h2 : ZK sc ar l2 r2) (hpl : p < l1.length) (hR : ovl (ayw ar) l1 r1 l2 r2 p = some R) : pq (ayw ar) (cl (pgr l1 r1 l2 r2)) (nl (ayw ar) (pgr l1 r1 l2 r2)) R (fun _ => 0) 0 100000 0 200 [(ptc (cl (pgr l1 r1 l2 r2)) l1.length, false)] = pw1 (ayw ar) l1 r1 l2 r2 p R := by
  obtain ⟨hGP, hAm⟩ := GokP (l1 := l1) (r1 := r1) (l2 := l2) (r2 := r2) har h1 h2
  have hlen1 : (l1 ++ r1).length = l1.length + r1.length := List.length_append
  have hlenG := pgr_len (l1 := l1) (r1 := r1) (l2 := l2) (r2 := r2)
  have n2 : 0 < r1.length := ct_ne h1.1.2
  have n3 : 0 < l2.length := ct_ne h2.1.1
  obtain ⟨⟨hU, hY, hC⟩, hO⟩ := uni_ok hGP ayw_32 (by omega) (by omega) hR
  have eG : pgr l1 r1 l2 r2 = l1 ++ (r1 ++ adl (vmx (l1 ++ r1)) l2 r2) := by unfold pgr; rw [List.append_assoc]
  have hkid : ∀ c i, l1.length ≤ c → c < l1.length + r1.length → i < ayw ar (cl (pgr l1 r1 l2 r2) c) → l1.length ≤ kid (nl (ayw ar) (pgr l1 r1 l2 r2)) (c + 1) i ∧ kid (nl (ayw ar) (pgr l1 r1 l2 r2)) (c + 1) i < l1.length + r1.length := fun c i g1 g2 hi => by
    have := G_kid hGP (c := c) (by omega) hi
    have h3 := nl_rng (A := l1) (B := r1) (C := adl (vmx (l1 ++ r1)) l2 r2) h1.1.2 g1 g2
    rw [← eG] at h3
    omega
  have hlt : ∀ c, c < (pgr l1 r1 l2 r2).length → ptc (cl (pgr l1 r1 l2 r2)) c < 1688 := fun c hc => Ocr_lt hGP (ocr_mk hc rfl)
  have := pt_pq (f := fun v => v) (em := emc (cl (pgr l1 r1 l2 r2)) 0) (mk := fun _ => 0) (am := 0) (hole := 100000) (patch := 0) (S := fun c => l1.length ≤ c ∧ c < l1.length + r1.length) (V := fun _ => False) hGP ayw_32 hU hY hC (by omega) (fun c hc hS h0 => ⟨fun i hi => hkid c i hS.1 hS.2 hi, by rw [emc_0]; unfold syc; omega⟩) (fun a hS e => absurd (show a < l1.length + r1.length from hS.2) (by have := hGP.1; omega)) (fun c hc hv _ => hv.elim) (fun c hc h0 => by rw [emc_0]; unfold syc; omega) (fun v _ => rfl) (fun a ha hS => by have := hlt a ha; have := hGP.1; omega) 200 [(l1.length, false)] [(ptc (cl (pgr l1 r1 l2 r2)) l1.length, false)] ⟨⟨by show l1.length < _; omega, Or.inl ⟨rfl, rfl, rfl, Nat.le_refl _, by show l1.length < _; omega⟩⟩, trivial⟩
  rw [this, map_same]
  unfold pw1
  refine pt_hole (S := fun c => l1.length ≤ c ∧ c < l1.length + r1.length) hGP (fun c hS => ⟨by have := hS.2; omega, by have := hS.2; have := hGP.1; omega, by have := hS.1; omega, fun i hi => hkid c i hS.1 hS.2 hi⟩) 200 _ (fun e he _ => ?_)
  rw [List.mem_singleton.mp he]
  exact ⟨Nat.le_refl _, by show l1.length < _; omega⟩
/-- the second TERM of a PAIR, in the reference -/
theorem pw2_pq {l1 r1 l2 r2 : List Int} {p : Nat} {R : Nat → Nat} (har : arK sc ar) (h1 : ZK sc ar l1 r1) (h2 : ZK sc ar l2 r2) (hpl : p < l1.length) (hp0 : 0 ≤ cl l1 p) (hR : ovl (ayw ar) l1 r1 l2 r2 p = some R) : pq (ayw ar) (cl (pgr l1 r1 l2 r2)) (nl (ayw ar) (pgr l1 r1 l2 r2)) R (fun _ => 0) 0 p ((l1 ++ r1).length + l2.length) 200 [(ptc (cl (pgr l1 r1 l2 r2)) 0, false)] = pw2 (ayw ar) l1 r1 l2 r2 p R := by
  obtain ⟨hGP, hAm⟩ := GokP (l1 := l1) (r1 := r1) (l2 := l2) (r2 := r2) har h1 h2
  have hlen1 : (l1 ++ r1).length = l1.length + r1.length := List.length_append
  have hlenG := pgr_len (l1 := l1) (r1 := r1) (l2 := l2) (r2 := r2)
  have n2 : 0 < r2.length := ct_ne h2.1.2
  have n3 : 0 < l2.length := ct_ne h2.1.1
  obtain ⟨⟨hU, hY, hC⟩, hO⟩ := uni_ok hGP ayw_32 (by omega) (by omega) hR
  have eG : pgr l1 r1 l2 r2 = [] ++ (l1 ++ (r1 ++ adl (vmx (l1 ++ r1)) l2 r2)) := by unfold pgr; rw [List.append_assoc, List.nil_append]
  have ep : cl (pgr l1 r1 l2 r2) p = cl l1 p := by rw [eG, List.nil_append, cl_app hpl]
  have hkid : ∀ c i, (c < l1.length ∨ (l1 ++ r1).length + l2.length ≤ c) → c < (pgr l1 r1 l2 r2).length → i < ayw ar (cl (pgr l1 r1 l2 r2) c) → kid (nl (ayw ar) (pgr l1 r1 l2 r2)) (c + 1) i < l1.length ∨ (l1 ++ r1).length + l2.length ≤ kid (nl (ayw ar) (pgr l1 r1 l2 r2)) (c + 1) i := fun c i g1 g2 hi => by
    have h4 := G_kid hGP (c := c) g2 hi
    rcases g1 with g1 | g1
    · have h3 := nl_rng (A := []) (B := l1) (C := r1 ++ adl (vmx (l1 ++ r1)) l2 r2) h1.1.1 (Nat.zero_le c) (by rw [List.length_nil]; omega)
      rw [← eG, List.length_nil] at h3
      omega
    · omega
  have hpp : ptc (cl (pgr l1 r1 l2 r2)) p = p := ptc_s (by rw [ep]; exact hp0)
  have hole_s : ∀ a, a < (pgr l1 r1 l2 r2).length → (a = p ↔ ptc (cl (pgr l1 r1 l2 r2)) a = p) := fun a ha => by
    constructor
    · intro e; rw [e]; exact hpp
    · intro e
      by_cases g : 0 ≤ cl (pgr l1 r1 l2 r2) a
      · rw [ptc_s g] at e; exact e
      · have := ptc_v (cd := cl (pgr l1 r1 l2 r2)) (c := a) (by omega) (hGP.2.2 a ha).2.2.1
        have := hGP.1
        omega
  have := pt_pq (f := fun v => v) (em := emc (cl (pgr l1 r1 l2 r2)) 0) (mk := fun _ => 0) (am := 0) (hole := p) (patch := (l1 ++ r1).length + l2.length) (S := fun c => c < l1.length ∨ (l1 ++ r1).length + l2.length ≤ c) (V := fun _ => False) hGP ayw_32 hU hY hC (by omega) (fun c hc hS h0 => ⟨fun i hi => hkid c i hS hc hi, by rw [emc_0]; unfold syc; omega⟩) (fun a hS e => Or.inr (Nat.le_refl _)) (fun c hc hv _ => hv.elim) (fun c hc h0 => by rw [emc_0]; unfold syc; omega) (fun v _ => rfl) (fun a ha hS => hole_s a ha) 200 [(0, false)] [(ptc (cl (pgr l1 r1 l2 r2)) 0, false)] ⟨⟨by show 0 < _; omega, Or.inl ⟨rfl, rfl, rfl, Or.inl (by show 0 < _; omega)⟩⟩, trivial⟩
  rw [this, map_same]
  rfl
/-- what makesPair() may change -/
def mpF (m m' : Mi) : Prop := ∀ a k, ¬ (302 ≤ a ∧ a ≤ 320) → ¬ (a = 262 ∧ (k = 74 ∨ k = 87 ∨ k = 86 ∨ k = 90 ∨ k = 91)) → m' a k = m a k
theorem mpF_trans {m'' : Mi} (h : mpF m m') (h2 : mpF m' m'') : mpF m m'' := fun a k g1 g2 => (h2 a k g1 g2).trans (h a k g1 g2)
theorem mpF_RyM (h : RyM N Lf Rf m) (f : mpF m m') : RyM N Lf Rf m' := RyM_fr h (f _ _ (by decide) (by decide)) (fun a k g => f _ _ (by omega) (by omega))
theorem mpF_RAr (h : RAr sc ar m) (f : mpF m m') : RAr sc ar m' := RAr_fr h fun k => f _ _ (by decide) (by omega)
theorem ldF_mp {tb : Nat} (htb : tb = 308 ∨ tb = 309) (h : ldF tb m m') : mpF m m' := fun a k g1 g2 => h a k (by omega) (by omega) (by omega) (by omega)
theorem onF_mp (h : onF m m') : mpF m m' := fun a k g1 g2 => h a k (by omega) (by omega) (by omega) (by omega) (by omega) (by omega)
theorem wrF_mp {x6 x7 : Nat} (h6 : x6 = 319 ∨ x6 = 320) (h : wrF x6 x7 m m') : mpF m m' := fun a k g1 g2 => h a k (by omega) (by omega) (by omega) (by omega) (by omega)
/-- how a RULE's row and the graph go together -/
theorem rel_0 {l : List Int} {n : Nat} (hs : sc ≤ 16) (h : ∀ c, c ∈ l → gp sc c ∧ -8 ≤ c) : ∀ q, q < l.length → (0 ≤ cl l q → (0 ≤ cl l q ∧ cl l q < 128) ∧ cl l q % 64 = cl l q % 32 ∧ (fun _ => (0 : Int)) (n + q) = if (0 : Int) ≤ 0 then 0 else cl l q / 64) ∧ (cl l q < 0 → ∃ v : Nat, v < 800 ∧ cl l q = -1 - (v : Int) ∧ (879 - cl l q).toNat = 880 + 0 + v) := by
  intro q hq
  obtain ⟨⟨g1, g2, g3⟩, g4⟩ := h _ (cl_mem hq)
  exact ⟨fun h0 => ⟨⟨h0, by omega⟩, by omega, rfl⟩, fun h0 => ⟨(-1 - cl l q).toNat, by omega, by omega, by omega⟩⟩
theorem rel_f {l : List Int} {n vn : Nat} {vv : Int} (hs : sc ≤ 16) (hv : vv = (vn : Int)) (h : ∀ c, c ∈ l → gp sc c ∧ -8 ≤ c) : ∀ q, q < (l.map (shf vv)).length → (0 ≤ cl (l.map (shf vv)) q → (0 ≤ cl l q ∧ cl l q < 128) ∧ cl l q % 64 = cl (l.map (shf vv)) q % 32 ∧ (fun _ => (0 : Int)) (n + q) = if (0 : Int) ≤ 0 then 0 else cl l q / 64) ∧ (cl (l.map (shf vv)) q < 0 → ∃ v : Nat, v < 8 ∧ cl l q = -1 - (v : Int) ∧ (879 - cl (l.map (shf vv)) q).toNat = 880 + vn + v) := by
  intro q hq
  rw [List.length_map] at hq
  rw [cl_map hq]
  obtain ⟨⟨g1, g2, g3⟩, g4⟩ := h _ (cl_mem hq)
  unfold shf
  by_cases g : cl l q < 0
  · rw [if_pos g]
    exact ⟨fun h0 => by omega, fun h0 => ⟨(-1 - cl l q).toNat, by omega, by omega, by omega⟩⟩
  · rw [if_neg g]
    exact ⟨fun h0 => ⟨⟨h0, by omega⟩, by omega, rfl⟩, fun h0 => absurd h0 g⟩
theorem rel_m {l : List Int} {n vn : Nat} {vv : Int} (hs : sc ≤ 16) (hv : vv = (vn : Int)) (h : ∀ c, c ∈ l → gp sc c ∧ -8 ≤ c) : ∀ q, q < (l.map (shm vv)).length → (0 ≤ cl (l.map (shm vv)) q → (0 ≤ cl l q ∧ cl l q < 128) ∧ cl l q % 64 = cl (l.map (shm vv)) q % 32 ∧ (fun _ => (0 : Int)) (n + q) = if (0 : Int) ≤ 0 then 0 else cl l q / 64) ∧ (cl (l.map (shm vv)) q < 0 → ∃ v : Nat, v < 8 ∧ cl l q = -1 - (v : Int) ∧ (879 - cl (l.map (shm vv)) q).toNat = 880 + vn + v) := by
  intro q hq
  rw [List.length_map] at hq
  rw [cl_map hq]
  obtain ⟨⟨g1, g2, g3⟩, g4⟩ := h _ (cl_mem hq)
  unfold shm
  by_cases g : cl l q < 0
  · rw [if_pos g]
    exact ⟨fun h0 => by omega, fun h0 => ⟨(-1 - cl l q).toNat, by omega, by omega, by omega⟩⟩
  · rw [if_neg g]
    exact ⟨fun h0 => ⟨⟨by omega, by omega⟩, by omega, rfl⟩, fun h0 => by omega⟩
theorem ct_shf {vv : Int} (hv : 0 ≤ vv) {l : List Int} {k : Nat} (h : ctt (ayw ar) l = some k) : ctt (ayw ar) (l.map (shf vv)) = some k ∧ ctt (ayw ar) (l.map (shm vv)) = some k := by
  have e1 := adl_ay (ar := ar) (l := l) (r := []) hv
  have e2 := adl_ay (ar := ar) (l := []) (r := l) hv
  unfold adl at e1 e2
  rw [List.map_nil, List.append_nil, List.append_nil] at e1
  rw [List.map_nil, List.nil_append, List.nil_append] at e2
  rw [ct_cong e1, ct_cong e2]
  exact ⟨h, h⟩
/-- the pool of two RULES -/
theorem r_loads {i j p : Nat} (hp : PP P) (hp2 : p < 201) (har : arK sc ar) (hRA : RAr sc ar m) (hK : RyM N Lf Rf m) (hO : ∀ u, u < N → ZK sc ar (Lf u) (Rf u)) (hi : i < N) (hj : j < N) {post : Int → Int → Int → Int → Mi → Mi → Mj → Mp → Prop} (k : ∀ (np : Nat → Nat) (K : Nat) (ma m' : Mi), RGr (ayw ar) (cl (pgr (Lf i) (Rf i) (Lf j) (Rf j))) (nl (ayw ar) (pgr (Lf i) (Rf i) (Lf j) (Rf j))) (fun _ => 0) np (pgr (Lf i) (Rf i) (Lf j) (Rf j)).length K m' → (∀ k, k < K → m' 303 k = -1) → ARr (ayw ar) (cl (pgr (Lf i) (Rf i) (Lf j) (Rf j))) (pgr (Lf i) (Rf i) (Lf j) (Rf j)).length m' → (∀ q, q < (Lf i).length → ma 312 q = (np (ptc (cl (pgr (Lf i) (Rf i) (Lf j) (Rf j))) q) : Int)) → mpF m m' → post (np (ptc (cl (pgr (Lf i) (Rf i) (Lf j) (Rf j))) 0) : Nat) (np (ptc (cl (pgr (Lf i) (Rf i) (Lf j) (Rf j))) (Lf i).length) : Nat) (np (ptc (cl (pgr (Lf i) (Rf i) (Lf j) (Rf j))) (Lf i ++ Rf i).length) : Nat) (np (ptc (cl (pgr (Lf i) (Rf i) (Lf j) (Rf j))) ((Lf i ++ Rf i).length + (Lf j).length)) : Nat) ma m' J P) : Cv X (d + 2) 164 [.ref 262] m J P (fun m1 J2 P3 => PP P3 ∧ ((0 : Int) ≤ (i : Int) ∧ ((i : Int) : Int) < 16) ∧ Ci X (d + 2) 166 [.ref 262, .ref 281, .int (iz (40 * (i : Int))), .int (iz ((40 * (i : Int)) + (m1 283 ((i : Nat) : Int).toNat))), .ref 308, .int (iz 0)] m1 J2 P3 (fun z10 m7 J8 P9 => PP P9 ∧ ((0 : Int) ≤ (p : Int) ∧ ((p : Int) : Int) < 201) ∧ ((0 : Int) ≤ (i : Int) ∧ ((i : Int) : Int) < 16) ∧ Ci X (d + 2) 166 [.ref 262, .ref 282, .int (iz (40 * (i : Int))), .int (iz ((40 * (i : Int)) + (m7 284 ((i : Nat) : Int).toNat))), .ref 308, .int (iz 0)] m7 J8 P9 (fun z17 m14 J15 P16 => PP P16 ∧ ((0 : Int) ≤ (j : Int) ∧ ((j : Int) : Int) < 16) ∧ Ci X (d + 2) 166 [.ref 262, .ref 281, .int (iz (40 * (j : Int))), .int (iz ((40 * (j : Int)) + (m14 283 ((j : Nat) : Int).toNat))), .ref 309, .int (iz 0)] m14 J15 P16 (fun z23 m20 J21 P22 => PP P22 ∧ ((0 : Int) ≤ (j : Int) ∧ ((j : Int) : Int) < 16) ∧ Ci X (d + 2) 166 [.ref 262, .ref 282, .int (iz (40 * (j : Int))), .int (iz ((40 * (j : Int)) + (m20 284 ((j : Nat) : Int).toNat))), .ref 309, .int (iz 0)] m20 J21 P22 (fun z29 m26 J27 P28 => PP P28 ∧ post z10 z17 z23 z29 m7 m26 J27 P28))))) := by
  have hN := hK.1.1
  obtain ⟨⟨i1, i2⟩, ⟨i3, i4⟩, ⟨i5, i6⟩, _⟩ := hK.2 i hi
  obtain ⟨⟨j1, j2⟩, ⟨j3, j4⟩, ⟨j5, j6⟩, _⟩ := hK.2 j hj
  have h1 := hO i hi
  have h2 := hO j hj
  generalize Lf i = l1 at *
  generalize Rf i = r1 at *
  generalize Lf j = l2 at *
  generalize Rf j = r2 at *
  obtain ⟨hGP, hAm⟩ := GokP (l1 := l1) (r1 := r1) (l2 := l2) (r2 := r2) har h1 h2
  have hlen1 : (l1 ++ r1).length = l1.length + r1.length := List.length_append
  have hlenG := pgr_len (l1 := l1) (r1 := r1) (l2 := l2) (r2 := r2)
  have hs := har.1
  have hv0 := vmx_0 (L := l1 ++ r1)
  have hv1 : vmx (l1 ++ r1) ≤ 8 := vmx_le (by decide) fun c hc => by have := (h1.2.1 c hc).2; omega
  obtain ⟨vn, hvn⟩ : ∃ vn : Nat, vmx (l1 ++ r1) = (vn : Int) := ⟨(vmx (l1 ++ r1)).toNat, by omega⟩
  have eG : pgr l1 r1 l2 r2 = (l1 ++ r1) ++ (l2.map (shf (vmx (l1 ++ r1))) ++ r2.map (shm (vmx (l1 ++ r1)))) := rfl
  have e1 : pgr l1 r1 l2 r2 = [] ++ (l1 ++ (r1 ++ (l2.map (shf (vmx (l1 ++ r1))) ++ r2.map (shm (vmx (l1 ++ r1)))))) := by rw [eG]; simp
  have e2 : pgr l1 r1 l2 r2 = l1 ++ (r1 ++ (l2.map (shf (vmx (l1 ++ r1))) ++ r2.map (shm (vmx (l1 ++ r1))))) := by rw [eG]; simp
  have e4 : pgr l1 r1 l2 r2 = (l1 ++ r1 ++ l2.map (shf (vmx (l1 ++ r1)))) ++ (r2.map (shm (vmx (l1 ++ r1))) ++ []) := by rw [eG]; simp
  have hA : ∀ {m2}, mpF m m2 → ARr (ayw ar) (cl (pgr l1 r1 l2 r2)) (pgr l1 r1 l2 r2).length m2 := fun h => ARr_K har (mpF_RAr hRA h) fun c hc => by
    rcases List.mem_append.mp hc with q | q
    · exact gd_gp hs (h1.2.1 _ q).1
    · exact (adl_mem hs h2.2.1 q hv0 (by omega)).1
  have ei : ((i : Nat) : Int).toNat = i := by omega
  have ej : ((j : Nat) : Int).toNat = j := by omega
  have ei40 : (40 * (i : Int)) = ((40 * i : Nat) : Int) := by omega
  have ej40 : (40 * (j : Int)) = ((40 * j : Nat) : Int) := by omega
  have kL : am_kd an_K 281 = some (.inr (0, 640)) := by decide +kernel
  have kR : am_kd an_K 282 = some (.inr (0, 640)) := by decide +kernel
  have kT : am_kd an_K 308 = some (.inr (0, 800)) := by decide +kernel
  have kU : am_kd an_K 309 = some (.inr (0, 8)) := by decide +kernel
  rw [ei, ej, ei40, ej40]
  have lf : (l2.map (shf (vmx (l1 ++ r1)))).length = l2.length := List.length_map _
  have lm : (r2.map (shm (vmx (l1 ++ r1)))).length = r2.length := List.length_map _
  have c2 := ct_shf hv0 h2.1.1
  have c3 := ct_shf hv0 h2.1.2
  refine r_clearPool hp (fun m1 a1 a2 a3 a4 => ⟨hp, by omega, ?_⟩)
  have F1 : mpF m m1 := fun a k g1 g2 => a4 a k (by omega) (by omega) (by omega)
  have q1 : m1 283 i = (l1.length : Int) := (F1 _ _ (by decide) (by omega)).trans i1
  rw [q1]
  refine r_loadL (A := []) (B := l1) (w := l1) (np := fun _ => 0) (mk := fun _ => 0) (base := 0) (lim := 800) (K := 0) (D := fun _ => False) hp kL (by decide) kT (by decide) (Or.inl rfl) (by decide) (by decide) zr0 (Nat.le_refl _) hGP e1 h1.1.1 (by omega) rfl (by omega) (by omega) (rel_0 (n := ([] : List Int).length) hs fun c hc => h1.2.1 c (List.mem_append_left _ hc)) (LDI_0 a1) (VTB_new (fun v hv => a2 v hv) (fun v hv h => by obtain ⟨c, hc, _⟩ := h; exact absurd hc (Nat.not_lt_zero _))) (fun c hc => hc.elim) (Ro_fr i3 fun k _ _ => F1 _ _ (by decide) (by omega)) (hA F1) (fun np1 K1 m7 b1 b2 b3 b4 b5 b6 => ⟨hp, by omega, by omega, ?_⟩)
  have F7 : mpF m m7 := mpF_trans F1 (ldF_mp (Or.inl rfl) b6)
  have q2 : m7 284 i = (r1.length : Int) := (F7 _ _ (by decide) (by omega)).trans i2
  rw [q2]
  have z0 : ([] : List Int).length + l1.length = l1.length := Nat.zero_add _
  rw [z0] at b1 b2 b3
  refine r_loadL (A := l1) (B := r1) (w := r1) (np := np1) (mk := fun _ => 0) (base := 0) (lim := 800) hp kR (by decide) kT (by decide) (Or.inl rfl) (by decide) (by decide) zr0 (Nat.le_refl _) hGP e2 h1.1.2 (by omega) rfl (by omega) (by omega) (rel_0 (n := l1.length) hs fun c hc => h1.2.1 c (List.mem_append_right _ hc)) b1 b2 b3 (Ro_fr i4 fun k _ _ => F7 _ _ (by decide) (by omega)) (hA F7) (fun np2 K2 m14 d1 d2 d3 d4 d5 d6 => ⟨hp, by omega, ?_⟩)
  have F14 : mpF m m14 := mpF_trans F7 (ldF_mp (Or.inl rfl) d6)
  have q3 : m14 283 j = (l2.length : Int) := (F14 _ _ (by decide) (by omega)).trans j1
  rw [q3]
  rw [← hlen1] at d1 d2 d3
  have hru : ∀ v, v < 8 → m14 309 v = -1 := fun v hv => by
    rw [d6 _ _ (by decide) (by decide) (by decide) (by omega), b6 _ _ (by decide) (by decide) (by decide) (by omega)]
    exact a3 v hv
  have hno : ∀ v, v < 8 → ¬ Ocr (cl (pgr l1 r1 l2 r2)) (l1 ++ r1).length (880 + vn + v) := fun v hv h => by
    obtain ⟨c, hc, e⟩ := h
    have ec : cl (pgr l1 r1 l2 r2) c = cl (l1 ++ r1) c := by rw [eG, cl_app hc]
    have := vmx_mem (cl_mem hc)
    unfold ptc at e
    rw [ec] at e
    split at e <;> omega
  refine r_loadL (A := l1 ++ r1) (B := l2.map (shf (vmx (l1 ++ r1)))) (w := l2) (np := np2) (mk := fun _ => 0) (base := vn) (lim := 8) hp kL (by decide) kU (by decide) (Or.inr rfl) (by decide) (by decide) zr0 (Nat.le_refl _) hGP eG c2.1 (by omega) (by omega) (by rw [lf]; omega) (by omega) (rel_f (n := (l1 ++ r1).length) hs hvn fun c hc => h2.2.1 c (List.mem_append_left _ hc)) d1 (VTB_new hru hno) d3 (Ro_fr j3 fun k _ _ => F14 _ _ (by decide) (by omega)) (hA F14) (fun np3 K3 m20 f1 f2 f3 f4 f5 f6 => ⟨hp, by omega, ?_⟩)
  have F20 : mpF m m20 := mpF_trans F14 (ldF_mp (Or.inr rfl) f6)
  have q4 : m20 284 j = (r2.length : Int) := (F20 _ _ (by decide) (by omega)).trans j2
  rw [q4]
  rw [← List.length_append] at f1 f2 f3
  refine r_loadL (A := l1 ++ r1 ++ l2.map (shf (vmx (l1 ++ r1)))) (B := r2.map (shm (vmx (l1 ++ r1)))) (w := r2) (np := np3) (mk := fun _ => 0) (base := vn) (lim := 8) hp kR (by decide) kU (by decide) (Or.inr rfl) (by decide) (by decide) zr0 (Nat.le_refl _) hGP e4 c3.2 (by omega) (by omega) (by rw [lm]; omega) (by omega) (rel_m (n := (l1 ++ r1 ++ l2.map (shf (vmx (l1 ++ r1)))).length) hs hvn fun c hc => h2.2.1 c (List.mem_append_right _ hc)) f1 f2 f3 (Ro_fr j4 fun k _ _ => F20 _ _ (by decide) (by omega)) (hA F20) (fun np4 K4 m26 g1 g2 g3 g4 g5 g6 => ⟨hp, ?_⟩)
  have F26 : mpF m m26 := mpF_trans F20 (ldF_mp (Or.inr rfl) g6)
  have l3 : (l1 ++ r1 ++ l2.map (shf (vmx (l1 ++ r1)))).length = (l1 ++ r1).length + l2.length := by rw [List.length_append, lf]
  rw [lm, l3] at g1
  rw [l3] at g4
  have hn : (l1 ++ r1).length + l2.length + r2.length = (pgr l1 r1 l2 r2).length := by omega
  rw [hn] at g1
  have w1 : ∀ q, q < (l1 ++ r1).length → np4 (ptc (cl (pgr l1 r1 l2 r2)) q) = np2 (ptc (cl (pgr l1 r1 l2 r2)) q) := fun q hq => (g4 q (by omega)).trans (f4 q hq)
  have w2 : ∀ q, q < l1.length → np4 (ptc (cl (pgr l1 r1 l2 r2)) q) = np1 (ptc (cl (pgr l1 r1 l2 r2)) q) := fun q hq => (w1 q (by omega)).trans (d4 q hq)
  have x1 : 0 < l1.length := ct_ne h1.1.1
  have x2 : 0 < r1.length := ct_ne h1.1.2
  have x3 : 0 < l2.length := ct_ne h2.1.1
  have fin := k np4 K4 m7 m26 (RGr_of g1 fun c hc => ?_) g1.2.2.2.2.2.2 (hA F26) (fun q hq => ?_) F26
  · rw [w2 0 x1, w1 l1.length (by omega), g4 (l1 ++ r1).length (by omega)] at fin
    rw [l3]
    exact fin
  · simp only [Dor, List.length_nil]
    omega
  · have := b5 q hq
    rw [List.length_nil, Nat.zero_add] at this
    rw [this, w2 q hq]
theorem pq_len {ay : Int → Nat} {cd : Nat → Int} {nx R : Nat → Nat} {mk : Nat → Int} {am : Int} {hole patch : Nat} : ∀ {f : Nat} {st : List (Nat × Bool)} {l : List Int}, pq ay cd nx R mk am hole patch f st = some l → l.length ≤ f := by
  have one : ∀ {f : Nat} {t : Option (List Int)} {x : Int} {l : List Int}, (∀ r, t = some r → r.length ≤ f) → t.map (fun r => x :: r) = some l → l.length ≤ f + 1 := by
    intro f t x l h1 h
    obtain ⟨r, h2, h3⟩ := Option.map_eq_some_iff.mp h
    rw [← h3, List.length_cons]
    exact Nat.succ_le_succ (h1 r h2)
  intro f
  induction f with
  | zero =>
    intro st l h
    cases st with
    | nil => rw [pq] at h; cases h; exact Nat.zero_le _
    | cons e st => cases h
  | succ f ih =>
    intro st l h
    cases st with
    | nil => rw [pq] at h; cases h; exact Nat.zero_le _
    | cons e st =>
      obtain ⟨a, w⟩ := e
      rw [pq] at h
      generalize (if w = false ∧ a = hole then ptc cd patch else a) = a1 at h
      split at h
      · split at h
        · exact one (fun r hr => ih hr) h
        · exact one (fun r hr => ih hr) h
      · exact one (fun r hr => ih hr) h
/-- makesPair() -/
theorem r_makesPair {i j p : Nat} (hp : PP P) (har : arK sc ar) (hRA : RAr sc ar m) (hK : RyM N Lf Rf m) (hO : ∀ u, u < N → ZK sc ar (Lf u) (Rf u)) (hi : i < N) (hj : j < N) (hpl : p < (Lf i).length) (hp0 : 0 ≤ cl (Lf i) p) {post : Int → Mi → Mj → Mp → Prop} (k1 : ∀ R, ovl (ayw ar) (Lf i) (Rf i) (Lf j) (Rf j) p = some R → ∀ m', (pw1 (ayw ar) (Lf i) (Rf i) (Lf j) (Rf j) p R = none → m' 262 90 = -1) → (∀ w1, pw1 (ayw ar) (Lf i) (Rf i) (Lf j) (Rf j) p R = some w1 → m' 262 90 = (w1.length : Int) ∧ (pw2 (ayw ar) (Lf i) (Rf i) (Lf j) (Rf j) p R = none → m' 262 91 = -1) ∧ ∀ w2, pw2 (ayw ar) (Lf i) (Rf i) (Lf j) (Rf j) p R = some w2 → m' 262 91 = (w2.length : Int) ∧ Ro m' 319 0 (nbr [] w1).1 ∧ Ro m' 320 0 (nbr (nbr [] w1).2 w2).1) → mpF m m' → post 1 m' J P) (k0 : ovl (ayw ar) (Lf i) (Rf i) (Lf j) (Rf j) p = none → ∀ m', mpF m m' → post 0 m' J P) : Ci X (d + 3) 163 [.ref 262, .int (iz (i : Int)), .int (iz (p : Int)), .int (iz (j : Int))] m J P post := by
  have h1 := hO i hi
  have h2 := hO j hj
  have hl1 := h1.2.2
  refine Ci.of rfl rfl rfl (b_Mdl_makesPair_0 i p j m J P hp post ?_)
  refine r_loads (X := X) (d := d) (p := p) hp (by omega) har hRA hK hO hi hj (fun np K ma m1 w1 w2 w3 w4 w5 => ?_)
  have epn : ((p : Nat) : Int).toNat = p := by omega
  rw [epn, w4 p hpl]
  have hl2 := h2.2.2
  generalize Lf i = l1 at *
  generalize Rf i = r1 at *
  generalize Lf j = l2 at *
  generalize Rf j = r2 at *
  obtain ⟨hGP, hAm⟩ := GokP (l1 := l1) (r1 := r1) (l2 := l2) (r2 := r2) har h1 h2
  have hlen1 : (l1 ++ r1).length = l1.length + r1.length := List.length_append
  have hlenG := pgr_len (l1 := l1) (r1 := r1) (l2 := l2) (r2 := r2)
  have n2 : 0 < r2.length := ct_ne h2.1.2
  have n3 : 0 < l2.length := ct_ne h2.1.1
  have n4 : 0 < r1.length := ct_ne h1.1.2
  have ep : cl (pgr l1 r1 l2 r2) p = cl l1 p := by unfold pgr; rw [cl_app (by omega), cl_app hpl]
  have hpp : ptc (cl (pgr l1 r1 l2 r2)) p = p := ptc_s (by rw [ep]; exact hp0)
  have hKn := w1.1.1
  have hG8 := hGP.1
  have kF : am_kd an_K 319 = some (.inr (0, 200)) := by decide +kernel
  have kS : am_kd an_K 320 = some (.inr (0, 200)) := by decide +kernel
  refine r_one (a0 := p) (b0 := (l1 ++ r1).length) hp hGP ayw_32 hAm w1 w2 w3 (by omega) (by omega) (fun R hR m2 rn T B u1 u2 u3 u4 => ⟨hp, zr1, fun _ => ?_, fun g => absurd (by decide) g⟩) (fun hn m2 u1 => ⟨hp, zr0, fun g => absurd rfl g, fun _ => k0 hn m2 (mpF_trans w5 (onF_mp u1))⟩)
  have hu := uni_ok hGP ayw_32 (by omega) (by omega) hR
  have q1 := pw1_pq har h1 h2 hpl hR
  have q2 := pw2_pq har h1 h2 hpl hp0 hR
  have F2 := mpF_trans w5 (onF_mp u4)
  have Fa : mpF m2 (mu m2 262 87 0) := fun a k g1 g2 => mu_ne _ _ (by omega)
  refine r_clearNumbers (cd := cl (pgr l1 r1 l2 r2)) (n := (pgr l1 r1 l2 r2).length) (np := np) (K := K) hp ((mu_ne _ _ (by decide)).trans u2.1.2) (by omega) (fun z hz => (RGr_sym hGP u2 hz).1) (fun m3 v1 v2 => ⟨hp, ?_⟩)
  have e23 : ∀ b k, b ≠ 306 → ¬ (b = 262 ∧ (k = 86 ∨ k = 87)) → m3 b k = m2 b k := fun b k g1 g2 => (v2 b k g1 (by omega)).trans (mu_ne _ _ (by omega))
  have F3 : mpF m m3 := fun a k g1 g2 => (e23 a k (by omega) (by omega)).trans (F2 a k g1 g2)
  have am3 : m3 262 87 = 0 := (v2 _ _ (by decide) (by decide)).trans (mu_at _ _ _ _)
  have L3 : RLk (cl (pgr l1 r1 l2 r2)) (pgr l1 r1 l2 r2).length np R rn T B K m3 := RLk_fr u1 fun k => e23 _ _ (by decide) (by omega)
  have R3 : RGr (ayw ar) (cl (pgr l1 r1 l2 r2)) (nl (ayw ar) (pgr l1 r1 l2 r2)) (fun _ => 0) np (pgr l1 r1 l2 r2).length K m3 := RGr_fr u2 (e23 _ _ (by decide) (by decide)) (fun k => e23 _ _ (by decide) (by omega)) (fun k => e23 _ _ (by decide) (by omega)) (fun k => e23 _ _ (by decide) (by omega))
  have A3 : ARr (ayw ar) (cl (pgr l1 r1 l2 r2)) (pgr l1 r1 l2 r2).length m3 := fun c hc h0 => ⟨(w3 c hc h0).1, (e23 _ _ (by decide) (by omega)).trans ((u4 _ _ (by decide) (by decide) (by decide) (by decide) (by decide) (by decide)).trans (w3 c hc h0).2)⟩
  have hno : ∀ z, Ocr (cl (pgr l1 r1 l2 r2)) (pgr l1 r1 l2 r2).length z → ((np z : Int) = -1 ↔ z = 100000) := fun z hz => by
    have := Ocr_lt hGP hz
    omega
  have hho : ∀ z, Ocr (cl (pgr l1 r1 l2 r2)) (pgr l1 r1 l2 r2).length z → ((np z : Int) = (np (ptc (cl (pgr l1 r1 l2 r2)) p) : Int) ↔ z = p) := fun z hz => by
    rw [hpp]
    constructor
    · intro e
      exact RGr_inj u2 hz (ocr_mk (c := p) (by omega) hpp) (by omega)
    · intro e
      rw [e]
  have hpK := (RGr_sym hGP u2 (ocr_mk (c := p) (by omega) rfl)).1
  -- the second TERM
  have second : ∀ (m4 : Mi) (seen : List Int), NBM (cl (pgr l1 r1 l2 r2)) (pgr l1 r1 l2 r2).length np seen m4 → seen.length ≤ 10000 → wrF 319 0 m3 m4 → ∀ z45 : Int, (∀ m5, (pw2 (ayw ar) l1 r1 l2 r2 p R = none → m5 262 91 = -1) → (∀ l, pw2 (ayw ar) l1 r1 l2 r2 p R = some l → m5 262 91 = (l.length : Int) ∧ Ro m5 320 0 (nbr seen l).1) → m5 262 90 = z45 → (∀ k, m5 319 k = m4 319 k) → mpF m m5 → post 1 m5 J P) → Ci X (d + 2) 172 [.ref 262, .int (iz (np (ptc (cl (pgr l1 r1 l2 r2)) 0) : Nat)), .int (iz (np (ptc (cl (pgr l1 r1 l2 r2)) p) : Nat)), .int (iz (np (ptc (cl (pgr l1 r1 l2 r2)) ((l1 ++ r1).length + l2.length)) : Nat)), .int (iz 0), .int (iz 200), .ref 320, .int (iz 0)] (mu m4 262 90 z45) J P (fun z50 m47 J48 P49 => PP P49 ∧ post 1 (mu m47 262 91 z50) J48 P49) := by
    intro m4 seen t1 t2 t3 z45 kk
    generalize hm5 : mu m4 262 90 z45 = m5
    have f5 : ∀ b k, ¬ (b = 262 ∧ k = 90) → m5 b k = m4 b k := fun b k g => by rw [← hm5, mu_ne _ _ g]
    have f5' : m5 262 90 = z45 := by rw [← hm5, mu_at]
    have F4 : mpF m m4 := mpF_trans F3 (wrF_mp (Or.inl rfl) t3)
    have e35 : ∀ b k, b < 317 → b ≠ 306 → ¬ (b = 262 ∧ (k = 86 ∨ k = 90)) → m5 b k = m3 b k := fun b k g1 g2 g3 => (f5 b k (by omega)).trans (t3 b k (by omega) (by omega) g2 (by omega) (by omega))
    have L5 := RLk_fr (m' := m5) L3 fun k => e35 _ _ (by decide) (by decide) (by omega)
    have R5 := RGr_fr (m' := m5) R3 (e35 _ _ (by decide) (by decide) (by decide)) (fun k => e35 _ _ (by decide) (by decide) (by omega)) (fun k => e35 _ _ (by decide) (by decide) (by omega)) (fun k => e35 _ _ (by decide) (by decide) (by omega))
    have A5 : ARr (ayw ar) (cl (pgr l1 r1 l2 r2)) (pgr l1 r1 l2 r2).length m5 := fun c hc h0 => ⟨(A3 c hc h0).1, (e35 _ _ (by decide) (by decide) (by omega)).trans (A3 c hc h0).2⟩
    have fin : ∀ (z50 : Int) (m6 : Mi), wrF 320 0 m5 m6 → (pw2 (ayw ar) l1 r1 l2 r2 p R = none → z50 = -1) → (∀ l, pw2 (ayw ar) l1 r1 l2 r2 p R = some l → z50 = (l.length : Int) ∧ Ro m6 320 0 (nbr seen l).1) → post 1 (mu m6 262 91 z50) J P := by
      intro z50 m6 s1 s2 s3
      refine kk _ (fun h => by rw [mu_at]; exact s2 h) (fun l h => ⟨by rw [mu_at]; exact (s3 l h).1, Ro_fr (s3 l h).2 fun k _ _ => mu_ne _ _ (by omega)⟩) ?_ (fun k => ?_) (fun a k g1 g2 => ?_)
      · rw [mu_ne _ _ (by decide), s1 _ _ (by decide) (by decide) (by decide) (by decide) (by decide)]; exact f5'
      · rw [mu_ne _ _ (by omega), s1 _ _ (by decide) (by decide) (by decide) (by omega) (by omega), f5 _ _ (by omega)]
      · rw [mu_ne _ _ (by omega), s1 a k (by omega) (by omega) (by omega) (by omega) (by omega), f5 a k (by omega)]
        exact F4 a k g1 g2
    have := r_write (X := X) (d := d + 1) (J := J) (P := P) (m := m5) (a0 := ptc (cl (pgr l1 r1 l2 r2)) 0) (hole := p) (patch := (l1 ++ r1).length + l2.length) (lim := 200) (x6 := 320) (nx6 := 200) (x7 := 0) (x2 := (np (ptc (cl (pgr l1 r1 l2 r2)) p) : Int)) (x3 := (np (ptc (cl (pgr l1 r1 l2 r2)) ((l1 ++ r1).length + l2.length)) : Int)) (am := 0) (w := false) (seen0 := seen) hp kS (by decide) (Or.inr (Or.inl rfl)) (Nat.le_refl _) (Nat.le_refl _) t2 hGP (by omega) hho (by constructor <;> omega) (fun _ => ⟨by omega, rfl⟩) (Or.inl rfl) (fun _ => Int.le_refl 0) ((e35 _ _ (by decide) (by decide) (by decide)).trans am3) L5 R5 A5 (ocr_mk (c := 0) (by omega) rfl) (NBM_fr t1 (f5 _ _ (by decide)) (fun k => f5 _ _ (by omega))) (post := fun z50 m47 J48 P49 => PP P49 ∧ post 1 (mu m47 262 91 z50) J48 P49) (fun l hl m6 s1 s2 s3 => ⟨hp, fin _ m6 s3 (fun h => by rw [q2, h] at hl; cases hl) (fun l' h => by rw [q2, h] at hl; cases hl; exact ⟨rfl, s1⟩)⟩) (fun hn m6 seen' s1 s2 s3 => ⟨hp, fin _ m6 s3 (fun _ => rfl) (fun l' h => by rw [q2, h] at hn; cases hn)⟩)
    exact this
  have := r_write (X := X) (d := d + 1) (J := J) (P := P) (m := m3) (a0 := ptc (cl (pgr l1 r1 l2 r2)) l1.length) (hole := 100000) (patch := 0) (lim := 200) (x6 := 319) (nx6 := 200) (x7 := 0) (x2 := -1) (x3 := -1) (am := 0) (w := false) (seen0 := []) hp kF (by decide) (Or.inl rfl) (Nat.le_refl _) (Nat.le_refl _) (by decide) hGP (by omega) hno zrm (fun h => absurd (Ocr_lt hGP h) (by decide)) (Or.inl rfl) (fun _ => Int.le_refl 0) am3 L3 R3 A3 (ocr_mk (c := l1.length) (by omega) rfl) v1 (post := fun z45 m42 J43 P44 => PP P44 ∧ Ci X (d + 2) 172 [.ref 262, .int (iz (np (ptc (cl (pgr l1 r1 l2 r2)) 0) : Nat)), .int (iz (np (ptc (cl (pgr l1 r1 l2 r2)) p) : Nat)), .int (iz (np (ptc (cl (pgr l1 r1 l2 r2)) ((l1 ++ r1).length + l2.length)) : Nat)), .int (iz 0), .int (iz 200), .ref 320, .int (iz 0)] (mu m42 262 90 z45) J43 P44 (fun z50 m47 J48 P49 => PP P49 ∧ post 1 (mu m47 262 91 z50) J48 P49)) (fun l hl m4 s1 s2 s3 => ⟨hp, second m4 _ s2 (by have := nbr_seen (l := l) (seen := ([] : List Int)); have := pq_len hl; rw [List.length_nil] at *; omega) s3 _ (fun m5 t1 t2 t3 t4 t5 => ?_)⟩) (fun hn m4 seen' s1 s2 s3 => ⟨hp, second m4 _ s1 (by rw [List.length_nil] at s2; omega) s3 _ (fun m5 t1 t2 t3 t4 t5 => ?_)⟩)
  · exact this
  · rw [q1] at hl
    refine k1 R hR m5 (fun h => by rw [h] at hl; cases hl) (fun w1' h => ?_) t5
    rw [h] at hl
    cases hl
    exact ⟨t3, t1, fun w2 h2 => ⟨(t2 w2 h2).1, Ro_fr s1 fun k _ _ => t4 k, (t2 w2 h2).2⟩⟩
  · rw [q1] at hn
    exact k1 R hR m5 (fun _ => t3) (fun w1' h => by rw [h] at hn; cases hn) t5
end RMK
