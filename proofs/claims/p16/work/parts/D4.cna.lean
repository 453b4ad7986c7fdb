/-! narrowing in the class -/
section CNA
variable {X : aX} {d : Nat} {P : Mp} {J : Mj} {m m' : Mi} {ar : Nat → Int} {sc G mg b g : Nat}
/-- what narrowing may change in the class -/
def nwF (m m' : Mi) : Prop := ∀ a k, ¬ (8 ≤ a ∧ a ≤ 27) → ¬ (45 ≤ a ∧ a ≤ 48) → ¬ (a = 38 ∧ (k = 9 ∨ 11 ≤ k)) → m' a k = m a k
theorem nwF_trans {m'' : Mi} (h : nwF m m') (h2 : nwF m' m'') : nwF m m'' := fun a k g1 g2 g3 => (h2 a k g1 g2 g3).trans (h a k g1 g2 g3)
theorem lkF_nw (h : lkF m m') : nwF m m' := fun a k g1 g2 g3 => h a k (by omega) g2 g3
/-- the bench holds a NODE -/
def BNd (ar : Nat → Int) (e : Nd) (m : Mi) : Prop := GC 8 (cl (ndg e)) (nl (ayw ar) (ndg e)) (ndg e).length m ∧ m 8 2 = ((ndg e).length : Int) ∧ m 8 3 = vmx (ndg e)
theorem BNd_fr {e : Nd} (h : BNd ar e m) (f0 : ∀ k, k = 2 ∨ k = 3 → m' 8 k = m 8 k) (f1 : ∀ k, m' 9 k = m 9 k) (f2 : ∀ k, m' 10 k = m 10 k) : BNd ar e m' := ⟨GC_fr h.1 f1 f2, (f0 _ (Or.inl rfl)).trans h.2.1, (f0 _ (Or.inr rfl)).trans h.2.2⟩
theorem TCm_full {S : Ts} (h : TCm S m) : TCm (S.1, S.2.1, S.2.2.1, S.2.2.2.1, S.2.2.2.2.1, true) (mu m 38 9 1) := by
  obtain ⟨⟨s1, s2, s3, s4, s5, s6⟩, s7, s8⟩ := h
  refine ⟨⟨?_, ?_, ?_, ?_, ?_, ?_⟩, fun i x hx => NC_fr (s7 i x hx) (fun k _ _ => mu_a _ (by omega)) fun k _ _ => mu_a _ (by omega), fun k a ha => ACm_fr (s8 k a ha) (mu_a _ (by omega)) (mu_a _ (by omega)) fun k _ _ => mu_a _ (by omega)⟩
  · rw [mu_ne _ _ (by omega)]; exact s1
  · rw [mu_ne _ _ (by omega)]; exact s2
  · rw [mu_ne _ _ (by omega)]; exact s3
  · rw [mu_ne _ _ (by omega)]; exact s4
  · rw [mu_ne _ _ (by omega)]; exact s5
  · rw [mu_at]; rfl
theorem TCm_lost {S : Ts} (h : TCm S m) : TCm (tLst S) (mu m 38 14 (m 38 14 + 1)) := by
  obtain ⟨⟨s1, s2, s3, s4, s5, s6⟩, s7, s8⟩ := h
  refine ⟨⟨?_, ?_, ?_, ?_, ?_, ?_⟩, fun i x hx => NC_fr (s7 i x hx) (fun k _ _ => mu_a _ (by omega)) fun k _ _ => mu_a _ (by omega), fun k a ha => ACm_fr (s8 k a ha) (mu_a _ (by omega)) (mu_a _ (by omega)) fun k _ _ => mu_a _ (by omega)⟩
  · rw [mu_ne _ _ (by omega)]; exact s1
  · rw [mu_ne _ _ (by omega)]; exact s2
  · rw [mu_ne _ _ (by omega)]; exact s3
  · rw [mu_ne _ _ (by omega)]; exact s4
  · rw [mu_at, s5]; rfl
  · rw [mu_ne _ _ (by omega)]; exact s6
/-- narrow() -/
theorem c_narrow {S : Ts} {i p u : Nat} {e : Nd} {lf rf : List Int} (hp : PP P) (hb : b = 54 ∨ b = 155) (har : arK sc ar) (hA : BA b sc ar m) (hg : P 38 2 = some g) (hgo : g = 39 ∨ g = 256) (hgv : m g 7 = (G : Int)) (hmk : m 38 10 = (mg : Int)) (hB : BNd ar e m) (hA8 : ATT 8 m) (hA80 : m 8 8 < 2147483647) (hAT : ATT 18 m) (hA0 : m 18 8 < 2147483647) (hR : RB (b + 5 + 6 * u) (ayw ar) lf rf m) (hZ : ZK sc ar lf rf) (hu : u < 16) (hpl : p < (ndl e).length + (ndr e).length) (hV : TV sc ar G mg S) (hT : TCm S m) (he : S.1[i]? = some e) {post : Int → Mi → Mj → Mp → Prop} (k : ∀ m', TCm (tNar (ayw ar) mg S i e p u lf rf).1 m' → BNd ar e m' → ATT 8 m' → m' 8 8 = m 8 8 + 1 → ATT 18 m' → m' 18 8 ≤ m 18 8 + 1 → nwF m m' → post (i2b (tNar (ayw ar) mg S i e p u lf rf).2) m' J P) : Ci X (d + 4) 109 [.ref 38, .int (iz (i : Int)), .int (iz (p : Int)), .int (iz (u : Int)), .ref b] m J P post := by
  have kb := kd_book hb
  have kx : am_kd an_K 8 = some (.inl 4) := kd_bench (Or.inl rfl)
  have kg := (SP_kd hgo).1
  have kr := kd_rule hb hu
  have hN := hV.2.2.1 e (gl_lt he).2
  have hok := hN.1
  have hi := (gl_lt he).1
  have hb1 := hV.1
  have hG6 := hV.2.1.1
  have hGv := hN.2.1
  have h800 := ng_800 hok
  have hgd := ng_gd har.1 hok
  have hln := ng_len (l := ndl e) (r := ndr e) (vs := ndv e)
  have n1 := ct_ne hok.1.1
  have n2 := ct_ne hok.1.2
  have nr := ct_ne hZ.1.2
  have nf := ct_ne hZ.1.1
  have hlx := ngx_len (L := ndg e) (lf := lf) (rf := rf)
  have hlx2 : (ngx (ngr (ndl e) (ndr e) (ndv e)) lf rf).length = (ndg e).length + (lf.length + rf.length) := hlx
  have hge : (ndg e).length = (ngr (ndl e) (ndr e) (ndv e)).length := rfl
  obtain ⟨hG, hAm⟩ := ngx_G har hok hZ
  have hpg : p < (ndg e).length := by show p < (ngr (ndl e) (ndr e) (ndv e)).length; omega
  obtain ⟨⟨_, _, _, r3, r4, r5, _, _, _⟩, _⟩ := hT.2.1 i e he
  have i4 : (((i : Int) * 9) + 4).toNat = 9 * i + 4 := by omega
  have i5 : (((i : Int) * 9) + 5).toNat = 9 * i + 5 := by omega
  have hvx : vmx (ndg e) ≤ 800 := vmx_le (by omega) fun c hc => by have := (hgd c hc).2; omega
  refine Ci.of rfl rfl rfl (b_Tree_narrow_0 (i : Int) (p : Int) (u : Int) b kb m J P hp post ?_)
  rw [Int.toNat_natCast, i4, i5]
  refine ⟨by omega, ?_⟩
  refine c_badd (d := d + 3) (x0 := 8) (o := b + 5 + 6 * u) (L := ndg e) (l := lf) (r := rf) (vv := vmx (ndg e)) hp (Or.inl rfl) kx kr (by omega) (ng_ct hok) h800.1 (by have := hZ.2.2; omega) hB.1 hB.2.1 hB.2.2 vmx_0 hR.1.1 hR.1.2 hR.2.1 hR.2.2 (fun c hc => (hZ.2.1 c hc).1) (fun m1 u1 u2 => ⟨hp, ?_⟩)
  have F1 : ∀ a k, ¬ (9 ≤ a ∧ a ≤ 10) → m1 a k = m a k := fun a k q => u2 a k (by omega) (by omega)
  have c1 : m1 8 2 = ((ndg e).length : Int) := (F1 _ _ (by omega)).trans hB.2.1
  rw [c1]
  have hsm : ∀ {m4 : Mi}, GC 8 (cl (ngx (ndg e) lf rf)) (nl (ayw ar) (ngx (ndg e) lf rf)) (ngx (ndg e) lf rf).length m4 → m4 8 2 = ((ndg e).length : Int) → m4 8 3 = vmx (ndg e) → BNd ar e m4 := fun h h1 h2 => ⟨fun c hc => by
    have := h c (by omega)
    rw [show cl (ngx (ndg e) lf rf) c = cl (ndg e) c from cl_app hc, show nl (ayw ar) (ngx (ndg e) lf rf) c = nl (ayw ar) (ndg e) c from nl_app (ng_ct hok) hc] at this
    exact this, h1, h2⟩
  have A1 : ATT 8 m1 := ATT_fr hA8 (F1 _ _ (by omega)) fun z => F1 _ _ (by omega)
  have A1' : m1 8 8 = m 8 8 := F1 _ _ (by omega)
  refine c_unifies (d := d + 1) (x0 := 8) hp kx hG ayw_32 hAm u1 A1 (by rw [A1']; exact hA80) (by omega) (by omega) (fun Q hQ m4 rt T B col y1 y2 y3 y4 y5 => ⟨hp, zr1, fun _ => ?_, fun g => absurd (by omega) g⟩) (fun hQ m4 y1 y2 y3 => ⟨hp, zr0, fun g => absurd rfl g, fun _ => ?_⟩)
  · have hQ' : nov (ayw ar) (ndg e) lf rf p = some Q := hQ
    have F4 : ∀ a k, ¬ (8 ≤ a ∧ a ≤ 17) → m4 a k = m a k := fun a k q => (y5 a k (by omega) (by omega)).trans (F1 a k (by omega))
    have c4 : m4 8 2 = ((ndg e).length : Int) := (y5 _ _ (by omega) (by omega)).trans c1
    rw [c4, F4 (b + 5 + 6 * u) _ (by omega), hR.1.1, show ((ndg e).length : Int) + (lf.length : Int) = (((ndg e).length + lf.length : Nat) : Int) by omega]
    refine c_bbegin hp kx (fun m5 z1 z2 z3 z4 => ⟨hp, by omega, by omega, ?_⟩)
    have F5 : ∀ a k, ¬ (8 ≤ a ∧ a ≤ 17) → m5 a k = m a k := fun a k q => (z4 a k (by omega)).trans (F4 a k q)
    have GC5 : GC 8 (cl (ngx (ndg e) lf rf)) (nl (ayw ar) (ngx (ndg e) lf rf)) (ngx (ndg e) lf rf).length m5 := fun c hc => by
      rw [z4 _ _ (by omega), z4 _ _ (by omega), y5 _ _ (by omega) (by omega), y5 _ _ (by omega) (by omega)]
      exact u1 c hc
    have CI5 : CI 8 Q rt T B col m5 := CI_fr y1 (z4 _ _ (by omega)) fun a k _ _ => z4 _ _ (by omega)
    have c5 : m5 8 2 = ((ndg e).length : Int) := (z4 _ _ (by omega)).trans c4
    have v5 : m5 8 3 = vmx (ndg e) := (z4 _ _ (by omega)).trans ((y5 _ _ (by omega) (by omega)).trans ((F1 _ _ (by omega)).trans hB.2.2))
    have a5 : m5 8 8 = m 8 8 + 1 := by rw [z4 _ _ (by omega), y4, A1']
    have hmg := hV.2.1.2
    have hmg' : (mg : Int) = 0 ∨ (mg : Int) = 1 ∨ (mg : Int) = 2 := by omega
    rw [F5 38 _ (by omega), hmk, F5 46 _ (by omega), F5 46 _ (by omega), r4, r5]
    have hhole : ∀ a, a < (ngx (ndg e) lf rf).length → ((a : Int) = (p : Int) ↔ a = p) := fun a _ => by omega
    have hpatch : p < (ngx (ndg e) lf rf).length → (ndg e).length + lf.length < (ngx (ndg e) lf rf).length ∧ ((((ndg e).length + lf.length : Nat) : Int)) = (((ndg e).length + lf.length : Nat) : Int) := fun _ => ⟨by omega, rfl⟩
    have zp : Zr (p : Int) := by constructor <;> omega
    -- what is lost
    have lost : ∀ m6 : Mi, (tNar (ayw ar) mg S i e p u lf rf = (tLst S, true)) → (∀ a k, ¬ (8 ≤ a ∧ a ≤ 17) → m6 a k = m a k) → BNd ar e m6 → ATT 8 m6 → m6 8 8 = m 8 8 + 1 → post 1 (mu m6 38 14 (m6 38 14 + 1)) J P := fun m6 ht f6 hB6 hA6 ha6 => by
      have kk := k (mu m6 38 14 (m6 38 14 + 1))
      rw [ht] at kk
      refine kk (TCm_lost (TCm_fr hT (fun k _ => f6 _ _ (by omega)) fun a k g1 g2 => f6 _ _ (by omega))) (BNd_fr hB6 (fun k _ => mu_a _ (by omega)) (fun k => mu_a _ (by omega)) fun k => mu_a _ (by omega)) (ATT_fr hA6 (mu_a _ (by omega)) fun z => mu_a _ (by omega)) ((mu_a _ (by omega)).trans ha6) (ATT_fr hAT ((mu_a _ (by omega)).trans (f6 _ _ (by omega))) fun z => (mu_a _ (by omega)).trans (f6 _ _ (by omega))) ?_ fun a k g1 g2 g3 => (mu_ne _ _ (by omega)).trans (f6 a k (by omega))
      rw [mu_a _ (by omega), f6 _ _ (by omega)]
      omega
    have pF : ∀ {m6 m7 : Mi}, (∀ a k, ¬ (8 ≤ a ∧ a ≤ 17) → m6 a k = m a k) → ptF 8 m6 m7 → ∀ a k, ¬ (8 ≤ a ∧ a ≤ 17) → m7 a k = m a k := fun h1 h2 a k q => (h2 a k (by omega) (by omega)).trans (h1 a k q)
    have pB : ∀ {m6 m7 : Mi}, BNd ar e m6 → ptF 8 m6 m7 → BNd ar e m7 := fun h1 h2 => BNd_fr h1 (fun k q => h2 _ _ (by omega) (by omega)) (fun k => h2 _ _ (by omega) (by omega)) fun k => h2 _ _ (by omega) (by omega)
    have B5 : BNd ar e m5 := hsm GC5 c5 v5
    rw [show (0 : Int) = ((0 : Nat) : Int) from rfl, show (100 : Int) = ((100 : Nat) : Int) from rfl]
    refine c_put (d := d + 2) (x0 := 8) (a0 := 0) (hole := p) (patch := (ndg e).length + lf.length) (lim := 100) (mg := (mg : Int)) (made := []) hp kx hG y3 y2 hmg' hhole zp hpatch (by rw [List.length_nil]; omega) (by omega) (by omega) z1 CI5 GC5 z2 z3 (fun wl hwl m6 x1 x2 x3 x4 => ⟨hp, by have := pt_len hwl; constructor <;> omega, fun _ => ?_, fun g => absurd (by omega) g⟩) (fun hwl m6 x2 x4 => ⟨hp, zrm, fun g => absurd rfl g, fun _ => lost m6 (tNar_1 hQ' hwl) (pF F5 x4) (pB B5 x4) x2.1 ((x4 _ _ (by omega) (by omega)).trans a5)⟩)
    have hwl' : twp (ayw ar) mg (ndg e) lf rf p Q 0 = some wl := hwl
    have F6 := pF F5 x4
    have lwl := pt_len hwl
    have B6 := pB B5 x4
    have a6 : m6 8 8 = m 8 8 + 1 := (x4 _ _ (by omega) (by omega)).trans a5
    rw [F6 38 _ (by omega), hmk]
    refine c_put (d := d + 2) (x0 := 8) (a0 := (ndl e).length) (hole := p) (patch := (ndg e).length + lf.length) (lim := 100) (mg := (mg : Int)) (made := [] ++ wl) hp kx hG y3 y2 hmg' hhole zp hpatch (by rw [List.length_append, List.length_nil]; omega) (by omega) (by omega) x1 x2 x3 ((x4 _ _ (by omega) (by omega)).trans z2) ((x4 _ _ (by omega) (by omega)).trans z3) (fun wr hwr m7 p1 p2 p3 p4 => ⟨hp, by have := pt_len hwr; constructor <;> omega, fun g => absurd g (by omega), fun _ => ⟨g, hg, kg, ?_⟩⟩) (fun hwr m7 p2 p4 => ⟨hp, zrm, fun _ => lost m7 (tNar_2 hQ' hwl' hwr) (pF F6 p4) (pB B6 p4) p2.1 ((p4 _ _ (by omega) (by omega)).trans a6), fun g => absurd rfl g⟩)
    have hwr' : twp (ayw ar) mg (ndg e) lf rf p Q (ndl e).length = some wr := hwr
    have F7 := pF F6 p4
    have lwr := pt_len hwr
    have B7 := pB B6 p4
    have a7 : m7 8 8 = m 8 8 + 1 := (p4 _ _ (by omega) (by omega)).trans a6
    rw [F7 g _ (by omega), hgv, ← hGv, show ((ndl e).length : Int) + ((ndr e).length : Int) = (((ndl e).length + (ndr e).length : Nat) : Int) by omega]
    refine c_putValues (d := d + 1) (x0 := 8) (from_ := (ndl e).length + (ndr e).length) (count := (ndv e).length) (cells := (ndg e).length) (hole := p) (patch := (ndg e).length + lf.length) hp kx hG y3 y2 hhole zp hpatch (made := [] ++ wl ++ wr) (by rw [List.length_append, List.length_append, List.length_nil]; omega) (by omega) (by omega) (fun j hj => (ngx_st hok hj).1) (by rw [show kid (nl (ayw ar) (ngx (ndg e) lf rf)) ((ndl e).length + (ndr e).length) (ndv e).length = _ from ngx_kid hok (Nat.le_refl _), List.take_length]; omega) p1 p2 p3 ((p4 _ _ (by omega) (by omega)).trans ((x4 _ _ (by omega) (by omega)).trans z2)) ((p4 _ _ (by omega) (by omega)).trans ((x4 _ _ (by omega) (by omega)).trans z3)) B7.2.1 (fun ls hls m8 q1 q2 q3 q4 => ⟨hp, zr1, fun _ => ?_, fun g => absurd (by omega) g⟩) (fun hls m8 q2 q4 => ⟨hp, zr0, fun g => absurd rfl g, fun _ => lost m8 (tNar_3 hQ' hwl' hwr' hls) (pF F7 q4) (pB B7 q4) q2.1 ((q4 _ _ (by omega) (by omega)).trans a7)⟩)
    have hls' : twv (ayw ar) (ndg e) lf rf p Q ((ndl e).length + (ndr e).length) (ndv e).length = some ls := hls
    have F8 := pF F7 q4
    have B8 := pB B7 q4
    have a8 : m8 8 8 = m 8 8 + 1 := (q4 _ _ (by omega) (by omega)).trans a7
    have eN := tNar_4 (S := S) (i := i) (u := u) hQ' hwl' hwr' hls'
    have k1 := twp_ok har hok hZ hmg hpg hQ' (by omega) hwl'
    have k2 := twp_ok har hok hZ hmg hpg hQ' (by omega) hwr'
    have k3 := twv_ok har hok hZ hpg hQ' hls'
    have fl := flat_len (B := 100) (vs := ls) fun w hw => (k3.2 w hw).2.1
    obtain ⟨w1, w2, w3, w4⟩ := tnew_ok (mg := mg) k1.1 k2.1 ⟨by omega, k3.2⟩ fun v hv h0 => by
      rcases List.mem_append.mp hv with q | q
      · exact (k1.2 v q).1 h0
      · exact (k2.2 v q).1 h0
    rw [List.nil_append] at q1
    have e8 := q1.2.1
    rw [List.length_append, List.length_append] at e8
    have T8 : TCm S m8 := TCm_fr hT (fun k _ => F8 _ _ (by omega)) fun a k g1 g2 => F8 _ _ (by omega)
    obtain ⟨⟨s1, s2, s3, s4, s5, s6⟩, s7, s8⟩ := id T8
    have full : (1000 ≤ S.1.length ∨ 30000 < tcl S + 4 + (wl.length + wr.length + ls.flatten.length)) → post 0 (mu m8 38 9 1) J P := fun hc => by
      have kk := k (mu m8 38 9 1)
      rw [eN, tAdd, w4, if_pos hc] at kk
      refine kk (TCm_full T8) (BNd_fr B8 (fun k _ => mu_a _ (by omega)) (fun k => mu_a _ (by omega)) fun k => mu_a _ (by omega)) (ATT_fr q2.1 (mu_a _ (by omega)) fun z => mu_a _ (by omega)) ((mu_a _ (by omega)).trans a8) (ATT_fr hAT ((mu_a _ (by omega)).trans (F8 _ _ (by omega))) fun z => (mu_a _ (by omega)).trans (F8 _ _ (by omega))) ?_ fun a k g1 g2 g3 => (mu_ne _ _ (by omega)).trans (F8 a k (by omega))
      rw [mu_a _ (by omega), F8 _ _ (by omega)]
      omega
    rw [s1]
    simp only [tcl] at full hb1
    refine ⟨by constructor <;> omega, fun hc => full (Or.inl (by omega)), fun hc => ?_⟩
    refine Ci.of rfl rfl rfl (b_Tree_cells_0 m8 J P hp _ ⟨hp, ?_⟩)
    rw [s1, s2, s3, e8]
    refine ⟨by constructor <;> omega, fun hc2 => ?_, fun hc2 => full (Or.inr (by omega))⟩
    refine c_rename (x0 := 8) hp kx q1 B8.2.2 ⟨vmx_0, hvx⟩ (fun v hv h0 => ?_) (fun v hv => ?_) (fun m9 x5 x6 => ⟨hp, ?_⟩)
    · rcases List.mem_append.mp hv with q | q
      · rcases List.mem_append.mp q with q | q
        · exact (k1.2 v q).2 h0
        · exact (k2.2 v q).2 h0
      · obtain ⟨w, hw, hvw⟩ := List.mem_flatten.mp q
        exact ((k3.2 w hw).2.2 v hvw).2 h0
    · by_cases h0 : 0 ≤ v
      · rcases List.mem_append.mp hv with q | q
        · rcases List.mem_append.mp q with q | q
          · have := ((k1.2 v q).1 h0).1; omega
          · have := ((k2.2 v q).1 h0).1; omega
        · obtain ⟨w, hw, hvw⟩ := List.mem_flatten.mp q
          have := ((k3.2 w hw).2.2 v hvw).1 h0
          have := har.1
          omega
      · omega
    · rw [← w3] at x5
      have F9 : ∀ a k, ¬ (8 ≤ a ∧ a ≤ 17) → m9 a k = m a k := fun a k q => (x6 a k (by omega) (by omega)).trans (F8 a k q)
      have B9 : BNd ar e m9 := BNd_fr B8 (fun k _ => x6 _ _ (by omega) (by omega)) (fun k => x6 _ _ (by omega) (by omega)) fun k => x6 _ _ (by omega) (by omega)
      have T9 : TCm S m9 := TCm_fr hT (fun k _ => F9 _ _ (by omega)) fun a k g1 g2 => F9 _ _ (by omega)
      have ell : (wl.length : Int) = ((nbr [] wl).1.length : Int) := by rw [nbr_len]
      have err : (wr.length : Int) = ((nbr (nbr [] wl).2 wr).1.length : Int) := by rw [nbr_len]
      have ha9 : m9 8 8 = m 8 8 + 1 := (x6 _ _ (by omega) (by omega)).trans a8
      have hA9 : ATT 8 m9 := ATT_fr q2.1 (x6 _ _ (by omega) (by omega)) fun z => x6 _ _ (by omega) (by omega)
      have hnc : ¬ (1000 ≤ S.1.length ∨ 30000 < tcl S + 4 + (wl.length + wr.length + ls.flatten.length)) := by simp only [tcl]; omega
      have eA : tNar (ayw ar) mg S i e p u lf rf = tLook (ayw ar) S.1 (((i : Int), (p : Int), (u : Int), e.1.2.2.2 + 1), S.2.2.1, ((nbr [] wl).1, (nbr (nbr [] wl).2 wr).1, nbl (nbr (nbr [] wl).2 wr).2 ls), -1) S.2.1 (S.2.2.1 + (wl.length + wr.length + ls.flatten.length)) S.2.2.2.1 S.2.2.2.2.1 S.2.2.2.2.2 := by
        rw [eN, tAdd, w4, if_neg hnc]
      have VV := tNar_TV (u := u) har hV he hZ hpl
      have hlv : (nbl (nbr (nbr [] wl).2 wr).2 ls).length = G := by rw [nbl_len]; omega
      clear k1 k2 x1 p1 q1 s7 s8 full lost pF pB hsm
      generalize (nbr [] wl).1 = l' at *
      generalize (nbr (nbr [] wl).2 wr).1 = r' at *
      generalize nbl (nbr (nbr [] wl).2 wr).2 ls = vs' at *
      rw [ell, err]
      have hwl4 : (ngr l' r' vs').length = wl.length + wr.length + ls.flatten.length := w4
      refine c_addNode (d := d + 1) (S := S) (l := l') (r := r') (vs := vs') (par := (i : Int)) (D := e.1.2.2.2 + 1) (pn := i) hp hV T9 x5 (by omega) (by omega) (Or.inr ⟨rfl, hi, by rw [F9 _ _ (by omega), r3]⟩) (fun m10 v1 v2 => ⟨hp, ?_⟩)
      refine c_tellOrigin (p := (p : Int)) (u := (u : Int)) hp v1 (by omega) (fun m11 v3 v4 => ⟨hp, ?_⟩)
      have F11 : ∀ a k, ¬ (8 ≤ a ∧ a ≤ 17) → ¬ (45 ≤ a ∧ a ≤ 48) → ¬ (a = 38 ∧ (k = 9 ∨ 11 ≤ k)) → m11 a k = m a k := fun a k g1 g2 g3 => (v4 a k (by omega)).trans ((v2 a k (by omega) (by omega) (by omega)).trans (F9 a k g1))
      have X11 : ∀ a k, 8 ≤ a → a ≤ 27 → m11 a k = m9 a k := fun a k g1 g2 => (v4 a k (by omega)).trans (v2 a k (by omega) (by omega) (by omega))
      rw [hwl4] at v3
      have V2 : TV sc ar G mg (S.1 ++ [(((i : Int), (p : Int), (u : Int), e.1.2.2.2 + 1), S.2.2.1, (l', r', vs'), -1)], S.2.1, S.2.2.1 + (wl.length + wr.length + ls.flatten.length), S.2.2.2.1, S.2.2.2.2.1, S.2.2.2.2.2) := by
        have ll : (S.1 ++ [(((i : Int), (p : Int), (u : Int), e.1.2.2.2 + 1), S.2.2.1, (l', r', vs'), (-1 : Int))]).length = S.1.length + 1 := by rw [List.length_append]; rfl
        refine ⟨⟨?_, hV.1.2.1, ?_⟩, hV.2.1, fun x hx => ?_, fun x hx => AV_up (hV.2.2.2 x hx) (Nat.le_add_right _ _)⟩
        · show (S.1 ++ [(((i : Int), (p : Int), (u : Int), e.1.2.2.2 + 1), S.2.2.1, (l', r', vs'), (-1 : Int))]).length ≤ 1000
          omega
        · simp only [tcl, ll]
          omega
        · rcases List.mem_append.mp hx with q | q
          · exact NV_up (hV.2.2.1 x q) (Nat.le_add_right _ _)
          · rw [List.mem_singleton.mp q]
            exact ⟨w1, hlv, by show S.2.2.1 + (ngr l' r' vs').length ≤ S.2.2.1 + (wl.length + wr.length + ls.flatten.length); omega, w2⟩
      refine c_lookAt (d := d) (G := G) (mg := mg) (g := g) hp hb har (BA_fr hA har.1 fun k _ => F11 _ _ (by omega) (by omega) (by omega)) hg hgo ((F11 _ _ (by omega) (by omega) (by omega)).trans hgv) (ATT_fr hAT (F11 _ _ (by omega) (by omega) (by omega)) fun z => F11 _ _ (by omega) (by omega) (by omega)) (by rw [F11 _ _ (by omega) (by omega) (by omega)]; exact hA0) V2 v3 (fun m12 t1 t2 t3 t4 => ⟨hp, ?_, ?_⟩)
      · unfold i2b
        split
        · exact Or.inr rfl
        · exact Or.inl rfl
      · have kk := k m12
        rw [eA] at kk
        have Y12 : ∀ a k, 8 ≤ a → a ≤ 17 → m12 a k = m9 a k := fun a k g1 g2 => (t4 a k (by omega) (by omega) (by omega)).trans (X11 a k g1 (by omega))
        refine kk t1 (BNd_fr B9 (fun k _ => Y12 _ _ (by omega) (by omega)) (fun k => Y12 _ _ (by omega) (by omega)) fun k => Y12 _ _ (by omega) (by omega)) (ATT_fr hA9 (Y12 _ _ (by omega) (by omega)) fun z => Y12 _ _ (by omega) (by omega)) ((Y12 _ _ (by omega) (by omega)).trans ha9) t2 ?_ fun a k g1 g2 g3 => (t4 a k (by omega) g2 g3).trans (F11 a k (by omega) g2 g3)
        rw [t3, F11 _ _ (by omega) (by omega) (by omega)]
        omega
  · have hQ' : nov (ayw ar) (ndg e) lf rf p = none := hQ
    have F4 : ∀ a k, ¬ (8 ≤ a ∧ a ≤ 17) → m4 a k = m a k := fun a k q => (y3 a k (by omega) (by omega)).trans (F1 a k (by omega))
    have kk := k m4
    rw [tNar_0 hQ'] at kk
    refine kk (TCm_fr hT (fun k _ => F4 _ _ (by omega)) fun a k g1 g2 => F4 _ _ (by omega)) (hsm (fun c hc => ?_) ((y3 _ _ (by omega) (by omega)).trans c1) ((y3 _ _ (by omega) (by omega)).trans ((F1 _ _ (by omega)).trans hB.2.2))) y1 (by rw [y2, A1']) (ATT_fr hAT (F4 _ _ (by omega)) fun z => F4 _ _ (by omega)) (by rw [F4 _ _ (by omega)]; omega) fun a k g1 g2 g3 => F4 a k (by omega)
    rw [y3 _ _ (by omega) (by omega), y3 _ _ (by omega) (by omega)]
    exact u1 c hc
end CNA
