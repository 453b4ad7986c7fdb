/-! narrows(), expands(), expand() of the reference -/
section RNX
variable {X : aX} {d : Nat} {P : Mp} {J : Mj} {m m' m0 : Mi} {ar : Nat → Int} {sc G mg N : Nat} {Lf Rf : Nat → List Int}
/-- narrows() -/
theorem r_narrows {S : Ts} {i p u : Nat} {e : Nd} (hp : PP P) (har : arK sc ar) (hRA : RAr sc ar m) (hK : RyM N Lf Rf m) (hu : u < N) (hZ : ZK sc ar (Lf u) (Rf u)) (hgv : m 262 101 = (G : Int)) (hfl : m 262 94 = amg mg) (hV : TV sc ar G mg S) (hT : TR S m) (he : S.1[i]? = some e) (hpl : p < (ndl e).length + (ndr e).length) (hp0 : 0 ≤ cl (ndg e) p) {post : Int → Mi → Mj → Mp → Prop} (k : ∀ m', TR (tNar (ayw ar) mg S i e p u (Lf u) (Rf u)).1 m' → rkF m m' → post (i2b (tNar (ayw ar) mg S i e p u (Lf u) (Rf u)).2) m' J P) : Ci X (d + 6) 205 [.ref 262, .int (iz (i : Int)), .int (iz (p : Int)), .int (iz (u : Int))] m J P post := by
  have kM : am_kd an_K 337 = some (.inr (0, 800)) := by decide +kernel
  have hN := hV.2.2.1 e (gl_lt he).2
  have hok := hN.1
  have hi := (gl_lt he).1
  have hb1 := hV.1
  simp only [tcl] at hb1
  have hG6 := hV.2.1.1
  have hGv := hN.2.1
  have hN16 := hK.1.1
  have h800 := ng_800 hok
  have hgn := ng_gd har.1 hok
  have hk := hok.2.1
  have hge : (ndg e).length = (ngr (ndl e) (ndr e) (ndv e)).length := rfl
  have hln := ng_len (l := ndl e) (r := ndr e) (vs := ndv e)
  have hlx := ngx_len (L := ndg e) (lf := Lf u) (rf := Rf u)
  have n1 := ct_ne hok.1.1
  have n2 := ct_ne hok.1.2
  have nr := ct_ne hZ.1.2
  have nf := ct_ne hZ.1.1
  have hNR := hT.2.1 i e he
  have hfit := hN.2.2.1
  obtain ⟨hG, hAm⟩ := ngx_G har hok hZ
  have hG' : Gok (ayw ar) (cl (ngx (ndg e) (Lf u) (Rf u))) (nl (ayw ar) (ngx (ndg e) (Lf u) (Rf u))) (ngx (ndg e) (Lf u) (Rf u)).length := hG
  have hlx2 : (ngx (ngr (ndl e) (ndr e) (ndv e)) (Lf u) (Rf u)).length = (ndg e).length + ((Lf u).length + (Rf u).length) := hlx
  have hgd := ngx_gd har hok hZ
  have h880 := hG.1
  refine Ci.of rfl rfl rfl (b_Mdl_narrows_0 (d := d + 1) (i : Int) (p : Int) (u : Int) m J P hp post ?_)
  refine r_loadNR (d := d + 3) (i := i) (u := u) (e := e) hp har hRA hK hu (by omega) hNR hok (by omega) (by rw [hgv, hGv]) hZ (fun np K m1 w1 w2 w3 w4 w5 w6 w7 => ?_)
  have hKn := w1.1.1
  rw [Int.toNat_natCast, w5 p hpl]
  refine ⟨by omega, ?_⟩
  have T1 := TR_fr hT w7
  have ecl : ∀ c, c < (ndg e).length → cl (ngx (ndg e) (Lf u) (Rf u)) c = cl (ndg e) c := fun c hc => cl_app hc
  have hpp : ptc (cl (ngx (ndg e) (Lf u) (Rf u))) p = p := ptc_s (by rw [ecl p (by omega)]; exact hp0)
  have hA1 : ∀ {m2 : Mi}, rnT m m2 → ARr (ayw ar) (cl (ngx (ndg e) (Lf u) (Rf u))) (ngx (ndg e) (Lf u) (Rf u)).length m2 := fun h => ARr_K har (RAr_fr hRA fun k => h _ _ (by omega) (by omega) (by omega)) fun c hc => (hgd c hc).1
  refine r_one (d := d + 3) (a0 := p) (b0 := (ndg e).length) hp hG' ayw_32 hAm w1 w2 w3 (by omega) (by omega) (fun Q hQ m2 rn T B y1 y2 y3 y4 => ⟨hp, zr1, fun _ => ?_, fun g => absurd (by omega) g⟩) (fun hQ m2 y4 => ⟨hp, zr0, fun g => absurd rfl g, fun _ => ?_⟩)
  · have hQ' : nov (ayw ar) (ndg e) (Lf u) (Rf u) p = some Q := hQ
    obtain ⟨⟨u1, u2, u3⟩, u4⟩ := uni_ok hG' ayw_32 (by omega) (by omega) hQ
    have F2 : rnT m m2 := rnT_trans w7 (onF_nT y4)
    have ef : m2 262 94 = amg mg := (F2 _ _ (by omega) (by omega) (by omega)).trans hfl
    rw [ef]
    refine ⟨amg_01, ?_⟩
    refine r_clearNumbers (cd := cl (ngx (ndg e) (Lf u) (Rf u))) (n := (ngx (ndg e) (Lf u) (Rf u)).length) (np := np) (K := K) hp ((mu_ne _ _ (by omega)).trans y2.1.2) (by omega) (fun z hz => (RGr_sym hG' y2 hz).1) (fun m3 v1 v2 => ⟨hp, ?_⟩)
    have g3 : ∀ a k, a ≠ 306 → ¬ (a = 262 ∧ (k = 86 ∨ k = 87)) → m3 a k = m2 a k := fun a k h1 h2 => (v2 a k h1 (by omega)).trans (mu_ne _ _ (by omega))
    have F3 : rnT m m3 := rnT_trans F2 fun a k q1 q2 q3 => g3 a k (by omega) (by omega)
    have am3 : m3 262 87 = amg mg := (v2 _ _ (by omega) (by omega)).trans (mu_at _ _ _ _)
    have GWof : ∀ {m9 : Mi}, (∀ a k, 302 ≤ a → a ≤ 307 → a ≠ 306 → m9 a k = m3 a k) → (∀ k, k = 74 ∨ k = 87 → m9 262 k = m3 262 k) → rnT m m9 → GW (ayw ar) (cl (ngx (ndg e) (Lf u) (Rf u))) (nl (ayw ar) (ngx (ndg e) (Lf u) (Rf u))) Q np rn T (ngx (ndg e) (Lf u) (Rf u)).length B K (mkx (ndg e)) (amg mg) m9 := fun h1 h2 h3 => ⟨RLk_fr y1 fun k => (h1 _ _ (by omega) (by omega) (by omega)).trans (g3 _ _ (by omega) (by omega)), RGr_fr y2 ((h2 _ (Or.inl rfl)).trans (g3 _ _ (by omega) (by omega))) (fun k => (h1 _ _ (by omega) (by omega) (by omega)).trans (g3 _ _ (by omega) (by omega))) (fun k => (h1 _ _ (by omega) (by omega) (by omega)).trans (g3 _ _ (by omega) (by omega))) (fun k => (h1 _ _ (by omega) (by omega) (by omega)).trans (g3 _ _ (by omega) (by omega))), hA1 h3, (h2 _ (Or.inr rfl)).trans am3⟩
    have W3 := GWof (m9 := m3) (fun _ _ _ _ _ => rfl) (fun _ _ => rfl) F3
    have hno : ∀ z, Ocr (cl (ngx (ndg e) (Lf u) (Rf u))) (ngx (ndg e) (Lf u) (Rf u)).length z → ((np z : Int) = (np p : Int) ↔ z = p) := fun z hz => by
      constructor
      · intro q
        exact RGr_inj y2 hz (ocr_mk (c := p) (by omega) hpp) (by omega)
      · intro q
        rw [q]
    have hpK := (RGr_sym hG' y2 (ocr_mk (c := p) (by omega) hpp)).1
    have zpp : Zr (np p : Int) := by constructor <;> omega
    have lost : ∀ m6 : Mi, (tNar (ayw ar) mg S i e p u (Lf u) (Rf u) = (tLst S, true)) → rnT m m6 → post 1 (mu m6 262 99 (m6 262 99 + 1)) J P := fun m6 ht f6 => by
      have kk := k (mu m6 262 99 (m6 262 99 + 1))
      rw [ht] at kk
      exact kk (TR_lost (TR_fr hT f6)) fun a k g1 g2 g3 => (mu_ne _ _ (by omega)).trans (rnT_rk f6 a k g1 g2 g3)
    have side1 : m3 262 124 = (np (ptc (cl (ngx (ndg e) (Lf u) (Rf u))) 0) : Int) := by
      rw [g3 _ _ (by omega) (by omega), y4 _ _ (by omega) (by omega) (by omega) (by omega) (by omega) (by omega)]
      exact w4.1
    have side2 : m3 262 125 = (np (ptc (cl (ngx (ndg e) (Lf u) (Rf u))) (ndl e).length) : Int) := by
      rw [g3 _ _ (by omega) (by omega), y4 _ _ (by omega) (by omega) (by omega) (by omega) (by omega) (by omega)]
      exact w4.2
    have q1 := twp_pq (mg := mg) (a := 0) har hok hZ hV.2.1.2 hN.2.2.2 hpl hp0 hQ' (Or.inl rfl)
    have q2 := twp_pq (mg := mg) (a := (ndl e).length) har hok hZ hV.2.1.2 hN.2.2.2 hpl hp0 hQ' (Or.inr rfl)
    have q3 := twv_hole (R := Q) (p := p) har hok hZ hpl
    rw [side1, hpp]
    have hpt : ∀ z, Ocr (cl (ngx (ndg e) (Lf u) (Rf u))) (ngx (ndg e) (Lf u) (Rf u)).length z → z < 1688 := fun z hz => Ocr_lt hG' hz
    have q1' : pq (ayw ar) (cl (ngx (ndg e) (Lf u) (Rf u))) (nl (ayw ar) (ngx (ndg e) (Lf u) (Rf u))) Q (mkx (ndg e)) (amg mg) p ((ndg e).length + (Lf u).length) 100 [(ptc (cl (ngx (ndg e) (Lf u) (Rf u))) 0, false)] = (twp (ayw ar) mg (ndg e) (Lf u) (Rf u) p Q 0).map fun w => w.map c64 := q1
    have q2' : pq (ayw ar) (cl (ngx (ndg e) (Lf u) (Rf u))) (nl (ayw ar) (ngx (ndg e) (Lf u) (Rf u))) Q (mkx (ndg e)) (amg mg) p ((ndg e).length + (Lf u).length) 100 [(ptc (cl (ngx (ndg e) (Lf u) (Rf u))) (ndl e).length, false)] = (twp (ayw ar) mg (ndg e) (Lf u) (Rf u) p Q (ndl e).length).map fun w => w.map c64 := q2
    refine r_write (d := d + 4) (a0 := ptc (cl (ngx (ndg e) (Lf u) (Rf u))) 0) (hole := p) (patch := (ndg e).length + (Lf u).length) (lim := 100) (x6 := 337) (nx6 := 800) (x7 := 0) (x2 := (np p : Int)) (x3 := (np (ptc (cl (ngx (ndg e) (Lf u) (Rf u))) ((ndg e).length + (Lf u).length)) : Int)) (am := amg mg) (w := false) (seen0 := []) hp kM (by omega) (Or.inr (Or.inr rfl)) (by omega) (by omega) (by simp) hG' (by omega) hno zpp (fun _ => ⟨by omega, rfl⟩) amg_01 (fun c => mkx_0) am3 W3.1 W3.2.1 W3.2.2.1 (ocr_mk (c := 0) (by omega) rfl) v1 (fun l' hl' m4 c1 c2 c3 => ?_) (fun hn m4 seen' c2 c7 c3 => ?_)
    · obtain ⟨wl, hwl, rfl⟩ := Option.map_eq_some_iff.mp (q1'.symm.trans hl')
      have k1 := twp_ok har hok hZ hV.2.1.2 (by omega) hQ' (a := 0) (by omega) hwl
      have lwl := k1.1.2
      have s1 := nbr_seen (l := wl) (seen := [])
      rw [List.length_nil] at s1
      rw [c64_nbr] at c1 c2
      dsimp only at c1 c2
      rw [List.length_map]
      have m5a : ∀ a k, ¬ (a = 262 ∧ k = 120) → mu m4 262 120 (wl.length : Int) a k = m4 a k := fun a k h => mu_ne _ _ h
      rw [mu_at]
      refine ⟨hp, by constructor <;> omega, fun _ => ?_, fun g => absurd (by omega) g⟩
      have c3' : ∀ a k, a ≠ 317 → a ≠ 318 → a ≠ 306 → ¬ (a = 262 ∧ k = 86) → a ≠ 337 → m4 a k = m3 a k := fun a k h1 h2 h3 h4 h5 => c3 a k h1 h2 h3 h4 (by omega)
      have F4 : rnT m m4 := rnT_trans F3 fun a k h1 h2 h3 => c3' a k (by omega) (by omega) (by omega) (by omega) (by omega)
      have F5 : rnT m (mu m4 262 120 (wl.length : Int)) := rnT_trans F4 fun a k h1 h2 h3 => m5a a k (by omega)
      have W5 := GWof (m9 := mu m4 262 120 (wl.length : Int)) (fun a k h1 h2 h3 => (m5a a k (by omega)).trans (c3' a k (by omega) (by omega) (by omega) (by omega) (by omega))) (fun k hk => (m5a _ _ (by omega)).trans (c3' _ _ (by omega) (by omega) (by omega) (by omega) (by omega))) F5
      rw [show (mu m4 262 120 (wl.length : Int)) 262 125 = (np (ptc (cl (ngx (ndg e) (Lf u) (Rf u))) (ndl e).length) : Int) from (m5a _ _ (by omega)).trans ((c3' _ _ (by omega) (by omega) (by omega) (by omega) (by omega)).trans side2)]
      refine r_write (d := d + 4) (a0 := ptc (cl (ngx (ndg e) (Lf u) (Rf u))) (ndl e).length) (hole := p) (patch := (ndg e).length + (Lf u).length) (lim := 100) (x6 := 337) (nx6 := 800) (x7 := wl.length) (x2 := (np p : Int)) (x3 := (np (ptc (cl (ngx (ndg e) (Lf u) (Rf u))) ((ndg e).length + (Lf u).length)) : Int)) (am := amg mg) (w := false) (seen0 := (nbr [] wl).2) hp kM (by omega) (Or.inr (Or.inr rfl)) (by omega) (by omega) (by omega) hG' (by omega) hno zpp (fun _ => ⟨by omega, rfl⟩) amg_01 (fun c => mkx_0) W5.2.2.2 W5.1 W5.2.1 W5.2.2.1 (ocr_mk (c := (ndl e).length) (by omega) rfl) (NBM_fr c2 (m5a _ _ (by omega)) fun k => m5a _ _ (by omega)) (fun l' hl' m6 c4 c5 c6 => ?_) (fun hn m6 seen' c5 c7 c6 => ?_)
      · obtain ⟨wr, hwr, rfl⟩ := Option.map_eq_some_iff.mp (q2'.symm.trans hl')
        have k2 := twp_ok har hok hZ hV.2.1.2 (by omega) hQ' (a := (ndl e).length) (by omega) hwr
        have lwr := k2.1.2
        have s2 := nbr_seen (l := wr) (seen := (nbr [] wl).2)
        rw [c64_nbr] at c4 c5
        dsimp only at c4 c5
        rw [List.length_map]
        have c6' : ∀ a k, a ≠ 317 → a ≠ 318 → a ≠ 306 → ¬ (a = 262 ∧ (k = 86 ∨ k = 120)) → a ≠ 337 → m6 a k = m3 a k := fun a k h1 h2 h3 h4 h5 => (c6 a k h1 h2 h3 (by omega) (by omega)).trans ((m5a a k (by omega)).trans (c3' a k h1 h2 h3 (by omega) h5))
        have e120 : m6 262 120 = (wl.length : Int) := (c6 _ _ (by omega) (by omega) (by omega) (by omega) (by omega)).trans (mu_at _ _ _ _)
        generalize hM7 : mu (mu m6 262 121 (wr.length : Int)) 262 122 (((mu m6 262 121 (wr.length : Int)) 262 120) + ((mu m6 262 121 (wr.length : Int)) 262 121)) = m7
        have e122 : m7 262 122 = ((wl.length + wr.length : Nat) : Int) := by rw [← hM7, mu_at, mu_at, mu_ne _ _ (by omega), e120]; omega
        have e121 : m7 262 121 = (wr.length : Int) := by rw [← hM7, mu_ne _ _ (by omega), mu_at]
        have m7a : ∀ a k, ¬ (a = 262 ∧ (k = 121 ∨ k = 122)) → m7 a k = m6 a k := fun a k h => by rw [← hM7, mu_ne _ _ (by omega), mu_ne _ _ (by omega)]
        have F7 : rnT m m7 := rnT_trans F3 fun a k h1 h2 h3 => (m7a a k (by omega)).trans (c6' a k (by omega) (by omega) (by omega) (by omega) (by omega))
        have W7 := GWof (m9 := m7) (fun a k h1 h2 h3 => (m7a a k (by omega)).trans (c6' a k (by omega) (by omega) (by omega) (by omega) (by omega))) (fun k hk => (m7a _ _ (by omega)).trans (c6' _ _ (by omega) (by omega) (by omega) (by omega) (by omega))) F7
        rw [e121]
        refine ⟨hp, by constructor <;> omega, fun g => absurd g (by omega), fun _ => ?_⟩
        refine r_writesValues (d := d + 3) (a := (ndl e).length + (ndr e).length) (G := (ndv e).length) (s0 := wl.length + wr.length) (seen0 := (nbr (nbr [] wl).2 wr).2) (am := amg mg) (mk := mkx (ndg e)) (V := fun c => (ndl e).length + (ndr e).length ≤ c) hp hG' ayw_32 u1 u2 u3 amg_01 (fun c => mkx_0) (by omega) (fun c hc hv h0 i hi => by have := (G_kid hG' hc hi).1; omega) (fun i hi => by have := ngx_st (lf := Lf u) (rf := Rf u) hok hi; exact ⟨Nat.lt_of_lt_of_le this.1 (by omega), this.2⟩) (by omega) (by omega) (by omega) ((F7 _ _ (by omega) (by omega) (by omega)).trans (by rw [hgv, hGv])) e122 (fun i hi => by
          rw [m7a _ _ (by omega), c6' _ _ (by omega) (by omega) (by omega) (by omega) (by omega), g3 _ _ (by omega) (by omega), y4 _ _ (by omega) (by omega) (by omega) (by omega) (by omega) (by omega), w6 i hi]
          show _ = (np (ptc (cl (ngx (ndg e) (Lf u) (Rf u))) (kid (nl (ayw ar) (ngx (ngr (ndl e) (ndr e) (ndv e)) (Lf u) (Rf u))) ((ndl e).length + (ndr e).length) i)) : Int)
          rw [ngx_kid hok (by omega)]) W7 (NBM_fr c5 (m7a _ _ (by omega)) fun k => m7a _ _ (by omega)) (fun ls hls m8 t1 t2 t3 t4 => ⟨hp, zr1, fun g => absurd g (by omega), fun _ => ?_⟩) (fun hls m8 t4 => ⟨hp, zr0, fun _ => lost m8 (tNar_3 hQ' hwl hwr (q3.trans hls)) (rnT_trans F7 (wvF_nT t4)), fun g => absurd rfl g⟩)
        have hls' : twv (ayw ar) (ndg e) (Lf u) (Rf u) p Q ((ndl e).length + (ndr e).length) (ndv e).length = some ls := q3.trans hls
        have k3 := twv_ok har hok hZ (by omega) hQ' hls'
        have fl := flat_len (B := 100) (vs := ls) fun w hw => (k3.2 w hw).2.1
        obtain ⟨x1, x2, x3, x4⟩ := tnew_ok (mg := mg) k1.1 k2.1 ⟨by omega, k3.2⟩ fun v hv h0 => by
          rcases List.mem_append.mp hv with q | q
          · exact (k1.2 v q).1 h0
          · exact (k2.2 v q).1 h0
        have F8 : rnT m m8 := rnT_trans F7 (wvF_nT t4)
        have T8 := TR_fr hT F8
        obtain ⟨⟨_, _, _, h4D, _, _, _, _, _⟩, _, _⟩ := T8.2.1 i e he
        have eN := tNar_4 (S := S) (i := i) (u := u) hQ' hwl hwr hls'
        rw [eN] at k
        refine r_addsNode (d := d) (G := G) (mg := mg) (S := S) (l := (nbr [] wl).1) (r := (nbr (nbr [] wl).2 wr).1) (vs := nbl (nbr (nbr [] wl).2 wr).2 ls) (par := (i : Int)) (p := (p : Int)) (u := (u : Int)) (D := e.1.2.2.2 + 1) (pn := i) hp har (RAr_fr hRA fun k => F8 _ _ (by omega) (by omega) (by omega)) ((F8 _ _ (by omega) (by omega) (by omega)).trans hgv) hV T8 x1 (by rw [nbl_len]; omega) x2 ?_ ?_ ?_ ?_ (fun v hv => ?_) (Or.inr ⟨rfl, hi, by rw [h4D]⟩) (fun m9 z1 z2 => ⟨hp, ?_, k m9 z1 (rkF_trans (rnT_rk F8) z2)⟩)
        · rw [nbr_len, t4 _ _ (by omega) (by omega) (by omega) (by omega) (by omega) (by omega), m7a _ _ (by omega)]
          exact e120
        · rw [nbr_len, t4 _ _ (by omega) (by omega) (by omega) (by omega) (by omega) (by omega)]
          exact e121
        · rw [x4]
          exact t3
        · have f4 : ∀ k, k < wl.length + wr.length → m8 337 k = m6 337 k := fun k hk => by rw [t4 _ _ (by omega) (by omega) (by omega) (by omega) (by omega) (by omega), m7a _ _ (by omega)]
          refine Ro_app.mpr ⟨Ro_fr c1 fun k _ hk => ?_, Ro_app.mpr ⟨?_, ?_⟩⟩
          · rw [List.length_map, nbr_len, Nat.zero_add] at hk
            rw [f4 k (by omega), c6 _ _ (by omega) (by omega) (by omega) (by omega) (by omega), m5a _ _ (by omega)]
          · rw [List.length_map, nbr_len, Nat.zero_add]
            refine Ro_fr c4 fun k h1 hk => ?_
            rw [List.length_map, nbr_len] at hk
            exact f4 k (by omega)
          · rw [List.length_map, nbr_len, List.length_map, nbr_len, Nat.zero_add]
            exact t1
        · have hv2 : v < ls.length := by have := hv; rw [nbl_len] at this; exact this
          rw [t2 v hv2]
          exact congrArg _ (nbl_get (seen := (nbr (nbr [] wl).2 wr).2) hv2).symm
        · unfold i2b
          split
          · exact Or.inr rfl
          · exact Or.inl rfl
      · have hwr : twp (ayw ar) mg (ndg e) (Lf u) (Rf u) p Q (ndl e).length = none := by
          rw [q2'] at hn
          rcases h : twp (ayw ar) mg (ndg e) (Lf u) (Rf u) p Q (ndl e).length with _ | w
          · rfl
          · rw [h] at hn; cases hn
        have c6' : ∀ a k, a ≠ 317 → a ≠ 318 → a ≠ 306 → ¬ (a = 262 ∧ (k = 86 ∨ k = 120)) → a ≠ 337 → m6 a k = m3 a k := fun a k h1 h2 h3 h4 h5 => (c6 a k h1 h2 h3 (by omega) (by omega)).trans ((m5a a k (by omega)).trans (c3' a k h1 h2 h3 (by omega) h5))
        generalize hM7 : mu (mu m6 262 121 (-1)) 262 122 (((mu m6 262 121 (-1)) 262 120) + ((mu m6 262 121 (-1)) 262 121)) = m7
        have e121 : m7 262 121 = -1 := by rw [← hM7, mu_ne _ _ (by omega), mu_at]
        have m7a : ∀ a k, ¬ (a = 262 ∧ (k = 121 ∨ k = 122)) → m7 a k = m6 a k := fun a k h => by rw [← hM7, mu_ne _ _ (by omega), mu_ne _ _ (by omega)]
        have F7 : rnT m m7 := rnT_trans F3 fun a k h1 h2 h3 => (m7a a k (by omega)).trans (c6' a k (by omega) (by omega) (by omega) (by omega) (by omega))
        rw [e121]
        exact ⟨hp, zrm, fun _ => lost m7 (tNar_2 hQ' hwl hwr) F7, fun g => absurd (by omega) g⟩
    · have hwl : twp (ayw ar) mg (ndg e) (Lf u) (Rf u) p Q 0 = none := by
        rw [q1'] at hn
        rcases h : twp (ayw ar) mg (ndg e) (Lf u) (Rf u) p Q 0 with _ | w
        · rfl
        · rw [h] at hn; cases hn
      have F4 : rnT m m4 := rnT_trans F3 fun a k h1 h2 h3 => c3 a k (by omega) (by omega) (by omega) (by omega) (by omega)
      rw [mu_at]
      refine ⟨hp, zrm, fun g => absurd g (by omega), fun _ => ?_⟩
      generalize hM7 : mu (mu (mu m4 262 120 (-1)) 262 121 (-1)) 262 122 (((mu (mu m4 262 120 (-1)) 262 121 (-1)) 262 120) + ((mu (mu m4 262 120 (-1)) 262 121 (-1)) 262 121)) = m7
      have e121 : m7 262 121 = -1 := by rw [← hM7, mu_ne _ _ (by omega), mu_at]
      have m7a : ∀ a k, ¬ (a = 262 ∧ (k = 120 ∨ k = 121 ∨ k = 122)) → m7 a k = m4 a k := fun a k h => by rw [← hM7, mu_ne _ _ (by omega), mu_ne _ _ (by omega), mu_ne _ _ (by omega)]
      rw [e121]
      exact ⟨zrm, fun _ => lost m7 (tNar_1 hQ' hwl) (rnT_trans F4 fun a k h1 h2 h3 => m7a a k (by omega)), fun g => absurd (by omega) g⟩
  · have hQ' : nov (ayw ar) (ndg e) (Lf u) (Rf u) p = none := hQ
    have kk := k m2
    rw [tNar_0 hQ'] at kk
    exact kk (TR_fr hT (rnT_trans w7 (onF_nT y4))) (rnT_rk (rnT_trans w7 (onF_nT y4)))
end RNX
