/-! the TREE in the class: a NODE is looked at -/
section CLO
variable {X : aX} {d : Nat} {P : Mp} {J : Mj} {m m' : Mi} {ar : Nat → Int} {sc G mg b g : Nat}
/-- loadNode() -/
theorem c_loadNode {x0 i : Nat} {S : Ts} {e : Nd} (hp : PP P) (hx0 : x0 = 8 ∨ x0 = 18) (hb : b = 54 ∨ b = 155) (har : arK sc ar) (hA : BA b sc ar m) (hT : TCm S m) (he : S.1[i]? = some e) (hi : i < 1000) (hok : okN sc ar (ndl e) (ndr e) (ndv e)) (hfit : e.2.1 + (ndg e).length ≤ 30000) {post : Mi → Mj → Mp → Prop} (k : ∀ m', GC x0 (cl (ndg e)) (nl (ayw ar) (ndg e)) (ndg e).length m' → m' x0 2 = ((ndg e).length : Int) → m' x0 3 = vmx (ndg e) → ldC x0 m m' → post m' J P) : Cv X (d + 2) 103 [.ref 38, .ref x0, .int (iz (i : Int)), .ref b] m J P post := by
  have kb := kd_book hb
  have kx := kd_bench hx0
  have kS : am_kd an_K 45 = some (.inr (0, 30000)) := by decide +kernel
  refine Cv.of rfl rfl rfl (b_Tree_loadNode_0 x0 (i : Int) b kx kb m J P hp post ?_)
  obtain ⟨⟨_, _, _, _, _, _, _, h7, h8⟩, h10⟩ := hT.2.1 i e he
  have i7 : (((i : Int) * 9) + 7).toNat = 9 * i + 7 := by omega
  have i8 : (((i : Int) * 9) + 8).toNat = 9 * i + 8 := by omega
  rw [i7, i8, h7, h8]
  have h800 := ng_800 hok
  have hgd := ng_gd har.1 hok
  refine ⟨by omega, by omega, ?_⟩
  exact c_load (d := d) (x0 := x0) (x1 := 45) (n1 := 30000) (from_ := e.2.1) (L := ndg e) hp hx0 kx kS (by omega) (Or.inl (by omega)) hb kb har.1 hA (ng_ct hok) h800.1 hfit (fun c hc => ⟨(hgd c hc).1, by have := (hgd c hc).2; omega⟩) h10 (fun m' w1 w2 w3 w4 => ⟨hp, k m' w1 w2 w3 w4⟩)
/-- what looking at a NODE may change in the class -/
def lkF (m m' : Mi) : Prop := ∀ a k, ¬ (18 ≤ a ∧ a ≤ 27) → ¬ (45 ≤ a ∧ a ≤ 48) → ¬ (a = 38 ∧ (k = 9 ∨ 11 ≤ k)) → m' a k = m a k
theorem lkF_trans {m'' : Mi} (h : lkF m m') (h2 : lkF m' m'') : lkF m m'' := fun a k g1 g2 g3 => (h2 a k g1 g2 g3).trans (h a k g1 g2 g3)
/-- lookAt() -/
theorem c_lookAt {nds : List Nd} {e : Nd} {ans : List An} {fil ex : Nat} {lo : Int} {fu : Bool} (hp : PP P) (hb : b = 54 ∨ b = 155) (har : arK sc ar) (hA : BA b sc ar m) (hg : P 38 2 = some g) (hgo : g = 39 ∨ g = 256) (hgv : m g 7 = (G : Int)) (hAT : ATT 18 m) (hA0 : m 18 8 < 2147483647) (hV : TV sc ar G mg (nds ++ [e], ans, fil, ex, lo, fu)) (hT : TCm (nds ++ [e], ans, fil, ex, lo, fu) m) {post : Int → Mi → Mj → Mp → Prop} (k : ∀ m', TCm (tLook (ayw ar) nds e ans fil ex lo fu).1 m' → ATT 18 m' → m' 18 8 = m 18 8 + 1 → lkF m m' → post (i2b (tLook (ayw ar) nds e ans fil ex lo fu).2) m' J P) : Ci X (d + 3) 102 [.ref 38, .int (iz (nds.length : Int)), .ref b] m J P post := by
  have kb := kd_book hb
  have kx : am_kd an_K 18 = some (.inl 4) := kd_bench (Or.inr rfl)
  have kg := (SP_kd hgo).1
  have hN : NV sc ar G mg fil e := hV.2.2.1 e (List.mem_append_right _ (List.mem_singleton.mpr rfl))
  have hok := hN.1
  have ll : (nds ++ [e]).length = nds.length + 1 := by rw [List.length_append]; rfl
  have b1 := hV.1
  simp only [tcl, ll] at b1
  have hG6 := hV.2.1.1
  have hGv := hN.2.1
  have hfit := hN.2.2.1
  obtain ⟨⟨t1, t2, t3, t4, t5, t6⟩, t7, t8⟩ := id hT
  simp only [ll] at t1 t2 t3 t4 t5 t6
  obtain ⟨⟨_, _, _, _, r4, r5, _, _, _⟩, _⟩ := t7 _ _ (gl_last (l := nds) (x := e))
  obtain ⟨hG, hAm⟩ := ng_G har hok
  have n1 := ct_ne hok.1.1
  have n2 := ct_ne hok.1.2
  have hln := ng_len (l := ndl e) (r := ndr e) (vs := ndv e)
  have h800 := ng_800 hok
  have hgd := ng_gd har.1 hok
  have i4 : (((nds.length : Int) * 9) + 4).toNat = 9 * nds.length + 4 := by omega
  have i5 : (((nds.length : Int) * 9) + 5).toNat = 9 * nds.length + 5 := by omega
  have i6 : (((nds.length : Int) * 9) + 6).toNat = 9 * nds.length + 6 := by omega
  refine Ci.of rfl rfl rfl (b_Tree_lookAt_0 (nds.length : Int) b kb m J P hp post ?_)
  rw [i4, i5, i6]
  refine c_loadNode (d := d) (x0 := 18) (i := nds.length) (e := e) hp (Or.inr rfl) hb har hA hT gl_last (by omega) hok (by omega) (fun m1 u1 u2 u3 u4 => ⟨hp, by omega, ?_⟩)
  have F1 : ∀ a k, ¬ (18 ≤ a ∧ a ≤ 27) → m1 a k = m a k := fun a k q => u4 a k (by omega) (by omega) (by omega)
  rw [F1 _ _ (by omega), r4, show (0 : Int) = ((0 : Nat) : Int) from rfl]
  have A1 : ATT 18 m1 := ATT_fr hAT (u4 _ _ (by omega) (by omega) (by omega)) fun z => u4 _ _ (by omega) (by omega) (by omega)
  have A1' : m1 18 8 = m 18 8 := u4 _ _ (by omega) (by omega) (by omega)
  have FT : ∀ {m4 : Mi}, (∀ a k, ¬ (18 ≤ a ∧ a ≤ 27) → m4 a k = m1 a k) → TCm (nds ++ [e], ans, fil, ex, lo, fu) m4 ∧ lkF m m4 := fun f => ⟨TCm_fr hT (fun k _ => (f _ _ (by omega)).trans (F1 _ _ (by omega))) fun a k g1 g2 => (f _ _ (by omega)).trans (F1 _ _ (by omega)), fun a k g1 _ _ => (f a k g1).trans (F1 a k g1)⟩
  refine c_unifies (d := d) (x0 := 18) hp kx hG ayw_32 hAm u1 A1 (by rw [A1']; exact hA0) (by omega) (by omega) (fun Q hQ m4 rt T B col y1 y2 y3 y4 y5 => ⟨hp, zr1, fun _ => ?_, fun g => absurd (by omega) g⟩) (fun hQ m4 y1 y2 y3 => ⟨hp, zr0, fun g => absurd rfl g, fun _ => ?_⟩)
  · have hQ' : nuni (ayw ar) (ndl e) (ndr e) (ndv e) = some Q := hQ
    refine c_bbegin hp kx (fun m5 z1 z2 z3 z4 => ⟨hp, by omega, by omega, g, hg, kg, ?_⟩)
    have F5 : ∀ a k, ¬ (18 ≤ a ∧ a ≤ 27) → m5 a k = m1 a k := fun a k q => (z4 a k (by omega)).trans (y5 a k (by omega) (by omega))
    have F50 : ∀ a k, ¬ (18 ≤ a ∧ a ≤ 27) → m5 a k = m a k := fun a k q => (F5 a k q).trans (F1 a k q)
    rw [F50 46 _ (by omega), F50 46 _ (by omega), r4, r5, F50 g _ (by omega), hgv, ← hGv]
    have GC5 : GC 18 (cl (ndg e)) (nl (ayw ar) (ndg e)) (ndg e).length m5 := fun c hc => by
      rw [z4 _ _ (by omega), z4 _ _ (by omega), y5 _ _ (by omega) (by omega), y5 _ _ (by omega) (by omega)]
      exact u1 c hc
    have CI5 : CI 18 Q rt T B col m5 := CI_fr y1 (z4 _ _ (by omega)) fun a k _ _ => z4 _ _ (by omega)
    have c5 : m5 18 2 = ((ndg e).length : Int) := (z4 _ _ (by omega)).trans ((y5 _ _ (by omega) (by omega)).trans u2)
    have v5 : m5 18 3 = vmx (ndg e) := (z4 _ _ (by omega)).trans ((y5 _ _ (by omega) (by omega)).trans u3)
    have a5 : m5 18 8 = m 18 8 + 1 := by rw [z4 _ _ (by omega), y4, A1']
    have hvl := hok.2.1
    rw [show ((ndl e).length : Int) + ((ndr e).length : Int) = (((ndl e).length + (ndr e).length : Nat) : Int) by omega]
    refine c_putValues (d := d) (x0 := 18) (from_ := (ndl e).length + (ndr e).length) (count := (ndv e).length) (cells := (ndg e).length) (hole := 100000) (patch := 0) hp kx hG y3 y2 (fun a ha => ⟨fun q => absurd q (by omega), fun q => absurd q (by omega)⟩) zrm (fun q => absurd q (by omega)) (made := []) (by rw [List.length_nil]; omega) (by omega) (Nat.le_refl _) (fun i hi => (ng_st hok hi).1) (by rw [ng_kid hok (Nat.le_refl _), List.take_length]; omega) z1 CI5 GC5 z2 z3 c5 (fun ls hls m6 x1 x2 x3 x4 => ⟨hp, zr1, fun _ => ?_, fun g => absurd (by omega) g⟩) (fun hls m6 x2 x4 => ⟨hp, zr0, fun g => absurd rfl g, fun _ => ?_⟩)
    · have hls' : nval (ayw ar) (ndl e) (ndr e) (ndv e) Q = some ls := hls
      obtain ⟨o1, o2⟩ := nval_ok har hok hQ' hls'
      have fl := flat_len (B := 100) (vs := ls) fun w hw => (o2 w hw).2.1
      rw [List.nil_append] at x1
      have e6 := x1.2.1
      have F6 : ∀ a k, ¬ (18 ≤ a ∧ a ≤ 27) → m6 a k = m1 a k := fun a k q => (x4 a k (by omega) (by omega)).trans (F5 a k q)
      obtain ⟨T6, L6⟩ := FT F6
      have eq6 := tLook_some (nds := nds) (ans := ans) (fil := fil) (ex := ex) (lo := lo) (fu := fu) hQ' hls'
      have a6 : m6 18 8 = m 18 8 + 1 := (x4 _ _ (by omega) (by omega)).trans a5
      obtain ⟨⟨s1, s2, s3, s4, s5, s6⟩, s7, s8⟩ := id T6
      simp only [ll] at s1 s2 s3 s4 s5 s6
      have full : ∀ m7 : Mi, (∀ a k, m7 a k = m6 a k) → (300 ≤ ans.length ∨ 30000 < 4 * (nds.length + 1) + 2 * ans.length + fil + 2 + ls.flatten.length) → post 0 (mu m7 38 9 1) J P := fun m7 f7 hc => by
        have kk := k (mu m7 38 9 1)
        rw [eq6, if_pos hc] at kk
        refine kk ?_ (ATT_fr x2.1 ((mu_a _ (by omega)).trans (f7 _ _)) fun z => (mu_a _ (by omega)).trans (f7 _ _)) ((mu_a _ (by omega)).trans ((f7 _ _).trans a6)) fun a k g1 g2 g3 => (mu_ne _ _ (by omega)).trans ((f7 _ _).trans (L6 a k g1 g2 g3))
        refine ⟨⟨?_, ?_, ?_, ?_, ?_, ?_⟩, fun i x hx => NC_fr (s7 i x hx) (fun k _ _ => (mu_a _ (by omega)).trans (f7 _ _)) fun k _ _ => (mu_a _ (by omega)).trans (f7 _ _), fun k a ha => ACm_fr (s8 k a ha) ((mu_a _ (by omega)).trans (f7 _ _)) ((mu_a _ (by omega)).trans (f7 _ _)) fun k _ _ => (mu_a _ (by omega)).trans (f7 _ _)⟩
        · simp only [ll]; rw [mu_ne _ _ (by omega), f7]; exact s1
        · rw [mu_ne _ _ (by omega), f7]; exact s2
        · rw [mu_ne _ _ (by omega), f7]; exact s3
        · rw [mu_ne _ _ (by omega), f7]; exact s4
        · rw [mu_ne _ _ (by omega), f7]; exact s5
        · rw [mu_at]; rfl
      rw [s2]
      refine ⟨by constructor <;> omega, fun hc => full m6 (fun _ _ => rfl) (Or.inl (by omega)), fun hc => ?_⟩
      refine Ci.of rfl rfl rfl (b_Tree_cells_0 m6 J P hp _ ⟨hp, ?_⟩)
      rw [s1, s2, s3, e6]
      refine ⟨by constructor <;> omega, fun hc2 => ?_, fun hc2 => full m6 (fun _ _ => rfl) (Or.inr (by omega))⟩
      have hvx : vmx (ndg e) ≤ 800 := vmx_le (by omega) fun c hc => by have := (hgd c hc).2; omega
      refine c_rename (x0 := 18) hp kx x1 ((x4 _ _ (by omega) (by omega)).trans v5) ⟨vmx_0, hvx⟩ (fun v hv h0 => ?_) (fun v hv => ?_) (fun m7 x5 x6 => ⟨hp, ?_⟩)
      · obtain ⟨w, hw, hvw⟩ := List.mem_flatten.mp hv
        have := ((o2 w hw).2.2 v hvw).2 h0
        have hd : (ndg e) = ngr (ndl e) (ndr e) (ndv e) := rfl
        rw [← hd] at this
        omega
      · obtain ⟨w, hw, hvw⟩ := List.mem_flatten.mp hv
        by_cases h0 : 0 ≤ v
        · have := ((o2 w hw).2.2 v hvw).1 h0
          have := har.1
          omega
        · omega
      · have F7 : ∀ a k, ¬ (18 ≤ a ∧ a ≤ 27) → m7 a k = m1 a k := fun a k q => (x6 a k (by omega) (by omega)).trans (F6 a k q)
        obtain ⟨T7, L7⟩ := FT F7
        obtain ⟨⟨p1, p2, p3, p4, p5, p6⟩, p7, p8⟩ := id T7
        simp only [ll] at p1 p2 p3 p4 p5 p6
        simp only [mu_a _ (show (38 : Nat) ≠ 46 by decide), mu_a _ (show (38 : Nat) ≠ 47 by decide), mu_a _ (show (38 : Nat) ≠ 48 by decide), p2, p3, Int.toNat_natCast]
        refine ⟨by omega, by omega, by omega, ?_⟩
        generalize hM8 : mu (mu (mu (mu m7 46 (9 * nds.length + 6) (ans.length : Int)) 47 ans.length (nds.length : Int)) 48 ans.length (fil : Int)) 38 12 ((ans.length : Int) + 1) = m8
        have G8 : ∀ a k, ¬ (a = 46 ∧ k = 9 * nds.length + 6) → ¬ (a = 47 ∧ k = ans.length) → ¬ (a = 48 ∧ k = ans.length) → ¬ (a = 38 ∧ k = 12) → m8 a k = m7 a k := fun a k h1 h2 h3 h4 => by rw [← hM8, mu_ne _ _ h4, mu_ne _ _ h3, mu_ne _ _ h2, mu_ne _ _ h1]
        have B8 : MD 18 m8 (nbr [] ls.flatten).1 := MD_fr x5 (G8 _ _ (by omega) (by omega) (by omega) (by omega)) fun k => G8 _ _ (by omega) (by omega) (by omega) (by omega)
        have lf : (nbr [] ls.flatten).1.length = ls.flatten.length := nbr_len
        refine c_tkeep (d := d + 1) (x0 := 18) (f := fil) (l := (nbr [] ls.flatten).1) hp kx (Or.inr rfl) B8 ((G8 _ _ (by omega) (by omega) (by omega) (by omega)).trans p3) (by omega) (fun m9 w1 w2 w3 => ⟨hp, ?_⟩)
        have kk := k m9
        rw [eq6, if_neg (by omega)] at kk
        have G9 : ∀ a k, ¬ (a = 45 ∧ fil ≤ k) → ¬ (a = 38 ∧ k = 15) → ¬ (a = 46 ∧ k = 9 * nds.length + 6) → ¬ (a = 47 ∧ k = ans.length) → ¬ (a = 48 ∧ k = ans.length) → ¬ (a = 38 ∧ k = 12) → m9 a k = m7 a k := fun a k h1 h2 h3 h4 h5 h6 => (w3 a k h1 h2).trans (G8 a k h3 h4 h5 h6)
        refine kk ?_ (ATT_fr x2.1 ((G9 _ _ (by omega) (by omega) (by omega) (by omega) (by omega) (by omega)).trans (x6 _ _ (by omega) (by omega))) fun z => (G9 _ _ (by omega) (by omega) (by omega) (by omega) (by omega) (by omega)).trans (x6 _ _ (by omega) (by omega))) ((G9 _ _ (by omega) (by omega) (by omega) (by omega) (by omega) (by omega)).trans ((x6 _ _ (by omega) (by omega)).trans a6)) fun a k g1 g2 g3 => (G9 a k (by omega) (by omega) (by omega) (by omega) (by omega) (by omega)).trans (L7 a k g1 g2 g3)
        have la : (ans ++ [(nds.length, fil, nbl [] ls)]).length = ans.length + 1 := by rw [List.length_append]; rfl
        have l2 : (nds ++ [(e.1, e.2.1, e.2.2.1, (ans.length : Int))]).length = nds.length + 1 := by rw [List.length_append]; rfl
        refine ⟨⟨?_, ?_, ?_, ?_, ?_, ?_⟩, fun i x hx => ?_, fun q a ha => ?_⟩
        · simp only [l2]; rw [G9 _ _ (by omega) (by omega) (by omega) (by omega) (by omega) (by omega)]; exact p1
        · simp only [la]; rw [w3 _ _ (by omega) (by omega), ← hM8, mu_at]; omega
        · rw [w2, lf]
        · rw [G9 _ _ (by omega) (by omega) (by omega) (by omega) (by omega) (by omega)]; exact p4
        · rw [G9 _ _ (by omega) (by omega) (by omega) (by omega) (by omega) (by omega)]; exact p5
        · rw [G9 _ _ (by omega) (by omega) (by omega) (by omega) (by omega) (by omega)]; exact p6
        · rcases gl_snoc hx with ⟨q1, q⟩ | ⟨q, q2⟩
          · have hx2 := (hV.2.2.1 x (List.mem_append_left _ (gl_lt q).2)).2.2.1
            dsimp only at hx2
            exact NC_fr (p7 i x (gl_old q)) (fun k _ _ => G9 _ _ (by omega) (by omega) (by omega) (by omega) (by omega) (by omega)) fun k _ _ => G9 _ _ (by omega) (by omega) (by omega) (by omega) (by omega) (by omega)
          · subst q; subst q2
            obtain ⟨⟨h1, h2, h3, h4, h5, h6, h7, h8, h9⟩, h10⟩ := p7 _ _ (gl_last (l := nds) (x := e))
            have gt : ∀ k, k ≠ 9 * nds.length + 6 → m9 46 k = m7 46 k := fun k hk => G9 _ _ (by omega) (by omega) (by omega) (by omega) (by omega) (by omega)
            refine ⟨⟨(gt _ (by omega)).trans h1, (gt _ (by omega)).trans h2, (gt _ (by omega)).trans h3, (gt _ (by omega)).trans h4, (gt _ (by omega)).trans h5, (gt _ (by omega)).trans h6, ?_, (gt _ (by omega)).trans h8, (gt _ (by omega)).trans h9⟩, Ro_fr h10 fun k g1 g2 => G9 _ _ ?_ (by omega) (by omega) (by omega) (by omega) (by omega)⟩
            · rw [w3 _ _ (by omega) (by omega), ← hM8, mu_a _ (by omega), mu_a _ (by omega), mu_a _ (by omega), mu_at]
            · intro g
              have h12 : e.2.1 + (ndg e).length ≤ fil := hfit
              have h13 : k < e.2.1 + (ndg e).length := g2
              exact absurd g.2 (by omega)
        · rcases gl_snoc ha with ⟨q1, qq⟩ | ⟨qq, q2⟩
          · have hx2 := (hV.2.2.2 a (gl_lt qq).2).2.2.1
            dsimp only at hx2
            exact ACm_fr (p8 q a qq) (G9 _ _ (by omega) (by omega) (by omega) (by omega) (by omega) (by omega)) (G9 _ _ (by omega) (by omega) (by omega) (by omega) (by omega) (by omega)) fun k _ _ => G9 _ _ (by omega) (by omega) (by omega) (by omega) (by omega) (by omega)
          · subst qq; subst q2
            refine ⟨?_, ?_, ?_⟩
            · rw [w3 _ _ (by omega) (by omega), ← hM8, mu_a _ (by omega), mu_a _ (by omega), mu_at]
            · rw [w3 _ _ (by omega) (by omega), ← hM8, mu_a _ (by omega), mu_at]
            · dsimp only
              rw [nbl_flat]
              exact w1
    · have hls' : nval (ayw ar) (ndl e) (ndr e) (ndv e) Q = none := hls
      have F6 : ∀ a k, ¬ (18 ≤ a ∧ a ≤ 27) → m6 a k = m1 a k := fun a k q => (x4 a k (by omega) (by omega)).trans (F5 a k q)
      obtain ⟨T6, L6⟩ := FT F6
      have kk := k (mu m6 38 14 (m6 38 14 + 1))
      rw [tLook_lost hQ' hls'] at kk
      refine kk ?_ (ATT_fr x2.1 (mu_a _ (by omega)) fun z => mu_a _ (by omega)) ((mu_a _ (by omega)).trans ((x4 _ _ (by omega) (by omega)).trans a5)) fun a k g1 g2 g3 => (mu_ne _ _ (by omega)).trans (L6 a k g1 g2 g3)
      obtain ⟨⟨s1, s2, s3, s4, s5, s6⟩, s7, s8⟩ := T6
      refine ⟨⟨?_, ?_, ?_, ?_, ?_, ?_⟩, fun i x hx => NC_fr (s7 i x hx) (fun k _ _ => mu_a _ (by omega)) fun k _ _ => mu_a _ (by omega), fun k a ha => ACm_fr (s8 k a ha) (mu_a _ (by omega)) (mu_a _ (by omega)) fun k _ _ => mu_a _ (by omega)⟩
      · rw [mu_ne _ _ (by omega)]; exact s1
      · rw [mu_ne _ _ (by omega)]; exact s2
      · rw [mu_ne _ _ (by omega)]; exact s3
      · rw [mu_ne _ _ (by omega)]; exact s4
      · rw [mu_at, s5]
      · rw [mu_ne _ _ (by omega)]; exact s6
  · have hQ' : nuni (ayw ar) (ndl e) (ndr e) (ndv e) = none := hQ
    obtain ⟨T4, L4⟩ := FT (m4 := m4) fun a k q => y3 a k (by omega) (by omega)
    have kk := k m4
    rw [tLook_none hQ'] at kk
    exact kk T4 y1 (by rw [y2, A1']) L4
end CLO
