/-! looksForAnswer() of the reference -/
section RLK_
variable {X : aX} {d : Nat} {P : Mp} {J : Mj} {m m' : Mi} {ar : Nat → Int} {sc G mg : Nat}
/-- what making and looking at NODES may change in the reference -/
def rkF (m m' : Mi) : Prop := ∀ a k, ¬ (302 ≤ a ∧ a ≤ 320) → ¬ (323 ≤ a ∧ a ≤ 340) → ¬ (a = 262 ∧ (k = 74 ∨ k = 87 ∨ k = 86 ∨ k = 95 ∨ k = 96 ∨ k = 98 ∨ k = 99 ∨ k = 100 ∨ k = 102 ∨ k = 120 ∨ k = 121 ∨ k = 122 ∨ k = 124 ∨ k = 125)) → m' a k = m a k
theorem rkF_trans {m'' : Mi} (h : rkF m m') (h2 : rkF m' m'') : rkF m m'' := fun a k g1 g2 g3 => (h2 a k g1 g2 g3).trans (h a k g1 g2 g3)
/-- what leaves the TREE as it is -/
def rnT (m m' : Mi) : Prop := ∀ a k, ¬ (302 ≤ a ∧ a ≤ 320) → ¬ (337 ≤ a ∧ a ≤ 340) → ¬ (a = 262 ∧ (k = 74 ∨ k = 87 ∨ k = 86 ∨ k = 120 ∨ k = 121 ∨ k = 122 ∨ k = 124 ∨ k = 125)) → m' a k = m a k
theorem rnT_trans {m'' : Mi} (h : rnT m m') (h2 : rnT m' m'') : rnT m m'' := fun a k g1 g2 g3 => (h2 a k g1 g2 g3).trans (h a k g1 g2 g3)
theorem rnT_rk (h : rnT m m') : rkF m m' := fun a k g1 g2 g3 => h a k g1 (by omega) (by omega)
theorem tlF_nT (h : tlF m m') : rnT m m' := fun a k g1 g2 g3 => h a k g1 (by omega) (by omega) (by omega)
theorem onF_nT (h : onF m m') : rnT m m' := fun a k g1 g2 g3 => h a k (by omega) (by omega) (by omega) (by omega) (by omega) (by omega)
theorem wvF_nT {s0 : Nat} (h : wvF s0 m m') : rnT m m' := fun a k g1 g2 g3 => h a k (by omega) (by omega) (by omega) (by omega) (by omega) (by omega)
theorem AR_fr {k : Nat} {a : An} (h : AR k a m) (f : ∀ a k, 323 ≤ a → a ≤ 336 → m' a k = m a k) : AR k a m' := ⟨(f _ _ (by omega) (by omega)).trans h.1, (f _ _ (by omega) (by omega)).trans h.2.1, fun v hv => (f _ _ (by omega) (by omega)).trans (h.2.2.1 v hv), Ro_fr h.2.2.2 fun k _ _ => f _ _ (by omega) (by omega)⟩
theorem TR_fr {S : Ts} (h : TR S m) (f : rnT m m') : TR S m' := by
  obtain ⟨⟨h1, h2, h3, h4, h5, h6, h6'⟩, h7, h8⟩ := h
  have g : ∀ a k, 323 ≤ a → a ≤ 336 → m' a k = m a k := fun a k g1 g2 => f a k (by omega) (by omega) (by omega)
  exact ⟨⟨(f _ _ (by omega) (by omega) (by omega)).trans h1, (f _ _ (by omega) (by omega) (by omega)).trans h2, (f _ _ (by omega) (by omega) (by omega)).trans h3, (f _ _ (by omega) (by omega) (by omega)).trans h4, (f _ _ (by omega) (by omega) (by omega)).trans h5, (f _ _ (by omega) (by omega) (by omega)).trans h6, (f _ _ (by omega) (by omega) (by omega)).trans h6'⟩, fun i e q => NR_fr (h7 i e q) g, fun k a q => AR_fr (h8 k a q) g⟩
theorem TR_full {S : Ts} (h : TR S m) : TR (S.1, S.2.1, S.2.2.1, S.2.2.2.1, S.2.2.2.2.1, true) (mu m 262 95 1) := by
  obtain ⟨⟨s1, s2, s3, s4, s5, s6, s6'⟩, s7, s8⟩ := h
  have g : ∀ a k, 323 ≤ a → a ≤ 336 → mu m 262 95 1 a k = m a k := fun a k g1 g2 => mu_a _ (by omega)
  refine ⟨⟨?_, ?_, ?_, ?_, ?_, ?_, ?_⟩, fun i e q => NR_fr (s7 i e q) g, fun k a q => AR_fr (s8 k a q) g⟩
  · rw [mu_ne _ _ (by omega)]; exact s1
  · rw [mu_ne _ _ (by omega)]; exact s2
  · rw [mu_ne _ _ (by omega)]; exact s3
  · rw [mu_ne _ _ (by omega)]; exact s4
  · rw [mu_ne _ _ (by omega)]; exact s5
  · rw [mu_at]; rfl
  · rw [mu_ne _ _ (by omega)]; exact s6'
theorem TR_lost {S : Ts} (h : TR S m) : TR (tLst S) (mu m 262 99 (m 262 99 + 1)) := by
  obtain ⟨⟨s1, s2, s3, s4, s5, s6, s6'⟩, s7, s8⟩ := h
  have g : ∀ a k, 323 ≤ a → a ≤ 336 → mu m 262 99 (m 262 99 + 1) a k = m a k := fun a k g1 g2 => mu_a _ (by omega)
  refine ⟨⟨?_, ?_, ?_, ?_, ?_, ?_, ?_⟩, fun i e q => NR_fr (s7 i e q) g, fun k a q => AR_fr (s8 k a q) g⟩
  · rw [mu_ne _ _ (by omega)]; exact s1
  · rw [mu_ne _ _ (by omega)]; exact s2
  · rw [mu_ne _ _ (by omega)]; exact s3
  · rw [mu_ne _ _ (by omega)]; exact s4
  · rw [mu_at, s5]; rfl
  · rw [mu_ne _ _ (by omega)]; exact s6
  · rw [mu_ne _ _ (by omega)]; exact s6'
/-- marks of a NODE's cells, in the reference's pool -/
def mkn (L : List Int) (c : Nat) : Int := if 0 ≤ cl L c then cl L c / 32 else 0
theorem mkn_0 {L : List Int} {c : Nat} : 0 ≤ mkn L c := by
  unfold mkn
  split <;> omega
/-- VALUES of an ANSWER are kept: their SIZES -/
theorem r_lk138 {i kk N : Nat} {post : Int → Mi → Mj → Mp → Prop} (hp : PP P) (hk : kk < 300) (hN : N ≤ 6) {m0 : Mi} (hgv : m0 262 101 = (N : Int)) (kx : ∀ m1 : Mi, (∀ v, v < N → m1 336 (6 * kk + v) = m0 338 v) → (∀ a k, ¬ (a = 336 ∧ 6 * kk ≤ k ∧ k < 6 * kk + 6) → m1 a k = m0 a k) → Rn X (d + 3) 200 171 [some (.ref 262), some (.int (iz (i : Int))), some (.int (iz (kk : Int))), some (.int (iz 0))] [] (SS m1 J P) (QI post)) : ∀ (q u : Nat) (m : Mi), u + q = N → (∀ v, v < u → m 336 (6 * kk + v) = m0 338 v) → (∀ a k, ¬ (a = 336 ∧ 6 * kk ≤ k ∧ k < 6 * kk + 6) → m a k = m0 a k) → Rn X (d + 3) 200 138 [some (.ref 262), some (.int (iz (i : Int))), some (.int (iz (kk : Int))), some (.int (iz (u : Int)))] [] (SS m J P) (QI post) := by
  intro q
  induction q with
  | zero =>
    intro u m hu h1 h2
    refine b_Mdl_looksForAnswer_138 (i : Int) (kk : Int) (u : Int) m J P hp post ?_
    rw [show m 262 101 = (N : Int) from (h2 _ _ (by omega)).trans hgv]
    exact ⟨by constructor <;> omega, by constructor <;> omega, fun _ => kx m (fun v hv => h1 v (by omega)) h2, fun g => absurd (by omega) g⟩
  | succ q ih =>
    intro u m hu h1 h2
    refine b_Mdl_looksForAnswer_138 (i : Int) (kk : Int) (u : Int) m J P hp post ?_
    rw [show m 262 101 = (N : Int) from (h2 _ _ (by omega)).trans hgv, Int.toNat_natCast, show ((6 * (kk : Int)) + (u : Int)).toNat = 6 * kk + u by omega]
    refine ⟨by constructor <;> omega, by constructor <;> omega, fun g => absurd g (by omega), fun _ => ⟨by omega, by omega, ?_⟩⟩
    rw [show (u : Int) + 1 = ((u + 1 : Nat) : Int) by omega]
    refine ih (u + 1) _ (by omega) (fun v hv => ?_) fun a k h => (mu_ne _ _ (by omega)).trans (h2 a k h)
    by_cases hvu : v = u
    · subst hvu
      rw [mu_at]
      exact h2 _ _ (by omega)
    · rw [mu_ne _ _ (by omega)]
      exact h1 v (by omega)
/-- VALUES of an ANSWER are kept: their cells -/
theorem r_lk171 {i kk f sz : Nat} {post : Int → Mi → Mj → Mp → Prop} (hp : PP P) (hi : i < 1000) (hs : sz ≤ 800) (hf : f + sz ≤ 40000) {m0 : Mi} (hst : m0 262 102 = (f : Int)) (hms : m0 262 122 = (sz : Int)) (kx : ∀ m1 : Mi, (∀ q, q < sz → m1 323 (f + q) = m0 337 q) → (∀ a k, ¬ (a = 323 ∧ f ≤ k ∧ k < f + sz) → m1 a k = m0 a k) → post 1 (mu (mu m1 262 102 ((f : Int) + (sz : Int))) 332 i (kk : Int)) J P) : ∀ (q u : Nat) (m : Mi), u + q = sz → (∀ v, v < u → m 323 (f + v) = m0 337 v) → (∀ a k, ¬ (a = 323 ∧ f ≤ k ∧ k < f + sz) → m a k = m0 a k) → Rn X (d + 3) 200 171 [some (.ref 262), some (.int (iz (i : Int))), some (.int (iz (kk : Int))), some (.int (iz (u : Int)))] [] (SS m J P) (QI post) := by
  intro q
  induction q with
  | zero =>
    intro u m hu h1 h2
    refine b_Mdl_looksForAnswer_171 (i : Int) (kk : Int) (u : Int) m J P hp post ?_
    rw [show m 262 122 = (sz : Int) from (h2 _ _ (by omega)).trans hms, show m 262 102 = (f : Int) from (h2 _ _ (by omega)).trans hst, Int.toNat_natCast]
    exact ⟨by constructor <;> omega, by constructor <;> omega, fun _ => ⟨by omega, kx m (fun v hv => h1 v (by omega)) h2⟩, fun g => absurd (by omega) g⟩
  | succ q ih =>
    intro u m hu h1 h2
    refine b_Mdl_looksForAnswer_171 (i : Int) (kk : Int) (u : Int) m J P hp post ?_
    rw [show m 262 122 = (sz : Int) from (h2 _ _ (by omega)).trans hms, show m 262 102 = (f : Int) from (h2 _ _ (by omega)).trans hst, Int.toNat_natCast, show ((f : Int) + (u : Int)).toNat = f + u by omega]
    refine ⟨by constructor <;> omega, by constructor <;> omega, fun g => absurd g (by omega), fun _ => ⟨by omega, by omega, ?_⟩⟩
    rw [show (u : Int) + 1 = ((u + 1 : Nat) : Int) by omega]
    refine ih (u + 1) _ (by omega) (fun v hv => ?_) fun a k h => (mu_ne _ _ (by omega)).trans (h2 a k h)
    by_cases hvu : v = u
    · subst hvu
      rw [mu_at]
      exact h2 _ _ (by omega)
    · rw [mu_ne _ _ (by omega)]
      exact h1 v (by omega)
theorem nbl_getl {ls : List (List Int)} {seen : List Int} {v : Nat} (h : v < (nbl seen ls).length) (h2 : v < ls.length) : ((nbl seen ls)[v]).length = ls[v].length := nbl_get h2
/-- looksForAnswer() -/
theorem r_lookA {nds : List Nd} {e : Nd} {ans : List An} {fil ex : Nat} {lo : Int} {fu : Bool} (hp : PP P) (har : arK sc ar) (hRA : RAr sc ar m) (hgv : m 262 101 = (G : Int)) (hV : TV sc ar G mg (nds ++ [e], ans, fil, ex, lo, fu)) (hT : TR (nds ++ [e], ans, fil, ex, lo, fu) m) {post : Int → Mi → Mj → Mp → Prop} (k : ∀ m', TR (tLook (ayw ar) nds e ans fil ex lo fu).1 m' → rkF m m' → post (i2b (tLook (ayw ar) nds e ans fil ex lo fu).2) m' J P) : Ci X (d + 4) 200 [.ref 262, .int (iz (nds.length : Int))] m J P post := by
  have hN : NV sc ar G mg fil e := hV.2.2.1 e (List.mem_append_right _ (List.mem_singleton.mpr rfl))
  have hok := hN.1
  have ll : (nds ++ [e]).length = nds.length + 1 := by rw [List.length_append]; rfl
  have b1 := hV.1
  simp only [tcl, ll] at b1
  have hG6 := hV.2.1.1
  have hGv := hN.2.1
  have hfit := hN.2.2.1
  obtain ⟨hG, hAm⟩ := ng_G har hok
  have n1 := ct_ne hok.1.1
  have n2 := ct_ne hok.1.2
  have hln := ng_len (l := ndl e) (r := ndr e) (vs := ndv e)
  have hlg : (ndg e).length = (ndl e).length + (ndr e).length + (ndv e).flatten.length := hln
  have h800 := ng_800 hok
  have hgd := ng_gd har.1 hok
  refine Ci.of rfl rfl rfl (b_Mdl_looksForAnswer_0 (d := d + 1) (nds.length : Int) m J P hp post ?_)
  have hNR := hT.2.1 _ _ (gl_last (l := nds) (x := e))
  refine r_tloads (d := d + 1) (i := nds.length) (e := e) (E := []) (mk := mkn (ndg e)) hp har hRA (by omega) hNR hok (by omega) (by rw [hgv, hGv]) (by rw [List.append_nil]; exact hG) (fun c hc => absurd hc List.not_mem_nil) (fun c _ h0 => by unfold mkn; rw [if_pos h0]) (fun np K m1 hL F1 => ⟨hp, ?_⟩)
  rw [List.append_nil] at hL
  obtain ⟨s1, s2, s3, ⟨s4, s5⟩, s6, s7, s8⟩ := hL
  rw [List.take_length, ← hlg] at s1 s2 s3
  have T1 := TR_fr hT (tlF_nT F1)
  have hA1 : ∀ {m2 : Mi}, rnT m m2 → ARr (ayw ar) (cl (ndg e)) (ndg e).length m2 := fun h => ARr_K har (RAr_fr hRA fun k => h _ _ (by omega) (by omega) (by omega)) fun c hc => (hgd c hc).1
  have hR1 := RGr_of s1 fun c hc => hc
  rw [s4, s5]
  refine r_one (d := d + 1) (a0 := 0) (b0 := (ndl e).length) hp hG ayw_32 hAm hR1 s1.2.2.2.2.2.2 (hA1 (tlF_nT F1)) (by omega) (by omega) (fun Q hQ m2 rn T B y1 y2 y3 y4 => ⟨hp, zr1, fun _ => ?_, fun g => absurd (by omega) g⟩) (fun hQ m2 y4 => ⟨hp, zr0, fun g => absurd rfl g, fun _ => ?_⟩)
  · have hQ' : nuni (ayw ar) (ndl e) (ndr e) (ndv e) = some Q := hQ
    obtain ⟨⟨u1, u2, u3⟩, u4⟩ := uni_ok hG ayw_32 (by omega) (by omega) hQ
    have F2 : rnT m m2 := rnT_trans (tlF_nT F1) (onF_nT y4)
    have hKn := hR1.1.1
    refine r_clearNumbers (cd := cl (ndg e)) (n := (ndg e).length) (np := np) hp ((mu_ne _ _ (by omega)).trans y2.1.2) (by omega) (fun z hz => (RGr_sym hG hR1 hz).1) (fun m3 z1 z2 => ⟨hp, ?_⟩)
    have g3 : ∀ a k, a ≠ 306 → ¬ (a = 262 ∧ (k = 86 ∨ k = 87 ∨ k = 122)) → mu m3 262 122 0 a k = m2 a k := fun a k h1 h2 => by rw [mu_ne _ _ (by omega), z2 a k h1 (by omega), mu_ne _ _ (by omega)]
    have F3 : rnT m (mu m3 262 122 0) := rnT_trans F2 fun a k q1 q2 q3 => g3 a k (by omega) (by omega)
    have W3 : GW (ayw ar) (cl (ndg e)) (nl (ayw ar) (ndg e)) Q np rn T (ndg e).length B K (mkn (ndg e)) 0 (mu m3 262 122 0) := ⟨RLk_fr y1 fun k => g3 _ _ (by omega) (by omega), RGr_fr y2 (g3 _ _ (by omega) (by omega)) (fun k => g3 _ _ (by omega) (by omega)) (fun k => g3 _ _ (by omega) (by omega)) (fun k => g3 _ _ (by omega) (by omega)), hA1 F3, by rw [mu_ne _ _ (by omega), z2 _ _ (by omega) (by omega), mu_at]⟩
    refine r_writesValues (d := d + 1) (a := (ndl e).length + (ndr e).length) (G := (ndv e).length) (s0 := 0) (seen0 := []) (am := 0) (mk := mkn (ndg e)) (V := fun c => (ndl e).length + (ndr e).length ≤ c) hp hG ayw_32 u1 u2 u3 (Or.inl rfl) (fun c => mkn_0) (by omega) (fun c hc hv h0 i hi => ng_V har hok hc hv hi) (fun i hi => ng_st hok hi) (by omega) (by omega) (by rw [List.length_nil]; omega) ((F3 _ _ (by omega) (by omega) (by omega)).trans (by rw [hgv, hGv])) (mu_at _ _ _ _) (fun i hi => by
      rw [g3 _ _ (by omega) (by omega), y4 _ _ (by omega) (by omega) (by omega) (by omega) (by omega) (by omega), s7 i hi]
      show _ = (np (ptc (cl (ngr _ _ _)) (kid (nl (ayw ar) (ngr _ _ _)) _ i)) : Int)
      rw [ng_kid hok (by omega)]) W3 (NBM_fr z1 (mu_ne _ _ (by omega)) fun k => mu_a _ (by omega)) (fun ls hls m4 w1 w2 w3 w4 => ⟨hp, zr1, fun _ => ?_, fun g => absurd (by omega) g⟩) (fun hls m4 w4 => ⟨hp, zr0, fun g => absurd rfl g, fun _ => ?_⟩)
    · have hls' : nval (ayw ar) (ndl e) (ndr e) (ndv e) Q = some ls := hls
      obtain ⟨o1, o2⟩ := nval_ok har hok hQ' hls'
      have fl := flat_len (B := 100) (vs := ls) fun w hw => (o2 w hw).2.1
      have F4 : rnT m m4 := rnT_trans F3 (wvF_nT w4)
      have T4 := TR_fr hT F4
      obtain ⟨⟨t1, t2, t3, t4, t5, t6, t6'⟩, t7, t8⟩ := id T4
      simp only [tcl, ll] at t1 t2 t3 t4 t5 t6 t6'
      rw [Nat.zero_add] at w3
      have eq4 := tLook_some (nds := nds) (ans := ans) (fil := fil) (ex := ex) (lo := lo) (fu := fu) hQ' hls'
      have full : (300 ≤ ans.length ∨ 30000 < 4 * (nds.length + 1) + 2 * ans.length + fil + 2 + ls.flatten.length) → post 0 (mu m4 262 95 1) J P := fun hc => by
        have kk := k (mu m4 262 95 1)
        rw [eq4, if_pos hc] at kk
        exact kk (TR_full T4) fun a k g1 g2 g3 => (mu_ne _ _ (by omega)).trans (rnT_rk F4 a k g1 g2 g3)
      rw [t2, t6', w3]
      refine ⟨by constructor <;> omega, fun hc => full (Or.inl (by omega)), fun hc => ⟨by constructor <;> omega, fun hc2 => ⟨by omega, by omega, ?_⟩, fun hc2 => full (Or.inr (by omega))⟩⟩
      have hna : ans.length < 300 := by omega
      simp only [mu_ne (a := 262) (k := 98) m4 _ (show ¬ ((262 : Nat) = 262 ∧ (100 : Nat) = 98) by decide), mu_ne (a := 262) (k := 98) m4 _ (show ¬ ((262 : Nat) = 262 ∧ (122 : Nat) = 98) by decide), t6', w3, Int.toNat_natCast]
      generalize hM5 : mu (mu (mu m4 262 98 ((ans.length : Int) + 1)) 262 100 (((4 * (nds.length + 1) + 2 * ans.length + fil : Nat) : Int) + (2 + (ls.flatten.length : Int)))) 334 ans.length (nds.length : Int) = m5
      have f5 : ∀ a k, ¬ (a = 262 ∧ (k = 98 ∨ k = 100)) → ¬ (a = 334 ∧ k = ans.length) → m5 a k = m4 a k := fun a k h1 h2 => by rw [← hM5, mu_ne _ _ h2, mu_ne _ _ (by omega), mu_ne _ _ (by omega)]
      have e5 : m5 262 102 = (fil : Int) := (f5 _ _ (by omega) (by omega)).trans t3
      rw [e5]
      generalize hM6 : mu m5 335 ans.length (fil : Int) = m6
      have f6 : ∀ a k, ¬ (a = 262 ∧ (k = 98 ∨ k = 100)) → ¬ (a = 334 ∧ k = ans.length) → ¬ (a = 335 ∧ k = ans.length) → m6 a k = m4 a k := fun a k h1 h2 h3 => by rw [← hM6, mu_ne _ _ h3, f5 a k h1 h2]
      refine r_lk138 (d := d + 1) (i := nds.length) (kk := ans.length) (N := (ndv e).length) (m0 := m6) hp hna (by omega) ((f6 _ _ (by omega) (by omega) (by omega)).trans ((F4 _ _ (by omega) (by omega) (by omega)).trans (by rw [hgv, hGv]))) (fun m7 c1 c2 => ?_) (ndv e).length 0 _ (by omega) (fun v hv => absurd hv (Nat.not_lt_zero _)) fun _ _ _ => rfl
      have f7 : ∀ a k, ¬ (a = 262 ∧ (k = 98 ∨ k = 100)) → ¬ (a = 334 ∧ k = ans.length) → ¬ (a = 335 ∧ k = ans.length) → ¬ (a = 336 ∧ 6 * ans.length ≤ k ∧ k < 6 * ans.length + 6) → m7 a k = m4 a k := fun a k h1 h2 h3 h4 => (c2 a k h4).trans (f6 a k h1 h2 h3)
      refine r_lk171 (d := d + 1) (i := nds.length) (kk := ans.length) (f := fil) (sz := ls.flatten.length) (m0 := m7) hp (by omega) (by omega) (by omega) ((f7 _ _ (by omega) (by omega) (by omega) (by omega)).trans t3) ((f7 _ _ (by omega) (by omega) (by omega) (by omega)).trans w3) (fun m8 c3 c4 => ?_) ls.flatten.length 0 _ (by omega) (fun v hv => absurd hv (Nat.not_lt_zero _)) fun _ _ _ => rfl
      generalize hM9 : mu (mu m8 262 102 ((fil : Int) + (ls.flatten.length : Int))) 332 nds.length (ans.length : Int) = m9
      have f9 : ∀ a k, ¬ (a = 262 ∧ (k = 98 ∨ k = 100 ∨ k = 102)) → ¬ (a = 334 ∧ k = ans.length) → ¬ (a = 335 ∧ k = ans.length) → ¬ (a = 336 ∧ 6 * ans.length ≤ k ∧ k < 6 * ans.length + 6) → ¬ (a = 323 ∧ fil ≤ k ∧ k < fil + ls.flatten.length) → ¬ (a = 332 ∧ k = nds.length) → m9 a k = m4 a k := fun a k h1 h2 h3 h4 h5 h6 => by rw [← hM9, mu_ne _ _ h6, mu_ne _ _ (by omega), c4 a k h5, f7 a k (by omega) h2 h3 h4]
      have kk := k m9
      rw [eq4, if_neg (by omega)] at kk
      have la : (ans ++ [(nds.length, fil, nbl [] ls)]).length = ans.length + 1 := by rw [List.length_append]; rfl
      have l2 : (nds ++ [(e.1, e.2.1, e.2.2.1, (ans.length : Int))]).length = nds.length + 1 := by rw [List.length_append]; rfl
      refine kk ⟨⟨?_, ?_, ?_, ?_, ?_, ?_, ?_⟩, fun i x hx => ?_, fun q a ha => ?_⟩ fun a k g1 g2 g3 => (f9 a k (by omega) (by omega) (by omega) (by omega) (by omega) (by omega)).trans (rnT_rk F4 a k g1 g2 g3)
      · simp only [l2]; rw [f9 _ _ (by omega) (by omega) (by omega) (by omega) (by omega) (by omega)]; exact t1
      · simp only [la]
        rw [← hM9, mu_a _ (by omega), mu_ne _ _ (by omega), c4 _ _ (by omega), c2 _ _ (by omega), ← hM6, mu_a _ (by omega), ← hM5, mu_a _ (by omega), mu_ne _ _ (by omega), mu_at]; omega
      · rw [← hM9, mu_a _ (by omega), mu_at]
        show (fil : Int) + (ls.flatten.length : Int) = ((fil + ls.flatten.length : Nat) : Int)
        omega
      · rw [f9 _ _ (by omega) (by omega) (by omega) (by omega) (by omega) (by omega)]; exact t4
      · rw [f9 _ _ (by omega) (by omega) (by omega) (by omega) (by omega) (by omega)]; exact t5
      · rw [f9 _ _ (by omega) (by omega) (by omega) (by omega) (by omega) (by omega)]; exact t6
      · simp only [tcl, l2, la]
        rw [← hM9, mu_a _ (by omega), mu_ne _ _ (by omega), c4 _ _ (by omega), c2 _ _ (by omega), ← hM6, mu_a _ (by omega), ← hM5, mu_a _ (by omega), mu_at]; omega
      · have nrf : ∀ {i : Nat} {x : Nd}, NR i x m4 → x.2.1 + (ndg x).length ≤ fil → (i ≠ nds.length → m9 332 i = m4 332 i) → i ≠ nds.length → NR i x m9 := fun {i x} h hx2 h3 h4 => by
          obtain ⟨⟨h1, h2, h3', h4', h5, h6, h7, h8, h9⟩, h10, h11⟩ := h
          refine ⟨⟨?_, ?_, ?_, ?_, ?_, ?_, ?_, ?_, ?_⟩, fun v hv => ?_, Ro_fr h11 fun k g1 g2 => f9 _ _ (by omega) (by omega) (by omega) (by omega) (fun g => ?_) (by omega)⟩
          · rw [f9 _ _ (by omega) (by omega) (by omega) (by omega) (by omega) (by omega)]; exact h1
          · rw [f9 _ _ (by omega) (by omega) (by omega) (by omega) (by omega) (by omega)]; exact h2
          · rw [f9 _ _ (by omega) (by omega) (by omega) (by omega) (by omega) (by omega)]; exact h3'
          · rw [f9 _ _ (by omega) (by omega) (by omega) (by omega) (by omega) (by omega)]; exact h4'
          · rw [f9 _ _ (by omega) (by omega) (by omega) (by omega) (by omega) (by omega)]; exact h5
          · rw [f9 _ _ (by omega) (by omega) (by omega) (by omega) (by omega) (by omega)]; exact h6
          · rw [h3 h4]; exact h7
          · rw [f9 _ _ (by omega) (by omega) (by omega) (by omega) (by omega) (by omega)]; exact h8
          · rw [f9 _ _ (by omega) (by omega) (by omega) (by omega) (by omega) (by omega)]; exact h9
          · rw [f9 _ _ (by omega) (by omega) (by omega) (by omega) (by omega) (by omega)]; exact h10 v hv
          · have e1 := ng_len (l := ndl x) (r := ndr x) (vs := ndv x)
            have e2 : (ndg x).length = (ngr (ndl x) (ndr x) (ndv x)).length := rfl
            rw [List.length_append, List.length_append, List.length_map, List.length_map] at g2
            omega
        rcases gl_snoc hx with ⟨q1, q⟩ | ⟨q, q2⟩
        · have hx2 := (hV.2.2.1 x (List.mem_append_left _ (gl_lt q).2)).2.2.1
          dsimp only at hx2
          exact nrf (t7 i x (gl_old q)) hx2 (fun h => f9 _ _ (by omega) (by omega) (by omega) (by omega) (by omega) (fun g => h g.2)) (by omega)
        · subst q; subst q2
          obtain ⟨⟨h1, h2, h3', h4', h5, h6, h7, h8, h9⟩, h10, h11⟩ := t7 _ _ (gl_last (l := nds) (x := e))
          refine ⟨⟨?_, ?_, ?_, ?_, ?_, ?_, ?_, ?_, ?_⟩, fun v hv => ?_, Ro_fr h11 fun k g1 g2 => f9 _ _ (by omega) (by omega) (by omega) (by omega) (fun g => ?_) (by omega)⟩
          · rw [f9 _ _ (by omega) (by omega) (by omega) (by omega) (by omega) (by omega)]; exact h1
          · rw [f9 _ _ (by omega) (by omega) (by omega) (by omega) (by omega) (by omega)]; exact h2
          · rw [f9 _ _ (by omega) (by omega) (by omega) (by omega) (by omega) (by omega)]; exact h3'
          · rw [f9 _ _ (by omega) (by omega) (by omega) (by omega) (by omega) (by omega)]; exact h4'
          · rw [f9 _ _ (by omega) (by omega) (by omega) (by omega) (by omega) (by omega)]; exact h5
          · rw [f9 _ _ (by omega) (by omega) (by omega) (by omega) (by omega) (by omega)]; exact h6
          · rw [← hM9, mu_at]
          · rw [f9 _ _ (by omega) (by omega) (by omega) (by omega) (by omega) (by omega)]; exact h8
          · rw [f9 _ _ (by omega) (by omega) (by omega) (by omega) (by omega) (by omega)]; exact h9
          · rw [f9 _ _ (by omega) (by omega) (by omega) (by omega) (by omega) (by omega)]; exact h10 v hv
          · have h12 : e.2.1 + (ndg e).length ≤ fil := hfit
            rw [List.length_append, List.length_append, List.length_map, List.length_map] at g2
            have g2' : k < e.2.1 + ((ndl e).length + ((ndr e).length + (ndv e).flatten.length)) := g2
            omega
      · rcases gl_snoc ha with ⟨q1, qq⟩ | ⟨qq, q2⟩
        · have hx2 := (hV.2.2.2 a (gl_lt qq).2)
          have hx3 := hx2.2.2.1
          have hx4 := hx2.1
          dsimp only at hx3
          obtain ⟨h1, h2, h3, h4⟩ := t8 q a qq
          refine ⟨?_, ?_, fun v hv => ?_, Ro_fr h4 fun k g1 g2 => f9 _ _ (by omega) (by omega) (by omega) (by omega) (by omega) (by omega)⟩
          · rw [f9 _ _ (by omega) (by omega) (by omega) (by omega) (by omega) (by omega)]; exact h1
          · rw [f9 _ _ (by omega) (by omega) (by omega) (by omega) (by omega) (by omega)]; exact h2
          · rw [f9 _ _ (by omega) (by omega) (by omega) (by omega) (by omega) (by omega)]; exact h3 v hv
        · subst qq; subst q2
          refine ⟨?_, ?_, fun v hv => ?_, ?_⟩
          · rw [← hM9, mu_a _ (by omega), mu_a _ (by omega), c4 _ _ (by omega), c2 _ _ (by omega), ← hM6, mu_a _ (by omega), ← hM5, mu_at]
          · rw [← hM9, mu_a _ (by omega), mu_a _ (by omega), c4 _ _ (by omega), c2 _ _ (by omega), ← hM6, mu_at]
          · have hv2 : v < ls.length := by have : v < (nbl [] ls).length := hv; rw [nbl_len] at this; exact this
            rw [← hM9, mu_a _ (by omega), mu_a _ (by omega), c4 _ _ (by omega), c1 v (by omega), f6 _ _ (by omega) (by omega) (by omega), w2 v hv2]
            exact congrArg _ (nbl_get (seen := []) hv2).symm
          · dsimp only
            have lf : (nbl [] ls).flatten.length = ls.flatten.length := by rw [nbl_flat, nbr_len]
            refine Ro_of fun j hj => ?_
            have := Ro_get w1 hj
            rw [Nat.zero_add] at this
            rw [← hM9, mu_a _ (by omega), mu_a _ (by omega), c3 j (by omega), f7 _ _ (by omega) (by omega) (by omega) (by omega), this]
    · have hls' : nval (ayw ar) (ndl e) (ndr e) (ndv e) Q = none := hls
      have F4 : rnT m m4 := rnT_trans F3 (wvF_nT w4)
      have kk := k (mu m4 262 99 (m4 262 99 + 1))
      rw [tLook_lost hQ' hls'] at kk
      exact kk (TR_lost (TR_fr hT F4)) fun a k g1 g2 g3 => (mu_ne _ _ (by omega)).trans (rnT_rk F4 a k g1 g2 g3)
  · have hQ' : nuni (ayw ar) (ndl e) (ndr e) (ndv e) = none := hQ
    have kk := k m2
    rw [tLook_none hQ'] at kk
    exact kk (TR_fr T1 (onF_nT y4)) (rnT_rk (rnT_trans (tlF_nT F1) (onF_nT y4)))
end RLK_
