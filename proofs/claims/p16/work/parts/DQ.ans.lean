/-! answer() -/
section ANW
variable {X : aX} {d x y : Nat} {P : Mp} {J : Mj} {m m' m0 : Mi} {Sn : Nat → Nat} {ar : Nat → Int} {sc mg b g N vm : Nat} {R : Nat → Mi} {nm : Nat → Int} {l r : List Int} {S : Ts} {st : Int}
/-- whether an ANSWER'S sides have one NORMAL FORM -/
noncomputable def ans2 (ay : Int → Nat) (N : Nat) (Lm Rm : Nat → List Int) (l r : List Int) (vs : List (List Int)) : Int := if 200 < (sb (sgv vs) l).length ∨ 200 < (sb (sgv vs) r).length then 2 else jnf ay N Lm Rm (sb (sgv vs) l) (sb (sgv vs) r)
/-- what is put for VARIABLES is a TERM -/
theorem sgv_tv {G f : Nat} {a : An} (h : AV sc ar G f a) : tv (ayw ar) (sgv a.2.2) := fun c hc => by
  by_cases q : (-1 - c).toNat < a.2.2.length
  · have : sgv a.2.2 c = a.2.2[(-1 - c).toNat] := by
      unfold sgv
      rw [List.getElem?_eq_getElem q]
      rfl
    rw [this]
    exact (h.2.1 _ (List.getElem_mem q)).1
  · have : sgv a.2.2 c = [-1] := by
      unfold sgv
      rw [List.getElem?_eq_none (by omega)]
      rfl
    rw [this]
    simp [ctt, ayw]
theorem sgv_gp {G f : Nat} {a : An} (hs : sc ≤ 16) (h : AV sc ar G f a) {c v : Int} (hv : v ∈ sgv a.2.2 c) : gp sc v := by
  by_cases q : (-1 - c).toNat < a.2.2.length
  · have : sgv a.2.2 c = a.2.2[(-1 - c).toNat] := by
      unfold sgv
      rw [List.getElem?_eq_getElem q]
      rfl
    rw [this] at hv
    have := (h.2.1 _ (List.getElem_mem q)).2.2 v hv
    exact ⟨by have := this.1; omega, by have := this.2; omega, fun _ => this.2⟩
  · have : sgv a.2.2 c = [-1] := by
      unfold sgv
      rw [List.getElem?_eq_none (by omega)]
      rfl
    rw [this, List.mem_singleton] at hv
    rw [hv]
    exact ⟨by omega, by omega, fun g => absurd g (by omega)⟩
theorem sgv_all {G f : Nat} {a : An} (hs : sc ≤ 16) (h : AV sc ar G f a) {L : List Int} (hL : ∀ c, c ∈ L → gp sc c) : ∀ v, v ∈ sb (sgv a.2.2) L → gp sc v := sb_all (fun c hc _ => hL c hc) fun v _ _ x hx => sgv_gp hs h hx
theorem ayw_neg : ∀ c : Int, c < 0 → ayw ar c = 0 := fun c hc => by
  unfold ayw
  rw [if_pos hc]
/-- what answer() may change in the class -/
def caF (m m' : Mi) : Prop := ∀ a k, ¬ (28 ≤ a ∧ a ≤ 35) → a ≠ 26 → ¬ (a = 18 ∧ k = 12) → m' a k = m a k
/-- answer() in the class -/
theorem c_answer {x1 x2 : Int} (hp : PP P) (hb : b = 54 ∨ b = 155) (hP : P 1 8 = some b) (hg : P 38 2 = some g) (hgo : g = 39 ∨ g = 256) (hS : Sq sc Sn ar N R) (hC : CSy b sc Sn ar N R m J) (z1 : Zr x1) (z2 : Zr x2) (hst : m 38 8 = st) (hs01 : st = 0 ∨ st = 1) (zn : Zr (m 38 12)) (hT : st = 1 → TQ sc ar g l r vm mg nm S m J) {post : Int → Mi → Mj → Mp → Prop} (k0 : (st = 1 → x1 < 0 ∨ (S.2.1.length : Int) ≤ x1) → post (-1) m J P) (kb : x2 ≠ 0 → x2 ≠ 1 → post (-1) m J P) (kN : st = 1 → ∀ a, S.2.1[x1.toNat]? = some a → 0 ≤ x1 → x2 = 0 → post (a.1 : Int) m J P) (kJ : st = 1 → ∀ a, S.2.1[x1.toNat]? = some a → 0 ≤ x1 → x2 = 1 → ∀ m', caF m m' → post (ans2 (ayw ar) N (SL Sn sc ar R) (SR Sn sc ar R) l r a.2.2) m' J P) : Ci X (d + 4) 118 [.ref 1, .int (iz x1), .int (iz x2)] m J P post := by
  have hs := hS.1.1
  have kb' := kd_book hb
  refine Ci.of rfl rfl rfl (b_Nh_answer_0 x1 x2 m J P hp post ?_)
  refine c_hasAnswer hp z1 (by show Zr (m 38 8); rw [show m 38 8 = st from hst]; rcases hs01 with h | h <;> rw [h] <;> constructor <;> omega) zn (fun hh => ⟨hp, zr0, fun g => absurd rfl g, fun _ => k0 fun h1 => ?_⟩) (fun hh => ⟨hp, zr1, fun _ => ?_, fun g => absurd (by omega) g⟩)
  · rcases hh with h | h | h
    · rw [show m 38 8 = st from hst] at h; omega
    · exact Or.inl h
    · rw [show m 38 12 = _ from (hT h1).2.1.1.2.1] at h
      exact Or.inr h
  have h1 : st = 1 := by have := hh.1; rw [show m 38 8 = st from hst] at this; omega
  obtain ⟨hQ, hTC, hV, hK, hnm⟩ := hT h1
  obtain ⟨i, rfl⟩ := Int.eq_ofNat_of_zero_le (show 0 ≤ x1 by omega)
  have hi : i < S.2.1.length := by have := hh.2.2; rw [show m 38 12 = _ from hTC.1.2.1] at this; omega
  have he : S.2.1[i]? = some S.2.1[i] := List.getElem?_eq_getElem hi
  generalize S.2.1[i] = a at he
  have hA := hTC.2.2 i a he
  have hAV := hV.2.2.2 a (gl_lt he).2
  have h300 := hV.1.2.1
  have htc := hV.1.2.2
  simp only [tcl] at htc
  refine ⟨z2, fun _ => ⟨z2, fun g1 => ⟨b, hP, kb', ?_⟩, fun g1 => kb (by omega) (by omega)⟩, fun g1 => ⟨by constructor <;> omega, ?_⟩⟩
  · have kJ' := kJ h1 a he (by omega) g1
    refine c_putGoal hp hb hs hg hgo hC.2.1 hQ hK (by omega) hA (AV_up hAV (by omega)) (fun hn m1 f1 => ⟨hp, zrm, fun g => absurd rfl g, fun _ => ?_⟩) (fun hl hr m1 hM f1 => ⟨hp, by constructor <;> omega, fun _ => ⟨b, hP, kb', ?_⟩, fun g => absurd (by omega) g⟩)
    · have e : ans2 (ayw ar) N (SL Sn sc ar R) (SR Sn sc ar R) l r a.2.2 = 2 := by unfold ans2; rw [if_pos hn]
      rw [e] at kJ'
      exact kJ' m1 fun a k h2 h3 h4 => f1 a k h3 h4
    · have hC1 := CSy_fr (m' := m1) (J' := J) hs hC (fun a k h2 h3 => f1 a k (by omega) (by omega)) (fun _ _ _ _ => rfl)
      have gl : ∀ c, c ∈ sb (sgv a.2.2) l → gp sc c := sgv_all hs hAV fun c hc => (hK.2.2.1 c (List.mem_append_left _ hc)).1
      have gr : ∀ c, c ∈ sb (sgv a.2.2) r → gp sc c := sgv_all hs hAV fun c hc => (hK.2.2.1 c (List.mem_append_right _ hc)).1
      have e : ans2 (ayw ar) N (SL Sn sc ar R) (SR Sn sc ar R) l r a.2.2 = jnf (ayw ar) N (SL Sn sc ar R) (SR Sn sc ar R) (sb (sgv a.2.2) l) (sb (sgv a.2.2) r) := by unfold ans2; rw [if_neg (by omega)]
      rw [e] at kJ'
      refine c_joins (x1 := 26) (n1 := 800) hp (by decide +kernel) (by omega) (by omega) hb hs (Sq_Rg hS) (Sq_SR hS) hC1.2.1 hC1.2.2.1 hl hr (by omega) (fun c hc => ?_) (ct_sb ayw_neg (sgv_tv hAV) hK.1.1) (ct_sb ayw_neg (sgv_tv hAV) hK.1.2) ?_ hM.2.2 (fun m2 f2 f3 => ⟨hp, kJ' m2 fun a k h2 h3 h4 => (f2 a k h2).trans (f1 a k h3 h4)⟩)
      · rcases List.mem_append.mp hc with h | h
        · exact gl c h
        · exact gr c h
      · exact hM.2.1.trans (by rw [List.length_append])
  · rw [show m 47 (i : Int).toNat = (a.1 : Int) from hA.1]
    exact kN h1 a he (by omega) (by omega)
/-- what answer() may change in the reference -/
def raF (m m' : Mi) : Prop := ∀ a k, a ≠ 343 → a ≠ 344 → ¬ (296 ≤ a ∧ a ≤ 301) → a ≠ 321 → ¬ (a = 262 ∧ (k = 61 ∨ k = 62 ∨ k = 67)) → m' a k = m a k
/-- the GOAL as the reference keeps it: in the first NODE -/
def nG (l r : List Int) (S : Ts) : Prop := ∃ e, S.1[0]? = some e ∧ ndl e = l.map mkc ∧ ndr e = r.map mkc
/-- areOne() of TERMS that are too big -/
theorem r_areNeg {x1 x3 nx1 nx3 : Nat} {x2 x4 : Int} (hp : PP P) (k1 : am_kd an_K x1 = some (.inr (0, nx1))) (k3 : am_kd an_K x3 = some (.inr (0, nx3))) (b1 : nx1 ≤ 100000) (b3 : nx3 ≤ 100000) (z2 : Zr x2) (z4 : Zr x4) (hn : x2 < 0 ∨ x4 < 0) {post : Int → Mi → Mj → Mp → Prop} (k : post 2 m J P) : Ci X (d + 5) 173 [.ref 262, .ref x1, .int (iz x2), .ref x3, .int (iz x4)] m J P post :=
  Ci.of rfl rfl rfl (b_Mdl_areOne_0 x1 nx1 x2 x3 nx3 x4 k1 b1 k3 b3 m J P hp post ⟨z2, fun _ => k, fun g => ⟨z4, fun g2 => absurd hn (by omega), fun _ => k⟩⟩)
theorem RyM_fr' {Lf Rf : Nat → List Int} (h : RyM N Lf Rf m) (f : ∀ a k, a ≠ 343 → a ≠ 344 → m' a k = m a k) : RyM N Lf Rf m' := by
  refine ⟨⟨h.1.1, (f _ _ (by omega) (by omega)).trans h.1.2⟩, fun u hu => ?_⟩
  obtain ⟨⟨a1, a2⟩, ⟨a3, a4⟩, a5, a6, a7⟩ := h.2 u hu
  refine ⟨⟨(f _ _ (by omega) (by omega)).trans a1, (f _ _ (by omega) (by omega)).trans a2⟩, ⟨Ro_fr a3 fun k _ _ => f _ _ (by omega) (by omega), Ro_fr a4 fun k _ _ => f _ _ (by omega) (by omega)⟩, a5, ?_, fun c hc => ?_⟩
  · rw [f _ _ (by omega) (by omega)]; exact a6
  · rw [f _ _ (by omega) (by omega)]; exact a7 c hc
/-- answer() in the reference -/
theorem r_answer {x1 x2 : Int} (hp : PP P) (hTP : TP P x y) (hS : Sq sc Sn ar N R) (hSN : SqN sc Sn N R) (hC : RSy sc Sn ar N R m J) (z1 : Zr x1) (z2 : Zr x2) (hst : m 262 93 = st) (hs01 : st = 0 ∨ st = 1) (zn : Zr (m 262 98)) (hT : st = 1 → TQR sc ar vm mg nm S m J ∧ gK sc ar l r vm ∧ nG l r S) {post : Int → Mi → Mj → Mp → Prop} (k0 : (st = 1 → x1 < 0 ∨ (S.2.1.length : Int) ≤ x1) → post (-1) m J P) (kb : x2 ≠ 0 → x2 ≠ 1 → post (-1) m J P) (kN : st = 1 → ∀ a, S.2.1[x1.toNat]? = some a → 0 ≤ x1 → x2 = 0 → post (a.1 : Int) m J P) (kJ : st = 1 → ∀ a, S.2.1[x1.toNat]? = some a → 0 ≤ x1 → x2 = 1 → ∀ m' P' x' y', PP P' → TP P' x' y' → PF P P' → raF m m' → post (ans2 (ayw ar) N (SL Sn sc ar R) (SR Sn sc ar R) l r a.2.2) m' J P') : Ci X (d + 6) 209 [.ref 262, .int (iz x1), .int (iz x2)] m J P post := by
  have hs := hS.1.1
  have kl : am_kd an_K 343 = some (.inr (0, 200)) := by decide +kernel
  have kr : am_kd an_K 344 = some (.inr (0, 200)) := by decide +kernel
  refine Ci.of rfl rfl rfl (b_Mdl_answer_0 x1 x2 m J P hp post ?_)
  refine r_isAnswer hp z1 (by show Zr (m 262 93); rw [hst]; rcases hs01 with h | h <;> rw [h] <;> constructor <;> omega) zn (fun hh => ⟨hp, zr0, fun _ => k0 fun h1 => ?_, fun g => absurd rfl g⟩) (fun hh => ⟨hp, zr1, fun g => absurd g (by omega), fun _ => ⟨z2, fun g1 => kb (by omega) (by omega), fun g1 => ⟨z2, fun g2 => ⟨z2, fun g3 => ?_, fun g3 => ?_⟩, fun g2 => kb (by omega) (by omega)⟩⟩⟩)
  · rcases hh with h | h | h
    · rw [hst] at h; omega
    · exact Or.inl h
    · rw [show m 262 98 = _ from (hT h1).1.2.1.1.2.1] at h
      exact Or.inr h
  all_goals
    have h1 : st = 1 := by have := hh.1; rw [hst] at this; omega
    obtain ⟨⟨⟨hgv, hgn⟩, hTR, hV, hnm⟩, hK, e0, he0, hel, her⟩ := hT h1
    obtain ⟨i, rfl⟩ := Int.eq_ofNat_of_zero_le (show 0 ≤ x1 by omega)
    have hi : i < S.2.1.length := by have := hh.2.2; rw [show m 262 98 = _ from hTR.1.2.1] at this; omega
    have he : S.2.1[i]? = some S.2.1[i] := List.getElem?_eq_getElem hi
    generalize S.2.1[i] = a at he
    have hA := hTR.2.2 i a he
    have hAV := hV.2.2.2 a (gl_lt he).2
    have h300 := hV.1.2.1
    have htc := hV.1.2.2
    simp only [tcl] at htc
  · have hx2 : x2 = 1 := by omega
    have kJ' := kJ h1 a he (by omega) hx2
    have hN := hTR.2.1 0 e0 he0
    have hNV := hV.2.2.1 e0 (gl_lt he0).2
    obtain ⟨w1, w2, w3⟩ := NR_vals hN
    rw [hel, her] at w3
    rw [hel] at w2
    rw [List.length_map] at w3
    have n4 : m 325 0 = (l.length : Int) := by have := hN.1.2.2.2.2.1; rw [hel, List.length_map] at this; exact this
    have n5 : m 326 0 = (r.length : Int) := by have := hN.1.2.2.2.2.2.1; rw [her, List.length_map] at this; exact this
    have n7 : m 324 0 = (e0.2.1 : Int) := hN.1.2.2.2.2.2.2.2.1
    have fit := hNV.2.2.1
    have hln : (ndg e0).length = l.length + r.length + (ndv e0).flatten.length := by rw [ng_len, hel, her, List.length_map, List.length_map]
    have h6 : a.2.2.length ≤ 6 := by rw [hAV.1]; exact hK.2.2.2.1
    have hfa := hAV.2.2.1
    have gw : ∀ c, c < l.length + r.length → (-6 ≤ cl (l ++ r) c ∧ cl (l ++ r) c < 16) ∧ -1 - cl (l ++ r) c < (a.2.2.length : Int) := fun c hc => by rw [hAV.1]; exact gK_w hK hc
    have gpl : ∀ c, c ∈ l → gp sc c := fun c hc => (hK.2.2.1 c (List.mem_append_left _ hc)).1
    have gpr : ∀ c, c ∈ r → gp sc c := fun c hc => (hK.2.2.1 c (List.mem_append_right _ hc)).1
    have rowc : ∀ {L : List Int} {f : Nat}, (∀ c, c ∈ L → gp sc c) → Ro m 323 f ((L.map mkc).map c64) → ∀ c, c < L.length → m 323 (f + c) = if cl L c < 0 then cl L c else cl L c + 64 := fun {L f} hg hR c hc => by
      have q := Ro_get hR (i := c) (by rw [List.length_map, List.length_map]; exact hc)
      rw [← cl_get] at q
      rw [q, cl_map (by rw [List.length_map]; exact hc), cl_map hc]
      exact mkc_64 (hg _ (cl_mem hc))
    refine ⟨by constructor <;> omega, by constructor <;> omega, ?_⟩
    rw [show m 324 (0 : Int).toNat = (e0.2.1 : Int) from n7, show m 325 (0 : Int).toNat = (l.length : Int) from n4]
    have tail : ∀ m1, (∀ b k, b ≠ 343 → m1 b k = m b k) → ∀ z15 : Int, Zr z15 → (200 < (sb (sgv a.2.2) l).length → z15 = -1) → ((sb (sgv a.2.2) l).length ≤ 200 → z15 = ((sb (sgv a.2.2) l).length : Int) ∧ Ro m1 343 0 (sb (sgv a.2.2) l)) → PP P ∧ ((0 : Int) ≤ 0 ∧ (0 : Int) < 1000) ∧ ((0 : Int) ≤ 0 ∧ (0 : Int) < 1000) ∧ ((0 : Int) ≤ 0 ∧ (0 : Int) < 1000) ∧ Ci X (d + 5) 211 [.ref 262, .int (iz (i : Int)), .int (iz ((m1 324 (0 : Int).toNat) + (m1 325 (0 : Int).toNat))), .int (iz (m1 326 (0 : Int).toNat)), .ref 344] m1 J P (fun z23 m20 J21 P22 => PP P22 ∧ Ci X (d + 5) 173 [.ref 262, .ref 343, .int (iz z15), .ref 344, .int (iz z23)] m20 J21 P22 (fun z28 m25 J26 P27 => PP P27 ∧ post z28 m25 J26 P27)) := by
      intro m1 f1 z15 zz zn1 zk1
      refine ⟨hp, by constructor <;> omega, by constructor <;> omega, by constructor <;> omega, ?_⟩
      rw [show m1 324 (0 : Int).toNat = (e0.2.1 : Int) from (f1 _ _ (by omega)).trans n7, show m1 325 (0 : Int).toNat = (l.length : Int) from (f1 _ _ (by omega)).trans n4, show m1 326 (0 : Int).toNat = (r.length : Int) from (f1 _ _ (by omega)).trans n5, show (e0.2.1 : Int) + (l.length : Int) = ((e0.2.1 + l.length : Nat) : Int) by omega]
      refine r_puts (x4 := 344) (from_ := e0.2.1 + l.length) (L := r) hp (Or.inr rfl) (by omega) (AR_fr hA fun a k g1 g2 => f1 a k (by omega)) h6 (by omega) (fun c hc => ?_) hK.2.1.2 (by omega) (fun c hc => (f1 _ _ (by omega)).trans (rowc gpr w3 c hc)) (fun hn m2 f2 => ⟨hp, ?_⟩) (fun hl m2 hr2 f2 => ⟨hp, ?_⟩)
      · have := gw (l.length + c) (by omega)
        rw [cl_shift] at this
        exact this
      · have e : ans2 (ayw ar) N (SL Sn sc ar R) (SR Sn sc ar R) l r a.2.2 = 2 := by unfold ans2; rw [if_pos (Or.inr hn)]
        rw [e] at kJ'
        refine r_areNeg hp kl kr (by omega) (by omega) zz zrm (Or.inr (by omega)) ⟨hp, kJ' m2 P x y hp hTP (fun _ _ _ => rfl) fun a k h2 h3 h4 h5 h6 => (f2 a k h3).trans (f1 a k h2)⟩
      · by_cases hn : 200 < (sb (sgv a.2.2) l).length
        · have e : ans2 (ayw ar) N (SL Sn sc ar R) (SR Sn sc ar R) l r a.2.2 = 2 := by unfold ans2; rw [if_pos (Or.inl hn)]
          rw [e] at kJ'
          refine r_areNeg hp kl kr (by omega) (by omega) zz (by constructor <;> omega) (Or.inl (by rw [zn1 hn]; omega)) ⟨hp, kJ' m2 P x y hp hTP (fun _ _ _ => rfl) fun a k h2 h3 h4 h5 h6 => (f2 a k h3).trans (f1 a k h2)⟩
        · obtain ⟨q1, q2⟩ := zk1 (by omega)
          have e : ans2 (ayw ar) N (SL Sn sc ar R) (SR Sn sc ar R) l r a.2.2 = jnf (ayw ar) N (SL Sn sc ar R) (SR Sn sc ar R) (sb (sgv a.2.2) l) (sb (sgv a.2.2) r) := by unfold ans2; rw [if_neg (by omega)]
          rw [e] at kJ'
          rw [q1]
          have hRA : RAr sc ar m := RSy_RA hC
          have hRy := RSy_Ry hS hSN hC
          have fr : ∀ a k, a ≠ 343 → a ≠ 344 → m2 a k = m a k := fun a k h2 h3 => (f2 a k h3).trans (f1 a k h2)
          refine r_areOne (x1 := 343) (n1 := 200) (x3 := 344) (n3 := 200) hp hTP kl (by omega) kr (by omega) (by omega) (by omega) (by omega) (by omega) (Sq_Rf hS) ⟨hRA.1, fun i hi => by rw [fr _ _ (by omega) (by omega)]; exact hRA.2 i hi⟩ (RyM_fr' hRy fun a k g1 g2 => fr a k g1 g2) (by omega) hl (sgv_all hs hAV gpl) (sgv_all hs hAV gpr) (ct_sb ayw_neg (sgv_tv hAV) hK.1.1) (ct_sb ayw_neg (sgv_tv hAV) hK.1.2) (Ro_fr q2 fun k _ _ => f2 _ _ (by omega)) hr2 (fun m3 P3 x3 y3 hp3 hTP3 pf3 f3 => ⟨hp3, kJ' m3 P3 x3 y3 hp3 hTP3 pf3 fun a k h2 h3 h4 h5 h6 => (f3 a k h4 h5 h6).trans (fr a k h2 h3)⟩)
    refine r_puts (x4 := 343) (from_ := e0.2.1) (L := l) hp (Or.inl rfl) (by omega) hA h6 (by omega) (fun c hc => ?_) hK.2.1.1 (by omega) (rowc gpl w2) (fun hn m1 f1 => tail m1 f1 _ zrm (fun _ => rfl) fun g => absurd g (by omega)) (fun hl m1 hr1 f1 => tail m1 f1 _ (by constructor <;> omega) (fun g => absurd g (by omega)) fun _ => ⟨rfl, hr1⟩)
    have := gw c (by omega)
    rw [cl_app hc] at this
    exact this
  · rw [show m 334 (i : Int).toNat = (a.1 : Int) from hA.1]
    exact ⟨by constructor <;> omega, kN h1 a he (by omega) (by omega)⟩
end ANW
