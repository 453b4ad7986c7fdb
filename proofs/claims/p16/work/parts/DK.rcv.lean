/-! covers(), answer(), whole, on both sides -/
section RCV
variable {X : aX} {d x y : Nat} {P : Mp} {J : Mj} {m m' m0 : Mi} {ar : Nat → Int} {sc G mg b g N : Nat} {Lf Rf Lm Rm : Nat → List Int}
/-- what is bound, in the reference -/
def BRc (sc : Nat) (σ : Nat → List Int) (m : Mi) : Prop := ∀ v, v < 800 → (σ v = [] → m 345 v = -1) ∧ (σ v ≠ [] → (∀ c, c ∈ σ v → gq sc c) ∧ (σ v).length ≤ 30000 ∧ m 346 v = ((σ v).length : Int) ∧ ∃ p : Nat, m 345 v = (p : Int) ∧ p + (σ v).length ≤ 40000 ∧ Ro m 323 p (σ v))
/-- what covers() may change in the reference -/
def rcF (m m' : Mi) : Prop := ∀ a k, a ≠ 345 → a ≠ 346 → m' a k = m a k
theorem r_co120 {x1 x2 x3 x4 x7 : Int} {pa pb v p : Nat} {s t : List Int} (hp : PP P) (hv : v < 800) (hpb : pb + t.length ≤ 40000) (hps : p + s.length ≤ 40000) (hst : s.length = t.length) (hlt : t.length ≤ 30000) (hat : m 345 v = (p : Int)) (h1 : Ro m 323 p s) (h2 : Ro m 323 pb t) (gs : ∀ c, c ∈ s → gq sc c) (gt : ∀ c, c ∈ t → gq sc c) (hs16 : sc ≤ 16) {post : Int → Mi → Mj → Mp → Prop} (k1 : s = t → Rn X (d + 1) 214 6 [some (.ref 262), some (.int (iz x1)), some (.int (iz x2)), some (.int (iz x3)), some (.int (iz x4)), some (.int (iz ((pb + t.length : Nat) : Int))), some (.int (iz ((pa + 1 : Nat) : Int))), none, none, none, none] [] (SS m J P) (QI post)) (k0 : s ≠ t → post 0 m J P) : ∀ (r k : Nat), k + r = t.length → (∀ i, i < k → cl s i = cl t i) → Rn X (d + 1) 214 120 [some (.ref 262), some (.int (iz x1)), some (.int (iz x2)), some (.int (iz x3)), some (.int (iz x4)), some (.int (iz (pb : Int))), some (.int (iz (pa : Int))), some (.int (iz x7)), some (.int (iz (v : Int))), some (.int (iz ((pb + t.length : Nat) : Int))), some (.int (iz (k : Int)))] [] (SS m J P) (QI post) := by
  intro r
  induction r with
  | zero =>
    intro k hk h
    refine b_Mdl_comesOf_120 x1 x2 x3 x4 (pb : Int) (pa : Int) x7 (v : Int) _ (k : Int) m J P hp post ⟨by constructor <;> omega, by constructor <;> omega, fun _ => ?_, fun g => absurd (by omega) g⟩
    rw [show (pa : Int) + 1 = ((pa + 1 : Nat) : Int) by omega]
    refine k1 (List.ext_getElem hst fun i g1 g2 => ?_)
    rw [← cl_get g1, ← cl_get g2]
    exact h i (by omega)
  | succ r ih =>
    intro k hk h
    have hkl : k < t.length := by omega
    have hks : k < s.length := by omega
    have e1 : m 323 (p + k) = cl s k := by rw [Ro_get h1 hks, cl_get hks]
    have e2 : m 323 (pb + k) = cl t k := by rw [Ro_get h2 hkl, cl_get hkl]
    have b1 := gs _ (cl_mem hks)
    have b2 := gt _ (cl_mem hkl)
    unfold gq at b1 b2
    refine b_Mdl_comesOf_120 x1 x2 x3 x4 (pb : Int) (pa : Int) x7 (v : Int) _ (k : Int) m J P hp post ?_
    rw [Int.toNat_natCast, hat, show ((p : Int) + (k : Int)).toNat = p + k by omega, show ((pb : Int) + (k : Int)).toNat = pb + k by omega, e1, e2]
    refine ⟨by constructor <;> omega, by constructor <;> omega, fun g => absurd g (by omega), fun _ => ⟨by omega, by omega, by omega, by constructor <;> omega, by constructor <;> omega, fun he => ?_, fun hne => k0 fun e => hne (by rw [e])⟩⟩
    rw [show (k : Int) + 1 = ((k + 1 : Nat) : Int) by omega]
    refine ih (k + 1) (by omega) fun i hi => ?_
    by_cases hik : i = k
    · rw [hik]; exact he
    · exact h i (by omega)
theorem r_endOf0 {xr p0 nn : Nat} {t z : List Int} (hp : PP P) (kx : am_kd an_K xr = some (.inr (0, nn))) (bx : nn ≤ 100000) (hA : RAr sc ar m) (hg : ∀ c, c ∈ t → gq sc c) (ht : ctt (ayw ar) t = some 1) (hrow : Ro m xr p0 (t ++ z)) (hn : p0 + t.length ≤ nn) {post : Int → Mi → Mj → Mp → Prop} (k : post ((p0 + t.length : Nat) : Int) m J P) : Ci X d 179 [.ref 262, .ref xr, .int (iz (p0 : Int))] m J P post := by
  have hs := hA.1
  have h := r_endOf (X := X) (d := d) (x := xr) (p := []) (t := t) (z := z) (n := nn) (sc := sc) (ar := ar) (m := m) (J := J) (P := P) (post := post) hp kx bx hA (a0 := p0) (fun c hc => by have := hg c hc; unfold gq at this; exact ⟨by omega, by omega, fun _ => by omega⟩) ht (by rw [List.nil_append]; exact hrow) (by simp only [List.length_nil]; omega) (by rw [List.length_nil, Nat.add_zero]; exact k)
  rw [List.length_nil, Nat.add_zero] at h
  exact h
/-- the walk of comesOf() -/
theorem r_co6 {x4 : Int} {xa xb nn : Nat} (hp : PP P) (har : arK sc ar) (hRA0 : RAr sc ar m0) (hE : xa + nn ≤ 30000) {W : Option (List Int × (Nat → List Int))} {post : Int → Mi → Mj → Mp → Prop} (kt : ∀ r, W = some r → ∀ m', BRc sc r.2 m' → rcF m0 m' → post 1 m' J P) (kf : W = none → ∀ m', rcF m0 m' → post 0 m' J P) : ∀ (la lb : List Int) (σ : Nat → List Int) (pa pb j k : Nat) (m : Mi), cvr (ayw ar) la lb σ = W → ctt (ayw ar) la = some k → ctt (ayw ar) lb = some (k + j) → (∀ c, c ∈ la → gq sc c) → (∀ c, c ∈ lb → gq sc c) → pa + la.length = xa + nn → pb + lb.length ≤ 30000 → Ro m 323 pa la → Ro m 323 pb lb → BRc sc σ m → rcF m0 m → Rn X (d + 1) 214 6 [some (.ref 262), some (.int (iz (xa : Int))), some (.int (iz (nn : Int))), some (.int (iz (xb : Int))), some (.int (iz x4)), some (.int (iz (pb : Int))), some (.int (iz (pa : Int))), none, none, none, none] [] (SS m J P) (QI post) := by
  have hs := har.1
  have kS : am_kd an_K 323 = some (.inr (0, 40000)) := by decide +kernel
  have hv0 : ∀ c, c < 0 → ayw ar c = 0 := fun c hc => by unfold ayw; rw [if_pos hc]
  intro la
  induction la with
  | nil =>
    intro lb σ pa pb j k m hW h1 h2 g1 g2 hpa hpb r1 r2 hB hF
    refine b_Mdl_comesOf_6 (xa : Int) (nn : Int) (xb : Int) x4 (pb : Int) (pa : Int) m J P hp post ⟨by constructor <;> omega, by constructor <;> omega, fun _ => kt (lb, σ) hW.symm m hB hF, fun g => absurd (by simp only [List.length_nil] at hpa; omega) g⟩
  | cons c la ih =>
    intro lb σ pa pb j k m hW h1 h2 g1 g2 hpa hpb r1 r2 hB hF
    rw [List.length_cons] at hpa
    obtain ⟨q, j1, j2, j3⟩ := ct_cons.mp h1
    have hc := g1 c List.mem_cons_self
    have r1' : m 323 pa = c ∧ Ro m 323 (pa + 1) la := r1
    have hlb : 0 < lb.length := ct_ne (k := k + j - 1) (by rw [h2]; congr 1; omega)
    have hA : RAr sc ar m := RAr_fr hRA0 fun k => hF _ _ (by omega) (by omega)
    have epa : (pa : Int) + 1 = ((pa + 1 : Nat) : Int) := by omega
    refine b_Mdl_comesOf_6 (xa : Int) (nn : Int) (xb : Int) x4 (pb : Int) (pa : Int) m J P hp post ?_
    rw [Int.toNat_natCast, r1'.1]
    unfold gq at hc
    refine ⟨by constructor <;> omega, by constructor <;> omega, fun g => absurd g (by omega), fun _ => ⟨by omega, by constructor <;> omega, fun hn => ?_, fun hn => ?_⟩⟩
    · rw [hv0 c hn] at j2 j3
      rw [show k + j = 1 + (q + j) by omega] at h2
      obtain ⟨t, z, e, t1, t2⟩ := ct_split h2
      subst e
      obtain ⟨r3, r4⟩ := Ro_app.mp r2
      have gt : ∀ c, c ∈ t → gq sc c := fun c h => g2 c (List.mem_append_left _ h)
      have gz : ∀ c, c ∈ z → gq sc c := fun c h => g2 c (List.mem_append_right _ h)
      rw [List.length_append] at hpb
      have n1 := ct_ne t1
      have hv8 : (-1 - c).toNat < 800 := by omega
      refine r_endOf0 (d := d) (xr := 323) (p0 := pb) (t := t) (z := z) (nn := 40000) hp kS (by omega) hA gt t1 r2 (by omega) ⟨hp, by omega, ?_⟩
      rw [cvr_v hn t1] at hW
      have bw := hB _ hv8
      by_cases hσ : σ (-1 - c).toNat = []
      · rw [if_pos hσ] at hW
        rw [bw.1 hσ]
        refine ⟨zrm, fun g => absurd g (by omega), fun _ => ⟨by omega, by omega, ?_⟩⟩
        rw [epa, show ((pb + t.length : Nat) : Int) - (pb : Int) = (t.length : Int) by omega]
        have nF : ∀ a k, ¬ (a = 345 ∧ k = (-1 - c).toNat) → ¬ (a = 346 ∧ k = (-1 - c).toNat) → mu (mu m 345 (-1 - c).toNat (pb : Int)) 346 (-1 - c).toNat (t.length : Int) a k = m a k := fun a k h h' => by rw [mu_ne _ _ h', mu_ne _ _ h]
        refine ih z _ (pa + 1) (pb + t.length) j q _ hW j1 t2 (fun c h => g1 c (List.mem_cons_of_mem _ h)) gz (by omega) (by omega) (Ro_fr r1'.2 fun k _ _ => nF _ _ (by omega) (by omega)) (Ro_fr r4 fun k _ _ => nF _ _ (by omega) (by omega)) (fun v hv => ?_) fun a k h h' => (nF a k (fun g => h g.1) (fun g => h' g.1)).trans (hF a k h h')
        by_cases hvv : v = (-1 - c).toNat
        · refine ⟨fun q => ?_, fun _ => ?_⟩
          · rw [if_pos hvv] at q
            rw [q] at n1
            exact absurd n1 (by simp)
          · rw [if_pos hvv]
            exact ⟨gt, by omega, by rw [hvv, mu_at], pb, by rw [hvv, mu_ne _ _ (by omega), mu_at], by omega, Ro_fr r3 fun k _ _ => nF _ _ (by omega) (by omega)⟩
        · have := hB v hv
          rw [if_neg hvv, nF _ _ (fun g => hvv g.2) (by omega), nF _ _ (by omega) (fun g => hvv g.2)]
          exact ⟨this.1, fun q => ⟨(this.2 q).1, (this.2 q).2.1, (this.2 q).2.2.1, by obtain ⟨p, p1, p2, p3⟩ := (this.2 q).2.2.2; exact ⟨p, p1, p2, Ro_fr p3 fun k _ _ => nF _ _ (by omega) (by omega)⟩⟩⟩
      · rw [if_neg hσ] at hW
        obtain ⟨s2, s3, s4, p, p1, p2, p3⟩ := bw.2 hσ
        rw [p1, s4, show ((pb + t.length : Nat) : Int) - (pb : Int) = (t.length : Int) by omega]
        refine ⟨by constructor <;> omega, fun _ => ⟨by omega, by constructor <;> omega, by constructor <;> omega, fun hst => ?_, fun hne => ?_⟩, fun g => absurd (by omega) g⟩
        · have := r_co120 (X := X) (d := d) (P := P) (J := J) (m := m) (sc := sc) (x1 := (xa : Int)) (x2 := (nn : Int)) (x3 := (xb : Int)) (x4 := x4) (x7 := c) (pa := pa) (pb := pb) (v := (-1 - c).toNat) (p := p) (s := σ (-1 - c).toNat) (t := t) (post := post) hp hv8 (by omega) p2 (by omega) (by omega) p1 p3 r3 s2 gt hs (fun he => ?_) (fun hne => kf (by rw [if_neg hne] at hW; exact hW.symm) m hF) t.length 0 (by omega) fun i hi => absurd hi (Nat.not_lt_zero _)
          · rw [show (((-1 - c).toNat : Nat) : Int) = -1 - c by omega] at this
            exact this
          · rw [if_pos he] at hW
            exact ih z σ (pa + 1) (pb + t.length) j q m hW j1 t2 (fun c h => g1 c (List.mem_cons_of_mem _ h)) gz (by omega) (by omega) r1'.2 r4 hB hF
        · rw [if_neg (fun e => hne (by rw [e]))] at hW
          exact kf hW.symm m hF
    · cases lb with
      | nil => exact absurd hlb (Nat.lt_irrefl _)
      | cons e lb =>
        have r2' : m 323 pb = e ∧ Ro m 323 (pb + 1) lb := r2
        have he := g2 e List.mem_cons_self
        unfold gq at he
        rw [List.length_cons] at hpb
        rw [Int.toNat_natCast, r2'.1]
        rw [cvr_s hn] at hW
        refine ⟨by omega, by constructor <;> omega, by constructor <;> omega, fun hee => ?_, fun hne => ?_⟩
        · rw [if_pos hee] at hW
          subst hee
          obtain ⟨j', i1, i2, i3⟩ := ct_cons.mp h2
          rw [show j' = q + j by omega] at i1
          rw [epa, show (pb : Int) + 1 = ((pb + 1 : Nat) : Int) by omega]
          exact ih lb σ (pa + 1) (pb + 1) j q m hW j1 i1 (fun c h => g1 c (List.mem_cons_of_mem _ h)) (fun c h => g2 c (List.mem_cons_of_mem _ h)) (by omega) (by omega) r1'.2 r2'.2 hB hF
        · rw [if_neg hne] at hW
          exact kf hW.symm m hF
theorem fl_split {vs : List (List Int)} {v : Nat} (h : v < vs.length) : (vs.drop v).flatten = vs[v] ++ (vs.drop (v + 1)).flatten := by
  rw [List.drop_eq_getElem_cons h, List.flatten_cons]
theorem fl_take {vs : List (List Int)} {v : Nat} (h : v < vs.length) : (vs.take (v + 1)).flatten = (vs.take v).flatten ++ vs[v] := by
  rw [List.take_succ_eq_append_getElem h, List.flatten_append]
  simp
theorem fl_td {vs : List (List Int)} {v : Nat} : vs.flatten = (vs.take v).flatten ++ (vs.drop v).flatten := by
  conv => lhs; rw [← List.take_append_drop v vs]
  rw [List.flatten_append]
theorem fl_drop_ct {ay : Int → Nat} {vs : List (List Int)} {v : Nat} (h : ∀ w, w ∈ vs → ctt ay w = some 1) : ctt ay (vs.drop v).flatten = some (vs.length - v) := by
  have := flat_ct (ay := ay) (vs := vs.drop v) fun w hw => h w (List.mem_of_mem_drop hw)
  rw [List.length_drop] at this
  exact this
/-- covers() of the reference, both being ANSWERS -/
theorem r_cov45 {ka kb : Nat} {a a' : An} (hp : PP P) (har : arK sc ar) (hRA0 : RAr sc ar m0) (hgv : m0 262 101 = (G : Int)) (hG6 : G ≤ 6) (hk : ka < 300) (hk' : kb < 300) (ha0 : AR ka a m0) (ha0' : AR kb a' m0) (hV : AV sc ar G 30000 a) (hV' : AV sc ar G 30000 a') {post : Int → Mi → Mj → Mp → Prop} (k : ∀ m', rcF m0 m' → post (i2b (tCov (ayw ar) a.2.2 a'.2.2)) m' J P) : ∀ (q v : Nat) (σ : Nat → List Int) (m : Mi), v + q = G → cvr (ayw ar) (a.2.2.take v).flatten a'.2.2.flatten (fun _ => []) = some ((a'.2.2.drop v).flatten, σ) → BRc sc σ m → rcF m0 m → Rn X (d + 3) 213 45 [some (.ref 262), some (.int (iz (ka : Int))), some (.int (iz (kb : Int))), some (.int (iz 1)), some (.int (iz (v : Int)))] [] (SS m J P) (QI post) := by
  have stop : ∀ (v : Nat) (m : Mi), v ≤ 100 → rcF m0 m → tCov (ayw ar) a.2.2 a'.2.2 = false → Rn X (d + 3) 213 45 [some (.ref 262), some (.int (iz (ka : Int))), some (.int (iz (kb : Int))), some (.int (iz 0)), some (.int (iz (v : Int)))] [] (SS m J P) (QI post) := fun v m hv hF hW => by
    have kk := k m hF
    rw [hW] at kk
    have kk : post 0 m J P := kk
    refine b_Mdl_covers_45 (d := d + 1) (ka : Int) (kb : Int) 0 (v : Int) m J P hp post ?_
    rw [show m 262 101 = (G : Int) from (hF _ _ (by omega) (by omega)).trans hgv]
    exact ⟨by constructor <;> omega, by constructor <;> omega, fun _ => ⟨Or.inl rfl, kk⟩, fun _ => ⟨zr0, fun _ => ⟨Or.inl rfl, kk⟩, fun g => absurd rfl g⟩⟩
  intro q
  induction q with
  | zero =>
    intro v σ m hv hc hB hF
    refine b_Mdl_covers_45 (d := d + 1) (ka : Int) (kb : Int) 1 (v : Int) m J P hp post ?_
    rw [show m 262 101 = (G : Int) from (hF _ _ (by omega) (by omega)).trans hgv]
    refine ⟨by constructor <;> omega, by constructor <;> omega, fun _ => ⟨Or.inr rfl, ?_⟩, fun g => absurd (by omega) g⟩
    have kk := k m hF
    have e : tCov (ayw ar) a.2.2 a'.2.2 = true := by
      unfold tCov
      rw [List.take_of_length_le (by have := hV.1; omega)] at hc
      rw [hc]
      rfl
    rw [e] at kk
    exact kk
  | succ q ih =>
    intro v σ m hv hc hB hF
    have hva : v < a.2.2.length := by have := hV.1; omega
    have hvb : v < a'.2.2.length := by have := hV'.1; omega
    have ha : AR ka a m := AR_fr ha0 fun b k g1 g2 => hF _ _ (by omega) (by omega)
    have ha' : AR kb a' m := AR_fr ha0' fun b k g1 g2 => hF _ _ (by omega) (by omega)
    have hl1 := hV.1
    have hl2 := hV'.1
    have f1 := hV.2.2.1
    have f2 := hV'.2.2.1
    have wa := hV.2.1 _ (List.getElem_mem hva)
    have wb := hV'.2.1 _ (List.getElem_mem hvb)
    refine b_Mdl_covers_45 (d := d + 1) (ka : Int) (kb : Int) 1 (v : Int) m J P hp post ?_
    rw [show m 262 101 = (G : Int) from (hF _ _ (by omega) (by omega)).trans hgv]
    refine ⟨by constructor <;> omega, by constructor <;> omega, fun g => absurd g (by omega), fun _ => ⟨zr1, fun g => absurd g (by omega), fun _ => ?_⟩⟩
    refine r_answerFrom (d := d + 2) hp hk ha (by omega) (by omega) f1 ⟨hp, by omega, ?_⟩
    refine r_answerFrom (d := d + 2) hp hk' ha' (by omega) (by omega) f2 ⟨hp, by omega, ?_⟩
    rw [show ((6 * (ka : Int)) + (v : Int)).toNat = 6 * ka + v by omega, show ((6 * (kb : Int)) + (v : Int)).toNat = 6 * kb + v by omega, show m 336 (6 * ka + v) = (a.2.2[v].length : Int) from ha.2.2.1 v hva, show m 336 (6 * kb + v) = (a'.2.2[v].length : Int) from ha'.2.2.1 v hvb, show (v : Int) + 1 = ((v + 1 : Nat) : Int) by omega]
    have lfa : a.2.2.flatten.length = (a.2.2.take v).flatten.length + (a.2.2.drop v).flatten.length := by rw [← List.length_append, ← fl_td]
    have lfb : a'.2.2.flatten.length = (a'.2.2.take v).flatten.length + (a'.2.2.drop v).flatten.length := by rw [← List.length_append, ← fl_td]
    have lda : (a.2.2.drop v).flatten.length = a.2.2[v].length + (a.2.2.drop (v + 1)).flatten.length := by rw [fl_split hva, List.length_append]
    have hra : Ro m 323 (a.2.1 + (a.2.2.take v).flatten.length) a.2.2[v] := by
      have := ha.2.2.2
      rw [fl_td (v := v), fl_split hva] at this
      exact (Ro_app.mp (Ro_app.mp this).2).1
    have hrb : Ro m 323 (a'.2.1 + (a'.2.2.take v).flatten.length) (a'.2.2.drop v).flatten := by
      have := ha'.2.2.2
      rw [fl_td (v := v)] at this
      exact (Ro_app.mp this).2
    have mem2 : ∀ c, c ∈ (a'.2.2.drop v).flatten → gq sc c := fun c hc => by
      obtain ⟨w, hw, hcw⟩ := List.mem_flatten.mp hc
      exact (hV'.2.1 w (List.mem_of_mem_drop hw)).2.2 c hcw
    have hall : ∀ W, cvr (ayw ar) a.2.2[v] (a'.2.2.drop v).flatten σ = W → cvr (ayw ar) (a.2.2.take (v + 1)).flatten a'.2.2.flatten (fun _ => []) = W := fun W h => by
      rw [fl_take hva, cvr_app, hc]
      exact h
    refine Ci.of rfl rfl rfl (b_Mdl_comesOf_0 (d := d + 1) _ _ _ _ m J P hp _ ?_)
    have ctd := fl_drop_ct (ay := ayw ar) (vs := a'.2.2) (v := v) fun w hw => (hV'.2.1 w hw).1
    refine r_co6 (d := d + 1) (m0 := m0) (xa := a.2.1 + (a.2.2.take v).flatten.length) (nn := a.2.2[v].length) (xb := a'.2.1 + (a'.2.2.take v).flatten.length) (W := cvr (ayw ar) a.2.2[v] (a'.2.2.drop v).flatten σ) hp har hRA0 (by omega) (fun r hr m' hB' hF' => ⟨hp, ?_⟩) (fun hn m' hF' => ⟨hp, ?_⟩) a.2.2[v] (a'.2.2.drop v).flatten σ _ _ (G - (v + 1)) 1 m rfl wa.1 (by rw [ctd]; congr 1; omega) wa.2.2 mem2 rfl (by omega) hra hrb hB hF
    · have hrest : r.1 = (a'.2.2.drop (v + 1)).flatten := by
        have e := hr
        rw [fl_split hvb] at e
        exact cvr_rest (fun c hc => by unfold ayw; rw [if_pos hc]) wa.1 wb.1 e
      exact ih (v + 1) r.2 m' (by omega) (by rw [hall _ hr]; rw [← hrest]) hB' hF'
    · refine stop (v + 1) m' (by omega) hF' ?_
      unfold tCov
      rw [fl_td (vs := a.2.2) (v := v + 1), cvr_app, hall _ hn]
      rfl
end RCV
