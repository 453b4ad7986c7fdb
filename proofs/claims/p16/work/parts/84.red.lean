/-! the class's Reducer: settle(), isSame(), fits(), contract() -/
section RED
variable {X : aX} {d : Nat} {P : Mp} {J : Mj} {m : Mi} {b sc o : Nat} {ar : Nat → Int} {dn : List Int}
/-- what is in NORMAL FORM: dn, turned round, from low on -/
def DN (ay : Int → Nat) (m : Mi) (dn : List Int) : Prop := dn.length ≤ 200 ∧ m 28 4 = 200 - (dn.length : Int) ∧ Ro m 30 (200 - dn.length) dn ∧ ∀ p t z, dn = p ++ (t ++ z) → ctt ay t = some 1 → m 31 (200 - dn.length + p.length) = (t.length : Int)
theorem DN_fr {ay : Int → Nat} {m' : Mi} (h : DN ay m dn) (f0 : m' 28 4 = m 28 4) (f1 : ∀ k, m' 30 k = m 30 k) (f2 : ∀ k, m' 31 k = m 31 k) : DN ay m' dn :=
  ⟨h.1, f0.trans h.2.1, Ro_fr h.2.2.1 fun k _ _ => f1 k, fun p t z h1 h2 => (f2 _).trans (h.2.2.2 p t z h1 h2)⟩
theorem DN_nil {ay : Int → Nat} (h : m 28 4 = 200) : DN ay m [] := ⟨by simp, by rw [h]; rfl, trivial, fun p t z h1 h2 => by
  have := congrArg List.length h1
  simp only [List.length_append, List.length_nil] at this
  have := ct_ne h2
  omega⟩
theorem DN_suf {ay : Int → Nat} {m' : Mi} {x y : List Int} (h : DN ay m (x ++ y)) (f0 : m' 28 4 = 200 - (y.length : Int)) (f1 : ∀ k, m' 30 k = m 30 k) (f2 : ∀ k, m' 31 k = m 31 k) : DN ay m' y := by
  obtain ⟨h1, h2, h3, h4⟩ := h
  rw [List.length_append] at h1
  refine ⟨by omega, f0, ?_, fun p t z g1 g2 => ?_⟩
  · have := (Ro_app.mp h3).2
    rw [List.length_append, show 200 - (x.length + y.length) + x.length = 200 - y.length by omega] at this
    exact Ro_fr this fun k _ _ => f1 k
  · have := h4 (x ++ p) t z (by rw [g1, List.append_assoc]) g2
    rw [List.length_append, List.length_append] at this
    rw [f2, ← this]
    congr 1
    omega
theorem DN_sz {ay : Int → Nat} {p t z : List Int} (h : DN ay m dn) (e : dn = p ++ (t ++ z)) (ht : ctt ay t = some 1) : m 31 (200 - dn.length + p.length) = (t.length : Int) ∧ p.length + t.length + z.length = dn.length ∧ 0 < t.length ∧ dn.length ≤ 200 := by
  refine ⟨h.2.2.2 p t z e ht, ?_, ct_ne ht, h.1⟩
  rw [e, List.length_append, List.length_append]
  omega
theorem c_settle_12 {c : Int} (hp : PP P) (kb : am_kd an_K b = some (.inl 10)) (hD : DN (ayw ar) m dn) (hl : dn.length < 200) {a0 z0 : List Int} (e0 : dn = a0 ++ z0) (ha0 : ctt (ayw ar) a0 = some (ayw ar c)) {post : Mi → Mj → Mp → Prop} (kk : ∀ m', DN (ayw ar) m' (c :: dn) → (∀ a k, ¬ (a = 28 ∧ k = 4) → a ≠ 30 → a ≠ 31 → m' a k = m a k) → post m' J P) : ∀ (k : Nat) (p a z : List Int), dn = p ++ (a ++ z) → p.length + a.length = a0.length → ctt (ayw ar) a = some k → Rn X (d + 1) 68 12 [some (.ref 28), some (.int (iz c)), some (.ref b), some (.int (iz ((200 - dn.length + p.length : Nat) : Int))), some (.int (iz (k : Int)))] [] (SS m J P) (QV post) := by
  intro k
  induction k with
  | zero =>
    intro p a z e h1 h2
    have := ct_zero h2
    subst this
    rw [List.length_nil, Nat.add_zero] at h1
    have h28 := hD.2.1
    have e0l := congrArg List.length e0
    rw [List.length_append] at e0l
    refine b_Reducer_settle_12 c b ((200 - dn.length + p.length : Nat) : Int) ((0 : Nat) : Int) kb m J P hp post ⟨by constructor <;> omega, fun _ => ⟨by rw [h28]; constructor <;> omega, fun _ => ?_, fun h => absurd (by rw [h28]; omega) h⟩, fun h => absurd (by omega) h⟩
    have ev : m 28 4 - 1 = 200 - (dn.length : Int) - 1 := by rw [h28]
    rw [ev]
    have e1 : mu m 28 4 (200 - (dn.length : Int) - 1) 28 4 = 200 - (dn.length : Int) - 1 := mu_at _ _ _ _
    have ei : (200 - (dn.length : Int) - 1).toNat = 199 - dn.length := by omega
    have e2 : mu (mu m 28 4 (200 - (dn.length : Int) - 1)) 30 (199 - dn.length) c 28 4 = 200 - (dn.length : Int) - 1 := (mu_ne _ _ (by omega)).trans e1
    rw [e1, ei, e2, ei]
    refine ⟨by omega, by omega, kk _ ⟨?_, ?_, ⟨?_, ?_⟩, fun p' t z' g1 g2 => ?_⟩ (fun a k g1 g2 g3 => by rw [mu_ne _ _ (by omega), mu_ne _ _ (by omega), mu_ne _ _ (by omega)])⟩
    · rw [List.length_cons]; omega
    · rw [mu_ne _ _ (by omega), e2, List.length_cons]; omega
    · rw [mu_ne _ _ (by omega), List.length_cons, show 200 - (dn.length + 1) = 199 - dn.length by omega, mu_at]
    · rw [List.length_cons, show 200 - (dn.length + 1) + 1 = 200 - dn.length by omega]
      exact Ro_fr hD.2.2.1 fun k g1 g2 => by rw [mu_ne _ _ (by omega), mu_ne _ _ (by omega), mu_ne _ _ (by omega)]
    · cases p' with
      | nil =>
        have e3 : t ++ z' = (c :: a0) ++ z0 := by
          rw [List.nil_append] at g1
          rw [← g1, e0]; rfl
        obtain ⟨e4, _⟩ := ct_pf g2 (ct_one ha0) e3
        rw [e4, List.length_cons, List.length_cons, List.length_nil, show 200 - (dn.length + 1) + 0 = 199 - dn.length by omega, mu_at]
        omega
      | cons c' p' =>
        injection g1 with _ g3
        have := hD.2.2.2 p' t z' g3 g2
        rw [List.length_cons, List.length_cons, mu_ne _ _ (by omega), mu_ne _ _ (by omega), mu_ne _ _ (by omega), show 200 - (dn.length + 1) + (p'.length + 1) = 200 - dn.length + p'.length by omega]
        exact this
  | succ k ih =>
    intro p a z e h1 h2
    obtain ⟨t, r, e1, h3, h4⟩ := ct_first h2
    subst e1
    rw [List.append_assoc] at e
    obtain ⟨s1, s2, s3, _⟩ := DN_sz hD e h3
    have e0l := congrArg List.length e0
    rw [List.length_append] at e0l
    rw [List.length_append] at h1
    have hk := ct_le h2
    rw [List.length_append] at hk
    refine b_Reducer_settle_12 c b ((200 - dn.length + p.length : Nat) : Int) ((k + 1 : Nat) : Int) kb m J P hp post ⟨by constructor <;> omega, fun h => absurd h (by omega), fun _ => ⟨by constructor <;> omega, fun h => absurd h (by omega), fun _ => ⟨by omega, ?_⟩⟩⟩
    have ei : ((200 - dn.length + p.length : Nat) : Int).toNat = 200 - dn.length + p.length := by omega
    have ek : ((k + 1 : Nat) : Int) + (-1) = (k : Int) := by omega
    have ex : ((200 - dn.length + p.length : Nat) : Int) + (t.length : Int) = ((200 - dn.length + (p ++ t).length : Nat) : Int) := by rw [List.length_append]; omega
    rw [ei, s1, ek, ex]
    exact ih (p ++ t) r z (by rw [e]; simp only [List.append_assoc]) (by rw [List.length_append]; omega) h4
/-- settle(): the next cell is looked through -/
theorem c_settle {c : Int} {kd : Nat} (hp : PP P) (kb : am_kd an_K b = some (.inl 10)) (hs : sc ≤ 16) (hA : BA b sc ar m) (hg : gd sc c) (hD : DN (ayw ar) m dn) (hl : dn.length < 200) (hk : ctt (ayw ar) dn = some kd) (ha : ayw ar c ≤ kd) {post : Mi → Mj → Mp → Prop} (kk : ∀ m', DN (ayw ar) m' (c :: dn) → (∀ a k, ¬ (a = 28 ∧ k = 4) → a ≠ 30 → a ≠ 31 → m' a k = m a k) → post m' J P) : Cv X (d + 1) 68 [.ref 28, .int (iz c), .ref b] m J P post := by
  refine Cv.of rfl rfl rfl (b_Reducer_settle_0 c b kb m J P hp post ?_)
  refine c_args hp kb hA hs hg ⟨hp, ?_⟩
  obtain ⟨a0, z0, e0, ha0, _⟩ := ct_split (x := dn) (a := ayw ar c) (b := kd - ayw ar c) (by rw [hk]; congr 1; omega)
  have e1 : m 28 4 = ((200 - dn.length + ([] : List Int).length : Nat) : Int) := by rw [hD.2.1, List.length_nil]; omega
  rw [e1]
  exact c_settle_12 hp kb hD hl e0 ha0 kk _ [] a0 z0 e0 (by simp) ha0
/-- isSame() of two parts that are in NORMAL FORM -/
theorem c_redSame {p1 t1 z1 p2 t2 z2 : List Int} {ay : Int → Nat} (hp : PP P) (hD : DN ay m dn) (hb : ∀ c, c ∈ dn → Zr c) (e1 : dn = p1 ++ (t1 ++ z1)) (e2 : dn = p2 ++ (t2 ++ z2)) (h1 : ctt ay t1 = some 1) (h2 : ctt ay t2 = some 1) {post : Int → Mi → Mj → Mp → Prop} (k1 : t1 = t2 → post 1 m J P) (k0 : t1 ≠ t2 → post 0 m J P) : Ci X d 70 [.ref 28, .int (iz ((200 - dn.length + p1.length : Nat) : Int)), .int (iz ((200 - dn.length + p2.length : Nat) : Int))] m J P post := by
  obtain ⟨s1, l1, g1, h200⟩ := DN_sz hD e1 h1
  obtain ⟨s2, l2, g2, _⟩ := DN_sz hD e2 h2
  have i1 : ((200 - dn.length + p1.length : Nat) : Int).toNat = 200 - dn.length + p1.length := by omega
  have i2 : ((200 - dn.length + p2.length : Nat) : Int).toNat = 200 - dn.length + p2.length := by omega
  refine Ci.of rfl rfl rfl (b_Reducer_isSame_0 _ _ m J P hp post ⟨by omega, by omega, ?_⟩)
  rw [i1, i2, s1, s2]
  refine ⟨by constructor <;> omega, by constructor <;> omega, fun h => ?_, fun h => k0 (fun e => h (by rw [e]))⟩
  have loop : ∀ (r1 r2 u : List Int), t1 = u ++ r1 → t2 = u ++ r2 → Rn X d 70 19 [some (.ref 28), some (.int (iz ((200 - dn.length + p1.length : Nat) : Int))), some (.int (iz ((200 - dn.length + p2.length : Nat) : Int))), some (.int (iz (u.length : Int)))] [] (SS m J P) (QI post) := by
    intro r1
    induction r1 with
    | nil =>
      intro r2 u q1 q2
      have : r2 = [] := by
        have a1 := congrArg List.length q1
        have a2 := congrArg List.length q2
        rw [List.length_append] at a1 a2
        simp only [List.length_nil] at a1
        exact List.length_eq_zero_iff.mp (by omega)
      subst this
      have a1 := congrArg List.length q1
      rw [List.length_append, List.length_nil] at a1
      refine b_Reducer_isSame_19 _ _ _ m J P hp post ⟨by omega, by constructor <;> omega, ?_⟩
      rw [i1, s1]
      exact ⟨by constructor <;> omega, fun _ => k1 (q1.trans q2.symm), fun h => absurd (by omega) h⟩
    | cons c r1 ih =>
      intro r2 u q1 q2
      have a1 := congrArg List.length q1
      have a2 := congrArg List.length q2
      rw [List.length_append] at a1 a2
      rw [List.length_cons] at a1
      cases r2 with
      | nil => rw [List.length_nil] at a2; omega
      | cons c2 r2 =>
        have f1 := Ro_mem (p := p1 ++ u) (q := r1 ++ z1) (c := c) hD.2.2.1 (by rw [e1, q1]; simp only [List.append_assoc, List.cons_append])
        have f2 := Ro_mem (p := p2 ++ u) (q := r2 ++ z2) (c := c2) hD.2.2.1 (by rw [e2, q2]; simp only [List.append_assoc, List.cons_append])
        rw [List.length_append] at f1 f2
        have j1 : (((200 - dn.length + p1.length : Nat) : Int) + (u.length : Int)).toNat = 200 - dn.length + (p1.length + u.length) := by omega
        have j2 : (((200 - dn.length + p2.length : Nat) : Int) + (u.length : Int)).toNat = 200 - dn.length + (p2.length + u.length) := by omega
        rw [List.length_cons] at a2
        refine b_Reducer_isSame_19 _ _ _ m J P hp post ⟨by omega, by constructor <;> omega, ?_⟩
        rw [i1, s1, j1, j2, f1, f2]
        refine ⟨by constructor <;> omega, fun h => absurd h (by omega), fun _ => ⟨by omega, by omega, hb c (by rw [e1, q1]; simp), hb c2 (by rw [e2, q2]; simp), fun e => ?_, fun e => k0 (fun e3 => e ?_)⟩⟩
        · subst e
          have e4 : (u.length : Int) + 1 = ((u ++ [c]).length : Int) := by simp
          rw [e4]
          exact ih r2 (u ++ [c]) (by rw [q1]; simp) (by rw [q2]; simp)
        · rw [q1, q2] at e3
          have := List.append_cancel_left e3
          injection this
  exact loop t1 t2 [] rfl rfl
/-- a RULE as the Reducer holds it -/
def RM (o : Nat) (L R : List Int) (m : Mi) : Prop := m o 5 = (L.length : Int) ∧ m o 6 = ((L.length + R.length : Nat) : Int) ∧ Ro m (o + 4) 0 (L ++ R) ∧ (L.length ≤ 40 ∧ R.length ≤ 40) ∧ ∀ c, c ∈ L ++ R → -8 ≤ c ∧ c < 16
theorem RM_fr {L R : List Int} {m' : Mi} (h : RM o L R m) (f : ∀ k, m' o k = m o k) (g : ∀ k, m' (o + 4) k = m (o + 4) k) : RM o L R m' :=
  ⟨(f _).trans h.1, (f _).trans h.2.1, Ro_fr h.2.2.1 fun k _ _ => g k, h.2.2.2⟩
/-- where the parts of VARIABLES stand -/
def BD (m : Mi) (σ : Int → List Int) (dn L : List Int) : Prop := ∀ c, c ∈ L → c < 0 → ∃ p q, dn = p ++ (σ c ++ q) ∧ m 33 (-1 - c).toNat = ((200 - dn.length + p.length : Nat) : Int)
theorem c_fits_28 {L R : List Int} {kd kL : Nat} (hp : PP P) (ko : am_kd an_K o = some (.inl 8)) (ho : 59 ≤ o) {m0 : Mi} (hk : ctt (ayw ar) dn = some kd) (hb : ∀ c, c ∈ dn → Zr c) (hL : ctt (ayw ar) L = some kL) {post : Int → Mi → Mj → Mp → Prop} (k1 : ∀ σ y m', tv (ayw ar) σ → dn = sb σ L ++ y → BD m' σ dn L → (∀ a k, a ≠ 33 → m' a k = m0 a k) → post 1 m' J P) (k0 : ¬ Mtc (ayw ar) L dn → ∀ m', (∀ a k, a ≠ 33 → m' a k = m0 a k) → post 0 m' J P) : ∀ (L2 L1 y2 : List Int) (σ : Int → List Int) (m : Mi), L = L1 ++ L2 → tv (ayw ar) σ → dn = sb σ L1 ++ y2 → DN (ayw ar) m dn → RM o L R m → BD m σ dn L1 → (∀ c, c < 0 → -8 ≤ c → ¬ c ∈ L1 → m 33 (-1 - c).toNat = -1) → (∀ a k, a ≠ 33 → m a k = m0 a k) → Rn X (d + 1) 69 28 [some (.ref 28), some (.ref o), some (.int (iz ((200 - dn.length + (sb σ L1).length : Nat) : Int))), some (.int (iz (L1.length : Int))), none, none] [] (SS m J P) (QI post) := by
  intro L2
  induction L2 with
  | nil =>
    intro L1 y2 σ m eL hs ed hD hM hB hU hf
    rw [List.append_nil] at eL
    subst eL
    exact b_Reducer_fits_28 o _ _ ko m J P hp post ⟨by have := hM.2.2.2.1; constructor <;> omega, by rw [hM.1]; have := hM.2.2.2.1; constructor <;> omega, fun _ => k1 σ y2 m hs ed hB hf, fun h => absurd (by rw [hM.1]; exact Int.le_refl _) h⟩
  | cons c L2 ih =>
    intro L1 y2 σ m eL hs ed hD hM hB hU hf
    have hlen := congrArg List.length eL
    rw [List.length_append, List.length_cons] at hlen
    have hdl := congrArg List.length ed
    rw [List.length_append] at hdl
    have hc := Ro_mem (p := L1) (c := c) (q := L2 ++ R) hM.2.2.1 (by rw [eL]; simp only [List.append_assoc, List.cons_append])
    rw [Nat.zero_add] at hc
    have hcb := hM.2.2.2.2 c (by rw [eL]; simp)
    have e40 := hM.2.2.2.1
    have h200 := hD.1
    have ei : ((L1.length : Nat) : Int).toNat = L1.length := by omega
    have ej : ((200 - dn.length + (sb σ L1).length : Nat) : Int).toNat = 200 - dn.length + (sb σ L1).length := by omega
    -- what any way of fitting says of the rest
    have any : ∀ τ z, tv (ayw ar) τ → dn = sb τ L ++ z → (∀ c, c ∈ L1 → c < 0 → σ c = τ c) ∧ y2 = (if c < 0 then τ c else [c]) ++ (sb τ L2 ++ z) := by
      intro τ z ht e
      rw [eL, sb_app, sb_cons, List.append_assoc, List.append_assoc] at e
      exact sb_uniq hs ht (ed.symm.trans e)
    have nx : ((L1.length : Nat) : Int) + 1 = ((L1 ++ [c]).length : Int) := by simp
    refine b_Reducer_fits_28 o _ _ ko m J P hp post ⟨by constructor <;> omega, by rw [hM.1]; constructor <;> omega, fun h => absurd h (by rw [hM.1]; omega), fun _ => ⟨by constructor <;> omega, fun h2 => ?_, fun h2 => ?_⟩⟩
    · rw [ei, hc, ej]
      have hy2 : y2 ≠ [] := fun h0 => by rw [h0] at hdl; simp at hdl; omega
      obtain ⟨jy, hjy⟩ := ct_suf (by rw [← ed]; exact hk)
      have hj0 : jy ≠ 0 := fun h0 => hy2 (ct_zero (by rw [hjy, h0]))
      obtain ⟨t, r, e1, h3, h4⟩ := ct_first (k := jy - 1) (x := y2) (by rw [hjy]; congr 1; omega)
      have edt : dn = sb σ L1 ++ (t ++ r) := by rw [ed, e1]
      obtain ⟨s1, s2, s3, _⟩ := DN_sz hD edt h3
      refine ⟨by omega, by constructor <;> omega, fun hn => ?_, fun hn => ?_⟩
      · have hv : 0 ≤ -1 - c ∧ -1 - c < 8 := by omega
        by_cases hin : c ∈ L1
        · obtain ⟨p, q, g1, g2⟩ := hB c hin hn
          have gl := congrArg List.length g1
          rw [List.length_append, List.length_append] at gl
          refine ⟨by omega, by rw [g2]; constructor <;> omega, fun _ => ⟨by omega, ?_⟩, fun h => absurd (by rw [g2]; omega) h⟩
          rw [g2]
          refine c_redSame hp hD hb g1 edt (hs c hn) h3 (fun e => ⟨hp, zr1, fun _ => ⟨by omega, ?_⟩, fun h => absurd (by decide) h⟩) (fun e => ⟨hp, zr0, fun h => absurd rfl h, fun _ => k0 (fun ⟨τ, z, ht, e5⟩ => ?_) m hf⟩)
          · rw [s1, nx]
            have esb : sb σ (L1 ++ [c]) = sb σ L1 ++ t := by rw [sb_app, sb_cons, if_pos hn, sb_nil, List.append_nil, e]
            have ex : ((200 - dn.length + (sb σ L1).length : Nat) : Int) + (t.length : Int) = ((200 - dn.length + (sb σ (L1 ++ [c])).length : Nat) : Int) := by rw [esb, List.length_append]; omega
            rw [ex]
            refine ih (L1 ++ [c]) r σ m (by rw [eL]; simp) hs (by rw [esb, edt]; simp only [List.append_assoc]) hD hM (fun c' hc' hn' => ?_) (fun c' q1 q2 q3 => hU c' q1 q2 (fun q4 => q3 (List.mem_append_left _ q4))) hf
            rcases List.mem_append.mp hc' with h | h
            · exact hB c' h hn'
            · rw [List.mem_singleton.mp h]; exact hB c hin hn
          · obtain ⟨u1, u2⟩ := any τ z ht e5
            rw [if_pos hn, e1] at u2
            obtain ⟨u3, _⟩ := ct_pf h3 (ht c hn) u2
            exact e ((u1 c hin hn).trans u3.symm)
        · have hu := hU c hn hcb.1 hin
          refine ⟨by omega, by rw [hu]; exact zrm, fun h => absurd hu h, fun _ => ⟨by omega, by omega, ?_⟩⟩
          rw [mu_ne _ _ (by omega), s1, nx]
          have hcg : ∀ c', c' ∈ L1 → c' < 0 → (fun x => if x = c then t else σ x) c' = σ c' := fun c' h1 h2 => by
            show (if c' = c then t else σ c') = σ c'
            rw [if_neg (fun e => hin (by rw [← e]; exact h1))]
          have esb : sb (fun x => if x = c then t else σ x) (L1 ++ [c]) = sb σ L1 ++ t := by
            rw [sb_app, sb_congr hcg, sb_cons, if_pos hn, if_pos rfl, sb_nil, List.append_nil]
          have ex : ((200 - dn.length + (sb σ L1).length : Nat) : Int) + (t.length : Int) = ((200 - dn.length + (sb (fun x => if x = c then t else σ x) (L1 ++ [c])).length : Nat) : Int) := by rw [esb, List.length_append]; omega
          rw [ex]
          refine ih (L1 ++ [c]) r (fun x => if x = c then t else σ x) _ (by rw [eL]; simp) (fun c' hn' => ?_) (by rw [esb, edt]; simp only [List.append_assoc]) (DN_fr hD (mu_ne _ _ (by omega)) (fun k => mu_ne _ _ (by omega)) (fun k => mu_ne _ _ (by omega))) (RM_fr hM (fun k => mu_ne _ _ (by omega)) (fun k => mu_ne _ _ (by omega))) (fun c' hc' hn' => ?_) (fun c' q1 q2 q3 => ?_) (fun a k h => (mu_ne _ _ (by omega)).trans (hf a k h))
          · show ctt (ayw ar) (if c' = c then t else σ c') = some 1
            by_cases e : c' = c
            · rw [if_pos e]; exact h3
            · rw [if_neg e]; exact hs c' hn'
          · by_cases e : c' = c
            · subst e
              refine ⟨sb σ L1, r, ?_, ?_⟩
              · show dn = sb σ L1 ++ ((if c' = c' then t else σ c') ++ r)
                rw [if_pos rfl]; exact edt
              · rw [mu_at]
            · have hc2 : c' ∈ L1 := by
                rcases List.mem_append.mp hc' with h | h
                · exact h
                · exact absurd (List.mem_singleton.mp h) e
              obtain ⟨p, q, g1, g2⟩ := hB c' hc2 hn'
              refine ⟨p, q, ?_, ?_⟩
              · show dn = p ++ ((if c' = c then t else σ c') ++ q)
                rw [if_neg e]; exact g1
              · have hb8 := hM.2.2.2.2 c' (by rw [eL]; simp [hc2])
                rw [mu_ne _ _ (by omega)]; exact g2
          · have e : c' ≠ c := fun e => q3 (by rw [e]; simp)
            rw [mu_ne _ _ (by omega)]
            exact hU c' q1 q2 (fun q4 => q3 (List.mem_append_left _ q4))
      · cases t with
        | nil => exact absurd (ct_nil.mp h3) (by decide)
        | cons t0 t =>
          have hd := Ro_mem (p := sb σ L1) (c := t0) (q := t ++ r) hD.2.2.1 (by rw [edt]; rfl)
          rw [hd]
          refine ⟨by omega, hb t0 (by rw [edt]; simp), by constructor <;> omega, fun e => ?_, fun e => k0 (fun ⟨τ, z, ht, e5⟩ => e ?_) m hf⟩
          · subst e
            rw [nx]
            have esb : sb σ (L1 ++ [t0]) = sb σ L1 ++ [t0] := by rw [sb_app, sb_cons, if_neg hn, sb_nil, List.append_nil]
            have ex : ((200 - dn.length + (sb σ L1).length : Nat) : Int) + 1 = ((200 - dn.length + (sb σ (L1 ++ [t0])).length : Nat) : Int) := by rw [esb, List.length_append, List.length_singleton]; omega
            rw [ex]
            refine ih (L1 ++ [t0]) (t ++ r) σ m (by rw [eL]; simp) hs (by rw [esb, edt]; simp) hD hM (fun c' hc' hn' => ?_) (fun c' q1 q2 q3 => hU c' q1 q2 (fun q4 => q3 (List.mem_append_left _ q4))) hf
            rcases List.mem_append.mp hc' with h | h
            · exact hB c' h hn'
            · rw [List.mem_singleton.mp h] at hn'; exact absurd hn' hn
          · obtain ⟨_, u2⟩ := any τ z ht e5
            rw [if_neg hn, e1] at u2
            injection u2
    · -- nothing is left to fit
      refine k0 (fun ⟨τ, z, ht, e5⟩ => ?_) m hf
      obtain ⟨_, u2⟩ := any τ z ht e5
      have hy2 : y2 = [] := List.length_eq_zero_iff.mp (by omega)
      rw [hy2] at u2
      have := (List.append_eq_nil_iff.mp u2.symm).1
      by_cases hn : c < 0
      · rw [if_pos hn] at this
        have := ht c hn
        rename_i h0
        rw [h0] at this
        exact absurd (ct_nil.mp this) (by decide)
      · rw [if_neg hn] at this
        cases this
/-- fits(): whether the RULE can be used at what was looked through last -/
theorem c_fits {L R : List Int} {kd kL : Nat} (hp : PP P) (ko : am_kd an_K o = some (.inl 8)) (ho : 59 ≤ o) (hk : ctt (ayw ar) dn = some kd) (hb : ∀ c, c ∈ dn → Zr c) (hL : ctt (ayw ar) L = some kL) (hD : DN (ayw ar) m dn) (hM : RM o L R m) {post : Int → Mi → Mj → Mp → Prop} (k1 : ∀ σ y m', tv (ayw ar) σ → dn = sb σ L ++ y → BD m' σ dn L → (∀ a k, a ≠ 33 → m' a k = m a k) → post 1 m' J P) (k0 : ¬ Mtc (ayw ar) L dn → ∀ m', (∀ a k, a ≠ 33 → m' a k = m a k) → post 0 m' J P) : Ci X (d + 1) 69 [.ref 28, .ref o] m J P post := by
  refine Ci.of rfl rfl rfl (b_Reducer_fits_0 o ko m J P hp post ?_)
  have loop : ∀ (q v : Nat) (m1 : Mi), v + q = 8 → (∀ w, w < v → m1 33 w = -1) → (∀ a k, a ≠ 33 → m1 a k = m a k) → Rn X (d + 1) 69 2 [some (.ref 28), some (.ref o), some (.int (iz (v : Int))), none, none, none] [] (SS m1 J P) (QI post) := by
    intro q
    induction q with
    | zero =>
      intro v m1 hv h1 hf
      refine b_Reducer_fits_2 o _ ko m1 J P hp post ⟨by constructor <;> omega, fun _ => ?_, fun h => absurd (by omega) h⟩
      have e0 : m1 28 4 = ((200 - dn.length + (sb (fun x => [x]) []).length : Nat) : Int) := by rw [hf _ _ (by decide), hD.2.1, sb_nil, List.length_nil]; have := hD.1; omega
      rw [e0]
      exact c_fits_28 (m0 := m) hp ko ho hk hb hL k1 k0 L [] dn (fun x => [x]) m1 rfl (fun c hc => ct_cons.mpr ⟨0, ct_nil.mpr rfl, by rw [ayw_v c hc]; exact Nat.le_refl _, by rw [ayw_v c hc]⟩) rfl (DN_fr hD (hf _ _ (by decide)) (fun k => hf _ _ (by decide)) (fun k => hf _ _ (by decide))) (RM_fr hM (fun k => hf _ _ (by omega)) (fun k => hf _ _ (by omega))) (fun c hc => absurd hc List.not_mem_nil) (fun c h1' h2 _ => h1 _ (by omega)) hf
    | succ q ih =>
      intro v m1 hv h1 hf
      have ev : ((v : Nat) : Int).toNat = v := by omega
      have en : ((v : Nat) : Int) + 1 = ((v + 1 : Nat) : Int) := by omega
      refine b_Reducer_fits_2 o _ ko m1 J P hp post ⟨by constructor <;> omega, fun h => absurd h (by omega), fun _ => ⟨by omega, ?_⟩⟩
      rw [ev, en]
      refine ih (v + 1) _ (by omega) (fun w hw => ?_) (fun a k h => (mu_ne _ _ (by omega)).trans (hf a k h))
      by_cases e : w = v
      · rw [e, mu_at]
      · rw [mu_ne _ _ (by omega)]; exact h1 w (by omega)
  exact loop 8 0 m rfl (fun w hw => absurd hw (Nat.not_lt_zero _)) (fun _ _ _ => rfl)
end RED
