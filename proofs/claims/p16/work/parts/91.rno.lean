/-! the reference: replace(), normalize(), take(), areOne() -/
section RNO
variable {X : aX} {d : Nat} {P : Mp} {J : Mj} {m : Mi} {sc N : Nat} {ar : Nat → Int} {Lf Rf : Nat → List Int} {x y : Nat} {T : List Int} {σ : Int → List Int}
/-- all references but the two rows' stay -/
def PF (P P' : Mp) : Prop := ∀ o k, ¬ (o = 262 ∧ (k = 59 ∨ k = 60)) → P' o k = P o k
theorem PF_trans {P' P'' : Mp} (h : PF P P') (h2 : PF P' P'') : PF P P'' := fun o k g => (h2 o k g).trans (h o k g)
theorem PP_put {o k : Nat} {v : Option Nat} (hp : PP P) (h : an_pt o k = none) : PP (mpu P o k v) := fun o' k' q e => by
  unfold mpu
  by_cases g : o' = o ∧ k' = k
  · rw [g.1, g.2, h] at e
    cases e
  · rw [if_neg g]
    exact hp o' k' q e
theorem PP_sw (hp : PP P) (hTP : TP P x y) : PP (mpu P 262 59 (some y)) ∧ PP (mpu (mpu P 262 59 (some y)) 262 60 (some x)) := by
  have h1 : an_pt 262 59 = none := by decide +kernel
  have h2 : an_pt 262 60 = none := by decide +kernel
  exact ⟨PP_put hp h1, PP_put (PP_put hp h1) h2⟩
theorem r_rep_94 {u : Nat} {dn p q : List Int} {c : Int} (hp : PP P) (hTP : TP P x y) {x1 x2 x3 x5 : Int} (hc : -8 ≤ c ∧ c < 0) (eT : T = p ++ (σ c ++ q)) (h300 : m 301 (-1 - c).toNat = ((p.length + (σ c).length : Nat) : Int)) (hrow : Ro m x 0 T) (hT : T.length ≤ 200) (hl : dn.length + (σ c).length ≤ 200) {post : Mi → Mj → Mp → Prop} (k : ∀ m', Ro m' y 0 (dn ++ σ c) → (∀ a k, a ≠ y → m' a k = m a k) → Rn X d 180 38 [some (.ref 262), some (.int (iz x1)), some (.int (iz x2)), some (.int (iz x3)), some (.int (iz ((dn ++ σ c).length : Int))), some (.int (iz (x5 + 1))), none, none] [] (SS m' J P) (QV post)) : ∀ (r v : List Int) (m1 : Mi), σ c = v ++ r → Ro m1 y 0 (dn ++ v) → (∀ a k, a ≠ y → m1 a k = m a k) → Rn X d 180 94 [some (.ref 262), some (.int (iz x1)), some (.int (iz x2)), some (.int (iz x3)), some (.int (iz ((dn ++ v).length : Int))), some (.int (iz x5)), some (.int (iz c)), some (.int (iz ((p.length + v.length : Nat) : Int)))] [] (SS m1 J P) (QV post) := by
  obtain ⟨kx, ky⟩ := TP_kd hTP
  have hxy := hTP.2.2
  have hTl := congrArg List.length eT
  rw [List.length_append, List.length_append] at hTl
  intro r
  induction r with
  | nil =>
    intro v m1 e hR hf
    rw [List.append_nil] at e
    subst e
    refine b_Mdl_replace_94 x1 x2 x3 _ x5 c _ m1 J P hp post ⟨by omega, by constructor <;> omega, ?_⟩
    rw [hf 301 _ (by omega), h300]
    exact ⟨by constructor <;> omega, fun _ => k m1 hR hf, fun h => absurd (Int.le_refl _) h⟩
  | cons a r ih =>
    intro v m1 e hR hf
    have hvl := congrArg List.length e
    rw [List.length_append, List.length_cons] at hvl
    have hrow1 : Ro m1 x 0 T := Ro_fr hrow fun k _ _ => hf _ _ (by omega)
    have ha := Ro_mem (p := p ++ v) (c := a) (q := r ++ q) hrow1 (by rw [eT, e]; simp only [List.append_assoc, List.cons_append])
    rw [Nat.zero_add, List.length_append] at ha
    have i1 : ((p.length + v.length : Nat) : Int).toNat = p.length + v.length := by omega
    have i2 : ((((dn ++ v).length : Nat)) : Int).toNat = (dn ++ v).length := by omega
    have hdl : (dn ++ v).length = dn.length + v.length := List.length_append
    refine b_Mdl_replace_94 x1 x2 x3 _ x5 c _ m1 J P hp post ⟨by omega, by constructor <;> omega, ?_⟩
    rw [hf 301 _ (by omega), h300]
    refine ⟨by constructor <;> omega, fun h => absurd h (by omega), fun _ => ⟨y, hTP.2.1, ky, x, hTP.1, kx, by omega, by omega, ?_⟩⟩
    rw [i1, i2, ha]
    have e1 : (((dn ++ v).length : Nat) : Int) + 1 = (((dn ++ (v ++ [a])).length : Nat) : Int) := by simp; omega
    have e2 : ((p.length + v.length : Nat) : Int) + 1 = ((p.length + (v ++ [a]).length : Nat) : Int) := by simp; omega
    rw [e1, e2]
    refine ih (v ++ [a]) _ (by rw [e]; simp) ?_ (fun a' k' h => (mu_ne _ _ (by omega)).trans (hf a' k' h))
    rw [← List.append_assoc]
    exact Ro_snoc hR
/-- replace(): the RULE's right TERM in place of t -/
theorem r_replace {u : Nat} {A t B R : List Int} (hp : PP P) (hTP : TP P x y) (hu : u < 16) (eT : T = A ++ (t ++ B)) (hT : T.length ≤ 200) (hn : A.length + (sb σ R).length + B.length ≤ 200) (hR40 : R.length ≤ 40) (h84 : m 284 u = (R.length : Int)) (hRr : Ro m 282 (40 * u) R) (hRc : ∀ c, c ∈ R → -8 ≤ c ∧ c < 16) {L : List Int} (hB : BR m σ T L) (hRL : ∀ c, c ∈ R → c < 0 → c ∈ L) (hrow : Ro m x 0 T) (hsz : m 262 61 = (T.length : Int)) {post : Mi → Mj → Mp → Prop} (k : ∀ m' P', PP P' → TP P' y x → PF P P' → Ro m' y 0 (A ++ (sb σ R ++ B)) → m' 262 61 = ((A ++ (sb σ R ++ B)).length : Int) → (∀ a k, a ≠ y → ¬ (a = 262 ∧ k = 61) → m' a k = m a k) → post m' J P') : Cv X d 180 [.ref 262, .int (iz (A.length : Int)), .int (iz ((A.length + t.length : Nat) : Int)), .int (iz (u : Int))] m J P post := by
  obtain ⟨kx, ky⟩ := TP_kd hTP
  have hxy := hTP.2.2
  have hTl := congrArg List.length eT
  rw [List.length_append, List.length_append] at hTl
  have eu : ((u : Nat) : Int).toNat = u := by omega
  refine Cv.of rfl rfl rfl (b_Mdl_replace_0 _ _ u m J P hp post ?_)
  -- what stands behind
  have l140 : ∀ (r v : List Int) (m1 : Mi), B = v ++ r → Ro m1 y 0 (A ++ (sb σ R ++ v)) → (∀ a k, a ≠ y → m1 a k = m a k) → Rn X d 180 140 [some (.ref 262), some (.int (iz (A.length : Int))), some (.int (iz ((A.length + t.length : Nat) : Int))), some (.int (iz (u : Int))), some (.int (iz ((A ++ (sb σ R ++ v)).length : Int))), some (.int (iz ((A.length + t.length + v.length : Nat) : Int))), none, none] [] (SS m1 J P) (QV post) := by
    intro r
    induction r with
    | nil =>
      intro v m1 e hR hf
      rw [List.append_nil] at e
      subst e
      have h61 : m1 262 61 = (T.length : Int) := (hf _ _ (by omega)).trans hsz
      have hnl : (A ++ (sb σ R ++ B)).length = A.length + ((sb σ R).length + B.length) := by rw [List.length_append, List.length_append]
      have pp1 : PP (mpu P 262 59 (some y)) ∧ PP (mpu (mpu P 262 59 (some y)) 262 60 (some x)) := PP_sw hp hTP
      refine b_Mdl_replace_140 _ _ u _ _ m1 J P hp post ⟨by constructor <;> omega, by rw [h61]; constructor <;> omega, fun _ => ⟨x, hTP.1, kx, y, hTP.2.1, ky, pp1.1, pp1.2, ?_⟩, fun h => absurd (by rw [h61]; omega) h⟩
      refine k _ _ pp1.2 ⟨?_, ?_, by omega⟩ (fun o k' g => ?_) (Ro_fr hR fun k _ _ => mu_ne _ _ (by omega)) (mu_at _ _ _ _) (fun a k g1 g2 => (mu_ne _ _ g2).trans (hf a k g1))
      · unfold mpu
        rw [if_neg (by decide), if_pos ⟨rfl, rfl⟩]
      · unfold mpu
        rw [if_pos ⟨rfl, rfl⟩]
      · unfold mpu
        rw [if_neg (fun e => g ⟨e.1, Or.inr e.2⟩), if_neg (fun e => g ⟨e.1, Or.inl e.2⟩)]
    | cons a r ih =>
      intro v m1 e hR hf
      have hvl := congrArg List.length e
      rw [List.length_append, List.length_cons] at hvl
      have h61 : m1 262 61 = (T.length : Int) := (hf _ _ (by omega)).trans hsz
      have hnl : (A ++ (sb σ R ++ v)).length = A.length + ((sb σ R).length + v.length) := by rw [List.length_append, List.length_append]
      have hrow1 : Ro m1 x 0 T := Ro_fr hrow fun k _ _ => hf _ _ (by omega)
      have ha := Ro_mem (p := A ++ t ++ v) (c := a) (q := r) hrow1 (by rw [eT, e]; simp only [List.append_assoc])
      rw [Nat.zero_add, List.length_append, List.length_append] at ha
      have i1 : ((A.length + t.length + v.length : Nat) : Int).toNat = A.length + t.length + v.length := by omega
      have i2 : (((A ++ (sb σ R ++ v)).length : Nat) : Int).toNat = (A ++ (sb σ R ++ v)).length := by omega
      refine b_Mdl_replace_140 _ _ u _ _ m1 J P hp post ⟨by constructor <;> omega, by rw [h61]; constructor <;> omega, fun h => absurd h (by rw [h61]; omega), fun _ => ⟨y, hTP.2.1, ky, x, hTP.1, kx, by omega, by omega, ?_⟩⟩
      rw [i1, i2, ha]
      have e1 : (((A ++ (sb σ R ++ v)).length : Nat) : Int) + 1 = (((A ++ (sb σ R ++ (v ++ [a]))).length : Nat) : Int) := by simp; omega
      have e2 : ((A.length + t.length + v.length : Nat) : Int) + 1 = ((A.length + t.length + (v ++ [a]).length : Nat) : Int) := by simp; omega
      rw [e1, e2]
      refine ih (v ++ [a]) _ (by rw [e]; simp) ?_ (fun a' k' h => (mu_ne _ _ (by omega)).trans (hf a' k' h))
      have := Ro_snoc (c := a) hR
      rw [List.append_assoc, List.append_assoc] at this
      exact this
  -- the RULE's right TERM
  have l38 : ∀ (R2 R1 : List Int) (m1 : Mi), R = R1 ++ R2 → Ro m1 y 0 (A ++ sb σ R1) → (∀ a k, a ≠ y → m1 a k = m a k) → Rn X d 180 38 [some (.ref 262), some (.int (iz (A.length : Int))), some (.int (iz ((A.length + t.length : Nat) : Int))), some (.int (iz (u : Int))), some (.int (iz ((A ++ sb σ R1).length : Int))), some (.int (iz (R1.length : Int))), none, none] [] (SS m1 J P) (QV post) := by
    intro R2
    induction R2 with
    | nil =>
      intro R1 m1 e hR hf
      rw [List.append_nil] at e
      subst e
      have h84' : m1 284 u = (R.length : Int) := (hf _ _ (by omega)).trans h84
      refine b_Mdl_replace_38 _ _ u _ _ m1 J P hp post ⟨by omega, by constructor <;> omega, by rw [eu, h84']; constructor <;> omega, fun _ => ?_, fun h => absurd (by rw [eu, h84']; exact Int.le_refl _) h⟩
      have := l140 B [] m1 rfl (by rw [List.append_nil]; exact hR) hf
      rw [List.append_nil, List.length_nil, Nat.add_zero] at this
      exact this
    | cons c R2 ih =>
      intro R1 m1 e hR hf
      have hRl := congrArg List.length e
      rw [List.length_append, List.length_cons] at hRl
      have h84' : m1 284 u = (R.length : Int) := (hf _ _ (by omega)).trans h84
      have hc := Ro_mem (p := R1) (c := c) (q := R2) hRr e
      have hc' : m1 282 (40 * u + R1.length) = c := (hf _ _ (by omega)).trans hc
      have hcb := hRc c (by rw [e]; simp)
      have e1 : ((40 * ((u : Nat) : Int)) + ((R1.length : Nat) : Int)).toNat = 40 * u + R1.length := by omega
      have e2 : ((R1.length : Nat) : Int) + 1 = ((R1 ++ [c]).length : Int) := by simp
      have esb : sb σ R = sb σ R1 ++ ((if c < 0 then σ c else [c]) ++ sb σ R2) := by rw [e, sb_app, sb_cons]
      have esb1 : sb σ (R1 ++ [c]) = sb σ R1 ++ (if c < 0 then σ c else [c]) := by rw [sb_app, sb_cons, sb_nil, List.append_nil]
      have hsl := congrArg List.length esb
      rw [List.length_append, List.length_append] at hsl
      have hAl : (A ++ sb σ R1).length = A.length + (sb σ R1).length := List.length_append
      refine b_Mdl_replace_38 _ _ u _ _ m1 J P hp post ⟨by omega, by constructor <;> omega, by rw [eu, h84']; constructor <;> omega, fun h => absurd h (by rw [eu, h84']; omega), fun _ => ⟨by omega, ?_⟩⟩
      rw [e1, hc']
      refine ⟨by constructor <;> omega, fun hn => ⟨by omega, ?_⟩, fun hn => ⟨y, hTP.2.1, ky, by omega, ?_⟩⟩
      · rw [if_pos hn] at hsl esb1
        obtain ⟨p, q, g1, g2, g3⟩ := hB c (hRL c (by rw [e]; simp) hn) hn
        have g2' : m1 300 (-1 - c).toNat = (p.length : Int) := (hf _ _ (by omega)).trans g2
        rw [g2']
        have := r_rep_94 (X := X) (d := d) (J := J) (post := post) (m := m1) (u := u) (dn := A ++ sb σ R1) (x1 := A.length) (x2 := ((A.length + t.length : Nat) : Int)) (x3 := u) (x5 := R1.length) hp hTP (by omega) g1 ((hf _ _ (by omega)).trans g3) (Ro_fr hrow fun k _ _ => hf _ _ (by omega)) hT (by omega) (fun m2 w1 w2 => by
          rw [e2, List.append_assoc, ← esb1]
          exact ih (R1 ++ [c]) m2 (by rw [e]; simp) (by rw [esb1, ← List.append_assoc]; exact w1) (fun a k h => (w2 a k h).trans (hf a k h))) (σ c) [] m1 rfl (by rw [List.append_nil]; exact hR) (fun _ _ _ => rfl)
        rw [List.append_nil, List.length_nil, Nat.add_zero] at this
        exact this
      · rw [if_neg hn] at hsl esb1
        rw [List.length_singleton] at hsl
        have i2 : ((((A ++ sb σ R1).length : Nat)) : Int).toNat = (A ++ sb σ R1).length := by omega
        have e3 : (((A ++ sb σ R1).length : Nat) : Int) + 1 = (((A ++ sb σ (R1 ++ [c])).length : Nat) : Int) := by rw [esb1]; simp; omega
        rw [i2, e2, e3]
        refine ih (R1 ++ [c]) _ (by rw [e]; simp) ?_ (fun a' k' h => (mu_ne _ _ (by omega)).trans (hf a' k' h))
        rw [esb1, ← List.append_assoc]
        exact Ro_snoc hR
  -- what stands ahead
  have l6 : ∀ (r v : List Int) (m1 : Mi), A = v ++ r → Ro m1 y 0 v → (∀ a k, a ≠ y → m1 a k = m a k) → Rn X d 180 6 [some (.ref 262), some (.int (iz (A.length : Int))), some (.int (iz ((A.length + t.length : Nat) : Int))), some (.int (iz (u : Int))), some (.int (iz (v.length : Int))), some (.int (iz (v.length : Int))), none, none] [] (SS m1 J P) (QV post) := by
    intro r
    induction r with
    | nil =>
      intro v m1 e hR hf
      rw [List.append_nil] at e
      subst e
      refine b_Mdl_replace_6 _ _ u _ _ m1 J P hp post ⟨by constructor <;> omega, by constructor <;> omega, fun _ => ?_, fun h => absurd (Int.le_refl _) h⟩
      have := l38 R [] m1 rfl (by rw [sb_nil, List.append_nil]; exact hR) hf
      rw [sb_nil, List.append_nil] at this
      exact this
    | cons a r ih =>
      intro v m1 e hR hf
      have hvl := congrArg List.length e
      rw [List.length_append, List.length_cons] at hvl
      have hrow1 : Ro m1 x 0 T := Ro_fr hrow fun k _ _ => hf _ _ (by omega)
      have ha := Ro_mem (p := v) (c := a) (q := r ++ (t ++ B)) hrow1 (by rw [eT, e]; simp only [List.append_assoc, List.cons_append])
      rw [Nat.zero_add] at ha
      have i1 : ((v.length : Nat) : Int).toNat = v.length := by omega
      refine b_Mdl_replace_6 _ _ u _ _ m1 J P hp post ⟨by constructor <;> omega, by constructor <;> omega, fun h => absurd h (by omega), fun _ => ⟨y, hTP.2.1, ky, x, hTP.1, kx, by omega, by omega, ?_⟩⟩
      rw [i1, ha]
      have e1 : ((v.length : Nat) : Int) + 1 = ((v ++ [a]).length : Int) := by simp
      rw [e1]
      exact ih (v ++ [a]) _ (by rw [e]; simp) (Ro_snoc hR) (fun a' k' h => (mu_ne _ _ (by omega)).trans (hf a' k' h))
  exact l6 A [] m rfl trivial (fun _ _ _ => rfl)
/-- what normalize() may change -/
def nzF (m m' : Mi) : Prop := ∀ a k, ¬ (296 ≤ a ∧ a ≤ 301) → ¬ (a = 262 ∧ (k = 61 ∨ k = 62 ∨ k = 67)) → m' a k = m a k
theorem nzF_trans {m m' m'' : Mi} (h : nzF m m') (h2 : nzF m' m'') : nzF m m'' := fun a k g1 g2 => (h2 a k g1 g2).trans (h a k g1 g2)
theorem rxF_nz {m m' : Mi} (h : rxF m m') : nzF m m' := fun a k g1 g2 => h a k (by omega) (by omega) (by omega) (by omega) (by omega)
theorem f_len {ay : Int → Nat} : ∀ {F : List (Int × List Int × List Int)}, fok ay F → (mpre ay F).length + (mpos ay F).length = (fpre F).length + (fpos F).length
  | [], _ => rfl
  | (s, A, B) :: F, h => by
    obtain ⟨⟨_, a, b, hA, hB, _⟩, hF⟩ := h
    have := f_len hF
    rw [mpre, mpos, fpre, fpos, List.length_append, List.length_append, List.length_append, List.length_append, List.length_cons, List.length_cons, mi_len hA, mi_len hB]
    omega
theorem Rf_R {u : Nat} (hO : Rf_ok sc ar N Lf Rf) (hu : u < N) : ∀ c, c ∈ Rf u → -8 ≤ c ∧ c < 16 := fun c hc => by
  have := (hO u hu).2.2.2.2 c (List.mem_append_right _ hc)
  exact ⟨this.2, this.1.2.1⟩
theorem r_norm_11 (hO : Rf_ok sc ar N Lf Rf) {m0 : Mi} {P0 : Mp} {post : Int → Mi → Mj → Mp → Prop} : ∀ (k : Nat) (wr dn T : List Int) (z : Int) (m : Mi) (P : Mp) (x y : Nat), k ≤ 1000 → PP P → TP P x y → PF P0 P → T.length ≤ 200 → (∀ c, c ∈ T → gp sc c) → ctt (ayw ar) T = some 1 → mi (ayw ar) T = wr.reverse ++ dn → Rst sc ar N Lf Rf x T m → m 262 62 = 1000 - (k : Int) → nzF m0 m → ((z = -1 ∧ sn (ayw ar) N (Lmi ar Lf) (Lmi ar Rf) wr dn = none) ∨ Fnd ar N Lf Rf T (sn (ayw ar) N (Lmi ar Lf) (Lmi ar Rf) wr dn) z m) → (∀ f s m' P' x' y' T', nr (ayw ar) N (Lmi ar Lf) (Lmi ar Rf) k wr dn = (0, f, s) → PP P' → TP P' x' y' → PF P0 P' → Rst sc ar N Lf Rf x' T' m' → mi (ayw ar) T' = f → ctt (ayw ar) T' = some 1 → T'.length ≤ 200 → (∀ c, c ∈ T' → gp sc c) → m' 262 62 = 1000 - (s : Int) → nzF m0 m' → post 0 m' J P') → (∀ q m' P' x' y', nr (ayw ar) N (Lmi ar Lf) (Lmi ar Rf) k wr dn = q → (q.1 = -2 ∨ q.1 = -3) → PP P' → TP P' x' y' → PF P0 P' → nzF m0 m' → post (if q.1 = -2 then 1 else 2) m' J P') → Rn X (d + 4) 175 11 [some (.ref 262), some (.int (iz z)), none, none, none, none, none] [] (SS m J P) (QI post) := by
  intro k
  induction k with
  | zero =>
    intro wr dn T z m P x y hk hp hTP hPF hT hg hct hmi hS hd hf hz k0 kq
    obtain ⟨kx, ky⟩ := TP_kd hTP
    have zz : m 262 62 = 1000 := by rw [hd]; rfl
    rcases hz with ⟨e, hn⟩ | hF
    · subst e
      exact b_Mdl_normalize_11 _ m J P hp post ⟨zrm, fun _ => k0 _ _ m P x y T (nr_none hn) hp hTP hPF hS hmi hct hT hg hd hf, fun h => absurd (by decide) h⟩
    · obtain ⟨F, t, u, σ, zt, f1, f2, f3, f4, f5, f6, f7, f8, f9, f10, f11, f12⟩ := hF
      have hTl := congrArg List.length f3
      rw [List.length_append] at hTl
      have hhit := nr_hit (k := 0) f10
      rw [if_pos rfl] at hhit
      refine b_Mdl_normalize_11 _ m J P hp post ⟨by constructor <;> omega, fun h => absurd h (by omega), fun _ => ⟨by rw [zz]; constructor <;> decide, fun h => absurd zz h, fun _ => ?_⟩⟩
      exact kq _ m P x y hhit (Or.inr rfl) hp hTP hPF hf
  | succ k ih =>
    intro wr dn T z m P x y hk hp hTP hPF hT hg hct hmi hS hd hf hz k0 kq
    obtain ⟨kx, ky⟩ := TP_kd hTP
    rcases hz with ⟨e, hn⟩ | hF
    · subst e
      exact b_Mdl_normalize_11 _ m J P hp post ⟨zrm, fun _ => k0 _ _ m P x y T (nr_none hn) hp hTP hPF hS hmi hct hT hg hd hf, fun h => absurd (by decide) h⟩
    · obtain ⟨F, t, u, σ, zt, f1, f2, f3, f4, f5, f6, f7, f8, f9, f10, f11, f12⟩ := hF
      obtain ⟨hA, hK, hrow, hsz⟩ := hS
      have hxx : x = 296 ∨ x = 297 := by have := hTP.2.2; omega
      have hTl := congrArg List.length f3
      rw [List.length_append, List.length_append] at hTl
      have hN16 := hK.1.1
      have hhit := nr_hit (k := k + 1) f10
      rw [if_neg (by omega)] at hhit
      obtain ⟨⟨q1, q2⟩, ⟨q3, q4⟩, q5, q6, q7⟩ := hK.2 u f5
      obtain ⟨o1, o2, o3, o4, o5⟩ := hO u f5
      have eu : ((u : Nat) : Int).toNat = u := by omega
      have hlen := f_len (ay := ayw ar) f1
      have ectR : ctt (ayw ar) (sb σ (Rf u)) = some 1 := ct_sb ayw_v f7 o2
      have emiR : mi (ayw ar) (sb σ (Rf u)) = sb (fun c => mi (ayw ar) (σ c)) (mi (ayw ar) (Rf u)) := mi_sb ayw_v f7 o2
      have hsbl : (sb (fun c => mi (ayw ar) (σ c)) (mi (ayw ar) (Rf u))).length = (sb σ (Rf u)).length := by rw [← emiR, mi_len ectR]
      rw [List.length_reverse, hsbl] at hhit
      have hσg : ∀ v, v ∈ Rf u → v < 0 → ∀ c, c ∈ σ v → gp sc c := fun v hv hn c hc => by
        obtain ⟨p, q, e, _⟩ := f9 v (o3 v hv hn) hn
        exact hg c (by rw [e]; simp [hc])
      have hσl : ∀ v, v ∈ Rf u → v < 0 → (σ v).length ≤ 200 := fun v hv hn => by
        obtain ⟨p, q, e, _⟩ := f9 v (o3 v hv hn) hn
        have := congrArg List.length e
        rw [List.length_append, List.length_append] at this
        omega
      refine b_Mdl_normalize_11 _ m J P hp post ⟨by constructor <;> omega, fun h => absurd h (by omega), fun _ => ⟨by rw [hd]; constructor <;> omega, fun _ => ⟨x, hTP.1, kx, ?_⟩, fun h => absurd (by rw [hd]; omega) h⟩⟩
      rw [f4]
      have e0 : (((fpre F).length : Nat) : Int) = ((0 + (fpre F).length : Nat) : Int) := by omega
      rw [e0]
      refine r_endOf (p := fpre F) (t := t) (z := fpos F) (a0 := 0) hp kx (by decide) hA (fun c hc => hg c (by rw [f3]; simp [hc])) f2 (by rw [← f3]; exact hrow) (by omega) ⟨hp, ?_⟩
      rw [f6, hsz, ← e0]
      have e1 : ((0 + (fpre F).length + t.length : Nat) : Int) = (((fpre F).length + t.length : Nat) : Int) := by omega
      rw [e1]
      -- the SIZE behind the STEP
      have l55 : ∀ (R2 R1 : List Int) (x4 : Int), Rf u = R1 ++ R2 → x4 = (((fpre F).length + (fpos F).length + (sb σ R1).length : Nat) : Int) → Rn X (d + 4) 175 55 [some (.ref 262), some (.int (iz ((fpre F).length : Int))), some (.int (iz (((fpre F).length + t.length : Nat) : Int))), some (.int (iz (u : Int))), some (.int (iz x4)), some (.int (iz (R1.length : Int))), none] [] (SS m J P) (QI post) := by
        intro R2
        induction R2 with
        | nil =>
          intro R1 x4 e ex4
          rw [List.append_nil] at e
          rw [← e] at ex4 ⊢
          have hbig : (sb σ (Rf u)).length ≤ 200 * (Rf u).length := by
            have : ∀ l : List Int, (∀ v, v ∈ l → v < 0 → (σ v).length ≤ 200) → (sb σ l).length ≤ 200 * l.length := by
              intro l
              induction l with
              | nil => intro _; exact Nat.le_refl _
              | cons c l jh =>
                intro h
                have := jh fun v h1 h2 => h v (List.mem_cons_of_mem _ h1) h2
                rw [sb_cons, List.length_append, List.length_cons]
                split
                · rename_i hn
                  have := h c List.mem_cons_self hn
                  omega
                · rw [List.length_singleton]; omega
            exact this _ hσl
          refine b_Mdl_normalize_55 _ _ u _ _ m J P hp post ⟨by omega, by constructor <;> omega, by rw [eu, q2]; constructor <;> omega, fun _ => ⟨by constructor <;> omega, fun hle => ?_, fun hgt => ?_⟩, fun h => absurd (by rw [eu, q2]; exact Int.le_refl _) h⟩
          · rw [if_neg (by omega)] at hhit
            refine r_replace (σ := σ) (A := fpre F) (t := t) (B := fpos F) (R := Rf u) hp hTP (by omega) f3 hT (by omega) q5.2 q2 q4 (Rf_R hO f5) f9 o3 hrow hsz (fun m2 P2 w1 w2 w3 w4 w5 w6 => ⟨w1, ?_⟩)
            have hF2 := f_fill ectR f1
            have hT2 : (fpre F ++ (sb σ (Rf u) ++ fpos F)).length ≤ 200 := by rw [List.length_append, List.length_append]; omega
            have hg2 : ∀ c, c ∈ fpre F ++ (sb σ (Rf u) ++ fpos F) → gp sc c := fun c hc => by
              rcases List.mem_append.mp hc with h | h
              · exact hg c (by rw [f3]; simp [h])
              · rcases List.mem_append.mp h with h | h
                · exact sb_all (Q := gp sc) (fun c' h1 h2 => (o5 c' (List.mem_append_right _ h1)).1) hσg c h
                · exact hg c (by rw [f3]; simp [h])
            have M2 : ∀ a k, ¬ (296 ≤ a ∧ a ≤ 301) → ¬ (a = 262 ∧ (k = 61 ∨ k = 62 ∨ k = 67)) → mu m2 262 62 (m2 262 62 + 1) a k = m a k := fun a k g1 g2 => by
              rw [mu_ne _ _ (by omega)]
              exact w6 a k (by have := hTP.2.2; omega) (by omega)
            have hd2 : m2 262 62 = 1000 - ((k + 1 : Nat) : Int) := (w6 _ _ (by have := hTP.2.2; omega) (by omega)).trans hd
            have hS2 : Rst sc ar N Lf Rf y (fpre F ++ (sb σ (Rf u) ++ fpos F)) (mu m2 262 62 (m2 262 62 + 1)) := ⟨RAr_fr hA fun k => M2 _ _ (by decide) (by omega), RyM_fr hK (M2 _ _ (by decide) (by omega)) (fun a k g => M2 _ _ (by omega) (by omega)), Ro_fr w4 fun k _ _ => mu_ne _ _ (by have := hTP.2.2; omega), (mu_ne _ _ (by omega)).trans w5⟩
            have eQ : (mi (ayw ar) (sb σ (Rf u))).reverse ++ (mpre (ayw ar) F).reverse = (sb (fun c => mi (ayw ar) (σ c)) (mi (ayw ar) (Rf u))).reverse ++ (mpre (ayw ar) F).reverse := by rw [emiR]
            have hmi2 : mi (ayw ar) (fpre F ++ (sb σ (Rf u) ++ fpos F)) = ((sb (fun c => mi (ayw ar) (σ c)) (mi (ayw ar) (Rf u))).reverse ++ (mpre (ayw ar) F).reverse).reverse ++ mpos (ayw ar) F := by
              rw [hF2.2, emiR]; simp
            have M3 : ∀ {m'}, rxF (mu m2 262 62 (m2 262 62 + 1)) m' → nzF m0 m' := fun h => nzF_trans hf (nzF_trans M2 (rxF_nz h))
            have hd3 : ∀ {m'}, rxF (mu m2 262 62 (m2 262 62 + 1)) m' → m' 262 62 = 1000 - (k : Int) := fun h => by
              rw [h _ _ (by decide) (by decide) (by decide) (by decide) (by omega), mu_at, hd2]; omega
            rw [show k + 1 - 1 = k by omega] at hhit
            rw [hhit] at k0 kq
            refine r_redex (F0 := F) (t0 := sb σ (Rf u)) w1 w2 hO hT2 hg2 ectR f1 rfl hS2 (fun p m3 v1 v2 v3 => ⟨w1, ?_⟩) (fun v1 m3 v2 v3 => ⟨w1, ?_⟩)
            · rw [eQ] at v1
              exact ih _ _ _ p m3 P2 y x (by omega) w1 w2 (PF_trans hPF w3) hT2 hg2 hF2.1 hmi2 v2 (hd3 v3) (M3 v3) (Or.inr v1) k0 kq
            · rw [eQ] at v1
              exact ih _ _ _ (-1) m3 P2 y x (by omega) w1 w2 (PF_trans hPF w3) hT2 hg2 hF2.1 hmi2 v2 (hd3 v3) (M3 v3) (Or.inl ⟨rfl, v1⟩) k0 kq
          · rw [if_pos (by omega)] at hhit
            have := kq _ m P x y hhit (Or.inl rfl) hp hTP hPF hf
            exact this
        | cons c R2 jh =>
          intro R1 x4 e ex4
          have hRl := congrArg List.length e
          rw [List.length_append, List.length_cons] at hRl
          have hc := Ro_mem (p := R1) (c := c) (q := R2) q4 e
          have hcb := Rf_R hO f5 c (by rw [e]; simp)
          have e5 : ((40 * ((u : Nat) : Int)) + ((R1.length : Nat) : Int)).toNat = 40 * u + R1.length := by omega
          have e6 : ((R1.length : Nat) : Int) + 1 = ((R1 ++ [c]).length : Int) := by simp
          have esb1 : sb σ (R1 ++ [c]) = sb σ R1 ++ (if c < 0 then σ c else [c]) := by rw [sb_app, sb_cons, sb_nil, List.append_nil]
          refine b_Mdl_normalize_55 _ _ u _ _ m J P hp post ⟨by omega, by constructor <;> omega, by rw [eu, q2]; constructor <;> omega, fun h => absurd h (by rw [eu, q2]; omega), fun _ => ⟨by omega, ?_⟩⟩
          rw [e5, hc, e6]
          refine ⟨by constructor <;> omega, fun hn => ⟨by omega, by omega, ?_⟩, fun hn => ?_⟩
          · obtain ⟨p, q, g1, g2, g3⟩ := f9 c (o3 c (by rw [e]; simp) hn) hn
            rw [g2, g3]
            exact jh (R1 ++ [c]) _ (by rw [e]; simp) (by rw [esb1, if_pos hn, List.length_append]; omega)
          · exact jh (R1 ++ [c]) _ (by rw [e]; simp) (by rw [esb1, if_neg hn, List.length_append, List.length_singleton]; omega)
      exact l55 (Rf u) [] _ rfl (by rw [sb_nil, List.length_nil]; omega)
theorem r_normalize (hp : PP P) (hTP : TP P x y) (hO : Rf_ok sc ar N Lf Rf) (hT : T.length ≤ 200) (hg : ∀ c, c ∈ T → gp sc c) (hct : ctt (ayw ar) T = some 1) (hS : Rst sc ar N Lf Rf x T m) {post : Int → Mi → Mj → Mp → Prop} (k0 : (nf (ayw ar) N (Lmi ar Lf) (Lmi ar Rf) T).1 = 0 → ∀ m' P' x' y' T', PP P' → TP P' x' y' → PF P P' → Rst sc ar N Lf Rf x' T' m' → mi (ayw ar) T' = (nf (ayw ar) N (Lmi ar Lf) (Lmi ar Rf) T).2.1 → ctt (ayw ar) T' = some 1 → T'.length ≤ 200 → (∀ c, c ∈ T' → gp sc c) → m' 262 62 = 1000 - ((nf (ayw ar) N (Lmi ar Lf) (Lmi ar Rf) T).2.2 : Int) → nzF m m' → post 0 m' J P') (kq : (nf (ayw ar) N (Lmi ar Lf) (Lmi ar Rf) T).1 ≠ 0 → ∀ m' P' x' y', PP P' → TP P' x' y' → PF P P' → nzF m m' → post (if (nf (ayw ar) N (Lmi ar Lf) (Lmi ar Rf) T).1 = -2 then 1 else 2) m' J P') : Ci X (d + 4) 175 [.ref 262] m J P post := by
  have hxx : x = 296 ∨ x = 297 := by have := hTP.2.2; omega
  refine Ci.of rfl rfl rfl (b_Mdl_normalize_0 m J P hp post ?_)
  have F0 : nzF m (mu m 262 62 0) := fun a k g1 g2 => mu_ne _ _ (by omega)
  obtain ⟨hA, hK, hrow, hsz⟩ := hS
  have hS0 : Rst sc ar N Lf Rf x T (mu m 262 62 0) := ⟨RAr_fr hA fun k => mu_ne _ _ (by omega), RyM_fr hK (mu_ne _ _ (by omega)) (fun a k g => mu_ne _ _ (by omega)), Ro_fr hrow fun k _ _ => mu_ne _ _ (by omega), (mu_ne _ _ (by omega)).trans hsz⟩
  have e0 : (0 : Int) = (((fpre []).length : Nat) : Int) := rfl
  have eQ : (mi (ayw ar) T).reverse ++ (mpre (ayw ar) []).reverse = (mi (ayw ar) T).reverse := by rw [mpre]; simp
  have eP : mpos (ayw ar) [] = [] := rfl
  have fin : ∀ (z : Int) (m1 : Mi), Rst sc ar N Lf Rf x T m1 → rxF (mu m 262 62 0) m1 → ((z = -1 ∧ sn (ayw ar) N (Lmi ar Lf) (Lmi ar Rf) (mi (ayw ar) T).reverse [] = none) ∨ Fnd ar N Lf Rf T (sn (ayw ar) N (Lmi ar Lf) (Lmi ar Rf) (mi (ayw ar) T).reverse []) z m1) → Rn X (d + 4) 175 11 [some (.ref 262), some (.int (iz z)), none, none, none, none, none] [] (SS m1 J P) (QI post) := by
    intro z m1 w1 w2 w3
    refine r_norm_11 (m0 := m) (P0 := P) hO 1000 (mi (ayw ar) T).reverse [] T z m1 P x y (Nat.le_refl _) hp hTP (fun _ _ _ => rfl) hT hg hct (by simp) w1 ?_ (nzF_trans F0 (rxF_nz w2)) w3 (fun f s m' P' x' y' T' e v1 v2 v3 v4 v5 v6 v7 v8 v9 v10 => ?_) (fun q m' P' x' y' e v1 v2 v3 v4 v5 => ?_)
    · rw [w2 _ _ (by decide) (by decide) (by decide) (by decide) (by omega), mu_at]; rfl
    · have e' : nf (ayw ar) N (Lmi ar Lf) (Lmi ar Rf) T = (0, f, s) := e
      have := k0 (by rw [e']) m' P' x' y' T' v1 v2 v3 v4
      rw [e'] at this
      exact this v5 v6 v7 v8 v9 v10
    · have e' : nf (ayw ar) N (Lmi ar Lf) (Lmi ar Rf) T = q := e
      rw [← e'] at v1 ⊢
      exact kq (by omega) m' P' x' y' v2 v3 v4 v5
  rw [show iz 0 = iz (((fpre []).length : Nat) : Int) from rfl]
  refine r_redex (F0 := []) (t0 := T) hp hTP hO hT hg hct trivial (by rw [fpre, fpos]; simp) hS0 (fun p m1 w1 w2 w3 => ⟨hp, ?_⟩) (fun w1 m1 w2 w3 => ⟨hp, ?_⟩)
  · rw [eQ, eP] at w1
    exact fin p m1 w2 w3 (Or.inr w1)
  · rw [eQ, eP] at w1
    exact fin (-1) m1 w2 w3 (Or.inl ⟨rfl, w1⟩)
/-- take(): a row is the TERM -/
theorem r_take {x1 n1 : Nat} {l : List Int} (hp : PP P) (hTP : TP P x y) (k1 : am_kd an_K x1 = some (.inr (0, n1))) (b1 : n1 ≤ 100000) (hn : l.length ≤ n1) (hl : l.length ≤ 200) (hx : x1 ≠ x) (hrow : Ro m x1 0 l) {post : Mi → Mj → Mp → Prop} (k : ∀ m', Ro m' x 0 l → m' 262 61 = (l.length : Int) → (∀ a k, a ≠ x → ¬ (a = 262 ∧ k = 61) → m' a k = m a k) → post m' J P) : Cv X d 174 [.ref 262, .ref x1, .int (iz (l.length : Int))] m J P post := by
  obtain ⟨kx, ky⟩ := TP_kd hTP
  have hxx : x = 296 ∨ x = 297 := by have := hTP.2.2; omega
  refine Cv.of rfl rfl rfl (b_Mdl_take_0 x1 n1 _ k1 b1 m J P hp post ?_)
  have loop : ∀ (r v : List Int) (m1 : Mi), l = v ++ r → Ro m1 x 0 v → (∀ a k, a ≠ x → m1 a k = m a k) → Rn X d 174 2 [some (.ref 262), some (.ref x1), some (.int (iz (l.length : Int))), some (.int (iz (v.length : Int)))] [] (SS m1 J P) (QV post) := by
    intro r
    induction r with
    | nil =>
      intro v m1 e hR hf
      rw [List.append_nil] at e
      subst e
      exact b_Mdl_take_2 x1 n1 _ _ k1 b1 m1 J P hp post ⟨by constructor <;> omega, by constructor <;> omega, fun _ => k _ (Ro_fr hR fun k _ _ => mu_ne _ _ (by omega)) (mu_at _ _ _ _) (fun a k g1 g2 => (mu_ne _ _ g2).trans (hf a k g1)), fun h => absurd (Int.le_refl _) h⟩
    | cons c r ih =>
      intro v m1 e hR hf
      have hvl := congrArg List.length e
      rw [List.length_append, List.length_cons] at hvl
      have hc := Ro_mem (p := v) (c := c) (q := r) (Ro_fr (m' := m1) hrow fun k _ _ => hf _ _ hx) e
      rw [Nat.zero_add] at hc
      have i1 : ((v.length : Nat) : Int).toNat = v.length := by omega
      refine b_Mdl_take_2 x1 n1 _ _ k1 b1 m1 J P hp post ⟨by constructor <;> omega, by constructor <;> omega, fun h => absurd h (by omega), fun _ => ⟨x, hTP.1, kx, by omega, by omega, ?_⟩⟩
      rw [i1, hc]
      have e1 : ((v.length : Nat) : Int) + 1 = ((v ++ [c]).length : Int) := by simp
      rw [e1]
      exact ih (v ++ [c]) _ (by rw [e]; simp) (Ro_snoc hR) (fun a' k' h => (mu_ne _ _ (by omega)).trans (hf a' k' h))
  exact loop l [] m rfl trivial (fun _ _ _ => rfl)
/-- what areOne() may change -/
def a1F (m m' : Mi) : Prop := ∀ a k, ¬ (296 ≤ a ∧ a ≤ 301) → a ≠ 321 → ¬ (a = 262 ∧ (k = 61 ∨ k = 62 ∨ k = 67)) → m' a k = m a k
theorem a1F_trans {m m' m'' : Mi} (h : a1F m m') (h2 : a1F m' m'') : a1F m m'' := fun a k g1 g2 g3 => (h2 a k g1 g2 g3).trans (h a k g1 g2 g3)
/-- areOne() of two TERMS -/
theorem r_areOne {x1 n1 x3 n3 : Nat} {l r : List Int} (hp : PP P) (hTP : TP P x y) (k1 : am_kd an_K x1 = some (.inr (0, n1))) (b1 : n1 ≤ 100000) (k3 : am_kd an_K x3 = some (.inr (0, n3))) (b3 : n3 ≤ 100000) (hn1 : l.length ≤ n1) (hn3 : r.length ≤ n3) (hx1 : x1 < 262 ∨ (301 < x1 ∧ x1 ≠ 321)) (hx3 : x3 < 262 ∨ (301 < x3 ∧ x3 ≠ 321)) (hO : Rf_ok sc ar N Lf Rf) (hA : RAr sc ar m) (hK : RyM N Lf Rf m) (hl : l.length ≤ 200) (hr : r.length ≤ 200) (hgl : ∀ c, c ∈ l → gp sc c) (hgr : ∀ c, c ∈ r → gp sc c) (hcl : ctt (ayw ar) l = some 1) (hcr : ctt (ayw ar) r = some 1) (hrl : Ro m x1 0 l) (hrr : Ro m x3 0 r) {post : Int → Mi → Mj → Mp → Prop} (k : ∀ m' P' x' y', PP P' → TP P' x' y' → PF P P' → a1F m m' → post (jnf (ayw ar) N (Lmi ar Lf) (Lmi ar Rf) l r) m' J P') : Ci X (d + 5) 173 [.ref 262, .ref x1, .int (iz (l.length : Int)), .ref x3, .int (iz (r.length : Int))] m J P post := by
  have hxx : x = 296 ∨ x = 297 := by have := hTP.2.2; omega
  have zl : Zr ((l.length : Nat) : Int) := by constructor <;> omega
  have zr : Zr ((r.length : Nat) : Int) := by constructor <;> omega
  have hq1 := nr_range (N := N) (ay := ayw ar) (Lm := Lmi ar Lf) (Rm := Lmi ar Rf) 1000 (mi (ayw ar) l).reverse []
  have hq1' : (nf (ayw ar) N (Lmi ar Lf) (Lmi ar Rf) l).1 = 0 ∨ (nf (ayw ar) N (Lmi ar Lf) (Lmi ar Rf) l).1 = -2 ∨ (nf (ayw ar) N (Lmi ar Lf) (Lmi ar Rf) l).1 = -3 := hq1
  have hq2 := nr_range (N := N) (ay := ayw ar) (Lm := Lmi ar Lf) (Rm := Lmi ar Rf) 1000 (mi (ayw ar) r).reverse []
  have hq2' : (nf (ayw ar) N (Lmi ar Lf) (Lmi ar Rf) r).1 = 0 ∨ (nf (ayw ar) N (Lmi ar Lf) (Lmi ar Rf) r).1 = -2 ∨ (nf (ayw ar) N (Lmi ar Lf) (Lmi ar Rf) r).1 = -3 := hq2
  refine Ci.of rfl rfl rfl (b_Mdl_areOne_0 x1 n1 _ x3 n3 _ k1 b1 k3 b3 m J P hp post ⟨zl, fun h => absurd h (by omega), fun _ => ⟨zr, fun _ => ?_, fun h => absurd (by omega) h⟩⟩)
  refine r_take hp hTP k1 b1 hn1 hl (by omega) hrl (fun m1 w1 w2 w3 => ⟨hp, ?_⟩)
  have hS1 : Rst sc ar N Lf Rf x l m1 := ⟨RAr_fr hA fun k => w3 _ _ (by omega) (by omega), RyM_fr hK (w3 _ _ (by omega) (by omega)) (fun a k g => w3 _ _ (by omega) (by omega)), w1, w2⟩
  have A1 : a1F m m1 := fun a k g1 g2 g3 => w3 a k (by omega) (by omega)
  have A2 : ∀ {m2}, nzF m1 m2 → a1F m m2 := fun h a k g1 g2 g3 => (h a k g1 g3).trans (A1 a k g1 g2 g3)
  refine r_normalize hp hTP hO hl hgl hcl hS1 (fun e0 m2 P2 x2 y2 T1 v1 v2 v3 v4 v5 v6 v7 v8 v9 v10 => ⟨v1, zr0, fun _ => ?_, fun h => absurd rfl h⟩) (fun e0 m2 P2 x2 y2 v1 v2 v3 v4 => ⟨v1, ?_⟩)
  · have hxx2 : x2 = 296 ∨ x2 = 297 := by have := v2.2.2; omega
    obtain ⟨kx2, _⟩ := TP_kd v2
    obtain ⟨hA2, hK2, hrow2, hsz2⟩ := v4
    rw [hsz2]
    -- kept aside
    have l35 : ∀ (q v : List Int) (m3 : Mi), T1 = v ++ q → Ro m3 321 0 v → (∀ a k, a ≠ 321 → m3 a k = m2 a k) → Rn X (d + 5) 173 35 [some (.ref 262), some (.ref x1), some (.int (iz (l.length : Int))), some (.ref x3), some (.int (iz (r.length : Int))), some (.int (iz (T1.length : Int))), some (.int (iz (v.length : Int))), none] [] (SS m3 J P2) (QI post) := by
      intro q
      induction q with
      | nil =>
        intro v m3 e hR hf
        rw [List.append_nil] at e
        subst e
        have h61 : m3 262 61 = (T1.length : Int) := (hf _ _ (by decide)).trans hsz2
        have A3 : a1F m m3 := fun a k g1 g2 g3 => (hf a k g2).trans (A2 v10 a k g1 g2 g3)
        refine b_Mdl_areOne_35 x1 n1 _ x3 n3 _ _ _ k1 b1 k3 b3 m3 J P2 v1 post ⟨by constructor <;> omega, by rw [h61]; constructor <;> omega, fun _ => ?_, fun h => absurd (by rw [h61]; exact Int.le_refl _) h⟩
        refine r_take v1 v2 k3 b3 hn3 hr (by omega) (Ro_fr hrr fun k _ _ => A3 _ _ (by omega) (by omega) (by omega)) (fun m4 u1 u2 u3 => ⟨v1, ?_⟩)
        have hS4 : Rst sc ar N Lf Rf x2 r m4 := ⟨RAr_fr hA2 fun k => (u3 _ _ (by omega) (by omega)).trans (hf _ _ (by decide)), RyM_fr hK2 ((u3 _ _ (by omega) (by omega)).trans (hf _ _ (by decide))) (fun a k g => (u3 _ _ (by omega) (by omega)).trans (hf _ _ (by omega))), u1, u2⟩
        have hR4 : Ro m4 321 0 T1 := Ro_fr hR fun k _ _ => u3 _ _ (by omega) (by omega)
        have A4 : ∀ {m5}, nzF m4 m5 → a1F m m5 := fun h a k g1 g2 g3 => (h a k g1 g3).trans ((u3 a k (by omega) (by omega)).trans (A3 a k g1 g2 g3))
        refine r_normalize v1 v2 hO hr hgr hcr hS4 (fun e1 m5 P5 x5 y5 T2 t1 t2 t3 t4 t5 t6 t7 t8 t9 t10 => ⟨t1, zr0, fun _ => ?_, fun h => absurd rfl h⟩) (fun e1 m5 P5 x5 y5 t1 t2 t3 t4 => ⟨t1, ?_⟩)
        · have ej : jnf (ayw ar) N (Lmi ar Lf) (Lmi ar Rf) l r = if T1 = T2 then 1 else 0 := by
            unfold jnf
            rw [if_neg (fun h => h e0), if_neg (fun h => h e1), ← v5, ← t5]
            by_cases g : T1 = T2
            · rw [if_pos g, if_pos (by rw [g])]
            · rw [if_neg g, if_neg (fun h => g (mi_inj v6 t6 h))]
          have hR5 : Ro m5 321 0 T1 := Ro_fr hR4 fun k _ _ => t10 _ _ (by decide) (by omega)
          have h61' : m5 262 61 = (T2.length : Int) := t4.2.2.2
          have fin := k m5 P5 x5 y5 t1 t2 (PF_trans v3 t3) (A4 t10)
          obtain ⟨kx5, _⟩ := TP_kd t2
          rw [ej] at fin
          rw [h61']
          refine ⟨by constructor <;> omega, by constructor <;> omega, fun hne => ?_, fun heq => ?_⟩
          · rw [if_neg (fun e => hne (by rw [e]))] at fin
            refine b_Mdl_areOne_99 x1 n1 _ x3 n3 _ _ 0 0 k1 b1 k3 b3 m5 J P5 t1 post ⟨zr0, by rw [h61']; constructor <;> omega, fun _ => ⟨zr0, fun _ => fin, fun h => absurd rfl h⟩, fun _ => ⟨zr0, fun _ => ⟨zr0, fun _ => fin, fun h => absurd rfl h⟩, fun h => absurd rfl h⟩⟩
          · have l99 : ∀ (q1 q2 v : List Int), T1 = v ++ q1 → T2 = v ++ q2 → Rn X (d + 5) 173 99 [some (.ref 262), some (.ref x1), some (.int (iz (l.length : Int))), some (.ref x3), some (.int (iz (r.length : Int))), some (.int (iz (T1.length : Int))), some (.int (iz 1)), some (.int (iz (v.length : Int)))] [] (SS m5 J P5) (QI post) := by
              intro q1
              induction q1 with
              | nil =>
                intro q2 v e2 e3
                have a1 := congrArg List.length e2
                have a2 := congrArg List.length e3
                rw [List.length_append] at a1 a2
                have : q2 = [] := by
                  rw [List.length_nil] at a1
                  exact List.length_eq_zero_iff.mp (by omega)
                subst this
                rw [if_pos (e2.trans e3.symm)] at fin
                exact b_Mdl_areOne_99 x1 n1 _ x3 n3 _ _ 1 _ k1 b1 k3 b3 m5 J P5 t1 post ⟨by constructor <;> omega, by rw [h61']; constructor <;> omega, fun _ => ⟨zr1, fun h => absurd h (by decide), fun _ => fin⟩, fun h => absurd (by rw [h61']; rw [List.length_nil] at a2; omega) h⟩
              | cons c q1 ih =>
                intro q2 v e2 e3
                have a1 := congrArg List.length e2
                have a2 := congrArg List.length e3
                rw [List.length_append] at a1 a2
                rw [List.length_cons] at a1
                cases q2 with
                | nil => rw [List.length_nil] at a2; omega
                | cons c2 q2 =>
                  rw [List.length_cons] at a2
                  have y1 := Ro_mem (p := v) (c := c) (q := q1) hR5 e2
                  have y2 := Ro_mem (p := v) (c := c2) (q := q2) t4.2.2.1 e3
                  rw [Nat.zero_add] at y1 y2
                  have i1 : ((v.length : Nat) : Int).toNat = v.length := by omega
                  have g1 := v8 c (by rw [e2]; simp)
                  have g2 := t8 c2 (by rw [e3]; simp)
                  have g11 := g1.1
                  have g12 := g1.2.1
                  have g21 := g2.1
                  have g22 := g2.2.1
                  refine b_Mdl_areOne_99 x1 n1 _ x3 n3 _ _ 1 _ k1 b1 k3 b3 m5 J P5 t1 post ⟨by constructor <;> omega, by rw [h61']; constructor <;> omega, fun h => absurd h (by rw [h61']; omega), fun _ => ⟨zr1, fun h => absurd h (by decide), fun _ => ⟨x5, t2.1, kx5, by omega, by omega, ?_⟩⟩⟩
                  rw [i1, y1, y2]
                  refine ⟨by constructor <;> omega, by constructor <;> omega, fun hne => ?_, fun he => ?_⟩
                  · rw [if_neg (fun e => hne ?_)] at fin
                    · exact b_Mdl_areOne_99 x1 n1 _ x3 n3 _ _ 0 _ k1 b1 k3 b3 m5 J P5 t1 post ⟨by constructor <;> omega, by rw [h61']; constructor <;> omega, fun _ => ⟨zr0, fun _ => fin, fun h => absurd rfl h⟩, fun _ => ⟨zr0, fun _ => ⟨zr0, fun _ => fin, fun h => absurd rfl h⟩, fun h => absurd rfl h⟩⟩
                    · rw [e2, e3] at e
                      have := List.append_cancel_left e
                      injection this with e7
                      exact e7.symm
                  · have he' : c2 = c := Classical.not_not.mp he
                    subst he'
                    have e5 : ((v.length : Nat) : Int) + 1 = ((v ++ [c2]).length : Int) := by simp
                    rw [e5]
                    exact ih q2 (v ++ [c2]) (by rw [e2]; simp) (by rw [e3]; simp)
            exact l99 T1 T2 [] rfl rfl
        · have ej : jnf (ayw ar) N (Lmi ar Lf) (Lmi ar Rf) l r = 2 := by unfold jnf; rw [if_neg (fun h => h e0), if_pos e1]
          have fin := k m5 P5 x5 y5 t1 t2 (PF_trans v3 t3) (A4 t4)
          rw [ej] at fin
          by_cases g : (nf (ayw ar) N (Lmi ar Lf) (Lmi ar Rf) r).1 = -2
          · rw [if_pos g]
            exact ⟨zr1, fun h => absurd h (by decide), fun _ => fin⟩
          · rw [if_neg g]
            exact ⟨by constructor <;> decide, fun h => absurd h (by decide), fun _ => fin⟩
      | cons c q ih =>
        intro v m3 e hR hf
        have hvl := congrArg List.length e
        rw [List.length_append, List.length_cons] at hvl
        have h61 : m3 262 61 = (T1.length : Int) := (hf _ _ (by decide)).trans hsz2
        have hc := Ro_mem (p := v) (c := c) (q := q) (Ro_fr (m' := m3) hrow2 fun k _ _ => hf _ _ (by omega)) e
        rw [Nat.zero_add] at hc
        have i1 : ((v.length : Nat) : Int).toNat = v.length := by omega
        refine b_Mdl_areOne_35 x1 n1 _ x3 n3 _ _ _ k1 b1 k3 b3 m3 J P2 v1 post ⟨by constructor <;> omega, by rw [h61]; constructor <;> omega, fun h => absurd h (by rw [h61]; omega), fun _ => ⟨x2, v2.1, kx2, by omega, by omega, ?_⟩⟩
        rw [i1, hc]
        have e1 : ((v.length : Nat) : Int) + 1 = ((v ++ [c]).length : Int) := by simp
        rw [e1]
        exact ih (v ++ [c]) _ (by rw [e]; simp) (Ro_snoc hR) (fun a' k' h => (mu_ne _ _ (by omega)).trans (hf a' k' h))
    exact l35 T1 [] m2 rfl trivial (fun _ _ _ => rfl)
  · have ej : jnf (ayw ar) N (Lmi ar Lf) (Lmi ar Rf) l r = 2 := by unfold jnf; rw [if_pos e0]
    have fin := k m2 P2 x2 y2 v1 v2 v3 (A2 v4)
    rw [ej] at fin
    by_cases g : (nf (ayw ar) N (Lmi ar Lf) (Lmi ar Rf) l).1 = -2
    · rw [if_pos g]
      exact ⟨zr1, fun h => absurd h (by decide), fun _ => fin⟩
    · rw [if_neg g]
      exact ⟨by constructor <;> decide, fun h => absurd h (by decide), fun _ => fin⟩
end RNO
