/-! the class's Pairs: search(), its loops -/
section PSL
variable {X : aX} {d : Nat} {P : Mp} {J : Mj} {m m' m0 : Mi} {ar : Nat → Int} {sc N b : Nat} {Lf Rf Lm Rm : Nat → List Int}
/-- where search() stands: s is counted and kept, of at most A places that were tried -/
def PSI (A : Nat) (m0 : Mi) (s : PKs) (m : Mi) : Prop := PKh s.1 s.2 m ∧ pkok s ∧ ATb (A : Int) m0 m ∧ psF m0 m ∧ s.1 ≤ A
theorem PSI_up {A A' : Nat} {s : PKs} (h : PSI A m0 s m) (g : A ≤ A') : PSI A' m0 s m := ⟨h.1, h.2.1, ⟨h.2.2.1.1, by have := h.2.2.1.2; omega⟩, h.2.2.2.1, by have := h.2.2.2.2; omega⟩
theorem pkst_no {ay : Int → Nat} {i p j : Nat} {s : PKs} (h : i = j ∧ p = 0) : pkst ay N Lm Rm Lf Rf i p j s = s := by
  unfold pkst pst
  rw [if_pos h]
theorem c_sJ (hp : PP P) (hb : b = 54 ∨ b = 155) (har : arK sc ar) (hX : BKC b sc ar N Lm Rm Lf Rf m0) (hRg : Rg (ayw ar) N Lm Rm) (hgR : ∀ u, u < N → ∀ c, c ∈ Rm u → gp sc c) (hZ : ∀ u, u < N → ZK sc ar (Lf u) (Rf u)) (hA0 : m0 8 8 + 100000 < 2147483647) {i p : Nat} (hi : i < N) (hpl : p < (Lf i).length) {post : Mi → Mj → Mp → Prop} : ∀ {q j A : Nat} {s : PKs} {m : Mi}, j + q = N → PSI A m0 s m → A + q < 100000 → (∀ m', PSI (A + q) m0 (pkJ (ayw ar) N Lm Rm Lf Rf i p q j s) m' → Rn X (d + 5) 49 27 [some (.ref 36), some (.ref b), some (.int (iz (i : Int))), some (.int (iz (((p + 1 : Nat) : Int)))), none] [] (SS m' J P) (QV post)) → Rn X (d + 5) 49 43 [some (.ref 36), some (.ref b), some (.int (iz (i : Int))), some (.int (iz (p : Int))), some (.int (iz (j : Int)))] [] (SS m J P) (QV post) := by
  intro q
  induction q with
  | zero =>
    intro j A s m hj hS hA k
    have hXm := BKC_fr (m' := m) hb har hX fun a k g => hS.2.2.2.1 a k (by omega) (by omega)
    have hN := hXm.2.1.1
    have hn : m b 5 = (N : Int) := hXm.2.1.2.1
    have hl := (hZ i hi).2.2
    have kb := kd_book hb
    refine b_Pairs_search_43 b i p j kb m J P hp post ?_
    rw [hn]
    refine ⟨by constructor <;> omega, by constructor <;> omega, fun g => ?_, fun g => absurd (show (N : Int) ≤ (j : Int) by omega) g⟩
    exact k m hS
  | succ q ih =>
    intro j A s m hj hS hA k
    have hXm := BKC_fr (m' := m) hb har hX fun a k g => hS.2.2.2.1 a k (by omega) (by omega)
    have hN := hXm.2.1.1
    have hn : m b 5 = (N : Int) := hXm.2.1.2.1
    have hl := (hZ i hi).2.2
    have kb := kd_book hb
    refine b_Pairs_search_43 b i p j kb m J P hp post ?_
    rw [hn]
    have nxt : ∀ m', PSI (A + 1) m0 (pkst (ayw ar) N Lm Rm Lf Rf i p j s) m' → Rn X (d + 5) 49 106 [some (.ref 36), some (.ref b), some (.int (iz (i : Int))), some (.int (iz (p : Int))), some (.int (iz (j : Int)))] [] (SS m' J P) (QV post) := fun m' h' => by
      refine b_Pairs_search_106 b i p j kb m' J P hp post ?_
      rw [show ((j : Int) + 1) = ((j + 1 : Nat) : Int) from rfl]
      refine ih (by omega) h' (by omega) fun m'' h'' => ?_
      rw [show A + 1 + q = A + (q + 1) by omega] at h''
      exact k m'' h''
    have nx2 : ∀ m', PKh (pkst (ayw ar) N Lm Rm Lf Rf i p j s).1 (pkst (ayw ar) N Lm Rm Lf Rf i p j s).2 m' → ATb ((A : Int) + 1) m0 m' → psF m0 m' → Rn X (d + 5) 49 106 [some (.ref 36), some (.ref b), some (.int (iz (i : Int))), some (.int (iz (p : Int))), some (.int (iz (j : Int)))] [] (SS m' J P) (QV post) := fun m' u1 u2 u3 => by
      have hk := pkok_st (N := N) (Lm := Lm) (Rm := Rm) (Lf := Lf) (Rf := Rf) (ay := ayw ar) (i := i) (p := p) (j := j) hS.2.1
      have := hS.2.2.2.2
      exact nxt m' ⟨u1, hk.1, u2, u3, by omega⟩
    have h2 := hS.2.2.2.2
    have one := fun (h : ¬ (i = j ∧ p = 0)) => c_one (X := X) (d := d) (J := J) (x1 := (i : Int)) (x2 := (p : Int)) (x3 := (j : Int)) (A := (A : Int)) (m0 := m0) hp hb har hXm hRg hgR hZ hi (by omega) hpl h hS.1 hS.2.1 hS.2.2.1 (by omega) (by omega) hS.2.2.2.1 nx2
    refine ⟨by constructor <;> omega, by constructor <;> omega, fun g => absurd g (by omega), fun _ => ⟨by constructor <;> omega, by constructor <;> omega, fun g => one (by omega), fun g => ⟨by constructor <;> omega, fun g2 => ?_, fun g2 => one (by omega)⟩⟩⟩
    refine nxt m ?_
    have hij : i = j ∧ p = 0 := by constructor <;> omega
    rw [pkst_no hij]
    exact PSI_up hS (by omega)
theorem c_sP (hp : PP P) (hb : b = 54 ∨ b = 155) (har : arK sc ar) (hX : BKC b sc ar N Lm Rm Lf Rf m0) (hRg : Rg (ayw ar) N Lm Rm) (hgR : ∀ u, u < N → ∀ c, c ∈ Rm u → gp sc c) (hZ : ∀ u, u < N → ZK sc ar (Lf u) (Rf u)) (hA0 : m0 8 8 + 100000 < 2147483647) {i : Nat} (hi : i < N) {post : Mi → Mj → Mp → Prop} : ∀ {q p A : Nat} {s : PKs} {m : Mi}, p + q = (Lf i).length → PSI A m0 s m → A + q * 16 < 100000 → (∀ m', PSI (A + q * 16) m0 (pkP (ayw ar) N Lm Rm Lf Rf i q p s) m' → Rn X (d + 5) 49 17 [some (.ref 36), some (.ref b), some (.int (iz (((i + 1 : Nat) : Int)))), none, none] [] (SS m' J P) (QV post)) → Rn X (d + 5) 49 27 [some (.ref 36), some (.ref b), some (.int (iz (i : Int))), some (.int (iz (p : Int))), none] [] (SS m J P) (QV post) := by
  intro q
  induction q with
  | zero =>
    intro p A s m hj hS hA k
    have hXm := BKC_fr (m' := m) hb har hX fun a k g => hS.2.2.2.1 a k (by omega) (by omega)
    have hN := hXm.2.1.1
    have hle : m (b + 5 + 6 * i) 5 = ((Lf i).length : Int) := (hXm.2.2 i hi).1.1
    have hl := (hZ i hi).2.2
    have kb := kd_book hb
    refine b_Pairs_search_27 b i p kb m J P hp post ?_
    rw [show (i : Int).toNat = i from rfl, hle]
    refine ⟨by constructor <;> omega, by constructor <;> omega, by constructor <;> omega, fun g => k m hS, fun g => absurd (show ((Lf i).length : Int) ≤ (p : Int) by omega) g⟩
  | succ q ih =>
    intro p A s m hj hS hA k
    have hXm := BKC_fr (m' := m) hb har hX fun a k g => hS.2.2.2.1 a k (by omega) (by omega)
    have hN := hXm.2.1.1
    have hle : m (b + 5 + 6 * i) 5 = ((Lf i).length : Int) := (hXm.2.2 i hi).1.1
    have hl := (hZ i hi).2.2
    have kb := kd_book hb
    refine b_Pairs_search_27 b i p kb m J P hp post ?_
    rw [show (i : Int).toNat = i from rfl, hle]
    refine ⟨by constructor <;> omega, by constructor <;> omega, by constructor <;> omega, fun g => absurd g (by omega), fun g => ?_⟩
    refine c_sJ hp hb har hX hRg hgR hZ hA0 hi (by omega) (q := N) (j := 0) (by omega) hS (by omega) fun m' h' => ?_
    refine ih (by omega) (PSI_up (A' := A + 16) h' (by omega)) (by omega) fun m'' h'' => ?_
    rw [show A + 16 + q * 16 = A + (q + 1) * 16 by omega] at h''
    exact k m'' h''
theorem c_sI (hp : PP P) (hb : b = 54 ∨ b = 155) (har : arK sc ar) (hX : BKC b sc ar N Lm Rm Lf Rf m0) (hRg : Rg (ayw ar) N Lm Rm) (hgR : ∀ u, u < N → ∀ c, c ∈ Rm u → gp sc c) (hZ : ∀ u, u < N → ZK sc ar (Lf u) (Rf u)) (hA0 : m0 8 8 + 100000 < 2147483647) {post : Mi → Mj → Mp → Prop} : ∀ {q i A : Nat} {s : PKs} {m : Mi}, i + q = N → PSI A m0 s m → A + q * 640 < 100000 → (∀ m', PSI (A + q * 640) m0 (pkI (ayw ar) N Lm Rm Lf Rf q i s) m' → post m' J P) → Rn X (d + 5) 49 17 [some (.ref 36), some (.ref b), some (.int (iz (i : Int))), none, none] [] (SS m J P) (QV post) := by
  intro q
  induction q with
  | zero =>
    intro i A s m hj hS hA k
    have hXm := BKC_fr (m' := m) hb har hX fun a k g => hS.2.2.2.1 a k (by omega) (by omega)
    have hN := hXm.2.1.1
    have hn : m b 5 = (N : Int) := hXm.2.1.2.1
    have kb := kd_book hb
    refine b_Pairs_search_17 b i kb m J P hp post ?_
    rw [hn]
    refine ⟨by constructor <;> omega, by constructor <;> omega, fun g => k m hS, fun g => absurd (show (N : Int) ≤ (i : Int) by omega) g⟩
  | succ q ih =>
    intro i A s m hj hS hA k
    have hXm := BKC_fr (m' := m) hb har hX fun a k g => hS.2.2.2.1 a k (by omega) (by omega)
    have hN := hXm.2.1.1
    have hn : m b 5 = (N : Int) := hXm.2.1.2.1
    have kb := kd_book hb
    have hl := (hZ i (by omega)).2.2
    refine b_Pairs_search_17 b i kb m J P hp post ?_
    rw [hn]
    refine ⟨by constructor <;> omega, by constructor <;> omega, fun g => absurd g (by omega), fun g => ?_⟩
    refine c_sP hp hb har hX hRg hgR hZ hA0 (show i < N by omega) (q := (Lf i).length) (p := 0) (by omega) hS (by omega) fun m' h' => ?_
    refine ih (by omega) (PSI_up (A' := A + 640) h' (by omega)) (by omega) fun m'' h'' => ?_
    rw [show A + 640 + q * 640 = A + (q + 1) * 640 by omega] at h''
    exact k m'' h''
/-- search(): what PAIRS there are -/
theorem c_search (hp : PP P) (hb : b = 54 ∨ b = 155) (har : arK sc ar) (hX : BKC b sc ar N Lm Rm Lf Rf m0) (hRg : Rg (ayw ar) N Lm Rm) (hgR : ∀ u, u < N → ∀ c, c ∈ Rm u → gp sc c) (hZ : ∀ u, u < N → ZK sc ar (Lf u) (Rf u)) (hA0 : m0 8 8 + 100000 < 2147483647) (hAT : ATT 8 m0) {post : Mi → Mj → Mp → Prop} (k : ∀ m', PKh (pkI (ayw ar) N Lm Rm Lf Rf N 0 (0, [])).1 (pkI (ayw ar) N Lm Rm Lf Rf N 0 (0, [])).2 m' → pkok (pkI (ayw ar) N Lm Rm Lf Rf N 0 (0, [])) → ATb 10240 m0 m' → psF m0 m' → post m' J P) : Cv X (d + 5) 49 [.ref 36, .ref b] m0 J P post := by
  have kb := kd_book hb
  have hN := hX.2.1.1
  refine Cv.of rfl rfl rfl (b_Pairs_search_0 b kb m0 J P hp post ?_)
  rw [show (0 : Int) = ((0 : Nat) : Int) from rfl]
  refine c_sI hp hb har hX hRg hgR hZ hA0 (q := N) (i := 0) (A := 0) (s := (0, [])) (by omega) ⟨⟨⟨?_, ?_, ?_⟩, trivial⟩, rfl, ⟨?_, ?_⟩, ?_, Nat.le_refl _⟩ (by omega) (fun m' h' => ?_)
  · rw [mu_ne _ _ (by omega), mu_ne _ _ (by omega), mu_at]
  · rw [mu_ne _ _ (by omega), mu_at]
    rfl
  · rw [mu_at]
    rfl
  · refine ⟨by rw [mu_ne _ _ (by omega), mu_ne _ _ (by omega), mu_ne _ _ (by omega)]; exact hAT.1, fun z hz => ?_⟩
    rw [mu_ne _ _ (by omega), mu_ne _ _ (by omega), mu_ne _ _ (by omega), mu_ne _ _ (by omega), mu_ne _ _ (by omega), mu_ne _ _ (by omega)]
    exact hAT.2 z hz
  · rw [mu_ne _ _ (by omega), mu_ne _ _ (by omega), mu_ne _ _ (by omega)]
    omega
  · intro a q g1 g2
    rw [mu_ne _ _ (by omega), mu_ne _ _ (by omega), mu_ne _ _ (by omega)]
  · refine k m' h'.1 h'.2.1 ⟨h'.2.2.1.1, ?_⟩ h'.2.2.2.1
    have := h'.2.2.1.2
    omega
end PSL
