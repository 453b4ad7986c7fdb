/-! the reference: looksAtPairs() -/
section RLL
variable {X : aX} {d : Nat} {P0 : Mp} {J : Mj} {m0 : Mi} {ar : Nat → Int} {sc N : Nat} {Lf Rf : Nat → List Int}
/-- where looksAtPairs() stands -/
def LPI (A : Nat) (m0 : Mi) (P0 : Mp) (s : PKs) (m : Mi) (P : Mp) : Prop := PP P ∧ (∃ x y, TP P x y) ∧ PF P0 P ∧ QKh s.1 s.2 m ∧ pkok s ∧ lpF m0 m ∧ s.1 ≤ A
theorem LPI_up {A A' : Nat} {s : PKs} {m : Mi} {P : Mp} (h : LPI A m0 P0 s m P) (g : A ≤ A') : LPI A' m0 P0 s m P := ⟨h.1, h.2.1, h.2.2.1, h.2.2.2.1, h.2.2.2.2.1, h.2.2.2.2.2.1, by have := h.2.2.2.2.2.2; omega⟩
theorem r_lJ (har : arK sc ar) (hRA : RAr sc ar m0) (hK : RyM N Lf Rf m0) (hO : Rf_ok sc ar N Lf Rf) (hZ : ∀ u, u < N → ZK sc ar (Lf u) (Rf u)) {i p : Nat} (hi : i < N) (hpl : p < (Lf i).length) {post : Mi → Mj → Mp → Prop} : ∀ {q j A : Nat} {s : PKs} {m : Mi} {P : Mp}, j + q = N → LPI A m0 P0 s m P → A + q < 100000 → (∀ m' P', LPI (A + q) m0 P0 (pkJ (ayw ar) N (Lmi ar Lf) (Lmi ar Rf) Lf Rf i p q j s) m' P' → Rn X (d + 7) 161 32 [some (.ref 262), some (.int (iz (i : Int))), some (.int (iz (((p + 1 : Nat) : Int)))), none] [] (SS m' J P') (QV post)) → Rn X (d + 7) 161 44 [some (.ref 262), some (.int (iz (i : Int))), some (.int (iz (p : Int))), some (.int (iz (j : Int)))] [] (SS m J P) (QV post) := by
  intro q
  induction q with
  | zero =>
    intro j A s m P hj hS hA k
    obtain ⟨hp, ⟨x, y, hTP⟩, hPF, hQ, hok, hF, hle⟩ := hS
    have hKm := lpF_RyM hK hF
    have hN := hKm.1.1
    have hn : m 262 35 = (N : Int) := hKm.1.2
    have hl := (hZ i hi).2.2
    refine b_Mdl_looksAtPairs_44 i p j m J P hp post ?_
    rw [hn]
    exact ⟨by constructor <;> omega, by constructor <;> omega, fun g => k m P ⟨hp, ⟨x, y, hTP⟩, hPF, hQ, hok, hF, hle⟩, fun g => absurd (show (N : Int) ≤ (j : Int) by omega) g⟩
  | succ q ih =>
    intro j A s m P hj hS hA k
    obtain ⟨hp, ⟨x, y, hTP⟩, hPF, hQ, hok, hF, hle⟩ := hS
    have hKm := lpF_RyM hK hF
    have hN := hKm.1.1
    have hn : m 262 35 = (N : Int) := hKm.1.2
    have hl := (hZ i hi).2.2
    refine b_Mdl_looksAtPairs_44 i p j m J P hp post ?_
    rw [hn]
    refine ⟨by constructor <;> omega, by constructor <;> omega, fun g => absurd g (by omega), fun _ => ?_⟩
    refine r_looksAtPair hp hTP har (lpF_RAr hRA hF) hKm hO hZ hi (by omega) hpl hQ hok (by omega) fun m' P' x' y' p1 p2 p3 p4 p5 => ⟨p1, ?_⟩
    rw [show ((j : Int) + 1) = ((j + 1 : Nat) : Int) from rfl]
    have hk := pkok_st (N := N) (Lm := Lmi ar Lf) (Rm := Lmi ar Rf) (Lf := Lf) (Rf := Rf) (ay := ayw ar) (i := i) (p := p) (j := j) hok
    refine ih (A := A + 1) (by omega) ⟨p1, ⟨x', y', p2⟩, PF_trans hPF p3, p4, hk.1, lpF_trans hF p5, by omega⟩ (by omega) fun m'' P'' h'' => ?_
    rw [show A + 1 + q = A + (q + 1) by omega] at h''
    exact k m'' P'' h''
theorem r_lP (har : arK sc ar) (hRA : RAr sc ar m0) (hK : RyM N Lf Rf m0) (hO : Rf_ok sc ar N Lf Rf) (hZ : ∀ u, u < N → ZK sc ar (Lf u) (Rf u)) {i : Nat} (hi : i < N) {post : Mi → Mj → Mp → Prop} : ∀ {q p A : Nat} {s : PKs} {m : Mi} {P : Mp}, p + q = (Lf i).length → LPI A m0 P0 s m P → A + q * 16 < 100000 → (∀ m' P', LPI (A + q * 16) m0 P0 (pkP (ayw ar) N (Lmi ar Lf) (Lmi ar Rf) Lf Rf i q p s) m' P' → Rn X (d + 7) 161 22 [some (.ref 262), some (.int (iz (((i + 1 : Nat) : Int)))), none, none] [] (SS m' J P') (QV post)) → Rn X (d + 7) 161 32 [some (.ref 262), some (.int (iz (i : Int))), some (.int (iz (p : Int))), none] [] (SS m J P) (QV post) := by
  intro q
  induction q with
  | zero =>
    intro p A s m P hj hS hA k
    have hp := hS.1
    have hKm := lpF_RyM hK hS.2.2.2.2.2.1
    have hN := hKm.1.1
    have hle : m 283 i = ((Lf i).length : Int) := (hKm.2 i hi).1.1
    have hl := (hZ i hi).2.2
    refine b_Mdl_looksAtPairs_32 i p m J P hp post ?_
    rw [Int.toNat_natCast, hle]
    exact ⟨by omega, by constructor <;> omega, by constructor <;> omega, fun g => k m P hS, fun g => absurd (show ((Lf i).length : Int) ≤ (p : Int) by omega) g⟩
  | succ q ih =>
    intro p A s m P hj hS hA k
    have hp := hS.1
    have hKm := lpF_RyM hK hS.2.2.2.2.2.1
    have hN := hKm.1.1
    have hle : m 283 i = ((Lf i).length : Int) := (hKm.2 i hi).1.1
    have hl := (hZ i hi).2.2
    refine b_Mdl_looksAtPairs_32 i p m J P hp post ?_
    rw [Int.toNat_natCast, hle]
    refine ⟨by omega, by constructor <;> omega, by constructor <;> omega, fun g => absurd g (by omega), fun g => ?_⟩
    refine r_lJ har hRA hK hO hZ hi (by omega) (q := N) (j := 0) (by omega) hS (by omega) fun m' P' h' => ?_
    refine ih (by omega) (LPI_up (A' := A + 16) h' (by omega)) (by omega) fun m'' P'' h'' => ?_
    rw [show A + 16 + q * 16 = A + (q + 1) * 16 by omega] at h''
    exact k m'' P'' h''
theorem r_lI (har : arK sc ar) (hRA : RAr sc ar m0) (hK : RyM N Lf Rf m0) (hO : Rf_ok sc ar N Lf Rf) (hZ : ∀ u, u < N → ZK sc ar (Lf u) (Rf u)) {post : Mi → Mj → Mp → Prop} : ∀ {q i A : Nat} {s : PKs} {m : Mi} {P : Mp}, i + q = N → LPI A m0 P0 s m P → A + q * 640 < 100000 → (∀ m' P', LPI (A + q * 640) m0 P0 (pkI (ayw ar) N (Lmi ar Lf) (Lmi ar Rf) Lf Rf q i s) m' P' → post m' J P') → Rn X (d + 7) 161 22 [some (.ref 262), some (.int (iz (i : Int))), none, none] [] (SS m J P) (QV post) := by
  intro q
  induction q with
  | zero =>
    intro i A s m P hj hS hA k
    have hp := hS.1
    have hKm := lpF_RyM hK hS.2.2.2.2.2.1
    have hN := hKm.1.1
    have hn : m 262 35 = (N : Int) := hKm.1.2
    refine b_Mdl_looksAtPairs_22 i m J P hp post ?_
    rw [hn]
    exact ⟨by constructor <;> omega, by constructor <;> omega, fun g => k m P hS, fun g => absurd (show (N : Int) ≤ (i : Int) by omega) g⟩
  | succ q ih =>
    intro i A s m P hj hS hA k
    have hp := hS.1
    have hKm := lpF_RyM hK hS.2.2.2.2.2.1
    have hN := hKm.1.1
    have hn : m 262 35 = (N : Int) := hKm.1.2
    have hl := (hZ i (by omega)).2.2
    refine b_Mdl_looksAtPairs_22 i m J P hp post ?_
    rw [hn]
    refine ⟨by constructor <;> omega, by constructor <;> omega, fun g => absurd g (by omega), fun g => ?_⟩
    refine r_lP har hRA hK hO hZ (show i < N by omega) (q := (Lf i).length) (p := 0) (by omega) hS (by omega) fun m' P' h' => ?_
    refine ih (by omega) (LPI_up (A' := A + 640) h' (by omega)) (by omega) fun m'' P'' h'' => ?_
    rw [show A + 640 + q * 640 = A + (q + 1) * 640 by omega] at h''
    exact k m'' P'' h''
theorem r_looksAtPairs (har : arK sc ar) (hRA : RAr sc ar m0) (hK : RyM N Lf Rf m0) (hO : Rf_ok sc ar N Lf Rf) (hZ : ∀ u, u < N → ZK sc ar (Lf u) (Rf u)) {x y : Nat} (hp : PP P0) (hTP : TP P0 x y) {post : Mi → Mj → Mp → Prop} (k : ∀ m' P' x' y', PP P' → TP P' x' y' → PF P0 P' → QKh (pkI (ayw ar) N (Lmi ar Lf) (Lmi ar Rf) Lf Rf N 0 (0, [])).1 (pkI (ayw ar) N (Lmi ar Lf) (Lmi ar Rf) Lf Rf N 0 (0, [])).2 m' → pkok (pkI (ayw ar) N (Lmi ar Lf) (Lmi ar Rf) Lf Rf N 0 (0, [])) → lpF m0 m' → post m' J P') : Cv X (d + 7) 161 [.ref 262] m0 J P0 post := by
  have hN := hK.1.1
  refine Cv.of rfl rfl rfl (b_Mdl_looksAtPairs_0 m0 J P0 hp post ?_)
  rw [show (0 : Int) = ((0 : Nat) : Int) from rfl]
  refine r_lI har hRA hK hO hZ (q := N) (i := 0) (A := 0) (s := (0, [])) (by omega) ⟨hp, ⟨x, y, hTP⟩, fun _ _ _ => rfl, ⟨⟨?_, ?_, ?_, ?_⟩, trivial⟩, rfl, ?_, Nat.le_refl _⟩ (by omega) (fun m' P' h' => ?_)
  · rw [mu_ne _ _ (by omega), mu_ne _ _ (by omega), mu_ne _ _ (by omega), mu_at]
  · rw [mu_ne _ _ (by omega), mu_ne _ _ (by omega), mu_at]
    rfl
  · rw [mu_ne _ _ (by omega), mu_at]
    rfl
  · rw [mu_at]
    rfl
  · intro a q g1 g2 g3 g4 g5
    rw [mu_ne _ _ (by omega), mu_ne _ _ (by omega), mu_ne _ _ (by omega), mu_ne _ _ (by omega)]
  · obtain ⟨p1, ⟨x', y', p2⟩, p3, p4, p5, p6, _⟩ := h'
    exact k m' P' x' y' p1 p2 p3 p4 p5 p6
end RLL
