/-! the class's Bench: classOf() -/
section CUC
variable {X : aX} {d : Nat} {P : Mp} {J : Mj} {m m' : Mi} {x0 : Nat} {cd : Nat → Int} {nx : Nat → Nat} {ay : Int → Nat} {n : Nat} {R rt T : Nat → Nat} {B : Nat} {col : Nat → Int}
/-- the cells as the bench holds them -/
def GC (x0 : Nat) (cd : Nat → Int) (nx : Nat → Nat) (n : Nat) (m : Mi) : Prop := ∀ c, c < n → m (x0 + 1) c = cd c ∧ m (x0 + 2) c = (nx c : Int)
theorem GC_fr (h : GC x0 cd nx n m) (f1 : ∀ k, m' (x0 + 1) k = m (x0 + 1) k) (f2 : ∀ k, m' (x0 + 2) k = m (x0 + 2) k) : GC x0 cd nx n m' := fun c hc => by rw [f1, f2]; exact h c hc
/-- what was looked at in this attempt -/
def tch (x0 : Nat) (m : Mi) (z : Nat) : Prop := m (x0 + 6) z = m x0 8
def vlk (x0 : Nat) (m : Mi) (z : Nat) : Int := if m (x0 + 6) z = m x0 8 then m (x0 + 3) z else z
def vhr (x0 : Nat) (m : Mi) (z : Nat) : Int := if m (x0 + 6) z = m x0 8 then m (x0 + 4) z else if z < 880 then z else -1
def vsh (x0 : Nat) (m : Mi) (z : Nat) : Int := if m (x0 + 6) z = m x0 8 then m (x0 + 5) z else 0
theorem vlk_t {z : Nat} (h : tch x0 m z) : vlk x0 m z = m (x0 + 3) z := if_pos h
theorem vhr_t {z : Nat} (h : tch x0 m z) : vhr x0 m z = m (x0 + 4) z := if_pos h
theorem vsh_t {z : Nat} (h : tch x0 m z) : vsh x0 m z = m (x0 + 5) z := if_pos h
theorem vlk_n {z : Nat} (h : ¬ tch x0 m z) : vlk x0 m z = z := if_neg h
theorem vhr_n {z : Nat} (h : ¬ tch x0 m z) : vhr x0 m z = if z < 880 then (z : Int) else -1 := if_neg h
theorem vsh_n {z : Nat} (h : ¬ tch x0 m z) : vsh x0 m z = 0 := if_neg h
/-- attempts are counted -/
def ATT (x0 : Nat) (m : Mi) : Prop := (0 ≤ m x0 8 ∧ m x0 8 ≤ 2147483647) ∧ ∀ z, z < 1688 → 0 ≤ m (x0 + 6) z ∧ m (x0 + 6) z ≤ m x0 8
/-- the classes: R tells what stands for each, rt where the ways lead -/
def CI (x0 : Nat) (R rt T : Nat → Nat) (B : Nat) (col : Nat → Int) (m : Mi) : Prop := ATT x0 m ∧ (∀ z, z < 1688 → (rt z < 1688 ∧ R z < 1688 ∧ T z ≤ B) ∧ (∃ w : Nat, vlk x0 m z = (w : Int) ∧ w < 1688 ∧ rt w = rt z ∧ (w ≠ z → T z < T w) ∧ (w = z → rt z = z) ∧ (tch x0 m z → tch x0 m w)) ∧ vlk x0 m (rt z) = (rt z : Int) ∧ vhr x0 m (rt z) = (if R z < 880 then (R z : Int) else -1) ∧ (880 ≤ R z → rt z = R z) ∧ vsh x0 m (rt z) = col (R z)) ∧ ∀ z w, z < 1688 → w < 1688 → (rt z = rt w ↔ R z = R w)
theorem CI_root (h : CI x0 R rt T B col m) {z : Nat} (hz : z < 1688) : rt (rt z) = rt z := by
  obtain ⟨⟨h1, _⟩, _, h3, _⟩ := h.2.1 z hz
  obtain ⟨_, ⟨w, w1, w2, w3, w4, w5, w6⟩, _⟩ := h.2.1 (rt z) h1
  rw [h3] at w1
  exact w5 (by omega)
theorem CI_fr (h : CI x0 R rt T B col m) (f0 : m' x0 8 = m x0 8) (f : ∀ a k, x0 + 3 ≤ a → a ≤ x0 + 6 → m' a k = m a k) : CI x0 R rt T B col m' := by
  have e1 : ∀ z, vlk x0 m' z = vlk x0 m z := fun z => by unfold vlk; rw [f0, f _ _ (by omega) (by omega), f _ _ (by omega) (by omega)]
  have e2 : ∀ z, vhr x0 m' z = vhr x0 m z := fun z => by unfold vhr; rw [f0, f _ _ (by omega) (by omega), f _ _ (by omega) (by omega)]
  have e3 : ∀ z, vsh x0 m' z = vsh x0 m z := fun z => by unfold vsh; rw [f0, f _ _ (by omega) (by omega), f _ _ (by omega) (by omega)]
  have e4 : ∀ z, tch x0 m' z ↔ tch x0 m z := fun z => by unfold tch; rw [f0, f _ _ (by omega) (by omega)]
  obtain ⟨⟨a1, a2⟩, h1, h2⟩ := h
  refine ⟨⟨by rw [f0]; exact a1, fun z hz => by rw [f0, f _ _ (by omega) (by omega)]; exact a2 z hz⟩, fun z hz => ?_, h2⟩
  obtain ⟨g1, ⟨w, w1, w2, w3, w4, w5, w6⟩, g3, g4, g5, g6⟩ := h1 z hz
  refine ⟨g1, ⟨w, by rw [e1]; exact w1, w2, w3, w4, w5, fun q => (e4 w).mpr (w6 ((e4 z).mp q))⟩, by rw [e1]; exact g3, by rw [e2]; exact g4, g5, by rw [e3]; exact g6⟩
/-- what is looked at for the first time -/
theorem CI_touch (h : CI x0 R rt T B col m) {z : Nat} (hz : z < 1688) (ht : ¬ tch x0 m z) {hv : Int} (hh : hv = if z < 880 then (z : Int) else -1) (hm : m' = mu (mu (mu (mu m (x0 + 6) z (m x0 8)) (x0 + 3) z (z : Int)) (x0 + 4) z hv) (x0 + 5) z 0) : CI x0 R rt T B col m' ∧ tch x0 m' z ∧ rt z = z ∧ ∀ w, tch x0 m w → tch x0 m' w := by
  have f0 : m' x0 8 = m x0 8 := by rw [hm, mu_ne _ _ (by omega), mu_ne _ _ (by omega), mu_ne _ _ (by omega), mu_ne _ _ (by omega)]
  have f6 : ∀ w, w ≠ z → m' (x0 + 6) w = m (x0 + 6) w := fun w g => by rw [hm, mu_ne _ _ (by omega), mu_ne _ _ (by omega), mu_ne _ _ (by omega), mu_ne _ _ (by omega)]
  have f3 : ∀ w, w ≠ z → m' (x0 + 3) w = m (x0 + 3) w := fun w g => by rw [hm, mu_ne _ _ (by omega), mu_ne _ _ (by omega), mu_ne _ _ (by omega), mu_ne _ _ (by omega)]
  have f4 : ∀ w, w ≠ z → m' (x0 + 4) w = m (x0 + 4) w := fun w g => by rw [hm, mu_ne _ _ (by omega), mu_ne _ _ (by omega), mu_ne _ _ (by omega), mu_ne _ _ (by omega)]
  have f5 : ∀ w, w ≠ z → m' (x0 + 5) w = m (x0 + 5) w := fun w g => by rw [hm, mu_ne _ _ (by omega), mu_ne _ _ (by omega), mu_ne _ _ (by omega), mu_ne _ _ (by omega)]
  have t6 : m' (x0 + 6) z = m x0 8 := by rw [hm, mu_ne _ _ (by omega), mu_ne _ _ (by omega), mu_ne _ _ (by omega), mu_at]
  have t3 : m' (x0 + 3) z = (z : Int) := by rw [hm, mu_ne _ _ (by omega), mu_ne _ _ (by omega), mu_at]
  have t4 : m' (x0 + 4) z = hv := by rw [hm, mu_ne _ _ (by omega), mu_at]
  have t5 : m' (x0 + 5) z = 0 := by rw [hm, mu_at]
  have tz : tch x0 m' z := by unfold tch; rw [t6, f0]
  have tw : ∀ w, tch x0 m w → tch x0 m' w := fun w g => by
    by_cases e : w = z
    · rw [e]; exact tz
    · unfold tch at g ⊢; rw [f6 w e, f0]; exact g
  have e1 : ∀ w, vlk x0 m' w = vlk x0 m w := fun w => by
    by_cases e : w = z
    · rw [e, vlk_t tz, t3, vlk_n ht]
    · unfold vlk; rw [f6 w e, f0, f3 w e]
  have e2 : ∀ w, vhr x0 m' w = vhr x0 m w := fun w => by
    by_cases e : w = z
    · rw [e, vhr_t tz, t4, hh, vhr_n ht]
    · unfold vhr; rw [f6 w e, f0, f4 w e]
  have e3 : ∀ w, vsh x0 m' w = vsh x0 m w := fun w => by
    by_cases e : w = z
    · rw [e, vsh_t tz, t5, vsh_n ht]
    · unfold vsh; rw [f6 w e, f0, f5 w e]
  obtain ⟨⟨a1, a2⟩, h1, h2⟩ := h
  have ez : rt z = z := by
    obtain ⟨_, ⟨w, w1, w2, w3, w4, w5, w6⟩, _⟩ := h1 z hz
    rw [vlk_n ht] at w1
    exact w5 (by omega)
  refine ⟨⟨⟨by rw [f0]; exact a1, fun w hw => ?_⟩, fun w hw => ?_, h2⟩, tz, ez, tw⟩
  · by_cases e : w = z
    · rw [e, t6, f0]; exact ⟨a1.1, Int.le_refl _⟩
    · rw [f6 w e, f0]; exact a2 w hw
  · obtain ⟨g1, ⟨v, w1, w2, w3, w4, w5, w6⟩, g3, g4, g5, g6⟩ := h1 w hw
    refine ⟨g1, ⟨v, by rw [e1]; exact w1, w2, w3, w4, w5, fun q => ?_⟩, by rw [e1]; exact g3, by rw [e2]; exact g4, g5, by rw [e3]; exact g6⟩
    by_cases e : w = z
    · subst e
      rw [vlk_n ht] at w1
      have : v = w := by omega
      rw [this]; exact tz
    · refine tw v (w6 ?_)
      unfold tch at q ⊢
      rw [f6 w e, f0] at q
      exact q
/-- a shorter way -/
theorem CI_link (h : CI x0 R rt T B col m) {z : Nat} (hz : z < 1688) (ht : tch x0 m z) (htr : tch x0 m (rt z)) (hT : rt z ≠ z → T z < T (rt z)) : CI x0 R rt T B col (mu m (x0 + 3) z (rt z : Int)) := by
  have hr := CI_root h hz
  obtain ⟨⟨a1, a2⟩, h1, h2⟩ := h
  have f0 : mu m (x0 + 3) z (rt z : Int) x0 8 = m x0 8 := mu_ne _ _ (by omega)
  have f6 : ∀ w, mu m (x0 + 3) z (rt z : Int) (x0 + 6) w = m (x0 + 6) w := fun w => mu_ne _ _ (by omega)
  have e4 : ∀ w, tch x0 (mu m (x0 + 3) z (rt z : Int)) w ↔ tch x0 m w := fun w => by unfold tch; rw [f6, f0]
  have e1 : ∀ w, w ≠ z → vlk x0 (mu m (x0 + 3) z (rt z : Int)) w = vlk x0 m w := fun w g => by unfold vlk; rw [f6, f0, mu_ne _ _ (by omega)]
  have e1z : vlk x0 (mu m (x0 + 3) z (rt z : Int)) z = (rt z : Int) := by rw [vlk_t ((e4 z).mpr ht), mu_at]
  have e2 : ∀ w, vhr x0 (mu m (x0 + 3) z (rt z : Int)) w = vhr x0 m w := fun w => by unfold vhr; rw [f6, f0, mu_ne _ _ (by omega)]
  have e3 : ∀ w, vsh x0 (mu m (x0 + 3) z (rt z : Int)) w = vsh x0 m w := fun w => by unfold vsh; rw [f6, f0, mu_ne _ _ (by omega)]
  refine ⟨⟨by rw [f0]; exact a1, fun w hw => by rw [f6, f0]; exact a2 w hw⟩, fun w hw => ?_, h2⟩
  obtain ⟨g1, ⟨v, w1, w2, w3, w4, w5, w6⟩, g3, g4, g5, g6⟩ := h1 w hw
  have gz := h1 z hz
  have g3' : vlk x0 (mu m (x0 + 3) z (rt z : Int)) (rt w) = (rt w : Int) := by
    by_cases e : rt w = z
    · rw [e, e1z]
      have : rt (rt w) = rt w := CI_root ⟨⟨a1, a2⟩, h1, h2⟩ hw
      rw [e] at this
      rw [this]
    · rw [e1 _ e]; exact g3
  by_cases e : w = z
  · subst e
    exact ⟨g1, ⟨rt w, e1z, g1.1, hr, hT, fun q => q, fun _ => (e4 _).mpr htr⟩, g3', by rw [e2]; exact g4, g5, by rw [e3]; exact g6⟩
  · exact ⟨g1, ⟨v, by rw [e1 w e]; exact w1, w2, w3, w4, w5, fun q => (e4 v).mpr (w6 ((e4 w).mp q))⟩, g3', by rw [e2]; exact g4, g5, by rw [e3]; exact g6⟩
/-- classOf() -/
theorem c_classOf {a : Nat} (hp : PP P) (kx : am_kd an_K x0 = some (.inl 4)) (hG : Gok ay cd nx n) (hM : GC x0 cd nx n m) (hC : CI x0 R rt T B col m) (hB : B < 999999) (ha : a < n) {post : Int → Mi → Mj → Mp → Prop} (k : ∀ m', CI x0 R rt T B col m' → tch x0 m' (rt (ptc cd a)) → (∀ z, tch x0 m z → tch x0 m' z) → (∀ b k, ¬ (x0 + 3 ≤ b ∧ b ≤ x0 + 6) → m' b k = m b k) → post (rt (ptc cd a) : Nat) m' J P) : Ci X d 54 [.ref x0, .int (iz (a : Int))] m J P post := by
  have h880 := hG.1
  obtain ⟨_, _, hb1, hb2⟩ := hG.2.2 a ha
  have hc := (hM a ha).1
  have hpt := (vp_lt hG (vp_pt hG ha)).1
  have hatt := hC.1
  have hatt1 := hatt.1
  have hZ := hatt.2 (ptc cd a) hpt
  have eN : ((a : Nat) : Int).toNat = a := by omega
  generalize hz : ptc cd a = z at k hpt hZ
  have eZ : ((z : Nat) : Int).toNat = z := by omega
  -- along the links
  have hop : tch x0 m z → ∀ (q w h : Nat), B - T w < q → w < 1688 → rt w = rt z → tch x0 m w → h ≤ T w → (w ≠ z → T z < T w) → Rn X d 54 86 [some (.ref x0), some (.int (iz (a : Int))), some (.int (iz (z : Int))), some (.int (iz (w : Int))), some (.int (iz (h : Int)))] [] (SS m J P) (QI post) := by
    intro ht q
    induction q with
    | zero => intro w h g; exact absurd g (Nat.not_lt_zero _)
    | succ q ih =>
      intro w h hq hw hr htw hh hT
      obtain ⟨g1, ⟨v, w1, w2, w3, w4, w5, w6⟩, g3, g4, g5, g6⟩ := hC.2.1 w hw
      rw [vlk_t htw] at w1
      have eW : ((w : Nat) : Int).toNat = w := by omega
      refine b_Bench_classOf_86 x0 a z w h kx m J P hp post ⟨by constructor <;> omega, fun g => absurd g (by omega), fun _ => ⟨by omega, ?_⟩⟩
      rw [eW, w1]
      refine ⟨by constructor <;> omega, by constructor <;> omega, fun e => ⟨by omega, ?_⟩, fun e => ⟨by omega, ?_⟩⟩
      · have ewz : w = rt z := by rw [← hr]; exact (w5 (by omega)).symm
        rw [eZ]
        have htr : tch x0 m (rt z) := by rw [← ewz]; exact htw
        have := CI_link hC hpt ht htr (fun g => by rw [← ewz]; exact hT (by omega))
        rw [← ewz] at this k
        refine k _ this ?_ (fun y hy => ?_) (fun b k hb => mu_ne _ _ (by omega))
        · unfold tch at htw ⊢
          rw [mu_ne _ _ (by omega), mu_ne _ _ (by omega)]; exact htw
        · unfold tch at hy ⊢
          rw [mu_ne _ _ (by omega), mu_ne _ _ (by omega)]; exact hy
      · have hvw : v ≠ w := fun g => e (by omega)
        have hTv := w4 hvw
        have hBv := (hC.2.1 v w2).1.2.2
        have e2 : ((h : Nat) : Int) + 1 = ((h + 1 : Nat) : Int) := by omega
        rw [e2]
        refine ih v (h + 1) (by omega) w2 (w3.trans hr) (w6 htw) (by omega) (fun _ => ?_)
        by_cases g : w = z
        · rw [← g]; exact hTv
        · have := hT g; omega
  have start : tch x0 m z → Rn X d 54 86 [some (.ref x0), some (.int (iz (a : Int))), some (.int (iz (z : Int))), some (.int (iz (z : Int))), some (.int (iz 0))] [] (SS m J P) (QI post) := fun ht => hop ht (B - T z + 1) z 0 (by omega) hpt rfl ht (Nat.zero_le _) (fun g => absurd rfl g)
  have fresh : ¬ tch x0 m z → ∀ hv : Int, (hv = if z < 880 then (z : Int) else -1) → post (z : Int) (mu (mu (mu (mu m (x0 + 6) z (m x0 8)) (x0 + 3) z (z : Int)) (x0 + 4) z hv) (x0 + 5) z 0) J P := fun ht hv e => by
    obtain ⟨t1, t2, t3, t4⟩ := CI_touch hC hpt ht e rfl
    rw [t3] at k
    exact k _ t1 t2 t4 (fun b k hb => by rw [mu_ne _ _ (by omega), mu_ne _ _ (by omega), mu_ne _ _ (by omega), mu_ne _ _ (by omega)])
  have zz : Zr (m (x0 + 6) z) := by constructor <;> omega
  have za : Zr (m x0 8) := by constructor <;> omega
  refine Ci.of rfl rfl rfl (b_Bench_classOf_0 x0 a kx m J P hp post ⟨by omega, ?_⟩)
  rw [eN, hc]
  unfold ptc at hz
  by_cases hn : cd a < 0
  · rw [if_pos hn] at hz
    have ez : 879 - cd a = (z : Int) := by omega
    rw [ez, eZ]
    refine ⟨by constructor <;> omega, fun h => absurd h (by omega), fun _ => ⟨by omega, by omega, zz, za, fun h => start h, fun h => ⟨by omega, by omega, by constructor <;> omega, fun _ => ⟨by omega, by omega, fresh h _ (by rw [if_neg (by omega)])⟩, fun g => absurd (by omega) g⟩⟩⟩
  · rw [if_neg hn] at hz
    subst hz
    refine ⟨by constructor <;> omega, fun _ => ⟨by omega, zz, za, fun h => start h, fun h => ⟨by omega, by omega, by constructor <;> omega, fun g => absurd g (by omega), fun _ => ⟨by omega, by omega, fresh h _ (by rw [if_pos (by omega)])⟩⟩⟩, fun h => absurd (by omega) h⟩
end CUC
