/-! goal() in the reference -/
section RGO
variable {X : aX} {d : Nat} {P : Mp} {J J' : Mj} {m m' m0 : Mi} {Sn : Nat → Nat} {sc N : Nat} {ar : Nat → Int} {R : Nat → Mi} {n : Int} {t : Int → Int} {Z : Mi}
/-- what goal() may change in the reference -/
def rgoF (m : Mi) (J : Mj) (m' : Mi) (J' : Mj) : Prop := (∀ a k, ¬ (a = 262 ∧ ((1 ≤ k ∧ k ≤ 13) ∨ k = 16 ∨ k = 17 ∨ k = 129 ∨ k = 130 ∨ k = 74 ∨ k = 87 ∨ k = 86 ∨ (93 ≤ k ∧ k ≤ 102) ∨ k = 120 ∨ k = 121 ∨ k = 122 ∨ k = 124 ∨ k = 125)) → ¬ (269 ≤ a ∧ a ≤ 278) → ¬ (302 ≤ a ∧ a ≤ 320) → ¬ (323 ≤ a ∧ a ≤ 340) → a ≠ 341 → a ≠ 342 → m' a k = m a k) ∧ (∀ a k, ¬ (a = 262 ∧ k = 7) → a ≠ 265 → a ≠ 266 → a ≠ 322 → J' a k = J a k)
theorem rgoF_trans {m'' : Mi} {J'' : Mj} (h : rgoF m J m' J') (h2 : rgoF m' J' m'' J'') : rgoF m J m'' J'' := ⟨fun a k g1 g2 g3 g4 g5 g6 => (h2.1 a k g1 g2 g3 g4 g5 g6).trans (h.1 a k g1 g2 g3 g4 g5 g6), fun a k g1 g2 g3 g4 => (h2.2 a k g1 g2 g3 g4).trans (h.2 a k g1 g2 g3 g4)⟩
theorem kF_rgo (h : kF m J m' J') : rgoF m J m' J' := ⟨fun a k g1 g2 g3 g4 g5 g6 => h.1 a k (by omega) g2 g5 g6, fun a k g1 g2 g3 g4 => h.2.1 a k g1 g2 g3⟩
theorem rkF_rgo (h : rkF m m') : rgoF m J m' J := ⟨fun a k g1 g2 g3 g4 g5 g6 => h a k g3 g4 (by omega), fun _ _ _ _ _ _ => rfl⟩
theorem tAdd_0 {ay : Int → Nat} {l r : List Int} {vm : Nat} (h : (ngr (l.map mkc) (r.map mkc) (sgs vm)).length ≤ 800) : (tAdd ay ([], [], 0, 0, 0, false) (-1, -1, -1, 0) (l.map mkc) (r.map mkc) (sgs vm)).1 = tPlant ay l r vm := by
  unfold tAdd tPlant
  rw [if_neg (by simp only [tcl, List.length_nil]; omega)]
  simp only [Nat.zero_add]
  rfl
theorem mkc_64 {c : Int} (h : gp sc c) : c64 (mkc c) = if c < 0 then c else c + 64 := by
  obtain ⟨h1, h2, h3⟩ := h
  unfold mkc
  by_cases g : c < 0
  · rw [if_pos g, if_pos g, c64_neg _ g]
  · rw [if_neg g, if_neg g, c64_p (by omega)]
    omega
/-- what stays while cells of the GOAL are put down -/
def g3F (m : Mi) (J : Mj) (m' : Mi) (J' : Mj) : Prop := (∀ a k, ¬ (a = 262 ∧ k = 122) → a ≠ 337 → a ≠ 338 → m' a k = m a k) ∧ ∀ a k, a ≠ 322 → J' a k = J a k
theorem r_g213 {x1 x2 : Int} {l r : List Int} {vm : Nat} {nm : Nat → Int} (hp : PP P) (hvm : vm ≤ 6) (hl : l.length ≤ 40 ∧ r.length ≤ 40) (hgv : m0 262 101 = (vm : Int)) {J0 : Mj} (hJ : ∀ v, v < vm → J0 266 v = rN (nm v).toNat) {post : Int → Mi → Mj → Mp → Prop} (kx : ∀ m1 J1, m1 262 122 = ((l.length + r.length + vm : Nat) : Int) → (∀ i, i < l.length + r.length → m1 337 i = m0 337 i) → (∀ v, v < vm → m1 337 (l.length + r.length + v) = -1 - (v : Int)) → (∀ v, v < vm → m1 338 v = 1) → (∀ v, v < vm → J1 322 v = rN (nm v).toNat) → g3F m0 J0 m1 J1 → Ci X (d + 5) 199 [.ref 262, .int (iz ((-1))), .int (iz ((-1))), .int (iz ((-1)))] (mu (mu m1 262 120 (m1 262 129)) 262 121 ((mu m1 262 120 (m1 262 129)) 262 130)) J1 P (fun z6 m3 J4 P5 => PP P5 ∧ post 0 m3 J4 P5)) : ∀ (q u : Nat) (m : Mi) (J : Mj), u + q = vm → m 262 122 = ((l.length + r.length + u : Nat) : Int) → (∀ i, i < l.length + r.length → m 337 i = m0 337 i) → (∀ v, v < u → m 337 (l.length + r.length + v) = -1 - (v : Int)) → (∀ v, v < u → m 338 v = 1) → (∀ v, v < u → J 322 v = rN (nm v).toNat) → g3F m0 J0 m J → Rn X (d + 6) 198 213 [some (.ref 262), some (.int (iz x1)), some (.int (iz x2)), some (.int (iz (u : Int)))] [] (SS m J P) (QI post) := by
  intro q
  induction q with
  | zero =>
    intro u m J hu h1 h2 h3 h4 h5 hF
    refine b_Mdl_goal_213 (d := d + 1) x1 x2 (u : Int) m J P hp post ?_
    rw [show m 262 101 = (vm : Int) from (hF.1 _ _ (by omega) (by omega) (by omega)).trans hgv]
    exact ⟨by constructor <;> omega, by constructor <;> omega, fun _ => kx m J (by rw [h1]; omega) h2 (fun v hv => h3 v (by omega)) (fun v hv => h4 v (by omega)) (fun v hv => h5 v (by omega)) hF, fun g => absurd (by omega) g⟩
  | succ q ih =>
    intro u m J hu h1 h2 h3 h4 h5 hF
    refine b_Mdl_goal_213 (d := d + 1) x1 x2 (u : Int) m J P hp post ?_
    have e1 : (mu m 338 u 1) 262 122 = ((l.length + r.length + u : Nat) : Int) := (mu_a _ (by omega)).trans h1
    rw [show m 262 101 = (vm : Int) from (hF.1 _ _ (by omega) (by omega) (by omega)).trans hgv, Int.toNat_natCast, e1, Int.toNat_natCast]
    refine ⟨by constructor <;> omega, by constructor <;> omega, fun g => absurd g (by omega), fun _ => ⟨by omega, by omega, by omega, by omega, ?_⟩⟩
    rw [show (u : Int) + 1 = ((u + 1 : Nat) : Int) by omega]
    refine ih (u + 1) _ _ (by omega) ?_ (fun i hi => ?_) (fun v hv => ?_) (fun v hv => ?_) (fun v hv => ?_) ⟨fun a k g1 g2 g3 => ?_, fun a k g1 => ?_⟩
    · rw [mu_a _ (by omega), mu_at]; omega
    · rw [mu_ne _ _ (by omega), mu_a _ (by omega), mu_a _ (by omega)]
      exact h2 i hi
    · by_cases hvu : v = u
      · subst hvu
        rw [mu_at]
      · rw [mu_ne _ _ (by omega), mu_a _ (by omega), mu_a _ (by omega)]
        exact h3 v (by omega)
    · rw [mu_a _ (by omega), mu_a _ (by omega)]
      by_cases hvu : v = u
      · subst hvu
        rw [mu_at]
      · rw [mu_ne _ _ (by omega)]
        exact h4 v (by omega)
    · by_cases hvu : v = u
      · subst hvu
        rw [mju_at, hF.2 _ _ (by omega)]
        exact hJ v (by omega)
      · rw [mju_ne _ _ (by omega)]
        exact h5 v (by omega)
    · rw [mu_ne _ _ (by omega), mu_ne _ _ (by omega), mu_ne _ _ (by omega)]
      exact hF.1 a k g1 g2 g3
    · rw [mju_ne _ _ (by omega)]
      exact hF.2 a k g1
theorem r_g154 {x1 x2 : Int} {r : List Int} {L : Nat} (hp : PP P) (hl : L ≤ 40 ∧ r.length ≤ 40) (hr : Ro m0 342 0 r) (hrs : m0 262 130 = (r.length : Int)) (hg : ∀ c, c ∈ r → gp sc c) {post : Int → Mi → Mj → Mp → Prop} (kx : ∀ m1, m1 262 122 = ((L + r.length : Nat) : Int) → (∀ i, i < L → m1 337 i = m0 337 i) → (∀ v, v < r.length → m1 337 (L + v) = c64 (mkc (cl r v))) → (∀ a k, ¬ (a = 262 ∧ k = 122) → a ≠ 337 → m1 a k = m0 a k) → Rn X (d + 6) 198 213 [some (.ref 262), some (.int (iz x1)), some (.int (iz x2)), some (.int (iz 0))] [] (SS m1 J P) (QI post)) : ∀ (q u : Nat) (m : Mi), u + q = r.length → m 262 122 = ((L + u : Nat) : Int) → (∀ i, i < L → m 337 i = m0 337 i) → (∀ v, v < u → m 337 (L + v) = c64 (mkc (cl r v))) → (∀ a k, ¬ (a = 262 ∧ k = 122) → a ≠ 337 → m a k = m0 a k) → Rn X (d + 6) 198 154 [some (.ref 262), some (.int (iz x1)), some (.int (iz x2)), some (.int (iz (u : Int)))] [] (SS m J P) (QI post) := by
  intro q
  induction q with
  | zero =>
    intro u m hu h1 h2 h3 hF
    refine b_Mdl_goal_154 (d := d + 1) x1 x2 (u : Int) m J P hp post ?_
    rw [show m 262 130 = (r.length : Int) from (hF _ _ (by omega) (by omega)).trans hrs]
    exact ⟨by constructor <;> omega, by constructor <;> omega, fun _ => kx m (by rw [h1]; omega) h2 (fun v hv => h3 v (by omega)) hF, fun g => absurd (by omega) g⟩
  | succ q ih =>
    intro u m hu h1 h2 h3 hF
    have hul : u < r.length := by omega
    have hgc := hg _ (cl_mem hul)
    have e64 := mkc_64 hgc
    refine b_Mdl_goal_154 (d := d + 1) x1 x2 (u : Int) m J P hp post ?_
    have e2 : m 342 u = cl r u := by
      rw [hF _ _ (by omega) (by omega), cl_get hul]
      have := Ro_get hr hul
      rw [Nat.zero_add] at this
      exact this
    rw [show m 262 130 = (r.length : Int) from (hF _ _ (by omega) (by omega)).trans hrs, Int.toNat_natCast, mu_a _ (show (342 : Nat) ≠ 262 by omega), e2, show m 262 122 = ((L + u : Nat) : Int) from h1, Int.toNat_natCast]
    obtain ⟨g1, g2, g3⟩ := hgc
    have step : ∀ v : Int, v = c64 (mkc (cl r u)) → Rn X (d + 6) 198 154 [some (.ref 262), some (.int (iz x1)), some (.int (iz x2)), some (.int (iz ((u : Int) + 1)))] [] (SS (mu (mu m 262 122 (((L + u : Nat) : Int) + 1)) 337 (L + u) v) J P) (QI post) := fun v hv => by
      rw [show (u : Int) + 1 = ((u + 1 : Nat) : Int) by omega]
      refine ih (u + 1) _ (by omega) ?_ (fun i hi => ?_) (fun w hw => ?_) fun a k q1 q2 => ?_
      · rw [mu_a _ (by omega), mu_at]; omega
      · rw [mu_ne _ _ (by omega), mu_a _ (by omega)]
        exact h2 i hi
      · by_cases hwu : w = u
        · subst hwu
          rw [mu_at, hv]
        · rw [mu_ne _ _ (by omega), mu_a _ (by omega)]
          exact h3 w (by omega)
      · rw [mu_ne _ _ (by omega), mu_ne _ _ (by omega)]
        exact hF a k q1 q2
    refine ⟨by constructor <;> omega, by constructor <;> omega, fun g => absurd g (by omega), fun _ => ⟨by omega, by constructor <;> omega, fun g => ⟨by omega, by omega, step _ ?_⟩, fun g => ⟨by omega, by omega, step _ ?_⟩⟩⟩
    · rw [e64, if_neg (by omega)]
    · rw [e64, if_pos (by omega)]
theorem r_g95 {x1 x2 : Int} {l : List Int} (hp : PP P) (hl : l.length ≤ 40) (hr : Ro m0 341 0 l) (hrs : m0 262 129 = (l.length : Int)) (hg : ∀ c, c ∈ l → gp sc c) {post : Int → Mi → Mj → Mp → Prop} (kx : ∀ m1, m1 262 122 = (l.length : Int) → (∀ v, v < l.length → m1 337 v = c64 (mkc (cl l v))) → (∀ a k, ¬ (a = 262 ∧ k = 122) → a ≠ 337 → m1 a k = m0 a k) → Rn X (d + 6) 198 154 [some (.ref 262), some (.int (iz x1)), some (.int (iz x2)), some (.int (iz 0))] [] (SS m1 J P) (QI post)) : ∀ (q u : Nat) (m : Mi), u + q = l.length → m 262 122 = (u : Int) → (∀ v, v < u → m 337 v = c64 (mkc (cl l v))) → (∀ a k, ¬ (a = 262 ∧ k = 122) → a ≠ 337 → m a k = m0 a k) → Rn X (d + 6) 198 95 [some (.ref 262), some (.int (iz x1)), some (.int (iz x2)), some (.int (iz (u : Int)))] [] (SS m J P) (QI post) := by
  intro q
  induction q with
  | zero =>
    intro u m hu h1 h3 hF
    refine b_Mdl_goal_95 (d := d + 1) x1 x2 (u : Int) m J P hp post ?_
    rw [show m 262 129 = (l.length : Int) from (hF _ _ (by omega) (by omega)).trans hrs]
    exact ⟨by constructor <;> omega, by constructor <;> omega, fun _ => kx m (by rw [h1]; omega) (fun v hv => h3 v (by omega)) hF, fun g => absurd (by omega) g⟩
  | succ q ih =>
    intro u m hu h1 h3 hF
    have hul : u < l.length := by omega
    have hgc := hg _ (cl_mem hul)
    have e64 := mkc_64 hgc
    refine b_Mdl_goal_95 (d := d + 1) x1 x2 (u : Int) m J P hp post ?_
    have e2 : m 341 u = cl l u := by
      rw [hF _ _ (by omega) (by omega), cl_get hul]
      have := Ro_get hr hul
      rw [Nat.zero_add] at this
      exact this
    rw [show m 262 129 = (l.length : Int) from (hF _ _ (by omega) (by omega)).trans hrs, Int.toNat_natCast, mu_a _ (show (341 : Nat) ≠ 262 by omega), e2, show m 262 122 = (u : Int) from h1, Int.toNat_natCast]
    obtain ⟨g1, g2, g3⟩ := hgc
    have step : ∀ v : Int, v = c64 (mkc (cl l u)) → Rn X (d + 6) 198 95 [some (.ref 262), some (.int (iz x1)), some (.int (iz x2)), some (.int (iz ((u : Int) + 1)))] [] (SS (mu (mu m 262 122 ((u : Int) + 1)) 337 u v) J P) (QI post) := fun v hv => by
      rw [show (u : Int) + 1 = ((u + 1 : Nat) : Int) by omega]
      refine ih (u + 1) _ (by omega) ?_ (fun w hw => ?_) fun a k q1 q2 => ?_
      · rw [mu_a _ (by omega), mu_at]
      · by_cases hwu : w = u
        · subst hwu
          rw [mu_at, hv]
        · rw [mu_ne _ _ (by omega), mu_a _ (by omega)]
          exact h3 w (by omega)
      · rw [mu_ne _ _ (by omega), mu_ne _ _ (by omega)]
        exact hF a k q1 q2
    refine ⟨by constructor <;> omega, by constructor <;> omega, fun g => absurd g (by omega), fun _ => ⟨by omega, by constructor <;> omega, fun g => ⟨by omega, by omega, step _ ?_⟩, fun g => ⟨by omega, by omega, step _ ?_⟩⟩⟩
    · rw [e64, if_neg (by omega)]
    · rw [e64, if_pos (by omega)]
theorem r_goal {rl x2 : Int} (hp : PP P) (hz : Zr n) (h2 : 0 ≤ m 262 1 ∧ m 262 1 ≤ 1600) (hw : wds J) (hrl : m 262 33 = rl) (hr01 : rl = 0 ∨ rl = 1) (hx2 : x2 = 0 ∨ x2 = 1) (hS : Sq sc Sn ar N R) (hC : RSy sc Sn ar N R m J) {post : Int → Mi → Mj → Mp → Prop} (k0 : rl = 0 ∨ n < 0 ∨ m 262 1 < n → post (-1) m J P) (kf : rl = 1 → 0 ≤ n ∧ n ≤ m 262 1 → (qA Sn sc ar (txR m n) n (qG (txR m n) n)).1 ≠ 0 → ∀ m' J', m' 262 12 = (qA Sn sc ar (txR m n) n (qG (txR m n) n)).1 → m' 262 13 = (qA Sn sc ar (txR m n) n (qG (txR m n) n)).2 → m' 262 1 = 0 → (∀ a k, ¬ (a = 262 ∧ ((1 ≤ k ∧ k ≤ 13) ∨ k = 16 ∨ k = 17 ∨ k = 129 ∨ k = 130)) → ¬ (269 ≤ a ∧ a ≤ 278) → a ≠ 341 → a ≠ 342 → m' a k = m a k) → (∀ a k, ¬ (a = 262 ∧ k = 7) → a ≠ 265 → a ≠ 266 → J' a k = J a k) → post (qA Sn sc ar (txR m n) n (qG (txR m n) n)).1 m' J' P) (k1 : rl = 1 → 0 ≤ n ∧ n ≤ m 262 1 → (qA Sn sc ar (txR m n) n (qG (txR m n) n)).1 = 0 → ∀ m' J', m' 262 12 = 0 → m' 262 13 = -1 → m' 262 1 = 0 → TR (tPlant (ayw ar) (ZL Sn sc (qG (txR m n) n)) (ZR Sn sc (qG (txR m n) n)) (qG (txR m n) n 0 4).toNat) m' → m' 262 93 = 1 → m' 262 94 = x2 → m' 262 101 = ((qG (txR m n) n 0 4).toNat : Int) → (∀ v, v < (qG (txR m n) n 0 4).toNat → J' 322 v = rN (qG (txR m n) n 7 v).toNat) → rgoF m J m' J' → post 0 m' J' P) : Ci X (d + 6) 198 [.ref 262, .int (iz n), .int (iz x2)] m J P post := by
  have zr : Zr rl := by rcases hr01 with h | h <;> rw [h] <;> constructor <;> decide
  have zt : Zr (m 262 1) := by constructor <;> omega
  have hs16 := hS.1.1
  have har := Sq_ar hS
  by_cases hr1 : rl = 0
  · refine Ci.of rfl rfl rfl (b_Mdl_goal_0 (d := d + 1) n x2 m J P hp post ?_)
    rw [hrl]
    exact ⟨zr, fun _ => k0 (Or.inl hr1), fun g => absurd hr1 g⟩
  by_cases hg : ¬ (0 ≤ n ∧ n ≤ m 262 1)
  · refine Ci.of rfl rfl rfl (b_Mdl_goal_0 (d := d + 1) n x2 m J P hp post ?_)
    rw [hrl]
    exact ⟨zr, fun g => absurd g hr1, fun _ => ⟨hz, fun g => k0 (Or.inr (Or.inl g)), fun g => ⟨hz, zt, fun g2 => absurd ⟨by omega, g2⟩ hg, fun g2 => k0 (Or.inr (Or.inr (by omega)))⟩⟩⟩
  have hg := Classical.not_not.mp hg
  have hr : rl = 1 := by omega
  have kf' := kf hr hg
  have k1' := k1 hr hg
  clear kf k1 k0
  refine Ci.zr 262 6 ?_
  obtain ⟨m0, e0, h6, etx, em0⟩ := num_fr m
  rw [← em0]
  have E0 : rgoF m J m0 J := ⟨fun a k g1 _ _ _ _ _ => e0 a k (by omega), fun _ _ _ _ _ _ => rfl⟩
  have eh : m0 262 33 = rl := (e0 _ _ (by omega)).trans hrl
  have et : m0 262 1 = m 262 1 := e0 _ _ (by omega)
  have hC0 : RSy sc Sn ar N R m0 J := RSy_fr hC (fun k g => e0 _ _ (by omega)) (fun a k g1 g2 => e0 _ _ (by omega)) (fun _ _ _ _ => rfl)
  have hn : 0 ≤ n ∧ n ≤ 1600 := by omega
  have hT := txR_T (m := m0) hn
  refine Ci.of rfl rfl rfl (b_Mdl_goal_0 (d := d + 1) n x2 m0 J P hp post ?_)
  rw [eh, et]
  refine ⟨zr, fun g => absurd g hr1, fun _ => ⟨hz, fun g => absurd g (by omega), fun _ => ⟨hz, zt, fun _ => ?_, fun g => absurd hg.2 g⟩⟩⟩
  rw [etx] at hT
  refine r_askGoal (d := d + 1) hp hn h6 hw hC0.1 (fun e m1 J1 v1 v2 v3 v4 v5 => ⟨hp, zr1, fun _ => ⟨hx2, ?_⟩, fun g => absurd (by omega) g⟩) (fun e m1 J1 v1 v2 v3 v4 => ⟨hp, zr0, fun g => absurd rfl g, fun _ => ?_⟩)
  · rw [etx] at e v4
    have hK := qG_gK hT hs16 e
    obtain ⟨_, _, _, _, _, a8, _⟩ := qG_ok hT hs16 e
    obtain ⟨⟨q1, q2⟩, ⟨q3, q4⟩, q5, q6⟩ := kQ_rows hT hs16 e v4
    have k12 := k1' e
    clear kf' k1'
    have F1 := rgoF_trans E0 (kF_rgo v5)
    have ht0 : m1 262 1 = 0 := v5.2.2
    generalize ZL Sn sc (qG (txR m n) n) = l at *
    generalize ZR Sn sc (qG (txR m n) n) = r at *
    generalize qG (txR m n) n = Z at *
    obtain ⟨vm, hvm⟩ : ∃ vm, vm = (Z 0 4).toNat := ⟨_, rfl⟩
    rw [← hvm] at hK q5 q6 k12
    generalize Z 7 = nm at *
    have h6v := hK.2.2.2.1
    have h40 := hK.2.1
    have n1 := ct_ne hK.1.1
    have n2 := ct_ne hK.1.2
    have z9 : ∀ a k, ¬ (a = 262 ∧ (93 ≤ k ∧ k ≤ 102 ∧ k ≠ 101)) → mu (mu (mu (mu (mu (mu (mu (mu (mu m1 262 93 1) 262 94 x2) 262 95 0) 262 96 0) 262 97 0) 262 98 0) 262 99 0) 262 100 0) 262 102 0 a k = m1 a k := fun a k h => by
      rw [mu_ne _ _ (by omega), mu_ne _ _ (by omega), mu_ne _ _ (by omega), mu_ne _ _ (by omega), mu_ne _ _ (by omega), mu_ne _ _ (by omega), mu_ne _ _ (by omega), mu_ne _ _ (by omega), mu_ne _ _ (by omega)]
    have z9v : ∀ w : Mi, w = mu (mu (mu (mu (mu (mu (mu (mu (mu m1 262 93 1) 262 94 x2) 262 95 0) 262 96 0) 262 97 0) 262 98 0) 262 99 0) 262 100 0) 262 102 0 → w 262 93 = 1 ∧ w 262 94 = x2 ∧ w 262 95 = 0 ∧ w 262 96 = 0 ∧ w 262 97 = 0 ∧ w 262 98 = 0 ∧ w 262 99 = 0 ∧ w 262 100 = 0 ∧ w 262 102 = 0 := fun w hw => by
      subst hw
      refine ⟨?_, ?_, ?_, ?_, ?_, ?_, ?_, ?_, ?_⟩ <;> simp [mu]
    generalize hM2 : mu (mu (mu (mu (mu (mu (mu (mu (mu m1 262 93 1) 262 94 x2) 262 95 0) 262 96 0) 262 97 0) 262 98 0) 262 99 0) 262 100 0) 262 102 0 = m2 at *
    obtain ⟨y1, y2, y3, y4, y5, y6, y7, y8, y9⟩ := z9v m2 rfl
    rw [show m2 262 17 = (vm : Int) from (z9 _ _ (by omega)).trans q5]
    generalize hM3 : mu (mu m2 262 101 (vm : Int)) 262 122 0 = m3
    have f3 : ∀ a k, ¬ (a = 262 ∧ (k = 101 ∨ k = 122)) → m3 a k = m2 a k := fun a k h => by rw [← hM3, mu_ne _ _ (by omega), mu_ne _ _ (by omega)]
    have f31 : ∀ a k, ¬ (a = 262 ∧ ((93 ≤ k ∧ k ≤ 102) ∨ k = 122)) → m3 a k = m1 a k := fun a k h => (f3 a k (by omega)).trans (z9 a k (by omega))
    have e3g : m3 262 101 = (vm : Int) := by rw [← hM3, mu_ne _ _ (by omega), mu_at]
    have e3s : m3 262 122 = ((0 : Nat) : Int) := by rw [← hM3, mu_at]; rfl
    refine r_g95 (d := d) (m0 := m3) (l := l) (sc := sc) hp h40.1 (Ro_fr q3 fun k _ _ => f31 _ _ (by omega)) ((f31 _ _ (by omega)).trans q1) (fun c hc => (hK.2.2.1 c (List.mem_append_left _ hc)).1) (fun m4 c1 c2 c3 => ?_) l.length 0 m3 (by omega) e3s (fun v hv => absurd hv (Nat.not_lt_zero _)) fun _ _ _ _ => rfl
    refine r_g154 (d := d) (m0 := m4) (r := r) (L := l.length) (sc := sc) hp h40 (Ro_fr q4 fun k _ _ => (c3 _ _ (by omega) (by omega)).trans (f31 _ _ (by omega))) ((c3 _ _ (by omega) (by omega)).trans ((f31 _ _ (by omega)).trans q2)) (fun c hc => (hK.2.2.1 c (List.mem_append_right _ hc)).1) (fun m5 c4 c5 c6 c7 => ?_) r.length 0 m4 (by omega) c1 (fun i hi => rfl) (fun v hv => absurd hv (Nat.not_lt_zero _)) fun _ _ _ _ => rfl
    have f53 : ∀ a k, ¬ (a = 262 ∧ k = 122) → a ≠ 337 → m5 a k = m3 a k := fun a k h1 h2 => (c7 a k h1 h2).trans (c3 a k h1 h2)
    refine r_g213 (d := d) (m0 := m5) (J0 := J1) (l := l) (r := r) (vm := vm) (nm := nm) hp h6v h40 ((f53 _ _ (by omega) (by omega)).trans e3g) q6 (fun m6 J6 c8 c9 c10 c11 c12 c13 => ?_) vm 0 m5 J1 (by omega) c4 (fun i hi => rfl) (fun v hv => absurd hv (Nat.not_lt_zero _)) (fun v hv => absurd hv (Nat.not_lt_zero _)) (fun v hv => absurd hv (Nat.not_lt_zero _)) ⟨fun _ _ _ _ _ => rfl, fun _ _ _ => rfl⟩
    have f63 : ∀ a k, ¬ (a = 262 ∧ k = 122) → a ≠ 337 → a ≠ 338 → m6 a k = m3 a k := fun a k h1 h2 h3 => (c13.1 a k h1 h2 h3).trans (f53 a k h1 h2)
    have e129 : m6 262 129 = (l.length : Int) := (f63 _ _ (by omega) (by omega) (by omega)).trans ((f31 _ _ (by omega)).trans q1)
    have e130 : (mu m6 262 120 (l.length : Int)) 262 130 = (r.length : Int) := (mu_ne _ _ (by omega)).trans ((f63 _ _ (by omega) (by omega) (by omega)).trans ((f31 _ _ (by omega)).trans q2))
    rw [e129, e130]
    generalize hM7 : mu (mu m6 262 120 (l.length : Int)) 262 121 (r.length : Int) = m7
    have f76 : ∀ a k, ¬ (a = 262 ∧ (k = 120 ∨ k = 121)) → m7 a k = m6 a k := fun a k h => by rw [← hM7, mu_ne _ _ (by omega), mu_ne _ _ (by omega)]
    have f73 : ∀ a k, ¬ (a = 262 ∧ (k = 122 ∨ k = 120 ∨ k = 121)) → a ≠ 337 → a ≠ 338 → m7 a k = m3 a k := fun a k h1 h2 h3 => (f76 a k (by omega)).trans (f63 a k (by omega) h2 h3)
    have f72 : ∀ k, 93 ≤ k ∧ k ≤ 102 ∧ k ≠ 101 → m7 262 k = m2 262 k := fun k h => (f73 _ _ (by omega) (by omega) (by omega)).trans (f3 _ _ (by omega))
    obtain ⟨hok, hmk⟩ := nd0_ok har hK
    have h800 := ng_800 hok
    have hln := ng_len (l := l.map mkc) (r := r.map mkc) (vs := sgs vm)
    rw [List.length_map, List.length_map, sgs_flat] at hln
    have hm12 : mgO x2 = 1 ∨ mgO x2 = 2 := by unfold mgO; split <;> omega
    have F7 : rgoF m J m7 J6 := rgoF_trans F1 ⟨fun a k g1 g2 g3 g4 g5 g6 => (f73 a k (by omega) (by omega) (by omega)).trans (f31 a k (by omega)), fun a k g1 g2 g3 g4 => c13.2 a k g4⟩
    have hRA : RAr sc ar m7 := RAr_fr (RSy_RA hC) fun k => F7.1 _ _ (by omega) (by omega) (by omega) (by omega) (by omega) (by omega)
    have T7 : TR ([], [], 0, 0, 0, false) m7 := by
      refine ⟨⟨?_, ?_, ?_, ?_, ?_, ?_, ?_⟩, fun i e h => (by cases h), fun i e h => (by cases h)⟩
      · rw [f72 _ (by omega)]; exact y4
      · rw [f72 _ (by omega)]; exact y6
      · rw [f72 _ (by omega)]; exact y9
      · rw [f72 _ (by omega)]; exact y5
      · rw [f72 _ (by omega)]; exact y7
      · rw [f72 _ (by omega)]; exact y3
      · rw [f72 _ (by omega)]; exact y8
    refine r_addsNode (d := d) (sc := sc) (ar := ar) (G := vm) (mg := mgO x2) (S := ([], [], 0, 0, 0, false)) (l := l.map mkc) (r := r.map mkc) (vs := sgs vm) (par := -1) (p := -1) (u := -1) (D := 0) (pn := 0) hp har hRA ((f73 _ _ (by omega) (by omega) (by omega)).trans e3g) (TV_0 h6v hm12) T7 hok sgs_len (fun _ => hmk) ?_ ?_ ?_ ?_ (fun v hv => ?_) (Or.inl ⟨rfl, rfl⟩) (fun m8 w1 w2 => ⟨hp, ?_⟩)
    · rw [List.length_map, ← hM7, mu_ne _ _ (by omega), mu_at]
    · rw [List.length_map, ← hM7, mu_at]
    · rw [f76 _ _ (by omega), c8, hln]
    · refine Ro_of fun i hi => ?_
      rw [List.length_append, List.length_append, List.length_map, List.length_map, List.length_map, List.length_map, sgs_flat] at hi
      rw [Nat.zero_add, f76 _ _ (by omega), ← cl_get]
      by_cases h1 : i < l.length
      · rw [cl_app (by rw [List.length_map, List.length_map]; exact h1), cl_map (by rw [List.length_map]; exact h1), cl_map h1, c9 i (by omega), c5 i h1]
        exact c2 i h1
      · obtain ⟨j, rfl⟩ : ∃ j, i = l.length + j := ⟨i - l.length, by omega⟩
        have e1 : l.length + j = ((l.map mkc).map c64).length + j := by rw [List.length_map, List.length_map]
        by_cases h2 : j < r.length
        · rw [c9 _ (by omega), c6 j h2, e1, cl_shift, cl_app (by rw [List.length_map, List.length_map]; exact h2), cl_map (by rw [List.length_map]; exact h2), cl_map h2]
        · obtain ⟨v, rfl⟩ : ∃ v, j = r.length + v := ⟨j - r.length, by omega⟩
          have e2 : r.length + v = ((r.map mkc).map c64).length + v := by rw [List.length_map, List.length_map]
          have := c10 v (by omega)
          rw [Nat.add_assoc] at this
          rw [this, e1, cl_shift, e2, cl_shift, sgs_get (by omega)]
    · have hv2 : v < vm := by have := hv; rw [sgs_len] at this; exact this
      rw [f76 _ _ (by omega), c11 v hv2]
      obtain ⟨w, _, hw⟩ := sgs_mem (List.getElem_mem hv)
      rw [hw]
      rfl
    · rw [tAdd_0 h800.1] at w1
      have F8 := rgoF_trans F7 (rkF_rgo (J := J6) w2)
      refine k12 m8 J6 ?_ ?_ ?_ w1 ?_ ?_ ?_ c12 F8
      · rw [w2 _ _ (by omega) (by omega) (by omega), f73 _ _ (by omega) (by omega) (by omega), f31 _ _ (by omega)]; exact v1
      · rw [w2 _ _ (by omega) (by omega) (by omega), f73 _ _ (by omega) (by omega) (by omega), f31 _ _ (by omega)]; exact v2
      · rw [w2 _ _ (by omega) (by omega) (by omega), f73 _ _ (by omega) (by omega) (by omega), f31 _ _ (by omega)]; exact ht0
      · rw [w2 _ _ (by omega) (by omega) (by omega), f72 _ (by omega)]; exact y1
      · rw [w2 _ _ (by omega) (by omega) (by omega), f72 _ (by omega)]; exact y2
      · rw [w2 _ _ (by omega) (by omega) (by omega), f73 _ _ (by omega) (by omega) (by omega)]; exact e3g
  · rw [etx] at e v1 v2 v3
    rw [v3]
    exact kf' e m1 J1 v1 v2 v4.2.2 (fun a k g1 g2 g3 g4 => (v4.1 a k (by omega) g2 g3 g4).trans (e0 _ _ (by omega))) fun a k g1 g2 g3 => v4.2.1 a k g1 g2 g3
end RGO
