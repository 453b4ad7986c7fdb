/-! the reference reads RULES -/
section RRL
variable {X : aX} {d : Nat} {P : Mp} {base u : Nat} {t : Int → Int} {n most p p1 : Int} {m : Mi} {J : Mj} {Z : Mi}
/-- the RULE u lies in the reference's rows from base on -/
def RR (u base : Nat) (Z : Mi) (m : Mi) (J : Mj) : Prop := (m 272 u = base ∧ m 273 u = base + Z 0 7 ∧ m 274 u = base + Z 0 3 ∧ m 275 u = Z 0 9 ∧ m 276 u = Z 0 4) ∧ (∀ c : Nat, (c : Int) < Z 0 3 → m 269 (base + c) = Z 1 c ∧ m 270 (base + c) = Z 3 c ∧ m 271 (base + c) = Z 4 c ∧ J 265 (base + c) = rN (Z 2 c).toNat) ∧ ∀ v : Nat, (v : Int) < Z 0 4 → J 277 (8 * u + v) = rN (Z 7 v).toNat
/-- what reading the RULE u may change -/
def vF (u base : Nat) (m : Mi) (J : Mj) (m' : Mi) (J' : Mj) : Prop := (∀ a k, ¬ (a = 262 ∧ (k = 3 ∨ k = 4 ∨ k = 5 ∨ k = 6 ∨ k = 10 ∨ k = 11 ∨ k = 15 ∨ k = 16 ∨ k = 17)) → ¬ ((a = 269 ∨ a = 270 ∨ a = 271) ∧ base ≤ k) → ¬ ((a = 272 ∨ a = 273 ∨ a = 274 ∨ a = 275 ∨ a = 276) ∧ k = u) → a ≠ 278 → m' a k = m a k) ∧ (∀ a k, ¬ (a = 262 ∧ k = 7) → ¬ (a = 265 ∧ base ≤ k) → a ≠ 266 → ¬ (a = 277 ∧ 8 * u ≤ k ∧ k < 8 * u + 8) → J' a k = J a k)
theorem vF_trans {m' m'' : Mi} {J' J'' : Mj} (h1 : vF u base m J m' J') (h2 : vF u base m' J' m'' J'') : vF u base m J m'' J'' :=
  ⟨fun a k g g2 g3 g4 => (h2.1 a k g g2 g3 g4).trans (h1.1 a k g g2 g3 g4), fun a k g g2 g3 g4 => (h2.2 a k g g2 g3 g4).trans (h1.2 a k g g2 g3 g4)⟩
theorem vF_nxt {m' : Mi} {J' : Mj} (h : rF m J m' J') : vF u base m J m' J' :=
  ⟨fun a k g _ _ _ => h.1 a k (fun e => g ⟨e.1, by omega⟩), fun a k g _ _ _ => h.2 a k g⟩
theorem vF_t {m' : Mi} {J' : Mj} (h : tF base m J m' J') : vF u base m J m' J' :=
  ⟨fun a k g g2 _ g4 => h.1 a k (fun e => g ⟨e.1, by omega⟩) g2 g4, fun a k g g2 g3 _ => h.2 a k g g2 g3⟩
theorem vF_bad {x y : Int} : vF u base m J (mu (mu m 262 10 x) 262 11 y) J :=
  ⟨fun a k g _ _ _ => by rw [mu_ne _ _ (by omega), mu_ne _ _ (by omega)], fun _ _ _ _ _ _ => rfl⟩
theorem vF_u {a0 : Nat} {x : Int} (h : a0 = 272 ∨ a0 = 273 ∨ a0 = 274 ∨ a0 = 275 ∨ a0 = 276) : vF u base m J (mu m a0 u x) J :=
  ⟨fun a k _ _ g _ => mu_ne _ _ (by omega), fun _ _ _ _ _ _ => rfl⟩
theorem vF_s {k0 : Nat} {x : Int} (h : k0 = 15 ∨ k0 = 16 ∨ k0 = 17) : vF u base m J (mu m 262 k0 x) J :=
  ⟨fun a k g _ _ _ => mu_ne _ _ (fun e => g ⟨e.1, by omega⟩), fun _ _ _ _ _ _ => rfl⟩
/-- the names of the RULE are kept -/
theorem r_rule_140 {u : Nat} {nv : Int} (hp : PP P) (hu : u < 16) (hv : 0 ≤ nv ∧ nv ≤ 8) (h17 : m 262 17 = nv) {post : Mi → Mj → Mp → Prop} : ∀ (j i : Nat) (J : Mj), (i : Int) + j = nv → (∀ J', (∀ a k, ¬ (a = 277 ∧ 8 * u + i ≤ k ∧ (k : Int) < 8 * u + nv) → J' a k = J a k) → (∀ v : Nat, i ≤ v → (v : Int) < nv → J' 277 (8 * u + v) = J 266 v) → post (mu m 262 15 (m 262 15 + 1)) J' P) → Rn X (d + 4) 146 140 [some (.ref 262), some (.int (iz (u : Int))), some (.int (iz (i : Int)))] [] (SS m J P) (QV post) := by
  intro j
  induction j with
  | zero =>
    intro i J hi k
    exact b_Mdl_readRule_140 u i m J P hp post ⟨by constructor <;> omega, by rw [h17]; constructor <;> omega, fun _ => k J (fun _ _ _ => rfl) (fun v h1 h2 => by omega), fun h => absurd (by rw [h17]; omega) h⟩
  | succ j ih =>
    intro i J hi k
    refine b_Mdl_readRule_140 u i m J P hp post ⟨by constructor <;> omega, by rw [h17]; constructor <;> omega, fun h => absurd h (by rw [h17]; omega), fun _ => ⟨by omega, by omega, ?_⟩⟩
    have e1 : ((i : Nat) : Int).toNat = i := by omega
    have e2 : (8 * ((u : Nat) : Int) + (i : Nat)).toNat = 8 * u + i := by omega
    rw [e1, e2]
    refine ih (i + 1) (mju J 277 (8 * u + i) (J 266 i)) (by omega) fun J' q1 q2 => k J' (fun a k h => ?_) (fun v h1 h2 => ?_)
    · rw [q1 a k (fun e => h ⟨e.1, by omega, e.2.2⟩), mju_ne _ _ (fun e => h ⟨e.1, by omega, by omega⟩)]
    · by_cases e : v = i
      · rw [e, q1 _ _ (by omega), mju_at]
      · rw [q2 v (by omega) h2, mju_ne _ _ (by omega)]
/-- a RULE with a FAULT in it: to its end -/
theorem r_rule_bad (hp : PP P) (hu : u < 16) (h10 : 0 < m 262 10 ∧ m 262 10 ≤ 9) (hv : 0 ≤ m 262 17 ∧ m 262 17 ≤ 8) {post : Mi → Mj → Mp → Prop} (k : ∀ m' J', m' 262 10 = m 262 10 → m' 262 11 = m 262 11 → vF u base m J m' J' → post m' J' P) : Rn X (d + 4) 146 112 [some (.ref 262), some (.int (iz (u : Int))), none] [] (SS m J P) (QV post) := by
  have eu : ((u : Nat) : Int).toNat = u := by omega
  refine b_Mdl_readRule_112 u m J P hp post ⟨by omega, ?_⟩
  rw [eu]
  refine r_wants1 hp (by rw [mu_ne _ _ (by omega)]; exact h10.1) (by rw [mu_ne _ _ (by omega)]; exact h10.2) ⟨hp, by omega, ?_⟩
  rw [mu_ne (x := 262) (y := 17) _ _ (by omega)]
  refine r_rule_140 hp hu hv (by rw [mu_ne _ _ (by omega), mu_ne _ _ (by omega)]) (m 262 17).toNat 0 J (by omega) fun J' q1 q2 => k _ J' ?_ ?_ ?_
  · rw [mu_ne _ _ (by decide), mu_ne _ _ (by omega), mu_ne _ _ (by omega)]
  · rw [mu_ne _ _ (by decide), mu_ne _ _ (by omega), mu_ne _ _ (by omega)]
  · refine ⟨fun a k g g2 g3 g4 => ?_, fun a k g g2 g3 g4 => q1 a k (fun e => g4 ⟨e.1, by omega, by omega⟩)⟩
    rw [mu_ne _ _ (by omega), mu_ne _ _ (by omega), mu_ne _ _ (by omega)]
theorem r_readRule {u base : Nat} (hp : PP P) (hT : Tx t n) (hu : u < 16) (hn : 0 ≤ p ∧ p ≤ n) (hK : tK t n p = 11) (hC : rC t n p m J) (h10 : m 262 10 = 0) (h15 : m 262 15 = u) (h16 : m 262 16 = base) (hb : base + 121 ≤ 2000) {post : Mi → Mj → Mp → Prop} (k1 : yTwo t n 9 8 (nxp t n p) 0 5 = 0 → tK t n (yTwo t n 9 8 (nxp t n p) 0 0) = 7 → ∀ m' J', rC t n (nxp t n (yTwo t n 9 8 (nxp t n p) 0 0)) m' J' → RR u base (yTwo t n 9 8 (nxp t n p)) m' J' → m' 262 10 = 0 → m' 262 15 = u + 1 → m' 262 16 = base + yTwo t n 9 8 (nxp t n p) 0 3 → vF u base m J m' J' → post m' J' P) (k2 : yTwo t n 9 8 (nxp t n p) 0 5 ≠ 0 → ∀ m' J', m' 262 10 = yTwo t n 9 8 (nxp t n p) 0 5 → m' 262 11 = yTwo t n 9 8 (nxp t n p) 0 6 → vF u base m J m' J' → post m' J' P) (k3 : yTwo t n 9 8 (nxp t n p) 0 5 = 0 → tK t n (yTwo t n 9 8 (nxp t n p) 0 0) ≠ 7 → ∀ m' J', m' 262 10 = ft t n (yTwo t n 9 8 (nxp t n p) 0 0) → m' 262 11 = yTwo t n 9 8 (nxp t n p) 0 0 → vF u base m J m' J' → post m' J' P) : Cv X (d + 4) 146 [.ref 262] m J P post := by
  have a1 := nxp_le hT hn.2
  have hsa := tS_all (p := p) hT
  have es : m 262 3 = tS t n p := hC.1.2.2.1
  have e7 : m 262 3 = 7 := by rw [es]; exact hsa.2.2.2.2.2.mpr hK
  have hA := yA_I (most := 8) hT (p := nxp t n p) (by omega) (by decide)
  have eu : (m 262 15).toNat = u := by rw [h15]; omega
  have z10 : Zr (m 262 10) := by rw [h10]; exact zr0
  refine Cv.of rfl rfl rfl (b_Mdl_readRule_0 m J P hp post ⟨by rw [e7]; constructor <;> decide, fun _ => ⟨by rw [h15]; constructor <;> omega, fun _ => ⟨z10, fun _ => ?_, fun h => absurd (by omega) h⟩, fun h => absurd (by omega) h⟩, fun h => absurd e7 h⟩)
  rw [eu, h15]
  refine r_nxt hp hT hn hC fun m1 J1 c1 c2 => ⟨hp, by omega, ?_⟩
  have v1 : vF u base m J m1 J1 := vF_nxt c2
  have f16 : m1 262 16 = base := (c2.1 _ _ (by decide)).trans h16
  have f10 : m1 262 10 = 0 := (c2.1 _ _ (by decide)).trans h10
  rw [mu_ne (x := 262) (y := 16) _ _ (by decide), f16]
  have v2 : vF u base m J (mu (mu m1 262 17 0) 272 u base) J1 := vF_trans v1 (vF_trans (vF_s (by decide)) (vF_u (by decide)))
  have z0 : y0 (nxp t n p) 0 0 = nxp t n p := by simp [y0, mu]
  refine r_readTerm (Y := y0 (nxp t n p)) (fr := 0) (base := base) (most := 8) hp hT (by decide) (by decide) (by omega) (by simp [y0, mu]) (by simp [y0, mu]) (by simp [y0, mu]) (by simp [y0, mu]) (y0_I (by omega) (by decide)) (by rw [z0]; exact rC_fr c1 (fun k hk => by rw [mu_ne _ _ (by omega), mu_ne _ _ (by omega)]) (fun k => by rw [mu_ne _ _ (by omega), mu_ne _ _ (by omega)]) (fun _ => rfl)) (RY_0 (by rw [mu_ne _ _ (by omega), mu_ne _ _ (by omega)]; exact f16) (by rw [mu_ne _ _ (by omega), mu_at])) (by rw [mu_ne _ _ (by omega), mu_ne _ _ (by omega)]; exact f10) (fun h m2 J2 d1 d2 d3 d4 => ⟨hp, by omega, ?_⟩) (fun h m2 J2 d1 d2 d3 d4 => ⟨hp, by omega, ?_⟩)
  · have hA5 : yA t n 8 (nxp t n p) 0 5 = 0 := h
    have d1' : rC t n (yA t n 8 (nxp t n p) 0 0) m2 J2 := d1
    have d2' : RY base (yA t n 8 (nxp t n p)) m2 J2 := d2
    have h3 := hA.1.2.2.2.1
    have i4 := hA.1.2.2.2.2.1
    have hft := ft_bd t n (yA t n 8 (nxp t n p) 0 0)
    have ea : m2 262 4 = yA t n 8 (nxp t n p) 0 0 := d1'.1.1
    have eT : yTwo t n 9 8 (nxp t n p) = if tK t n (yA t n 8 (nxp t n p) 0 0) ≠ 9 then yBad (yA t n 8 (nxp t n p)) (ft t n (yA t n 8 (nxp t n p) 0 0)) (yA t n 8 (nxp t n p) 0 0) else yrn t n 8 (yA t n 8 (nxp t n p) 0 3) (n + 1).toNat (y2 (yA t n 8 (nxp t n p)) (nxp t n (yA t n 8 (nxp t n p) 0 0))) := by rw [yTwo, if_neg (fun g => g hA5)]
    have v3 := vF_trans v2 (vF_t (u := u) d3)
    rw [ea]
    have v4 : vF u base m J (mu m2 275 u (yA t n 8 (nxp t n p) 0 0)) J2 := vF_trans v3 (vF_u (by decide))
    refine r_wantsK (K := 9) hp hT (by decide) hA.1.1 (rC_fr d1' (fun k hk => mu_ne _ _ (by omega)) (fun k => mu_ne _ _ (by omega)) (fun _ => rfl)) (by rw [mu_ne _ _ (by omega)]; exact d4) (fun g m3 J3 e1 e2 => ⟨hp, by omega, ?_⟩) (fun g => ⟨hp, by omega, ?_⟩)
    · rw [if_neg (fun h => h g)] at eT
      have f10' : m3 262 10 = 0 := by rw [e2.1 _ _ (by decide), mu_ne _ _ (by omega)]; exact d4
      have f16' : m3 262 16 = base + yA t n 8 (nxp t n p) 0 3 := by rw [e2.1 _ _ (by decide), mu_ne _ _ (by omega)]; exact d2'.1
      rw [f16', mu_ne (x := 262) (y := 10) _ _ (by omega)]
      have v5 : vF u base m J (mu m3 273 u (base + yA t n 8 (nxp t n p) 0 3)) J3 := vF_trans v4 (vF_trans (vF_nxt e2) (vF_u (by decide)))
      refine ⟨by rw [f10']; exact zr0, fun h => absurd f10' h, fun _ => ?_⟩
      have hBI := yB_I (most := 8) hT (p := nxp t n p) (by omega) (by decide) hA5
      have hBE := yB_E (most := 8) hT (p := nxp t n p) (by omega) (by decide) hA5
      rw [← eT] at hBE
      have zb : y2 (yA t n 8 (nxp t n p)) (nxp t n (yA t n 8 (nxp t n p) 0 0)) 0 0 = nxp t n (yA t n 8 (nxp t n p) 0 0) := by simp [y2, mu]
      have fY : RY base (yA t n 8 (nxp t n p)) (mu m3 273 u (base + yA t n 8 (nxp t n p) 0 3)) J3 := by
        refine RY_fr d2' ?_ ?_ (fun k => ⟨?_, ?_, ?_, e2.2 _ _ (fun e => by cases e.1), e2.2 _ _ (fun e => by cases e.1)⟩)
        · rw [mu_ne _ _ (by omega), e2.1 _ _ (by decide), mu_ne _ _ (by omega)]
        · rw [mu_ne _ _ (by omega), e2.1 _ _ (by decide), mu_ne _ _ (by omega)]
        · rw [mu_ne _ _ (by omega), e2.1 _ _ (fun e => by cases e.1), mu_ne _ _ (by omega)]
        · rw [mu_ne _ _ (by omega), e2.1 _ _ (fun e => by cases e.1), mu_ne _ _ (by omega)]
        · rw [mu_ne _ _ (by omega), e2.1 _ _ (fun e => by cases e.1), mu_ne _ _ (by omega)]
      refine r_readTerm (Y := y2 (yA t n 8 (nxp t n p)) (nxp t n (yA t n 8 (nxp t n p) 0 0))) (fr := yA t n 8 (nxp t n p) 0 3) (base := base) (most := 8) hp hT (by omega) (by decide) (by omega) (by simp [y2, mu]; exact hA5) (by simp [y2, mu]) ?_ (by simp [y2, mu]) hBI (by rw [zb]; exact rC_fr e1 (fun k hk => mu_ne _ _ (by omega)) (fun k => mu_ne _ _ (by omega)) (fun _ => rfl)) (RY_2 fY) (by rw [mu_ne _ _ (by omega)]; exact f10') (fun h m4 J4 g1 g2 g3 g4 => ⟨hp, ?_⟩) (fun h m4 J4 g1 g2 g3 g4 => ⟨hp, ?_⟩)
      · simp [y2, mu]
        have := hA.1.2.2.1
        exact hA.2.elim (fun e => absurd hA5 e) (fun e => by omega)
      · rw [← eT] at h g1 g2
        have v6 := vF_trans v5 (vF_t (u := u) g3)
        have s7 : yTwo t n 9 8 (nxp t n p) 0 7 = yA t n 8 (nxp t n p) 0 3 := by rw [eT, yrn_k (by decide)]; simp [y2, mu]
        have s9 : yTwo t n 9 8 (nxp t n p) 0 9 = yA t n 8 (nxp t n p) 0 0 := by rw [eT, yrn_k (by decide)]; simp [y2, mu]
        have b00 := hBE.1.1
        have b04 := hBE.1.2.2.2.2.1
        have hft2 := ft_bd t n (yTwo t n 9 8 (nxp t n p) 0 0)
        have eun : ((u : Nat) : Int).toNat = u := by omega
        refine b_Mdl_readRule_112 u m4 J4 P hp post ⟨by omega, ?_⟩
        rw [eun, g2.1]
        have hu272 : m4 272 u = base := by
          rw [g3.1 _ _ (by omega) (by omega) (by omega), mu_ne _ _ (by omega), e2.1 _ _ (fun e => by cases e.1), mu_ne _ _ (by omega), d3.1 _ _ (by omega) (by omega) (by omega), mu_at]
        have hu273 : m4 273 u = base + yA t n 8 (nxp t n p) 0 3 := by
          rw [g3.1 _ _ (by omega) (by omega) (by omega), mu_at]
        have hu275 : m4 275 u = yA t n 8 (nxp t n p) 0 0 := by
          rw [g3.1 _ _ (by omega) (by omega) (by omega), mu_ne _ _ (by omega), e2.1 _ _ (fun e => by cases e.1), mu_at]
        have f15 : m4 262 15 = u := by
          rw [g3.1 _ _ (by decide) (by omega) (by decide), mu_ne _ _ (by omega), e2.1 _ _ (by decide), mu_ne _ _ (by omega), d3.1 _ _ (by decide) (by omega) (by decide), mu_ne _ _ (by omega), mu_ne _ _ (by omega), c2.1 _ _ (by decide)]
          exact h15
        refine r_wantsK (K := 7) hp hT (by decide) b00 (rC_fr g1 (fun k hk => mu_ne _ _ (by omega)) (fun k => mu_ne _ _ (by omega)) (fun _ => rfl)) (by rw [mu_ne _ _ (by omega)]; exact g4) (fun g7 m5 J5 q1 q2 => ⟨hp, by omega, ?_⟩) (fun g7 => ⟨hp, by omega, ?_⟩)
        · have f17 : m5 262 17 = yTwo t n 9 8 (nxp t n p) 0 4 := by rw [q2.1 _ _ (by decide), mu_ne _ _ (by omega)]; exact g2.2.2.1
          rw [f17]
          have v7 := vF_trans v6 (vF_trans (vF_u (a0 := 274) (x := base + yTwo t n 9 8 (nxp t n p) 0 3) (by decide)) (vF_trans (vF_nxt q2) (vF_u (a0 := 276) (x := yTwo t n 9 8 (nxp t n p) 0 4) (by decide))))
          refine r_rule_140 hp hu (by omega) (by rw [mu_ne _ _ (by omega)]; exact f17) (yTwo t n 9 8 (nxp t n p) 0 4).toNat 0 J5 (by omega) fun J6 r1 r2 => k1 h g7 _ J6 ?_ ?_ ?_ ?_ ?_ ?_
          · refine rC_fr q1 (fun k hk => ?_) (fun k => ?_) (fun k => r1 _ _ (fun e => by cases e.1))
            · rw [mu_ne _ _ (by omega), mu_ne _ _ (by omega)]
            · rw [mu_ne _ _ (by omega), mu_ne _ _ (by omega)]
          · refine ⟨⟨?_, ?_, ?_, ?_, ?_⟩, fun c hc => ?_, fun v hv => ?_⟩
            · rw [mu_ne _ _ (by omega), mu_ne _ _ (by omega), q2.1 _ _ (fun e => by cases e.1), mu_ne _ _ (by omega)]; exact hu272
            · rw [mu_ne _ _ (by omega), mu_ne _ _ (by omega), q2.1 _ _ (fun e => by cases e.1), mu_ne _ _ (by omega), s7]; exact hu273
            · rw [mu_ne _ _ (by omega), mu_ne _ _ (by omega), q2.1 _ _ (fun e => by cases e.1), mu_at]
            · rw [mu_ne _ _ (by omega), mu_ne _ _ (by omega), q2.1 _ _ (fun e => by cases e.1), mu_ne _ _ (by omega), s9]; exact hu275
            · rw [mu_ne _ _ (by omega), mu_at]
            · have q := g2.2.1 c hc
              rw [mu_ne _ _ (by omega), mu_ne _ _ (by omega), mu_ne _ _ (by omega), mu_ne _ _ (by omega), mu_ne _ _ (by omega), mu_ne _ _ (by omega), q2.1 _ _ (fun e => by cases e.1), q2.1 _ _ (fun e => by cases e.1), q2.1 _ _ (fun e => by cases e.1), mu_ne _ _ (by omega), mu_ne _ _ (by omega), mu_ne _ _ (by omega), r1 _ _ (fun e => by cases e.1), q2.2 _ _ (fun e => by cases e.1)]
              exact q
            · rw [r2 v (by omega) hv, q2.2 _ _ (fun e => by cases e.1)]
              exact g2.2.2.2 v hv
          · rw [mu_ne _ _ (by decide), mu_ne _ _ (by omega), q2.1 _ _ (by decide), mu_ne _ _ (by omega)]; exact g4
          · rw [mu_at, mu_ne _ _ (by omega), q2.1 _ _ (by decide), mu_ne _ _ (by omega), f15]
          · rw [mu_ne _ _ (by decide), mu_ne _ _ (by omega), q2.1 _ _ (by decide), mu_ne _ _ (by omega)]; exact g2.1
          · exact vF_trans v7 (vF_trans (vF_s (by decide)) ⟨fun _ _ _ _ _ _ => rfl, fun a k g g2 g3 g4 => r1 a k (fun e => g4 ⟨e.1, by omega, by omega⟩)⟩)
        · have f17 : m4 262 17 = yTwo t n 9 8 (nxp t n p) 0 4 := g2.2.2.1
          rw [mu_ne (a := 262) (x := 262) (y := 17) _ _ (by decide), mu_ne (a := 262) (x := 262) (y := 17) _ _ (by decide), mu_ne (x := 262) (y := 17) _ _ (by omega), f17]
          have v7 : vF u base m J (mu (mu (mu (mu m4 274 u (base + yTwo t n 9 8 (nxp t n p) 0 3)) 262 10 (ft t n (yTwo t n 9 8 (nxp t n p) 0 0))) 262 11 (yTwo t n 9 8 (nxp t n p) 0 0)) 276 u (yTwo t n 9 8 (nxp t n p) 0 4)) J4 := vF_trans v6 (vF_trans (vF_u (by decide)) (vF_trans vF_bad (vF_u (by decide))))
          refine r_rule_140 hp hu (by omega) ?_ (yTwo t n 9 8 (nxp t n p) 0 4).toNat 0 J4 (by omega) fun J6 r1 r2 => k3 h g7 _ J6 ?_ ?_ ?_
          · rw [mu_ne _ _ (by omega), mu_ne _ _ (by decide), mu_ne _ _ (by decide), mu_ne _ _ (by omega)]; exact f17
          · rw [mu_ne _ _ (by decide), mu_ne _ _ (by omega), mu_ne _ _ (by decide), mu_at]
          · rw [mu_ne _ _ (by decide), mu_ne _ _ (by omega), mu_at]
          · exact vF_trans v7 (vF_trans (vF_s (by decide)) ⟨fun _ _ _ _ _ _ => rfl, fun a k g g2 g3 g4 => r1 a k (fun e => g4 ⟨e.1, by omega, by omega⟩)⟩)
      · rw [← eT] at h g1 g2
        have i9 := hBE.1.2.2.2.2.2.2.2.2
        have v6 := vF_trans v5 (vF_t (u := u) g4)
        refine r_rule_bad (base := base) hp hu (by omega) g3 fun m5 J5 q1 q2 q3 => k2 h m5 J5 (q1.trans g1) (q2.trans g2) (vF_trans v6 q3)
    · rw [if_pos g] at eT
      have s5 : yTwo t n 9 8 (nxp t n p) 0 5 = ft t n (yA t n 8 (nxp t n p) 0 0) := by rw [eT]; simp [yBad, mu]
      have s6 : yTwo t n 9 8 (nxp t n p) 0 6 = yA t n 8 (nxp t n p) 0 0 := by rw [eT]; simp [yBad, mu]
      have q10 : mu (mu (mu (mu m2 275 u (yA t n 8 (nxp t n p) 0 0)) 262 10 (ft t n (yA t n 8 (nxp t n p) 0 0))) 262 11 (yA t n 8 (nxp t n p) 0 0)) 273 u (mu (mu (mu m2 275 u (yA t n 8 (nxp t n p) 0 0)) 262 10 (ft t n (yA t n 8 (nxp t n p) 0 0))) 262 11 (yA t n 8 (nxp t n p) 0 0) 262 16) 262 10 = ft t n (yA t n 8 (nxp t n p) 0 0) := by rw [mu_ne _ _ (by omega), mu_ne _ _ (by decide), mu_at]
      refine ⟨by rw [q10]; constructor <;> omega, fun _ => ?_, fun h => absurd (by rw [q10]; omega) h⟩
      refine r_rule_bad (base := base) hp hu (by rw [q10]; omega) ?_ fun m5 J5 q1 q2 q3 => k2 (by omega) m5 J5 (q1.trans (q10.trans s5.symm)) ?_ (vF_trans v4 (vF_trans vF_bad (vF_trans (vF_u (by decide)) q3)))
      · rw [mu_ne _ _ (by omega), mu_ne _ _ (by decide), mu_ne _ _ (by decide), mu_ne _ _ (by omega), d2'.2.2.1]; omega
      · rw [q2, mu_ne _ _ (by omega), mu_at, s6]
  · have hA5 : yA t n 8 (nxp t n p) 0 5 ≠ 0 := h
    have d1' : m2 262 10 = yA t n 8 (nxp t n p) 0 5 := d1
    have d2' : m2 262 11 = yA t n 8 (nxp t n p) 0 6 := d2
    have eT : yTwo t n 9 8 (nxp t n p) = yA t n 8 (nxp t n p) := by rw [yTwo, if_pos hA5]
    have i9 := hA.1.2.2.2.2.2.2.2.2
    have v3 := vF_trans v2 (vF_t (u := u) d4)
    have q10 : ∀ x, mu m2 275 u x 262 10 = yA t n 8 (nxp t n p) 0 5 := fun x => by rw [mu_ne _ _ (by omega)]; exact d1'
    refine r_wants1 hp (by rw [q10]; omega) (by rw [q10]; omega) ⟨hp, by omega, ?_⟩
    have q11 : ∀ x y, mu (mu m2 275 u x) 273 u y 262 10 = yA t n 8 (nxp t n p) 0 5 := fun x y => by rw [mu_ne _ _ (by omega)]; exact q10 x
    refine ⟨by rw [q11]; constructor <;> omega, fun _ => ?_, fun h => absurd (by rw [q11]; omega) h⟩
    refine r_rule_bad (base := base) hp hu (by rw [q11]; omega) ?_ fun m5 J5 q1 q2 q3 => k2 (by rw [eT]; exact hA5) m5 J5 (by rw [q1, q11, eT]) ?_ (vF_trans v3 (vF_trans (vF_u (by decide)) (vF_trans (vF_u (by decide)) q3)))
    · rw [mu_ne _ _ (by omega), mu_ne _ _ (by omega)]; exact d3
    · rw [q2, mu_ne _ _ (by omega), mu_ne _ _ (by omega), d2', eT]
end RRL
