/-! the reference reads a SYSTEM -/
section RSD
variable {X : aX} {d : Nat} {P : Mp} {t : Int → Int} {n most p p1 : Int} {m : Mi} {J : Mj}
theorem yTwo_sz {sign : Int} (hT : Tx t n) (hp : 0 ≤ p ∧ p ≤ n) (hm : 0 ≤ most) : (0 ≤ yTwo t n sign most p 0 3 ∧ yTwo t n sign most p 0 3 ≤ 80) ∧ (0 ≤ yTwo t n sign most p 0 4 ∧ yTwo t n sign most p 0 4 ≤ most) := by
  have hA := yA_I (most := most) hT hp hm
  have i3 := hA.1.2.2.2.1
  have i4 := hA.1.2.2.2.2.1
  unfold yTwo
  by_cases h5 : yA t n most p 0 5 ≠ 0
  · rw [if_pos h5]; exact ⟨by omega, i4⟩
  rw [if_neg h5]
  by_cases g : tK t n (yA t n most p 0 0) ≠ sign
  · rw [if_pos g]
    have e1 : yBad (yA t n most p) (ft t n (yA t n most p 0 0)) (yA t n most p 0 0) 0 3 = yA t n most p 0 3 := by simp [yBad, mu]
    have e2 : yBad (yA t n most p) (ft t n (yA t n most p 0 0)) (yA t n most p 0 0) 0 4 = yA t n most p 0 4 := by simp [yBad, mu]
    rw [e1, e2]
    exact ⟨by omega, i4⟩
  rw [if_neg g]
  have h := (yB_E (most := most) hT hp hm (Classical.not_not.mp h5)).1
  have j3 := h.2.2.2.1
  exact ⟨by omega, h.2.2.2.2.1⟩
/-- where the rows of a RULE begin -/
def bs (t : Int → Int) (n p1 : Int) : Nat → Nat
  | 0 => 0
  | u + 1 => bs t n p1 u + (Ru t n p1 u 0 3).toNat
theorem Ru_sz (hT : Tx t n) (h1 : 0 ≤ p1 ∧ p1 ≤ n) (u : Nat) : (0 ≤ Ru t n p1 u 0 3 ∧ Ru t n p1 u 0 3 ≤ 80) ∧ (0 ≤ Ru t n p1 u 0 4 ∧ Ru t n p1 u 0 4 ≤ 8) := by
  have h := rp_bd hT h1 u
  have a := nxp_le hT h.2
  exact yTwo_sz (sign := 9) (most := 8) hT (p := nxp t n (rp t n p1 u)) (by omega) (by decide)
theorem bs_le (hT : Tx t n) (h1 : 0 ≤ p1 ∧ p1 ≤ n) : ∀ u, bs t n p1 u ≤ 80 * u
  | 0 => Nat.le_refl _
  | u + 1 => by
    have := bs_le hT h1 u
    have := (Ru_sz hT h1 u).1
    rw [bs]
    omega
theorem bs_mono (v : Nat) : ∀ u, v + 1 ≤ u → bs t n p1 v + (Ru t n p1 v 0 3).toNat ≤ bs t n p1 u
  | 0, h => absurd h (by omega)
  | u + 1, h => by
    by_cases e : v = u
    · rw [e, bs]; omega
    · have := bs_mono v u (by omega)
      rw [bs]
      omega
/-- what reading RULES may change in the reference -/
def wF (m : Mi) (J : Mj) (m' : Mi) (J' : Mj) : Prop := (∀ a k, ¬ (a = 262 ∧ (k = 3 ∨ k = 4 ∨ k = 5 ∨ k = 6 ∨ k = 10 ∨ k = 11 ∨ k = 15 ∨ k = 16 ∨ k = 17)) → ¬ (269 ≤ a ∧ a ≤ 278) → m' a k = m a k) ∧ (∀ a k, ¬ (a = 262 ∧ k = 7) → a ≠ 265 → a ≠ 266 → a ≠ 277 → J' a k = J a k)
theorem wF_refl : wF m J m J := ⟨fun _ _ _ _ => rfl, fun _ _ _ _ _ _ => rfl⟩
theorem wF_trans {m' m'' : Mi} {J' J'' : Mj} (h1 : wF m J m' J') (h2 : wF m' J' m'' J'') : wF m J m'' J'' :=
  ⟨fun a k g g2 => (h2.1 a k g g2).trans (h1.1 a k g g2), fun a k g g2 g3 g4 => (h2.2 a k g g2 g3 g4).trans (h1.2 a k g g2 g3 g4)⟩
theorem wF_v {u base : Nat} {m' : Mi} {J' : Mj} (h : vF u base m J m' J') : wF m J m' J' :=
  ⟨fun a k g g2 => h.1 a k g (fun e => by omega) (fun e => by omega) (fun e => by omega), fun a k g g2 g3 g4 => h.2 a k g (fun e => g2 e.1) g3 (fun e => g4 e.1)⟩
theorem wF_bad {x y : Int} : wF m J (mu (mu m 262 10 x) 262 11 y) J :=
  ⟨fun a k g _ => by rw [mu_ne _ _ (by omega), mu_ne _ _ (by omega)], fun _ _ _ _ _ _ => rfl⟩
theorem RR_fr {u v base base' : Nat} {Z m' : Mi} {J' : Mj} (h : RR v base' Z m J) (f : vF u base m J m' J') (hv : v ≠ u) (hb : base' + (Z 0 3).toNat ≤ base) (h4 : Z 0 4 ≤ 8) : RR v base' Z m' J' := by
  obtain ⟨⟨s1, s2, s3, s4, s5⟩, s6, s7⟩ := h
  refine ⟨⟨?_, ?_, ?_, ?_, ?_⟩, fun c hc => ?_, fun w hw => ?_⟩
  · rw [f.1 _ _ (by omega) (by omega) (by omega) (by omega)]; exact s1
  · rw [f.1 _ _ (by omega) (by omega) (by omega) (by omega)]; exact s2
  · rw [f.1 _ _ (by omega) (by omega) (by omega) (by omega)]; exact s3
  · rw [f.1 _ _ (by omega) (by omega) (by omega) (by omega)]; exact s4
  · rw [f.1 _ _ (by omega) (by omega) (by omega) (by omega)]; exact s5
  · rw [f.1 _ _ (by omega) (by omega) (by omega) (by omega), f.1 _ _ (by omega) (by omega) (by omega) (by omega), f.1 _ _ (by omega) (by omega) (by omega) (by omega), f.2 _ _ (by omega) (by omega) (by omega) (by omega)]
    exact s6 c hc
  · rw [f.2 _ _ (by omega) (by omega) (by omega) (by omega)]
    exact s7 w hw
/-- no RULE begins here, or it is one too many -/
theorem r_noRule (hp : PP P) (hT : Tx t n) (hC : rC t n p m J) (h10 : m 262 10 = 0) (h15 : 0 ≤ m 262 15 ∧ m 262 15 ≤ 16) {post : Mi → Mj → Mp → Prop} (h : tK t n p ≠ 11 ∨ m 262 15 = 16) (k1 : tK t n p ≠ 11 → post (mu (mu m 262 10 (ft t n p)) 262 11 p) J P) (k2 : tK t n p = 11 → post (mu (mu m 262 10 3) 262 11 p) J P) : Cv X (d + 4) 146 [.ref 262] m J P post := by
  have hsb := tS_bd (p := p) hT
  have hsa := tS_all (p := p) hT
  have es : m 262 3 = tS t n p := hC.1.2.2.1
  have ea : m 262 4 = p := hC.1.1
  have hft := ft_bd t n p
  have z10 : Zr (m 262 10) := by rw [h10]; exact zr0
  refine Cv.of rfl rfl rfl (b_Mdl_readRule_0 m J P hp post ⟨by rw [es]; constructor <;> omega, fun g => ⟨by constructor <;> omega, fun g2 => ?_, fun g2 => r_fail hp z10 ⟨hp, ?_⟩⟩, fun g => r_wrongT hp hT hC z10 ⟨hp, ?_⟩⟩)
  · rw [es, hsa.2.2.2.2.2] at g
    exact absurd (h.resolve_left (fun h => h g)) g2
  · rw [es, hsa.2.2.2.2.2] at g
    rw [rf_0 h10, ea]
    have q10 : mu (mu m 262 10 3) 262 11 p 262 10 = 3 := by rw [mu_ne _ _ (by decide), mu_at]
    exact ⟨by rw [q10]; constructor <;> decide, fun g => absurd g (by rw [q10]; decide), fun _ => k2 g⟩
  · rw [es, hsa.2.2.2.2.2] at g
    rw [rf_0 h10]
    have q10 : mu (mu m 262 10 (ft t n p)) 262 11 p 262 10 = ft t n p := by rw [mu_ne _ _ (by decide), mu_at]
    exact ⟨by rw [q10]; constructor <;> omega, fun g => absurd g (by rw [q10]; omega), fun _ => k1 g⟩
theorem r_189_bad {x1 : Int} (hp : PP P) (h10 : 0 < m 262 10 ∧ m 262 10 ≤ 9) {post : Mi → Mj → Mp → Prop} (k : post m J P) : Rn X (d + 5) 141 189 [some (.ref 262), some (.int (iz x1))] [] (SS m J P) (QV post) :=
  b_Mdl_readSystem_189 x1 m J P hp post ⟨by constructor <;> omega, fun _ => k, fun h => absurd (by omega) h⟩
theorem r_rules_189 (hp : PP P) (hT : Tx t n) (h1 : 0 ≤ p1 ∧ p1 ≤ n) {x1 : Int} {post : Mi → Mj → Mp → Prop} : ∀ (j u : Nat), u + j = 16 → ∀ (m : Mi) (J : Mj), rC t n (rp t n p1 u) m J → m 262 10 = 0 → m 262 15 = u → m 262 16 = bs t n p1 u → (∀ v, v < u → RR v (bs t n p1 v) (Ru t n p1 v) m J) → ((rE t n p1 j u).1 ≠ 0 → ∀ m' J', m' 262 10 = (rE t n p1 j u).1 → m' 262 11 = (rE t n p1 j u).2.1 → wF m J m' J' → post m' J' P) → ((rE t n p1 j u).1 = 0 → ∀ m' J', m' 262 10 = 0 → m' 262 15 = (((rE t n p1 j u).2.2 : Nat) : Int) → (∀ v, v < (rE t n p1 j u).2.2 → RR v (bs t n p1 v) (Ru t n p1 v) m' J') → wF m J m' J' → post m' J' P) → Rn X (d + 5) 141 189 [some (.ref 262), some (.int (iz x1))] [] (SS m J P) (QV post) := by
  intro j
  induction j with
  | zero =>
    intro u hu m J hC h10 h15 h16 hR kF kD
    have hft := ft_bd t n (rp t n p1 u)
    have hsb := tS_bd (p := rp t n p1 u) hT
    have hsa := tS_all (p := rp t n p1 u) hT
    have es : m 262 3 = tS t n (rp t n p1 u) := hC.1.2.2.1
    refine b_Mdl_readSystem_189 x1 m J P hp post ⟨by rw [h10]; exact zr0, fun h => absurd h10 h, fun _ => ⟨by rw [es]; constructor <;> omega, fun g => ?_, fun g => ?_⟩⟩
    · rw [es, hsa.1] at g
      have e : rE t n p1 0 u = (0, -1, u) := by rw [rE, if_neg (by omega), if_pos g]
      rw [e] at kD
      exact kD rfl m J h10 h15 hR wF_refl
    · rw [es, hsa.1] at g
      refine r_noRule hp hT hC h10 (by omega) (Or.inr (by omega)) (fun g11 => ⟨hp, ?_⟩) (fun g11 => ⟨hp, ?_⟩)
      · have e : rE t n p1 0 u = (ft t n (rp t n p1 u), rp t n p1 u, u) := by rw [rE, if_neg g11, if_neg g]
        rw [e] at kF
        have kF := kF (show ft t n (rp t n p1 u) ≠ 0 by omega)
        have q10 : mu (mu m 262 10 (ft t n (rp t n p1 u))) 262 11 (rp t n p1 u) 262 10 = ft t n (rp t n p1 u) := by rw [mu_ne _ _ (by decide), mu_at]
        exact r_189_bad hp (by rw [q10]; omega) (kF _ _ q10 (mu_at _ _ _ _) wF_bad)
      · have e : rE t n p1 0 u = (3, rp t n p1 u, u) := by rw [rE, if_pos g11]
        rw [e] at kF
        have kF := kF (show (3 : Int) ≠ 0 by decide)
        have q10 : mu (mu m 262 10 3) 262 11 (rp t n p1 u) 262 10 = 3 := by rw [mu_ne _ _ (by decide), mu_at]
        exact r_189_bad hp (by rw [q10]; omega) (kF _ _ q10 (mu_at _ _ _ _) wF_bad)
  | succ j ih =>
    intro u hu m J hC h10 h15 h16 hR kF kD
    have hft := ft_bd t n (rp t n p1 u)
    have hsb := tS_bd (p := rp t n p1 u) hT
    have hsa := tS_all (p := rp t n p1 u) hT
    have es : m 262 3 = tS t n (rp t n p1 u) := hC.1.2.2.1
    refine b_Mdl_readSystem_189 x1 m J P hp post ⟨by rw [h10]; exact zr0, fun h => absurd h10 h, fun _ => ⟨by rw [es]; constructor <;> omega, fun g => ?_, fun g => ?_⟩⟩
    · rw [es, hsa.1] at g
      have e : rE t n p1 (j + 1) u = (0, -1, u) := by rw [rE, if_neg (by omega), if_pos g]
      rw [e] at kD
      exact kD rfl m J h10 h15 hR wF_refl
    · rw [es, hsa.1] at g
      by_cases g11 : tK t n (rp t n p1 u) = 11
      · have hr := rp_bd hT h1 u
        have ha := nxp_le hT hr.2
        have hbl := bs_le hT h1 u
        have hsz := Ru_sz hT h1 u
        have hbd : (0 ≤ Ru t n p1 u 0 0 ∧ Ru t n p1 u 0 0 ≤ n) ∧ (0 ≤ Ru t n p1 u 0 5 ∧ Ru t n p1 u 0 5 ≤ 3) := yTwo_bd (sign := 9) (most := 8) hT (p := nxp t n (rp t n p1 u)) (by omega) (by decide)
        have hft2 := ft_bd t n (Ru t n p1 u 0 0)
        have eR : rE t n p1 (j + 1) u = if Ru t n p1 u 0 5 ≠ 0 then (Ru t n p1 u 0 5, Ru t n p1 u 0 6, u + 1) else if tK t n (Ru t n p1 u 0 0) ≠ 7 then (ft t n (Ru t n p1 u 0 0), Ru t n p1 u 0 0, u + 1) else rE t n p1 j (u + 1) := by rw [rE, if_pos g11]
        refine r_readRule (u := u) (base := bs t n p1 u) hp hT (by omega) hr g11 hC h10 h15 h16 (by omega) (fun h5 g7 m' J' q1 q2 q3 q4 q5 q6 => ⟨hp, ?_⟩) (fun h5 m' J' q1 q2 q3 => ⟨hp, ?_⟩) (fun h5 g7 m' J' q1 q2 q3 => ⟨hp, ?_⟩)
        · have h5' : Ru t n p1 u 0 5 = 0 := h5
          have g7' : tK t n (Ru t n p1 u 0 0) = 7 := g7
          have q5' : m' 262 16 = bs t n p1 u + Ru t n p1 u 0 3 := q5
          rw [if_neg (fun h => h h5'), if_neg (fun h => h g7')] at eR
          rw [eR] at kF kD
          refine ih (u + 1) (by omega) m' J' q1 q3 (by omega) (by rw [bs]; omega) (fun v hv => ?_) (fun h m2 J2 r1 r2 r3 => kF h m2 J2 r1 r2 (wF_trans (wF_v q6) r3)) (fun h m2 J2 r1 r2 r3 r4 => kD h m2 J2 r1 r2 r3 (wF_trans (wF_v q6) r4))
          by_cases e : v = u
          · rw [e]; exact q2
          · have hm := bs_mono (t := t) (n := n) (p1 := p1) v u (by omega)
            exact RR_fr (hR v (by omega)) q6 e hm (Ru_sz hT h1 v).2.2
        · have h5' : Ru t n p1 u 0 5 ≠ 0 := h5
          have q1' : m' 262 10 = Ru t n p1 u 0 5 := q1
          rw [if_pos h5'] at eR
          rw [eR] at kF
          have kF := kF h5'
          exact r_189_bad hp (by omega) (kF _ _ q1 q2 (wF_v q3))
        · have h5' : Ru t n p1 u 0 5 = 0 := h5
          have g7' : tK t n (Ru t n p1 u 0 0) ≠ 7 := g7
          have q1' : m' 262 10 = ft t n (Ru t n p1 u 0 0) := q1
          rw [if_neg (fun h => h h5'), if_pos g7'] at eR
          rw [eR] at kF
          have kF := kF (show ft t n (Ru t n p1 u 0 0) ≠ 0 by omega)
          exact r_189_bad hp (by omega) (kF _ _ q1 q2 (wF_v q3))
      · refine r_noRule hp hT hC h10 (by omega) (Or.inl g11) (fun _ => ⟨hp, ?_⟩) (fun h => absurd h g11)
        have e : rE t n p1 (j + 1) u = (ft t n (rp t n p1 u), rp t n p1 u, u) := by rw [rE, if_neg g11, if_neg g]
        rw [e] at kF
        have kF := kF (show ft t n (rp t n p1 u) ≠ 0 by omega)
        have q10 : mu (mu m 262 10 (ft t n (rp t n p1 u))) 262 11 (rp t n p1 u) 262 10 = ft t n (rp t n p1 u) := by rw [mu_ne _ _ (by decide), mu_at]
        exact r_189_bad hp (by rw [q10]; omega) (kF _ _ q10 (mu_at _ _ _ _) wF_bad)
/-- a SYSTEM as read from the place p on: its FAULT (0 without), the FAULT's place, how many RULES -/
def yF (t : Int → Int) (n p : Int) : Int × Int × Nat := if sAll t n p 0 5 ≠ 0 then (sAll t n p 0 5, sAll t n p 0 6, 0) else rE t n (sAll t n p 0 0) 16 0
/-- what reading a SYSTEM may change in the reference -/
def zF (m : Mi) (J : Mj) (m' : Mi) (J' : Mj) : Prop := (∀ a k, ¬ (a = 262 ∧ (k = 3 ∨ k = 4 ∨ k = 5 ∨ k = 6 ∨ k = 10 ∨ k = 11 ∨ k = 14 ∨ k = 15 ∨ k = 16 ∨ k = 17)) → ¬ (264 ≤ a ∧ a ≤ 278) → m' a k = m a k) ∧ (∀ a k, ¬ (a = 262 ∧ k = 7) → ¬ (264 ≤ a ∧ a ≤ 278) → J' a k = J a k)
theorem r_readSystem (hp : PP P) (hT : Tx t n) (hn : 0 ≤ p ∧ p ≤ n) (hC : rC t n p m J) (h10 : m 262 10 = 0) {post : Mi → Mj → Mp → Prop} (kF : (yF t n p).1 ≠ 0 → ∀ m' J', m' 262 10 = (yF t n p).1 → m' 262 11 = (yF t n p).2.1 → zF m J m' J' → post m' J' P) (kD : (yF t n p).1 = 0 → ∀ m' J', m' 262 10 = 0 → RS (sAll t n p) m' J' → m' 262 15 = (((yF t n p).2.2 : Nat) : Int) → (∀ v, v < (yF t n p).2.2 → RR v (bs t n (sAll t n p 0 0) v) (Ru t n (sAll t n p 0 0) v) m' J') → zF m J m' J' → post m' J' P) : Cv X (d + 5) 141 [.ref 262] m J P post := by
  have hS := sAll_I hT hn
  refine r_sym hp hT hn hC h10 (fun h m1 J1 q1 q2 q3 q4 => ?_) (fun h m1 J1 q1 q2 q3 q4 q5 q6 q7 => ?_)
  · have e : yF t n p = (sAll t n p 0 5, sAll t n p 0 6, 0) := by rw [yF, if_pos h]
    rw [e] at kF
    exact kF h m1 J1 q1 q2 ⟨fun a k g g2 => q3 a k (fun e => g ⟨e.1, by omega⟩) (by omega) (by omega), fun a k g g2 => q4 a k g (by omega)⟩
  · have e : yF t n p = rE t n (sAll t n p 0 0) 16 0 := by rw [yF, if_neg (fun g => g h)]
    rw [e] at kF kD
    have q : ∀ {m' J'}, wF m1 J1 m' J' → zF m J m' J' := fun w => ⟨fun a k g g2 => (w.1 a k (fun e => g ⟨e.1, by omega⟩) (by omega)).trans (q6 a k (fun e => g ⟨e.1, by omega⟩) (by omega) (by omega)), fun a k g g2 => (w.2 a k g (by omega) (by omega) (by omega)).trans (q7 a k g (by omega))⟩
    refine r_rules_189 hp hT hS.1 16 0 (by decide) m1 J1 q1 q3 q4 q5 (fun v hv => absurd hv (Nat.not_lt_zero _)) (fun h m' J' r1 r2 r3 => kF h m' J' r1 r2 (q r3)) (fun h m' J' r1 r2 r3 r4 => kD h m' J' r1 ?_ r2 r3 (q r4))
    refine ⟨(r4.1 _ _ (by decide) (by decide)).trans q2.1, fun k hk => ?_⟩
    rw [r4.1 _ _ (fun e => by cases e.1) (by decide), r4.1 _ _ (fun e => by cases e.1) (by decide), r4.2 _ _ (fun e => by cases e.1) (by decide) (by decide) (by decide)]
    exact q2.2 k hk
end RSD
