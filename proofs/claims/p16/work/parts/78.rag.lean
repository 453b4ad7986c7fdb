/-! asks() of the reference -/
section RAG
variable {X : aX} {d : Nat} {P : Mp} {sc : Nat} {Sn : Nat → Nat} {ar : Nat → Int} {n : Int} {m : Mi} {J : Mj}
theorem RK_l {m' : Mi} {J' : Mj} (h : RK sc Sn ar m J) (f : lF m J m' J') : RK sc Sn ar m' J' :=
  RK_fr h (f.1 _ _ (by decide) (by decide)) (fun k => f.1 _ _ (by omega) (by omega)) (fun k => f.2 _ _ (by omega) (by decide) (by decide))
theorem RK_b {m' : Mi} {J' : Mj} (h : RK sc Sn ar m J) (f : bgR m J m' J') : RK sc Sn ar m' J' :=
  RK_fr h (f.1 _ _ (by decide)) (fun k => f.1 _ _ (by omega)) (fun k => f.2.1 _ _ (by omega))
/-- asks() for a TERM -/
theorem r_askTerm (hp : PP P) (hn : 0 ≤ n ∧ n ≤ 1600) (h6 : -2147483648 ≤ m 262 6 ∧ m 262 6 ≤ 2147483647) (hw : wds J) (hK : RK sc Sn ar m J) {post : Int → Mi → Mj → Mp → Prop} (k1 : (qA Sn sc ar (txR m n) n (qU (txR m n) n)).1 = 0 → ∀ m' J', m' 262 12 = 0 → m' 262 13 = -1 → m' 262 10 = 0 → kQ (qU (txR m n) n 0 3) Sn sc (qU (txR m n) n) m' J' → kF m J m' J' → post 1 m' J' P) (k2 : (qA Sn sc ar (txR m n) n (qU (txR m n) n)).1 ≠ 0 → ∀ m' J', m' 262 12 = (qA Sn sc ar (txR m n) n (qU (txR m n) n)).1 → m' 262 13 = (qA Sn sc ar (txR m n) n (qU (txR m n) n)).2 → m' 262 10 = (qA Sn sc ar (txR m n) n (qU (txR m n) n)).1 → kF m J m' J' → post 0 m' J' P) : Ci X (d + 4) 185 [.ref 262, .int (iz n), .int (iz 0)] m J P post := by
  have hT := txR_T (m := m) hn
  have hA0 := tA_bd (t := txR m n) hn.1
  have hA := yA_I (most := 6) hT hA0 (by decide)
  refine Ci.of rfl rfl rfl (b_Mdl_asks_0 n 0 m J P hp post (r_begin hp hn h6 hw fun m1 J1 h1 h2 => ⟨hp, ?_⟩))
  have z0 : y0 (tA (txR m n) n 0) 0 0 = tA (txR m n) n 0 := by simp [y0, mu]
  have l1 : lF m1 J1 (mu (mu m1 262 16 0) 262 17 0) J1 := lF_trans (lF_s (by decide)) (lF_s (by decide))
  have K1 : RK sc Sn ar (mu (mu m1 262 16 0) 262 17 0) J1 := RK_l (RK_b hK h2) l1
  refine r_readTerm (Y := y0 (tA (txR m n) n 0)) (fr := 0) (base := 0) (most := 6) hp hT (by decide) (by decide) (by decide) (by simp [y0, mu]) (by simp [y0, mu]) (by simp [y0, mu]) (by simp [y0, mu]) (y0_I hA0 (by decide)) (by rw [z0]; exact rC_fr h1 (fun k hk => by rw [mu_ne _ _ (by omega), mu_ne _ _ (by omega)]) (fun k => by rw [mu_ne _ _ (by omega), mu_ne _ _ (by omega)]) (fun _ => rfl)) (RY_0 (by rw [mu_ne _ _ (by decide), mu_at]; rfl) (mu_at _ _ _ _)) (by rw [mu_ne _ _ (by decide), mu_ne _ _ (by decide)]; exact h2.2.2.2) (fun e5 m2 J2 c1 c2 c3 c4 => ⟨hp, zr0, fun _ => ?_, fun h => absurd rfl h⟩) (fun e5 m2 J2 c1 c2 c3 c4 => ⟨hp, zr0, fun _ => ?_, fun h => absurd rfl h⟩)
  · have e5' : qU (txR m n) n 0 5 = 0 := e5
    have c1' : rC (txR m n) n (qU (txR m n) n 0 0) m2 J2 := c1
    have c2' : RY 0 (qU (txR m n) n) m2 J2 := c2
    have hZ : yU n 6 (qU (txR m n) n) := (yA_U hT hA0 (by decide) e5).1
    have hz := hZ.1
    have i4 := hA.1.2.2.2.1
    have i4' : qU (txR m n) n 0 3 ≤ 0 + 40 := i4.2
    have l2 : lF m1 J1 m2 J2 := lF_trans l1 (lF_t c3)
    have K2 := RK_l (RK_b hK h2) l2
    have eA : qA Sn sc ar (txR m n) n (qU (txR m n) n) = if tK (txR m n) n (qU (txR m n) n 0 0) ≠ 0 then (ft (txR m n) n (qU (txR m n) n 0 0), qU (txR m n) n 0 0) else jN Sn sc ar (qU (txR m n) n) (qU (txR m n) n 0 3).toNat 0 := by rw [qA, if_neg (fun h => h e5')]
    have hft := ft_bd (txR m n) n (qU (txR m n) n 0 0)
    have bN := jN_bd (Sn := Sn) (sc := sc) ar (qU (txR m n) n) (qU (txR m n) n 0 3).toNat 0
    have e16 : m2 262 16 = qU (txR m n) n 0 3 := by rw [c2'.1]; omega
    refine r_ends0 hp hT c1' c4 (fun g => ⟨hp, by rw [c4]; exact zr0, fun h => absurd c4 h, fun _ => r_judgeAsk hp hZ (by decide) hn.2 K2 c2' c4 (fun w => ⟨hp, ?_⟩) (fun w => ⟨hp, ?_⟩)⟩) (fun g => ⟨hp, ?_⟩)
    · rw [if_neg (fun h => h g)] at eA
      rw [eA] at k1
      rw [e16]
      exact r_asks81 (Z := qU (txR m n) n) hp h2 l2 c4 hZ (by decide) (by omega) K2 c2' (fun m' q1 q2 q3 q4 q5 => k1 w m' J2 q1 q2 q3 q4 q5)
    · rw [if_neg (fun h => h g)] at eA
      rw [eA] at k2
      exact r_asks81_bad hp h2 (lF_trans l2 lF_bad) (by rw [mu_ne _ _ (by decide), mu_at]) (mu_at _ _ _ _) (by omega) (fun m' q1 q2 q3 q4 => k2 w m' J2 q1 q2 q3 q4)
    · rw [if_pos g] at eA
      rw [eA] at k2
      have k2 := k2 (show ft (txR m n) n (qU (txR m n) n 0 0) ≠ 0 by omega)
      have q10 : mu (mu m2 262 10 (ft (txR m n) n (qU (txR m n) n 0 0))) 262 11 (qU (txR m n) n 0 0) 262 10 = ft (txR m n) n (qU (txR m n) n 0 0) := by rw [mu_ne _ _ (by decide), mu_at]
      refine ⟨by rw [q10]; constructor <;> omega, fun _ => ?_, fun h => absurd (by rw [q10]; omega) h⟩
      exact r_asks81_bad hp h2 (lF_trans l2 lF_bad) q10 (mu_at _ _ _ _) (by omega) (fun m' q1 q2 q3 q4 => k2 m' J2 q1 q2 q3 q4)
  · have e5' : qU (txR m n) n 0 5 ≠ 0 := e5
    have c1' : m2 262 10 = qU (txR m n) n 0 5 := c1
    have c2' : m2 262 11 = qU (txR m n) n 0 6 := c2
    have i9 := hA.1.2.2.2.2.2.2.2.2
    have i9' : 0 ≤ qU (txR m n) n 0 5 ∧ qU (txR m n) n 0 5 ≤ 3 := ⟨i9.1, i9.2.1⟩
    have eA : qA Sn sc ar (txR m n) n (qU (txR m n) n) = (qU (txR m n) n 0 5, qU (txR m n) n 0 6) := by rw [qA, if_pos e5']
    rw [eA] at k2
    refine r_ends1 hp (by omega) ⟨hp, by rw [c1']; constructor <;> omega, fun _ => ?_, fun h => absurd (fun e => e5' (c1'.symm.trans e)) h⟩
    exact r_asks81_bad hp h2 (lF_trans l1 (lF_t c4)) c1' c2' (by omega) (fun m' q1 q2 q3 q4 => k2 e5' m' J2 q1 q2 q3 q4)
/-- asks() for a GOAL -/
theorem r_askGoal (hp : PP P) (hn : 0 ≤ n ∧ n ≤ 1600) (h6 : -2147483648 ≤ m 262 6 ∧ m 262 6 ≤ 2147483647) (hw : wds J) (hK : RK sc Sn ar m J) {post : Int → Mi → Mj → Mp → Prop} (k1 : (qA Sn sc ar (txR m n) n (qG (txR m n) n)).1 = 0 → ∀ m' J', m' 262 12 = 0 → m' 262 13 = -1 → m' 262 10 = 0 → kQ (qG (txR m n) n 0 7) Sn sc (qG (txR m n) n) m' J' → kF m J m' J' → post 1 m' J' P) (k2 : (qA Sn sc ar (txR m n) n (qG (txR m n) n)).1 ≠ 0 → ∀ m' J', m' 262 12 = (qA Sn sc ar (txR m n) n (qG (txR m n) n)).1 → m' 262 13 = (qA Sn sc ar (txR m n) n (qG (txR m n) n)).2 → m' 262 10 = (qA Sn sc ar (txR m n) n (qG (txR m n) n)).1 → kF m J m' J' → post 0 m' J' P) : Ci X (d + 4) 185 [.ref 262, .int (iz n), .int (iz 1)] m J P post := by
  have hT := txR_T (m := m) hn
  have hA0 := tA_bd (t := txR m n) hn.1
  have hA := yA_I (most := 6) hT hA0 (by decide)
  have i9 := hA.1.2.2.2.2.2.2.2.2
  have i4 := hA.1.2.2.2.1
  have hft := ft_bd (txR m n) n (yA (txR m n) n 6 (tA (txR m n) n 0) 0 0)
  refine Ci.of rfl rfl rfl (b_Mdl_asks_0 n 1 m J P hp post (r_begin hp hn h6 hw fun m1 J1 h1 h2 => ⟨hp, ?_⟩))
  have z0 : y0 (tA (txR m n) n 0) 0 0 = tA (txR m n) n 0 := by simp [y0, mu]
  have l1 : lF m1 J1 (mu (mu m1 262 16 0) 262 17 0) J1 := lF_trans (lF_s (by decide)) (lF_s (by decide))
  -- a FAULT that is told before the second TERM ends
  have bad : ∀ (m' : Mi) (J' : Mj) (x3 k p : Int), lF m1 J1 m' J' → m' 262 10 = k → m' 262 11 = p → 0 < k ∧ k ≤ 9 → qA Sn sc ar (txR m n) n (qG (txR m n) n) = (k, p) → Rn X (d + 4) 185 81 [some (.ref 262), some (.int (iz n)), some (.int (iz 1)), some (.int (iz x3))] [] (SS m' J' P) (QI post) := fun m' J' x3 k p w1 w2 w3 w4 w5 => by
    rw [w5] at k2
    exact r_asks81_bad hp h2 w1 w2 w3 w4 (fun m3 q1 q2 q3 q4 => k2 (show k ≠ 0 by omega) m3 J' q1 q2 q3 q4)
  refine r_readTerm (Y := y0 (tA (txR m n) n 0)) (fr := 0) (base := 0) (most := 6) hp hT (by decide) (by decide) (by decide) (by simp [y0, mu]) (by simp [y0, mu]) (by simp [y0, mu]) (by simp [y0, mu]) (y0_I hA0 (by decide)) (by rw [z0]; exact rC_fr h1 (fun k hk => by rw [mu_ne _ _ (by omega), mu_ne _ _ (by omega)]) (fun k => by rw [mu_ne _ _ (by omega), mu_ne _ _ (by omega)]) (fun _ => rfl)) (RY_0 (by rw [mu_ne _ _ (by decide), mu_at]; rfl) (mu_at _ _ _ _)) (by rw [mu_ne _ _ (by decide), mu_ne _ _ (by decide)]; exact h2.2.2.2) (fun e5 m2 J2 c1 c2 c3 c4 => ⟨hp, zr1, fun h => absurd h (by decide), fun _ => ?_⟩) (fun e5 m2 J2 c1 c2 c3 c4 => ⟨hp, zr1, fun h => absurd h (by decide), fun _ => ?_⟩)
  · have hA5 : yA (txR m n) n 6 (tA (txR m n) n 0) 0 5 = 0 := e5
    have c1' : rC (txR m n) n (yA (txR m n) n 6 (tA (txR m n) n 0) 0 0) m2 J2 := c1
    have c2' : RY 0 (yA (txR m n) n 6 (tA (txR m n) n 0)) m2 J2 := c2
    have l2 : lF m1 J1 m2 J2 := lF_trans l1 (lF_t c3)
    have eT : qG (txR m n) n = if tK (txR m n) n (yA (txR m n) n 6 (tA (txR m n) n 0) 0 0) ≠ 8 then yBad (yA (txR m n) n 6 (tA (txR m n) n 0)) (ft (txR m n) n (yA (txR m n) n 6 (tA (txR m n) n 0) 0 0)) (yA (txR m n) n 6 (tA (txR m n) n 0) 0 0) else yrn (txR m n) n 6 (yA (txR m n) n 6 (tA (txR m n) n 0) 0 3) (n + 1).toNat (y2 (yA (txR m n) n 6 (tA (txR m n) n 0)) (nxp (txR m n) n (yA (txR m n) n 6 (tA (txR m n) n 0) 0 0))) := by unfold qG; rw [yTwo, if_neg (fun g => g hA5)]
    refine r_wantsK (K := 8) hp hT (by decide) hA.1.1 c1' c4 (fun g m3 J3 g1 g2 => ⟨hp, ?_⟩) (fun g => ⟨hp, ?_⟩)
    · rw [if_neg (fun h => h g)] at eT
      have l3 : lF m1 J1 m3 J3 := lF_trans l2 (lF_n g2)
      have f10 : m3 262 10 = 0 := (g2.1 _ _ (by decide)).trans c4
      have e16 : m2 262 16 = yA (txR m n) n 6 (tA (txR m n) n 0) 0 3 := by rw [c2'.1]; omega
      rw [e16]
      have hBI := yB_I (most := 6) hT hA0 (by decide) hA5
      have hBE := yB_E (most := 6) hT hA0 (by decide) hA5
      rw [← eT] at hBE
      have zb : y2 (yA (txR m n) n 6 (tA (txR m n) n 0)) (nxp (txR m n) n (yA (txR m n) n 6 (tA (txR m n) n 0) 0 0)) 0 0 = nxp (txR m n) n (yA (txR m n) n 6 (tA (txR m n) n 0) 0 0) := by simp [y2, mu]
      refine ⟨by rw [f10]; exact zr0, fun h => absurd f10 h, fun _ => ?_⟩
      refine r_readTerm (Y := y2 (yA (txR m n) n 6 (tA (txR m n) n 0)) (nxp (txR m n) n (yA (txR m n) n 6 (tA (txR m n) n 0) 0 0))) (fr := yA (txR m n) n 6 (tA (txR m n) n 0) 0 3) (base := 0) (most := 6) hp hT (by omega) (by decide) (by omega) (by simp [y2, mu]; exact hA5) (by simp [y2, mu]) ?_ (by simp [y2, mu]) hBI (by rw [zb]; exact g1) (RY_2 (RY_nxt c2' g2)) f10 (fun h5 m4 J4 q1 q2 q3 q4 => ⟨hp, ?_⟩) (fun h5 m4 J4 q1 q2 q3 q4 => ⟨hp, ?_⟩)
      · simp [y2, mu]
        have := hA.1.2.2.1
        exact hA.2.elim (fun e => absurd hA5 e) (fun e => by omega)
      · rw [← eT] at h5 q1 q2
        have hZ : yZ n 6 (qG (txR m n) n) := yTwo_Z hT hA0 (by decide) h5
        have hz := hZ.1
        have s7 : qG (txR m n) n 0 7 = yA (txR m n) n 6 (tA (txR m n) n 0) 0 3 := by rw [eT, yrn_k (by decide)]; simp [y2, mu]
        have l4 : lF m1 J1 m4 J4 := lF_trans l3 (lF_t q3)
        have K4 := RK_l (RK_b hK h2) l4
        have hft2 := ft_bd (txR m n) n (qG (txR m n) n 0 0)
        have bN := jN_bd (Sn := Sn) (sc := sc) ar (qG (txR m n) n) (qG (txR m n) n 0 3).toNat 0
        have eA : qA Sn sc ar (txR m n) n (qG (txR m n) n) = if tK (txR m n) n (qG (txR m n) n 0 0) ≠ 0 then (ft (txR m n) n (qG (txR m n) n 0 0), qG (txR m n) n 0 0) else jN Sn sc ar (qG (txR m n) n) (qG (txR m n) n 0 3).toNat 0 := by rw [qA, if_neg (fun h => h h5)]
        refine r_ends0 hp hT q1 q4 (fun g0 => ⟨hp, by rw [q4]; exact zr0, fun h => absurd q4 h, fun _ => r_judgeAsk hp (yZ_U hZ) (by decide) hn.2 K4 q2 q4 (fun w => ⟨hp, ?_⟩) (fun w => ⟨hp, ?_⟩)⟩) (fun g0 => ⟨hp, ?_⟩)
        · rw [if_neg (fun h => h g0)] at eA
          rw [eA] at k1
          rw [← s7]
          exact r_asks81 (Z := qG (txR m n) n) hp h2 l4 q4 (yZ_U hZ) (by decide) (by omega) K4 q2 (fun m' w1 w2 w3 w4 w5 => k1 w m' J4 w1 w2 w3 w4 w5)
        · rw [if_neg (fun h => h g0)] at eA
          exact bad _ J4 _ _ _ (lF_trans l4 lF_bad) (by rw [mu_ne _ _ (by decide), mu_at]) (mu_at _ _ _ _) (by omega) eA
        · rw [if_pos g0] at eA
          have q10 : mu (mu m4 262 10 (ft (txR m n) n (qG (txR m n) n 0 0))) 262 11 (qG (txR m n) n 0 0) 262 10 = ft (txR m n) n (qG (txR m n) n 0 0) := by rw [mu_ne _ _ (by decide), mu_at]
          exact ⟨by rw [q10]; constructor <;> omega, fun _ => bad _ J4 _ _ _ (lF_trans l4 lF_bad) q10 (mu_at _ _ _ _) (by omega) eA, fun h => absurd (by rw [q10]; omega) h⟩
      · rw [← eT] at h5 q1 q2
        have j9 := hBE.1.2.2.2.2.2.2.2.2
        have eA : qA Sn sc ar (txR m n) n (qG (txR m n) n) = (qG (txR m n) n 0 5, qG (txR m n) n 0 6) := by rw [qA, if_pos h5]
        exact r_ends1 hp (by omega) ⟨hp, by rw [q1]; constructor <;> omega, fun _ => bad _ J4 _ _ _ (lF_trans l3 (lF_t q4)) q1 q2 (by omega) eA, fun h => absurd (fun e => h5 (q1.symm.trans e)) h⟩
    · rw [if_pos g] at eT
      have s5 : qG (txR m n) n 0 5 = ft (txR m n) n (yA (txR m n) n 6 (tA (txR m n) n 0) 0 0) := by rw [eT]; simp [yBad, mu]
      have s6 : qG (txR m n) n 0 6 = yA (txR m n) n 6 (tA (txR m n) n 0) 0 0 := by rw [eT]; simp [yBad, mu]
      have eA : qA Sn sc ar (txR m n) n (qG (txR m n) n) = (ft (txR m n) n (yA (txR m n) n 6 (tA (txR m n) n 0) 0 0), yA (txR m n) n 6 (tA (txR m n) n 0) 0 0) := by rw [qA, if_pos (by omega), s5, s6]
      have q10 : mu (mu m2 262 10 (ft (txR m n) n (yA (txR m n) n 6 (tA (txR m n) n 0) 0 0))) 262 11 (yA (txR m n) n 6 (tA (txR m n) n 0) 0 0) 262 10 = ft (txR m n) n (yA (txR m n) n 6 (tA (txR m n) n 0) 0 0) := by rw [mu_ne _ _ (by decide), mu_at]
      refine ⟨by rw [q10]; constructor <;> omega, fun _ => r_ends1 hp (by rw [q10]; omega) ⟨hp, by rw [q10]; constructor <;> omega, fun _ => bad _ J2 _ _ _ (lF_trans l2 lF_bad) q10 (mu_at _ _ _ _) (by omega) eA, fun h => absurd (by rw [q10]; omega) h⟩, fun h => absurd (by rw [q10]; omega) h⟩
  · have hA5 : yA (txR m n) n 6 (tA (txR m n) n 0) 0 5 ≠ 0 := e5
    have c1' : m2 262 10 = yA (txR m n) n 6 (tA (txR m n) n 0) 0 5 := c1
    have c2' : m2 262 11 = yA (txR m n) n 6 (tA (txR m n) n 0) 0 6 := c2
    have eT : qG (txR m n) n = yA (txR m n) n 6 (tA (txR m n) n 0) := by unfold qG; rw [yTwo, if_pos hA5]
    have eA : qA Sn sc ar (txR m n) n (qG (txR m n) n) = (yA (txR m n) n 6 (tA (txR m n) n 0) 0 5, yA (txR m n) n 6 (tA (txR m n) n 0) 0 6) := by rw [eT, qA, if_pos hA5]
    refine r_wants1 hp (by omega) (by omega) ⟨hp, by rw [c1']; constructor <;> omega, fun _ => r_ends1 hp (by omega) ⟨hp, by rw [c1']; constructor <;> omega, fun _ => bad _ J2 _ _ _ (lF_trans l1 (lF_t c4)) c1' c2' (by omega) eA, fun h => absurd (fun e => hA5 (c1'.symm.trans e)) h⟩, fun h => absurd (fun e => hA5 (c1'.symm.trans e)) h⟩
end RAG
