/-! two sides, told once, and how class and reference read them -/
section TWO
variable {X : aX} {d : Nat} {P : Mp} {b o sc base : Nat} {Sn : Nat → Nat} {t : Int → Int} {n most fr p : Int} {m : Mi} {J : Mj}
def y0 (p : Int) : Mi := mu (mu (fun _ _ => 0) 0 0 p) 0 1 1
def y2 (Z : Mi) (q : Int) : Mi := mu (mu (mu (mu (mu Z 0 0 q) 0 1 1) 0 7 (Z 0 3)) 0 8 (Z 0 4)) 0 9 (Z 0 0)
def yA (t : Int → Int) (n most p : Int) : Mi := yrn t n most 0 (n + 1).toNat (y0 p)
def yTwo (t : Int → Int) (n sign most p : Int) : Mi := if yA t n most p 0 5 ≠ 0 then yA t n most p else if tK t n (yA t n most p 0 0) ≠ sign then yBad (yA t n most p) (ft t n (yA t n most p 0 0)) (yA t n most p 0 0) else yrn t n most (yA t n most p 0 3) (n + 1).toNat (y2 (yA t n most p) (nxp t n (yA t n most p 0 0)))
theorem yrn_I (hT : Tx t n) (hf : 0 ≤ fr) : ∀ (f : Nat) (Y : Mi), yI n most fr Y → yI n most fr (yrn t n most fr f Y)
  | 0, _, h => h
  | f + 1, Y, h => yrn_I hT hf f _ (yst_I hT hf h).1
theorem yrn_E (hT : Tx t n) (hf : 0 ≤ fr) : ∀ (f : Nat) (Y : Mi), yI n most fr Y → (n - Y 0 0).toNat < f → yE (yrn t n most fr f Y)
  | 0, _, _, h => absurd h (Nat.not_lt_zero _)
  | f + 1, Y, h, hF => by
    have g := yst_I (most := most) hT hf h
    rw [yrn]
    rcases g.2 with e | e | e
    · rw [yst_E e, yrn_fix (yst_E e)]; exact e
    · rw [yrn_fix (yst_E (Or.inl e))]; exact Or.inl e
    · have := g.1.1
      exact yrn_E hT hf f _ g.1 (by omega)
theorem yst_k {Y : Mi} {k : Nat} (hk : 7 ≤ k) : yst t n most fr Y 0 k = Y 0 k := by
  have h0 : ¬ k = 0 := by omega
  have h1 : ¬ k = 1 := by omega
  have h2 : ¬ k = 2 := by omega
  have h3 : ¬ k = 3 := by omega
  have h4 : ¬ k = 4 := by omega
  have h5 : ¬ k = 5 := by omega
  have h6 : ¬ k = 6 := by omega
  unfold yst yHd
  (repeat' split) <;> simp [yBad, yN, yO, yVn, yC, yS, yAdd, mu, h0, h1, h2, h3, h4, h5, h6]
theorem yrn_k {k : Nat} (hk : 7 ≤ k) : ∀ (f : Nat) (Y : Mi), yrn t n most fr f Y 0 k = Y 0 k
  | 0, _ => rfl
  | f + 1, Y => (yrn_k hk f _).trans (yst_k hk)
theorem y0_I (hp : 0 ≤ p ∧ p ≤ n) (hm : 0 ≤ most) : yI n most 0 (y0 p) := by
  have e0 : y0 p 0 0 = p := by simp [y0, mu]
  have e1 : y0 p 0 1 = 1 := by simp [y0, mu]
  have e2 : y0 p 0 2 = 0 := by simp [y0, mu]
  have e3 : y0 p 0 3 = 0 := by simp [y0, mu]
  have e4 : y0 p 0 4 = 0 := by simp [y0, mu]
  have e5 : y0 p 0 5 = 0 := by simp [y0, mu]
  have e6 : y0 p 0 6 = 0 := by simp [y0, mu]
  exact ⟨by omega, by omega, by omega, by omega, by omega, fun i hi => absurd hi (by omega), fun v hv => absurd hv (by omega), fun c hc => absurd hc (by omega), by omega⟩
theorem y2_I {Z : Mi} {q : Int} (h : yI n most fr Z) (h2 : Z 0 2 ≤ 0) (hq : 0 ≤ q ∧ q ≤ n) : yI n most (Z 0 3) (y2 Z q) := by
  obtain ⟨i1, i2, i3, i4, i5, i6, i7, i8, i9⟩ := h
  simp only [yI, y2, mu]
  simp
  exact ⟨hq, by omega, by omega, i5, fun i hi => by omega, i7, i8, i9⟩
theorem yA_I (hT : Tx t n) (hp : 0 ≤ p ∧ p ≤ n) (hm : 0 ≤ most) : yI n most 0 (yA t n most p) ∧ yE (yA t n most p) := by
  have hn := hT.2.2.2
  have h := y0_I (most := most) hp hm
  have e : y0 p 0 0 = p := by simp [y0, mu]
  exact ⟨yrn_I hT (by decide) _ _ h, yrn_E hT (by decide) _ _ h (by rw [e]; omega)⟩
theorem yB_I (hT : Tx t n) (hp : 0 ≤ p ∧ p ≤ n) (hm : 0 ≤ most) (h5 : yA t n most p 0 5 = 0) : yI n most (yA t n most p 0 3) (y2 (yA t n most p) (nxp t n (yA t n most p 0 0))) := by
  have h := yA_I (most := most) hT hp hm
  have g := nxp_le hT h.1.1.2
  refine y2_I h.1 (h.2.elim (fun e => absurd h5 e) (fun e => e.2)) ⟨?_, g.2⟩
  have := h.1.1
  omega
theorem yB_E (hT : Tx t n) (hp : 0 ≤ p ∧ p ≤ n) (hm : 0 ≤ most) (h5 : yA t n most p 0 5 = 0) : yI n most (yA t n most p 0 3) (yrn t n most (yA t n most p 0 3) (n + 1).toNat (y2 (yA t n most p) (nxp t n (yA t n most p 0 0)))) ∧ yE (yrn t n most (yA t n most p 0 3) (n + 1).toNat (y2 (yA t n most p) (nxp t n (yA t n most p 0 0)))) := by
  have hn := hT.2.2.2
  have hA := yA_I (most := most) hT hp hm
  have h := yB_I (most := most) hT hp hm h5
  have h3 := hA.1.2.2.2.1
  refine ⟨yrn_I hT (by omega) _ _ h, yrn_E hT (by omega) _ _ h ?_⟩
  have := h.1
  omega
/-- the class's EQUATION holds two sides -/
def EQ (o : Nat) (Sn : Nat → Nat) (sc : Nat) (Z : Mi) (m : Mi) (J : Mj) : Prop := EY o Sn sc Z m J ∧ m o 5 = Z 0 7 ∧ m o 8 = Z 0 8 ∧ m o 9 = Z 0 9
/-- what reading two sides may change -/
def qT (o : Nat) (m : Mi) (J : Mj) (m' : Mi) (J' : Mj) : Prop := (∀ a k, a ≠ 2 → a ≠ 4 → a ≠ 7 → (a < o ∨ o + 3 < a) → m' a k = m a k) ∧ m' 2 1 = m 2 1 ∧ (∀ a k, a ≠ 2 → a ≠ o + 5 → J' a k = J a k)
theorem qT_trans {o : Nat} {m m' m'' : Mi} {J J' J'' : Mj} (h1 : qT o m J m' J') (h2 : qT o m' J' m'' J'') : qT o m J m'' J'' :=
  ⟨fun a k g g2 g3 g4 => (h2.1 a k g g2 g3 g4).trans (h1.1 a k g g2 g3 g4), h2.2.1.trans h1.2.1, fun a k g g2 => (h2.2.2 a k g g2).trans (h1.2.2 a k g g2)⟩
theorem qT_q {o : Nat} {m m' : Mi} {J J' : Mj} (h : qF o m J m' J') : qT o m J m' J' := ⟨h.1, h.2.1, h.2.2.1⟩
theorem qT_o {o : Nat} {m : Mi} {J : Mj} {k : Nat} {x : Int} (ho : 39 ≤ o) : qT o m J (mu m o k x) J := ⟨fun a k g g2 g3 g4 => mu_ne _ _ (by omega), mu_ne _ _ (by omega), fun _ _ _ _ => rfl⟩
theorem BN_T {m m' : Mi} {J J' : Mj} (hE : EB o b) (h : BN b Sn sc m J) (hq : qT o m J m' J') : BN b Sn sc m' J' := by
  have := hE
  unfold EB at this
  exact BN_fr h (fun k => hq.1 _ _ (by omega) (by omega) (by omega) (by omega)) (fun k => hq.2.2 _ _ (by omega) (by omega))
theorem c_clear (hp : PP P) (ko : am_kd an_K o = some (.inl 8)) {post : Mi → Mj → Mp → Prop} (k : post (mu (mu (mu (mu (mu m o 5 0) o 6 0) o 7 0) o 8 0) o 9 (-1)) J P) : Cv X d 29 [.ref o] m J P post :=
  Cv.of rfl rfl rfl (b_Equation_clear_0 o ko m J P hp post k)
theorem c_closeLeft {x : Int} (hp : PP P) (ko : am_kd an_K o = some (.inl 8)) {post : Mi → Mj → Mp → Prop} (k : post (mu (mu (mu m o 5 (m o 6)) o 8 (m o 7)) o 9 x) J P) : Cv X d 35 [.ref o, .int (iz x)] m J P post := by
  refine Cv.of rfl rfl rfl (b_Equation_closeLeft_0 o x ko m J P hp post ?_)
  rw [mu_ne _ _ (by omega)]
  exact k
theorem c_readTwo {sign : Int} (hp : PP P) (kb : am_kd an_K b = some (.inl 10)) (ko : am_kd an_K o = some (.inl 8)) (hE : EB o b) (hT : Tx t n) (hm : 0 ≤ most ∧ most ≤ 8) (hs : Zr sign) (hn : 0 ≤ p ∧ p ≤ n) (hC : cC t n p m J) (hB : BN b Sn sc m J) {post : Int → Mi → Mj → Mp → Prop} (k1 : yTwo t n sign most p 0 5 = 0 → ∀ m' J', cC t n (yTwo t n sign most p 0 0) m' J' → EQ o Sn sc (yTwo t n sign most p) m' J' → qT o m J m' J' → (∀ k, m' 4 k = m 4 k) → post 1 m' J' P) (k2 : yTwo t n sign most p 0 5 ≠ 0 → ∀ m' J', m' 4 3 = yTwo t n sign most p 0 5 → m' 4 4 = yTwo t n sign most p 0 6 → qT o m J m' J' → post 0 m' J' P) : Ci X (d + 5) 28 [.ref 4, .ref b, .ref o, .int (iz sign), .int (iz most)] m J P post := by
  have ho := hE.1
  have hA := yA_I (most := most) hT hn hm.1
  have h3 := hA.1.2.2.2.1
  refine Ci.of rfl rfl rfl (b_Reader_readTwo_0 b o sign most kb ko m J P hp post (c_clear hp ko ⟨hp, ?_⟩))
  have q1 : qT o m J (mu (mu (mu (mu (mu m o 5 0) o 6 0) o 7 0) o 8 0) o 9 (-1)) J := qT_trans (qT_o ho) (qT_trans (qT_o ho) (qT_trans (qT_o ho) (qT_trans (qT_o ho) (qT_o ho))))
  have r1 : ∀ k, mu (mu (mu (mu (mu m o 5 0) o 6 0) o 7 0) o 8 0) o 9 (-1) 4 k = m 4 k := fun k => by rw [mu_ne _ _ (by omega), mu_ne _ _ (by omega), mu_ne _ _ (by omega), mu_ne _ _ (by omega), mu_ne _ _ (by omega)]
  have hC1 : cC t n (y0 p 0 0) (mu (mu (mu (mu (mu m o 5 0) o 6 0) o 7 0) o 8 0) o 9 (-1)) J := by
    have : y0 p 0 0 = p := by simp [y0, mu]
    rw [this]
    exact cC_fr hC (fun k => by rw [mu_ne _ _ (by omega), mu_ne _ _ (by omega), mu_ne _ _ (by omega), mu_ne _ _ (by omega), mu_ne _ _ (by omega)]) (fun k => by rw [mu_ne _ _ (by omega), mu_ne _ _ (by omega), mu_ne _ _ (by omega), mu_ne _ _ (by omega), mu_ne _ _ (by omega)]) (fun _ => rfl)
  have hY1 : EY o Sn sc (y0 p) (mu (mu (mu (mu (mu m o 5 0) o 6 0) o 7 0) o 8 0) o 9 (-1)) J := by
    simp only [EY, y0, mu]
    simp
    exact ⟨fun c hc => by omega, fun v hv => by omega⟩
  refine c_readSide (Y := y0 p) (fr := 0) hp kb ko hE hT hm.2 (by decide) (by simp [y0, mu]) (by simp [y0, mu]) (by simp [y0, mu]) (by simp [y0, mu]) (y0_I hn hm.1) hC1 hY1 (BN_T hE hB q1) (fun h m1 J1 a1 a2 a3 a4 => ⟨hp, zr1, fun _ => ?_, fun g => absurd (by decide) g⟩) (fun h m1 J1 a1 a2 a3 => ⟨hp, zr0, fun g => absurd rfl g, fun _ => ?_⟩)
  · have hA5 : yA t n most p 0 5 = 0 := h
    have a2' : EY o Sn sc (yA t n most p) m1 J1 := a2
    have a1' : cC t n (yA t n most p 0 0) m1 J1 := a1
    have hst : m1 2 5 = yA t n most p 0 0 := a1'.1.1
    have eT : yTwo t n sign most p = if tK t n (yA t n most p 0 0) ≠ sign then yBad (yA t n most p) (ft t n (yA t n most p 0 0)) (yA t n most p 0 0) else yrn t n most (yA t n most p 0 3) (n + 1).toNat (y2 (yA t n most p) (nxp t n (yA t n most p 0 0))) := by rw [yTwo, if_neg (fun g => g hA5)]
    rw [hst]
    refine c_closeLeft hp ko ⟨hp, ?_⟩
    rw [a2'.1, a2'.2.2.1]
    have q2 : ∀ x y z : Int, qT o m1 J1 (mu (mu (mu m1 o 5 x) o 8 y) o 9 z) J1 := fun x y z => qT_trans (qT_o ho) (qT_trans (qT_o ho) (qT_o ho))
    have hC2 : ∀ x y z : Int, cC t n (yA t n most p 0 0) (mu (mu (mu m1 o 5 x) o 8 y) o 9 z) J1 := fun x y z => cC_fr a1' (fun k => by rw [mu_ne _ _ (by omega), mu_ne _ _ (by omega), mu_ne _ _ (by omega)]) (fun k => by rw [mu_ne _ _ (by omega), mu_ne _ _ (by omega), mu_ne _ _ (by omega)]) (fun _ => rfl)
    refine c_take hp hT hA.1.1 (hC2 _ _ _) hs (fun g m2 J2 c1 c2 => ⟨hp, zr1, fun h => absurd h (by decide), fun _ => ?_⟩) (fun g => ⟨hp, zr0, fun _ => ?_, fun h => absurd rfl h⟩)
    · rw [if_neg (fun h => h g)] at eT
      have hBI := yB_I (most := most) hT hn hm.1 hA5
      have e0 : y2 (yA t n most p) (nxp t n (yA t n most p 0 0)) 0 0 = nxp t n (yA t n most p 0 0) := by simp [y2, mu]
      have f1 : ∀ a k, a ≠ 2 → m2 a k = mu (mu (mu m1 o 5 (yA t n most p 0 3)) o 8 (yA t n most p 0 4)) o 9 (yA t n most p 0 0) a k := fun a k h => c2.1 a k (fun e => h e.1)
      have hY2 : EY o Sn sc (y2 (yA t n most p) (nxp t n (yA t n most p 0 0))) m2 J2 := by
        obtain ⟨s1, s2, s3, s4⟩ := a2'
        have hh : EY o Sn sc (yA t n most p) m2 J2 := by
          refine ⟨?_, fun c hc => ?_, ?_, fun v hv => ?_⟩
          · rw [f1 _ _ (by omega), mu_ne _ _ (by omega), mu_ne _ _ (by omega), mu_ne _ _ (by omega)]; exact s1
          · rw [f1 _ _ (by omega), f1 _ _ (by omega), f1 _ _ (by omega), mu_ne _ _ (by omega), mu_ne _ _ (by omega), mu_ne _ _ (by omega), mu_ne _ _ (by omega), mu_ne _ _ (by omega), mu_ne _ _ (by omega), mu_ne _ _ (by omega), mu_ne _ _ (by omega), mu_ne _ _ (by omega)]; exact s2 c hc
          · rw [f1 _ _ (by omega), mu_ne _ _ (by omega), mu_ne _ _ (by omega), mu_ne _ _ (by omega)]; exact s3
          · rw [c2.2 _ _ (fun e => by omega)]; exact s4 v hv
        simp only [EY, y2, mu]
        simp
        exact hh
      have q3 : qT o m J m2 J2 := qT_trans q1 (qT_trans (qT_q a3) (qT_trans (q2 _ _ _) (qT_q (qF_adv ho c2))))
      refine c_readSide (Y := y2 (yA t n most p) (nxp t n (yA t n most p 0 0))) (fr := yA t n most p 0 3) hp kb ko hE hT hm.2 (by omega) (by simp [y2, mu]; exact hA5) (by simp [y2, mu]) ?_ (by simp [y2, mu]) hBI (by rw [e0]; exact c1) hY2 (BN_T hE hB q3) (fun h m3 J3 b1 b2 b3 b4 => ⟨hp, zr1, fun h => absurd h (by decide), fun _ => ?_⟩) (fun h m3 J3 b1 b2 b3 => ⟨hp, zr0, fun _ => ?_, fun h => absurd rfl h⟩)
      · simp [y2, mu]
        have := hA.1.2.2.1
        exact hA.2.elim (fun e => absurd hA5 e) (fun e => by omega)
      · rw [← eT] at h b1 b2
        have s7 : yTwo t n sign most p 0 7 = yA t n most p 0 3 := by rw [eT, yrn_k (by decide)]; simp [y2, mu]
        have s8 : yTwo t n sign most p 0 8 = yA t n most p 0 4 := by rw [eT, yrn_k (by decide)]; simp [y2, mu]
        have s9 : yTwo t n sign most p 0 9 = yA t n most p 0 0 := by rw [eT, yrn_k (by decide)]; simp [y2, mu]
        refine k1 h m3 J3 b1 ⟨b2, ?_, ?_, ?_⟩ (qT_trans q3 (qT_q b3)) (fun k => ?_)
        · rw [s7, b3.2.2.2 _ (by decide) (by decide), f1 _ _ (by omega), mu_ne _ _ (by omega), mu_ne _ _ (by omega), mu_at]
        · rw [s8, b3.2.2.2 _ (by decide) (by decide), f1 _ _ (by omega), mu_ne _ _ (by omega), mu_at]
        · rw [s9, b3.2.2.2 _ (by decide) (by decide), f1 _ _ (by omega), mu_at]
        · rw [b4, f1 _ _ (by decide), mu_ne _ _ (by omega), mu_ne _ _ (by omega), mu_ne _ _ (by omega), a4, r1]
      · rw [← eT] at h b1 b2
        exact k2 h m3 J3 b1 b2 (qT_trans q3 (qT_q b3))
    · rw [if_pos g] at eT
      have s5 : yTwo t n sign most p 0 5 = ft t n (yA t n most p 0 0) := by rw [eT]; simp [yBad, mu]
      have s6 : yTwo t n sign most p 0 6 = yA t n most p 0 0 := by rw [eT]; simp [yBad, mu]
      have hft := ft_bd t n (yA t n most p 0 0)
      refine k2 (by omega) _ _ (by rw [mu_ne _ _ (by decide), mu_at, s5]) (by rw [mu_at, s6]) (qT_trans q1 (qT_trans (qT_q a3) (qT_trans (q2 _ _ _) (qT_q (qF_ref ho)))))
  · have hA5 : yA t n most p 0 5 ≠ 0 := h
    have eT : yTwo t n sign most p = yA t n most p := by rw [yTwo, if_pos hA5]
    have a1' : m1 4 3 = yA t n most p 0 5 := a1
    have a2' : m1 4 4 = yA t n most p 0 6 := a2
    rw [← eT] at hA5 a1' a2'
    exact k2 hA5 m1 J1 a1' a2' (qT_trans q1 (qT_q a3))
/-- the reference wants a sign -/
theorem r_wantsK {K : Int} (hp : PP P) (hT : Tx t n) (hK : 4 ≤ K ∧ K ≤ 9) (hn : 0 ≤ p ∧ p ≤ n) (hC : rC t n p m J) (h10 : m 262 10 = 0) {post : Mi → Mj → Mp → Prop} (k1 : tK t n p = K → ∀ m' J', rC t n (nxp t n p) m' J' → rF m J m' J' → post m' J' P) (k2 : tK t n p ≠ K → post (mu (mu m 262 10 (ft t n p)) 262 11 p) J P) : Cv X (d + 3) 145 [.ref 262, .int (iz (k2n K))] m J P post := by
  have z10 : Zr (m 262 10) := by rw [h10]; exact zr0
  refine Cv.of rfl rfl rfl (b_Mdl_wants_0 (k2n K) m J P hp post ⟨z10, fun _ => r_isK hp hT hC hK ?_, fun g => absurd (by omega) g⟩)
  by_cases g : tK t n p = K
  · rw [if_pos g]
    exact ⟨hp, zr1, fun h => absurd h (by decide), fun _ => r_nxt hp hT hn hC fun m' J' a1 a2 => ⟨hp, k1 g m' J' a1 a2⟩⟩
  · rw [if_neg g]
    refine ⟨hp, zr0, fun _ => r_wrongT hp hT hC z10 ⟨hp, ?_⟩, fun h => absurd rfl h⟩
    rw [rf_0 h10]
    exact k2 g
theorem r_wants1 {x : Int} (hp : PP P) (h10 : 0 < m 262 10) (hz : m 262 10 ≤ 9) {post : Mi → Mj → Mp → Prop} (k : post m J P) : Cv X (d + 3) 145 [.ref 262, .int (iz x)] m J P post :=
  Cv.of rfl rfl rfl (b_Mdl_wants_0 x m J P hp post ⟨by constructor <;> omega, fun g => absurd g (by omega), fun _ => k⟩)
theorem RY_0 (h1 : m 262 16 = base) (h2 : m 262 17 = 0) : RY base (y0 p) m J := by
  simp only [RY, y0, mu]
  simp
  exact ⟨h1, fun c hc => by omega, h2, fun v hv => by omega⟩
theorem RY_2 {Z : Mi} {q : Int} (h : RY base Z m J) : RY base (y2 Z q) m J := by
  simp only [RY, y2, mu]
  simp
  exact h
end TWO
