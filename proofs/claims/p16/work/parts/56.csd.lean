/-! the class reads one side -/
section CSD
variable {X : aX} {d : Nat} {P : Mp} {b o sc : Nat} {Sn : Nat → Nat} {t : Int → Int} {n most fr : Int}
/-- what reading a side may change -/
def qF (o : Nat) (m : Mi) (J : Mj) (m' : Mi) (J' : Mj) : Prop := (∀ a k, a ≠ 2 → a ≠ 4 → a ≠ 7 → (a < o ∨ o + 3 < a) → m' a k = m a k) ∧ m' 2 1 = m 2 1 ∧ (∀ a k, a ≠ 2 → a ≠ o + 5 → J' a k = J a k) ∧ (∀ k, k ≠ 6 → k ≠ 7 → m' o k = m o k)
theorem qF_refl {o : Nat} {m : Mi} {J : Mj} : qF o m J m J := ⟨fun _ _ _ _ _ _ => rfl, rfl, fun _ _ _ _ => rfl, fun _ _ _ => rfl⟩
theorem qF_trans {o : Nat} {m m' m'' : Mi} {J J' J'' : Mj} (h1 : qF o m J m' J') (h2 : qF o m' J' m'' J'') : qF o m J m'' J'' :=
  ⟨fun a k g g2 g3 g4 => (h2.1 a k g g2 g3 g4).trans (h1.1 a k g g2 g3 g4), h2.2.1.trans h1.2.1, fun a k g g2 => (h2.2.2.1 a k g g2).trans (h1.2.2.1 a k g g2), fun k g g2 => (h2.2.2.2 k g g2).trans (h1.2.2.2 k g g2)⟩
theorem qF_h {o : Nat} {m m' : Mi} {J J' : Mj} (h : hF o m J m' J') : qF o m J m' J' := ⟨fun a k g _ _ g4 => h.1 a k g g4, h.2⟩
theorem qF_adv {o : Nat} {m m' : Mi} {J J' : Mj} (ho : 39 ≤ o) (h : cF m J m' J') : qF o m J m' J' := qF_h (hF_adv ho h)
theorem qF_ref {o : Nat} {m : Mi} {J : Mj} {x y : Int} (ho : 39 ≤ o) : qF o m J (mu (mu m 4 3 x) 4 4 y) J :=
  ⟨fun a k _ g _ _ => by rw [mu_ne _ _ (by omega), mu_ne _ _ (by omega)], by rw [mu_ne _ _ (by omega), mu_ne _ _ (by omega)], fun _ _ _ _ => rfl, fun k _ _ => by rw [mu_ne _ _ (by omega), mu_ne _ _ (by omega)]⟩
theorem BN_fr {m m' : Mi} {J J' : Mj} (h : BN b Sn sc m J) (f1 : ∀ k, m' b k = m b k) (f2 : ∀ k, J' (b + 1) k = J (b + 1) k) : BN b Sn sc m' J' := by
  obtain ⟨⟨h1, h2⟩, h3⟩ := h
  exact ⟨⟨by rw [f1]; exact h1, h2⟩, fun i hi => by rw [f2]; exact h3 i hi⟩
theorem BN_q {m m' : Mi} {J J' : Mj} (hE : EB o b) (h : BN b Sn sc m J) (hq : qF o m J m' J') : BN b Sn sc m' J' := by
  have := hE
  unfold EB at this
  exact BN_fr h (fun k => hq.1 _ _ (by omega) (by omega) (by omega) (by omega)) (fun k => hq.2.2.1 _ _ (by omega) (by omega))
theorem yBad_E {Y : Mi} {k p : Int} (hk : k ≠ 0) : yE (yBad Y k p) := Or.inl (by
  have : yBad Y k p 0 5 = k := by simp [yBad, mu]
  rw [this]; exact hk)
theorem yrn_bad {Y : Mi} {k p : Int} (hk : k ≠ 0) (f : Nat) : yrn t n most fr f (yBad Y k p) = yBad Y k p := yrn_fix (yst_E (yBad_E hk)) f
/-- the class reads from any turn on -/
theorem c_readSide_15 (hp : PP P) (kb : am_kd an_K b = some (.inl 10)) (ko : am_kd an_K o = some (.inl 8)) (hE : EB o b) (hT : Tx t n) (hf : 0 ≤ fr ∧ fr ≤ 40) (hm : most ≤ 8) {post : Int → Mi → Mj → Mp → Prop} : ∀ (f : Nat) (Y m : Mi) (J : Mj) (x5 x6 x7 : Int), (n - Y 0 0).toNat < f → Y 0 5 = 0 → x5 = Y 0 2 → x6 = Y 0 1 → 0 ≤ x7 ∧ x7 ≤ Y 0 0 → yI n most fr Y → cC t n (Y 0 0) m J → EY o Sn sc Y m J → (∀ i : Nat, (i : Int) < Y 0 2 → m 7 i = Y 6 i) → BN b Sn sc m J → (yrn t n most fr f Y 0 5 = 0 → ∀ m' J', cC t n (yrn t n most fr f Y 0 0) m' J' → EY o Sn sc (yrn t n most fr f Y) m' J' → qF o m J m' J' → (∀ k, m' 4 k = m 4 k) → post 1 m' J' P) → (yrn t n most fr f Y 0 5 ≠ 0 → ∀ m' J', m' 4 3 = yrn t n most fr f Y 0 5 → m' 4 4 = yrn t n most fr f Y 0 6 → qF o m J m' J' → post 0 m' J' P) → Rn X (d + 4) 30 15 [some (.ref 4), some (.ref b), some (.ref o), some (.int (iz most)), some (.int (iz fr)), some (.int (iz x5)), some (.int (iz x6)), some (.int (iz x7)), none, none] [] (SS m J P) (QI post) := by
  intro f
  induction f with
  | zero => intro Y m J x5 x6 x7 h; exact absurd h (Nat.not_lt_zero _)
  | succ f ih =>
    intro Y m J x5 x6 x7 hlt0 h0 e5 e6 h7 hI hC hY hO hB k1 k2
    have hS := yst_I (most := most) (fr := fr) hT hf.1 hI
    have hI' := hI
    obtain ⟨i1, i2, i3, i4, i5, i6, i7, i8, i9⟩ := hI'
    have hn := hT.2.2.2
    have hkb := tK_bd t n (Y 0 0)
    have hft := ft_bd t n (Y 0 0)
    have e4 : m 2 4 = tK t n (Y 0 0) := hC.1.2.2.1
    have es : m o 6 = Y 0 3 := hY.1
    have hE' := hE
    unfold EB at hE'
    have hz : Zr (m 2 4) := by rw [e4]; constructor <;> omega
    have z6 : Zr x6 := by constructor <;> omega
    have z5 : Zr x5 := by constructor <;> omega
    have r0 : mu (mu m 4 3 (0 : Int)) 4 4 0 = mu (mu m 4 3 (0 : Int)) 4 4 0 := rfl
    have bad : ∀ k, k ≠ 0 → yst t n most fr Y = yBad Y k (Y 0 0) → post 0 (mu (mu m 4 3 k) 4 4 (Y 0 0)) J P := fun k hk e => by
      have e2 : yrn t n most fr (f + 1) Y = yBad Y k (Y 0 0) := by rw [yrn, e, yrn_bad hk]
      rw [e2] at k2
      have b1 : yBad Y k (Y 0 0) 0 5 = k := by simp [yBad, mu]
      have b2 : yBad Y k (Y 0 0) 0 6 = Y 0 0 := by simp [yBad, mu]
      rw [b1, b2] at k2
      exact k2 hk _ _ (by rw [mu_ne _ _ (by decide), mu_at]) (mu_at _ _ _ _) (qF_ref hE.1)
    have go : ∀ (Y1 m1 : Mi) (J1 : Mj) (x5 x6 : Int), yst t n most fr Y = Y1 → ¬ yE Y → Y1 0 5 = 0 → x5 = Y1 0 2 → x6 = Y1 0 1 → cC t n (Y1 0 0) m1 J1 → EY o Sn sc Y1 m1 J1 → (∀ i : Nat, (i : Int) < Y1 0 2 → m1 7 i = Y1 6 i) → qF o m J m1 J1 → (∀ k, m1 4 k = m 4 k) → Rn X (d + 4) 30 15 [some (.ref 4), some (.ref b), some (.ref o), some (.int (iz most)), some (.int (iz fr)), some (.int (iz x5)), some (.int (iz x6)), some (.int (iz (x7 + 1))), none, none] [] (SS m1 J1 P) (QI post) := fun Y1 m1 J1 x5 x6 e hnE h05 g5 g6 gC gY gO gq g4 => by
      rw [e] at hS
      have hlt : Y 0 0 < Y1 0 0 := (hS.2.resolve_left hnE).resolve_left (fun h => h h05)
      have e2 : yrn t n most fr (f + 1) Y = yrn t n most fr f Y1 := by rw [yrn, e]
      rw [e2] at k1 k2
      have := hS.1.1
      exact ih Y1 m1 J1 x5 x6 (x7 + 1) (by omega) h05 g5 g6 (by omega) hS.1 gC gY gO (BN_q hE hB gq) (fun h m' J' a1 a2 a3 a4 => k1 h m' J' a1 a2 (qF_trans gq a3) (fun k => (a4 k).trans (g4 k))) (fun h m' J' a1 a2 a3 => k2 h m' J' a1 a2 (qF_trans gq a3))
    by_cases g2 : Y 0 1 = 0
    · by_cases g3 : Y 0 2 ≤ 0
      · have e2 : yrn t n most fr (f + 1) Y = Y := yrn_fix (yst_E (Or.inr ⟨g2, g3⟩)) _
        rw [e2] at k1
        exact b_Reader_readSide_15 b o most fr x5 x6 x7 kb ko m J P hp post ⟨by constructor <;> omega, fun g => absurd g (by omega), fun _ => ⟨z6, fun g => absurd (by omega) g, fun _ => ⟨z5, fun _ => k1 h0 m J hC hY qF_refl (fun _ => rfl), fun g => absurd (by omega) g⟩⟩⟩
      · have hnE : ¬ yE Y := fun h => h.elim (fun h => h h0) (fun h => g3 h.2)
        have ht := i6 (Y 0 2 - 1).toNat (by omega)
        have hto := hO (Y 0 2 - 1).toNat (by omega)
        have ex : (x5 + (-1)).toNat = (Y 0 2 - 1).toNat := by omega
        refine b_Reader_readSide_15 b o most fr x5 x6 x7 kb ko m J P hp post ⟨by constructor <;> omega, fun g => absurd g (by omega), fun _ => ⟨z6, fun g => absurd (by omega) g, fun _ => ⟨z5, fun g => absurd g (by omega), fun _ => ⟨z6, fun _ => ⟨hz, fun g4 => ?_, fun g4 => ?_⟩, fun g => absurd (by omega) g⟩⟩⟩⟩
        · rw [e4] at g4
          refine c_take (K := 5) hp hT i1 hC (by constructor <;> decide) (fun g5 m1 J1 a1 a2 => ⟨hp, zr1, fun _ => ?_, fun g => absurd (by decide) g⟩) (fun g5 => ⟨hp, zr0, fun g => absurd rfl g, fun _ => ?_⟩)
          · have es1 : yst t n most fr Y = yS Y (nxp t n (Y 0 0)) := by rw [yst, if_neg (fun h => h h0), if_neg (fun h => h g2), if_neg g3, if_neg g4, if_pos g5]
            have f1 : m1 7 (x5 + (-1)).toNat = yTop Y := by rw [ex, a2.1 _ _ (fun e => by cases e.1)]; exact hto
            have fs : m1 o 6 = Y 0 3 := by rw [a2.1 _ _ (fun e => by omega)]; exact es
            have hq0 : qF o m J m1 J1 := qF_adv hE.1 a2
            rw [f1, fs]
            have htY : fr ≤ yTop Y ∧ yTop Y < Y 0 3 := by unfold yTop; exact ht
            refine ⟨by omega, by omega, b_Reader_readSide_187 b o most fr (x5 + (-1)) x6 x7 kb ko _ _ P hp post ?_⟩
            have y0 : yS Y (nxp t n (Y 0 0)) 0 0 = nxp t n (Y 0 0) := by simp [yS, mu]
            have y2 : yS Y (nxp t n (Y 0 0)) 0 2 = Y 0 2 - 1 := by simp [yS, mu]
            refine go (yS Y (nxp t n (Y 0 0))) _ _ _ _ es1 hnE (by simp [yS, mu]; exact h0) (by rw [y2]; omega) (by simp [yS, mu]; exact e6) ?_ ?_ ?_ ?_ ?_
            · rw [y0]
              exact cC_fr a1 (fun k => mu_ne _ _ (by omega)) (fun k => mu_ne _ _ (by omega)) (fun _ => rfl)
            · have hY1 : EY o Sn sc Y m1 J1 := EY_fr hY (fun a k q1 q2 => a2.1 a k (fun e => by omega)) (fun k => a2.2 _ _ (fun e => by omega))
              obtain ⟨q1, q2, q3, q4⟩ := hY1
              simp only [EY, yS, mu]
              simp
              refine ⟨q1, fun c hc => ?_, q3, q4⟩
              by_cases e : c = (yTop Y).toNat
              · have := q2 c hc
                simp only [e, if_true] at this ⊢
                exact ⟨this.1, trivial, this.2.2⟩
              · simp only [e, if_false]
                exact q2 c hc
            · intro i hi
              rw [y2] at hi
              have y6 : yS Y (nxp t n (Y 0 0)) 6 i = Y 6 i := by simp [yS, mu]
              rw [y6, mu_ne _ _ (by omega), a2.1 _ _ (fun e => by cases e.1)]
              exact hO i (by omega)
            · exact qF_trans hq0 ⟨fun a k _ _ _ q => mu_ne _ _ (by omega), mu_ne _ _ (by omega), fun _ _ _ _ => rfl, fun k _ _ => mu_ne _ _ (by omega)⟩
            · intro k
              rw [mu_ne _ _ (by omega)]
              exact a2.1 _ _ (fun e => by cases e.1)
          · refine bad _ (by omega) ?_
            rw [yst, if_neg (fun h => h h0), if_neg (fun h => h g2), if_neg g3, if_neg g4, if_neg g5]
        · rw [e4] at g4
          have g4 := Classical.not_not.mp g4
          refine c_adv hp hT i1 hC fun m1 J1 a1 a2 => ⟨hp, b_Reader_readSide_187 b o most fr x5 1 x7 kb ko _ _ P hp post ?_⟩
          have es1 : yst t n most fr Y = yC Y (nxp t n (Y 0 0)) := by rw [yst, if_neg (fun h => h h0), if_neg (fun h => h g2), if_neg g3, if_pos g4]
          have y0 : yC Y (nxp t n (Y 0 0)) 0 0 = nxp t n (Y 0 0) := by simp [yC, mu]
          have y2 : yC Y (nxp t n (Y 0 0)) 0 2 = Y 0 2 := by simp [yC, mu]
          refine go (yC Y (nxp t n (Y 0 0))) _ _ _ _ es1 hnE (by simp [yC, mu]; exact h0) (by rw [y2]; exact e5) (by simp [yC, mu]) (by rw [y0]; exact a1) ?_ ?_ (qF_adv hE.1 a2) (fun k => a2.1 _ _ (fun e => by cases e.1))
          · have hY1 : EY o Sn sc Y m1 J1 := EY_fr hY (fun a k q1 q2 => a2.1 a k (fun e => by omega)) (fun k => a2.2 _ _ (fun e => by omega))
            simp only [EY, yC, mu]
            simp
            exact hY1
          · intro i hi
            rw [y2] at hi
            have y6 : yC Y (nxp t n (Y 0 0)) 6 i = Y 6 i := by simp [yC, mu]
            rw [y6, a2.1 _ _ (fun e => by cases e.1)]
            exact hO i hi
    · have hnE : ¬ yE Y := fun h => h.elim (fun h => h h0) (fun h => g2 h.1)
      have st0 : yst t n most fr Y = yHd t n most fr Y := by rw [yst, if_neg (fun h => h h0), if_pos g2]
      have bad1 : ¬ (tK t n (Y 0 0) = 1 ∨ tK t n (Y 0 0) = 2) → post 0 (mu (mu m 4 3 (ft t n (Y 0 0))) 4 4 (Y 0 0)) J P := fun g => bad _ (by omega) (by rw [st0, yHd, if_pos g])
      have bad2 : (tK t n (Y 0 0) = 1 ∨ tK t n (Y 0 0) = 2) → (40 ≤ Y 0 3 - fr ∨ (tK t n (Y 0 0) ≠ 1 ∧ vfi Y (yw t n Y) 0 (Y 0 4).toNat < 0 ∧ most ≤ Y 0 4)) → post 0 (mu (mu m 4 3 3) 4 4 (Y 0 0)) J P := fun g h => bad 3 (by decide) (by
        rw [st0, yHd, if_neg (fun h => h g)]
        by_cases q : 40 ≤ Y 0 3 - fr
        · rw [if_pos q]
        · rw [if_neg q]
          obtain ⟨r1, r2, r3⟩ := h.resolve_left q
          rw [if_neg r1, if_neg (by omega), if_pos r3])
      -- an item that is none that opens
      have plain : ∀ (Y0 : Mi) (v : Int) (m1 : Mi) (J1 : Mj) (x8 x9 : Int), yHd t n most fr Y = yN Y0 v (yw t n Y) (Y 0 0) (nxp t n (Y 0 0)) → Y0 0 5 = 0 → Y0 0 2 = Y 0 2 → (∀ i, Y0 6 i = Y 6 i) → cC t n (nxp t n (Y 0 0)) m1 J1 → EY o Sn sc (yAdd Y0 v (yw t n Y) (Y 0 0)) m1 J1 → hF o m J m1 J1 → Rn X (d + 4) 30 103 [some (.ref 4), some (.ref b), some (.ref o), some (.int (iz most)), some (.int (iz fr)), some (.int (iz x5)), some (.int (iz x6)), some (.int (iz x7)), some (.int (iz x8)), some (.int (iz x9))] [] (SS m1 J1 P) (QI post) := fun Y0 v m1 J1 x8 x9 e y5 y2 y6 a1 a2 a3 => by
        refine b_Reader_readSide_103 b o most fr x5 x6 x7 x8 x9 kb ko _ _ P hp post (b_Reader_readSide_130 b o most fr x5 0 x7 x8 x9 kb ko _ _ P hp post (b_Reader_readSide_187 b o most fr x5 0 x7 kb ko _ _ P hp post ?_))
        refine go _ m1 J1 x5 0 (st0.trans e) hnE ?_ ?_ ?_ ?_ ?_ ?_ (qF_h a3) ?_
        · simp [yN, yAdd, mu]; exact y5
        · simp [yN, yAdd, mu]; rw [y2]; exact e5
        · simp [yN, yAdd, mu]
        · have : yN Y0 v (yw t n Y) (Y 0 0) (nxp t n (Y 0 0)) 0 0 = nxp t n (Y 0 0) := by simp [yN, yAdd, mu]
          rw [this]; exact a1
        · simp only [EY, yN, yAdd, mu] at a2 ⊢
          simp at a2 ⊢
          exact a2
        · intro i hi
          have r2 : yN Y0 v (yw t n Y) (Y 0 0) (nxp t n (Y 0 0)) 0 2 = Y0 0 2 := by simp [yN, yAdd, mu]
          have r6 : yN Y0 v (yw t n Y) (Y 0 0) (nxp t n (Y 0 0)) 6 i = Y0 6 i := by simp [yN, yAdd, mu]
          rw [r2, y2] at hi
          rw [r6, y6, a3.1 _ _ (by decide) (by omega)]
          exact hO i hi
        · intro k
          exact a3.1 _ _ (by decide) (by omega)
      refine b_Reader_readSide_15 b o most fr x5 x6 x7 kb ko m J P hp post ⟨by constructor <;> omega, fun g => absurd g (by omega), fun _ => ⟨z6, fun _ => ⟨z6, fun g => absurd g (by omega), fun _ => ⟨hz, fun g4 => ?_, fun g4 => ?_⟩⟩, fun g => absurd (by omega) g⟩⟩
      · rw [e4] at g4
        refine c_readHead hp kb ko hE hT hB hC hY hI hf hm (fun g => ⟨hp, zr0, fun h => absurd rfl h, fun _ => bad1 g⟩) (fun g h => ⟨hp, zr0, fun h => absurd rfl h, fun _ => bad2 g h⟩) (fun g => absurd g g4) (fun g q r m1 J1 a1 a2 a3 => ⟨hp, zr1, fun _ => ?_, fun h => absurd (by decide) h⟩) (fun g q r s m1 J1 a1 a2 a3 => ⟨hp, zr1, fun _ => ?_, fun h => absurd (by decide) h⟩)
        · refine plain Y _ m1 J1 _ _ ?_ h0 rfl (fun _ => rfl) a1 a2 a3
          rw [yHd, if_neg (fun h => h (Or.inr g)), if_neg (by omega), if_neg g4, if_pos r]
        · refine plain (yVn Y (yw t n Y)) _ m1 J1 _ _ ?_ (by simp [yVn, mu]; exact h0) (by simp [yVn, mu]) (fun i => by simp [yVn, mu]) a1 a2 a3
          rw [yHd, if_neg (fun h => h (Or.inr g)), if_neg (by omega), if_neg g4, if_neg (by omega), if_neg (by omega)]
      · rw [e4] at g4
        have g4 := Classical.not_not.mp g4
        refine c_readHead hp kb ko hE hT hB hC hY hI hf hm (fun g => absurd (Or.inl g4) g) (fun g h => ⟨hp, zr0, fun h => absurd rfl h, fun _ => bad2 g h⟩) (fun g q m1 J1 a1 a2 a3 => ⟨hp, zr1, fun _ => ?_, fun h => absurd (by decide) h⟩) (fun g => absurd g4 (by omega)) (fun g => absurd g4 (by omega))
        have e41 : m1 2 4 = tK t n (nxp t n (Y 0 0)) := a1.1.2.2.1
        have hkb1 := tK_bd t n (nxp t n (Y 0 0))
        have pl := nxp_le hT i1.2
        have yh : yHd t n most fr Y = if tK t n (nxp t n (Y 0 0)) = 4 then yO Y (yw t n Y) (Y 0 0) (nxp t n (nxp t n (Y 0 0))) else yN Y (-1) (yw t n Y) (Y 0 0) (nxp t n (Y 0 0)) := by rw [yHd, if_neg (fun h => h (Or.inl g4)), if_neg (by omega), if_pos g4]
        refine ⟨by rw [e41]; constructor <;> omega, fun g5 => ?_, fun g5 => ⟨z5, fun g6 => absurd g6 (by omega), fun g6 => ⟨by omega, ?_⟩⟩⟩
        · rw [e41] at g5
          exact plain Y _ m1 J1 _ _ (by rw [yh, if_neg g5]) h0 rfl (fun _ => rfl) a1 a2 a3
        · rw [e41] at g5
          have g5 := Classical.not_not.mp g5
          refine c_adv hp hT ⟨by omega, pl.2⟩ (cC_fr a1 (fun k => mu_ne _ _ (by omega)) (fun k => mu_ne _ _ (by omega)) (fun _ => rfl)) fun m2 J2 b1 b2 => ⟨hp, b_Reader_readSide_130 b o most fr (x5 + 1) 1 x7 _ 1 kb ko _ _ P hp post (b_Reader_readSide_187 b o most fr (x5 + 1) 1 x7 kb ko _ _ P hp post ?_)⟩
          have r2 : yO Y (yw t n Y) (Y 0 0) (nxp t n (nxp t n (Y 0 0))) 0 2 = Y 0 2 + 1 := by simp [yO, yAdd, mu]
          refine go _ m2 J2 (x5 + 1) 1 (st0.trans (by rw [yh, if_pos g5])) hnE ?_ ?_ ?_ ?_ ?_ ?_ ?_ ?_
          · simp [yO, yAdd, mu]; exact h0
          · rw [r2]; omega
          · simp [yO, yAdd, mu]; omega
          · have : yO Y (yw t n Y) (Y 0 0) (nxp t n (nxp t n (Y 0 0))) 0 0 = nxp t n (nxp t n (Y 0 0)) := by simp [yO, yAdd, mu]
            rw [this]; exact b1
          · have a2' : EY o Sn sc (yAdd Y (-1) (yw t n Y) (Y 0 0)) m2 J2 := EY_fr a2 (fun a k q1 q2 => by rw [b2.1 a k (fun e => by omega), mu_ne _ _ (by omega)]) (fun k => b2.2 _ _ (fun e => by omega))
            simp only [EY, yO, yAdd, mu] at a2' ⊢
            simp at a2' ⊢
            exact a2'
          · intro i hi
            rw [r2] at hi
            rw [b2.1 _ _ (fun e => by cases e.1)]
            by_cases e : i = x5.toNat
            · have r6 : yO Y (yw t n Y) (Y 0 0) (nxp t n (nxp t n (Y 0 0))) 6 i = Y 0 3 := by simp [yO, yAdd, mu, e, e5]
              rw [r6, e, mu_at]; exact es
            · have e' : ¬ i = (Y 0 2).toNat := by omega
              have r6 : yO Y (yw t n Y) (Y 0 0) (nxp t n (nxp t n (Y 0 0))) 6 i = Y 6 i := by simp [yO, yAdd, mu, e']
              rw [r6, mu_ne _ _ (by omega), a3.1 _ _ (by decide) (by omega)]
              exact hO i (by omega)
          · refine ⟨fun a k q1 q2 q3 q4 => ?_, ?_, fun a k q1 q2 => ?_, fun k q1 q2 => ?_⟩
            · rw [b2.1 a k (fun e => q1 e.1), mu_ne _ _ (by omega)]; exact a3.1 a k q1 q4
            · rw [b2.1 _ _ (by decide), mu_ne _ _ (by omega)]; exact a3.2.1
            · rw [b2.2 a k (fun e => q1 e.1)]; exact a3.2.2.1 a k q1 q2
            · rw [b2.1 _ _ (by omega), mu_ne _ _ (by omega)]; exact a3.2.2.2 k q1 q2
          · intro k
            rw [b2.1 _ _ (fun e => by cases e.1), mu_ne _ _ (by omega)]
            exact a3.1 _ _ (by decide) (by omega)
/-- readSide() -/
theorem c_readSide {Y m : Mi} {J : Mj} (hp : PP P) (kb : am_kd an_K b = some (.inl 10)) (ko : am_kd an_K o = some (.inl 8)) (hE : EB o b) (hT : Tx t n) (hm : most ≤ 8) (hf : 0 ≤ fr ∧ fr ≤ 40) (h0 : Y 0 5 = 0) (h1 : Y 0 1 = 1) (h2 : Y 0 2 = 0) (h3 : Y 0 3 = fr) (hI : yI n most fr Y) (hC : cC t n (Y 0 0) m J) (hY : EY o Sn sc Y m J) (hB : BN b Sn sc m J) {post : Int → Mi → Mj → Mp → Prop} (k1 : yrn t n most fr (n + 1).toNat Y 0 5 = 0 → ∀ m' J', cC t n (yrn t n most fr (n + 1).toNat Y 0 0) m' J' → EY o Sn sc (yrn t n most fr (n + 1).toNat Y) m' J' → qF o m J m' J' → (∀ k, m' 4 k = m 4 k) → post 1 m' J' P) (k2 : yrn t n most fr (n + 1).toNat Y 0 5 ≠ 0 → ∀ m' J', m' 4 3 = yrn t n most fr (n + 1).toNat Y 0 5 → m' 4 4 = yrn t n most fr (n + 1).toNat Y 0 6 → qF o m J m' J' → post 0 m' J' P) : Ci X (d + 4) 30 [.ref 4, .ref b, .ref o, .int (iz most)] m J P post := by
  have hn := hT.2.2.2
  have e3 : m o 6 = fr := hY.1.trans h3
  refine Ci.of rfl rfl rfl (b_Reader_readSide_0 b o most kb ko m J P hp post ?_)
  rw [e3]
  exact c_readSide_15 hp kb ko hE hT hf hm (n + 1).toNat Y m J 0 1 0 (by have := hI.1; omega) h0 h2.symm h1.symm ⟨by decide, hI.1.1⟩ hI hC hY (fun i hi => absurd hi (by omega)) hB k1 k2
end CSD
