/-! the reference reads one TERM: the loop -/
section RTL
variable {X : aX} {d : Nat} {P : Mp} {base : Nat} {t : Int → Int} {n most fr : Int} {m : Mi} {J : Mj} {Y : Mi}
theorem Ia_1 {K : Nat} {v w p p' x : Int} (h : RY base Y m J) (h0 : 0 ≤ Y 0 3) (hK : K = base + (Y 0 3).toNat) (hp' : p' = p) (hx : x = base + Y 0 3 + 1) (hJ : J 262 7 = rN w.toNat) : Ia base Y Y v w p m J (mu (mu (mu (mu m 271 K 0) 270 K p') 269 K v) 262 16 x) (mju J 265 K (J 262 7)) := by
  rw [hK, hp', hx, hJ]
  refine ⟨RY_add h h0 rfl (fun _ _ _ _ => rfl) (mu_at _ _ _ _) ⟨?_, ?_, ?_, mju_at _ _ _ _⟩ (fun j hj => ⟨?_, ?_, ?_, mju_ne _ _ (by omega)⟩) ?_ (fun v hv => ?_), ⟨fun a k g g2 g3 => ?_, fun a k g g2 g3 => ?_⟩, fun k hk => ?_, fun k => ?_, fun k => ?_, fun k => ?_⟩
  · rw [mu_ne _ _ (by omega), mu_at]
  · rw [mu_ne _ _ (by omega), mu_ne _ _ (by omega), mu_at]
  · rw [mu_ne _ _ (by omega), mu_ne _ _ (by omega), mu_ne _ _ (by omega), mu_at]
  · rw [mu_ne _ _ (by omega), mu_ne _ _ (by omega), mu_ne _ _ (by omega), mu_ne _ _ (by omega)]
  · rw [mu_ne _ _ (by omega), mu_ne _ _ (by omega), mu_ne _ _ (by omega), mu_ne _ _ (by omega)]
  · rw [mu_ne _ _ (by omega), mu_ne _ _ (by omega), mu_ne _ _ (by omega), mu_ne _ _ (by omega)]
  · rw [mu_ne _ _ (by omega), mu_ne _ _ (by omega), mu_ne _ _ (by omega), mu_ne _ _ (by omega)]
    exact h.2.2.1
  · rw [mju_ne _ _ (by omega)]
    exact h.2.2.2 v hv
  · rw [mu_ne _ _ (by omega), mu_ne _ _ (by omega), mu_ne _ _ (by omega), mu_ne _ _ (by omega)]
  · rw [mju_ne _ _ (by omega)]
  · rw [mu_ne _ _ (by omega), mu_ne _ _ (by omega), mu_ne _ _ (by omega), mu_ne _ _ (by omega)]
  · rw [mu_ne _ _ (by omega), mu_ne _ _ (by omega), mu_ne _ _ (by omega), mu_ne _ _ (by omega)]
  · rw [mju_ne _ _ (by omega)]
  · rw [mu_ne _ _ (by omega), mu_ne _ _ (by omega), mu_ne _ _ (by omega), mu_ne _ _ (by omega)]
theorem Ia_2 {K w : Nat} {v p p' x y : Int} (h : RY base Y m J) (h0 : 0 ≤ Y 0 3) (h4 : 0 ≤ Y 0 4) (hK : K = base + (Y 0 3).toNat) (hp' : p' = p) (hx : x = base + Y 0 3 + 1) (hy : y = Y 0 4 + 1) (hJ : J 262 7 = rN w) : Ia base Y (yVn Y w) v w p m J (mu (mu (mu (mu (mu m 271 K 0) 270 K p') 262 17 y) 269 K v) 262 16 x) (mju (mju J 265 K (J 262 7)) 266 (Y 0 4).toNat (rN w)) := by
  rw [hK, hp', hx, hJ, hy]
  have y4 : yVn Y w 0 4 = Y 0 4 + 1 := by simp [yVn, mu]
  refine ⟨RY_add h h0 (by simp [yVn, mu]) (fun r c q1 q2 => ?_) (mu_at _ _ _ _) ⟨?_, ?_, ?_, ?_⟩ (fun j hj => ⟨?_, ?_, ?_, ?_⟩) ?_ (fun v hv => ?_), ⟨fun a k g g2 g3 => ?_, fun a k g g2 g3 => ?_⟩, fun k hk => ?_, fun k => ?_, fun k => ?_, fun k => ?_⟩
  · unfold yVn
    rw [mu_ne _ _ (by omega), mu_ne _ _ (by omega)]
  · rw [mu_ne _ _ (by omega), mu_at]
  · rw [mu_ne _ _ (by omega), mu_ne _ _ (by omega), mu_ne _ _ (by omega), mu_at]
  · rw [mu_ne _ _ (by omega), mu_ne _ _ (by omega), mu_ne _ _ (by omega), mu_ne _ _ (by omega), mu_at]
  · rw [mju_ne _ _ (by omega), mju_at]; rfl
  · rw [mu_ne _ _ (by omega), mu_ne _ _ (by omega), mu_ne _ _ (by omega), mu_ne _ _ (by omega), mu_ne _ _ (by omega)]
  · rw [mu_ne _ _ (by omega), mu_ne _ _ (by omega), mu_ne _ _ (by omega), mu_ne _ _ (by omega), mu_ne _ _ (by omega)]
  · rw [mu_ne _ _ (by omega), mu_ne _ _ (by omega), mu_ne _ _ (by omega), mu_ne _ _ (by omega), mu_ne _ _ (by omega)]
  · rw [mju_ne _ _ (by omega), mju_ne _ _ (by omega)]
  · rw [mu_ne _ _ (by omega), mu_ne _ _ (by omega), mu_at, y4]
  · rw [y4] at hv
    by_cases e : v = (Y 0 4).toNat
    · have e7 : yVn Y w 7 v = w := by simp [yVn, mu, e]
      rw [e7, e, mju_at]; rfl
    · have e7 : yVn Y w 7 v = Y 7 v := by simp [yVn, mu, e]
      rw [e7, mju_ne _ _ (by omega), mju_ne _ _ (by omega)]
      exact h.2.2.2 v (by omega)
  · rw [mu_ne _ _ (by omega), mu_ne _ _ (by omega), mu_ne _ _ (by omega), mu_ne _ _ (by omega), mu_ne _ _ (by omega)]
  · rw [mju_ne _ _ (by omega), mju_ne _ _ (by omega)]
  · rw [mu_ne _ _ (by omega), mu_ne _ _ (by omega), mu_ne _ _ (by omega), mu_ne _ _ (by omega), mu_ne _ _ (by omega)]
  · rw [mu_ne _ _ (by omega), mu_ne _ _ (by omega), mu_ne _ _ (by omega), mu_ne _ _ (by omega), mu_ne _ _ (by omega)]
  · rw [mju_ne _ _ (by omega), mju_ne _ _ (by omega)]
  · rw [mu_ne _ _ (by omega), mu_ne _ _ (by omega), mu_ne _ _ (by omega), mu_ne _ _ (by omega), mu_ne _ _ (by omega)]
theorem r_term (hp : PP P) (hT : Tx t n) (hf : 0 ≤ fr ∧ fr ≤ 40) (hm : most ≤ 8) (hb : (base : Int) + fr + 41 ≤ 2000) {post : Mi → Mj → Mp → Prop} : ∀ (f : Nat) (Y m : Mi) (J : Mj) (x3 : Int), (n - Y 0 0).toNat < f → Y 0 5 = 0 → x3 = Y 0 2 → yI n most fr Y → rC t n (Y 0 0) m J → RY base Y m J → (∀ i : Nat, (i : Int) < Y 0 2 → m 278 i = base + Y 6 i) → m 262 10 = 0 → (yrn t n most fr f Y 0 5 = 0 → ∀ m' J', rC t n (yrn t n most fr f Y 0 0) m' J' → RY base (yrn t n most fr f Y) m' J' → tF base m J m' J' → m' 262 10 = 0 → post m' J' P) → (yrn t n most fr f Y 0 5 ≠ 0 → ∀ m' J', m' 262 10 = yrn t n most fr f Y 0 5 → m' 262 11 = yrn t n most fr f Y 0 6 → (0 ≤ m' 262 17 ∧ m' 262 17 ≤ 8) → tF base m J m' J' → post m' J' P) → (Y 0 1 = 1 → Rn X (d + 3) 147 10 [some (.ref 262), some (.int (iz most)), some (.int (iz (base + fr))), some (.int (iz x3)), some (.int (iz 1)), none, none, none] [] (SS m J P) (QV post)) ∧ (Y 0 1 = 0 → ∀ x5 x6 : Int, Rn X (d + 3) 147 203 [some (.ref 262), some (.int (iz most)), some (.int (iz (base + fr))), some (.int (iz x3)), some (.int (iz 1)), some (.int (iz x5)), some (.int (iz x6)), some (.int (iz 1))] [] (SS m J P) (QV post)) := by
  intro f
  induction f with
  | zero => intro Y m J x3 h; exact absurd h (Nat.not_lt_zero _)
  | succ f ih =>
    intro Y m J x3 hF h0 e3 hI hC hY hO h10 k1 k2
    have hS := yst_I (most := most) (fr := fr) hT hf.1 hI
    have hI' := hI
    obtain ⟨i1, i2, i3, i4, i5, i6, i7, i8, i9⟩ := hI'
    have hn := hT.2.2.2
    have hkb := tK_bd t n (Y 0 0)
    have hft := ft_bd t n (Y 0 0)
    have hsb := tS_bd (p := Y 0 0) hT
    have hsa := tS_all (p := Y 0 0) hT
    have es : m 262 3 = tS t n (Y 0 0) := hC.1.2.2.1
    have ea : m 262 4 = Y 0 0 := hC.1.1
    have e16 : m 262 16 = base + Y 0 3 := hY.1
    have e17 : m 262 17 = Y 0 4 := hY.2.2.1
    have hz : Zr (m 262 3) := by rw [es]; constructor <;> omega
    have z10 : Zr (m 262 10) := by rw [h10]; exact zr0
    have z3 : Zr x3 := by constructor <;> omega
    have bad : ∀ k, 0 < k → yst t n most fr Y = yBad Y k (Y 0 0) → ∀ m' J', m' 262 10 = k → m' 262 11 = Y 0 0 → (0 ≤ m' 262 17 ∧ m' 262 17 ≤ 8) → tF base m J m' J' → post m' J' P := fun k hk e => by
      have e2 : yrn t n most fr (f + 1) Y = yBad Y k (Y 0 0) := by rw [yrn, e, yrn_bad (by omega)]
      rw [e2] at k2
      have b1 : yBad Y k (Y 0 0) 0 5 = k := by simp [yBad, mu]
      have b2 : yBad Y k (Y 0 0) 0 6 = Y 0 0 := by simp [yBad, mu]
      rw [b1, b2] at k2
      exact k2 (by omega)
    have badw : yst t n most fr Y = yBad Y (ft t n (Y 0 0)) (Y 0 0) → post (rf m (ft t n (Y 0 0)) (Y 0 0)) J P := fun e => by
      rw [rf_0 h10]
      refine bad _ (by omega) e _ _ (by rw [mu_ne _ _ (by decide), mu_at]) (mu_at _ _ _ _) (by rw [mu_ne _ _ (by decide), mu_ne _ _ (by decide), e17]; omega) ?_
      have := tF_rf (base := base) (m := m) (J := J) (x := ft t n (Y 0 0)) (y := Y 0 0)
      rw [rf_0 h10] at this
      exact this
    have go : ∀ (Y1 m1 : Mi) (J1 : Mj) (x3 : Int), yst t n most fr Y = Y1 → ¬ yE Y → Y1 0 5 = 0 → x3 = Y1 0 2 → rC t n (Y1 0 0) m1 J1 → RY base Y1 m1 J1 → (∀ i : Nat, (i : Int) < Y1 0 2 → m1 278 i = base + Y1 6 i) → tF base m J m1 J1 → m1 262 10 = 0 → (Y1 0 1 = 1 → Rn X (d + 3) 147 10 [some (.ref 262), some (.int (iz most)), some (.int (iz (base + fr))), some (.int (iz x3)), some (.int (iz 1)), none, none, none] [] (SS m1 J1 P) (QV post)) ∧ (Y1 0 1 = 0 → ∀ x5 x6 : Int, Rn X (d + 3) 147 203 [some (.ref 262), some (.int (iz most)), some (.int (iz (base + fr))), some (.int (iz x3)), some (.int (iz 1)), some (.int (iz x5)), some (.int (iz x6)), some (.int (iz 1))] [] (SS m1 J1 P) (QV post)) := fun Y1 m1 J1 x3 e hnE h05 g5 gC gY gO gq g10 => by
      rw [e] at hS
      have hlt : Y 0 0 < Y1 0 0 := (hS.2.resolve_left hnE).resolve_left (fun h => h h05)
      have e2 : yrn t n most fr (f + 1) Y = yrn t n most fr f Y1 := by rw [yrn, e]
      rw [e2] at k1 k2
      have := hS.1.1
      exact ih Y1 m1 J1 x3 (by omega) h05 g5 hS.1 gC gY gO g10 (fun h m' J' a1 a2 a3 a4 => k1 h m' J' a1 a2 (tF_trans gq a3) a4) (fun h m' J' a1 a2 a3 a4 => k2 h m' J' a1 a2 a3 (tF_trans gq a4))
    have hK : (m 262 16).toNat = base + (Y 0 3).toNat := by rw [e16]; omega
    refine ⟨fun g2 => ?_, fun g2 x5 x6 => ?_⟩
    · have hnE : ¬ yE Y := fun h => h.elim (fun h => h h0) (fun h => by omega)
      have st0 : yst t n most fr Y = yHd t n most fr Y := by rw [yst, if_neg (fun h => h h0), if_pos (by omega)]
      have finB : ∀ (m2 : Mi) (J2 : Mj) (x5 : Int), m2 262 10 = 3 → post m2 J2 P → Rn X (d + 3) 147 133 [some (.ref 262), some (.int (iz most)), some (.int (iz (base + fr))), some (.int (iz x3)), some (.int (iz 1)), some (.int (iz x5)), none, none] [] (SS m2 J2 P) (QV post) := fun m2 J2 x5 q1 q2 => b_Mdl_readTerm_133 most _ x3 1 x5 m2 J2 P hp post ⟨by rw [q1]; constructor <;> decide, fun g => absurd g (by omega), fun _ => q2⟩
      -- an item is in; what follows it
      have fin : ∀ (Y0 : Mi) (v : Int) (m2 : Mi) (J2 : Mj) (x5 : Int), x5 = base + Y 0 3 → (tK t n (Y 0 0) = 1 → Y0 = Y ∧ v = -1) → Y0 0 5 = 0 → Y0 0 2 = Y 0 2 → (∀ i, Y0 6 i = Y 6 i) → (tK t n (Y 0 0) ≠ 1 → yHd t n most fr Y = yN Y0 v (yw t n Y) (Y 0 0) (nxp t n (Y 0 0))) → Y 0 3 - fr < 40 → Ia base Y Y0 v (yw t n Y) (Y 0 0) m J m2 J2 → Rn X (d + 3) 147 133 [some (.ref 262), some (.int (iz most)), some (.int (iz (base + fr))), some (.int (iz x3)), some (.int (iz 1)), some (.int (iz x5)), none, none] [] (SS m2 J2 P) (QV post) := fun Y0 v m2 J2 x5 hx5 y1 y5 y2 y6 yh hlt hA => by
        obtain ⟨a1, a2, a3, a4, a5, a6⟩ := hA
        have q10 : m2 262 10 = 0 := (a3 _ (by decide)).trans h10
        have q3 : m2 262 3 = tS t n (Y 0 0) := (a3 _ (by decide)).trans es
        have qC : rC t n (Y 0 0) m2 J2 := rC_fr hC (fun k hk => a3 k (by omega)) a4 a5
        have plain : yHd t n most fr Y = yN Y0 v (yw t n Y) (Y 0 0) (nxp t n (Y 0 0)) → ∀ (m3 : Mi) (J3 : Mj) (x6 : Int), rC t n (nxp t n (Y 0 0)) m3 J3 → rF m2 J2 m3 J3 → Rn X (d + 3) 147 203 [some (.ref 262), some (.int (iz most)), some (.int (iz (base + fr))), some (.int (iz x3)), some (.int (iz 1)), some (.int (iz x5)), some (.int (iz x6)), some (.int (iz 1))] [] (SS m3 J3 P) (QV post) := fun e m3 J3 x6 b1 b2 => by
          refine (go _ m3 J3 x3 (st0.trans e) hnE ?_ ?_ ?_ ?_ ?_ (tF_trans a2 (tF_nxt b2)) ((b2.1 _ _ (by decide)).trans q10)).2 ?_ x5 x6
          · simp [yN, yAdd, mu]; exact y5
          · simp [yN, yAdd, mu]; rw [y2]; exact e3
          · have : yN Y0 v (yw t n Y) (Y 0 0) (nxp t n (Y 0 0)) 0 0 = nxp t n (Y 0 0) := by simp [yN, yAdd, mu]
            rw [this]; exact b1
          · have r := RY_nxt a1 b2
            simp only [RY, yN, yAdd, mu] at r ⊢
            simp at r ⊢
            exact r
          · intro i hi
            have r2 : yN Y0 v (yw t n Y) (Y 0 0) (nxp t n (Y 0 0)) 0 2 = Y0 0 2 := by simp [yN, yAdd, mu]
            have r6 : yN Y0 v (yw t n Y) (Y 0 0) (nxp t n (Y 0 0)) 6 i = Y0 6 i := by simp [yN, yAdd, mu]
            rw [r2, y2] at hi
            rw [r6, y6, b2.1 _ _ (fun e => by cases e.1), a6]
            exact hO i hi
          · simp [yN, yAdd, mu]
        refine b_Mdl_readTerm_133 most _ x3 1 x5 m2 J2 P hp post ⟨by rw [q10]; exact zr0, fun _ => ⟨by rw [q3]; constructor <;> omega, fun g => ?_, fun g => ?_⟩, fun g => absurd (by omega) g⟩
        · rw [q3, hsa.2.1] at g
          exact r_nxt hp hT i1 qC fun m3 J3 b1 b2 => ⟨hp, plain (yh g) m3 J3 0 b1 b2⟩
        · rw [q3, hsa.2.1] at g
          have g := Classical.not_not.mp g
          obtain ⟨rfl, rfl⟩ := y1 g
          have yh' : yHd t n most fr Y0 = if tK t n (nxp t n (Y0 0 0)) = 4 then yO Y0 (yw t n Y0) (Y0 0 0) (nxp t n (nxp t n (Y0 0 0))) else yN Y0 (-1) (yw t n Y0) (Y0 0 0) (nxp t n (Y0 0 0)) := by rw [yHd, if_neg (fun h => h (Or.inl g)), if_neg (by omega), if_pos g]
          have pl := nxp_le hT i1.2
          refine r_nxt hp hT i1 qC fun m3 J3 b1 b2 => ⟨hp, r_isK (K := 4) hp hT b1 (by decide) ?_⟩
          by_cases g4 : tK t n (nxp t n (Y0 0 0)) = 4
          · rw [if_pos g4]
            refine ⟨hp, zr1, fun h => absurd h (by decide), fun _ => ⟨by omega, by omega, ?_⟩⟩
            refine r_nxt hp hT ⟨by omega, pl.2⟩ (rC_fr b1 (fun k hk => ?_) (fun k => ?_) (fun _ => rfl)) fun m4 J4 c1 c2 => ⟨hp, ?_⟩
            · rw [mu_ne _ _ (by omega), mu_ne _ _ (by omega)]
            · rw [mu_ne _ _ (by omega), mu_ne _ _ (by omega)]
            have r2 : yO Y0 (yw t n Y0) (Y0 0 0) (nxp t n (nxp t n (Y0 0 0))) 0 2 = Y0 0 2 + 1 := by simp [yO, yAdd, mu]
            have ex5 : x5.toNat = base + (Y0 0 3).toNat := by omega
            refine (go _ m4 J4 (x3 + 1) (st0.trans (by rw [yh', if_pos g4])) hnE ?_ ?_ ?_ ?_ ?_ ?_ ?_).1 ?_
            · simp [yO, yAdd, mu]; exact y5
            · rw [r2]; omega
            · have : yO Y0 (yw t n Y0) (Y0 0 0) (nxp t n (nxp t n (Y0 0 0))) 0 0 = nxp t n (nxp t n (Y0 0 0)) := by simp [yO, yAdd, mu]
              rw [this]; exact c1
            · obtain ⟨r1, r2, r3, r4⟩ := RY_nxt a1 b2
              have f1 := c2.1
              have f2 := c2.2
              have s3 : yAdd Y0 (-1) (yw t n Y0) (Y0 0 0) 0 3 = Y0 0 3 + 1 := by simp [yAdd, mu]
              have s4 : yAdd Y0 (-1) (yw t n Y0) (Y0 0 0) 0 4 = Y0 0 4 := by simp [yAdd, mu]
              have o3 : yO Y0 (yw t n Y0) (Y0 0 0) (nxp t n (nxp t n (Y0 0 0))) 0 3 = Y0 0 3 + 1 := by simp [yO, yAdd, mu]
              have o4 : yO Y0 (yw t n Y0) (Y0 0 0) (nxp t n (nxp t n (Y0 0 0))) 0 4 = Y0 0 4 := by simp [yO, yAdd, mu]
              rw [s3] at r1 r2
              rw [s4] at r3 r4
              refine ⟨?_, fun c hc => ?_, ?_, fun v hv => ?_⟩
              · rw [o3, f1 _ _ (by decide), mu_ne _ _ (by omega), mu_ne _ _ (by omega)]; exact r1
              · rw [o3] at hc
                have q := r2 c hc
                have u1 : yO Y0 (yw t n Y0) (Y0 0 0) (nxp t n (nxp t n (Y0 0 0))) 1 c = yAdd Y0 (-1) (yw t n Y0) (Y0 0 0) 1 c := by simp [yO, mu]
                have u2 : yO Y0 (yw t n Y0) (Y0 0 0) (nxp t n (nxp t n (Y0 0 0))) 2 c = yAdd Y0 (-1) (yw t n Y0) (Y0 0 0) 2 c := by simp [yO, mu]
                have u3 : yO Y0 (yw t n Y0) (Y0 0 0) (nxp t n (nxp t n (Y0 0 0))) 3 c = yAdd Y0 (-1) (yw t n Y0) (Y0 0 0) 3 c := by simp [yO, mu]
                rw [u1, u2, u3, f1 _ _ (fun e => by cases e.1), f1 _ _ (fun e => by cases e.1), f1 _ _ (fun e => by cases e.1), f2 _ _ (fun e => by cases e.1), mu_ne _ _ (by omega), mu_ne _ _ (by omega), mu_ne _ _ (by omega), mu_ne _ _ (by omega)]
                refine ⟨q.1, q.2.1, ?_, q.2.2.2⟩
                by_cases e : c = (Y0 0 3).toNat
                · have u4 : yO Y0 (yw t n Y0) (Y0 0 0) (nxp t n (nxp t n (Y0 0 0))) 4 c = 1 := by simp [yO, mu, e]
                  rw [u4, ex5, e, mu_at]
                · have u4 : yO Y0 (yw t n Y0) (Y0 0 0) (nxp t n (nxp t n (Y0 0 0))) 4 c = yAdd Y0 (-1) (yw t n Y0) (Y0 0 0) 4 c := by simp [yO, mu, e]
                  rw [u4, mu_ne _ _ (by omega), mu_ne _ _ (by omega)]
                  exact q.2.2.1
              · rw [o4, f1 _ _ (by decide), mu_ne _ _ (by omega), mu_ne _ _ (by omega)]; exact r3
              · rw [o4] at hv
                have u7 : yO Y0 (yw t n Y0) (Y0 0 0) (nxp t n (nxp t n (Y0 0 0))) 7 v = yAdd Y0 (-1) (yw t n Y0) (Y0 0 0) 7 v := by simp [yO, mu]
                rw [u7, f2 _ _ (fun e => by cases e.1)]
                exact r4 v hv
            · intro i hi
              rw [r2] at hi
              rw [c2.1 _ _ (fun e => by cases e.1), mu_ne _ _ (by omega)]
              by_cases e : i = x3.toNat
              · have r6 : yO Y0 (yw t n Y0) (Y0 0 0) (nxp t n (nxp t n (Y0 0 0))) 6 i = Y0 0 3 := by simp [yO, yAdd, mu, e, e3]
                rw [r6, e, mu_at]; exact hx5
              · have e' : ¬ i = (Y0 0 2).toNat := by omega
                have r6 : yO Y0 (yw t n Y0) (Y0 0 0) (nxp t n (nxp t n (Y0 0 0))) 6 i = Y0 6 i := by simp [yO, yAdd, mu, e']
                rw [r6, mu_ne _ _ (by omega), b2.1 _ _ (fun e => by cases e.1), a6]
                exact hO i (by omega)
            · refine tF_trans (tF_trans a2 (tF_nxt b2)) (tF_trans ⟨fun a k q1 q2 q3 => ?_, fun _ _ _ _ _ => rfl⟩ (tF_nxt c2))
              rw [mu_ne _ _ (by omega), mu_ne _ _ (by omega)]
            · rw [c2.1 _ _ (by decide), mu_ne _ _ (by omega), mu_ne _ _ (by omega), b2.1 _ _ (by decide)]
              exact q10
            · simp [yO, yAdd, mu]; exact g2
          · rw [if_neg g4]
            exact ⟨hp, zr0, fun _ => plain (by rw [yh', if_neg g4]) m3 J3 1 b1 b2, fun h => absurd rfl h⟩
      refine b_Mdl_readTerm_10 most _ x3 1 m J P hp post ⟨zr1, fun g => absurd g (by decide), fun _ => ⟨z10, fun g => absurd h10 g, fun _ => ⟨hz, fun g3 => ?_, fun g3 => ⟨hz, fun g1 => ?_, fun g1 => ?_⟩⟩⟩⟩
      · rw [es, hsa.2.2.1] at g3
        have hw := tN_is hT (Or.inr g3)
        have hname : J 262 7 = rN (tN t n (Y 0 0)) := hC.2.2.2.2.1 (Or.inr (by rw [es]; exact hsa.2.2.1.mpr g3))
        have g1 : ¬ tK t n (Y 0 0) = 1 := by omega
        have yh3 : (40 ≤ Y 0 3 - fr ∨ (vfi Y (yw t n Y) 0 (Y 0 4).toNat < 0 ∧ most ≤ Y 0 4)) → yst t n most fr Y = yBad Y 3 (Y 0 0) := fun h => by
          rw [st0, yHd, if_neg (fun h => h (Or.inr g3))]
          by_cases q : 40 ≤ Y 0 3 - fr
          · rw [if_pos q]
          · obtain ⟨r2, r3⟩ := h.resolve_left q
            rw [if_neg q, if_neg g1, if_neg (by omega), if_pos r3]
        have r4 : mu (mu m 271 (m 262 16).toNat 0) 270 (m 262 16).toNat (mu m 271 (m 262 16).toNat 0 262 4) 262 4 = Y 0 0 := by rw [mu_ne _ _ (by omega), mu_ne _ _ (by omega)]; exact ea
        have r40 : mu m 271 (m 262 16).toNat 0 262 4 = Y 0 0 := by rw [mu_ne _ _ (by omega)]; exact ea
        refine ⟨by omega, by omega, by omega, by rw [mu_ne _ _ (by omega), mu_ne _ _ (by omega)]; exact hz, fun g => absurd (by rw [mu_ne _ _ (by omega), mu_ne _ _ (by omega), es]; exact hsa.2.2.1.mpr g3) g, fun _ => ?_⟩
        refine r_variableOf (Y := Y) (w := tN t n (Y 0 0)) (p := Y 0 0) hp (by rw [mu_ne _ _ (by omega), mu_ne _ _ (by omega)]; exact e17) (fun v hv => by rw [mju_ne _ _ (by omega)]; exact hY.2.2.2 v hv) i7 (by omega) hw.1 (by rw [mju_ne _ _ (by omega)]; exact hname) r4 (by rw [mu_ne _ _ (by omega), mu_ne _ _ (by omega)]; exact h10) (fun h => ?_) (fun h h2 => ?_) (fun h h2 => ?_)
        · have hA := Ia_1 (v := vfi Y (tN t n (Y 0 0) : Nat) 0 (Y 0 4).toNat) (w := yw t n Y) (p := Y 0 0) (p' := mu m 271 (m 262 16).toNat 0 262 4) (x := mu (mu (mu m 271 (m 262 16).toNat 0) 270 (m 262 16).toNat (mu m 271 (m 262 16).toNat 0 262 4)) 269 (m 262 16).toNat (vfi Y (tN t n (Y 0 0) : Nat) 0 (Y 0 4).toNat) 262 16 + 1) hY (by omega) hK r40 (by rw [mu_ne _ _ (by omega), mu_ne _ _ (by omega), mu_ne _ _ (by omega), e16]) hname
          have f16 := hA.1.1
          have s3 : yAdd Y (vfi Y (tN t n (Y 0 0) : Nat) 0 (Y 0 4).toNat) (yw t n Y) (Y 0 0) 0 3 = Y 0 3 + 1 := by simp [yAdd, mu]
          rw [s3] at f16
          refine ⟨hp, by omega, ?_, fun g => ?_, fun g => ?_⟩
          · rw [f16]; constructor <;> omega
          · rw [f16] at g
            refine fin Y _ _ _ _ e16 (fun q => absurd q g1) h0 rfl (fun _ => rfl) (fun _ => ?_) (by omega) hA
            show yHd t n most fr Y = yN Y (vfi Y (yw t n Y) 0 (Y 0 4).toNat) (yw t n Y) (Y 0 0) (nxp t n (Y 0 0))
            have h' : 0 ≤ vfi Y (yw t n Y) 0 (Y 0 4).toNat := h
            rw [yHd, if_neg (fun h => h (Or.inr g3)), if_neg (by omega), if_neg g1, if_pos h']
          · rw [f16] at g
            have f10 := (hA.2.2.1 10 (by decide)).trans h10
            have f4 := (hA.2.2.1 4 (by decide)).trans ea
            refine r_fail hp (by rw [f10]; exact zr0) ⟨hp, finB _ _ _ ?_ ?_⟩
            · rw [rf_0 f10, mu_ne _ _ (by decide), mu_at]
            · have f17 := hA.1.2.2.1
              have s4 : yAdd Y (vfi Y (tN t n (Y 0 0) : Nat) 0 (Y 0 4).toNat) (yw t n Y) (Y 0 0) 0 4 = Y 0 4 := by simp [yAdd, mu]
              rw [s4] at f17
              refine bad 3 (by decide) (yh3 (Or.inl (by omega))) _ _ ?_ ?_ ?_ (tF_trans hA.2.1 tF_rf)
              · rw [rf_0 f10, mu_ne _ _ (by decide), mu_at]
              · rw [rf_0 f10, mu_at]; exact f4
              · rw [rf_0 f10, mu_ne _ _ (by decide), mu_ne _ _ (by decide), f17]; omega
        · have q10 : mu (mu (mu (mu (mu (mu m 271 (m 262 16).toNat 0) 270 (m 262 16).toNat (mu m 271 (m 262 16).toNat 0 262 4)) 262 10 3) 262 11 (Y 0 0)) 269 (m 262 16).toNat 0) 262 16 (mu (mu (mu (mu (mu m 271 (m 262 16).toNat 0) 270 (m 262 16).toNat (mu m 271 (m 262 16).toNat 0 262 4)) 262 10 3) 262 11 (Y 0 0)) 269 (m 262 16).toNat 0 262 16 + 1) 262 10 = 3 := by
            rw [mu_ne _ _ (by decide), mu_ne _ _ (by omega), mu_ne _ _ (by decide), mu_at]
          have qp : post (mu (mu (mu (mu (mu (mu m 271 (m 262 16).toNat 0) 270 (m 262 16).toNat (mu m 271 (m 262 16).toNat 0 262 4)) 262 10 3) 262 11 (Y 0 0)) 269 (m 262 16).toNat 0) 262 16 (mu (mu (mu (mu (mu m 271 (m 262 16).toNat 0) 270 (m 262 16).toNat (mu m 271 (m 262 16).toNat 0 262 4)) 262 10 3) 262 11 (Y 0 0)) 269 (m 262 16).toNat 0 262 16 + 1)) (mju J 265 (m 262 16).toNat (J 262 7)) P := by
            refine bad 3 (by decide) (yh3 (Or.inr ⟨h, h2⟩)) _ _ q10 ?_ ?_ ⟨fun a k q1 q2 q3 => ?_, fun a k q1 q2 q3 => mju_ne _ _ (by omega)⟩
            · rw [mu_ne _ _ (by decide), mu_ne _ _ (by omega), mu_at]
            · rw [mu_ne _ _ (by decide), mu_ne _ _ (by omega), mu_ne _ _ (by decide), mu_ne _ _ (by decide), mu_ne _ _ (by omega), mu_ne _ _ (by omega), e17]; omega
            · rw [mu_ne _ _ (by omega), mu_ne _ _ (by omega), mu_ne _ _ (by omega), mu_ne _ _ (by omega), mu_ne _ _ (by omega), mu_ne _ _ (by omega)]
          refine ⟨hp, by omega, ?_, fun g => finB _ _ _ q10 qp, fun g => r_fail hp (by rw [q10]; constructor <;> decide) ⟨hp, ?_⟩⟩
          · rw [mu_at, mu_ne _ _ (by omega), mu_ne _ _ (by decide), mu_ne _ _ (by decide), mu_ne _ _ (by omega), mu_ne _ _ (by omega), e16]; constructor <;> omega
          · rw [rf_1 (by rw [q10]; decide)]
            exact finB _ _ _ q10 qp
        · have hA := Ia_2 (w := tN t n (Y 0 0)) (v := Y 0 4) (p := Y 0 0) (p' := mu m 271 (m 262 16).toNat 0 262 4) (y := Y 0 4 + 1) (x := mu (mu (mu (mu m 271 (m 262 16).toNat 0) 270 (m 262 16).toNat (mu m 271 (m 262 16).toNat 0 262 4)) 262 17 (Y 0 4 + 1)) 269 (m 262 16).toNat (Y 0 4) 262 16 + 1) hY (by omega) i5.1 hK r40 (by rw [mu_ne _ _ (by omega), mu_ne _ _ (by decide), mu_ne _ _ (by omega), mu_ne _ _ (by omega), e16]) rfl hname
          have f16 := hA.1.1
          have s3 : yAdd (yVn Y (tN t n (Y 0 0) : Nat)) (Y 0 4) (tN t n (Y 0 0) : Nat) (Y 0 0) 0 3 = Y 0 3 + 1 := by simp [yAdd, yVn, mu]
          rw [s3] at f16
          refine ⟨hp, by omega, ?_, fun g => ?_, fun g => ?_⟩
          · rw [f16]; constructor <;> omega
          · rw [f16] at g
            refine fin (yVn Y (tN t n (Y 0 0) : Nat)) _ _ _ _ e16 (fun q => absurd q g1) (by simp [yVn, mu]; exact h0) (by simp [yVn, mu]) (fun i => by simp [yVn, mu]) (fun _ => ?_) (by omega) hA
            show yHd t n most fr Y = yN (yVn Y (yw t n Y)) (Y 0 4) (yw t n Y) (Y 0 0) (nxp t n (Y 0 0))
            have h' : vfi Y (yw t n Y) 0 (Y 0 4).toNat < 0 := h
            rw [yHd, if_neg (fun h => h (Or.inr g3)), if_neg (by omega), if_neg g1, if_neg (by omega), if_neg (by omega)]
          · rw [f16] at g
            have f10 := (hA.2.2.1 10 (by decide)).trans h10
            have f4 := (hA.2.2.1 4 (by decide)).trans ea
            refine r_fail hp (by rw [f10]; exact zr0) ⟨hp, finB _ _ _ ?_ ?_⟩
            · rw [rf_0 f10, mu_ne _ _ (by decide), mu_at]
            · have f17 := hA.1.2.2.1
              have s4 : yAdd (yVn Y (tN t n (Y 0 0) : Nat)) (Y 0 4) (tN t n (Y 0 0) : Nat) (Y 0 0) 0 4 = Y 0 4 + 1 := by simp [yAdd, yVn, mu]
              rw [s4] at f17
              refine bad 3 (by decide) (yh3 (Or.inl (by omega))) _ _ ?_ ?_ ?_ (tF_trans hA.2.1 tF_rf)
              · rw [rf_0 f10, mu_ne _ _ (by decide), mu_at]
              · rw [rf_0 f10, mu_at]; exact f4
              · rw [rf_0 f10, mu_ne _ _ (by decide), mu_ne _ _ (by decide), f17]; omega
      · rw [es, hsa.2.1] at g1
        have hw := tN_is hT (Or.inl g1)
        have hname : J 262 7 = rN (tN t n (Y 0 0)) := hC.2.2.2.2.1 (Or.inl (by rw [es]; exact hsa.2.1.mpr g1))
        have r40 : mu m 271 (m 262 16).toNat 0 262 4 = Y 0 0 := by rw [mu_ne _ _ (by omega)]; exact ea
        refine ⟨by omega, by omega, by omega, by rw [mu_ne _ _ (by omega), mu_ne _ _ (by omega)]; exact hz, fun _ => ?_, fun g => absurd (by rw [mu_ne _ _ (by omega), mu_ne _ _ (by omega)]; exact g3) g⟩
        have hA := Ia_1 (v := -1) (w := yw t n Y) (p := Y 0 0) (p' := mu m 271 (m 262 16).toNat 0 262 4) (x := mu (mu (mu m 271 (m 262 16).toNat 0) 270 (m 262 16).toNat (mu m 271 (m 262 16).toNat 0 262 4)) 269 (m 262 16).toNat (-1) 262 16 + 1) hY (by omega) hK r40 (by rw [mu_ne _ _ (by omega), mu_ne _ _ (by omega), mu_ne _ _ (by omega), e16]) hname
        have f16 := hA.1.1
        have s3 : yAdd Y (-1) (yw t n Y) (Y 0 0) 0 3 = Y 0 3 + 1 := by simp [yAdd, mu]
        rw [s3] at f16
        refine ⟨by omega, ?_, fun g => ?_, fun g => ?_⟩
        · rw [f16]; constructor <;> omega
        · rw [f16] at g
          exact fin Y (-1) _ _ _ e16 (fun _ => ⟨rfl, rfl⟩) h0 rfl (fun _ => rfl) (fun q => absurd g1 q) (by omega) hA
        · rw [f16] at g
          have f10 := (hA.2.2.1 10 (by decide)).trans h10
          have f4 := (hA.2.2.1 4 (by decide)).trans ea
          refine r_fail hp (by rw [f10]; exact zr0) ⟨hp, finB _ _ _ ?_ ?_⟩
          · rw [rf_0 f10, mu_ne _ _ (by decide), mu_at]
          · have f17 := hA.1.2.2.1
            have s4 : yAdd Y (-1) (yw t n Y) (Y 0 0) 0 4 = Y 0 4 := by simp [yAdd, mu]
            rw [s4] at f17
            refine bad 3 (by decide) (by rw [st0, yHd, if_neg (fun h => h (Or.inl g1)), if_pos (by omega)]) _ _ ?_ ?_ ?_ (tF_trans hA.2.1 tF_rf)
            · rw [rf_0 f10, mu_ne _ _ (by decide), mu_at]
            · rw [rf_0 f10, mu_at]; exact f4
            · rw [rf_0 f10, mu_ne _ _ (by decide), mu_ne _ _ (by decide), f17]; omega
      · rw [es, hsa.2.2.1] at g3
        rw [es, hsa.2.1] at g1
        refine r_wrongT hp hT hC z10 ⟨hp, badw ?_⟩
        rw [st0, yHd, if_pos (by omega)]
    · have stop : ¬ (0 < Y 0 2 ∧ tK t n (Y 0 0) = 5) → Rn X (d + 3) 147 203 [some (.ref 262), some (.int (iz most)), some (.int (iz (base + fr))), some (.int (iz x3)), some (.int (iz 1)), some (.int (iz x5)), some (.int (iz x6)), some (.int (iz 0))] [] (SS m J P) (QV post) := fun h => by
        refine b_Mdl_readTerm_203 most _ x3 1 x5 x6 0 m J P hp post ⟨zr0, fun _ => ⟨z3, fun g => ?_, fun g => ?_⟩, fun g => absurd rfl g⟩
        · have hnE : ¬ yE Y := fun h => h.elim (fun h => h h0) (fun h => by omega)
          have g5 : ¬ tK t n (Y 0 0) = 5 := fun e => h ⟨by omega, e⟩
          refine r_isK (K := 6) hp hT hC (by decide) ?_
          by_cases g6 : tK t n (Y 0 0) = 6
          · rw [if_pos g6]
            have hto := hO (x3 - 1).toNat (by omega)
            have hti := i6 (x3 - 1).toNat (by omega)
            have ex : yTop Y = Y 6 (x3 - 1).toNat := by unfold yTop; rw [e3]
            have et : (m 278 (x3 - 1).toNat).toNat = base + (yTop Y).toNat := by rw [hto, ex]; omega
            have es1 : yst t n most fr Y = yC Y (nxp t n (Y 0 0)) := by rw [yst, if_neg (fun h => h h0), if_neg (fun h => h g2), if_neg (by omega), if_pos g6]
            have y0 : yC Y (nxp t n (Y 0 0)) 0 0 = nxp t n (Y 0 0) := by simp [yC, mu]
            have y2 : yC Y (nxp t n (Y 0 0)) 0 2 = Y 0 2 := by simp [yC, mu]
            have y3 : yC Y (nxp t n (Y 0 0)) 0 3 = Y 0 3 := by simp [yC, mu]
            have y4 : yC Y (nxp t n (Y 0 0)) 0 4 = Y 0 4 := by simp [yC, mu]
            refine ⟨hp, zr1, fun g => absurd g (by decide), fun _ => ⟨by omega, by omega, by omega, ?_⟩⟩
            refine r_nxt hp hT i1 (rC_fr hC (fun k _ => mu_ne _ _ (by omega)) (fun k => mu_ne _ _ (by omega)) (fun _ => rfl)) fun m3 J3 c1 c2 => ⟨hp, ?_⟩
            refine (go _ m3 J3 x3 es1 hnE ?_ ?_ ?_ ?_ ?_ ?_ ?_).1 ?_
            · simp [yC, mu]; exact h0
            · rw [y2]; exact e3
            · rw [y0]; exact c1
            · obtain ⟨r1, r2, r3, r4⟩ := hY
              refine ⟨?_, fun c hc => ?_, ?_, fun v hv => ?_⟩
              · rw [y3, c2.1 _ _ (by decide), mu_ne _ _ (by omega)]; exact r1
              · rw [y3] at hc
                have q := r2 c hc
                have u1 : yC Y (nxp t n (Y 0 0)) 1 c = Y 1 c := by simp [yC, mu]
                have u2 : yC Y (nxp t n (Y 0 0)) 2 c = Y 2 c := by simp [yC, mu]
                have u3 : yC Y (nxp t n (Y 0 0)) 3 c = Y 3 c := by simp [yC, mu]
                rw [u1, u2, u3, c2.1 _ _ (fun e => by cases e.1), c2.1 _ _ (fun e => by cases e.1), c2.1 _ _ (fun e => by cases e.1), c2.2 _ _ (fun e => by cases e.1), mu_ne _ _ (by omega), mu_ne _ _ (by omega), et]
                refine ⟨q.1, q.2.1, ?_, q.2.2.2⟩
                by_cases e : c = (yTop Y).toNat
                · have u4 : yC Y (nxp t n (Y 0 0)) 4 c = Y 4 c + 1 := by simp [yC, mu, e]
                  rw [u4, e, mu_at, ← e, q.2.2.1]
                · have u4 : yC Y (nxp t n (Y 0 0)) 4 c = Y 4 c := by simp [yC, mu, e]
                  rw [u4, mu_ne _ _ (by omega)]
                  exact q.2.2.1
              · rw [y4, c2.1 _ _ (by decide), mu_ne _ _ (by omega)]; exact r3
              · rw [y4] at hv
                have u7 : yC Y (nxp t n (Y 0 0)) 7 v = Y 7 v := by simp [yC, mu]
                rw [u7, c2.2 _ _ (fun e => by cases e.1)]
                exact r4 v hv
            · intro i hi
              rw [y2] at hi
              have u6 : yC Y (nxp t n (Y 0 0)) 6 i = Y 6 i := by simp [yC, mu]
              rw [u6, c2.1 _ _ (fun e => by cases e.1), mu_ne _ _ (by omega)]
              exact hO i hi
            · refine tF_trans ⟨fun a k q1 q2 q3 => ?_, fun _ _ _ _ _ => rfl⟩ (tF_nxt c2)
              rw [mu_ne _ _ (by omega)]
            · rw [c2.1 _ _ (by decide), mu_ne _ _ (by omega)]; exact h10
            · simp [yC, mu]
          · rw [if_neg g6]
            refine ⟨hp, zr0, fun _ => r_wrongT hp hT hC z10 ⟨hp, ?_⟩, fun g => absurd rfl g⟩
            have q := badw (by rw [yst, if_neg (fun h => h h0), if_neg (fun h => h g2), if_neg (by omega), if_neg g6, if_neg g5])
            rw [rf_0 h10] at q ⊢
            have q10 : mu (mu m 262 10 (ft t n (Y 0 0))) 262 11 (Y 0 0) 262 10 = ft t n (Y 0 0) := by rw [mu_ne _ _ (by decide), mu_at]
            exact b_Mdl_readTerm_10 most _ x3 1 _ J P hp post ⟨zr1, fun g => absurd g (by decide), fun _ => ⟨by rw [q10]; constructor <;> omega, fun _ => q, fun g => absurd (by rw [q10]; omega) g⟩⟩
        · have hE : yE Y := Or.inr ⟨g2, by omega⟩
          have e2 : yrn t n most fr (f + 1) Y = Y := yrn_fix (yst_E hE) _
          rw [e2] at k1
          exact b_Mdl_readTerm_10 most _ x3 0 m J P hp post ⟨zr0, fun _ => k1 h0 m J hC hY tF_refl h10, fun g => absurd rfl g⟩
      refine b_Mdl_readTerm_203 most _ x3 1 x5 x6 1 m J P hp post ⟨zr1, fun g => absurd g (by decide), fun _ => ⟨z3, fun g => stop (fun h => by omega), fun g => r_isK (K := 5) hp hT hC (by decide) ?_⟩⟩
      by_cases g5 : tK t n (Y 0 0) = 5
      · rw [if_pos g5]
        have hnE : ¬ yE Y := fun h => h.elim (fun h => h h0) (fun h => by omega)
        have es1 : yst t n most fr Y = yS Y (nxp t n (Y 0 0)) := by rw [yst, if_neg (fun h => h h0), if_neg (fun h => h g2), if_neg (by omega), if_neg (by omega), if_pos g5]
        have y0 : yS Y (nxp t n (Y 0 0)) 0 0 = nxp t n (Y 0 0) := by simp [yS, mu]
        have y2 : yS Y (nxp t n (Y 0 0)) 0 2 = Y 0 2 - 1 := by simp [yS, mu]
        refine ⟨hp, zr1, fun g => absurd g (by decide), fun _ => r_nxt hp hT i1 hC fun m3 J3 c1 c2 => ⟨hp, ?_⟩⟩
        refine (go _ m3 J3 (x3 + (-1)) es1 hnE ?_ ?_ ?_ ?_ ?_ (tF_nxt c2) ((c2.1 _ _ (by decide)).trans h10)).2 ?_ x5 x6
        · simp [yS, mu]; exact h0
        · rw [y2]; omega
        · rw [y0]; exact c1
        · have r := RY_nxt hY c2
          simp only [RY, yS, mu] at r ⊢
          simp at r ⊢
          exact r
        · intro i hi
          rw [y2] at hi
          have u6 : yS Y (nxp t n (Y 0 0)) 6 i = Y 6 i := by simp [yS, mu]
          rw [u6, c2.1 _ _ (fun e => by cases e.1)]
          exact hO i (by omega)
        · simp [yS, mu]; exact g2
      · rw [if_neg g5]
        exact ⟨hp, zr0, fun _ => stop (fun h => g5 h.2), fun g => absurd rfl g⟩
/-- readTerm() -/
theorem r_readTerm {Y m : Mi} {J : Mj} (hp : PP P) (hT : Tx t n) (hf : 0 ≤ fr ∧ fr ≤ 40) (hm : most ≤ 8) (hb : (base : Int) + fr + 41 ≤ 2000) (h0 : Y 0 5 = 0) (h1 : Y 0 1 = 1) (h2 : Y 0 2 = 0) (h3 : Y 0 3 = fr) (hI : yI n most fr Y) (hC : rC t n (Y 0 0) m J) (hY : RY base Y m J) (h10 : m 262 10 = 0) {post : Mi → Mj → Mp → Prop} (k1 : yrn t n most fr (n + 1).toNat Y 0 5 = 0 → ∀ m' J', rC t n (yrn t n most fr (n + 1).toNat Y 0 0) m' J' → RY base (yrn t n most fr (n + 1).toNat Y) m' J' → tF base m J m' J' → m' 262 10 = 0 → post m' J' P) (k2 : yrn t n most fr (n + 1).toNat Y 0 5 ≠ 0 → ∀ m' J', m' 262 10 = yrn t n most fr (n + 1).toNat Y 0 5 → m' 262 11 = yrn t n most fr (n + 1).toNat Y 0 6 → (0 ≤ m' 262 17 ∧ m' 262 17 ≤ 8) → tF base m J m' J' → post m' J' P) : Cv X (d + 3) 147 [.ref 262, .int (iz most)] m J P post := by
  have hn := hT.2.2.2
  have e16 : m 262 16 = base + fr := by rw [← h3]; exact hY.1
  refine Cv.of rfl rfl rfl (b_Mdl_readTerm_0 most m J P hp post ?_)
  rw [e16]
  exact (r_term hp hT hf hm hb (n + 1).toNat Y m J 0 (by have := hI.1; omega) h0 h2.symm hI hC hY (fun i hi => absurd hi (by omega)) h10 k1 k2).1 h1
end RTL
