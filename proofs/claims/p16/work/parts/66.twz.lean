/-! what two sides that were read without a FAULT are -/
section TWZ
variable {t : Int → Int} {n most fr p sign : Int} {Y : Mi}
/-- each VARIABLE stands somewhere -/
def yV (Y : Mi) : Prop := ∀ v : Nat, (v : Int) < Y 0 4 → ∃ c : Nat, (c : Int) < Y 0 3 ∧ Y 1 c = v
theorem yV_N {Y0 : Mi} {v w p q : Int} (h3 : Y0 0 3 = Y 0 3) (h0 : 0 ≤ Y 0 3) (r : ∀ c, Y0 1 c = Y 1 c) (h : ∀ x : Nat, (x : Int) < Y0 0 4 → (x : Int) = v ∨ ∃ c : Nat, (c : Int) < Y 0 3 ∧ Y 1 c = x) : yV (yN Y0 v w p q) := by
  have e03 : yN Y0 v w p q 0 3 = Y 0 3 + 1 := by simp [yN, yAdd, mu]; exact h3
  have e04 : yN Y0 v w p q 0 4 = Y0 0 4 := by simp [yN, yAdd, mu]
  intro x hx
  rw [e04] at hx
  rw [e03]
  rcases h x hx with e | ⟨c, hc, e⟩
  · refine ⟨(Y 0 3).toNat, by omega, ?_⟩
    have : yN Y0 v w p q 1 (Y 0 3).toNat = v := by simp [yN, yAdd, mu, h3]
    rw [this, e]
  · refine ⟨c, by omega, ?_⟩
    have hc' : ¬ c = (Y 0 3).toNat := by omega
    have : yN Y0 v w p q 1 c = Y0 1 c := by simp [yN, yAdd, mu, h3, hc']
    rw [this, r, e]
theorem yst_V (h : yV Y) (hI : yI n most fr Y) (hf : 0 ≤ fr) : yV (yst t n most fr Y) := by
  obtain ⟨i1, i2, i3, i4, i5, i6, i7, i8, i9⟩ := hI
  have hB : ∀ k p : Int, yV (yBad Y k p) := fun k p => by
    have e : ∀ a b, a ≠ 0 ∨ b < 5 → yBad Y k p a b = Y a b := fun a b h => by unfold yBad; rw [mu_ne _ _ (by omega), mu_ne _ _ (by omega)]
    intro v hv
    rw [e 0 4 (by omega)] at hv
    obtain ⟨c, hc, e2⟩ := h v hv
    exact ⟨c, by rw [e 0 3 (by omega)]; exact hc, by rw [e 1 c (by omega)]; exact e2⟩
  unfold yst
  by_cases g1 : Y 0 5 ≠ 0
  · rw [if_pos g1]; exact h
  rw [if_neg g1]
  by_cases g2 : Y 0 1 ≠ 0
  · rw [if_pos g2]
    unfold yHd
    by_cases g3 : ¬ (tK t n (Y 0 0) = 1 ∨ tK t n (Y 0 0) = 2)
    · rw [if_pos g3]; exact hB _ _
    rw [if_neg g3]
    by_cases g4 : 40 ≤ Y 0 3 - fr
    · rw [if_pos g4]; exact hB _ _
    rw [if_neg g4]
    by_cases g5 : tK t n (Y 0 0) = 1
    · rw [if_pos g5]
      by_cases g6 : tK t n (nxp t n (Y 0 0)) = 4
      · rw [if_pos g6]
        intro v hv
        have e4 : yO Y (yw t n Y) (Y 0 0) (nxp t n (nxp t n (Y 0 0))) 0 4 = Y 0 4 := by simp [yO, yAdd, mu]
        have e3 : yO Y (yw t n Y) (Y 0 0) (nxp t n (nxp t n (Y 0 0))) 0 3 = Y 0 3 + 1 := by simp [yO, yAdd, mu]
        rw [e4] at hv
        obtain ⟨c, hc, e2⟩ := h v hv
        have hc' : ¬ c = (Y 0 3).toNat := by omega
        have e1 : yO Y (yw t n Y) (Y 0 0) (nxp t n (nxp t n (Y 0 0))) 1 c = Y 1 c := by simp [yO, yAdd, mu, hc']
        exact ⟨c, by rw [e3]; omega, by rw [e1]; exact e2⟩
      · rw [if_neg g6]; exact yV_N rfl (by omega) (fun _ => rfl) (fun x hx => Or.inr (h x hx))
    rw [if_neg g5]
    by_cases g6 : 0 ≤ vfi Y (yw t n Y) 0 (Y 0 4).toNat
    · rw [if_pos g6]; exact yV_N rfl (by omega) (fun _ => rfl) (fun x hx => Or.inr (h x hx))
    rw [if_neg g6]
    by_cases g7 : most ≤ Y 0 4
    · rw [if_pos g7]; exact hB _ _
    rw [if_neg g7]
    have e4 : yVn Y (yw t n Y) 0 4 = Y 0 4 + 1 := by simp [yVn, mu]
    refine yV_N (Y := Y) (by simp [yVn, mu]) (by omega) (fun c => by simp [yVn, mu]) (fun x hx => ?_)
    rw [e4] at hx
    by_cases e : (x : Int) = Y 0 4
    · exact Or.inl e
    · exact Or.inr (h x (by omega))
  rw [if_neg g2]
  by_cases g3 : Y 0 2 ≤ 0
  · rw [if_pos g3]; exact h
  rw [if_neg g3]
  by_cases g4 : tK t n (Y 0 0) = 6
  · rw [if_pos g4]
    intro v hv
    have e4 : yC Y (nxp t n (Y 0 0)) 0 4 = Y 0 4 := by simp [yC, mu]
    have e3 : yC Y (nxp t n (Y 0 0)) 0 3 = Y 0 3 := by simp [yC, mu]
    rw [e4] at hv
    obtain ⟨c, hc, e2⟩ := h v hv
    have e1 : yC Y (nxp t n (Y 0 0)) 1 c = Y 1 c := by simp [yC, mu]
    exact ⟨c, by rw [e3]; exact hc, by rw [e1]; exact e2⟩
  rw [if_neg g4]
  by_cases g5 : tK t n (Y 0 0) = 5
  · rw [if_pos g5]
    intro v hv
    have e4 : yS Y (nxp t n (Y 0 0)) 0 4 = Y 0 4 := by simp [yS, mu]
    have e3 : yS Y (nxp t n (Y 0 0)) 0 3 = Y 0 3 := by simp [yS, mu]
    rw [e4] at hv
    obtain ⟨c, hc, e2⟩ := h v hv
    have e1 : yS Y (nxp t n (Y 0 0)) 1 c = Y 1 c := by simp [yS, mu]
    exact ⟨c, by rw [e3]; exact hc, by rw [e1]; exact e2⟩
  rw [if_neg g5]
  exact hB _ _
theorem yrn_V (hT : Tx t n) (hf : 0 ≤ fr) : ∀ (f : Nat) (Y : Mi), yI n most fr Y → yV Y → yV (yrn t n most fr f Y)
  | 0, _, _, h => h
  | f + 1, Y, hI, h => yrn_V hT hf f _ (yst_I hT hf hI).1 (yst_V h hI hf)
theorem y0_K {p : Int} : yK 0 (y0 p) := by
  have e1 : y0 p 0 1 = 1 := by simp [y0, mu]
  have e2 : y0 p 0 2 = 0 := by simp [y0, mu]
  have e3 : y0 p 0 3 = 0 := by simp [y0, mu]
  unfold yK
  rw [e1, e2, e3]
  exact ⟨yJ_0 0, fun c h1 h2 => absurd h2 (by omega)⟩
theorem y2_K {Z : Mi} {q : Int} (h2 : Z 0 2 = 0) : yK (Z 0 3) (y2 Z q) := by
  have e1 : y2 Z q 0 1 = 1 := by simp [y2, mu]
  have e2 : y2 Z q 0 2 = 0 := by simp [y2, mu]; exact h2
  have e3 : y2 Z q 0 3 = Z 0 3 := by simp [y2, mu]
  unfold yK
  rw [e1, e2, e3]
  exact ⟨yJ_0 _, fun c h1 h2 => absurd h2 (by omega)⟩
/-- two sides without a FAULT -/
def yZ (n most : Int) (Z : Mi) : Prop := ((0 ≤ Z 0 7 ∧ Z 0 7 ≤ 40) ∧ (Z 0 7 ≤ Z 0 3 ∧ Z 0 3 ≤ Z 0 7 + 40) ∧ (0 ≤ Z 0 8 ∧ Z 0 8 ≤ Z 0 4 ∧ Z 0 4 ≤ most) ∧ (0 ≤ Z 0 9 ∧ Z 0 9 ≤ n)) ∧ (Tm (nxY Z) (ptY Z) 0 (Z 0 7).toNat ∧ Tm (nxY Z) (ptY Z) (Z 0 7).toNat (Z 0 3).toNat) ∧ (∀ c : Nat, (c : Int) < Z 0 3 → (0 ≤ Z 4 c ∧ 0 ≤ Z 5 c) ∧ (0 ≤ Z 1 c → Z 4 c = 0) ∧ (-1 ≤ Z 1 c ∧ Z 1 c < Z 0 4) ∧ (0 ≤ Z 2 c ∧ isN (Z 2 c).toNat) ∧ (0 ≤ Z 3 c ∧ Z 3 c ≤ n)) ∧ (∀ c : Nat, (c : Int) < Z 0 7 → Z 1 c < Z 0 8) ∧ (∀ v : Nat, (v : Int) < Z 0 8 → ∃ c : Nat, (c : Int) < Z 0 7 ∧ Z 1 c = v) ∧ (∀ v : Nat, (v : Int) < Z 0 4 → 0 ≤ Z 7 v ∧ isN (Z 7 v).toNat)
theorem Tm_congr {nx nx' pt pt' : Nat → Nat} {a b : Nat} (h : Tm nx pt a b) (h1 : ∀ c, a ≤ c → c < b → nx' c = nx c ∧ pt' c = pt c) : Tm nx' pt' a b := by
  obtain ⟨g1, g2, g3⟩ := h
  refine ⟨g1, (h1 a (Nat.le_refl _) g1).1.trans g2, fun c hc hd => ?_⟩
  obtain ⟨q1, q2, q3⟩ := g3 c hc hd
  rw [(h1 c hc hd).1, (h1 c hc hd).2]
  exact ⟨q1, q2, ch_congr (fun j r1 r2 => (h1 j (by omega) (by omega)).1) q3⟩
/-- variables of the names known stay with their numbers -/
theorem yTwo_Z (hT : Tx t n) (hp : 0 ≤ p ∧ p ≤ n) (hm : 0 ≤ most) (h5 : yTwo t n sign most p 0 5 = 0) : yZ n most (yTwo t n sign most p) := by
  have hn := hT.2.2.2
  have hA := yA_I (most := most) hT hp hm
  have hft := ft_bd t n (yA t n most p 0 0)
  have hK := yrn_K (most := most) hT (by decide) (n + 1).toNat _ (y0_I hp hm) (y0_K (p := p))
  have hV := yrn_V (most := most) hT (by decide) (n + 1).toNat _ (y0_I hp hm) (show yV (y0 p) from fun v hv => absurd hv (by simp [y0, mu]))
  have hA5 : yA t n most p 0 5 = 0 := Classical.byContradiction fun h => by
    rw [yTwo, if_pos h] at h5
    exact h h5
  have hg : tK t n (yA t n most p 0 0) = sign := Classical.byContradiction fun h => by
    rw [yTwo, if_neg (fun g => g hA5), if_pos h] at h5
    have e2 : yBad (yA t n most p) (ft t n (yA t n most p 0 0)) (yA t n most p 0 0) 0 5 = ft t n (yA t n most p 0 0) := by simp [yBad, mu]
    rw [e2] at h5
    omega
  have eT : yTwo t n sign most p = yrn t n most (yA t n most p 0 3) (n + 1).toNat (y2 (yA t n most p) (nxp t n (yA t n most p 0 0))) := by rw [yTwo, if_neg (fun g => g hA5), if_neg (fun g => g hg)]
  have hE := hA.2.elim (fun e => absurd hA5 e) id
  have iA := hA.1
  have h2A : yA t n most p 0 2 = 0 := by have := iA.2.2.1; omega
  have h3 := iA.2.2.2.1
  have hBI := yB_I (most := most) hT hp hm hA5
  have hBE := yB_E (most := most) hT hp hm hA5
  have hKB := yrn_K (most := most) hT (by omega) (n + 1).toNat _ hBI (y2_K (q := nxp t n (yA t n most p 0 0)) h2A)
  have low : ∀ a c : Nat, 1 ≤ a ∧ a ≤ 5 → (c : Int) < yA t n most p 0 3 → yTwo t n sign most p a c = yA t n most p a c := fun a c ha hc => by
    rw [eT, yrn_low hT (by omega) ha hc _ _ hBI]
    unfold y2
    rw [mu_ne _ _ (by omega), mu_ne _ _ (by omega), mu_ne _ _ (by omega), mu_ne _ _ (by omega), mu_ne _ _ (by omega)]
  rw [← eT] at hBE hKB
  have s7 : yTwo t n sign most p 0 7 = yA t n most p 0 3 := by rw [eT, yrn_k (by decide)]; simp [y2, mu]
  have s8 : yTwo t n sign most p 0 8 = yA t n most p 0 4 := by rw [eT, yrn_k (by decide)]; simp [y2, mu]
  have s9 : yTwo t n sign most p 0 9 = yA t n most p 0 0 := by rw [eT, yrn_k (by decide)]; simp [y2, mu]
  obtain ⟨j1, j2, j3, j4, j5, j6, j7, j8, j9⟩ := hBE.1
  have hE2 := hBE.2.elim (fun e => absurd h5 e) id
  have h2B : yTwo t n sign most p 0 2 = 0 := by omega
  have TA : Tm (nxY (yA t n most p)) (ptY (yA t n most p)) 0 (yA t n most p 0 3).toNat := by
    have := hK.1
    have e1 : yrn t n most 0 (n + 1).toNat (y0 p) = yA t n most p := rfl
    rw [e1, h2A, hE.1] at this
    exact yJ_end this
  have TB : Tm (nxY (yTwo t n sign most p)) (ptY (yTwo t n sign most p)) (yA t n most p 0 3).toNat (yTwo t n sign most p 0 3).toNat := by
    have := hKB.1
    rw [h2B, hE2.1] at this
    exact yJ_end this
  have hmono : yA t n most p 0 4 ≤ yTwo t n sign most p 0 4 := by
    rw [eT]
    have key : ∀ (f : Nat) (Y : Mi), Y 0 4 ≤ yrn t n most (yA t n most p 0 3) f Y 0 4 := by
      intro f
      induction f with
      | zero => intro Y; exact Int.le_refl _
      | succ f ih =>
        intro Y
        refine Int.le_trans ?_ (ih (yst t n most (yA t n most p 0 3) Y))
        unfold yst yHd
        (repeat' split) <;> simp [yBad, yN, yO, yVn, yC, yS, yAdd, mu] <;> omega
    have := key (n + 1).toNat (y2 (yA t n most p) (nxp t n (yA t n most p 0 0)))
    have e4 : y2 (yA t n most p) (nxp t n (yA t n most p 0 0)) 0 4 = yA t n most p 0 4 := by simp [y2, mu]
    rw [e4] at this
    exact this
  have iA5 := iA.2.2.2.2.1
  have iA1 := iA.1
  refine ⟨⟨by omega, by omega, by omega, by omega⟩, ⟨?_, ?_⟩, fun c hc => ?_, fun c hc => ?_, fun v hv => ?_, j7⟩
  · rw [s7]
    exact Tm_congr TA (fun c h1 h2 => by unfold nxY ptY; rw [low 5 c (by decide) (by omega), low 4 c (by decide) (by omega)]; exact ⟨rfl, rfl⟩)
  · rw [s7]; exact TB
  · have g8 := j8 c hc
    by_cases e : (c : Int) < yA t n most p 0 3
    · have g := hK.2 c (by omega) e
      rw [low 4 c (by decide) e, low 5 c (by decide) e] 
      refine ⟨g.1, fun q => ?_, g8⟩
      rw [low 1 c (by decide) e] at q
      exact (g.2 q).1
    · have g := hKB.2 c (by omega) hc
      exact ⟨g.1, fun q => (g.2 q).1, g8⟩
  · rw [s7] at hc
    rw [s8, low 1 c (by decide) hc]
    exact (iA.2.2.2.2.2.2.2.1 c hc).1.2
  · rw [s8] at hv
    rw [s7]
    obtain ⟨c, hc, e⟩ := hV v hv
    exact ⟨c, hc, by rw [low 1 c (by decide) hc]; exact e⟩
end TWZ
