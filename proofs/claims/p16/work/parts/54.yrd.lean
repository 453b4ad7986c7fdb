/-! the reading of a TERM, told once: row 0 holds the place, whether a TERM is wanted, the depth, the SIZE, the VARIABLES, a FAULT and its place; of each item row 1 the VARIABLE (or -1), 2 the name, 3 the place, 4 the ARGUMENTS, 5 the item behind; 6 the open items, 7 the names of VARIABLES -/
section YRD
def yBad (Y : Mi) (k p : Int) : Mi := mu (mu Y 0 5 k) 0 6 p
/-- the VARIABLE of a name, -1 without -/
def vfi (Y : Mi) (w : Int) : Nat → Nat → Int
  | _, 0 => -1
  | i, k + 1 => if Y 7 i = w then (i : Int) else vfi Y w (i + 1) k
def yAdd (Y : Mi) (v w p : Int) : Mi := mu (mu (mu (mu (mu (mu Y 1 (Y 0 3).toNat v) 2 (Y 0 3).toNat w) 3 (Y 0 3).toNat p) 4 (Y 0 3).toNat 0) 5 (Y 0 3).toNat (Y 0 3 + 1)) 0 3 (Y 0 3 + 1)
def yN (Y : Mi) (v w p q : Int) : Mi := mu (mu (yAdd Y v w p) 0 1 0) 0 0 q
def yO (Y : Mi) (w p q : Int) : Mi := mu (mu (mu (mu (yAdd Y (-1) w p) 4 (Y 0 3).toNat 1) 6 (Y 0 2).toNat (Y 0 3)) 0 2 (Y 0 2 + 1)) 0 0 q
def yVn (Y : Mi) (w : Int) : Mi := mu (mu Y 7 (Y 0 4).toNat w) 0 4 (Y 0 4 + 1)
def yTop (Y : Mi) : Int := Y 6 (Y 0 2 - 1).toNat
def yC (Y : Mi) (q : Int) : Mi := mu (mu (mu Y 4 (yTop Y).toNat (Y 4 (yTop Y).toNat + 1)) 0 1 1) 0 0 q
def yS (Y : Mi) (q : Int) : Mi := mu (mu (mu Y 5 (yTop Y).toNat (Y 0 3)) 0 2 (Y 0 2 - 1)) 0 0 q
variable (t : Int → Int) (n most fr : Int)
def yw (t : Int → Int) (n : Int) (Y : Mi) : Int := (tN t n (Y 0 0) : Int)
def yHd (Y : Mi) : Mi :=
  if ¬ (tK t n (Y 0 0) = 1 ∨ tK t n (Y 0 0) = 2) then yBad Y (ft t n (Y 0 0)) (Y 0 0)
  else if 40 ≤ Y 0 3 - fr then yBad Y 3 (Y 0 0)
  else if tK t n (Y 0 0) = 1 then
    if tK t n (nxp t n (Y 0 0)) = 4 then yO Y (yw t n Y) (Y 0 0) (nxp t n (nxp t n (Y 0 0))) else yN Y (-1) (yw t n Y) (Y 0 0) (nxp t n (Y 0 0))
  else if 0 ≤ vfi Y (yw t n Y) 0 (Y 0 4).toNat then yN Y (vfi Y (yw t n Y) 0 (Y 0 4).toNat) (yw t n Y) (Y 0 0) (nxp t n (Y 0 0))
  else if most ≤ Y 0 4 then yBad Y 3 (Y 0 0)
  else yN (yVn Y (yw t n Y)) (Y 0 4) (yw t n Y) (Y 0 0) (nxp t n (Y 0 0))
def yst (Y : Mi) : Mi :=
  if Y 0 5 ≠ 0 then Y
  else if Y 0 1 ≠ 0 then yHd t n most fr Y
  else if Y 0 2 ≤ 0 then Y
  else if tK t n (Y 0 0) = 6 then yC Y (nxp t n (Y 0 0))
  else if tK t n (Y 0 0) = 5 then yS Y (nxp t n (Y 0 0))
  else yBad Y (ft t n (Y 0 0)) (Y 0 0)
def yrn : Nat → Mi → Mi
  | 0, Y => Y
  | f + 1, Y => yrn f (yst t n most fr Y)
/-- what holds all along -/
def yI (Y : Mi) : Prop := (0 ≤ Y 0 0 ∧ Y 0 0 ≤ n) ∧ (Y 0 1 = 0 ∨ Y 0 1 = 1) ∧ (0 ≤ Y 0 2 ∧ Y 0 2 ≤ Y 0 3 - fr) ∧ (fr ≤ Y 0 3 ∧ Y 0 3 ≤ fr + 40) ∧ (0 ≤ Y 0 4 ∧ Y 0 4 ≤ most) ∧ (∀ i : Nat, (i : Int) < Y 0 2 → fr ≤ Y 6 i ∧ Y 6 i < Y 0 3) ∧ (∀ v : Nat, (v : Int) < Y 0 4 → 0 ≤ Y 7 v ∧ isN (Y 7 v).toNat) ∧ (∀ c : Nat, (c : Int) < Y 0 3 → (-1 ≤ Y 1 c ∧ Y 1 c < Y 0 4) ∧ (0 ≤ Y 2 c ∧ isN (Y 2 c).toNat) ∧ (0 ≤ Y 3 c ∧ Y 3 c ≤ n)) ∧ (0 ≤ Y 0 5 ∧ Y 0 5 ≤ 3 ∧ 0 ≤ Y 0 6 ∧ Y 0 6 ≤ n)
/-- nothing more is read -/
def yE (Y : Mi) : Prop := Y 0 5 ≠ 0 ∨ (Y 0 1 = 0 ∧ Y 0 2 ≤ 0)
variable {t n most fr}
theorem yrn_fix {Y : Mi} (h : yst t n most fr Y = Y) : ∀ f, yrn t n most fr f Y = Y
  | 0 => rfl
  | f + 1 => by rw [yrn, h, yrn_fix h f]
theorem yst_E {Y : Mi} (h : yE Y) : yst t n most fr Y = Y := by
  unfold yst
  by_cases h5 : Y 0 5 ≠ 0
  · rw [if_pos h5]
  · rw [if_neg h5]
    rcases h with h | h
    · exact absurd h h5
    · rw [if_neg (fun g => g h.1), if_pos h.2]
theorem ft_bd (t : Int → Int) (n p : Int) : 1 ≤ ft t n p ∧ ft t n p ≤ 2 := by
  unfold ft
  split <;> omega
theorem vfi_bd (Y : Mi) (w : Int) : ∀ (k i : Nat), -1 ≤ vfi Y w i k ∧ vfi Y w i k < (i + k : Nat)
  | 0, i => by unfold vfi; omega
  | k + 1, i => by
    have := vfi_bd Y w k (i + 1)
    unfold vfi
    split <;> omega
theorem yI_bad {Y : Mi} {k : Int} (h : yI n most fr Y) (hk : 0 ≤ k ∧ k ≤ 3) : yI n most fr (yBad Y k (Y 0 0)) := by
  obtain ⟨h1, h2, h3, h4, h5, h6, h7, h8, h9⟩ := h
  simp only [yI, yBad, mu]
  simp
  exact ⟨h1, h2, h3, h4, h5, h6, h7, h8, hk.1, hk.2, h1.1, h1.2⟩
theorem yI_N {Y : Mi} {v w q : Int} (h : yI n most fr Y) (hs : Y 0 3 - fr < 40) (hf : 0 ≤ fr) (hv : -1 ≤ v ∧ v < Y 0 4) (hw : 0 ≤ w ∧ isN w.toNat) (hq : Y 0 0 ≤ q ∧ q ≤ n) : yI n most fr (yN Y v w (Y 0 0) q) := by
  obtain ⟨h1, h2, h3, h4, h5, h6, h7, h8, h9⟩ := h
  simp only [yI, yN, yAdd, mu]
  simp
  refine ⟨⟨by omega, hq.2⟩, ⟨h3.1, by omega⟩, ⟨by omega, by omega⟩, h5, fun i hi => ?_, h7, fun c hc => ?_, h9⟩
  · have := h6 i hi
    omega
  · by_cases e : c = (Y 0 3).toNat
    · simp only [e, if_true]
      exact ⟨hv, hw, h1⟩
    · simp only [e, if_false]
      exact h8 c (by omega)
theorem yI_Vn {Y : Mi} {w : Int} (h : yI n most fr Y) (hw : 0 ≤ w ∧ isN w.toNat) (hm : Y 0 4 < most) : yI n most fr (yVn Y w) := by
  obtain ⟨h1, h2, h3, h4, h5, h6, h7, h8, h9⟩ := h
  simp only [yI, yVn, mu]
  simp
  refine ⟨h1, h2, h3, h4, ⟨by omega, by omega⟩, h6, fun v hv => ?_, fun c hc => ?_, h9⟩
  · by_cases e : v = (Y 0 4).toNat
    · simp only [e, if_true]
      exact hw
    · simp only [e, if_false]
      exact h7 v (by omega)
  · have := h8 c hc
    exact ⟨⟨this.1.1, by omega⟩, this.2⟩
theorem yI_O {Y : Mi} {w q : Int} (h : yI n most fr Y) (hs : Y 0 3 - fr < 40) (hf : 0 ≤ fr) (hw : 0 ≤ w ∧ isN w.toNat) (hq : Y 0 0 ≤ q ∧ q ≤ n) : yI n most fr (yO Y w (Y 0 0) q) := by
  obtain ⟨h1, h2, h3, h4, h5, h6, h7, h8, h9⟩ := h
  simp only [yI, yO, yAdd, mu]
  simp
  refine ⟨⟨by omega, hq.2⟩, h2, ⟨by omega, by omega⟩, ⟨by omega, by omega⟩, h5, fun i hi => ?_, h7, fun c hc => ?_, h9⟩
  · by_cases e : i = (Y 0 2).toNat
    · simp only [e, if_true]
      omega
    · simp only [e, if_false]
      have := h6 i (by omega)
      omega
  · by_cases e : c = (Y 0 3).toNat
    · simp only [e, if_true]
      exact ⟨⟨by omega, by omega⟩, hw, h1⟩
    · simp only [e, if_false]
      exact h8 c (by omega)
theorem yI_C {Y : Mi} {q : Int} (h : yI n most fr Y) (hq : Y 0 0 ≤ q ∧ q ≤ n) : yI n most fr (yC Y q) := by
  obtain ⟨h1, h2, h3, h4, h5, h6, h7, h8, h9⟩ := h
  simp only [yI, yC, mu]
  simp
  exact ⟨⟨by omega, hq.2⟩, h3, h4, h5, h6, h7, h8, h9⟩
theorem yI_S {Y : Mi} {q : Int} (h : yI n most fr Y) (hd : 0 < Y 0 2) (hq : Y 0 0 ≤ q ∧ q ≤ n) : yI n most fr (yS Y q) := by
  obtain ⟨h1, h2, h3, h4, h5, h6, h7, h8, h9⟩ := h
  simp only [yI, yS, mu]
  simp
  refine ⟨⟨by omega, hq.2⟩, h2, ⟨by omega, by omega⟩, h4, h5, fun i hi => h6 i (by omega), h7, h8, h9⟩
theorem yw_is {Y : Mi} (hT : Tx t n) (h : tK t n (Y 0 0) = 1 ∨ tK t n (Y 0 0) = 2) : 0 ≤ yw t n Y ∧ isN (yw t n Y).toNat := ⟨by unfold yw; omega, by unfold yw; exact (tN_is hT h).1⟩
/-- a step keeps it, and goes on in the text where it tells no FAULT -/
theorem yst_I {Y : Mi} (hT : Tx t n) (hf : 0 ≤ fr) (h : yI n most fr Y) : yI n most fr (yst t n most fr Y) ∧ (yE Y ∨ yst t n most fr Y 0 5 ≠ 0 ∨ Y 0 0 < yst t n most fr Y 0 0) := by
  have h0 := h.1
  have hft := ft_bd t n (Y 0 0)
  have a1 := nxp_le hT h0.2
  have bad : ∀ k, 0 < k ∧ k ≤ 3 → yI n most fr (yBad Y k (Y 0 0)) ∧ (yE Y ∨ yBad Y k (Y 0 0) 0 5 ≠ 0 ∨ Y 0 0 < yBad Y k (Y 0 0) 0 0) := fun k hk => ⟨yI_bad h ⟨by omega, hk.2⟩, Or.inr (Or.inl (by
    have : yBad Y k (Y 0 0) 0 5 = k := by simp [yBad, mu]
    omega))⟩
  unfold yst
  by_cases g1 : Y 0 5 ≠ 0
  · rw [if_pos g1]; exact ⟨h, Or.inl (Or.inl g1)⟩
  rw [if_neg g1]
  by_cases g2 : Y 0 1 ≠ 0
  · rw [if_pos g2]
    unfold yHd
    by_cases g3 : ¬ (tK t n (Y 0 0) = 1 ∨ tK t n (Y 0 0) = 2)
    · rw [if_pos g3]; exact bad _ (by omega)
    rw [if_neg g3]
    have hw := yw_is hT (Classical.not_not.mp g3)
    have a2 := nxp_lt (t := t) hT h0.2 (by omega)
    by_cases g4 : 40 ≤ Y 0 3 - fr
    · rw [if_pos g4]; exact bad _ (by omega)
    rw [if_neg g4]
    have e1 : ∀ v w q, yN Y v w (Y 0 0) q 0 0 = q := fun v w q => by simp [yN, yAdd, mu]
    by_cases g5 : tK t n (Y 0 0) = 1
    · rw [if_pos g5]
      by_cases g6 : tK t n (nxp t n (Y 0 0)) = 4
      · rw [if_pos g6]
        have a3 := nxp_le hT a1.2
        have e2 : ∀ w q, yO Y w (Y 0 0) q 0 0 = q := fun w q => by simp [yO, yAdd, mu]
        exact ⟨yI_O h (by omega) hf hw (by omega), Or.inr (Or.inr (by rw [e2]; omega))⟩
      · rw [if_neg g6]
        exact ⟨yI_N h (by omega) hf (by have := h.2.2.2.2.1; omega) hw (by omega), Or.inr (Or.inr (by rw [e1]; omega))⟩
    rw [if_neg g5]
    have hv := vfi_bd Y (yw t n Y) (Y 0 4).toNat 0
    have h4 := h.2.2.2.2.1
    by_cases g6 : 0 ≤ vfi Y (yw t n Y) 0 (Y 0 4).toNat
    · rw [if_pos g6]
      exact ⟨yI_N h (by omega) hf (by omega) hw (by omega), Or.inr (Or.inr (by rw [e1]; omega))⟩
    rw [if_neg g6]
    by_cases g7 : most ≤ Y 0 4
    · rw [if_pos g7]; exact bad _ (by omega)
    rw [if_neg g7]
    have hV := yI_Vn h hw (by omega)
    have e3 : yVn Y (yw t n Y) 0 0 = Y 0 0 := by simp [yVn, mu]
    have e4 : yVn Y (yw t n Y) 0 3 = Y 0 3 := by simp [yVn, mu]
    have e5 : yVn Y (yw t n Y) 0 4 = Y 0 4 + 1 := by simp [yVn, mu]
    have hN := yI_N (v := Y 0 4) (w := yw t n Y) (q := nxp t n (Y 0 0)) hV (by rw [e4]; omega) hf (by rw [e5]; omega) hw (by rw [e3]; omega)
    rw [e3] at hN
    refine ⟨hN, Or.inr (Or.inr ?_)⟩
    have : yN (yVn Y (yw t n Y)) (Y 0 4) (yw t n Y) (Y 0 0) (nxp t n (Y 0 0)) 0 0 = nxp t n (Y 0 0) := by simp [yN, yAdd, mu]
    rw [this]; omega
  rw [if_neg g2]
  by_cases g3 : Y 0 2 ≤ 0
  · rw [if_pos g3]; exact ⟨h, Or.inl (Or.inr ⟨by omega, g3⟩)⟩
  rw [if_neg g3]
  by_cases g4 : tK t n (Y 0 0) = 6
  · rw [if_pos g4]
    have a2 := nxp_lt (t := t) hT h0.2 (by omega)
    refine ⟨yI_C h (by omega), Or.inr (Or.inr ?_)⟩
    have : yC Y (nxp t n (Y 0 0)) 0 0 = nxp t n (Y 0 0) := by simp [yC, mu]
    rw [this]; omega
  rw [if_neg g4]
  by_cases g5 : tK t n (Y 0 0) = 5
  · rw [if_pos g5]
    have a2 := nxp_lt (t := t) hT h0.2 (by omega)
    refine ⟨yI_S h (by omega) (by omega), Or.inr (Or.inr ?_)⟩
    have : yS Y (nxp t n (Y 0 0)) 0 0 = nxp t n (Y 0 0) := by simp [yS, mu]
    rw [this]; omega
  rw [if_neg g5]
  exact bad _ (by omega)
/-- a symbol by its name: -1 without -/
def sfi (Sn : Nat → Nat) (w : Nat) : Nat → Nat → Int
  | _, 0 => -1
  | i, k + 1 => if Sn i = w then (i : Int) else sfi Sn w (i + 1) k
theorem sfi_bd (Sn : Nat → Nat) (w : Nat) : ∀ (k i : Nat), -1 ≤ sfi Sn w i k ∧ sfi Sn w i k < (i + k : Nat)
  | 0, i => by unfold sfi; omega
  | k + 1, i => by
    have := sfi_bd Sn w k (i + 1)
    unfold sfi
    split <;> omega
/-- the class's cell of a name -/
def sy (Sn : Nat → Nat) (sc w : Nat) : Int := if sfi Sn w 0 sc < 0 then 16 else sfi Sn w 0 sc
end YRD
