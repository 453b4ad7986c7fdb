/-! one TOKEN, told by class and reference -/
section TOK
theorem we_all (t : Int → Int) : ∀ f q i, q ≤ i → i < we t f q → 0 < cd (t i)
  | 0, q, i, h1, h2 => by rw [we] at h2; omega
  | f + 1, q, i, h1, h2 => by
    rw [we] at h2
    split at h2
    · rename_i g
      by_cases h : i = q
      · rw [h]; exact g
      · exact we_all t f (q + 1) i (by omega) h2
    · omega
def ws : Int → Int := fun x => if x = 0 then 115 else if x = 1 then 121 else if x = 2 then 109 else 0
def wr : Int → Int := fun x => if x = 0 then 114 else if x = 1 then 117 else if x = 2 then 108 else if x = 3 then 101 else 0
theorem ws_bd (x : Int) : 0 ≤ ws x ∧ ws x ≤ 255 := by
  unfold ws
  (repeat' split) <;> omega
theorem wr_bd (x : Int) : 0 ≤ wr x ∧ wr x ≤ 255 := by
  unfold wr
  (repeat' split) <;> omega
theorem ws_w (i : Nat) (h : i < 3) : 0 < cd (ws (0 + i)) := by
  have : ((List.range 3).all fun i => decide (0 < cd (ws (0 + (i : Nat))))) = true := by decide +kernel
  exact of_decide_eq_true (List.all_eq_true.mp this i (List.mem_range.mpr h))
theorem wr_w (i : Nat) (h : i < 4) : 0 < cd (wr (0 + i)) := by
  have : ((List.range 4).all fun i => decide (0 < cd (wr (0 + (i : Nat))))) = true := by decide +kernel
  exact of_decide_eq_true (List.all_eq_true.mp this i (List.mem_range.mpr h))
theorem nmC_ws : nmC ws 0 3 = 7567725 := by decide +kernel
theorem nmR_ws : nmR ws 0 3 = 79437 := by decide +kernel
theorem nmC_wr : nmC wr 0 4 = 1920298085 := by decide +kernel
theorem nmR_wr : nmR wr 0 4 = 4805381 := by decide +kernel
theorem tW_all {t : Int → Int} {n p : Int} (i : Nat) (h : i < (tW t n p - p).toNat) : 0 < cd (t (p + i)) := we_all t (n - p).toNat p (p + i) (by omega) (by unfold tW at h; omega)
theorem sym_iff {t : Int → Int} {n p : Int} (bt : ∀ x, 0 ≤ t x ∧ t x ≤ 255) (h : tW t n p - p ≤ 8) : nmC t p (tW t n p - p).toNat = 7567725 ↔ nmR t p (tW t n p - p).toNat = 79437 := by
  rw [← nmC_ws, ← nmR_ws]
  exact nm_iff bt ws_bd (by omega) (by decide) tW_all ws_w
theorem rul_iff {t : Int → Int} {n p : Int} (bt : ∀ x, 0 ≤ t x ∧ t x ≤ 255) (h : tW t n p - p ≤ 8) : nmC t p (tW t n p - p).toNat = 1920298085 ↔ nmR t p (tW t n p - p).toNat = 4805381 := by
  rw [← nmC_wr, ← nmR_wr]
  exact nm_iff bt wr_bd (by omega) (by decide) tW_all wr_w
def k2s (k : Int) : Int := if k = 0 then 0 else if k = 1 then 1 else if k = 2 then 2 else if k = 3 then 3 else if k = 12 then 5 else if k = 10 then 6 else if k = 11 then 7 else 4
def k2n (k : Int) : Int := if k = 4 then 40 else if k = 5 then 41 else if k = 6 then 44 else if k = 7 then 59 else if k = 8 then 61 else 256
theorem nmC_first {t : Int → Int} {p : Int} {k : Nat} (bt : ∀ x, 0 ≤ t x ∧ t x ≤ 255) (hk : k ≤ 8) (hw : ∀ i : Nat, i < k → 0 < cd (t (p + i))) (h : nmC t p k = 7567725 ∨ nmC t p k = 1920298085) : 90 < t p := by
  have p8 : (256 : Nat) ^ 8 = 2 ^ 64 := by decide
  have c1 := Nat.lt_of_lt_of_le (vC_lt bt p k) (Nat.pow_le_pow_right (by decide) hk)
  rw [p8] at c1
  have key : ∀ {u : Int → Int} {j : Nat}, (∀ x, 0 ≤ u x ∧ u x ≤ 255) → j ≤ 8 → 0 < j → (∀ i : Nat, i < j → 0 < cd (u (0 + i))) → 90 < u 0 → nmC t p k = nmC u 0 j → 90 < t p := fun {u j} bu hj hj0 hu h0 he => by
    have c2 := Nat.lt_of_lt_of_le (vC_lt bu 0 j) (Nat.pow_le_pow_right (by decide) hj)
    rw [p8] at c2
    rw [nmC_v bt p k hk, nmC_v bu 0 j hj] at he
    obtain ⟨e, hi⟩ := vC_inj bt bu k j hw hu (ofNat_inj64 c1 c2 he)
    have := hi 0 (by omega)
    rw [show p + ((0 : Nat) : Int) = p by omega, show (0 : Int) + ((0 : Nat) : Int) = 0 by omega] at this
    rw [this]; exact h0
  rcases h with h | h
  · exact key ws_bd (by decide) (by decide) ws_w (by decide) (h.trans nmC_ws.symm)
  · exact key wr_bd (by decide) (by decide) wr_w (by decide) (h.trans nmC_wr.symm)
/-- the TOKEN of the class and that of the reference -/
theorem tok_rel {t : Int → Int} {n p : Int} (bt : ∀ x, 0 ≤ t x ∧ t x ≤ 255) : tS t n p = k2s (tK t n p) ∧ (tS t n p = 4 → (if t p = 45 then 256 else t p) = k2n (tK t n p)) := by
  have hb := bt p
  by_cases hn : n ≤ p
  · rw [tS, tK, if_pos hn, if_pos hn]
    exact ⟨rfl, fun h => absurd h (by decide)⟩
  by_cases hd : 48 ≤ t p ∧ t p ≤ 57
  · have e := (kd_digit _).mpr hd
    rw [tS, tK, if_neg hn, if_neg hn, if_pos hd, if_neg (by omega), if_neg (by omega), e]
    exact ⟨rfl, fun h => absurd h (by decide)⟩
  by_cases hw : 0 < cd (t p)
  · have e := (kd_word (t p)).mpr ⟨hd, hw⟩
    rw [tS, tK, if_neg hn, if_neg hn, if_neg hd, if_pos hw, if_pos e]
    by_cases h8 : 8 < tW t n p - p
    · rw [if_pos h8, if_pos h8]
      exact ⟨rfl, fun h => absurd h (by decide)⟩
    · rw [if_neg h8, if_neg h8]
      have s := sym_iff (n := n) (p := p) bt (by omega)
      have r := rul_iff (n := n) (p := p) bt (by omega)
      have f := nmC_first (p := p) (k := (tW t n p - p).toNat) bt (by omega) tW_all
      have hk : kd (t p) = if t p ≤ 90 then 2 else 1 := by
        unfold kd at e ⊢
        revert e
        (repeat' split) <;> omega
      by_cases h1 : nmC t p (tW t n p - p).toNat = 7567725
      · have := f (Or.inl h1)
        rw [if_pos h1, if_neg (by omega), if_pos (s.mp h1)]
        exact ⟨rfl, fun h => absurd h (by decide)⟩
      · rw [if_neg h1, if_neg (fun h => h1 (s.mpr h))]
        by_cases h2 : nmC t p (tW t n p - p).toNat = 1920298085
        · have := f (Or.inr h2)
          rw [if_pos h2, if_neg (by omega), if_pos (r.mp h2)]
          exact ⟨rfl, fun h => absurd h (by decide)⟩
        · rw [if_neg h2, if_neg (fun h => h2 (r.mpr h)), hk]
          by_cases h9 : t p ≤ 90
          · rw [if_pos h9]
            exact ⟨rfl, fun h => absurd h (by decide)⟩
          · rw [if_neg h9]
            exact ⟨rfl, fun h => absurd h (by decide)⟩
  · have e : ¬ (kd (t p) = 1 ∨ kd (t p) = 2) := fun h => hw ((kd_word _).mp h).2
    rw [tS, tK, if_neg hn, if_neg hn, if_neg hd, if_neg hw, if_neg e]
    by_cases h45 : t p = 45
    · rw [if_pos h45, if_pos ((kd_dash _).mpr h45), if_pos h45]
      by_cases h62 : t (p + 1) = 62
      · rw [if_pos h62, if_pos h62]
        exact ⟨rfl, fun _ => rfl⟩
      · rw [if_neg h62, if_neg h62]
        exact ⟨rfl, fun h => absurd h (by decide)⟩
    · rw [if_neg h45, if_neg (fun h => h45 ((kd_dash _).mp h)), if_neg h45]
      have hk : kd (t p) = if t p = 40 then 4 else if t p = 41 then 5 else if t p = 44 then 6 else if t p = 59 then 7 else if t p = 61 then 8 else 12 := by
        unfold kd at e ⊢
        revert e
        (repeat' split) <;> omega
      rw [hk]
      by_cases h1 : t p = 40
      · rw [if_pos h1, if_pos (Or.inl h1)]; exact ⟨rfl, fun _ => h1⟩
      rw [if_neg h1]
      by_cases h2 : t p = 41
      · rw [if_pos h2, if_pos (Or.inr (Or.inl h2))]; exact ⟨rfl, fun _ => h2⟩
      rw [if_neg h2]
      by_cases h3 : t p = 44
      · rw [if_pos h3, if_pos (Or.inr (Or.inr (Or.inl h3)))]; exact ⟨rfl, fun _ => h3⟩
      rw [if_neg h3]
      by_cases h4 : t p = 59
      · rw [if_pos h4, if_pos (Or.inr (Or.inr (Or.inr (Or.inl h4))))]; exact ⟨rfl, fun _ => h4⟩
      rw [if_neg h4]
      by_cases h5 : t p = 61
      · rw [if_pos h5, if_pos (Or.inr (Or.inr (Or.inr (Or.inr h5))))]; exact ⟨rfl, fun _ => h5⟩
      rw [if_neg h5, if_neg (by omega)]
      exact ⟨rfl, fun h => absurd h (by decide)⟩
end TOK
