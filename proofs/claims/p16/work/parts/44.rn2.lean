section RN2
variable {X : aX} {d : Nat} {P : Mp}
/-- what next() leaves -/
def Nx (m : Mi) (J : Mj) (m' : Mi) (J' : Mj) : Prop := (m' 262 4 = tA (lk m) (m 262 2) (m 262 5) ∧ m' 262 5 = tB (lk m) (m 262 2) (m' 262 4) ∧ m' 262 3 = tS (lk m) (m 262 2) (m' 262 4)) ∧ (m' 262 3 = 3 → m' 262 6 = lk m (m' 262 4) - 48) ∧ (m' 262 3 = 4 → m' 262 6 = if lk m (m' 262 4) = 45 then 256 else lk m (m' 262 4)) ∧ (-2147483648 ≤ m 262 6 ∧ m 262 6 ≤ 2147483647 → -2147483648 ≤ m' 262 6 ∧ m' 262 6 ≤ 2147483647) ∧ (m' 262 3 = 1 ∨ m' 262 3 = 2 → J' 262 7 = nmR (lk m) (m' 262 4) (m' 262 5 - m' 262 4).toNat) ∧ (∀ a k, ¬ (a = 262 ∧ (k = 3 ∨ k = 4 ∨ k = 5 ∨ k = 6)) → m' a k = m a k) ∧ ∀ a k, ¬ (a = 262 ∧ k = 7) → J' a k = J a k
theorem r_next_tail {m : Mi} {J : Mj} {p n : Int} {t : Int → Int} (hp : PP P) (ha : m 262 4 = p) (hb : m 262 5 = p) (he : m 262 2 = n) (hl : lk m = t) (hq : 0 ≤ p ∧ p < n ∧ n ≤ 1600) (hw : wds J) {post : Mi → Mj → Mp → Prop} (k : ∀ m' J', (m' 262 4 = p ∧ m' 262 5 = tB t n p ∧ m' 262 3 = tS t n p) ∧ (m' 262 3 = 3 → m' 262 6 = t p - 48) ∧ (m' 262 3 = 4 → m' 262 6 = if t p = 45 then 256 else t p) ∧ (-2147483648 ≤ m 262 6 ∧ m 262 6 ≤ 2147483647 → -2147483648 ≤ m' 262 6 ∧ m' 262 6 ≤ 2147483647) ∧ (m' 262 3 = 1 ∨ m' 262 3 = 2 → J' 262 7 = nmR t p (m' 262 5 - p).toNat) ∧ (∀ a k, ¬ (a = 262 ∧ (k = 3 ∨ k = 4 ∨ k = 5 ∨ k = 6)) → m' a k = m a k) ∧ (∀ a k, ¬ (a = 262 ∧ k = 7) → J' a k = J a k) → post m' J' P) : Ci X (d + 1) 139 [.ref 262, .int (iz (m 262 4))] m J P (fun z8 m5 J6 P7 => PP P7 ∧ Zr (z8) ∧ (((z8 < 48) → Ci X (d + 1) 133 [.int (iz z8)] m5 J6 P7 (fun z14 m11 J12 P13 => PP P13 ∧ Zr (z14) ∧ (((z14 ≤ 0) → Cv X (d + 1) 140 [.ref 262, .int (iz z8)] m11 J12 P13 (fun m17 J18 P19 => PP P19 ∧ Rn X (d + 2) 138 283 [some (.ref 262), some (.int (iz z8))] [] (SS m17 J18 P19) (QV post))) ∧ (¬ (z14 ≤ 0) → Rn X (d + 2) 138 142 [some (.ref 262), some (.int (iz z8))] [] (SS m11 (mju J12 262 7 (Int64.ofNat 0)) P13) (QV post))))) ∧ (¬ (z8 < 48) → Zr (z8) ∧ (((57 < z8) → Ci X (d + 1) 133 [.int (iz z8)] m5 J6 P7 (fun z26 m23 J24 P25 => PP P25 ∧ Zr (z26) ∧ (((z26 ≤ 0) → Cv X (d + 1) 140 [.ref 262, .int (iz z8)] m23 J24 P25 (fun m29 J30 P31 => PP P31 ∧ Rn X (d + 2) 138 283 [some (.ref 262), some (.int (iz z8))] [] (SS m29 J30 P31) (QV post))) ∧ (¬ (z26 ≤ 0) → Rn X (d + 2) 138 142 [some (.ref 262), some (.int (iz z8))] [] (SS m23 (mju J24 262 7 (Int64.ofNat 0)) P25) (QV post))))) ∧ (¬ (57 < z8) → Rn X (d + 2) 138 283 [some (.ref 262), some (.int (iz z8))] [] (SS (mu (mu (mu m5 262 3 3) 262 6 (z8 - 48)) 262 5 (((mu (mu m5 262 3 3) 262 6 (z8 - 48)) 262 4) + 1)) J6 P7) (QV post)))))) := by
  have hlk := lk_bd m p
  rw [hl] at hlk
  have hcd := cd_bd (t p)
  have ht0 : ∀ x, n ≤ x → t x = 0 := fun x hx => by rw [← hl, lk, he, if_pos hx]
  have hz : Zr (t p) := by constructor <;> omega
  have hzc : Zr (cd (t p)) := by constructor <;> omega
  have hsign : ¬ (48 ≤ t p ∧ t p ≤ 57) → cd (t p) ≤ 0 → Cv X (d + 1) 140 [.ref 262, .int (iz (t p))] m J P (fun m17 J18 P19 => PP P19 ∧ Rn X (d + 2) 138 283 [some (.ref 262), some (.int (iz (t p)))] [] (SS m17 J18 P19) (QV post)) := fun h1 h2 => by
    refine r_sign hp hz (by omega) (by omega) fun m' h => ⟨hp, b_Mdl_next_283 _ _ _ _ hp post (k m' J ?_)⟩
    obtain ⟨s1, s2, s3, s4⟩ := h
    rw [hl, ha] at s1 s2 s3
    have e1 : m' 262 3 = tS t n p := by rw [s1, tS, if_neg (show ¬ n ≤ p by omega), if_neg h1, if_neg (show ¬ 0 < cd (t p) by omega)]
    refine ⟨⟨?_, ?_, e1⟩, fun g => ?_, fun g => ?_, fun g => ?_, fun g => ?_, fun a k h => s4 a k (fun e => h ⟨e.1, ?_⟩), fun _ _ _ => rfl⟩
    · rw [s4 _ _ (by decide)]; exact ha
    · rw [s3, tB, if_neg (show ¬ n ≤ p by omega), if_neg h1, if_neg (show ¬ 0 < cd (t p) by omega)]
    · exfalso
      rw [s1] at g
      revert g
      repeat' split
      all_goals decide
    · rw [s2]
      rw [s1] at g
      by_cases h45 : t p = 45
      · rw [if_pos h45] at g ⊢
        by_cases h62 : t (p + 1) = 62
        · rw [if_pos ⟨h45, h62⟩]
        · rw [if_neg h62] at g
          exact absurd g (by decide)
      · rw [if_neg h45, if_neg (fun h => h45 h.1)]
    · rw [s2]; split <;> omega
    · exfalso
      rw [s1] at g
      revert g
      repeat' split
      all_goals decide
    · rcases e.2 with h | h | h
      · exact Or.inl h
      · exact Or.inr (Or.inr (Or.inl h))
      · exact Or.inr (Or.inr (Or.inr h))
  have hword : ¬ (48 ≤ t p ∧ t p ≤ 57) → ¬ cd (t p) ≤ 0 → Rn X (d + 2) 138 142 [some (.ref 262), some (.int (iz (t p)))] [] (SS m (mju J 262 7 (Int64.ofNat 0)) P) (QV post) := fun h1 h2 => by
    refine r_next_142 hp hz ⟨hq.1, hq.2.2⟩ ht0 (n - p).toNat m _ p rfl ha hb he hl (by omega) ?_ (fun _ => ?_) fun m' J' h => k m' J' ?_
    · unfold wds at hw ⊢
      rw [mju_ne _ _ (by decide), mju_ne _ _ (by decide)]; exact hw
    · rw [mju_at, show (p - p).toNat = 0 by omega]; rfl
    obtain ⟨s1, s2, s3, s4, s5⟩ := h
    have e0 : we t (n - p).toNat p = tW t n p := rfl
    rw [e0] at s1 s2 s3
    have eN : m' 262 6 = m 262 6 := s4 _ _ (by decide)
    refine ⟨⟨?_, ?_, ?_⟩, fun g => ?_, fun g => ?_, fun g => ?_, fun g => ?_, fun a k h => s4 a k (fun e => h ⟨e.1, ?_⟩), fun a k h => ?_⟩
    · rw [s4 _ _ (by decide)]; exact ha
    · rw [s1, tB, if_neg (show ¬ n ≤ p by omega), if_neg h1, if_pos (show 0 < cd (t p) by omega)]
    · rw [s2, tS, if_neg (show ¬ n ≤ p by omega), if_neg h1, if_pos (show 0 < cd (t p) by omega)]
    · exfalso
      rw [s2] at g
      revert g
      repeat' split
      all_goals decide
    · exfalso
      rw [s2] at g
      revert g
      repeat' split
      all_goals decide
    · rw [eN]; exact g
    · rw [s1]
      refine s3 ?_
      rw [s2] at g
      by_cases h8 : 8 < tW t n p - p
      · rw [if_pos h8] at g
        exact absurd g (by decide)
      · omega
    · rcases e.2 with h | h
      · exact Or.inl h
      · exact Or.inr (Or.inr (Or.inl h))
    · rw [s5 a k h]; exact mju_ne _ _ h
  rw [ha]
  refine r_look hp (by omega) (by omega) ?_
  rw [hl]
  refine ⟨hp, hz, fun g => ?_, fun g => ⟨hz, fun g2 => ?_, fun g2 => ?_⟩⟩
  · exact r_code hp hz ⟨hp, hzc, fun g3 => hsign (by omega) g3, fun g3 => hword (by omega) g3⟩
  · exact r_code hp hz ⟨hp, hzc, fun g3 => hsign (by omega) g3, fun g3 => hword (by omega) g3⟩
  · have h1 : 48 ≤ t p ∧ t p ≤ 57 := by omega
    refine b_Mdl_next_283 _ _ _ _ hp post (k _ J ⟨⟨?_, ?_, ?_⟩, fun g => ?_, fun g => ?_, fun g => ?_, fun g => ?_, fun a k h => ?_, fun _ _ _ => rfl⟩)
    · rw [← ha]; simp [mu]
    · rw [tB, if_neg (show ¬ n ≤ p by omega), if_pos h1, mu_at, mu_ne _ _ (by decide), mu_ne _ _ (by decide), ha]
    · rw [tS, if_neg (show ¬ n ≤ p by omega), if_pos h1]; simp [mu]
    · simp [mu]
    · exfalso; revert g; simp [mu]
    · rw [mu_ne _ _ (by decide), mu_at]; omega
    · exfalso; revert g; simp [mu]
    · rw [mu_ne _ _ (fun e => h ⟨e.1, Or.inr (Or.inr (Or.inl e.2))⟩), mu_ne _ _ (fun e => h ⟨e.1, Or.inr (Or.inr (Or.inr e.2))⟩), mu_ne _ _ (fun e => h ⟨e.1, Or.inl e.2⟩)]
end RN2
