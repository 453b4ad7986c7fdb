/-! the class's advance -/
section CAD
variable {X : aX} {d : Nat} {P : Mp}
def adv (m : Mi) (z : Int) : Mi := mu (mu (mu m 2 4 z) 2 6 (((mu m 2 4 z) 3 ((mu m 2 4 z) 2 3).toNat) - 48)) 2 3 (((mu (mu m 2 4 z) 2 6 (((mu m 2 4 z) 3 ((mu m 2 4 z) 2 3).toNat) - 48)) 2 3) + 1)
theorem adv_at (m : Mi) (z : Int) : adv m z 2 3 = m 2 3 + 1 := by simp [adv, mu]
theorem adv_kind (m : Mi) (z : Int) : adv m z 2 4 = z := by simp [adv, mu]
theorem adv_digit (m : Mi) (z : Int) : adv m z 2 6 = m 3 (m 2 3).toNat - 48 := by simp [adv, mu]
theorem adv_o (m : Mi) (z : Int) {a k : Nat} (h : ¬ (a = 2 ∧ (k = 3 ∨ k = 4 ∨ k = 6))) : adv m z a k = m a k := by
  unfold adv
  rw [mu_ne _ _ (fun e => h ⟨e.1, Or.inl e.2⟩), mu_ne _ _ (fun e => h ⟨e.1, Or.inr (Or.inr e.2)⟩), mu_ne _ _ (fun e => h ⟨e.1, Or.inr (Or.inl e.2)⟩)]
def tK (t : Int → Int) (n p : Int) : Int := if n ≤ p then 0 else if kd (t p) = 1 ∨ kd (t p) = 2 then (if 8 < tW t n p - p then 12 else if nmC t p (tW t n p - p).toNat = 7567725 then 10 else if nmC t p (tW t n p - p).toNat = 1920298085 then 11 else kd (t p)) else if kd (t p) = 9 then (if t (p + 1) = 62 then 9 else 12) else kd (t p)
/-- what advance() leaves, behind the blanks -/
def Tc (t : Int → Int) (n p : Int) (m : Mi) (J : Mj) (m' : Mi) (J' : Mj) : Prop := (m' 2 5 = p ∧ m' 2 3 = tB t n p ∧ m' 2 4 = tK t n p) ∧ (m' 2 4 = 3 → m' 2 6 = t p - 48) ∧ (m' 2 4 = 1 ∨ m' 2 4 = 2 → J' 2 7 = nmC t p (m' 2 3 - p).toNat) ∧ (∀ a k, ¬ (a = 2 ∧ (k = 3 ∨ k = 4 ∨ k = 5 ∨ k = 6)) → m' a k = m a k) ∧ (∀ a k, ¬ (a = 2 ∧ k = 7) → J' a k = J a k)
theorem kd_word (c : Int) : (kd c = 1 ∨ kd c = 2) ↔ (¬ (48 ≤ c ∧ c ≤ 57) ∧ 0 < cd c) := by
  unfold kd cd
  (repeat' split) <;> omega
theorem kd_dash (c : Int) : kd c = 9 ↔ c = 45 := by
  unfold kd
  (repeat' split) <;> omega
theorem kd_digit (c : Int) : kd c = 3 ↔ (48 ≤ c ∧ c ≤ 57) := by
  unfold kd
  (repeat' split) <;> omega
theorem c_readWord {p n : Int} {t : Int → Int} {m : Mi} {J : Mj} (hp : PP P) (hn : 0 ≤ p ∧ p ≤ n ∧ n ≤ 1600) (ht : ∀ x, 0 ≤ t x ∧ t x ≤ 255) (ht0 : ∀ x, n ≤ x → t x = 0) (hs : m 2 5 = p) (ha : m 2 3 = p) (he : m 2 2 = n) (hl : lc m = t) {post : Mi → Mj → Mp → Prop} (k : ∀ m' J', Wc t p (tW t n p) m J m' J' → post m' J' P) : Cv X (d + 1) 21 [.ref 2] m J P post := by
  refine Cv.of rfl rfl rfl (b_Text_readWord_0 m J P hp post ?_)
  refine c_readWord_5 (t := t) (p := p) (n := n) hp ⟨hn.1, hn.2.2⟩ ht ht0 (n - p).toNat m _ p rfl hs ha he hl (by omega) ?_ fun m' J' h => k m' J' ?_
  · rw [mju_at, show (p - p).toNat = 0 by omega]; rfl
  · obtain ⟨s1, s2, s3, s4, s5⟩ := h
    exact ⟨s1, s2, s3, s4, fun a k g => by rw [s5 a k g]; exact mju_ne _ _ g⟩
theorem c_adv_tail {m : Mi} {J : Mj} {p n : Int} {t : Int → Int} (hp : PP P) (hs : m 2 5 = p) (ha : m 2 3 = p) (he : m 2 2 = n) (hl : lc m = t) (ht : ∀ x, 0 ≤ t x ∧ t x ≤ 255) (hq : 0 ≤ p ∧ p < n ∧ n ≤ 1600) {post : Mi → Mj → Mp → Prop} (k : ∀ m' J', Tc t n p m J m' J' → post m' J' P) : ((0 : Int) ≤ (m 2 3) ∧ ((m 2 3) : Int) < 1600) ∧ Ci X (d + 1) 20 [.int (iz (m 3 (m 2 3).toNat))] m J P (fun z9 m6 J7 P8 => PP P8 ∧ Zr ((mu m6 2 4 z9) 2 4) ∧ (((((mu m6 2 4 z9) 2 4) = 1) → Cv X (d + 1) 21 [.ref 2] (mu m6 2 4 z9) J7 P8 (fun m12 J13 P14 => PP P14 ∧ post m12 J13 P14)) ∧ (¬ (((mu m6 2 4 z9) 2 4) = 1) → Zr ((mu m6 2 4 z9) 2 4) ∧ (((¬ ((mu m6 2 4 z9) 2 4) = 2) → ((0 : Int) ≤ ((mu m6 2 4 z9) 2 3) ∧ (((mu m6 2 4 z9) 2 3) : Int) < 1600) ∧ Zr ((adv m6 z9) 2 4) ∧ (((((adv m6 z9) 2 4) = 9) → Zr ((adv m6 z9) 2 3) ∧ Zr ((adv m6 z9) 2 2) ∧ (((((adv m6 z9) 2 2) ≤ ((adv m6 z9) 2 3)) → Rn X (d + 2) 19 194 [some (.ref 2)] [] (SS (mu (adv m6 z9) 2 4 12) J7 P8) (QV post)) ∧ (¬ (((adv m6 z9) 2 2) ≤ ((adv m6 z9) 2 3)) → ((0 : Int) ≤ ((adv m6 z9) 2 3) ∧ (((adv m6 z9) 2 3) : Int) < 1600) ∧ Zr ((adv m6 z9) 3 ((adv m6 z9) 2 3).toNat) ∧ (((¬ ((adv m6 z9) 3 ((adv m6 z9) 2 3).toNat) = 62) → Rn X (d + 2) 19 194 [some (.ref 2)] [] (SS (mu (adv m6 z9) 2 4 12) J7 P8) (QV post)) ∧ (¬ (¬ ((adv m6 z9) 3 ((adv m6 z9) 2 3).toNat) = 62) → Rn X (d + 2) 19 194 [some (.ref 2)] [] (SS (mu (adv m6 z9) 2 3 (((adv m6 z9) 2 3) + 1)) J7 P8) (QV post)))))) ∧ (¬ (((adv m6 z9) 2 4) = 9) → post (adv m6 z9) J7 P8))) ∧ (¬ (¬ ((mu m6 2 4 z9) 2 4) = 2) → Cv X (d + 1) 21 [.ref 2] (mu m6 2 4 z9) J7 P8 (fun m24 J25 P26 => PP P26 ∧ post m24 J25 P26)))))) := by
  have htp := ht p
  have hz : Zr (t p) := by constructor <;> omega
  have ht0 : ∀ x, n ≤ x → t x = 0 := fun x hx => by rw [← hl, lc, he, if_pos hx]
  have hkd := kd_bd (t p)
  have hk : Zr (kd (t p)) := by constructor <;> omega
  have e0 : m 3 p.toNat = t p := by rw [← hl, lc, if_neg (by omega)]
  have hn : ¬ n ≤ p := by omega
  refine ⟨by omega, ?_⟩
  rw [ha, e0]
  have word : kd (t p) = 1 ∨ kd (t p) = 2 → Cv X (d + 1) 21 [.ref 2] (mu m 2 4 (kd (t p))) J P (fun m12 J13 P14 => PP P14 ∧ post m12 J13 P14) := fun h => by
    have hw := (kd_word _).mp h
    refine c_readWord (t := t) (p := p) (n := n) hp (by omega) ht ht0 (by rw [mu_ne _ _ (by decide)]; exact hs) (by rw [mu_ne _ _ (by decide)]; exact ha) (by rw [mu_ne _ _ (by decide)]; exact he) (by rw [← hl]; exact lc_eq (mu_ne _ _ (by decide)) (fun k => mu_ne _ _ (fun e => by cases e.1))) fun m' J' g => ⟨hp, k m' J' ?_⟩
    obtain ⟨s1, s2, s3, s4, s5⟩ := g
    rw [mu_at] at s2
    refine ⟨⟨?_, ?_, ?_⟩, fun g => ?_, fun _ => ?_, fun a k g => ?_, s5⟩
    · rw [s4 _ _ (by decide), mu_ne _ _ (by decide)]; exact hs
    · rw [s1, tB, if_neg hn, if_neg hw.1, if_pos hw.2]
    · rw [s2, tK, if_neg hn, if_pos h]
    · exfalso
      rw [s2] at g
      revert g
      repeat' split
      all_goals omega
    · rw [s1]; exact s3
    · rw [s4 a k (fun e => g ⟨e.1, by rcases e.2 with e | e; exact Or.inl e; exact Or.inr (Or.inl e)⟩), mu_ne _ _ (fun e => g ⟨e.1, Or.inr (Or.inl e.2)⟩)]
  refine c_kindOf hp hz ⟨hp, by rw [mu_at]; exact hk, fun g => ?_, fun g => ⟨by rw [mu_at]; exact hk, fun g2 => ?_, fun g2 => ?_⟩⟩
  · rw [mu_at] at g; exact word (Or.inl g)
  · rw [mu_at] at g g2
    have hw : ¬ (kd (t p) = 1 ∨ kd (t p) = 2) := by omega
    have hw2 : ¬ (¬ (48 ≤ t p ∧ t p ≤ 57) ∧ 0 < cd (t p)) := fun h => hw ((kd_word _).mpr h)
    have ea : adv m (kd (t p)) 2 3 = p + 1 := by rw [adv_at, ha]
    have ed : adv m (kd (t p)) 2 6 = t p - 48 := by rw [adv_digit, ha, e0]
    have eb : ¬ (kd (t p) = 9 ∧ t (p + 1) = 62) → tB t n p = p + 1 := fun h => by
      rw [kd_dash] at h
      rw [tB, if_neg hn]
      by_cases h1 : 48 ≤ t p ∧ t p ≤ 57
      · rw [if_pos h1]
      · rw [if_neg h1, if_neg (fun h2 => hw2 ⟨h1, h2⟩), if_neg h]
    have bare : ¬ (kd (t p) = 9 ∧ t (p + 1) = 62) → kd (t p) = 9 → post (mu (adv m (kd (t p))) 2 4 12) J P := fun h h9 => by
      refine k _ J ⟨⟨?_, ?_, ?_⟩, fun g => ?_, fun g => ?_, fun a k g => ?_, fun _ _ _ => rfl⟩
      · rw [mu_ne _ _ (by decide), adv_o _ _ (by decide)]; exact hs
      · rw [mu_ne _ _ (by decide), ea, eb h]
      · rw [mu_at, tK, if_neg hn, if_neg hw, if_pos h9, if_neg (fun h2 => h ⟨h9, h2⟩)]
      · exfalso; rw [mu_at] at g; exact absurd g (by decide)
      · exfalso; rw [mu_at] at g; exact absurd g (by decide)
      · rw [mu_ne _ _ (fun e => g ⟨e.1, Or.inr (Or.inl e.2)⟩)]
        exact adv_o _ _ (fun e => g ⟨e.1, by rcases e.2 with e | e | e; exact Or.inl e; exact Or.inr (Or.inl e); exact Or.inr (Or.inr (Or.inr e))⟩)
    refine ⟨by rw [mu_ne _ _ (by decide), ha]; omega, by show Zr (adv m (kd (t p)) 2 4); rw [adv_kind]; exact hk, fun g3 => ?_, fun g3 => ?_⟩
    · have g3' : adv m (kd (t p)) 2 4 = 9 := g3
      rw [adv_kind] at g3'
      have el : adv m (kd (t p)) 2 2 = n := by rw [adv_o _ _ (by decide)]; exact he
      refine ⟨by show Zr (adv m (kd (t p)) 2 3); rw [ea]; constructor <;> omega, by show Zr (adv m (kd (t p)) 2 2); rw [el]; constructor <;> omega, fun g4 => ?_, fun g4 => ?_⟩
      · have g4' : adv m (kd (t p)) 2 2 ≤ adv m (kd (t p)) 2 3 := g4
        rw [el, ea] at g4'
        exact b_Text_advance_194 _ J P hp post (bare (fun h => by rw [ht0 _ g4'] at h; exact absurd h.2 (by decide)) g3')
      · have g4' : ¬ adv m (kd (t p)) 2 2 ≤ adv m (kd (t p)) 2 3 := g4
        rw [el, ea] at g4'
        have e1 : adv m (kd (t p)) 3 (adv m (kd (t p)) 2 3).toNat = t (p + 1) := by
          rw [ea, adv_o _ _ (fun e => by cases e.1), ← hl, lc, if_neg (by omega)]
        have ht1 := ht (p + 1)
        refine ⟨by show 0 ≤ adv m (kd (t p)) 2 3 ∧ adv m (kd (t p)) 2 3 < 1600; rw [ea]; omega, by show Zr (adv m (kd (t p)) 3 (adv m (kd (t p)) 2 3).toNat); rw [e1]; constructor <;> omega, fun g5 => ?_, fun g5 => ?_⟩
        · have g5' : ¬ adv m (kd (t p)) 3 (adv m (kd (t p)) 2 3).toNat = 62 := g5
          rw [e1] at g5'
          exact b_Text_advance_194 _ J P hp post (bare (fun h => g5' h.2) g3')
        · have g5' : ¬ ¬ adv m (kd (t p)) 3 (adv m (kd (t p)) 2 3).toNat = 62 := g5
          rw [e1] at g5'
          have h62 := Classical.not_not.mp g5'
          have h45 := (kd_dash _).mp g3'
          refine b_Text_advance_194 _ J P hp post ?_
          show post (mu (adv m (kd (t p))) 2 3 (adv m (kd (t p)) 2 3 + 1)) J P
          refine k _ J ⟨⟨?_, ?_, ?_⟩, fun g => ?_, fun g => ?_, fun a k g => ?_, fun _ _ _ => rfl⟩
          · rw [mu_ne _ _ (by decide), adv_o _ _ (by decide)]; exact hs
          · rw [mu_at, ea, tB, if_neg hn, if_neg (by omega), if_neg (fun h2 => hw2 ⟨by omega, h2⟩), if_pos ⟨h45, h62⟩]; omega
          · rw [mu_ne _ _ (by decide), adv_kind, tK, if_neg hn, if_neg hw, if_pos g3', if_pos h62, g3']
          · exfalso; rw [mu_ne _ _ (by decide), adv_kind] at g; omega
          · exfalso; rw [mu_ne _ _ (by decide), adv_kind] at g; omega
          · rw [mu_ne _ _ (fun e => g ⟨e.1, Or.inl e.2⟩)]
            exact adv_o _ _ (fun e => g ⟨e.1, by rcases e.2 with e | e | e; exact Or.inl e; exact Or.inr (Or.inl e); exact Or.inr (Or.inr (Or.inr e))⟩)
    · have g3' : ¬ adv m (kd (t p)) 2 4 = 9 := g3
      rw [adv_kind] at g3'
      show post (adv m (kd (t p))) J P
      refine k _ J ⟨⟨?_, ?_, ?_⟩, fun g => ed, fun g => ?_, fun a k g => ?_, fun _ _ _ => rfl⟩
      · rw [adv_o _ _ (by decide)]; exact hs
      · rw [ea, eb (fun h => g3' h.1)]
      · rw [adv_kind, tK, if_neg hn, if_neg hw, if_neg g3']
      · exfalso; rw [adv_kind] at g; exact hw g
      · exact adv_o _ _ (fun e => g ⟨e.1, by rcases e.2 with e | e | e; exact Or.inl e; exact Or.inr (Or.inl e); exact Or.inr (Or.inr (Or.inr e))⟩)
  · rw [mu_at] at g2
    exact word (Or.inr (Classical.not_not.mp g2))
end CAD
