section RN1
variable {X : aX} {d : Nat} {P : Mp}
theorem mju_ne (J : Mj) {a k x y : Nat} (v : Int64) (h : ¬ (x = a ∧ y = k)) : mju J a k v x y = J x y := by simp only [mju, if_neg h]
/-- the two words that the reference knows -/
def wds (J : Mj) : Prop := J 262 8 = 79437 ∧ J 262 9 = 4805381
/-- a word of the reference was read to its end -/
def Wd (t : Int → Int) (p c E : Int) (m : Mi) (J : Mj) (m' : Mi) (J' : Mj) : Prop := m' 262 5 = E ∧ (m' 262 3 = if 8 < E - p then 5 else if c ≤ 90 then 2 else if nmR t p (E - p).toNat = 79437 then 6 else if nmR t p (E - p).toNat = 4805381 then 7 else 1) ∧ (E - p ≤ 8 → J' 262 7 = nmR t p (E - p).toNat) ∧ (∀ a k, ¬ (a = 262 ∧ (k = 3 ∨ k = 5)) → m' a k = m a k) ∧ ∀ a k, ¬ (a = 262 ∧ k = 7) → J' a k = J a k
theorem mju_at (J : Mj) (a k : Nat) (v : Int64) : mju J a k v a k = v := by simp [mju]
theorem r_next_stop {c p n q : Int} {t : Int → Int} {m : Mi} {J : Mj} (hp : PP P) (hc : Zr c) (hn : 0 ≤ p ∧ n ≤ 1600) {post : Mi → Mj → Mp → Prop} (ha : m 262 4 = p) (hb : m 262 5 = q) (he : m 262 2 = n) (hl : lk m = t) (hq : p ≤ q ∧ q ≤ n) (hw : wds J) (hJ : q - p ≤ 8 → J 262 7 = nmR t p (q - p).toNat) (hq2 : cd (t q) ≤ 0) (k : ∀ m' J', Wd t p c q m J m' J' → post m' J' P) : Rn X (d + 2) 138 142 [some (.ref 262), some (.int (iz c))] [] (SS m J P) (QV post) := by
  have fin : ∀ v, v = (if 8 < q - p then 5 else if c ≤ 90 then 2 else if nmR t p (q - p).toNat = 79437 then 6 else if nmR t p (q - p).toNat = 4805381 then 7 else 1) → Rn X (d + 2) 138 283 [some (.ref 262), some (.int (iz c))] [] (SS (mu m 262 3 v) J P) (QV post) := fun v hv => by
    refine b_Mdl_next_283 c _ J P hp post (k _ _ ⟨?_, ?_, hJ, fun a k h => ?_, fun _ _ _ => rfl⟩)
    · rw [mu_ne _ _ (by decide)]; exact hb
    · rw [mu_at]; exact hv
    · exact mu_ne _ _ (fun e => h ⟨e.1, Or.inl e.2⟩)
  have hcd := cd_bd (t q)
  have hlk := lk_bd m q
  rw [hl] at hlk
  refine b_Mdl_next_142 c m J P hp post ?_
  rw [hb]
  refine r_look hp (by omega) (by omega) ⟨hp, ?_⟩
  rw [hl]
  refine r_code hp (by constructor <;> omega) ⟨hp, by constructor <;> omega, fun _ => ⟨by rw [ha, hb]; constructor <;> omega, fun g => ?_, fun g => ?_⟩, fun g => absurd hq2 g⟩
  · rw [ha, hb] at g
    have hJ2 := hJ g
    refine ⟨hc, fun g1 => ⟨zcmp_zr _ _, fun g2 => ⟨zcmp_zr _ _, fun g3 => fin _ ?_, fun g3 => fin _ ?_⟩, fun g2 => fin _ ?_⟩, fun g1 => fin _ ?_⟩
    · rw [zcmp_0, hJ2, hw.1] at g2
      rw [zcmp_0, hJ2, hw.2] at g3
      rw [if_neg (by omega), if_neg (by omega), if_neg g2, if_neg g3]
    · rw [zcmp_0, hJ2, hw.1] at g2
      rw [zcmp_0, hJ2, hw.2] at g3
      rw [if_neg (by omega), if_neg (by omega), if_neg g2, if_pos (Classical.not_not.mp g3)]
    · rw [zcmp_0, hJ2, hw.1] at g2
      rw [if_neg (by omega), if_neg (by omega), if_pos (Classical.not_not.mp g2)]
    · rw [if_neg (by omega), if_pos (by omega)]
  · rw [ha, hb] at g
    refine fin _ ?_
    rw [if_pos (by omega)]
theorem we_stop {t : Int → Int} {q : Int} (h : cd (t q) ≤ 0) : ∀ f, we t f q = q
  | 0 => rfl
  | f + 1 => by unfold we; rw [if_neg (by omega)]
theorem r_next_142 {c p n : Int} {t : Int → Int} (hp : PP P) (hc : Zr c) (hn : 0 ≤ p ∧ n ≤ 1600) (ht : ∀ x, n ≤ x → t x = 0) {post : Mi → Mj → Mp → Prop} : ∀ (f : Nat) (m : Mi) (J : Mj) (q : Int), (n - q).toNat = f → m 262 4 = p → m 262 5 = q → m 262 2 = n → lk m = t → p ≤ q ∧ q ≤ n → wds J → (q - p ≤ 8 → J 262 7 = nmR t p (q - p).toNat) → (∀ m' J', Wd t p c (we t f q) m J m' J' → post m' J' P) → Rn X (d + 2) 138 142 [some (.ref 262), some (.int (iz c))] [] (SS m J P) (QV post) := by
  intro f
  induction f with
  | zero =>
    intro m J q hf ha hb he hl hq hw hJ k
    have hq2 : cd (t q) ≤ 0 := by rw [ht q (by omega)]; decide
    exact r_next_stop hp hc hn ha hb he hl hq hw hJ hq2 k
  | succ f ih =>
    intro m J q hf ha hb he hl hq hw hJ k
    by_cases hq2 : cd (t q) ≤ 0
    · rw [we_stop hq2] at k
      exact r_next_stop hp hc hn ha hb he hl hq hw hJ hq2 k
    have hcd := cd_bd (t q)
    have hlk := lk_bd m q
    rw [hl] at hlk
    have hk : ∀ m' J', Wd t p c (we t f (q + 1)) m J m' J' → post m' J' P := fun m' J' h => k m' J' (by unfold we; rw [if_pos (by omega)]; exact h)
    have e1 : lk (mu m 262 5 (q + 1)) = t := by rw [← hl]; exact lk_eq (mu_ne _ _ (by decide)) (fun k => mu_ne _ _ (fun e => by cases e.1))
    refine b_Mdl_next_142 c m J P hp post ?_
    rw [hb]
    refine r_look hp (by omega) (by omega) ⟨hp, ?_⟩
    rw [hl]
    refine r_code hp (by constructor <;> omega) ⟨hp, by constructor <;> omega, fun g => absurd g hq2, fun _ => ⟨by rw [ha, hb]; constructor <;> omega, fun g => ?_, fun g => ?_⟩⟩
    · rw [hb, ha] at g
      rw [hb]
      refine ih (mu m 262 5 (q + 1)) J (q + 1) (by omega) ?_ (mu_at _ _ _ _) ?_ e1 (by omega) hw (fun h => absurd h (by omega)) (fun m' J' h => hk m' J' ⟨h.1, h.2.1, h.2.2.1, fun a k h2 => ?_, h.2.2.2.2⟩)
      · rw [mu_ne _ _ (by decide)]; exact ha
      · rw [mu_ne _ _ (by decide)]; exact he
      · rw [h.2.2.2.1 a k h2]; exact mu_ne _ _ (fun e => h2 ⟨e.1, Or.inr e.2⟩)
    · rw [hb, ha] at g
      rw [hb]
      refine r_look hp (by omega) (by omega) ⟨hp, ?_⟩
      rw [hl]
      refine r_code hp (by constructor <;> omega) ⟨hp, ?_⟩
      rw [hb]
      refine ih (mu m 262 5 (q + 1)) _ (q + 1) (by omega) ?_ (mu_at _ _ _ _) ?_ e1 (by omega) ?_ (fun h => ?_) (fun m' J' h => hk m' J' ⟨h.1, h.2.1, h.2.2.1, fun a k h2 => ?_, fun a k h2 => ?_⟩)
      · rw [mu_ne _ _ (by decide)]; exact ha
      · rw [mu_ne _ _ (by decide)]; exact he
      · unfold wds at hw ⊢
        rw [mju_ne _ _ (by decide), mju_ne _ _ (by decide)]; exact hw
      · have e2 : (q + 1 - p).toNat = (q - p).toNat + 1 := by omega
        rw [e2, mju_at, hJ (by omega)]
        show _ = Int64.ofNat 64 * nmR t p (q - p).toNat + zi2l (cd (t (p + ((q - p).toNat : Nat))))
        rw [show p + ((q - p).toNat : Nat) = q by omega]
      · rw [h.2.2.2.1 a k h2]; exact mu_ne _ _ (fun e => h2 ⟨e.1, Or.inr e.2⟩)
      · rw [h.2.2.2.2 a k h2]; exact mju_ne _ _ h2
end RN1
