/-! the class's tokens -/
section CTK
variable {X : aX} {d : Nat} {P : Mp}
/-- the sign at a place, 0 behind the text -/
def lc (m : Mi) (x : Int) : Int := if m 2 2 ≤ x then 0 else m 3 x.toNat
def kd (c : Int) : Int := if 97 ≤ c ∧ c ≤ 122 then 1 else if 65 ≤ c ∧ c ≤ 90 then 2 else if 48 ≤ c ∧ c ≤ 57 then 3 else if c = 40 then 4 else if c = 41 then 5 else if c = 44 then 6 else if c = 45 then 9 else if c = 59 then 7 else if c = 61 then 8 else 12
theorem kd_bd (c : Int) : 1 ≤ kd c ∧ kd c ≤ 12 := by
  unfold kd
  (repeat' split) <;> omega
theorem kd_cd (c : Int) : (kd c = 1 ∨ kd c = 2 ∨ kd c = 3) ↔ 0 < cd c := by
  unfold kd cd
  (repeat' split) <;> omega
theorem c_kindOf {c : Int} {m : Mi} {J : Mj} (hp : PP P) (hc : Zr c) {post : Int → Mi → Mj → Mp → Prop} (k : post (kd c) m J P) : Ci X d 20 [.int (iz c)] m J P post := by
  have e : ∀ v, v = kd c → post v m J P := fun v h => by rw [h]; exact k
  have z : (¬ (97 ≤ c ∧ c ≤ 122) ∧ ¬ (65 ≤ c ∧ c ≤ 90) ∧ ¬ (48 ≤ c ∧ c ≤ 57)) → Rn X d 20 42 [some (.int (iz c))] [] (SS m J P) (QI post) := fun ⟨h1, h2, h3⟩ => by
    unfold kd at e
    rw [if_neg h1, if_neg h2, if_neg h3] at e
    refine b_Text_kindOf_42 c m J P hp post ⟨hc, fun g => e _ ?_, fun g => e _ ?_, fun g => e _ ?_, fun g => e _ ?_, fun g => e _ ?_, fun g => e _ ?_, fun g => e _ ?_⟩
    · rw [if_pos g]
    · rw [if_neg (by omega), if_pos g]
    · rw [if_neg (by omega), if_neg (by omega), if_pos g]
    · rw [if_neg (by omega), if_neg (by omega), if_neg (by omega), if_pos g]
    · rw [if_neg (by omega), if_neg (by omega), if_neg (by omega), if_neg (by omega), if_pos g]
    · rw [if_neg (by omega), if_neg (by omega), if_neg (by omega), if_neg (by omega), if_neg (by omega), if_pos g]
    · rw [if_neg g.1, if_neg g.2.1, if_neg g.2.2.1, if_neg g.2.2.2.1, if_neg g.2.2.2.2.1, if_neg g.2.2.2.2.2]
  have e1 : 97 ≤ c ∧ c ≤ 122 → 1 = kd c := fun h => by unfold kd; rw [if_pos h]
  have e2 : ¬ (97 ≤ c ∧ c ≤ 122) → 65 ≤ c ∧ c ≤ 90 → 2 = kd c := fun h h2 => by unfold kd; rw [if_neg h, if_pos h2]
  have e3 : ¬ (97 ≤ c ∧ c ≤ 122) → ¬ (65 ≤ c ∧ c ≤ 90) → 48 ≤ c ∧ c ≤ 57 → 3 = kd c := fun h h2 h3 => by unfold kd; rw [if_neg h, if_neg h2, if_pos h3]
  refine Ci.of rfl rfl rfl (b_Text_kindOf_0 c m J P hp post ⟨hc, fun g1 => ⟨hc, fun g2 => ⟨hc, fun g3 => z (by omega), fun g3 => ⟨hc, fun g4 => z (by omega), fun g4 => e _ (e3 (by omega) (by omega) (by omega))⟩⟩, fun g2 => ⟨hc, fun g3 => ⟨hc, fun g4 => z (by omega), fun g4 => ⟨hc, fun g5 => z (by omega), fun g5 => e _ (e3 (by omega) (by omega) (by omega))⟩⟩, fun g3 => e _ (e2 (by omega) (by omega))⟩⟩, fun g1 => ⟨hc, fun g2 => ⟨hc, fun g3 => ⟨hc, fun g4 => z (by omega), fun g4 => ⟨hc, fun g5 => z (by omega), fun g5 => e _ (e3 (by omega) (by omega) (by omega))⟩⟩, fun g3 => ⟨hc, fun g4 => ⟨hc, fun g5 => z (by omega), fun g5 => ⟨hc, fun g6 => z (by omega), fun g6 => e _ (e3 (by omega) (by omega) (by omega))⟩⟩, fun g4 => e _ (e2 (by omega) (by omega))⟩⟩, fun g2 => e _ (e1 (by omega))⟩⟩)
theorem c_isWordKind {c : Int} {m : Mi} {J : Mj} (hp : PP P) (hc : Zr c) {post : Int → Mi → Mj → Mp → Prop} (k : post (if c = 1 ∨ c = 2 ∨ c = 3 then 1 else 0) m J P) : Ci X d 22 [.int (iz c)] m J P post := by
  refine Ci.of rfl rfl rfl (b_Text_isWordKind_0 c m J P hp post ⟨hc, fun g => ?_, fun g => ⟨hc, fun g2 => ?_, fun g2 => ⟨hc, fun g3 => ?_, fun g3 => ?_⟩⟩⟩)
  · rw [if_pos (Or.inl g)] at k; exact k
  · rw [if_pos (Or.inr (Or.inl g2))] at k; exact k
  · rw [if_neg (by omega)] at k; exact k
  · rw [if_pos (by omega)] at k; exact k
/-- the number of a word of the class -/
def nmC (t : Int → Int) (p : Int) : Nat → Int64
  | 0 => 0
  | k + 1 => (nmC t p k <<< ((iz 8).toInt64 &&& 63)) ||| zi2l (t (p + k))
/-- a word of the class was read to its end -/
def Wc (t : Int → Int) (p E : Int) (m : Mi) (J : Mj) (m' : Mi) (J' : Mj) : Prop := m' 2 3 = E ∧ (m' 2 4 = if 8 < E - p then 12 else if nmC t p (E - p).toNat = 7567725 then 10 else if nmC t p (E - p).toNat = 1920298085 then 11 else m 2 4) ∧ (J' 2 7 = nmC t p (E - p).toNat) ∧ (∀ a k, ¬ (a = 2 ∧ (k = 3 ∨ k = 4)) → m' a k = m a k) ∧ ∀ a k, ¬ (a = 2 ∧ k = 7) → J' a k = J a k
theorem lc_eq {m m' : Mi} (h1 : m' 2 2 = m 2 2) (h2 : ∀ k, m' 3 k = m 3 k) : lc m' = lc m := by
  funext x
  unfold lc
  rw [h1, h2]
theorem c_word_end {p q : Int} {t : Int → Int} {m : Mi} {J : Mj} (hp : PP P) (hs : m 2 5 = p) (ha : m 2 3 = q) (hq : 0 ≤ p ∧ p ≤ q ∧ q ≤ 1600) (hJ : J 2 7 = nmC t p (q - p).toNat) {post : Mi → Mj → Mp → Prop} (k : ∀ m' J', Wc t p q m J m' J' → post m' J' P) : Zr ((m 2 3) - (m 2 5)) ∧ (((((m 2 3) - (m 2 5)) ≤ 8) → Zr (zcmp (J 2 7) (Int64.ofNat 7567725)) ∧ (((¬ (zcmp (J 2 7) (Int64.ofNat 7567725)) = 0) → Zr (zcmp (J 2 7) (Int64.ofNat 1920298085)) ∧ (((¬ (zcmp (J 2 7) (Int64.ofNat 1920298085)) = 0) → Rn X (d + 1) 21 129 [some (.ref 2)] [] (SS m J P) (QV post)) ∧ (¬ (¬ (zcmp (J 2 7) (Int64.ofNat 1920298085)) = 0) → Rn X (d + 1) 21 129 [some (.ref 2)] [] (SS (mu m 2 4 11) J P) (QV post)))) ∧ (¬ (¬ (zcmp (J 2 7) (Int64.ofNat 7567725)) = 0) → Rn X (d + 1) 21 129 [some (.ref 2)] [] (SS (mu m 2 4 10) J P) (QV post)))) ∧ (¬ (((m 2 3) - (m 2 5)) ≤ 8) → Rn X (d + 1) 21 129 [some (.ref 2)] [] (SS (mu m 2 4 12) J P) (QV post))) := by
  rw [hs, ha]
  have w1 : Int64.ofNat 7567725 = 7567725 := rfl
  have w2 : Int64.ofNat 1920298085 = 1920298085 := rfl
  have fin : ∀ v, v = (if 8 < q - p then 12 else if nmC t p (q - p).toNat = 7567725 then 10 else if nmC t p (q - p).toNat = 1920298085 then 11 else m 2 4) → Rn X (d + 1) 21 129 [some (.ref 2)] [] (SS (mu m 2 4 v) J P) (QV post) := fun v hv => by
    refine b_Text_readWord_129 _ J P hp post (k _ _ ⟨?_, ?_, hJ, fun a k h => ?_, fun _ _ _ => rfl⟩)
    · rw [mu_ne _ _ (by decide)]; exact ha
    · rw [mu_at]; exact hv
    · exact mu_ne _ _ (fun e => h ⟨e.1, Or.inr e.2⟩)
  refine ⟨by constructor <;> omega, fun g => ⟨zcmp_zr _ _, fun g1 => ⟨zcmp_zr _ _, fun g2 => ?_, fun g2 => fin _ ?_⟩, fun g1 => fin _ ?_⟩, fun g => fin _ ?_⟩
  · rw [zcmp_0, hJ, w1] at g1
    rw [zcmp_0, hJ, w2] at g2
    refine b_Text_readWord_129 _ J P hp post (k _ _ ⟨ha, ?_, hJ, fun _ _ _ => rfl, fun _ _ _ => rfl⟩)
    rw [if_neg (by omega), if_neg g1, if_neg g2]
  · rw [zcmp_0, hJ, w1] at g1
    rw [zcmp_0, hJ, w2] at g2
    rw [if_neg (by omega), if_neg g1, if_pos (Classical.not_not.mp g2)]
  · rw [zcmp_0, hJ, w1] at g1
    rw [if_neg (by omega), if_pos (Classical.not_not.mp g1)]
  · rw [if_pos (by omega)]
theorem c_readWord_5 {p n : Int} {t : Int → Int} (hp : PP P) (hn : 0 ≤ p ∧ n ≤ 1600) (ht : ∀ x, 0 ≤ t x ∧ t x ≤ 255) (ht0 : ∀ x, n ≤ x → t x = 0) {post : Mi → Mj → Mp → Prop} : ∀ (f : Nat) (m : Mi) (J : Mj) (q : Int), (n - q).toNat = f → m 2 5 = p → m 2 3 = q → m 2 2 = n → lc m = t → p ≤ q ∧ q ≤ n → J 2 7 = nmC t p (q - p).toNat → (∀ m' J', Wc t p (we t f q) m J m' J' → post m' J' P) → Rn X (d + 1) 21 5 [some (.ref 2)] [] (SS m J P) (QV post) := by
  intro f
  induction f with
  | zero =>
    intro m J q hf hs ha he hl hq hJ k
    refine b_Text_readWord_5 m J P hp post ⟨by constructor <;> omega, by constructor <;> omega, fun g => c_word_end (t := t) hp hs ha (by omega) hJ k, fun g => absurd g (by omega)⟩
  | succ f ih =>
    intro m J q hf hs ha he hl hq hJ k
    have htq := ht q
    have hz : Zr (t q) := by constructor <;> omega
    have hkd := kd_bd (t q)
    have hq3 : m 3 q.toNat = t q := by rw [← hl, lc, if_neg (by omega)]
    refine b_Text_readWord_5 m J P hp post ⟨by constructor <;> omega, by constructor <;> omega, fun g => absurd g (by omega), fun g => ⟨by omega, ?_⟩⟩
    rw [ha, hq3]
    refine c_kindOf hp hz ⟨hp, c_isWordKind hp (by constructor <;> omega) ⟨hp, by split <;> (constructor <;> decide), fun g1 => ?_, fun g1 => ⟨by omega, ?_⟩⟩⟩
    · have hw : ¬ 0 < cd (t q) := fun h => by
        rw [if_pos ((kd_cd _).mpr h)] at g1
        exact absurd g1 (by decide)
      have e : we t (f + 1) q = q := we_stop (by omega) _
      rw [e] at k
      exact c_word_end (t := t) hp hs ha (by omega) hJ k
    · have hw : 0 < cd (t q) := by
        apply (kd_cd _).mp
        apply Classical.byContradiction
        intro h
        rw [if_neg h] at g1
        exact g1 rfl
      rw [ha, hq3]
      refine ih (mu m 2 3 (q + 1)) _ (q + 1) (by omega) (by rw [mu_ne _ _ (by decide)]; exact hs) (mu_at _ _ _ _) (by rw [mu_ne _ _ (by decide)]; exact he) (by rw [← hl]; exact lc_eq (mu_ne _ _ (by decide)) (fun k => mu_ne _ _ (fun e => by cases e.1))) (by omega) ?_ fun m' J' h => k m' J' ?_
      · have e2 : (q + 1 - p).toNat = (q - p).toNat + 1 := by omega
        rw [e2, mju_at, hJ]
        show _ = (nmC t p (q - p).toNat <<< ((iz 8).toInt64 &&& 63)) ||| zi2l (t (p + ((q - p).toNat : Nat)))
        rw [show p + ((q - p).toNat : Nat) = q by omega]
      · have e4 : we t (f + 1) q = we t f (q + 1) := by rw [we, if_pos hw]
        rw [e4]
        obtain ⟨s1, s2, s3, s4, s5⟩ := h
        refine ⟨s1, ?_, s3, fun a k g => ?_, fun a k g => ?_⟩
        · rw [s2, mu_ne _ _ (by decide)]
        · rw [s4 a k g]; exact mu_ne _ _ (fun e => g ⟨e.1, Or.inl e.2⟩)
        · rw [s5 a k g]; exact mju_ne _ _ g
end CTK
