/-! how items lie in one another -/
section STR
/-- k items one behind the other lead from a to e -/
def ch (nx : Nat → Nat) (e : Nat) : Nat → Nat → Prop
  | 0, a => a = e
  | k + 1, a => a < nx a ∧ nx a ≤ e ∧ ch nx e k (nx a)
variable {nx nx' pt pt' op op' : Nat → Nat} {f0 sz dp : Nat} {w : Int}
theorem ch_le {e : Nat} : ∀ {k a : Nat}, ch nx e k a → a + k ≤ e
  | 0, a, h => by unfold ch at h; omega
  | k + 1, a, h => by
    unfold ch at h
    have := ch_le h.2.2
    omega
theorem ch_congr {e : Nat} : ∀ {k a : Nat}, (∀ j, a ≤ j → j < e → nx' j = nx j) → ch nx e k a → ch nx' e k a
  | 0, a, _, h => h
  | k + 1, a, g, h => by
    unfold ch at h ⊢
    have := ch_le h.2.2
    have e1 := g a (Nat.le_refl _) (by omega)
    rw [e1]
    exact ⟨h.1, h.2.1, ch_congr (fun j h1 h2 => g j (by omega) h2) h.2.2⟩
theorem ch_mono {e e' : Nat} (he : e ≤ e') : ∀ {k a : Nat}, ch nx e k a → e < nx e → nx e = e' → ch nx e' (k + 1) a
  | 0, a, h, h1, h2 => by
    unfold ch at h
    rw [h]
    exact ⟨h1, by omega, h2⟩
  | k + 1, a, h, h1, h2 => by
    unfold ch at h
    exact ⟨h.1, by omega, ch_mono he h.2.2 h1 h2⟩
/-- the items while they are read: f0 the first, sz behind the last, dp of them open, w whether one is wanted -/
def yJ (f0 sz dp : Nat) (w : Int) (nx pt op : Nat → Nat) : Prop := (f0 ≤ sz ∧ (∀ i j, i < j → j < dp → op i < op j) ∧ (∀ i, i < dp → f0 ≤ op i ∧ op i < sz)) ∧ (∀ c, f0 ≤ c → c < sz → (∀ i, i < dp → op i ≠ c) → (c < nx c ∧ nx c ≤ sz ∧ ch nx (nx c) (pt c) (c + 1)) ∧ ∀ i, i < dp → c < op i → nx c ≤ op i) ∧ (∀ i, i + 1 < dp → 1 ≤ pt (op i) ∧ ch nx (op (i + 1)) (pt (op i) - 1) (op i + 1)) ∧ (0 < dp → w = 1 → 1 ≤ pt (op (dp - 1)) ∧ ch nx sz (pt (op (dp - 1)) - 1) (op (dp - 1) + 1)) ∧ (0 < dp → w = 0 → ch nx sz (pt (op (dp - 1))) (op (dp - 1) + 1)) ∧ ((0 < dp → op 0 = f0) ∧ (dp = 0 → w = 1 → sz = f0) ∧ (dp = 0 → w = 0 → f0 < sz ∧ nx f0 = sz))
theorem yJ_0 (f0 : Nat) : yJ f0 f0 0 1 nx pt op :=
  ⟨⟨Nat.le_refl _, fun i j _ h => absurd h (Nat.not_lt_zero _), fun i h => absurd h (Nat.not_lt_zero _)⟩, fun c h1 h2 => absurd h2 (by omega), fun i h => absurd h (Nat.not_lt_zero _), fun h => absurd h (Nat.not_lt_zero _), fun h => absurd h (Nat.not_lt_zero _), fun h => absurd h (Nat.not_lt_zero _), fun _ _ => rfl, fun _ h => absurd h (by decide)⟩
theorem yJ_N (h : yJ f0 sz dp 1 nx pt op) (n1 : ∀ c, c < sz → nx' c = nx c) (n2 : nx' sz = sz + 1) (p1 : ∀ c, c < sz → pt' c = pt c) (p2 : pt' sz = 0) : yJ f0 (sz + 1) dp 0 nx' pt' op := by
  obtain ⟨⟨a0, a1, a2⟩, b, c, d1, d0, e1, e2, e3⟩ := h
  refine ⟨⟨by omega, a1, fun i hi => ?_⟩, fun k h1 h2 h3 => ?_, fun i hi => ?_, fun _ h => absurd h (by decide), fun hd _ => ?_, e1, fun _ h => absurd h (by decide), fun hd _ => ?_⟩
  · have := a2 i hi; omega
  · by_cases e : k = sz
    · rw [e, n2, p2]
      exact ⟨⟨by omega, by omega, rfl⟩, fun i hi hl => absurd hl (by have := a2 i hi; omega)⟩
    · obtain ⟨⟨g1, g2, g3⟩, g4⟩ := b k h1 (by omega) h3
      rw [n1 k (by omega), p1 k (by omega)]
      exact ⟨⟨g1, by omega, ch_congr (fun j q1 q2 => n1 j (by omega)) g3⟩, g4⟩
  · have q := c i hi
    have h2 := a2 (i + 1) hi
    rw [p1 _ (a2 i (by omega)).2]
    exact ⟨q.1, ch_congr (fun j q1 q2 => n1 j (by omega)) q.2⟩
  · have q := d1 hd rfl
    have h2 := a2 (dp - 1) (by omega)
    rw [p1 _ h2.2]
    have g := ch_mono (e' := sz + 1) (by omega) (ch_congr (nx' := nx') (fun j q1 q2 => n1 j (by omega)) q.2) (by omega) n2
    rw [show pt (op (dp - 1)) - 1 + 1 = pt (op (dp - 1)) by omega] at g
    exact g
  · have := e2 hd rfl
    exact ⟨by omega, by rw [← this]; exact n2⟩
theorem yJ_O (h : yJ f0 sz dp 1 nx pt op) (n1 : ∀ c, c < sz → nx' c = nx c) (p1 : ∀ c, c < sz → pt' c = pt c) (p2 : pt' sz = 1) (o1 : ∀ i, i < dp → op' i = op i) (o2 : op' dp = sz) : yJ f0 (sz + 1) (dp + 1) 1 nx' pt' op' := by
  obtain ⟨⟨a0, a1, a2⟩, b, c, d1, d0, e1, e2, e3⟩ := h
  refine ⟨⟨by omega, fun i j hi hj => ?_, fun i hi => ?_⟩, fun k h1 h2 h3 => ?_, fun i hi => ?_, fun hd _ => ?_, fun _ h => absurd h (by decide), fun _ => ?_, fun h => absurd h (by omega), fun h => absurd h (by omega)⟩
  · by_cases e : j = dp
    · rw [e, o2, o1 i (by omega)]; exact (a2 i (by omega)).2
    · rw [o1 i (by omega), o1 j (by omega)]; exact a1 i j hi (by omega)
  · by_cases e : i = dp
    · rw [e, o2]; omega
    · rw [o1 i (by omega)]
      have := a2 i (by omega)
      omega
  · have hk : k ≠ sz := fun e => h3 dp (by omega) (o2.trans e.symm)
    obtain ⟨⟨g1, g2, g3⟩, g4⟩ := b k h1 (by omega) (fun i hi e => h3 i (by omega) ((o1 i hi).trans e))
    rw [n1 k (by omega), p1 k (by omega)]
    refine ⟨⟨g1, by omega, ch_congr (fun j q1 q2 => n1 j (by omega)) g3⟩, fun i hi hl => ?_⟩
    by_cases e : i = dp
    · rw [e, o2]; exact g2
    · rw [o1 i (by omega)] at hl ⊢
      exact g4 i (by omega) hl
  · by_cases e : i + 1 = dp
    · have q := d1 (by omega) rfl
      have h2 := a2 (dp - 1) (by omega)
      rw [show dp - 1 = i by omega] at q h2
      rw [o1 i (by omega), e, o2, p1 _ h2.2]
      exact ⟨q.1, ch_congr (fun j q1 q2 => n1 j (by omega)) q.2⟩
    · have q := c i (by omega)
      have h2 := a2 (i + 1) (by omega)
      rw [o1 i (by omega), o1 (i + 1) (by omega), p1 _ (a2 i (by omega)).2]
      exact ⟨q.1, ch_congr (fun j q1 q2 => n1 j (by omega)) q.2⟩
  · rw [show dp + 1 - 1 = dp by omega, o2, p2]
    exact ⟨Nat.le_refl _, rfl⟩
  · by_cases e : dp = 0
    · rw [e] at o2
      rw [o2]; exact e2 e rfl
    · rw [o1 0 (by omega)]; exact e1 (by omega)
theorem yJ_C (h : yJ f0 sz dp 0 nx pt op) (hd : 0 < dp) (p1 : ∀ c, c ≠ op (dp - 1) → pt' c = pt c) (p2 : pt' (op (dp - 1)) = pt (op (dp - 1)) + 1) : yJ f0 sz dp 1 nx pt' op := by
  obtain ⟨⟨a0, a1, a2⟩, b, c, d1, d0, e1, e2, e3⟩ := h
  refine ⟨⟨a0, a1, a2⟩, fun k h1 h2 h3 => ?_, fun i hi => ?_, fun _ _ => ?_, fun _ h => absurd h (by decide), e1, fun h => absurd h (by omega), fun h => absurd h (by omega)⟩
  · rw [p1 k (fun e => h3 (dp - 1) (by omega) e.symm)]
    exact b k h1 h2 h3
  · have := a1 i (dp - 1) (by omega) (by omega)
    rw [p1 (op i) (by omega)]
    exact c i hi
  · rw [p2]
    exact ⟨by omega, d0 hd rfl⟩
theorem yJ_S (h : yJ f0 sz dp 0 nx pt op) (hd : 0 < dp) (n1 : ∀ c, c ≠ op (dp - 1) → nx' c = nx c) (n2 : nx' (op (dp - 1)) = sz) : yJ f0 sz (dp - 1) 0 nx' pt op := by
  obtain ⟨⟨a0, a1, a2⟩, b, c, d1, d0, e1, e2, e3⟩ := h
  have ho := a2 (dp - 1) (by omega)
  refine ⟨⟨a0, fun i j hi hj => a1 i j hi (by omega), fun i hi => a2 i (by omega)⟩, fun k h1 h2 h3 => ?_, fun i hi => ?_, fun _ h => absurd h (by decide), fun hd' _ => ?_, fun hd' => e1 hd, fun _ h => absurd h (by decide), fun hd' _ => ?_⟩
  · by_cases e : k = op (dp - 1)
    · rw [e, n2]
      refine ⟨⟨ho.2, Nat.le_refl _, ch_congr (fun j q1 q2 => n1 j (by omega)) (d0 hd rfl)⟩, fun i hi hl => absurd hl ?_⟩
      have := a1 i (dp - 1) (by omega) (by omega)
      omega
    · obtain ⟨⟨g1, g2, g3⟩, g4⟩ := b k h1 h2 (fun i hi q => by
        by_cases e2 : i = dp - 1
        · exact e (by rw [← q, e2])
        · exact h3 i (by omega) q)
      rw [n1 k e]
      refine ⟨⟨g1, g2, ch_congr (fun j q1 q2 => n1 j (fun e2 => ?_)) g3⟩, fun i hi hl => g4 i (by omega) hl⟩
      have := g4 (dp - 1) (by omega) (by omega)
      omega
  · have q := c i (by omega)
    have h2 := a1 (i + 1) (dp - 1) (by omega) (by omega)
    exact ⟨q.1, ch_congr (fun j q1 q2 => n1 j (by omega)) q.2⟩
  · have q := c (dp - 2) (by omega)
    have h2 := a1 (dp - 2) (dp - 1) (by omega) (by omega)
    rw [show dp - 2 + 1 = dp - 1 by omega] at q
    rw [show dp - 1 - 1 = dp - 2 by omega]
    have g := ch_mono (e' := sz) (by omega) (ch_congr (nx' := nx') (fun j q1 q2 => n1 j (by omega)) q.2) (by omega) n2
    rw [show pt (op (dp - 2)) - 1 + 1 = pt (op (dp - 2)) by omega] at g
    exact g
  · have e4 := e1 hd
    rw [show dp - 1 = 0 by omega] at n2 ho
    rw [e4] at n2 ho
    exact ⟨ho.2, n2⟩
/-- items that are one TERM -/
def Tm (nx pt : Nat → Nat) (f0 sz : Nat) : Prop := f0 < sz ∧ nx f0 = sz ∧ ∀ c, f0 ≤ c → c < sz → c < nx c ∧ nx c ≤ sz ∧ ch nx (nx c) (pt c) (c + 1)
theorem yJ_end (h : yJ f0 sz 0 0 nx pt op) : Tm nx pt f0 sz :=
  ⟨(h.2.2.2.2.2.2.2 rfl rfl).1, (h.2.2.2.2.2.2.2 rfl rfl).2, fun c h1 h2 => (h.2.1 c h1 h2 (fun i hi => absurd hi (Nat.not_lt_zero _))).1⟩
def nxY (Y : Mi) (c : Nat) : Nat := (Y 5 c).toNat
def ptY (Y : Mi) (c : Nat) : Nat := (Y 4 c).toNat
def opY (Y : Mi) (i : Nat) : Nat := (Y 6 i).toNat
/-- the yard's items, and: a VARIABLE has no ARGUMENTS -/
def yK (fr : Int) (Y : Mi) : Prop := yJ fr.toNat (Y 0 3).toNat (Y 0 2).toNat (Y 0 1) (nxY Y) (ptY Y) (opY Y) ∧ ∀ c : Nat, fr ≤ c → (c : Int) < Y 0 3 → (0 ≤ Y 4 c ∧ 0 ≤ Y 5 c) ∧ (0 ≤ Y 1 c → Y 4 c = 0 ∧ ∀ i : Nat, (i : Int) < Y 0 2 → Y 6 i ≠ c)
variable {t : Int → Int} {n most fr : Int} {Y : Mi}
theorem yK_bad {k p : Int} (h : yK fr Y) : yK fr (yBad Y k p) := by
  have e : ∀ a b, a ≠ 0 ∨ b < 5 → yBad Y k p a b = Y a b := fun a b h => by unfold yBad; rw [mu_ne _ _ (by omega), mu_ne _ _ (by omega)]
  have e1 : nxY (yBad Y k p) = nxY Y := by funext c; unfold nxY; rw [e _ _ (by omega)]
  have e2 : ptY (yBad Y k p) = ptY Y := by funext c; unfold ptY; rw [e _ _ (by omega)]
  have e3 : opY (yBad Y k p) = opY Y := by funext c; unfold opY; rw [e _ _ (by omega)]
  unfold yK
  rw [e 0 3 (by omega), e 0 2 (by omega), e 0 1 (by omega), e1, e2, e3]
  refine ⟨h.1, fun c h1 h2 => ?_⟩
  rw [e 4 c (by omega), e 5 c (by omega), e 1 c (by omega)]
  refine ⟨(h.2 c h1 h2).1, fun g => ⟨((h.2 c h1 h2).2 g).1, fun i hi => ?_⟩⟩
  rw [e 6 i (by omega)]
  exact ((h.2 c h1 h2).2 g).2 i hi
theorem yK_N {Y0 : Mi} {v w p q : Int} (h : yK fr Y) (hI : yI n most fr Y) (hf : 0 ≤ fr) (hw : Y 0 1 = 1) (r : ∀ a b, 1 ≤ a → a ≤ 6 → Y0 a b = Y a b) (r0 : Y0 0 2 = Y 0 2 ∧ Y0 0 3 = Y 0 3) : yK fr (yN Y0 v w p q) := by
  obtain ⟨i1, i2, i3, i4, i5, i6, i7, i8, i9⟩ := hI
  have e02 : yN Y0 v w p q 0 2 = Y 0 2 := by simp [yN, yAdd, mu]; exact r0.1
  have e03 : yN Y0 v w p q 0 3 = Y 0 3 + 1 := by simp [yN, yAdd, mu]; exact r0.2
  have e01 : yN Y0 v w p q 0 1 = 0 := by simp [yN, yAdd, mu]
  have en : ∀ a c, 1 ≤ a → a ≤ 6 → c ≠ (Y 0 3).toNat → yN Y0 v w p q a c = Y a c := fun a c h1 h2 h3 => by
    unfold yN yAdd
    rw [r0.2, mu_ne _ _ (by omega), mu_ne _ _ (by omega), mu_ne _ _ (by omega), mu_ne _ _ (by omega), mu_ne _ _ (by omega), mu_ne _ _ (by omega), mu_ne _ _ (by omega), mu_ne _ _ (by omega)]
    exact r a c h1 h2
  have e6 : ∀ i, yN Y0 v w p q 6 i = Y 6 i := fun i => by
    unfold yN yAdd
    rw [mu_ne _ _ (by omega), mu_ne _ _ (by omega), mu_ne _ _ (by omega), mu_ne _ _ (by omega), mu_ne _ _ (by omega), mu_ne _ _ (by omega), mu_ne _ _ (by omega), mu_ne _ _ (by omega)]
    exact r 6 i (by decide) (by decide)
  have s4 : yN Y0 v w p q 4 (Y 0 3).toNat = 0 := by simp [yN, yAdd, mu, r0.2]
  have s5 : yN Y0 v w p q 5 (Y 0 3).toNat = Y 0 3 + 1 := by simp [yN, yAdd, mu, r0.2]
  have eo : opY (yN Y0 v w p q) = opY Y := by funext i; unfold opY; rw [e6]
  unfold yK
  rw [e02, e03, e01, eo, show (Y 0 3 + 1).toNat = (Y 0 3).toNat + 1 by omega]
  have h1 := h.1
  rw [hw] at h1
  refine ⟨yJ_N h1 (fun c hc => by unfold nxY; rw [en 5 c (by decide) (by decide) (by omega)]) (by unfold nxY; rw [s5]; omega) (fun c hc => by unfold ptY; rw [en 4 c (by decide) (by decide) (by omega)]) (by unfold ptY; rw [s4]; rfl), fun c hc1 hc2 => ?_⟩
  by_cases e : c = (Y 0 3).toNat
  · rw [e, s4, s5]
    refine ⟨⟨by decide, by omega⟩, fun _ => ⟨rfl, fun i hi => ?_⟩⟩
    rw [e6]
    have := i6 i hi
    omega
  · rw [en 4 c (by decide) (by decide) e, en 5 c (by decide) (by decide) e, en 1 c (by decide) (by decide) e]
    have g := h.2 c hc1 (by omega)
    refine ⟨g.1, fun q => ⟨(g.2 q).1, fun i hi => ?_⟩⟩
    rw [e6]
    exact (g.2 q).2 i hi
theorem yK_O {w p q : Int} (h : yK fr Y) (hI : yI n most fr Y) (hf : 0 ≤ fr) (hw : Y 0 1 = 1) : yK fr (yO Y w p q) := by
  obtain ⟨i1, i2, i3, i4, i5, i6, i7, i8, i9⟩ := hI
  have e02 : yO Y w p q 0 2 = Y 0 2 + 1 := by simp [yO, yAdd, mu]
  have e03 : yO Y w p q 0 3 = Y 0 3 + 1 := by simp [yO, yAdd, mu]
  have e01 : yO Y w p q 0 1 = 1 := by simp [yO, yAdd, mu]; exact hw
  have en : ∀ a c, 1 ≤ a → a ≤ 5 → c ≠ (Y 0 3).toNat → yO Y w p q a c = Y a c := fun a c h1 h2 h3 => by
    unfold yO yAdd
    rw [mu_ne _ _ (by omega), mu_ne _ _ (by omega), mu_ne _ _ (by omega), mu_ne _ _ (by omega), mu_ne _ _ (by omega), mu_ne _ _ (by omega), mu_ne _ _ (by omega), mu_ne _ _ (by omega), mu_ne _ _ (by omega), mu_ne _ _ (by omega)]
  have e6 : ∀ i, i ≠ (Y 0 2).toNat → yO Y w p q 6 i = Y 6 i := fun i hi => by simp [yO, yAdd, mu, hi]
  have s6 : yO Y w p q 6 (Y 0 2).toNat = Y 0 3 := by simp [yO, yAdd, mu]
  have s4 : yO Y w p q 4 (Y 0 3).toNat = 1 := by simp [yO, yAdd, mu]
  have s5 : yO Y w p q 5 (Y 0 3).toNat = Y 0 3 + 1 := by simp [yO, yAdd, mu]
  have s1 : yO Y w p q 1 (Y 0 3).toNat = -1 := by simp [yO, yAdd, mu]
  unfold yK
  rw [e02, e03, e01, show (Y 0 3 + 1).toNat = (Y 0 3).toNat + 1 by omega, show (Y 0 2 + 1).toNat = (Y 0 2).toNat + 1 by omega]
  have h1 := h.1
  rw [hw] at h1
  refine ⟨yJ_O h1 (fun c hc => by unfold nxY; rw [en 5 c (by decide) (by decide) (by omega)]) (fun c hc => by unfold ptY; rw [en 4 c (by decide) (by decide) (by omega)]) (by unfold ptY; rw [s4]; rfl) (fun i hi => by unfold opY; rw [e6 i (by omega)]) (by unfold opY; rw [s6]), fun c hc1 hc2 => ?_⟩
  by_cases e : c = (Y 0 3).toNat
  · rw [e, s4, s5, s1]
    exact ⟨⟨by decide, by omega⟩, fun h => absurd h (by decide)⟩
  · rw [en 4 c (by decide) (by decide) e, en 5 c (by decide) (by decide) e, en 1 c (by decide) (by decide) e]
    have g := h.2 c hc1 (by omega)
    refine ⟨g.1, fun q => ⟨(g.2 q).1, fun i hi => ?_⟩⟩
    by_cases e2 : i = (Y 0 2).toNat
    · rw [e2, s6]; omega
    · rw [e6 i e2]
      exact (g.2 q).2 i (by omega)
theorem yK_C {q : Int} (h : yK fr Y) (hI : yI n most fr Y) (hf : 0 ≤ fr) (hw : Y 0 1 = 0) (hd : 0 < Y 0 2) : yK fr (yC Y q) := by
  obtain ⟨i1, i2, i3, i4, i5, i6, i7, i8, i9⟩ := hI
  have e02 : yC Y q 0 2 = Y 0 2 := by simp [yC, mu]
  have e03 : yC Y q 0 3 = Y 0 3 := by simp [yC, mu]
  have e01 : yC Y q 0 1 = 1 := by simp [yC, mu]
  have en : ∀ a c, 1 ≤ a → a ≤ 6 → ¬ (a = 4 ∧ c = (yTop Y).toNat) → yC Y q a c = Y a c := fun a c h1 h2 h3 => by
    unfold yC
    rw [mu_ne _ _ (by omega), mu_ne _ _ (by omega), mu_ne _ _ (by omega)]
  have s4 : yC Y q 4 (yTop Y).toNat = Y 4 (yTop Y).toNat + 1 := by simp [yC, mu]
  have et : opY Y ((Y 0 2).toNat - 1) = (yTop Y).toNat := by unfold opY yTop; rw [show (Y 0 2).toNat - 1 = (Y 0 2 - 1).toNat by omega]
  have eo : opY (yC Y q) = opY Y := by funext i; unfold opY; rw [en 6 i (by decide) (by decide) (by omega)]
  have ex : nxY (yC Y q) = nxY Y := by funext i; unfold nxY; rw [en 5 i (by decide) (by decide) (by omega)]
  have tb := i6 (Y 0 2 - 1).toNat (by omega)
  have tb' : fr ≤ yTop Y ∧ yTop Y < Y 0 3 := tb
  have gt := h.2 (yTop Y).toNat (by omega) (by omega)
  unfold yK
  rw [e02, e03, e01, eo, ex]
  have h1 := h.1
  rw [hw] at h1
  refine ⟨yJ_C h1 (by omega) (fun c hc => ?_) ?_, fun c hc1 hc2 => ?_⟩
  · rw [et] at hc
    unfold ptY
    rw [en 4 c (by decide) (by decide) (by omega)]
  · rw [et]
    unfold ptY
    rw [s4]; omega
  · rw [en 5 c (by decide) (by decide) (by omega), en 1 c (by decide) (by decide) (by omega)]
    have g := h.2 c hc1 hc2
    by_cases e : c = (yTop Y).toNat
    · refine ⟨⟨by rw [e, s4]; omega, g.1.2⟩, fun q => ?_⟩
      exact absurd (show Y 6 (Y 0 2 - 1).toNat = c by have := tb'; unfold yTop at this e; omega) ((g.2 q).2 (Y 0 2 - 1).toNat (by omega))
    · rw [en 4 c (by decide) (by decide) (by omega)]
      refine ⟨g.1, fun q => ⟨(g.2 q).1, fun i hi => ?_⟩⟩
      rw [en 6 i (by decide) (by decide) (by omega)]
      exact (g.2 q).2 i hi
theorem yK_S {q : Int} (h : yK fr Y) (hI : yI n most fr Y) (hf : 0 ≤ fr) (hw : Y 0 1 = 0) (hd : 0 < Y 0 2) : yK fr (yS Y q) := by
  obtain ⟨i1, i2, i3, i4, i5, i6, i7, i8, i9⟩ := hI
  have e02 : yS Y q 0 2 = Y 0 2 - 1 := by simp [yS, mu]
  have e03 : yS Y q 0 3 = Y 0 3 := by simp [yS, mu]
  have e01 : yS Y q 0 1 = 0 := by simp [yS, mu]; exact hw
  have en : ∀ a c, 1 ≤ a → a ≤ 6 → ¬ (a = 5 ∧ c = (yTop Y).toNat) → yS Y q a c = Y a c := fun a c h1 h2 h3 => by
    unfold yS
    rw [mu_ne _ _ (by omega), mu_ne _ _ (by omega), mu_ne _ _ (by omega)]
  have s5 : yS Y q 5 (yTop Y).toNat = Y 0 3 := by simp [yS, mu]
  have et : opY Y ((Y 0 2).toNat - 1) = (yTop Y).toNat := by unfold opY yTop; rw [show (Y 0 2).toNat - 1 = (Y 0 2 - 1).toNat by omega]
  have eo : opY (yS Y q) = opY Y := by funext i; unfold opY; rw [en 6 i (by decide) (by decide) (by omega)]
  have ep : ptY (yS Y q) = ptY Y := by funext i; unfold ptY; rw [en 4 i (by decide) (by decide) (by omega)]
  have tb := i6 (Y 0 2 - 1).toNat (by omega)
  have tb' : fr ≤ yTop Y ∧ yTop Y < Y 0 3 := tb
  unfold yK
  rw [e02, e03, e01, eo, ep, show (Y 0 2 - 1).toNat = (Y 0 2).toNat - 1 by omega]
  have h1 := h.1
  rw [hw] at h1
  refine ⟨yJ_S h1 (by omega) (fun c hc => ?_) ?_, fun c hc1 hc2 => ?_⟩
  · rw [et] at hc
    unfold nxY
    rw [en 5 c (by decide) (by decide) (by omega)]
  · rw [et]
    unfold nxY
    rw [s5]
  · rw [en 4 c (by decide) (by decide) (by omega), en 1 c (by decide) (by decide) (by omega)]
    have g := h.2 c hc1 hc2
    have g5 : 0 ≤ yS Y q 5 c := by
      by_cases e : c = (yTop Y).toNat
      · rw [e, s5]; omega
      · rw [en 5 c (by decide) (by decide) (by omega)]; exact g.1.2
    refine ⟨⟨g.1.1, g5⟩, fun q => ⟨(g.2 q).1, fun i hi => ?_⟩⟩
    rw [en 6 i (by decide) (by decide) (by omega)]
    exact (g.2 q).2 i (by omega)
theorem yst_K (h : yK fr Y) (hI : yI n most fr Y) (hf : 0 ≤ fr) : yK fr (yst t n most fr Y) := by
  have i2 := hI.2.1
  have i3 := hI.2.2.1
  unfold yst
  by_cases g1 : Y 0 5 ≠ 0
  · rw [if_pos g1]; exact h
  rw [if_neg g1]
  by_cases g2 : Y 0 1 ≠ 0
  · rw [if_pos g2]
    have hw : Y 0 1 = 1 := by omega
    unfold yHd
    by_cases g3 : ¬ (tK t n (Y 0 0) = 1 ∨ tK t n (Y 0 0) = 2)
    · rw [if_pos g3]; exact yK_bad h
    rw [if_neg g3]
    by_cases g4 : 40 ≤ Y 0 3 - fr
    · rw [if_pos g4]; exact yK_bad h
    rw [if_neg g4]
    by_cases g5 : tK t n (Y 0 0) = 1
    · rw [if_pos g5]
      by_cases g6 : tK t n (nxp t n (Y 0 0)) = 4
      · rw [if_pos g6]; exact yK_O h hI hf hw
      · rw [if_neg g6]; exact yK_N h hI hf hw (fun _ _ _ _ => rfl) ⟨rfl, rfl⟩
    rw [if_neg g5]
    by_cases g6 : 0 ≤ vfi Y (yw t n Y) 0 (Y 0 4).toNat
    · rw [if_pos g6]; exact yK_N h hI hf hw (fun _ _ _ _ => rfl) ⟨rfl, rfl⟩
    rw [if_neg g6]
    by_cases g7 : most ≤ Y 0 4
    · rw [if_pos g7]; exact yK_bad h
    rw [if_neg g7]
    refine yK_N h hI hf hw (fun a b h1 h2 => ?_) ⟨?_, ?_⟩
    · unfold yVn
      rw [mu_ne _ _ (by omega), mu_ne _ _ (by omega)]
    · simp [yVn, mu]
    · simp [yVn, mu]
  rw [if_neg g2]
  by_cases g3 : Y 0 2 ≤ 0
  · rw [if_pos g3]; exact h
  rw [if_neg g3]
  by_cases g4 : tK t n (Y 0 0) = 6
  · rw [if_pos g4]; exact yK_C h hI hf (by omega) (by omega)
  rw [if_neg g4]
  by_cases g5 : tK t n (Y 0 0) = 5
  · rw [if_pos g5]; exact yK_S h hI hf (by omega) (by omega)
  rw [if_neg g5]
  exact yK_bad h
theorem yrn_K (hT : Tx t n) (hf : 0 ≤ fr) : ∀ (f : Nat) (Y : Mi), yI n most fr Y → yK fr Y → yK fr (yrn t n most fr f Y)
  | 0, _, _, h => h
  | f + 1, Y, hI, h => yrn_K hT hf f _ (yst_I hT hf hI).1 (yst_K h hI hf)
/-- what lies ahead of the first item stays -/
theorem yst_low (hI : yI n most fr Y) (hf : 0 ≤ fr) {a c : Nat} (ha : 1 ≤ a ∧ a ≤ 5) (hc : (c : Int) < fr) : yst t n most fr Y a c = Y a c := by
  obtain ⟨i1, i2, i3, i4, i5, i6, i7, i8, i9⟩ := hI
  have hN : ∀ (Y0 : Mi) (v w p q : Int), Y0 a c = Y a c → Y0 0 3 = Y 0 3 → yN Y0 v w p q a c = Y a c := fun Y0 v w p q e e3 => by
    unfold yN yAdd
    rw [e3, mu_ne _ _ (by omega), mu_ne _ _ (by omega), mu_ne _ _ (by omega), mu_ne _ _ (by omega), mu_ne _ _ (by omega), mu_ne _ _ (by omega), mu_ne _ _ (by omega), mu_ne _ _ (by omega)]
    exact e
  have hB : ∀ (k p : Int), yBad Y k p a c = Y a c := fun k p => by unfold yBad; rw [mu_ne _ _ (by omega), mu_ne _ _ (by omega)]
  unfold yst
  by_cases g1 : Y 0 5 ≠ 0
  · rw [if_pos g1]
  rw [if_neg g1]
  by_cases g2 : Y 0 1 ≠ 0
  · rw [if_pos g2]
    unfold yHd
    by_cases g3 : ¬ (tK t n (Y 0 0) = 1 ∨ tK t n (Y 0 0) = 2)
    · rw [if_pos g3]; exact hB _ _
    rw [if_neg g3]
    by_cases g4 : 40 ≤ Y 0 3 - fr
    · rw [if_pos g4]; exact hB _ _
    rw [if_neg g4]
    by_cases g5 : tK t n (Y 0 0) = 1
    · rw [if_pos g5]
      by_cases g6 : tK t n (nxp t n (Y 0 0)) = 4
      · rw [if_pos g6]
        unfold yO yAdd
        rw [mu_ne _ _ (by omega), mu_ne _ _ (by omega), mu_ne _ _ (by omega), mu_ne _ _ (by omega), mu_ne _ _ (by omega), mu_ne _ _ (by omega), mu_ne _ _ (by omega), mu_ne _ _ (by omega), mu_ne _ _ (by omega), mu_ne _ _ (by omega)]
      · rw [if_neg g6]; exact hN _ _ _ _ _ rfl rfl
    rw [if_neg g5]
    by_cases g6 : 0 ≤ vfi Y (yw t n Y) 0 (Y 0 4).toNat
    · rw [if_pos g6]; exact hN _ _ _ _ _ rfl rfl
    rw [if_neg g6]
    by_cases g7 : most ≤ Y 0 4
    · rw [if_pos g7]; exact hB _ _
    rw [if_neg g7]
    refine hN _ _ _ _ _ ?_ ?_
    · unfold yVn
      rw [mu_ne _ _ (by omega), mu_ne _ _ (by omega)]
    · simp [yVn, mu]
  rw [if_neg g2]
  by_cases g3 : Y 0 2 ≤ 0
  · rw [if_pos g3]
  rw [if_neg g3]
  have tb := i6 (Y 0 2 - 1).toNat (by omega)
  have tb' : fr ≤ yTop Y ∧ yTop Y < Y 0 3 := tb
  by_cases g4 : tK t n (Y 0 0) = 6
  · rw [if_pos g4]
    unfold yC
    rw [mu_ne _ _ (by omega), mu_ne _ _ (by omega), mu_ne _ _ (by omega)]
  rw [if_neg g4]
  by_cases g5 : tK t n (Y 0 0) = 5
  · rw [if_pos g5]
    unfold yS
    rw [mu_ne _ _ (by omega), mu_ne _ _ (by omega), mu_ne _ _ (by omega)]
  rw [if_neg g5]
  exact hB _ _
theorem yrn_low (hT : Tx t n) (hf : 0 ≤ fr) {a c : Nat} (ha : 1 ≤ a ∧ a ≤ 5) (hc : (c : Int) < fr) : ∀ (f : Nat) (Y : Mi), yI n most fr Y → yrn t n most fr f Y a c = Y a c
  | 0, _, _ => rfl
  | f + 1, Y, hI => (yrn_low hT hf ha hc f _ (yst_I hT hf hI).1).trans (yst_low hI hf ha hc)
end STR
