/-! ABOVE, told once -/
section ABV
variable (cd : Nat → Int) (nx pt : Nat → Nat) (T : Nat → Nat → Prop)
def smB (e t : Nat) : Prop := nx e - e = nx t - t ∧ ∀ k, k < nx e - e → cd (e + k) = cd (t + k)
def anyA (p : Nat → Prop) : Nat → Nat → Prop
  | 0, _ => False
  | q + 1, e => p e ∨ anyA p q (nx e)
def allB (p : Nat → Prop) : Nat → Nat → Prop
  | 0, _ => True
  | q + 1, f => p f ∧ allB p q (nx f)
def lexL : Nat → Nat → Nat → Prop
  | 0, _, _ => False
  | q + 1, e, f => (smB cd nx e f ∧ lexL q (nx e) (nx f)) ∨ (¬ smB cd nx e f ∧ T e f)
def ab2 (s t : Nat) : Prop := 0 ≤ cd s ∧ (anyA nx (fun e => smB cd nx e t ∨ T e t) (pt s) (s + 1) ∨ (0 ≤ cd t ∧ cd t ≤ cd s ∧ allB nx (fun f => T s f) (pt t) (t + 1) ∧ (cd t < cd s ∨ lexL cd nx T (pt t) (s + 1) (t + 1))))
def vB : Nat → Nat → Nat → Prop
  | 0, _, _ => False
  | f + 1, s, t => ab2 cd nx pt (vB f) s t
variable {cd nx pt T} {T' : Nat → Nat → Prop} {L E : Nat}
theorem anyA_congr {p p' : Nat → Prop} {e0 : Nat} : ∀ {q a : Nat}, ch nx e0 q a → (∀ e, a ≤ e → e < e0 → (p e ↔ p' e)) → (anyA nx p q a ↔ anyA nx p' q a)
  | 0, _, _, _ => Iff.rfl
  | q + 1, a, h, g => by
    unfold ch at h
    unfold anyA
    rw [g a (Nat.le_refl _) (by omega), anyA_congr h.2.2 (fun e h1 h2 => g e (by omega) h2)]
theorem allB_congr {p p' : Nat → Prop} {e0 : Nat} : ∀ {q a : Nat}, ch nx e0 q a → (∀ e, a ≤ e → e < e0 → (p e ↔ p' e)) → (allB nx p q a ↔ allB nx p' q a)
  | 0, _, _, _ => Iff.rfl
  | q + 1, a, h, g => by
    unfold ch at h
    unfold allB
    rw [g a (Nat.le_refl _) (by omega), allB_congr h.2.2 (fun e h1 h2 => g e (by omega) h2)]
theorem lexL_congr {e0 f0 : Nat} : ∀ {q a b : Nat}, ch nx e0 q a → ch nx f0 q b → (∀ e f, a ≤ e → e < e0 → b ≤ f → f < f0 → (T e f ↔ T' e f)) → (lexL cd nx T q a b ↔ lexL cd nx T' q a b)
  | 0, _, _, _, _, _ => Iff.rfl
  | q + 1, a, b, h, h', g => by
    unfold ch at h h'
    unfold lexL
    rw [g a b (Nat.le_refl _) (by omega) (Nat.le_refl _) (by omega), lexL_congr h.2.2 h'.2.2 (fun e f h1 h2 h3 h4 => g e f (by omega) h2 (by omega) h4)]
/-- the two sides of a RULE whose names are known -/
def Rw (cd : Nat → Int) (nx pt : Nat → Nat) (L E : Nat) : Prop := Tm nx pt 0 L ∧ Tm nx pt L E ∧ (∀ c, c < E → cd c < 0 → pt c = 0) ∧ (∀ c c', c < E → c' < E → 0 ≤ cd c → cd c = cd c' → pt c = pt c') ∧ (∀ c, c < E → pt c ≤ 4) ∧ (∀ c, c < E → -8 ≤ cd c ∧ cd c < 16)
theorem Rw_l (h : Rw cd nx pt L E) {s : Nat} (hs : s < L) : s < nx s ∧ nx s ≤ L ∧ ch nx (nx s) (pt s) (s + 1) := h.1.2.2 s (Nat.zero_le _) hs
theorem Rw_r (h : Rw cd nx pt L E) {t : Nat} (h1 : L ≤ t) (h2 : t < E) : t < nx t ∧ nx t ≤ E ∧ ch nx (nx t) (pt t) (t + 1) := h.2.1.2.2 t h1 h2
theorem Rw_LE (h : Rw cd nx pt L E) : 0 < L ∧ L < E := ⟨h.1.1, h.2.1.1⟩
theorem ab2_congr (h : Rw cd nx pt L E) {s t : Nat} (hs : s < L) (ht : L ≤ t ∧ t < E) (g : ∀ e f, (s < e ∧ e < L ∧ t ≤ f ∧ f < E) ∨ (e = s ∧ t < f ∧ f < E) → (T e f ↔ T' e f)) : ab2 cd nx pt T s t ↔ ab2 cd nx pt T' s t := by
  have r1 := Rw_l h hs
  have r2 := Rw_r h ht.1 ht.2
  have hLE := Rw_LE h
  unfold ab2
  have e1 : anyA nx (fun e => smB cd nx e t ∨ T e t) (pt s) (s + 1) ↔ anyA nx (fun e => smB cd nx e t ∨ T' e t) (pt s) (s + 1) := anyA_congr r1.2.2 (fun e h1 h2 => by rw [g e t (Or.inl ⟨by omega, by omega, Nat.le_refl _, ht.2⟩)])
  have e2 : allB nx (fun f => T s f) (pt t) (t + 1) ↔ allB nx (fun f => T' s f) (pt t) (t + 1) := allB_congr r2.2.2 (fun f h1 h2 => g s f (Or.inr ⟨rfl, by omega, by omega⟩))
  rw [e1, e2]
  by_cases q : 0 ≤ cd t ∧ cd t ≤ cd s ∧ ¬ cd t < cd s
  · have ep : pt t = pt s := h.2.2.2.1 t s ht.2 (by omega) q.1 (by omega)
    have e3 : lexL cd nx T (pt t) (s + 1) (t + 1) ↔ lexL cd nx T' (pt t) (s + 1) (t + 1) := lexL_congr (by rw [ep]; exact r1.2.2) r2.2.2 (fun e f h1 h2 h3 h4 => g e f (Or.inl ⟨by omega, by omega, by omega, by omega⟩))
    rw [e3]
  · constructor
    · rintro ⟨a, b⟩
      refine ⟨a, b.imp id ?_⟩
      rintro ⟨b1, b2, b3, b4⟩
      exact ⟨b1, b2, b3, Or.inl (Classical.byContradiction fun n => q ⟨b1, b2, n⟩)⟩
    · rintro ⟨a, b⟩
      refine ⟨a, b.imp id ?_⟩
      rintro ⟨b1, b2, b3, b4⟩
      exact ⟨b1, b2, b3, Or.inl (Classical.byContradiction fun n => q ⟨b1, b2, n⟩)⟩
theorem vB_stab (h : Rw cd nx pt L E) : ∀ (f g s t : Nat), s < L → L ≤ t → t < E → (L - s) + (E - t) ≤ f → (L - s) + (E - t) ≤ g → (vB cd nx pt f s t ↔ vB cd nx pt g s t)
  | 0, _, s, t, hs, h1, h2, hf, _ => absurd hf (by omega)
  | _ + 1, 0, s, t, hs, h1, h2, _, hg => absurd hg (by omega)
  | f + 1, g + 1, s, t, hs, h1, h2, hf, hg => by
    unfold vB
    refine ab2_congr h hs ⟨h1, h2⟩ fun e k q => ?_
    rcases q with ⟨q1, q2, q3, q4⟩ | ⟨rfl, q3, q4⟩
    · exact vB_stab h f g e k q2 (by omega) q4 (by omega) (by omega)
    · exact vB_stab h f g e k hs (by omega) q4 (by omega) (by omega)
/-- ABOVE for the parts of two sides -/
def abT (cd : Nat → Int) (nx pt : Nat → Nat) (E : Nat) (s t : Nat) : Prop := vB cd nx pt (E + E) s t
theorem abT_eq (h : Rw cd nx pt L E) {s t : Nat} (hs : s < L) (ht : L ≤ t ∧ t < E) : abT cd nx pt E s t ↔ ab2 cd nx pt (abT cd nx pt E) s t := by
  have hLE := Rw_LE h
  have e : vB cd nx pt (E + E) s t ↔ vB cd nx pt (E + E + 1) s t := vB_stab h _ _ s t hs ht.1 ht.2 (by omega) (by omega)
  exact e
/-- any ARGUMENT with it: any place of them -/
theorem anyA_seg {p R : Nat → Prop} {e0 : Nat} : ∀ {q a : Nat}, ch nx e0 q a → (∀ e, a ≤ e → e < e0 → e < nx e → nx e ≤ e0 → (p e ↔ ∃ k, e ≤ k ∧ k < nx e ∧ R k)) → (anyA nx p q a ↔ ∃ k, a ≤ k ∧ k < e0 ∧ R k)
  | 0, a, h, _ => by
    unfold ch at h
    unfold anyA
    refine ⟨fun g => g.elim, ?_⟩
    rintro ⟨k, h1, h2, _⟩
    omega
  | q + 1, a, h, g => by
    unfold ch at h
    unfold anyA
    rw [g a (Nat.le_refl _) (by omega) h.1 h.2.1, anyA_seg h.2.2 (fun e h1 h2 h3 h4 => g e (by omega) h2 h3 h4)]
    constructor
    · rintro (⟨k, h1, h2, h3⟩ | ⟨k, h1, h2, h3⟩)
      · exact ⟨k, h1, by omega, h3⟩
      · exact ⟨k, by omega, h2, h3⟩
    · rintro ⟨k, h1, h2, h3⟩
      by_cases e : k < nx a
      · exact Or.inl ⟨k, h1, e, h3⟩
      · exact Or.inr ⟨k, by omega, h2, h3⟩
theorem abT_var (h : Rw cd nx pt L E) {t : Nat} (ht : L ≤ t ∧ t < E) (hv : cd t < 0) : ∀ (f s : Nat), L - s ≤ f → s < L → (abT cd nx pt E s t ↔ 0 ≤ cd s ∧ ∃ k, s ≤ k ∧ k < nx s ∧ cd k = cd t)
  | 0, s, hf, hs => absurd hf (by omega)
  | f + 1, s, hf, hs => by
    have r1 := Rw_l h hs
    have hLE := Rw_LE h
    have nt : nx t = t + 1 := by
      have r2 := (Rw_r h ht.1 ht.2).2.2
      rw [h.2.2.1 t ht.2 hv] at r2
      unfold ch at r2
      omega
    rw [abT_eq h hs ht]
    unfold ab2
    have key : anyA nx (fun e => smB cd nx e t ∨ abT cd nx pt E e t) (pt s) (s + 1) ↔ ∃ k, s + 1 ≤ k ∧ k < nx s ∧ cd k = cd t := by
      refine anyA_seg r1.2.2 fun e h1 h2 h3 h4 => ?_
      have re := Rw_l h (s := e) (by omega)
      by_cases ve : cd e < 0
      · have ne : nx e = e + 1 := by
          have := re.2.2
          rw [h.2.2.1 e (by omega) ve] at this
          unfold ch at this
          omega
        have hF : ¬ abT cd nx pt E e t := fun g => by
          have := ((abT_var h ht hv f e (by omega) (by omega)).mp g).1
          omega
        constructor
        · rintro (g | g)
          · refine ⟨e, Nat.le_refl _, by omega, ?_⟩
            have := g.2 0 (by omega)
            simpa using this
          · exact absurd g hF
        · rintro ⟨k, k1, k2, k3⟩
          have ek : k = e := by omega
          rw [ek] at k3
          refine Or.inl ⟨by omega, fun j hj => ?_⟩
          rw [show j = 0 by omega]
          simpa using k3
      · rw [abT_var h ht hv f e (by omega) (by omega)]
        constructor
        · rintro (g | g)
          · have := g.2 0 (by omega)
            simp at this
            omega
          · exact g.2
        · intro g
          exact Or.inr ⟨by omega, g⟩
    rw [key]
    constructor
    · rintro ⟨a, b⟩
      refine ⟨a, ?_⟩
      rcases b with ⟨k, k1, k2, k3⟩ | b
      · exact ⟨k, by omega, k2, k3⟩
      · exact absurd b.1 (by omega)
    · rintro ⟨a, k, k1, k2, k3⟩
      refine ⟨a, Or.inl ⟨k, ?_, k2, k3⟩⟩
      have : k ≠ s := fun e => by rw [e] at k3; omega
      omega
end ABV
