/-! the new pair, from both constructors -/
/-- what both show before the first SYSTEM, whatever was fed -/
abbrev Fr (m : Mi) (P : Mp) : Prop := (m 4 3 = -1 ∧ m 262 12 = -1 ∧ m 4 4 = -1 ∧ m 262 13 = -1 ∧ P 1 8 = some 54 ∧ m 54 4 = 0 ∧ m 262 34 = 0 ∧ m 54 5 = 0 ∧ m 262 35 = 0) ∧ (m 36 3 = 0 ∧ m 36 4 = 0 ∧ m 36 5 = 0 ∧ m 262 44 = 0 ∧ m 262 45 = 0 ∧ m 262 46 = 0 ∧ m 262 47 = 0) ∧ (m 50 1 = 0 ∧ m 262 136 = 0 ∧ m 1 11 = 0 ∧ m 262 33 = 0 ∧ m 38 8 = 0 ∧ m 262 93 = 0 ∧ m 38 11 = 0 ∧ m 38 12 = 0 ∧ m 262 96 = 0 ∧ m 262 98 = 0)
def an_mz (μ : Nat → Nat → Int32) : Mi := fun a k => (μ a k).toInt
/-- a call run by the kernel: it answers v, over the same cells, with every fixed reference in its place -/
def an_okr (o : Option (Option Value × am_S)) (v : Int) (f : am_S → Bool) : Bool := match o with
  | some (some (.int x), σ) => decide (x.toInt = v) && decide (σ.1 = an_K) && an_ptl.all (fun t => decide (σ.2.2.2 t.1 t.2.1 = some t.2.2)) && f σ
  | _ => false
theorem an_okr_of {o : Option (Option Value × am_S)} {v : Int} {f : am_S → Bool} (h : an_okr o v f = true) : ∃ (x : Int32) (σ : am_S), o = some (some (.int x), σ) ∧ x.toInt = v ∧ σ.1 = an_K ∧ PP σ.2.2.2 ∧ f σ = true := by
  unfold an_okr at h
  split at h
  · rename_i x σ
    rw [Bool.and_eq_true, Bool.and_eq_true, Bool.and_eq_true] at h
    obtain ⟨⟨⟨h1, h2⟩, h3⟩, h4⟩ := h
    refine ⟨x, σ, rfl, of_decide_eq_true h1, of_decide_eq_true h2, fun o k q hq => ?_, h4⟩
    unfold an_pt at hq
    obtain ⟨t, ht, rfl⟩ := Option.map_eq_some_iff.mp hq
    have g3 := List.find?_some ht
    rw [Bool.and_eq_true, beq_iff_eq, beq_iff_eq] at g3
    have g4 := of_decide_eq_true (List.all_eq_true.mp h3 t (List.mem_of_find?_eq_some ht))
    rw [← g3.1, ← g3.2]
    exact g4
  · cases h
def an_new (σ : am_S) : Bool := decide (Fr (an_mz σ.2.1) σ.2.2.2 ∧ σ.2.1 2 1 = 0 ∧ σ.2.1 262 1 = 0) && an_okr (am none an_ec an_mtf an_cd 1000 10 14 0 (am_en [.ref 1, .int (iz 0)] 3) [] σ) 2 (fun σ2 => an_okr (am none an_ec an_mtf an_cd 1000 10 136 0 (am_en [.ref 262, .int (iz 0)] 2) [] σ2) 2 (fun _ => true))
theorem an_new_K : an_ckr an_r2 an_new = true := by decide +kernel
