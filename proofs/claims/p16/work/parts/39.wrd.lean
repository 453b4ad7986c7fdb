/-! the two words of the reference, by kernel -/
theorem an_words : an_sig.2.2.1 262 8 = 79437 ∧ an_sig.2.2.1 262 9 = 4805381 := by
  obtain ⟨σ, h1, h2⟩ := an_ckr_of (show an_ckr an_r2 (fun σ => decide (σ.2.2.1 262 8 = 79437 ∧ σ.2.2.1 262 9 = 4805381)) = true by decide +kernel)
  have e : an_sig = σ := by unfold an_sig; rw [h1]
  rw [e]
  exact of_decide_eq_true h2
