/-! what the checks say -/
theorem am_ft_of {t : List (List (Nat × am_E))} {pc : Nat} {e : am_E} (h : am_ft t pc = some e) : ∃ c ∈ t, (pc, e) ∈ c := by
  unfold am_ft at h
  split at h
  · rename_i c hc
    obtain ⟨q, hq, rfl⟩ := Option.map_eq_some_iff.mp h
    have h1 := List.find?_some hq
    rw [beq_iff_eq] at h1
    refine ⟨c, List.mem_of_getElem? hc, ?_⟩
    have h2 := List.mem_of_find?_eq_some hq
    rw [← h1]
    exact h2
  · cases h
theorem an_mok : ∀ (mid : Nat) (N : am_M), an_mtf mid = some N → mid ≠ 0 → am_mok an_Ts N := by
  intro mid N h h0
  obtain ⟨q, hq, rfl⟩ := Option.map_eq_some_iff.mp h
  have key : ∀ q ∈ an_all.tail, am_mok an_Ts q.1 := by
    have e : an_all.tail = an_al_0.tail ++ (an_al_1 ++ (an_al_2 ++ (an_al_3 ++ (an_al_4 ++ (an_al_5 ++ (an_al_6 ++ an_al_7)))))) := rfl
    rw [e]
    exact List.forall_mem_append.mpr ⟨an_mks_0, List.forall_mem_append.mpr ⟨an_mks_1, List.forall_mem_append.mpr ⟨an_mks_2, List.forall_mem_append.mpr ⟨an_mks_3, List.forall_mem_append.mpr ⟨an_mks_4, List.forall_mem_append.mpr ⟨an_mks_5, List.forall_mem_append.mpr ⟨an_mks_6, an_mks_7⟩⟩⟩⟩⟩⟩⟩
  refine key q ?_
  cases mid with
  | zero => exact absurd rfl h0
  | succ k =>
    apply List.mem_of_getElem? (i := k)
    rw [List.getElem?_tail]
    exact hq
theorem an_fl_in {own idx r1 r2 r3 : Nat} {f : Bool} {q : Nat × Nat × Nat × Nat × Nat × Bool × Nat × Nat} (hq : q ∈ an_fl) (h1 : q.1 = own) (h2 : q.2.1 = idx) (h3 : q.2.2.1 = r1) (h4 : q.2.2.2.1 = r2) (h5 : q.2.2.2.2.1 = r3) (h6 : q.2.2.2.2.2.1 = f) :
    ∃ v : vw_C, an_cl[r1]? = some v ∧ r2 < v.2.2 ∧ r3 = am_fk an_cl r1 r2 ∧ Cond.fieldLink (an_own own) idx (v.2.1 r2).1 (v.2.1 r2).2.1 (v.2.1 r2).2.2.1 ∈ an_Ts ∧ f = (v.2.1 r2).2.2.2 ∧ (v.2.1 r2).1 = an_own r1 := by
  have h := List.all_eq_true.mp an_fl_ok q hq
  unfold an_flB at h
  rw [h1, h2, h3, h4, h5, h6] at h
  split at h
  · rename_i v hv
    simp only [Bool.and_eq_true, decide_eq_true_eq] at h
    obtain ⟨⟨⟨⟨g1, g2⟩, g3⟩, g4⟩, g5⟩ := h
    exact ⟨v, hv, g1, g2, an_w_in g3, g4, g5⟩
  · cases h
theorem an_ins_ok {own : Nat} {ini : Bool} {i : Instr} {r1 r2 r3 : Nat} (hc : am_isCall i r1 = false) (h : an_insB own ini (i, r1, r2, r3) = true) : am_ok an_cl an_Ts an_cn (an_own own) ini i r1 r2 r3 := by
  cases i with
  | getfield idx =>
    obtain ⟨q, hq, h⟩ := List.any_eq_true.mp h
    simp only [Bool.and_eq_true, beq_iff_eq] at h
    obtain ⟨⟨⟨⟨g1, g2⟩, g3⟩, g4⟩, g5⟩ := h
    obtain ⟨v, v1, v2, v3, v4, -, -⟩ := an_fl_in hq g1 g2 g3 g4 g5 rfl
    exact ⟨v, v1, v2, v3, v4⟩
  | putfield idx =>
    obtain ⟨q, hq, h⟩ := List.any_eq_true.mp h
    simp only [Bool.and_eq_true, beq_iff_eq] at h
    obtain ⟨⟨⟨⟨⟨g1, g2⟩, g3⟩, g4⟩, g5⟩, g6⟩ := h
    obtain ⟨v, v1, v2, v3, v4, v5, v6⟩ := an_fl_in hq g1 g2 g3 g4 g5 rfl
    refine ⟨v, v1, v2, v3, v4, fun hf => ?_⟩
    rw [v5, hf] at g6
    simp only [Bool.not_true, Bool.false_or, Bool.and_eq_true, beq_iff_eq] at g6
    exact ⟨g6.1, by rw [v6, g6.2]⟩
  | ldc idx =>
    obtain ⟨q, hq, h⟩ := List.any_eq_true.mp h
    simp only [Bool.and_eq_true, beq_iff_eq] at h
    obtain ⟨⟨g1, g2⟩, g3⟩ := h
    have h9 := an_w_in (List.all_eq_true.mp an_ki_ok q hq)
    rw [g1, g2, g3] at h9
    exact h9
  | ldc2_w idx =>
    obtain ⟨q, hq, h⟩ := List.any_eq_true.mp h
    simp only [Bool.and_eq_true, beq_iff_eq] at h
    obtain ⟨⟨g1, g2⟩, g3⟩ := h
    have h9 := an_w_in (List.all_eq_true.mp an_kl_ok q hq)
    rw [g1, g2, g3] at h9
    exact h9
  | new idx =>
    obtain ⟨q, hq, h⟩ := List.any_eq_true.mp h
    simp only [Bool.and_eq_true, beq_iff_eq] at h
    obtain ⟨⟨g1, g2⟩, g3⟩ := h
    have h9 := List.all_eq_true.mp an_nc_ok q hq
    obtain ⟨o, x, ci, c1, j1, c2, j2, c3, j3⟩ := q
    dsimp only at g1 g2 g3
    subst g1; subst g2; subst g3
    unfold an_ncB at h9
    dsimp only at h9
    split at h9
    · rename_i v hv
      simp only [Bool.and_eq_true] at h9
      exact ⟨v, hv, an_w_in h9.1.1, an_w_in h9.1.2, an_w_in h9.2⟩
    · cases h9
  | newarray at' =>
    simp only [an_insB, Bool.or_eq_true, Bool.and_eq_true, beq_iff_eq, decide_eq_true_eq] at h
    rcases h with ((h | h) | h) | h
    · exact Or.inl h
    · exact Or.inr (Or.inl h)
    · exact Or.inr (Or.inr (Or.inl h))
    · exact Or.inr (Or.inr (Or.inr h))
  | anewarray idx =>
    obtain ⟨q, hq, h⟩ := List.any_eq_true.mp h
    simp only [Bool.and_eq_true, beq_iff_eq] at h
    obtain ⟨g1, g2⟩ := h
    have h9 := an_w_in (List.all_eq_true.mp an_aa_ok q hq)
    rw [g1, g2] at h9
    exact h9
  | invokespecial idx =>
    intro _
    obtain ⟨q, hq, h⟩ := List.any_eq_true.mp h
    simp only [Bool.and_eq_true, beq_iff_eq] at h
    obtain ⟨g1, g2⟩ := h
    have h9 := an_w_in (List.all_eq_true.mp an_oi_ok q hq)
    rw [g1, g2] at h9
    exact ⟨h9, an_w_in (c := an_oj.1) (j := an_oj.2.1) (by decide +kernel), an_w_in (c := an_oj.2.2.1) (j := an_oj.2.2.2) (by decide +kernel)⟩
  | invokestatic idx =>
    obtain ⟨q, hq, h⟩ := List.any_eq_true.mp h
    simp only [Bool.and_eq_true, beq_iff_eq] at h
    obtain ⟨⟨g1, g2⟩, g3⟩ := h
    have h9 := List.all_eq_true.mp an_mx_ok q hq
    unfold an_mxB at h9
    rw [g1, g2, g3] at h9
    refine ⟨fun e => ?_, fun e => ?_, fun e => ?_⟩
    · subst e
      exact ⟨an_w_in h9, an_w_in (c := an_jmax.1) (j := an_jmax.2.1) (by decide +kernel), an_w_in (c := an_jmax.2.2.1) (j := an_jmax.2.2.2.1) (by decide +kernel), an_w_in (c := an_jmax.2.2.2.2.1) (j := an_jmax.2.2.2.2.2) (by decide +kernel)⟩
    · subst e
      exact ⟨an_w_in h9, an_w_in (c := an_jmin.1) (j := an_jmin.2.1) (by decide +kernel), an_w_in (c := an_jmin.2.2.1) (j := an_jmin.2.2.2.1) (by decide +kernel), an_w_in (c := an_jmin.2.2.2.2.1) (j := an_jmin.2.2.2.2.2) (by decide +kernel)⟩
    · subst e
      exact ⟨an_w_in h9, an_w_in (c := an_jarraycopy.2.2.2.2.1) (j := an_jarraycopy.2.2.2.2.2) (by decide +kernel), an_w_in (c := an_jarraycopy.1) (j := an_jarraycopy.2.1) (by decide +kernel), an_w_in (c := an_jarraycopy.2.2.1) (j := an_jarraycopy.2.2.2.1) (by decide +kernel)⟩
  | _ => trivial
theorem an_call_ok {own : Nat} {i : Instr} {r1 r2 r3 : Nat} {N : am_M} (h : an_callB own (i, r1, r2, r3) = true) (hN : an_mtf r2 = some N) : am_cok an_cl an_Ts an_nw (an_own own) i r1 r3 N := by
  cases i with
  | invokevirtual idx =>
    obtain ⟨q, hq, h⟩ := List.any_eq_true.mp h
    obtain ⟨o, x, kd, q1, md, np, c1, j1, c2, j2, c3, j3⟩ := q
    simp only [Bool.and_eq_true, Bool.or_eq_true, beq_iff_eq] at h
    obtain ⟨⟨⟨⟨⟨g1, g2⟩, g3⟩, g4⟩, g5⟩, g6⟩ := h
    subst g1; subst g2; subst g4; subst g5; subst g6
    have h9 := List.all_eq_true.mp an_ct_ok _ hq
    unfold an_ctB at h9
    dsimp only at h9
    rw [hN] at h9
    dsimp only at h9
    rw [Bool.and_eq_true, Bool.and_eq_true, decide_eq_true_eq, decide_eq_true_eq] at h9
    obtain ⟨⟨a1, a2⟩, a3⟩ := h9
    rcases g3 with rfl | rfl
    · simp only [Bool.and_eq_true, decide_eq_true_eq] at a3
      obtain ⟨⟨⟨b1, b2⟩, b3⟩, b4⟩ := a3
      obtain ⟨v, hv, e⟩ := Option.map_eq_some_iff.mp b4
      exact ⟨an_mok _ _ hN a1, a2, Or.inl (an_w_in b1), an_w_in b2, an_w_in b3, v, hv, e⟩
    · simp only [Bool.and_eq_true, decide_eq_true_eq] at a3
      obtain ⟨⟨⟨b1, b2⟩, b3⟩, b4⟩ := a3
      obtain ⟨v, hv, e⟩ := Option.map_eq_some_iff.mp b4
      exact ⟨an_mok _ _ hN a1, a2, Or.inr ⟨_, List.mem_of_getElem? b1⟩, an_w_in b2, an_w_in b3, v, hv, e⟩
  | invokespecial idx =>
    obtain ⟨q, hq, h⟩ := List.any_eq_true.mp h
    obtain ⟨o, x, kd, q1, md, np, c1, j1, c2, j2, c3, j3⟩ := q
    simp only [Bool.and_eq_true, Bool.or_eq_true, beq_iff_eq] at h
    obtain ⟨⟨⟨⟨g1, g2⟩, g3⟩, g5⟩, g6⟩ := h
    subst g1; subst g2; subst g5; subst g6
    have h9 := List.all_eq_true.mp an_ct_ok _ hq
    unfold an_ctB at h9
    dsimp only at h9
    rw [hN] at h9
    dsimp only at h9
    rw [Bool.and_eq_true, Bool.and_eq_true, decide_eq_true_eq, decide_eq_true_eq] at h9
    obtain ⟨⟨a1, a2⟩, a3⟩ := h9
    rcases g3 with rfl | rfl
    · simp only [Bool.and_eq_true, decide_eq_true_eq] at a3
      obtain ⟨⟨⟨b1, b2⟩, b3⟩, b4⟩ := a3
      exact ⟨an_mok _ _ hN a1, a2, b1, b2, an_w_in b3, Or.inl (an_w_in b4)⟩
    · simp only [Bool.and_eq_true, decide_eq_true_eq] at a3
      obtain ⟨⟨⟨b1, b2⟩, b3⟩, b4⟩ := a3
      exact ⟨an_mok _ _ hN a1, a2, b1, b2, an_w_in b3, Or.inr ⟨_, List.mem_of_getElem? b4⟩⟩
  | invokestatic idx =>
    obtain ⟨q, hq, h⟩ := List.any_eq_true.mp h
    obtain ⟨o, x, kd, q1, md, np, c1, j1, c2, j2, c3, j3⟩ := q
    simp only [Bool.and_eq_true, beq_iff_eq] at h
    obtain ⟨⟨⟨⟨g1, g2⟩, g3⟩, g5⟩, g6⟩ := h
    subst g1; subst g2; subst g3; subst g5; subst g6
    have h9 := List.all_eq_true.mp an_ct_ok _ hq
    unfold an_ctB at h9
    dsimp only at h9
    rw [hN] at h9
    dsimp only at h9
    rw [Bool.and_eq_true, Bool.and_eq_true, decide_eq_true_eq, decide_eq_true_eq] at h9
    obtain ⟨⟨a1, a2⟩, a3⟩ := h9
    simp only [Bool.and_eq_true, decide_eq_true_eq] at a3
    obtain ⟨⟨b1, b2⟩, b3⟩ := a3
    exact ⟨an_mok _ _ hN a1, a2, an_w_in b1, an_w_in b2, b3⟩
  | _ => cases h
