/-! the law's beginning: both objects are made -/
def an_sig1 : am_S := match an_r1 with
  | some r => r.2
  | none => an_s0
def an_sig : am_S := match an_r2 with
  | some r => r.2
  | none => an_s0
theorem an_r1_K : an_ckr an_r1 (fun σ => decide (σ.1.length = 261)) = true := by decide +kernel
theorem an_ckr_of {o : Option (Option Value × am_S)} {f : am_S → Bool} (h : an_ckr o f = true) : ∃ σ, o = some (none, σ) ∧ f σ = true := by
  unfold an_ckr at h
  split at h
  · rename_i r
    rw [Bool.and_eq_true, decide_eq_true_eq] at h
    exact ⟨r.2, by rw [← h.1], h.2⟩
  · cases h
theorem an_r1_is : an_r1 = some (none, an_sig1) ∧ an_sig1.1.length = 261 := by
  obtain ⟨σ, h1, h2⟩ := an_ckr_of an_r1_K
  have e : an_sig1 = σ := by unfold an_sig1; rw [h1]
  rw [e]
  exact ⟨h1, of_decide_eq_true h2⟩
theorem an_r2_is : an_r2 = some (none, an_sig) ∧ an_sig.1 = an_K ∧ PP an_sig.2.2.2 := by
  obtain ⟨σ, h1, h2⟩ := an_ckr_of an_r2_K
  have e : an_sig = σ := by unfold an_sig; rw [h1]
  rw [e]
  rw [Bool.and_eq_true] at h2
  refine ⟨h1, of_decide_eq_true h2.1, fun o k q hq => ?_⟩
  unfold an_pt at hq
  obtain ⟨t, ht, rfl⟩ := Option.map_eq_some_iff.mp hq
  have h3 := List.find?_some ht
  rw [Bool.and_eq_true, beq_iff_eq, beq_iff_eq] at h3
  have h4 := of_decide_eq_true (List.all_eq_true.mp h2.2 t (List.mem_of_find?_eq_some ht))
  rw [← h3.1, ← h3.2]
  exact h4
def an_m0 : Mi := fun a k => (an_sig.2.1 a k).toInt
def an_J0 : Mj := an_sig.2.2.1
def an_P0 : Mp := an_sig.2.2.2
theorem am_S_eta (x : am_S) : x = (x.1, x.2.1, x.2.2.1, x.2.2.2) := rfl
theorem an_sig_SS : an_sig = SS an_m0 an_J0 an_P0 := by
  have h2 := an_r2_is.2.1
  unfold an_m0 an_J0 an_P0
  generalize an_sig = x at h2 ⊢
  rw [am_S_eta x, h2]
  simp only [SS, iz_of]
theorem an_PP0 : PP an_P0 := an_r2_is.2.2
theorem Rc.of_run {x : Nat × (Nat → Int32)} {n d mid k : Nat} {as : List Value} {σ τ : am_S} {o : Option (Option Value × am_S)} (e : o = am none an_ec an_mtf an_cd n d mid 0 (am_en as k) [] σ) (h : o = some (none, τ)) (hm : (an_mtf mid).map (fun M => M.2.2.1) = some k) (hl : (am_en as k).length = k) : Rc (some x) d mid as σ (fun v τ' => v = none ∧ τ' = τ) := by
  obtain ⟨M, h1, h2⟩ := Option.map_eq_some_iff.mp hm
  subst h2
  rw [e] at h
  exact ⟨M, h1, hl, n, _, am_anyX _ _ _ _ _ _ _ _ h, rfl, rfl⟩
theorem law_begin {X : aX} {σ1 σ2 : am_S} {Q : Option Value → am_S → Prop} (h1 : σ1.1.length = 261) (c1 : Rc X 10 1 [.ref 1] (am_nw an_s0 (.inl 0)) (fun v τ => v = none ∧ τ = σ1)) (c2 : Rc X 10 132 [.ref 262] (am_nw σ1 (.inl 11)) (fun v τ => v = none ∧ τ = σ2)) (h : Rn X 11 0 18 [some (.ref 0), some (.ref 1), some (.ref 262), some (.int (iz 0))] [] σ2 Q) : Rn X 11 0 0 (am_en [.ref 0] 4) [] an_s0 Q := by
  refine rn_stps (q0 := (0, am_en [.ref 0] 4, [], an_s0)) (q := (4, [some (.ref 0), none, none, none], [.ref 1, .ref 1], am_nw an_s0 (.inl 0))) 2 rfl ?_
  refine rn_c (d := 10) (t := [.ref 1]) (an_cd_mt (pc := 4) (e := (.invokespecial 9, 1, 1, 0)) rfl) (i := .invokespecial 9) (r1 := 1) (r2 := 1) (r3 := 0) rfl rfl rfl (Nat.le_of_ble_eq_true rfl) c1 fun v τ ⟨e1, e2⟩ => ?_
  subst e1; subst e2
  refine s_astore_n (pc := 7) (L' := [some (.ref 0), some (.ref 1), none, none]) rfl (Nat.le_of_ble_eq_true rfl) rfl ?_
  refine rn_ins (pc := 8) (i := .new 10) (r1 := 11) (r2 := 0) (r3 := 0) (q := (11, [some (.ref 0), some (.ref 1), none, none], [.ref (τ.1.length + 1)], am_nw τ (.inl 11))) rfl rfl nofun nofun rfl ?_
  refine s_dup (pc := 11) rfl rfl ?_
  rw [h1]
  refine rn_c (d := 10) (t := [.ref 262]) (an_cd_mt (pc := 12) (e := (.invokespecial 12, 1, 132, 0)) rfl) (i := .invokespecial 12) (r1 := 1) (r2 := 132) (r3 := 0) rfl rfl rfl (Nat.le_of_ble_eq_true rfl) c2 fun v τ2 ⟨e1, e2⟩ => ?_
  subst e1; subst e2
  refine s_astore_n (pc := 15) (L' := [some (.ref 0), some (.ref 1), some (.ref 262), none]) rfl (Nat.le_of_ble_eq_true rfl) rfl ?_
  refine s_iconst (pc := 16) rfl ?_
  exact s_istore_n (pc := 17) (L' := [some (.ref 0), some (.ref 1), some (.ref 262), some (.int (iz 0))]) rfl (Nat.le_of_ble_eq_true rfl) rfl h
theorem an_r1_e : an_r1 = am none an_ec an_mtf an_cd 1000 10 1 0 (am_en [.ref 1] 1) [] (am_nw an_s0 (.inl 0)) := by unfold an_r1; rfl
theorem an_r2_e : an_r2 = am none an_ec an_mtf an_cd 1000 10 132 0 (am_en [.ref 262] 1) [] (am_nw an_sig1 (.inl 11)) := by
  unfold an_r2
  rw [an_r1_is.1]
theorem law_start {n0 : Nat} {xs : Nat → Int32} {post : Int → Mi → Mj → Mp → Prop} (h : Rn (some (n0, xs)) 11 0 18 [some (.ref 0), some (.ref 1), some (.ref 262), some (.int (iz 0))] [] (SS an_m0 an_J0 an_P0) (QI post)) : Rn (some (n0, xs)) 11 0 0 (am_en [.ref 0] 4) [] an_s0 (QI post) := by
  rw [← an_sig_SS] at h
  exact law_begin an_r1_is.2 (Rc.of_run an_r1_e an_r1_is.1 rfl rfl) (Rc.of_run an_r2_e an_r2_is.1 rfl rfl) h
