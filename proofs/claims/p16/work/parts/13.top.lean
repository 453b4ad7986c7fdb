/-! the code, the classes, the start -/
theorem an_all_ok : ∀ q ∈ an_all, an_chkM q = true := by
  have e : an_all = an_al_0 ++ (an_al_1 ++ (an_al_2 ++ (an_al_3 ++ (an_al_4 ++ (an_al_5 ++ (an_al_6 ++ an_al_7)))))) := rfl
  rw [e]
  exact List.forall_mem_append.mpr ⟨an_ks_0, List.forall_mem_append.mpr ⟨an_ks_1, List.forall_mem_append.mpr ⟨an_ks_2, List.forall_mem_append.mpr ⟨an_ks_3, List.forall_mem_append.mpr ⟨an_ks_4, List.forall_mem_append.mpr ⟨an_ks_5, List.forall_mem_append.mpr ⟨an_ks_6, an_ks_7⟩⟩⟩⟩⟩⟩⟩
theorem an_cdok : am_cdok an_cl an_Ts an_nw an_cn an_mtf an_cd := by
  intro mid M hM pc i r1 r2 r3 hc
  obtain ⟨q, hq, rfl⟩ := Option.map_eq_some_iff.mp hM
  unfold an_cd at hc
  rw [hq] at hc
  obtain ⟨c, hc1, hc2⟩ := am_ft_of hc
  have h := an_all_ok q (List.mem_of_getElem? hq)
  unfold an_chkM at h
  rw [Bool.and_eq_true, decide_eq_true_eq] at h
  obtain ⟨h1, h2⟩ := h
  have h3 := List.all_eq_true.mp (List.all_eq_true.mp h2 c hc1) _ hc2
  unfold an_chk at h3
  rw [Bool.and_eq_true, decide_eq_true_eq] at h3
  obtain ⟨h4, h5⟩ := h3
  refine ⟨h4, fun hi N hN => ?_, fun hi => ?_⟩
  · rw [if_pos hi] at h5
    rw [h1]
    exact an_call_ok h5 hN
  · rw [if_neg (by rw [hi]; decide)] at h5
    rw [h1]
    exact an_ins_ok hi h5
/-- a class's words, by their places -/
def an_lyB (v : vw_C) (js : List (Nat × Nat)) : Bool := decide (js.length = v.2.2) && (List.range v.2.2).all fun k => match js[k]? with
  | some j => an_w j.1 j.2 (u_lay v.1 v.2.1 k)
  | none => false
theorem an_ly_in {v : vw_C} {js : List (Nat × Nat)} (h : an_lyB v js = true) : ∀ w ∈ u_ws v.1 v.2.1 v.2.2, w ∈ an_Ts := by
  intro w hw
  unfold u_ws at hw
  obtain ⟨k, hk, rfl⟩ := List.mem_map.mp hw
  unfold an_lyB at h
  rw [Bool.and_eq_true] at h
  have h1 := List.all_eq_true.mp h.2 k hk
  split at h1
  · exact an_w_in h1
  · cases h1
def an_clB (ci : Nat) (v : vw_C) (js : List (Nat × Nat)) : Bool := an_lyB v js && ((List.range v.2.2).all fun k => (parseFieldDescriptor (v.2.1 k).2.2.1).isSome && decide (am_fk an_cl ci k ≤ 3)) && (List.range v.2.2).all fun x => (List.range v.2.2).all fun y => decide (x = y) || decide ((v.2.1 x).2.1 ≠ (v.2.1 y).2.1)
theorem an_cl_of {ci : Nat} {v : vw_C} {js : List (Nat × Nat)} (h : an_clB ci v js = true) : (∀ w ∈ u_ws v.1 v.2.1 v.2.2, w ∈ an_Ts) ∧ (∃ ty : Nat → FieldType, ∀ k, k < v.2.2 → parseFieldDescriptor (v.2.1 k).2.2.1 = some (ty k)) ∧ (∀ k, k < v.2.2 → am_fk an_cl ci k ≤ 3) ∧ ∀ x, x < v.2.2 → ∀ y, y < v.2.2 → x ≠ y → (v.2.1 x).2.1 ≠ (v.2.1 y).2.1 := by
  unfold an_clB at h
  simp only [Bool.and_eq_true] at h
  obtain ⟨⟨h1, h2⟩, h3⟩ := h
  refine ⟨an_ly_in h1, ⟨fun k => (parseFieldDescriptor (v.2.1 k).2.2.1).getD .int, fun k hk => ?_⟩, fun k hk => ?_, fun x hx y hy hne => ?_⟩
  · have h4 := List.all_eq_true.mp h2 k (List.mem_range.mpr hk)
    simp only [Bool.and_eq_true] at h4
    obtain ⟨t, ht⟩ := Option.isSome_iff_exists.mp h4.1
    show parseFieldDescriptor _ = some ((parseFieldDescriptor _).getD .int)
    rw [ht]; rfl
  · have h4 := List.all_eq_true.mp h2 k (List.mem_range.mpr hk)
    simp only [Bool.and_eq_true, decide_eq_true_eq] at h4
    exact h4.2
  · have h4 := List.all_eq_true.mp (List.all_eq_true.mp h3 x (List.mem_range.mpr hx)) y (List.mem_range.mpr hy)
    simp only [Bool.or_eq_true, decide_eq_true_eq] at h4
    exact h4.resolve_left hne
theorem an_inst : an_cl.all (fun q => decide (Cond.instantiable q.1 q.2.2 ∈ lw_tbl)) = true := by decide +kernel
theorem an_clok_0 : an_clB 0 ("NarrowHouse", an_T0, 12) an_lj0 = true := by decide +kernel
theorem an_clok_1 : an_clB 1 ("NarrowHouse$Text", an_T1, 8) an_lj1 = true := by decide +kernel
theorem an_clok_2 : an_clB 2 ("NarrowHouse$Reader", an_T2, 5) an_lj2 = true := by decide +kernel
theorem an_clok_3 : an_clB 3 ("NarrowHouse$Order", an_T3, 1) an_lj3 = true := by decide +kernel
theorem an_clok_4 : an_clB 4 ("NarrowHouse$Bench", an_T4, 15) an_lj4 = true := by decide +kernel
theorem an_clok_5 : an_clB 5 ("NarrowHouse$Reducer", an_T5, 11) an_lj5 = true := by decide +kernel
theorem an_clok_6 : an_clB 6 ("NarrowHouse$Pairs", an_T6, 7) an_lj6 = true := by decide +kernel
theorem an_clok_7 : an_clB 7 ("NarrowHouse$Tree", an_T7, 16) an_lj7 = true := by decide +kernel
theorem an_clok_8 : an_clB 8 ("NarrowHouse$Equation", an_T8, 10) an_lj8 = true := by decide +kernel
theorem an_clok_9 : an_clB 9 ("NarrowHouse$Page", an_T9, 5) an_lj9 = true := by decide +kernel
theorem an_clok_10 : an_clB 10 ("NarrowHouse$Book", an_T10, 6) an_lj10 = true := by decide +kernel
theorem an_clok_11 : an_clB 11 ("NarrowHouseModel", an_T11, 140) an_lj11 = true := by decide +kernel
theorem an_Tb : am_Tb an_cl an_Ts an_cn an_ec := by
  refine ⟨fun ci v hv => ?_, ⟨_, rfl, rfl⟩, an_w_in (c := an_ja_int.1) (j := an_ja_int.2) (by decide +kernel), an_w_in (c := an_ja_byte.1) (j := an_ja_byte.2) (by decide +kernel), an_w_in (c := an_ja_boolean.1) (j := an_ja_boolean.2) (by decide +kernel), an_w_in (c := an_ja_long.1) (j := an_ja_long.2) (by decide +kernel)⟩
  match ci, hv with
  | 0, hv => cases hv; exact an_cl_of an_clok_0
  | 1, hv => cases hv; exact an_cl_of an_clok_1
  | 2, hv => cases hv; exact an_cl_of an_clok_2
  | 3, hv => cases hv; exact an_cl_of an_clok_3
  | 4, hv => cases hv; exact an_cl_of an_clok_4
  | 5, hv => cases hv; exact an_cl_of an_clok_5
  | 6, hv => cases hv; exact an_cl_of an_clok_6
  | 7, hv => cases hv; exact an_cl_of an_clok_7
  | 8, hv => cases hv; exact an_cl_of an_clok_8
  | 9, hv => cases hv; exact an_cl_of an_clok_9
  | 10, hv => cases hv; exact an_cl_of an_clok_10
  | 11, hv => cases hv; exact an_cl_of an_clok_11
  | k + 12, hv => exact absurd hv (by simp [an_cl])
