/-! from a run of the small machine to the claim -/
theorem an_nshape : ∀ w ∈ an_nw, ∃ a i x h, w = Cond.methodLinkNest a i x h := by
  intro w hw
  simp only [an_nw, List.mem_cons, List.not_mem_nil, or_false] at hw
  rcases hw with rfl | rfl | rfl | rfl | rfl | rfl | rfl | rfl | rfl <;> exact ⟨_, _, _, _, rfl⟩
theorem an_nin : an_nw.all (fun w => decide (w ∈ lw_tbl)) = true := by decide +kernel
theorem an_arr {s : State} {args : Array Value} {ty : FieldType} (h : (Cond.arrayClass ty).before args s = true) (hp : ∀ C, ty ≠ .object C) : ∃ cA, ArrOfT s cA ty ∧ va_RA s cA ty := by
  obtain ⟨cA, kA, comp, h1, h2, h3⟩ := Cond.arrayClass_spec h
  refine ⟨cA, fun n z => ⟨fun k h => (by cases h), kA, h2, comp, h3⟩, ?_⟩
  cases ty with
  | object C => exact absurd rfl (hp C)
  | _ => exact h1
theorem an_world {s : State} {args : Array Value} (hts : ∀ w ∈ lw_tbl, w.before args s = true) : ∃ (D : va_G) (dT : Nat → ClassId), va_K D an_cl (am_tys dT an_cn) s ∧ va_AO an_cn s ∧ ∀ w ∈ an_nw, va_Nw w s := by
  have hT : ∀ w ∈ an_Ts, w.before args s = true := fun w hw => hts w (List.mem_filter.mp hw).1
  have hcls : ∀ ci : Nat, ∃ x : ClassId × (Nat → Nat), ∀ q, an_cl[ci]? = some q → u_Kn s q.1 q.2.1 q.2.2 x.1 x.2 := by
    intro ci
    cases hq : an_cl[ci]? with
    | none => exact ⟨(0, fun _ => 0), fun q h => by cases h⟩
    | some q =>
      have hi : (Cond.instantiable q.1 q.2.2).before args s = true := by
        have h1 := List.all_eq_true.mp an_inst q (List.mem_of_getElem? hq)
        exact hts _ (by simpa using h1)
      obtain ⟨cC, iS, h⟩ := u_known hT (an_Tb.1 ci q hq).1 hi
      exact ⟨(cC, iS), fun q' h' => by cases h'; exact h⟩
  have hA0 := an_arr (hT _ an_Tb.2.2.1) (fun C h => by cases h)
  have hA1 := an_arr (hT _ an_Tb.2.2.2.1) (fun C h => by cases h)
  have hA2 := an_arr (hT _ an_Tb.2.2.2.2.1) (fun C h => by cases h)
  have hA3 := an_arr (hT _ an_Tb.2.2.2.2.2) (fun C h => by cases h)
  have hAO : (Cond.arrayOver (.object an_cn)).before args s = true := hts _ (an_tb_in an_jo.1 an_jo.2 _ (by decide +kernel))
  obtain ⟨comp, cO, kO, o1, o2, o3, o4, o5⟩ := Cond.arrayOver_spec hAO
  obtain ⟨f, hf⟩ := Classical.axiomOfChoice hcls
  obtain ⟨a0, p0, q0⟩ := hA0
  obtain ⟨a1, p1, q1⟩ := hA1
  obtain ⟨a2, p2, q2⟩ := hA2
  obtain ⟨a3, p3, q3⟩ := hA3
  refine ⟨(fun ci => (f ci).1, fun ci => (f ci).2), fun t => match t with | 0 => a0 | 1 => a1 | 2 => a2 | 3 => a3 | _ => cO, ⟨fun ci q hq => hf ci q hq, fun k q hk => ?_⟩, va_AO.of hAO, fun w hw => ?_⟩
  · match k, hk with
    | 0, hk => cases hk; exact ⟨p0, q0⟩
    | 1, hk => cases hk; exact ⟨p1, q1⟩
    | 2, hk => cases hk; exact ⟨p2, q2⟩
    | 3, hk => cases hk; exact ⟨p3, q3⟩
    | 4, hk => cases hk; exact ⟨fun N z => ⟨fun k h => (by cases h), kO, o3, comp, o4⟩, kO, comp, o3, o4, o1, o5⟩
    | k + 5, hk => exact absurd hk (by simp [am_tys])
  · have h1 := List.all_eq_true.mp an_nin w hw
    obtain ⟨a, i, x, h, rfl⟩ := an_nshape w hw
    exact va_Nw.of rfl (hts _ (by simpa using h1))
def an_s0 : am_S := ([], fun _ _ => 0, fun _ _ => 0, fun _ _ => none)
theorem an_start {p : Program} {e : Env} {s : State} {m : MethodId} {below : List Frame} {meth : Method} {c : Code} (l : Launch) {b L : Nat} {xs : Nat → Int32} (C0 : lw_At p s m meth c b L xs) {n : Nat} {τ : am_S} (hrun : am (some (L, xs)) an_ec an_mtf an_cd n 11 0 0 (am_en [.ref 0] 4) [] an_s0 = some (some (.int 1), τ)) (hcells : τ.1.length ≤ 600000) (hslots : am_sz an_cl τ.1 ≤ 7302249) :
    W p l e room_1 s m #[Value.ref b] below meth c s.heap [] 0 0 (lw_Z below #[Value.ref b] s) (entryFrame m ([Value.ref b] : List Value).toArray 4) := by
  obtain ⟨hx, hb, hr, hml, hown, hts, hX, hbl, hlocks, hgv⟩ := C0
  obtain ⟨D, dT, hK, hAO, hnw⟩ := an_world hts
  rw [lg_entry_eq]
  refine am_sim an_Tb an_good an_nshape an_cdok l n 11 0 0 (am_en [.ref 0] 4) [] an_s0 (some (.int 1), τ) hrun an_m_0 rfl (sb := b) (b := s.heap.size) (D := D) (dT := dT) (R := room_1) (locs := []) (cells := 0) (slots := 0) ⟨hx, hb, hml, fun w hw => hts w (List.mem_filter.mp hw).1, hown, (fun h => by cases h), hK, hAO, hX, hbl, Nat.le_refl _⟩ hnw (am_lh_en (sb := b) (b := s.heap.size) (n := 4) (as := [.ref 0]) rfl) ⟨fun k q h => by simp [am_ws, an_s0] at h, va_S.rf⟩ ⟨by decide, by decide⟩ rfl ⟨by show 0 + (τ.1.length - 0) ≤ 600000; omega, by show 0 + (am_sz an_cl τ.1 - 0) ≤ 7302249; omega⟩ fun H' locs' ls' pc' st' hen hW' hz' => ?_
  rcases hen with ⟨h, -⟩ | ⟨x, ty, h1, rfl, h3, h4, h5⟩
  · cases h
  · cases h1
    refine va_forget (fun q hq => hW'.2.2.2 q hq) ?_
    refine W.widen (k := 600000) (n := 7302249) (by show 0 + (τ.1.length - 0) ≤ 600000; omega) (by show 0 + (am_sz an_cl τ.1 - 0) ≤ 7302249; omega) ?_
    exact lw_ret hx hb hr hlocks h5
