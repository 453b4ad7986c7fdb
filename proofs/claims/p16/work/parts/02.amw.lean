/-! the small machine's world over the machine's heap -/
theorem am_i1_of {ρ : Type} {st : List Value} {f : Int32 → List Value → Option ρ} {r : ρ} (h : am_i1 st f = some r) : ∃ x t, st = .int x :: t ∧ f x t = some r := by
  unfold am_i1 at h; split at h
  · exact ⟨_, _, rfl, h⟩
  · cases h
theorem am_i2_of {ρ : Type} {st : List Value} {f : Int32 → Int32 → List Value → Option ρ} {r : ρ} (h : am_i2 st f = some r) : ∃ x y t, st = .int y :: .int x :: t ∧ f x y t = some r := by
  unfold am_i2 at h; split at h
  · exact ⟨_, _, _, rfl, h⟩
  · cases h
theorem am_l1_of {ρ : Type} {st : List Value} {f : Int64 → List Value → Option ρ} {r : ρ} (h : am_l1 st f = some r) : ∃ x t, st = .long x :: t ∧ f x t = some r := by
  unfold am_l1 at h; split at h
  · exact ⟨_, _, rfl, h⟩
  · cases h
theorem am_l2_of {ρ : Type} {st : List Value} {f : Int64 → Int64 → List Value → Option ρ} {r : ρ} (h : am_l2 st f = some r) : ∃ x y t, st = .long y :: .long x :: t ∧ f x y t = some r := by
  unfold am_l2 at h; split at h
  · exact ⟨_, _, _, rfl, h⟩
  · cases h
theorem am_li_of {ρ : Type} {st : List Value} {f : Int64 → Int32 → List Value → Option ρ} {r : ρ} (h : am_li st f = some r) : ∃ x y t, st = .int y :: .long x :: t ∧ f x y t = some r := by
  unfold am_li at h; split at h
  · exact ⟨_, _, _, rfl, h⟩
  · cases h
theorem am_a1_of {ρ : Type} {st : List Value} {f : Nat → List Value → Option ρ} {r : ρ} (h : am_a1 st f = some r) : ∃ x t, st = .ref x :: t ∧ f x t = some r := by
  unfold am_a1 at h; split at h
  · exact ⟨_, _, rfl, h⟩
  · cases h
theorem am_ai_of {ρ : Type} {st : List Value} {f : Nat → Int32 → List Value → Option ρ} {r : ρ} (h : am_ai st f = some r) : ∃ a i t, st = .int i :: .ref a :: t ∧ f a i t = some r := by
  unfold am_ai at h; split at h
  · exact ⟨_, _, _, rfl, h⟩
  · cases h
theorem am_aii_of {ρ : Type} {st : List Value} {f : Nat → Int32 → Int32 → List Value → Option ρ} {r : ρ} (h : am_aii st f = some r) : ∃ a i x t, st = .int x :: .int i :: .ref a :: t ∧ f a i x t = some r := by
  unfold am_aii at h; split at h
  · exact ⟨_, _, _, _, rfl, h⟩
  · cases h
theorem am_ail_of {ρ : Type} {st : List Value} {f : Nat → Int32 → Int64 → List Value → Option ρ} {r : ρ} (h : am_ail st f = some r) : ∃ a i x t, st = .long x :: .int i :: .ref a :: t ∧ f a i x t = some r := by
  unfold am_ail at h; split at h
  · exact ⟨_, _, _, _, rfl, h⟩
  · cases h
theorem am_aia_of {ρ : Type} {st : List Value} {f : Nat → Int32 → Nat → List Value → Option ρ} {r : ρ} (h : am_aia st f = some r) : ∃ a i x t, st = .ref x :: .int i :: .ref a :: t ∧ f a i x t = some r := by
  unfold am_aia at h; split at h
  · exact ⟨_, _, _, _, rfl, h⟩
  · cases h
theorem am_v1_of {ρ : Type} {st : List Value} {f : Value → List Value → Option ρ} {r : ρ} (h : am_v1 st f = some r) : ∃ x t, st = x :: t ∧ f x t = some r := by
  unfold am_v1 at h; split at h
  · exact ⟨_, _, rfl, h⟩
  · cases h
theorem am_v2_of {ρ : Type} {st : List Value} {f : Value → Value → List Value → Option ρ} {r : ρ} (h : am_v2 st f = some r) : ∃ x y t, st = x :: y :: t ∧ f x y t = some r := by
  unfold am_v2 at h; split at h
  · exact ⟨_, _, _, rfl, h⟩
  · cases h
theorem am_av_of {ρ : Type} {st : List Value} {f : Nat → Value → List Value → Option ρ} {r : ρ} (h : am_av st f = some r) : ∃ a v t, st = v :: .ref a :: t ∧ f a v t = some r := by
  unfold am_av at h; split at h
  · exact ⟨_, _, _, rfl, h⟩
  · cases h
theorem am_cp_of {ρ : Type} {st : List Value} {f : Nat → Int32 → Nat → Int32 → Int32 → List Value → Option ρ} {r : ρ} (h : am_cp st f = some r) : ∃ a0 sp a dp n t, st = .int n :: .int dp :: .ref a :: .int sp :: .ref a0 :: t ∧ f a0 sp a dp n t = some r := by
  unfold am_cp at h; split at h
  · exact ⟨_, _, _, _, _, _, rfl, h⟩
  · cases h
theorem am_ti_of {ρ : Type} {v : Option Value} {f : Int32 → Option ρ} {r : ρ} (h : am_ti v f = some r) : ∃ x, v = some (.int x) ∧ f x = some r := by
  unfold am_ti at h; split at h
  · exact ⟨_, rfl, h⟩
  · cases h
theorem am_tl_of {ρ : Type} {v : Option Value} {f : Int64 → Option ρ} {r : ρ} (h : am_tl v f = some r) : ∃ x, v = some (.long x) ∧ f x = some r := by
  unfold am_tl at h; split at h
  · exact ⟨_, rfl, h⟩
  · cases h
theorem am_ta_of {ρ : Type} {v : Option Value} {f : Nat → Option ρ} {r : ρ} (h : am_ta v f = some r) : ∃ x, v = some (.ref x) ∧ f x = some r := by
  unfold am_ta at h; split at h
  · exact ⟨_, rfl, h⟩
  · cases h
theorem am_sx_of {ρ : Type} {X : Option (Nat × (Nat → Int32))} {f : Nat → (Nat → Int32) → Option ρ} {r : ρ} (h : am_sx X f = some r) : ∃ x, X = some x ∧ f x.1 x.2 = some r := by
  unfold am_sx at h; split at h
  · exact ⟨_, rfl, h⟩
  · cases h
theorem am_rw_of {ρ : Type} {k : Option am_K} {f : Nat → Nat → Option ρ} {r : ρ} (h : am_rw k f = some r) : ∃ t n, k = some (.inr (t, n)) ∧ f t n = some r := by
  unfold am_rw at h; split at h
  · exact ⟨_, _, rfl, h⟩
  · cases h
theorem am_if_of {ρ : Type} {c : Prop} [Decidable c] {x : Option ρ} {r : ρ} (h : (if c then x else none) = some r) : c ∧ x = some r := by
  by_cases hc : c
  · rw [if_pos hc] at h; exact ⟨hc, h⟩
  · rw [if_neg hc] at h; cases h
theorem am_ifn_of {ρ : Type} {c : Prop} [Decidable c] {x : Option ρ} {r : ρ} (h : (if c then none else x) = some r) : ¬ c ∧ x = some r := by
  by_cases hc : c
  · rw [if_pos hc] at h; cases h
  · rw [if_neg hc] at h; exact ⟨hc, h⟩
theorem am_eq4 {a a' : Nat} {L L' : am_L} {st st' : List Value} {σ σ' : am_S} (h : some (a, L, st, σ) = (some (a', L', st', σ') : Option am_R)) : a = a' ∧ L = L' ∧ st = st' ∧ σ = σ' := by
  simp only [Option.some.injEq, Prod.mk.injEq] at h
  obtain ⟨h1, h2, h3, h4⟩ := h
  exact ⟨h1, h2, h3, h4⟩
/-- addresses: the script's, then the cells' in the order of their making -/
def am_ad (sb b : Nat) : Nat → Nat
  | 0 => sb
  | i + 1 => b + i
def am_cv (sb b : Nat) : Value → Value
  | .ref a => .ref (am_ad sb b a)
  | v => v
theorem am_cv_cat (sb b : Nat) (v : Value) : (am_cv sb b v).category = v.category := by cases v <;> rfl
theorem am_cv_rf (sb b : Nat) (r : Option Nat) : am_cv sb b (va_rf r) = va_rf (r.map (am_ad sb b)) := by cases r <;> rfl
def am_tk (ty : Option FieldType) : Nat := match ty with
  | some .int => 0
  | some .long => 1
  | some .boolean => 3
  | some (.object _) => 2
  | some (.array _) => 2
  | _ => 9
def am_fk (cl : List vw_C) (ci k : Nat) : Nat := match cl[ci]? with
  | some q => am_tk (parseFieldDescriptor (q.2.1 k).2.2.1)
  | none => 9
def am_nf (cl : List vw_C) (ci : Nat) : Nat := match cl[ci]? with
  | some q => q.2.2
  | none => 0
def am_fs (cl : List vw_C) (sb b : Nat) (σ : am_S) (a ci : Nat) : List Value := (List.range (am_nf cl ci)).map fun k => am_cv sb b (am_fv σ a k (am_fk cl ci k))
def am_co (sb b : Nat) (σ : am_S) (a t : Nat) : (Nat → Int32) ⊕ (Nat → Int64) ⊕ (Nat → UInt32) ⊕ (Nat → UInt64) ⊕ (Nat → Option Nat) := match t with
  | 3 => .inr (.inl (σ.2.2.1 a))
  | 4 => .inr (.inr (.inr (.inr fun j => (σ.2.2.2 a j).map (am_ad sb b))))
  | _ => .inl (σ.2.1 a)
def am_el (cl : List vw_C) (sb b : Nat) (dT : Nat → ClassId) (σ : am_S) (a : Nat) : am_K → va_E
  | .inl ci => .inr (ci, am_fs cl sb b σ a ci)
  | .inr (t, n) => .inl (dT t, n, am_co sb b σ a t)
def am_ws (cl : List vw_C) (sb b : Nat) (dT : Nat → ClassId) (σ : am_S) : va_W := σ.1.zipIdx.map fun q => (b + q.2, am_el cl sb b dT σ (q.2 + 1) q.1)
section AMW
variable {cl : List vw_C} {sb b : Nat} {dT : Nat → ClassId} {σ τ : am_S}
theorem am_ws_len : (am_ws cl sb b dT σ).length = σ.1.length := by simp [am_ws]
theorem am_ws_get (i : Nat) : (am_ws cl sb b dT σ)[i]? = (σ.1[i]?).map fun k => (b + i, am_el cl sb b dT σ (i + 1) k) := by
  simp only [am_ws, List.getElem?_map, List.getElem?_zipIdx, Option.map_map]
  cases σ.1[i]? <;> simp
theorem am_ws_at {i : Nat} {k : am_K} (h : σ.1[i]? = some k) : (am_ws cl sb b dT σ)[i]? = some (b + i, am_el cl sb b dT σ (i + 1) k) := by rw [am_ws_get, h]; rfl
theorem am_ws_of {i : Nat} {q : Nat × va_E} (h : (am_ws cl sb b dT σ)[i]? = some q) : q.1 = b + i := by
  rw [am_ws_get] at h
  cases hk : σ.1[i]? with
  | none => rw [hk] at h; cases h
  | some k => rw [hk] at h; cases h; rfl
theorem am_ws_D : va_D (fun q => b ≤ q) (am_ws cl sb b dT σ) := by
  refine ⟨fun i j p q hp hq e => ?_, fun k q hk => ?_⟩
  · rw [am_ws_of hp, am_ws_of hq] at e; omega
  · show b ≤ q.1
    rw [am_ws_of hk]; omega
theorem am_el_of {a : Nat} {k : am_K} (h1 : τ.2.1 a = σ.2.1 a) (h2 : τ.2.2.1 a = σ.2.2.1 a) (h3 : τ.2.2.2 a = σ.2.2.2 a) : am_el cl sb b dT τ a k = am_el cl sb b dT σ a k := by
  rcases k with ci | ⟨t, n⟩
  · simp only [am_el, am_fs, am_fv, h1, h2, h3]
  · simp only [am_el, am_co, h1, h2, h3]
theorem am_ws_set {i : Nat} {k : am_K} {e : va_E} (hK : τ.1 = σ.1) (h : σ.1[i]? = some k) (he : am_el cl sb b dT τ (i + 1) k = e) (ho : ∀ x, x ≠ i + 1 → τ.2.1 x = σ.2.1 x ∧ τ.2.2.1 x = σ.2.2.1 x ∧ τ.2.2.2 x = σ.2.2.2 x) : (am_ws cl sb b dT σ).set i (b + i, e) = am_ws cl sb b dT τ := by
  apply List.ext_getElem?
  intro j
  rw [List.getElem?_set, am_ws_get, am_ws_get, hK, am_ws_len]
  have hi : i < σ.1.length := (List.getElem?_eq_some_iff.mp h).1
  by_cases hj : i = j
  · subst hj
    rw [if_pos rfl, if_pos hi, h, Option.map_some, he]
  · rw [if_neg hj]
    cases hk : σ.1[j]? with
    | none => rfl
    | some k' =>
      rw [Option.map_some, Option.map_some]
      obtain ⟨h1, h2, h3⟩ := ho (j + 1) (by omega)
      rw [am_el_of h1 h2 h3]
theorem am_up_at {α : Type} {f : Nat → Nat → α} {a k : Nat} {v : α} : am_up f a k v a = fun y => if y = k then v else f a y := by simp [am_up]
theorem am_up_ne {α : Type} {f : Nat → Nat → α} {a k x : Nat} {v : α} (h : x ≠ a) : am_up f a k v x = f x := by simp [am_up, h]
theorem am_kd_of {K : List am_K} {a : Nat} {k : am_K} (h : am_kd K a = some k) : ∃ i, a = i + 1 ∧ K[i]? = some k := by
  cases a with
  | zero => cases h
  | succ i => exact ⟨i, rfl, h⟩
/-- the locals -/
def am_lh (sb b : Nat) (ls : Array Slot) (nL : Nat) (L : am_L) : Prop := ls.size = nL ∧ L.length = nL ∧ lv_wf ls ∧ ∀ (i : Nat) (v : Value), L[i]? = some (some v) → ls[i]? = some (.val (am_cv sb b v))
def am_pl (sb b : Nat) (L : am_L) : List (Nat × Value) := L.zipIdx.filterMap fun q => q.1.map fun v => (q.2, am_cv sb b v)
theorem am_pl_mem {L : am_L} {q : Nat × Value} : q ∈ am_pl sb b L ↔ ∃ v, L[q.1]? = some (some v) ∧ q.2 = am_cv sb b v := by
  simp only [am_pl, List.mem_filterMap, Prod.exists, List.mem_zipIdx_iff_getElem?]
  constructor
  · rintro ⟨o, i, h1, h2⟩
    cases o with
    | none => cases h2
    | some v => cases h2; exact ⟨v, h1, rfl⟩
  · rintro ⟨v, h1, h2⟩
    exact ⟨some v, q.1, h1, by rw [Option.map_some, ← h2]⟩
theorem am_lh_has {ls : Array Slot} {nL : Nat} {L : am_L} (h : am_lh sb b ls nL L) : lv_has ls nL (am_pl sb b L) := ⟨h.1, h.2.2.1, fun q hq => by
  obtain ⟨v, h1, h2⟩ := am_pl_mem.mp hq
  rw [h2]; exact h.2.2.2 _ _ h1⟩
theorem am_ld_of {L : am_L} {k : Nat} {v : Value} (h : am_ld L k = some v) : L[k]? = some (some v) := by
  unfold am_ld at h
  split at h
  · rename_i w e; cases h; exact e
  · cases h
theorem am_lh_ld {ls : Array Slot} {nL k : Nat} {L : am_L} {v : Value} (h : am_lh sb b ls nL L) (hv : am_ld L k = some v) : ls[k]? = some (.val (am_cv sb b v)) := h.2.2.2 _ _ (am_ld_of hv)
theorem am_cl_len (L : am_L) (k : Nat) : (am_cl L k).length = L.length := by
  unfold am_cl
  split
  · rfl
  · split
    · split <;> simp
    · rfl
theorem am_cl_at {L : am_L} {k i : Nat} {v : Value} (h : (am_cl L k)[i]? = some (some v)) : L[i]? = some (some v) ∧ ¬ (i + 1 = k ∧ v.category = 2) := by
  unfold am_cl at h
  split at h
  · exact ⟨h, by omega⟩
  · rename_i j
    split at h
    · rename_i w hw
      split at h
      · rename_i hc
        rw [List.getElem?_set] at h
        by_cases hj : j = i
        · subst hj
          rw [if_pos rfl] at h
          split at h <;> cases h
        · rw [if_neg hj] at h
          exact ⟨h, by omega⟩
      · rename_i hc
        refine ⟨h, fun ⟨e1, e2⟩ => ?_⟩
        have : j = i := by omega
        subst this
        rw [hw] at h; cases h
        exact hc e2
    · rename_i hn
      refine ⟨h, fun ⟨e1, e2⟩ => ?_⟩
      have : j = i := by omega
      subst this
      exact hn v h
theorem am_lh_s1 {ls' : Array Slot} {nL k : Nat} {L : am_L} {v : Value} (hL : L.length = nL) (h : lv_has ls' nL ((k, am_cv sb b v) :: (am_pl sb b L).filter (fun q => !(q.1 == k) && !(q.1 + 1 == k && q.2.category == 2)))) : am_lh sb b ls' nL (am_s1 L k v) := by
  refine ⟨h.1, by rw [am_s1, List.length_set, am_cl_len, hL], h.2.1, fun i w hi => ?_⟩
  rw [am_s1, List.getElem?_set] at hi
  by_cases e : k = i
  · subst e
    rw [if_pos rfl] at hi
    split at hi
    · cases hi
      exact h.2.2 (k, am_cv sb b v) List.mem_cons_self
    · cases hi
  · rw [if_neg e] at hi
    obtain ⟨h1, h2⟩ := am_cl_at hi
    refine h.2.2 (i, am_cv sb b w) (List.mem_cons_of_mem _ (List.mem_filter.mpr ⟨am_pl_mem.mpr ⟨w, h1, rfl⟩, ?_⟩))
    simp only [Bool.and_eq_true, Bool.not_eq_true', beq_eq_false_iff_ne, ne_eq, Bool.and_eq_false_iff, am_cv_cat]
    refine ⟨fun q => e q.symm, ?_⟩
    by_cases q : i + 1 = k
    · exact Or.inr fun z => h2 ⟨q, z⟩
    · exact Or.inl q
theorem am_lh_s2 {ls' : Array Slot} {nL k : Nat} {L : am_L} {v : Value} (hL : L.length = nL) (h : lv_has ls' nL ((k, am_cv sb b v) :: (am_pl sb b L).filter (fun q => !(q.1 == k) && (!(q.1 == k + 1) && !(q.1 + 1 == k && q.2.category == 2))))) : am_lh sb b ls' nL (am_s2 L k v) := by
  refine ⟨h.1, by rw [am_s2, List.length_set, List.length_set, am_cl_len, hL], h.2.1, fun i w hi => ?_⟩
  rw [am_s2, List.getElem?_set] at hi
  by_cases e : k = i
  · subst e
    rw [if_pos rfl] at hi
    split at hi
    · cases hi
      exact h.2.2 (k, am_cv sb b v) List.mem_cons_self
    · cases hi
  · rw [if_neg e, List.getElem?_set] at hi
    by_cases e2 : k + 1 = i
    · rw [if_pos e2] at hi
      split at hi <;> cases hi
    · rw [if_neg e2] at hi
      obtain ⟨h1, h2⟩ := am_cl_at hi
      refine h.2.2 (i, am_cv sb b w) (List.mem_cons_of_mem _ (List.mem_filter.mpr ⟨am_pl_mem.mpr ⟨w, h1, rfl⟩, ?_⟩))
      simp only [Bool.and_eq_true, Bool.not_eq_true', beq_eq_false_iff_ne, ne_eq, Bool.and_eq_false_iff, am_cv_cat]
      refine ⟨fun q => e q.symm, fun q => e2 q.symm, ?_⟩
      by_cases q : i + 1 = k
      · exact Or.inr fun z => h2 ⟨q, z⟩
      · exact Or.inl q
end AMW
