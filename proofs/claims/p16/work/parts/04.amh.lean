/-! the instructions that touch the heap -/
theorem am_sf_of {σ τ : am_S} {a k t : Nat} {v : Value} (h : am_sf σ a k t v = some τ) : τ.1 = σ.1 ∧ (∀ x, x ≠ a → τ.2.1 x = σ.2.1 x ∧ τ.2.2.1 x = σ.2.2.1 x ∧ τ.2.2.2 x = σ.2.2.2 x) ∧ (∀ j, j ≠ k → τ.2.1 a j = σ.2.1 a j ∧ τ.2.2.1 a j = σ.2.2.1 a j ∧ τ.2.2.2 a j = σ.2.2.2 a j) ∧ am_fv τ a k t = v ∧ (∀ (ty : FieldType) (sb b : Nat), am_tk (some ty) = t → narrow ty (am_cv sb b v) = am_cv sb b v ∧ fits ty (am_cv sb b v) = true) := by
  unfold am_sf at h
  split at h
  · cases h
    refine ⟨rfl, fun x hx => ⟨am_up_ne hx, rfl, rfl⟩, fun j hj => ⟨by simp [am_up, hj], rfl, rfl⟩, by simp [am_fv, am_up], fun ty sb b ht => ?_⟩
    cases ty <;> first | (simp [am_tk] at ht; done) | exact ⟨rfl, rfl⟩
  · rename_i x
    obtain ⟨hv, h⟩ := am_if_of h
    cases h
    refine ⟨rfl, fun x hx => ⟨am_up_ne hx, rfl, rfl⟩, fun j hj => ⟨by simp [am_up, hj], rfl, rfl⟩, by simp [am_fv, am_up], fun ty sb b ht => ?_⟩
    cases ty <;> first | (simp [am_tk] at ht; done) | (rcases hv with rfl | rfl <;> exact ⟨rfl, rfl⟩)
  · cases h
    refine ⟨rfl, fun x hx => ⟨rfl, am_up_ne hx, rfl⟩, fun j hj => ⟨rfl, by simp [am_up, hj], rfl⟩, by simp [am_fv, am_up], fun ty sb b ht => ?_⟩
    cases ty <;> first | (simp [am_tk] at ht; done) | exact ⟨rfl, rfl⟩
  · cases h
    refine ⟨rfl, fun x hx => ⟨rfl, rfl, am_up_ne hx⟩, fun j hj => ⟨rfl, rfl, by simp [am_up, hj]⟩, by simp [am_fv, am_up, va_rf], fun ty sb b ht => ?_⟩
    cases ty <;> first | (simp [am_tk] at ht; done) | exact ⟨rfl, rfl⟩
  · cases h
    refine ⟨rfl, fun x hx => ⟨rfl, rfl, am_up_ne hx⟩, fun j hj => ⟨rfl, rfl, by simp [am_up, hj]⟩, by simp [am_fv, am_up, va_rf], fun ty sb b ht => ?_⟩
    cases ty <;> first | (simp [am_tk] at ht; done) | exact ⟨rfl, rfl⟩
  · cases h
section AMH
variable {cl : List vw_C} {Ts : List Cond} {cn own : String} {ec : Nat} {ini : Bool} {X : Nat × (Nat → Int32)} {sb b : Nat} {D : va_G} {dT : Nat → ClassId}
variable {p : Program} {l : Launch} {e : Env} {R : Room} {s : State} {m : MethodId} {args : Array Value} {below : List Frame} {meth : Method} {c : Code} {H : Heap} {locs : List Loc} {cells slots : Nat} {Q : State → Prop}
variable {cc : ByteArray} {nL d r1 r2 r3 pc : Nat} {ls : Array Slot} {L : am_L} {st : List Value} {σ τ : am_S}
theorem am_fs_get {a ci k : Nat} (h : k < am_nf cl ci) : (am_fs cl sb b σ a ci)[k]? = some (am_cv sb b (am_fv σ a k (am_fk cl ci k))) := by
  simp [am_fs, List.getElem?_map, List.getElem?_range h]
theorem am_fs_len {a ci : Nat} : (am_fs cl sb b σ a ci).length = am_nf cl ci := by simp [am_fs]
theorem am_fs_set {a ci k : Nat} {v : Value} (hj : ∀ j, j ≠ k → τ.2.1 a j = σ.2.1 a j ∧ τ.2.2.1 a j = σ.2.2.1 a j ∧ τ.2.2.2 a j = σ.2.2.2 a j) (hv : am_fv τ a k (am_fk cl ci k) = v) : (am_fs cl sb b σ a ci).set k (am_cv sb b v) = am_fs cl sb b τ a ci := by
  apply List.ext_getElem?
  intro j
  rw [List.getElem?_set, am_fs_len]
  by_cases h : j < am_nf cl ci
  · rw [am_fs_get h, am_fs_get h]
    by_cases e : k = j
    · subst e; rw [if_pos rfl, if_pos h, hv]
    · rw [if_neg e]
      obtain ⟨h1, h2, h3⟩ := hj j (fun q => e q.symm)
      simp only [am_fv, h1, h2, h3]
  · have h1 : (am_fs cl sb b σ a ci)[j]? = none := List.getElem?_eq_none (by rw [am_fs_len]; omega)
    have h2 : (am_fs cl sb b τ a ci)[j]? = none := List.getElem?_eq_none (by rw [am_fs_len]; omega)
    rw [h1, h2]
    by_cases e : k = j
    · subst e; rw [if_pos rfl, if_neg h]
    · rw [if_neg e]
theorem am_ws_setI {j t n k : Nat} {x : Int32} (hj : σ.1[j]? = some (.inr (t, n))) (ht : t ≤ 2) : (am_ws cl sb b dT σ).set j (b + j, .inl (dT t, n, .inl (upd (σ.2.1 (j + 1)) k x))) = am_ws cl sb b dT (σ.1, am_up σ.2.1 (j + 1) k x, σ.2.2) := by
  refine am_ws_set (σ := σ) rfl hj ?_ (fun x hx => ⟨am_up_ne hx, rfl, rfl⟩)
  rcases (by omega : t = 0 ∨ t = 1 ∨ t = 2) with rfl | rfl | rfl <;> (simp only [am_el, am_co, am_up_at]; rfl)
theorem am_ws_setL {j n k : Nat} {x : Int64} (hj : σ.1[j]? = some (.inr (3, n))) : (am_ws cl sb b dT σ).set j (b + j, .inl (dT 3, n, .inr (.inl (vp_updL (σ.2.2.1 (j + 1)) k x)))) = am_ws cl sb b dT (σ.1, σ.2.1, am_up σ.2.2.1 (j + 1) k x, σ.2.2.2) := by
  refine am_ws_set (σ := σ) rfl hj ?_ (fun x hx => ⟨rfl, am_up_ne hx, rfl⟩)
  simp only [am_el, am_co, am_up_at]; rfl
theorem am_ws_setP {j n k y : Nat} (hj : σ.1[j]? = some (.inr (4, n))) : (am_ws cl sb b dT σ).set j (b + j, .inl (dT 4, n, .inr (.inr (.inr (.inr (va_up (fun j' => (σ.2.2.2 (j + 1) j').map (am_ad sb b)) k (some (am_ad sb b y)))))))) = am_ws cl sb b dT (σ.1, σ.2.1, σ.2.2.1, am_up σ.2.2.2 (j + 1) k (some y)) := by
  refine am_ws_set (σ := σ) rfl hj ?_ (fun x hx => ⟨rfl, rfl, am_up_ne hx⟩)
  have e : (fun j' => ((am_up σ.2.2.2 (j + 1) k (some y)) (j + 1) j').map (am_ad sb b)) = va_up (fun j' => (σ.2.2.2 (j + 1) j').map (am_ad sb b)) k (some (am_ad sb b y)) := by
    funext z
    by_cases hz : z = k <;> simp [am_up, va_up, hz]
  simp only [am_el, am_co]
  rw [e]
theorem am_ws_setC {j n : Nat} {f : Nat → Int32} (hj : σ.1[j]? = some (.inr (0, n))) : (am_ws cl sb b dT σ).set j (b + j, .inl (dT 0, n, .inl f)) = am_ws cl sb b dT (σ.1, (fun x => if x = j + 1 then f else σ.2.1 x), σ.2.2) := by
  refine am_ws_set (σ := σ) rfl hj ?_ (fun x hx => ⟨by simp [hx], rfl, rfl⟩)
  simp [am_el, am_co]
theorem am_size_W (hW : am_Wd cl sb b D dT s σ H locs) (hb0 : b ≤ s.heap.size) (hsz : s.heap.size + cells = b + σ.1.length) {g : JFrame} (kk : H.size = b + σ.1.length → W p l e R s m args below meth c H locs cells slots Q g) : W p l e R s m args below meth c H locs cells slots Q g := by
  intro T hT Y
  refine kk ?_ T hT Y
  have h1 := Y.heapSize
  rw [hT, hsz] at h1
  have h2 : b + σ.1.length ≤ H.size := by
    rcases Nat.eq_zero_or_pos σ.1.length with h0 | h0
    · have := hW.2.1; omega
    · have h3 : σ.1[σ.1.length - 1]? = some (σ.1[σ.1.length - 1]'(by omega)) := List.getElem?_eq_getElem (by omega)
      have h4 := (hW.1 _ _ (am_ws_at (cl := cl) (sb := sb) (b := b) (dT := dT) h3)).lt
      have h5 : b + (σ.1.length - 1) < H.size := h4
      omega
  omega
/-- a cell more -/
theorem am_ws_nw {k : am_K} {H1 : Heap} (hP : va_P D cl (am_ws cl sb b dT σ) H) (ho : ∀ q, q < b + σ.1.length → H1[q]? = H[q]?) (hn : va_at D cl (b + σ.1.length, am_el cl sb b dT (am_nw σ k) (σ.1.length + 1) k) H1) : va_P D cl (am_ws cl sb b dT (am_nw σ k)) H1 := by
  intro i q hq
  rw [am_ws_get] at hq
  by_cases h1 : i < σ.1.length
  · have h2 : (am_nw σ k).1[i]? = σ.1[i]? := by show (σ.1 ++ [k])[i]? = _; rw [List.getElem?_append_left h1]
    rw [h2] at hq
    cases hk : σ.1[i]? with
    | none => rw [hk] at hq; cases hq
    | some k' =>
      rw [hk] at hq
      cases hq
      have e : am_el cl sb b dT (am_nw σ k) (i + 1) k' = am_el cl sb b dT σ (i + 1) k' := by
        have hne : i + 1 ≠ σ.1.length + 1 := by omega
        exact am_el_of (by simp [am_nw, am_z]; omega) (by simp [am_nw, am_z]; omega) (by simp [am_nw, am_z]; omega)
      show va_at D cl (b + i, am_el cl sb b dT (am_nw σ k) (i + 1) k') H1
      rw [e]
      exact (hP i _ (am_ws_at hk)).kept (ho _ (by show b + i < _; omega))
  · have h2 : (am_nw σ k).1[i]? = [k][i - σ.1.length]? := by show (σ.1 ++ [k])[i]? = _; rw [List.getElem?_append_right (by omega)]
    rw [h2] at hq
    by_cases h3 : i - σ.1.length = 0
    · have h4 : i = σ.1.length := by omega
      subst h4
      rw [h3] at hq
      cases hq
      exact hn
    · rw [List.getElem?_eq_none (by simp; omega)] at hq
      cases hq
theorem am_wd_nw {k : am_K} {H1 : Heap} (hW : am_Wd cl sb b D dT s σ H locs) (hz : H.size = b + σ.1.length) (z1 : H1.size = b + σ.1.length + 1) (ho : ∀ q, q < b + σ.1.length → H1[q]? = H[q]?) (hn : va_at D cl (b + σ.1.length, am_el cl sb b dT (am_nw σ k) (σ.1.length + 1) k) H1) : am_Wd cl sb b D dT s (am_nw σ k) H1 locs :=
  ⟨am_ws_nw hW.1 ho hn, by have := hW.2.1; omega, fun q h1 h2 => (ho q (by have := hW.2.1; omega)).trans (hW.2.2.1 q h1 h2), hW.2.2.2⟩
theorem am_heap_W (hT : am_Tb cl Ts cn ec) (C : am_Cx cl Ts cn own ini X sb b D dT p s m args meth c cc nL) {i : Instr} (hdg : decode cc pc = .ok (i, am_len i r1)) (hok : am_ok cl Ts cn own ini i r1 r2 r3)
    (hheap : am_hp i = true)
    (hl : am_lh sb b ls nL L) (hW : am_Wd cl sb b D dT s σ H locs) (hR : d ≤ R.frames ∧ 40 * d ≤ R.locals) (hsz : s.heap.size + cells = b + σ.1.length) {q : am_R} (h : am_ins (some X) ec d i r1 r2 r3 pc L st σ = some q)
    (hcap : cells + (q.2.2.2.1.length - σ.1.length) ≤ R.cells ∧ slots + (am_sz cl q.2.2.2.1 - am_sz cl σ.1) ≤ R.slots)
    (kk : ∀ H' locs', am_Wd cl sb b D dT s q.2.2.2 H' locs' → q.2.1 = L → W p l e R s m args below meth c H' locs' (cells + (q.2.2.2.1.length - σ.1.length)) (slots + (am_sz cl q.2.2.2.1 - am_sz cl σ.1)) Q (F0 m q.1 ls (q.2.2.1.map (am_cv sb b)))) :
    W p l e R s m args below meth c H locs cells slots Q (F0 m pc ls (st.map (am_cv sb b))) := by
  obtain ⟨hx, hb, hml, hts, hown, hini, hK, hAO, hX, hsb, hb0⟩ := C
  have hD : va_D (fun q => b ≤ q) (am_ws cl sb b dT σ) := am_ws_D
  have kk0 : q.2.2.2.1 = σ.1 → ∀ H' locs', am_Wd cl sb b D dT s q.2.2.2 H' locs' → q.2.1 = L → W p l e R s m args below meth c H' locs' cells slots Q (F0 m q.1 ls (q.2.2.1.map (am_cv sb b))) := by
    intro eq H' locs' h1 h2
    have h3 := kk H' locs' h1 h2
    rw [eq, Nat.sub_self, Nat.sub_self, Nat.add_zero, Nat.add_zero] at h3
    exact h3
  have t0 : (am_tys dT cn)[0]? = some (dT 0, .int) := rfl
  have t1 : (am_tys dT cn)[1]? = some (dT 1, .byte) := rfl
  have t2 : (am_tys dT cn)[2]? = some (dT 2, .boolean) := rfl
  have t3 : (am_tys dT cn)[3]? = some (dT 3, .long) := rfl
  have t4 : (am_tys dT cn)[4]? = some (dT 4, .object cn) := rfl
  cases i with
  | getfield idx =>
    obtain ⟨a, t, rfl, h⟩ := am_a1_of h
    obtain ⟨hk, h⟩ := am_if_of h
    cases h
    obtain ⟨j, rfl, hj⟩ := am_kd_of hk
    obtain ⟨⟨C, T, N⟩, hq, hr2, rfl, hlink⟩ := hok
    have hnf : am_nf cl r1 = N := by simp [am_nf, hq]
    exact va_get (D := D) (cl := cl) (ws := am_ws cl sb b dT σ) (tys := am_tys dT cn) hx hb hts (hT.1 r1 _ hq).1 hown hK hW.1 j (am_ws_at hj) hq r2 hr2 (hts _ hlink) (fun _ h9 => h9) (am_fs_get (by rw [hnf]; exact hr2)) hdg (kk0 rfl _ _ hW rfl)
  | putfield idx =>
    obtain ⟨a, v, t, rfl, h⟩ := am_av_of h
    obtain ⟨hk, h⟩ := am_if_of h
    obtain ⟨τ, hτ, h⟩ := Option.bind_eq_some_iff.mp h
    cases h
    obtain ⟨j, rfl, hj⟩ := am_kd_of hk
    obtain ⟨⟨C, T, N⟩, hq, hr2, rfl, hlink, hfn⟩ := hok
    obtain ⟨g1, g2, g3, g4, g5⟩ := am_sf_of hτ
    obtain ⟨hin, ⟨ty, hty⟩, hkd, hnm⟩ := hT.1 r1 _ hq
    have hnf : am_nf cl r1 = N := by simp [am_nf, hq]
    have htk : am_tk (some (ty r2)) = am_fk cl r1 r2 := by
      have := hty r2 hr2
      simp only [am_fk, hq]
      rw [this]
    obtain ⟨g6, g7⟩ := g5 (ty r2) sb b htk
    have hset : (am_ws cl sb b dT σ).set j (b + j, .inr (r1, (am_fs cl sb b σ (j + 1) r1).set r2 (am_cv sb b v))) = am_ws cl sb b dT τ := am_ws_set g1 hj (by show Sum.inr (r1, _) = _; rw [am_fs_set g3 g4]) g2
    by_cases hf : (T r2).2.2.2 = true
    · refine va_putF (D := D) (cl := cl) (ws := am_ws cl sb b dT σ) (tys := am_tys dT cn) (A := fun q => b ≤ q) hx hb hts hin ty hty hnm hown hK hW.1 hD hW.2 j (am_ws_at hj) hq r2 hr2 (hts _ hlink) (fun _ h9 => h9) hf (hini (hfn hf).1) (hfn hf).2 (hty r2 hr2) g6 g7 (by rw [am_fs_len, hnf]; exact hr2) hdg fun H1 locs1 hP1 _ hS1 => ?_
      rw [hset] at hP1
      exact kk0 g1 _ _ ⟨hP1, hS1⟩ rfl
    · refine va_put (D := D) (cl := cl) (ws := am_ws cl sb b dT σ) (tys := am_tys dT cn) (A := fun q => b ≤ q) hx hb hts hin ty hty hnm hown hK hW.1 hD hW.2 j (am_ws_at hj) hq r2 hr2 (hts _ hlink) (fun _ h9 => h9) (by simpa using hf) (hty r2 hr2) g6 g7 (by rw [am_fs_len, hnf]; exact hr2) hdg fun H1 locs1 hP1 _ hS1 => ?_
      rw [hset] at hP1
      exact kk0 g1 _ _ ⟨hP1, hS1⟩ rfl
  | iaload =>
    obtain ⟨a, i, t, rfl, h2⟩ := am_ai_of h
    by_cases ha : a = 0
    · subst ha
      rw [if_pos rfl] at h2
      obtain ⟨x, hx2, h2⟩ := am_sx_of h2
      cases hx2
      obtain ⟨hin, h2⟩ := am_ifn_of h2
      cases h2
      exact va_sld (b := sb) (A := fun q => b ≤ q) hx hb hX (by omega) (by omega) hW.2 hin hdg (kk0 rfl _ _ hW rfl)
    · rw [if_neg ha] at h2
      obtain ⟨tt, n, hk, h2⟩ := am_rw_of h2
      obtain ⟨rfl, h2⟩ := am_if_of h2
      obtain ⟨hin, h2⟩ := am_ifn_of h2
      cases h2
      obtain ⟨j, rfl, hj⟩ := am_kd_of hk
      exact va_iald hx hb hK hW.1 j 0 (am_ws_at hj) t0 hin hdg (kk0 rfl _ _ hW rfl)
  | baload =>
    obtain ⟨a, i, t, rfl, h⟩ := am_ai_of h
    obtain ⟨tt, n, hk, h⟩ := am_rw_of h
    obtain ⟨ht, h⟩ := am_if_of h
    obtain ⟨hin, h⟩ := am_ifn_of h
    cases h
    obtain ⟨j, rfl, hj⟩ := am_kd_of hk
    rcases ht with rfl | rfl
    · exact va_bald hx hb hK hW.1 j 1 (am_ws_at hj) t1 hin hdg (kk0 rfl _ _ hW rfl)
    · exact va_zald hx hb hK hW.1 j 2 (am_ws_at hj) t2 hin hdg (kk0 rfl _ _ hW rfl)
  | laload =>
    obtain ⟨a, i, t, rfl, h⟩ := am_ai_of h
    obtain ⟨tt, n, hk, h⟩ := am_rw_of h
    obtain ⟨rfl, h⟩ := am_if_of h
    obtain ⟨hin, h⟩ := am_ifn_of h
    cases h
    obtain ⟨j, rfl, hj⟩ := am_kd_of hk
    exact va_lald hx hb hK hW.1 j 3 (am_ws_at hj) t3 hin hdg (kk0 rfl _ _ hW rfl)
  | aaload =>
    obtain ⟨a, i, t, rfl, h⟩ := am_ai_of h
    obtain ⟨tt, n, hk, h⟩ := am_rw_of h
    obtain ⟨rfl, h⟩ := am_if_of h
    obtain ⟨hin, h⟩ := am_ifn_of h
    cases h
    obtain ⟨j, rfl, hj⟩ := am_kd_of hk
    refine va_aldq hx hb hK hW.1 j 4 (am_ws_at hj) t4 hin hdg ?_
    have h9 := kk0 rfl _ _ hW rfl
    simp only [List.map_cons, am_cv_rf] at h9
    exact h9
  | iastore =>
    obtain ⟨a, i, x, t, rfl, h⟩ := am_aii_of h
    obtain ⟨tt, n, hk, h⟩ := am_rw_of h
    obtain ⟨rfl, h⟩ := am_if_of h
    obtain ⟨hin, h⟩ := am_ifn_of h
    cases h
    obtain ⟨j, rfl, hj⟩ := am_kd_of hk
    refine va_iast (A := fun q => b ≤ q) hx hb hK hW.1 hD hW.2 j 0 (am_ws_at hj) t0 hin hdg fun H1 locs1 hP1 _ hS1 => kk0 rfl _ _ ⟨?_, hS1⟩ rfl
    rw [am_ws_setI hj (by omega)] at hP1
    exact hP1
  | bastore =>
    obtain ⟨a, i, x, t, rfl, h⟩ := am_aii_of h
    obtain ⟨tt, n, hk, h⟩ := am_rw_of h
    obtain ⟨ht, h⟩ := am_if_of h
    obtain ⟨hin, h⟩ := am_ifn_of h
    cases h
    obtain ⟨j, rfl, hj⟩ := am_kd_of hk
    rcases ht with ⟨rfl, hv⟩ | ⟨rfl, hv⟩
    · refine va_bast (A := fun q => b ≤ q) hx hb hK hW.1 hD hW.2 j 1 (am_ws_at hj) t1 hin hdg fun H1 locs1 hP1 _ hS1 => kk0 rfl _ _ ⟨?_, hS1⟩ rfl
      rw [vp_nar_byte, hv, am_ws_setI hj (by omega)] at hP1
      exact hP1
    · refine va_zast (A := fun q => b ≤ q) hx hb hK hW.1 hD hW.2 j 2 (am_ws_at hj) t2 hin hdg fun H1 locs1 hP1 _ hS1 => kk0 rfl _ _ ⟨?_, hS1⟩ rfl
      have hv2 : vp_nar .boolean x = x := by rcases hv with rfl | rfl <;> rfl
      rw [hv2, am_ws_setI hj (by omega)] at hP1
      exact hP1
  | lastore =>
    obtain ⟨a, i, x, t, rfl, h⟩ := am_ail_of h
    obtain ⟨tt, n, hk, h⟩ := am_rw_of h
    obtain ⟨rfl, h⟩ := am_if_of h
    obtain ⟨hin, h⟩ := am_ifn_of h
    cases h
    obtain ⟨j, rfl, hj⟩ := am_kd_of hk
    refine va_last (A := fun q => b ≤ q) hx hb hK hW.1 hD hW.2 j 3 (am_ws_at hj) t3 hin hdg fun H1 locs1 hP1 _ hS1 => kk0 rfl _ _ ⟨?_, hS1⟩ rfl
    rw [am_ws_setL hj] at hP1
    exact hP1
  | aastore =>
    obtain ⟨a, i, x, t, rfl, h⟩ := am_aia_of h
    obtain ⟨tt, n, hk, h⟩ := am_rw_of h
    obtain ⟨⟨ht, hk2⟩, h2⟩ := am_if_of h
    subst ht
    obtain ⟨hin, h3⟩ := am_ifn_of h2
    cases h3
    obtain ⟨j, rfl, hj⟩ := am_kd_of hk
    obtain ⟨j2, rfl, hj2⟩ := am_kd_of hk2
    obtain ⟨qe, hqe, hqn⟩ := hT.2.1
    subst hqn
    refine va_astq (A := fun q => b ≤ q) hx hb hK hW.1 hD hW.2 j 4 j2 ec (am_ws_at hj) t4 (am_ws_at hj2) hqe hin hdg fun H1 locs1 hP1 _ hS1 => kk0 rfl _ _ ⟨?_, hS1⟩ rfl
    rw [show b + j2 = am_ad sb b (j2 + 1) from rfl, am_ws_setP hj] at hP1
    exact hP1
  | arraylength =>
    obtain ⟨a, t, rfl, h2⟩ := am_a1_of h
    by_cases ha : a = 0
    · subst ha
      rw [if_pos rfl] at h2
      obtain ⟨x, hx2, h2⟩ := am_sx_of h2
      cases hx2
      cases h2
      exact va_slen (b := sb) (A := fun q => b ≤ q) hx hb hX (by omega) (by omega) hW.2 hdg (kk0 rfl _ _ hW rfl)
    · rw [if_neg ha] at h2
      obtain ⟨tt, n, hk, h2⟩ := am_rw_of h2
      obtain ⟨ht, h2⟩ := am_if_of h2
      cases h2
      obtain ⟨j, rfl, hj⟩ := am_kd_of hk
      have htt : ∃ ty, (am_tys dT cn)[tt]? = some (dT tt, ty) := by
        rcases (by omega : tt = 0 ∨ tt = 1 ∨ tt = 2 ∨ tt = 3 ∨ tt = 4) with rfl | rfl | rfl | rfl | rfl
        · exact ⟨_, t0⟩
        · exact ⟨_, t1⟩
        · exact ⟨_, t2⟩
        · exact ⟨_, t3⟩
        · exact ⟨_, t4⟩
      obtain ⟨ty, hty⟩ := htt
      exact va_alen hx hb hK hW.1 j tt (am_ws_at hj) hty rfl hdg (kk0 rfl _ _ hW rfl)
  | new idx =>
    cases h
    obtain ⟨⟨C, T, N⟩, hq, hcl, hinst, hinit⟩ := hok
    obtain ⟨hin, ⟨ty, hty⟩, hkd, hnm⟩ := hT.1 r1 _ hq
    have hnf : am_nf cl r1 = N := by simp [am_nf, hq]
    have hKn := hK.1 r1 _ hq
    have e1 : (am_nw σ (.inl r1)).1.length - σ.1.length = 1 := by simp [am_nw]
    have e2 : am_sz cl (am_nw σ (.inl r1)).1 - am_sz cl σ.1 = N := by simp [am_nw, am_sz, am_sl, hnf]
    simp only [e1, e2] at hcap kk
    refine am_size_W hW hb0 hsz fun hz => ?_
    refine W.newcK hx hb hown (hts _ hcl) (hts _ hinst) (hts _ hinit) rfl hdg hcap.1 hcap.2 hKn.2.1 hz fun H1 kC hkC e1 z1 o1 => ?_
    refine kk H1 locs (am_wd_nw hW hz z1 o1 ⟨_, hq, (u_born ty hts hin hKn hkC e1 hty).to fun k hk => ?_⟩) trivial
    have h1 := am_fs_get (cl := cl) (sb := sb) (b := b) (σ := am_nw σ (.inl r1)) (a := σ.1.length + 1) (ci := r1) (k := k) (by rw [hnf]; exact hk)
    show _ = (am_fs cl sb b (am_nw σ (.inl r1)) (σ.1.length + 1) r1).getD k .null
    rw [List.getD_eq_getElem?_getD, h1]
    have h2 : am_fk cl r1 k = am_tk (some (ty k)) := by simp only [am_fk, hq]; rw [hty k hk]
    have h3 := hkd k hk
    rw [h2] at h3 ⊢
    cases hty2 : ty k <;> rw [hty2] at h3 <;> first | (simp [am_tk] at h3; done) | simp [am_tk, am_fv, am_nw, am_z, am_cv, va_rf, defaultValue]
  | newarray at' =>
    obtain ⟨x, t, rfl, h⟩ := am_i1_of h
    obtain ⟨hin, h⟩ := am_ifn_of h
    cases h
    have e1 : (am_nw σ (.inr (r1, x.toNatClampNeg))).1.length - σ.1.length = 1 := by simp [am_nw]
    have e2 : am_sz cl (am_nw σ (.inr (r1, x.toNatClampNeg))).1 - am_sz cl σ.1 = x.toNatClampNeg := by simp [am_nw, am_sz, am_sl]
    simp only [e1, e2] at hcap kk
    have hn0 : ¬ x < 0 := fun z => hin (Or.inl z)
    have hn1 : x.toNatClampNeg ≤ 100000 := Nat.not_lt.mp fun z => hin (Or.inr z)
    refine am_size_W hW hb0 hsz fun hz => ?_
    rcases hok with ⟨rfl, rfl⟩ | ⟨rfl, rfl⟩ | ⟨rfl, rfl⟩ | ⟨rfl, rfl⟩
    · refine va_newaK (atype := .int) hx hb (hts _ hT.2.2.1) rfl hdg rfl hn0 rfl (by show _ * 4 ≤ _; omega) hcap.1 hcap.2 hz fun H1 cA e1 z1 o1 hAr hNm => ?_
      have hcA : cA = dT 0 := Option.some.inj (hNm.symm.trans (hK.2 0 _ t0).2)
      subst hcA
      exact kk H1 locs (am_wd_nw hW hz z1 o1 (e1.trans (by simp [am_el, am_co, am_nw, am_z, vp_cell, newarray.typeOf, defaultValue]))) trivial
    · refine va_newaK (atype := .byte) hx hb (hts _ hT.2.2.2.1) rfl hdg rfl hn0 rfl (by show _ * 1 ≤ _; omega) hcap.1 hcap.2 hz fun H1 cA e1 z1 o1 hAr hNm => ?_
      have hcA : cA = dT 1 := Option.some.inj (hNm.symm.trans (hK.2 1 _ t1).2)
      subst hcA
      exact kk H1 locs (am_wd_nw hW hz z1 o1 (e1.trans (by simp [am_el, am_co, am_nw, am_z, vp_cell, newarray.typeOf, defaultValue]))) trivial
    · refine va_newaK (atype := .boolean) hx hb (hts _ hT.2.2.2.2.1) rfl hdg rfl hn0 rfl (by show _ * 1 ≤ _; omega) hcap.1 hcap.2 hz fun H1 cA e1 z1 o1 hAr hNm => ?_
      have hcA : cA = dT 2 := Option.some.inj (hNm.symm.trans (hK.2 2 _ t2).2)
      subst hcA
      exact kk H1 locs (am_wd_nw hW hz z1 o1 (e1.trans (by simp [am_el, am_co, am_nw, am_z, vp_cell, newarray.typeOf, defaultValue]))) trivial
    · refine va_newaK (atype := .long) hx hb (hts _ hT.2.2.2.2.2) rfl hdg rfl hn0 rfl (by show _ * 8 ≤ _; omega) hcap.1 hcap.2 hz fun H1 cA e1 z1 o1 hAr hNm => ?_
      have hcA : cA = dT 3 := Option.some.inj (hNm.symm.trans (hK.2 3 _ t3).2)
      subst hcA
      exact kk H1 locs (am_wd_nw hW hz z1 o1 (e1.trans (by simp [am_el, am_co, am_nw, am_z, vp_cell, newarray.typeOf, defaultValue]))) trivial
  | anewarray idx =>
    obtain ⟨x, t, rfl, h⟩ := am_i1_of h
    obtain ⟨hin, h⟩ := am_ifn_of h
    cases h
    have e1 : (am_nw σ (.inr (4, x.toNatClampNeg))).1.length - σ.1.length = 1 := by simp [am_nw]
    have e2 : am_sz cl (am_nw σ (.inr (4, x.toNatClampNeg))).1 - am_sz cl σ.1 = x.toNatClampNeg := by simp [am_nw, am_sz, am_sl]
    simp only [e1, e2] at hcap kk
    have hn0 : ¬ x < 0 := fun z => hin (Or.inl z)
    have hn1 : x.toNatClampNeg ≤ 100000 := Nat.not_lt.mp fun z => hin (Or.inr z)
    refine am_size_W hW hb0 hsz fun hz => ?_
    refine W.anew hx hb hown (hts _ hok) (va_AO.use hAO) rfl hdg rfl hn0 (by omega) hcap.1 hcap.2 fun cA kA comp f1 f2 f3 f4 => ?_
    obtain ⟨kA', comp', k1, k2, k3, k4⟩ := (hK.2 4 _ t4).2
    have hcA : cA = dT 4 := Option.some.inj (f1.symm.trans k4)
    subst hcA
    rw [hz]
    refine kk _ locs (am_wd_nw hW hz (by rw [Array.size_push, hz]) (fun q hq => by rw [Array.getElem?_push, hz, if_neg (Nat.ne_of_lt hq)]) ?_) trivial
    show (H.push _)[b + σ.1.length]? = some (vp_cell _ _)
    rw [← hz, Array.getElem?_push_size, arrV_new]
    simp [am_el, am_co, am_nw, am_z, vp_cell, va_rf]
  | invokespecial idx =>
    obtain ⟨a, t, rfl, h⟩ := am_a1_of h
    obtain ⟨⟨ht, hd, hct⟩, h2⟩ := am_if_of h
    subst ht
    cases h2
    obtain ⟨w1, w2, w3⟩ := hok rfl
    refine W.objInit hx hb hown (hts _ w1) (hts _ w2) (hts _ w3) rfl (by rw [hml]; exact hl.1) rfl hdg (by omega) (by show 2 * 0 + _ + 12 ≤ _; rw [am_cvs_ct]; omega) ?_
    exact kk0 rfl _ _ hW rfl
  | invokestatic idx =>
    rcases (Nat.decEq r1 5) with h5 | h5
    · rcases (Nat.decEq r1 6) with h6 | h6
      · rcases (Nat.decEq r1 7) with h7 | h7
        · have h8 : am_ins (some X) ec d (.invokestatic idx) r1 r2 r3 pc L st σ = none := by
            simp only [am_ins]
          rw [h8] at h; cases h
        · subst h7
          obtain ⟨w1, w2, w3, w4⟩ := hok.2.2 rfl
          obtain ⟨a0, sp, a, dp, n, t, rfl, h⟩ := am_cp_of h
          obtain ⟨⟨hd, hct, hsp, hdp, hn⟩, h⟩ := am_if_of h
          obtain ⟨ta, n0, hk0, h⟩ := am_rw_of h
          obtain ⟨tb, n1, hk1, h⟩ := am_rw_of h
          obtain ⟨⟨ht0, ht1, h4, h5⟩, h2⟩ := am_if_of h
          subst ht0
          subst ht1
          cases h2
          obtain ⟨j0, rfl, hj0⟩ := am_kd_of hk0
          obtain ⟨j1, rfl, hj1⟩ := am_kd_of hk1
          refine va_copyi (A := fun q => b ≤ q) hx hb (by rw [hml]; exact hl.1.symm) hown (hts _ w1) (hts _ w2) (hts _ w3) (hts _ w4) hK hW.1 hD hW.2 j0 j1 0 0 (am_ws_at hj0) (am_ws_at hj1) t0 t0 rfl hsp hdp hn h4 h5 (fun _ _ => rfl) (by omega) (by rw [am_cvs_ct]; show _ + ((5 + 2) + 11) ≤ _; omega) hdg fun H1 locs1 hP1 _ hS1 => kk0 rfl _ _ ⟨?_, hS1⟩ rfl
          rw [am_ws_setC hj1] at hP1
          exact hP1
      · subst h6
        obtain ⟨w1, w2, w3, w4⟩ := hok.2.1 rfl
        obtain ⟨x, y, t, rfl, h⟩ := am_i2_of h
        obtain ⟨⟨hd, hct⟩, h⟩ := am_if_of h
        cases h
        exact va_mmin hx hb (by rw [hml]; exact hl.1.symm) hown (hts _ w1) (hts _ w2) (hts _ w3) (hts _ w4) (by omega) (by rw [am_cvs_ct]; omega) (by have := hcap.1; omega) (by have := hcap.2; omega) hdg (kk0 rfl _ _ hW rfl)
    · subst h5
      obtain ⟨w1, w2, w3, w4⟩ := hok.1 rfl
      obtain ⟨x, y, t, rfl, h⟩ := am_i2_of h
      obtain ⟨⟨hd, hct⟩, h⟩ := am_if_of h
      cases h
      exact va_mmax hx hb (by rw [hml]; exact hl.1.symm) hown (hts _ w1) (hts _ w2) (hts _ w3) (hts _ w4) (by omega) (by rw [am_cvs_ct]; omega) (by have := hcap.1; omega) (by have := hcap.2; omega) hdg (kk0 rfl _ _ hW rfl)
  | _ => cases hheap
end AMH
