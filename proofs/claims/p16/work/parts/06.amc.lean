/-! the methods' contracts -/
section AMC
variable {cl : List vw_C} {Ts nw : List Cond} {cn : String} {ec : Nat} {X : Nat × (Nat → Int32)} {sb b : Nat} {D : va_G} {dT : Nat → ClassId} {mt : Nat → Option am_M} {cd : Nat → Nat → Option am_E}
/-- what the tables say of a method -/
def am_mok (Ts : List Cond) (M : am_M) : Prop := Cond.code M.1 M.2.1 M.2.2.1 M.2.2.2.1 ∈ Ts ∧ plainName M.1.cls = true ∧ M.1.cls = M.2.2.2.2.1 ∧ (M.1.cls ≠ "java/lang/invoke/MethodHandle" ∧ M.1.cls ≠ "java/lang/invoke/VarHandle") ∧ M.2.2.1 ≤ 21 ∧ (M.2.2.2.2.2 = true → M.1.name = "<init>") ∧ Cond.initialized M.1.cls ∈ Ts
/-- what the tables say of a call -/
def am_cok (cl : List vw_C) (Ts nw : List Cond) (own : String) (i : Instr) (r1 r3 : Nat) (N : am_M) : Prop := am_mok Ts N ∧ (parseMethodDescriptor N.1.desc).map (fun d => d.parameters.length) = some r3 ∧ match i with
  | .invokevirtual idx => (Cond.methodLink own idx N.1 ∈ Ts ∨ ∃ host, Cond.methodLinkNest own idx N.1 host ∈ nw) ∧ Cond.instanceMethod N.1 ∈ Ts ∧ Cond.selects N.1.cls N.1 N.1 ∈ Ts ∧ ∃ q : vw_C, cl[r1]? = some q ∧ q.1 = N.1.cls
  | .invokespecial idx => N.1.name = "<init>" ∧ N.2.2.2.1 = none ∧ Cond.instanceMethod N.1 ∈ Ts ∧ (Cond.methodLink own idx N.1 ∈ Ts ∨ ∃ host, Cond.methodLinkNest own idx N.1 host ∈ nw)
  | .invokestatic idx => Cond.methodLink own idx N.1 ∈ Ts ∧ Cond.static N.1 ∈ Ts ∧ N.1.cls = own
  | _ => False
/-- what the tables say of the code -/
def am_cdok (cl : List vw_C) (Ts nw : List Cond) (cn : String) (mt : Nat → Option am_M) (cd : Nat → Nat → Option am_E) : Prop := ∀ (mid : Nat) (M : am_M), mt mid = some M → ∀ (pc : Nat) (i : Instr) (r1 r2 r3 : Nat), cd mid pc = some (i, r1, r2, r3) → decode M.2.1 pc = .ok (i, am_len i r1) ∧ (am_isCall i r1 = true → ∀ N, mt r2 = some N → am_cok cl Ts nw M.2.2.2.2.1 i r1 r3 N) ∧ (am_isCall i r1 = false → am_ok cl Ts cn M.2.2.2.2.1 M.2.2.2.2.2 i r1 r2 r3)
/-- a state that holds a memory -/
def am_B (cl : List vw_C) (nw : List Cond) (cn : String) (X : Nat × (Nat → Int32)) (sb b : Nat) (D : va_G) (dT : Nat → ClassId) (σ : am_S) (U : State) : Prop := U.heap.size = b + σ.1.length ∧ va_P D cl (am_ws cl sb b dT σ) U.heap ∧ va_K D cl (am_tys dT cn) U ∧ va_AO cn U ∧ (∀ w ∈ nw, va_Nw w U) ∧ va_X sb X.1 X.2 U U.heap ∧ sb < b
def am_Pc (cl : List vw_C) (nw : List Cond) (cn : String) (X : Nat × (Nat → Int32)) (sb b : Nat) (D : va_G) (dT : Nat → ClassId) (as : List Value) (σ : am_S) : Array Value → State → Prop := fun v U => v = (as.map (am_cv sb b)).toArray ∧ am_B cl nw cn X sb b D dT σ U
def am_Qc (cl : List vw_C) (nw : List Cond) (cn : String) (X : Nat × (Nat → Int32)) (sb b : Nat) (D : va_G) (dT : Nat → ClassId) (q : Option Value × am_S) : Array Value → State → Outcome → State → Prop := fun _ st oc t => oc = .returned q.1 ∧ am_B cl nw cn X sb b D dT q.2 t ∧ va_F (fun x => b ≤ x) st t
theorem am_B_moved {σ : am_S} {u U : State} (hh : U.heap = u.heap) (hW : u.WarmedH U.vm) (hn : ∀ w ∈ nw, ∃ a i x h, w = .methodLinkNest a i x h) (h : am_B cl nw cn X sb b D dT σ u) : am_B cl nw cn X sb b D dT σ U := by
  obtain ⟨h1, h2, h3, h4, h5, h6, h7⟩ := h
  refine ⟨by rw [hh]; exact h1, by rw [hh]; exact h2, va_K.moved hW.alike h3, va_AO.moved hW.alike h4, fun w hw => ?_, by rw [hh]; exact va_X.moved hW.alike h6, h7⟩
  have h8 := h5 w hw
  obtain ⟨a, i, x, h, rfl⟩ := hn w hw
  exact va_Nw.warmM hW h8
theorem am_Pc_blind (hn : ∀ w ∈ nw, ∃ a i x h, w = Cond.methodLinkNest a i x h) {as : List Value} {σ : am_S} : FrameBlind (am_Pc cl nw cn X sb b D dT as σ) := by
  intro a U g mk ⟨q0, h1, h2, h3, h4, h5, h6, h7⟩
  exact ⟨q0, h1, h2, va_K.moved (u := U) (U := U.calling g mk a) (Vm.Alike.refl U.vm) h3, va_AO.moved (u := U) (U := U.calling g mk a) (Vm.Alike.refl U.vm) h4, fun w hw => by
    have h8 := h5 w hw
    obtain ⟨a', i', x', h', rfl⟩ := hn w hw
    exact va_Nw.same (u := U) (U := U.calling g mk a) rfl rfl h8, va_X.moved (u := U) (U := U.calling g mk a) (Vm.Alike.refl U.vm) h6, h7⟩
end AMC
section AMR
variable {cl : List vw_C} {Ts nw : List Cond} {cn : String} {ec : Nat} {X : Nat × (Nat → Int32)} {sb b : Nat} {D : va_G} {dT : Nat → ClassId} {mt : Nat → Option am_M} {cd : Nat → Nat → Option am_E}
variable {p : Program} {l : Launch} {e : Env} {R : Room} {s : State} {m : MethodId} {args : Array Value} {below : List Frame} {meth : Method} {c : Code} {H : Heap} {locs : List Loc} {cells slots : Nat} {Q : State → Prop}
theorem am_call_W {pc : Nat} {ls : Array Slot} {rest st0 : List Value} {a : Array Value} {mc ms : Nat} {q : Option Value × am_S} (hr : va_Run p l e R s m args below meth c H locs cells slots mc ms (F0 m pc ls st0) rest (am_Qc cl nw cn X sb b D dT (q.1.map (am_cv sb b), q.2) a) (fun x => b ≤ x)) (hS : va_S (fun x => b ≤ x) s.heap H locs)
    (kk : ∀ (H1 : Heap) (locs1 : List Loc), va_P D cl (am_ws cl sb b dT q.2) H1 → va_S (fun x => b ≤ x) s.heap H1 locs1 → W p l e R s m args below meth c H1 locs1 (cells + mc) (slots + ms) Q (F0 m (pc + 3) ls ((q.1.map (am_cv sb b)).toList ++ rest))) : W p l e R s m args below meth c H locs cells slots Q (F0 m pc ls st0) := by
  intro T hT Y
  obtain ⟨v, st₀, t, T', L, h0, X', hL, e1, e2, ⟨hv, ⟨g1, g2, -⟩, hz, hk⟩, st⟩ := hr T hT Y
  cases hv
  rw [h0] at hz hk
  obtain ⟨t2, a1, b1⟩ := kk T'.heap (locs ++ L) (by rw [e1]; exact g2)
    ⟨Nat.le_trans hS.1 (by rw [e1]; exact hz), fun x h1 h2 => by rw [e1, hk x (Nat.lt_of_lt_of_le h1 hS.1) h2]; exact hS.2.1 x h1 h2, fun x hx => by
      rcases List.mem_append.mp hx with h | h
      · exact hS.2.2 x h
      · exact hL x h⟩ T' rfl X'
  exact ⟨t2, st t2 a1, b1⟩
/-- the end of a method: the instruction, the stack, the answer -/
def am_end (cc : ByteArray) (ret : Option FieldType) (pc : Nat) (st : List Value) (v : Option Value) : Prop :=
  (v = none ∧ st = [] ∧ ret = none ∧ decode cc pc = .ok (.return_, 1)) ∨ ∃ (x : Int32) (ty : FieldType), v = some (.int x) ∧ st = [.int x] ∧ ret = some ty ∧ narrow ty (.int x) = .int x ∧ decode cc pc = .ok (.ireturn, 1)
theorem am_sim (hT : am_Tb cl Ts cn ec) (hgood : ∀ w ∈ Ts, goodWord w = true) (hn : ∀ w ∈ nw, ∃ a i x h, w = Cond.methodLinkNest a i x h) (hcd : am_cdok cl Ts nw cn mt cd) (l : Launch) : ∀ (n d mid pc : Nat) (L : am_L) (st : List Value) (σ : am_S) (r : Option Value × am_S), am (some X) ec mt cd n d mid pc L st σ = some r → ∀ M, mt mid = some M →
    ∀ {sb b : Nat} {D : va_G} {dT : Nat → ClassId} {p : Program} {e : Env} {R : Room} {s : State} {m : MethodId} {args : Array Value} {below : List Frame} {meth : Method} {c : Code} {H : Heap} {locs : List Loc} {cells slots : Nat} {Q : State → Prop} {ls : Array Slot},
    am_Cx cl Ts cn M.2.2.2.2.1 M.2.2.2.2.2 X sb b D dT p s m args meth c M.2.1 M.2.2.1 → (∀ w ∈ nw, va_Nw w s) → am_lh sb b ls M.2.2.1 L → am_Wd cl sb b D dT s σ H locs → (d ≤ R.frames ∧ 40 * d ≤ R.locals) → s.heap.size + cells = b + σ.1.length →
    (cells + (r.2.1.length - σ.1.length) ≤ R.cells ∧ slots + (am_sz cl r.2.1 - am_sz cl σ.1) ≤ R.slots) →
    (∀ (H' : Heap) (locs' : List Loc) (ls' : Array Slot) (pc' : Nat) (st' : List Value), am_end M.2.1 M.2.2.2.1 pc' st' (r.1.map (am_cv sb b)) → am_Wd cl sb b D dT s r.2 H' locs' → H'.size = b + r.2.1.length → W p l e R s m args below meth c H' locs' (cells + (r.2.1.length - σ.1.length)) (slots + (am_sz cl r.2.1 - am_sz cl σ.1)) Q (F0 m pc' ls' st')) →
    W p l e R s m args below meth c H locs cells slots Q (F0 m pc ls (st.map (am_cv sb b)))
  | 0, _, _, _, _, _, _, _, h => by rw [am] at h; cases h
  | n + 1, d, mid, pc, L, st, σ, r, h => by
    intro M hM sb b D dT p e R s m args below meth c H locs cells slots Q ls hC hnw hl hW hR hsz hcap hend
    obtain ⟨M', i, r1, r2, r3, hM', hc, hcase⟩ := am_succ h
    cases hM.symm.trans hM'
    obtain ⟨hdg, hcall, hok⟩ := hcd mid M hM pc i r1 r2 r3 hc
    rcases hcase with ⟨rfl, h1, rfl, rfl⟩ | ⟨rfl, x, rfl, h1, rfl⟩ | ⟨hic, d', N, as, t, q, rfl, hN, has, ht, hlen, hq, h2⟩ | ⟨hic, hi1, hi2, q, hq, h2⟩
    · refine am_size_W hW hC.2.2.2.2.2.2.2.2.2.2 hsz fun hz => ?_
      have h9 := hend H locs ls pc [] (Or.inl ⟨rfl, rfl, h1, hdg⟩) hW hz
      simp only [Nat.sub_self, Nat.add_zero] at h9
      exact h9
    · refine am_size_W hW hC.2.2.2.2.2.2.2.2.2.2 hsz fun hz => ?_
      have h3 : ∃ ty, M.2.2.2.1 = some ty ∧ narrow ty (.int x) = .int x := by
        unfold am_rok at h1
        split at h1
        · rename_i e1; exact ⟨_, e1, rfl⟩
        · rename_i e1
          refine ⟨_, e1, ?_⟩
          simp only [Bool.or_eq_true, beq_iff_eq] at h1
          rcases h1 with rfl | rfl <;> rfl
        · cases h1
      obtain ⟨ty, e1, e2⟩ := h3
      have h9 := hend H locs ls pc [.int x] (Or.inr ⟨x, ty, rfl, rfl, e1, e2, hdg⟩) hW hz
      simp only [Nat.sub_self, Nat.add_zero] at h9
      exact h9
    · obtain ⟨hNok, hcnt, hcw⟩ := hcall hic N hN
      obtain ⟨K1, e1⟩ := am_grow n _ _ _ _ _ _ _ hq
      obtain ⟨K2, e2⟩ := am_grow n _ _ _ _ _ _ _ h2
      have l1 : q.2.1.length = σ.1.length + K1.length := by rw [e1, List.length_append]
      have l2 : r.2.1.length = q.2.1.length + K2.length := by rw [e2, List.length_append]
      have z1 : am_sz cl q.2.1 = am_sz cl σ.1 + am_sz cl K1 := by rw [e1, am_sz_app]
      have z2 : am_sz cl r.2.1 = am_sz cl q.2.1 + am_sz cl K2 := by rw [e2, am_sz_app]
      have hMet : Met l N.1 (Cond.code N.1 N.2.1 N.2.2.1 N.2.2.2.1 :: Ts) ({ frames := d', cells := q.2.1.length - σ.1.length, slots := am_sz cl q.2.1 - am_sz cl σ.1, locals := 40 * d' }) (am_Pc cl nw cn X sb b D dT as σ) (am_Qc cl nw cn X sb b D dT (q.1.map (am_cv sb b), q.2)) (q.2.1.length - σ.1.length) (am_sz cl q.2.1 - am_sz cl σ.1) (fun x => b ≤ x) := by
        refine Met.ofW (cc := N.2.1) (maxL := N.2.2.1) (ret := N.2.2.2.1) hNok.2.1 rfl ?_
        intro p e s m args below meth c s₁ B hml hv
        obtain ⟨rfl, g1, g2, g3, g4, g5, g6, g7⟩ := hv
        have hts0 := atoms_spec (ws := Cond.code N.1 N.2.1 N.2.2.1 N.2.2.2.1 :: Ts) B.pre
        have hown : s.vm.findClass N.1.cls = some m.cls := findClass_of_methodNamed B.named
        rw [lg_entry_eq]
        refine am_sim hT hgood hn hcd l n d' r2 0 (am_en as N.2.2.1) [] σ q hq N hN (sb := sb) (b := b) (D := D) (dT := dT) ⟨B.exec, B.bytes, hml, fun w hw => hts0 w (List.mem_cons_of_mem _ hw), by rw [← hNok.2.2.1]; exact hown, fun hi => ((name_of_methodNamed B.named B.method).1).trans (hNok.2.2.2.2.2.1 hi), g3, g4, g6, g7, by rw [g1]; omega⟩ g5 (am_lh_en hlen) ⟨g2, va_S.rf⟩ ⟨Nat.le_refl _, Nat.le_refl _⟩ (by rw [Nat.add_zero]; exact g1) ⟨by show 0 + _ ≤ _ - _; omega, by show 0 + _ ≤ _ - _; omega⟩ fun H' locs' ls' pc' st' hen hW' hz' => ?_
        have hend' : ∀ t : State, t.heap = H' → s.WarmedH t.vm → am_B cl nw cn X sb b D dT q.2 t ∧ va_F (fun x => b ≤ x) s t := fun t ht hW9 => by
          have hsb : H'[sb]? = s.heap[sb]? := hW'.2.2.1 sb (by omega) (by omega)
          refine ⟨⟨by rw [ht]; exact hz', by rw [ht]; exact hW'.1, va_K.moved hW9.alike g3, va_AO.moved hW9.alike g4, fun w hw => ?_, by rw [ht]; exact va_X.moved hW9.alike (g6.kept hsb), g7⟩, hW'.2.F ht⟩
          have h8 := g5 w hw
          obtain ⟨a, i, x, h, rfl⟩ := hn w hw
          exact va_Nw.warmM hW9 h8
        rw [Nat.zero_add, Nat.zero_add]
        rcases hen with ⟨f1, rfl, f3, hdg'⟩ | ⟨x, ty, f1, rfl, f3, f4, hdg'⟩
        · exact W.vret B.exec B.bytes (by rw [B.returns]; exact f3) (fun t ht hW9 => ⟨by show Outcome.returned none = Outcome.returned (q.1.map (am_cv sb b)); rw [f1], hend' t ht hW9⟩) hW'.2.2.2 hdg' B.notSynchronized
        · exact W.zret B.exec B.bytes (by rw [B.returns]; exact f3) f4 (fun t ht hW9 => ⟨by show Outcome.returned (some (.int x)) = Outcome.returned (q.1.map (am_cv sb b)); rw [f1], hend' t ht hW9⟩) hW'.2.2.2 hdg' B.notSynchronized
      have hG : ∀ ws : List Cond, (∀ w ∈ ws, w ∈ Ts) → GoodIn Ts (ws ++ (Cond.code N.1 N.2.1 N.2.2.1 N.2.2.2.1 :: Ts)) := fun ws hws w hw => by
        have hm : w ∈ Ts := by
          rcases List.mem_append.mp hw with h | h
          · exact hws w h
          · rcases List.mem_cons.mp h with rfl | h
            · exact hNok.1
            · exact h
        exact ⟨hm, good_of_word (hgood w hm)⟩
      have hroom : d' + 1 ≤ R.frames ∧ 8 + (N.2.2.1 + 11) + 40 * d' ≤ R.locals := ⟨hR.1, by have := hNok.2.2.2.2.1; have := hR.2; omega⟩
      have hcc : cells + (q.2.1.length - σ.1.length) ≤ R.cells ∧ slots + (am_sz cl q.2.1 - am_sz cl σ.1) ≤ R.slots := ⟨by have := hcap.1; omega, by have := hcap.2; omega⟩
      refine am_size_W hW hC.2.2.2.2.2.2.2.2.2.2 hsz fun hz => ?_
      have hU : ∀ U : State, U.heap = H → s.WarmedH U.vm → am_B cl nw cn X sb b D dT σ U := fun U hU hWU => by
        obtain ⟨-, -, -, -, -, -, g3, g4, g6, g7, g8⟩ := hC
        have hsb : H[sb]? = s.heap[sb]? := hW.2.2.1 sb (by omega) (by omega)
        refine ⟨by rw [hU]; exact hz, by rw [hU]; exact hW.1, va_K.moved hWU.alike g3, va_AO.moved hWU.alike g4, fun w hw => ?_, by rw [hU]; exact va_X.moved hWU.alike (g6.kept hsb), g7⟩
        have h8 := hnw w hw
        obtain ⟨a, i, x, h, rfl⟩ := hn w hw
        exact va_Nw.warmM hWU h8
      have hgo : ∀ (H1 : Heap) (locs1 : List Loc), va_P D cl (am_ws cl sb b dT q.2) H1 → va_S (fun x => b ≤ x) s.heap H1 locs1 → W p l e R s m args below meth c H1 locs1 (cells + (q.2.1.length - σ.1.length)) (slots + (am_sz cl q.2.1 - am_sz cl σ.1)) Q (F0 m (pc + 3) ls ((q.1.map (am_cv sb b)).toList ++ t.map (am_cv sb b))) := fun H1 locs1 hP1 hS1 => by
        have e3 : (q.1.map (am_cv sb b)).toList ++ t.map (am_cv sb b) = (q.1.toList ++ t).map (am_cv sb b) := by cases q.1 <;> simp
        rw [e3]
        refine am_sim hT hgood hn hcd l n (d' + 1) mid (pc + 3) L (q.1.toList ++ t) q.2 r h2 M hM hC hnw hl ⟨hP1, hS1⟩ hR (by omega) ⟨by have := hcap.1; omega, by have := hcap.2; omega⟩ fun H2 locs2 ls2 pc2 st2 hen hW2 hz2 => ?_
        have h9 := hend H2 locs2 ls2 pc2 st2 hen hW2 hz2
        rw [show cells + (q.2.1.length - σ.1.length) + (r.2.1.length - q.2.1.length) = cells + (r.2.1.length - σ.1.length) by omega, show slots + (am_sz cl q.2.1 - am_sz cl σ.1) + (am_sz cl r.2.1 - am_sz cl q.2.1) = slots + (am_sz cl r.2.1 - am_sz cl σ.1) by omega]
        exact h9
      have hfix : CallFix p m c M.2.1 M.2.2.1 s args Ts M.2.2.2.2.1 := ⟨hC.1, hC.2.1, hC.2.2.1, hC.2.2.2.2.1 ▸ hC.2.2.2.2.1, hC.2.2.2.1⟩
      have hini := hC.2.2.2.1 _ hNok.2.2.2.2.2.2
      cases i with
      | invokevirtual idx =>
        obtain ⟨w1, w2, w3, qq, hqq, hqn⟩ := hcw
        obtain ⟨a, t', hdrop, h9⟩ := am_a1_of has
        obtain ⟨hk, h9⟩ := am_if_of h9
        cases h9
        obtain ⟨j, rfl, hj⟩ := am_kd_of hk
        have hst : st = st.take r3 ++ .ref (j + 1) :: t := by rw [← hdrop, List.take_append_drop]
        have hr3 : (st.take r3).length = r3 := by
          rw [List.length_take]
          have h8 : (st.drop r3).length = t.length + 1 := by rw [hdrop]; rfl
          rw [List.length_drop] at h8
          omega
        have hpv : PreV s H N.1.cls (b + j) (am_Pc cl nw cn X sb b D dT (.ref (j + 1) :: (st.take r3).reverse) σ) ((st.take r3).reverse.map (am_cv sb b)) := by
          refine ⟨am_Pc_blind hn, ?_, fun U hU1 hU2 => ⟨by simp [am_cv, am_ad], hU U hU1 hU2⟩⟩
          obtain ⟨cell, c1, c2, c3⟩ := va_recv hC.2.2.2.2.2.2.1 hW.1 hqq (am_ws_at hj)
          exact ⟨cell, c1, c2, by rw [← hqn]; exact c3⟩
        have hstk : st.map (am_cv sb b) = ((st.take r3).reverse.map (am_cv sb b)).reverse ++ .ref (b + j) :: t.map (am_cv sb b) := by
          conv => lhs; rw [hst]
          simp [am_cv, am_ad]
        rcases w1 with w1 | ⟨host, w1⟩
        · exact am_call_W (va_runV (As := (st.take r3).reverse.map (am_cv sb b)) (rest := t.map (am_cv sb b)) (C := N.1.cls) (b := b + j) (n := r3) hfix hMet (cwV r3 hC.2.2.2.1 (hG [.methodLink M.2.2.2.2.1 idx N.1, .instanceMethod N.1, .selects N.1.cls N.1 N.1, .initialized N.1.cls] (fun w hw => by
            simp only [List.mem_cons, List.mem_singleton, List.not_mem_nil, or_false] at hw
            rcases hw with rfl | rfl | rfl | rfl
            · exact w1
            · exact w2
            · exact w3
            · exact hNok.2.2.2.2.2.2)) rfl rfl rfl ⟨rfl, hNok.2.2.2.1.1, hNok.2.2.2.1.2, hcnt⟩ hroom) hpv rfl (by rw [List.length_map, List.length_reverse, hr3]) hl.1 hstk (lv_room (by rw [am_cvs_ct]; exact ht)) hdg hcc) hW.2 hgo
        · exact am_call_W (va_runVN (As := (st.take r3).reverse.map (am_cv sb b)) (rest := t.map (am_cv sb b)) (C := N.1.cls) (b := b + j) (n := r3) hfix hMet ⟨va_cnB r3 hC.2.2.2.1 (hG [] (fun w hw => by cases hw)) rfl rfl rfl (hnw _ w1) hini ⟨hNok.2.2.2.1.1, hNok.2.2.2.1.2, hcnt⟩ hroom, hC.2.2.2.1 _ w2, hC.2.2.2.1 _ w3⟩ hpv rfl (by rw [List.length_map, List.length_reverse, hr3]) hl.1 hstk (lv_room (by rw [am_cvs_ct]; exact ht)) hdg hcc) hW.2 hgo
      | invokespecial idx =>
        obtain ⟨w1, w2, w3, w4⟩ := hcw
        obtain ⟨a, t', hdrop, h9⟩ := am_a1_of has
        cases h9
        have hst : st = st.take r3 ++ .ref a :: t := by rw [← hdrop, List.take_append_drop]
        have hr3 : (st.take r3).length = r3 := by
          rw [List.length_take]
          have h8 : (st.drop r3).length = t.length + 1 := by rw [hdrop]; rfl
          rw [List.length_drop] at h8
          omega
        have hstk : st.map (am_cv sb b) = ((st.take r3).reverse.map (am_cv sb b)).reverse ++ .ref (am_ad sb b a) :: t.map (am_cv sb b) := by
          conv => lhs; rw [hst]
          simp [am_cv]
        rw [w2] at hMet hG
        rcases w4 with w4 | ⟨host, w4⟩
        · exact am_call_W (va_runI (As := (st.take r3).reverse.map (am_cv sb b)) (rest := t.map (am_cv sb b)) (b := am_ad sb b a) (n := r3) hfix hMet (cwI r3 hC.2.2.2.1 (hG [] (fun w hw => by cases hw)) rfl rfl rfl hini (hC.2.2.2.1 _ w4) (hC.2.2.2.1 _ w3) w1 ⟨hNok.2.2.2.1.1, hNok.2.2.2.1.2, hcnt⟩ hroom) ⟨am_Pc_blind hn, fun U hU1 hU2 => ⟨by simp [am_cv], hU U hU1 hU2⟩⟩ rfl (by rw [List.length_map, List.length_reverse, hr3]) hl.1 hstk (lv_room (by rw [am_cvs_ct]; exact ht)) hdg hcc) hW.2 hgo
        · exact am_call_W (va_runIN (As := (st.take r3).reverse.map (am_cv sb b)) (rest := t.map (am_cv sb b)) (b := am_ad sb b a) (n := r3) hfix hMet ⟨va_cnB r3 hC.2.2.2.1 (hG [] (fun w hw => by cases hw)) rfl rfl rfl (hnw _ w4) hini ⟨hNok.2.2.2.1.1, hNok.2.2.2.1.2, hcnt⟩ hroom, w1, hC.2.2.2.1 _ w3⟩ ⟨am_Pc_blind hn, fun U hU1 hU2 => ⟨by simp [am_cv], hU U hU1 hU2⟩⟩ rfl (by rw [List.length_map, List.length_reverse, hr3]) hl.1 hstk (lv_room (by rw [am_cvs_ct]; exact ht)) hdg hcc) hW.2 hgo
      | invokestatic idx =>
        obtain ⟨w1, w2, w3⟩ := hcw
        obtain ⟨h8, h9⟩ := am_if_of has
        cases h9
        refine am_call_W (va_runS (As := (st.take r3).reverse.map (am_cv sb b)) (rest := (st.drop r3).map (am_cv sb b)) (n := r3) hfix hMet (cwS r3 hC.2.2.2.1 (hG [.methodLink M.2.2.2.2.1 idx N.1, .static N.1, .initialized M.2.2.2.2.1] (fun w hw => by
          simp only [List.mem_cons, List.mem_singleton, List.not_mem_nil, or_false] at hw
          rcases hw with rfl | rfl | rfl
          · exact w1
          · exact w2
          · rw [← w3]; exact hNok.2.2.2.2.2.2)) rfl rfl rfl ⟨w3, hNok.2.2.2.1.1, hNok.2.2.2.1.2, hcnt⟩ hroom) ⟨am_Pc_blind hn, fun U hU1 hU2 => ⟨by simp, hU U hU1 hU2⟩⟩ rfl (by rw [List.length_map, List.length_reverse, List.length_take]; omega) hl.1 ?_ (lv_room (by rw [am_cvs_ct]; exact ht)) hdg hcc) hW.2 hgo
        show st.map (am_cv sb b) = _
        conv => lhs; rw [← List.take_append_drop r3 st]
        simp
      | _ => cases hic
    · obtain ⟨K1, e1⟩ := am_ins_grow hq
      obtain ⟨K2, e2⟩ := am_grow n _ _ _ _ _ _ _ h2
      have l1 : q.2.2.2.1.length = σ.1.length + K1.length := by rw [e1, List.length_append]
      have l2 : r.2.1.length = q.2.2.2.1.length + K2.length := by rw [e2, List.length_append]
      have z1 : am_sz cl q.2.2.2.1 = am_sz cl σ.1 + am_sz cl K1 := by rw [e1, am_sz_app]
      have z2 : am_sz cl r.2.1 = am_sz cl q.2.2.2.1 + am_sz cl K2 := by rw [e2, am_sz_app]
      by_cases hh : am_hp i = true
      · refine am_heap_W hT hC hdg (hok hic) hh hl hW hR hsz hq ⟨by omega, by omega⟩ fun H' locs' hW' hL => ?_
        refine am_sim hT hgood hn hcd l n d mid q.1 q.2.1 q.2.2.1 q.2.2.2 r h2 M hM hC hnw (by rw [hL]; exact hl) hW' hR (by omega) ⟨by omega, by omega⟩ fun H2 locs2 ls2 pc2 st2 hen hW2 hz2 => ?_
        have h9 := hend H2 locs2 ls2 pc2 st2 hen hW2 hz2
        rw [show cells + (q.2.2.2.1.length - σ.1.length) + (r.2.1.length - q.2.2.2.1.length) = cells + (r.2.1.length - σ.1.length) by omega, show slots + (am_sz cl q.2.2.2.1 - am_sz cl σ.1) + (am_sz cl r.2.1 - am_sz cl q.2.2.2.1) = slots + (am_sz cl r.2.1 - am_sz cl σ.1) by omega]
        exact h9
      · refine am_pure_W hC.1 hC.2.1 hC.2.2.2.2.1 hC.2.2.2.1 hdg (hok hic) (by simpa using hh) hl hq fun ls' hl' hs => ?_
        obtain ⟨qa, qb, qc, qd⟩ := q
        cases hs
        refine am_sim hT hgood hn hcd l n d mid qa qb qc qd r h2 M hM hC hnw hl' hW hR hsz hcap fun H2 locs2 ls2 pc2 st2 hen hW2 hz2 => ?_
        exact hend H2 locs2 ls2 pc2 st2 hen hW2 hz2
end AMR
