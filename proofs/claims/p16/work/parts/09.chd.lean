/-! the checks of the tables, as programs -/
theorem an_tb_in : ∀ (c j : Nat) (w : Cond), (an_tb c)[j]? = some w → w ∈ lw_tbl := by
  intro c j w h
  have hm := List.mem_of_getElem? h
  unfold lw_tbl tables_1
  simp only [List.mem_append]
  unfold an_tb at hm
  split at hm
  · exact Or.inl hm
  · exact Or.inr (Or.inl hm)
  · exact Or.inr (Or.inr (Or.inl hm))
  · exact Or.inr (Or.inr (Or.inr (Or.inl hm)))
  · exact Or.inr (Or.inr (Or.inr (Or.inr (Or.inl hm))))
  · exact Or.inr (Or.inr (Or.inr (Or.inr (Or.inr (Or.inl hm)))))
  · exact Or.inr (Or.inr (Or.inr (Or.inr (Or.inr (Or.inr (Or.inl hm))))))
  · exact Or.inr (Or.inr (Or.inr (Or.inr (Or.inr (Or.inr (Or.inr (Or.inl hm)))))))
  · exact Or.inr (Or.inr (Or.inr (Or.inr (Or.inr (Or.inr (Or.inr (Or.inr hm)))))))
  · cases hm
def an_Ts : List Cond := lw_tbl.filter goodWord
theorem an_in {c j : Nat} {w : Cond} (h : (an_tb c)[j]? = some w) (hg : goodWord w = true) : w ∈ an_Ts := List.mem_filter.mpr ⟨an_tb_in c j w h, hg⟩
theorem an_good : ∀ w ∈ an_Ts, goodWord w = true := fun w h => (List.mem_filter.mp h).2
def an_w (c j : Nat) (w : Cond) : Bool := decide ((an_tb c)[j]? = some w) && goodWord w
theorem an_w_in {c j : Nat} {w : Cond} (h : an_w c j w = true) : w ∈ an_Ts := by
  unfold an_w at h
  rw [Bool.and_eq_true, decide_eq_true_eq] at h
  exact an_in h.1 h.2
def am_ft (t : List (List (Nat × am_E))) (pc : Nat) : Option am_E := match t[pc / 16]? with
  | some c => (c.find? fun q => q.1 == pc).map fun q => q.2
  | none => none
def an_mtf (mid : Nat) : Option am_M := (an_all[mid]?).map fun q => q.1
def an_cd (mid pc : Nat) : Option am_E := match an_all[mid]? with
  | some q => am_ft q.2.2 pc
  | none => none
def an_flB (q : Nat × Nat × Nat × Nat × Nat × Bool × Nat × Nat) : Bool := match an_cl[q.2.2.1]? with
  | some v => decide (q.2.2.2.1 < v.2.2) && decide (q.2.2.2.2.1 = am_fk an_cl q.2.2.1 q.2.2.2.1) && an_w q.2.2.2.2.2.2.1 q.2.2.2.2.2.2.2 (.fieldLink (an_own q.1) q.2.1 (v.2.1 q.2.2.2.1).1 (v.2.1 q.2.2.2.1).2.1 (v.2.1 q.2.2.2.1).2.2.1) && decide (q.2.2.2.2.2.1 = (v.2.1 q.2.2.2.1).2.2.2) && decide ((v.2.1 q.2.2.2.1).1 = an_own q.2.2.1)
  | none => false
def an_ctB (q : Nat × Nat × Nat × Nat × Nat × Nat × Nat × Nat × Nat × Nat × Nat × Nat) : Bool := match q with
  | (own, idx, kd, r1, mid, np, c1, j1, c2, j2, c3, j3) => match an_mtf mid with
    | some N => decide (mid ≠ 0) && decide ((parseMethodDescriptor N.1.desc).map (fun d => d.parameters.length) = some np) && (match kd with
      | 0 => an_w c1 j1 (.methodLink (an_own own) idx N.1) && an_w c2 j2 (.instanceMethod N.1) && an_w c3 j3 (.selects N.1.cls N.1 N.1) && decide ((an_cl[r1]?).map (fun v => v.1) = some N.1.cls)
      | 1 => decide (N.1.name = "<init>") && decide (N.2.2.2.1 = none) && an_w c2 j2 (.instanceMethod N.1) && an_w c1 j1 (.methodLink (an_own own) idx N.1)
      | 2 => an_w c1 j1 (.methodLink (an_own own) idx N.1) && an_w c2 j2 (.static N.1) && decide (N.1.cls = an_own own)
      | 3 => decide (an_nw[j1]? = some (.methodLinkNest (an_own own) idx N.1 an_host)) && an_w c2 j2 (.instanceMethod N.1) && an_w c3 j3 (.selects N.1.cls N.1 N.1) && decide ((an_cl[r1]?).map (fun v => v.1) = some N.1.cls)
      | 4 => decide (N.1.name = "<init>") && decide (N.2.2.2.1 = none) && an_w c2 j2 (.instanceMethod N.1) && decide (an_nw[j1]? = some (.methodLinkNest (an_own own) idx N.1 an_host))
      | _ => false)
    | none => false
def an_kiB (q : Nat × Nat × Nat × Nat × Nat) : Bool := an_w q.2.2.2.1 q.2.2.2.2 (.constant (an_own q.1) q.2.1 (Int32.ofNat q.2.2.1))
def an_klB (q : Nat × Nat × Nat × Nat × Nat) : Bool := an_w q.2.2.2.1 q.2.2.2.2 (.constantLong (an_own q.1) q.2.1 (Int64.ofNat q.2.2.1))
def an_ncB (q : Nat × Nat × Nat × Nat × Nat × Nat × Nat × Nat × Nat) : Bool := match q with
  | (own, idx, ci, c1, j1, c2, j2, c3, j3) => match an_cl[ci]? with
    | some v => an_w c1 j1 (.classLink (an_own own) idx v.1) && an_w c2 j2 (.instantiable v.1 v.2.2) && an_w c3 j3 (.initialized v.1)
    | none => false
def an_aaB (q : Nat × Nat × Nat × Nat) : Bool := an_w q.2.2.1 q.2.2.2 (.classLink (an_own q.1) q.2.1 an_cn)
def an_oiB (q : Nat × Nat × Nat × Nat) : Bool := an_w q.2.2.1 q.2.2.2 (.methodLink (an_own q.1) q.2.1 Lib.objectInit)
def an_mxB (q : Nat × Nat × Nat × Nat × Nat) : Bool := match q.2.2.1 with
  | 5 => an_w q.2.2.2.1 q.2.2.2.2 (.methodLink (an_own q.1) q.2.1 Lib.Math.max.name)
  | 6 => an_w q.2.2.2.1 q.2.2.2.2 (.methodLink (an_own q.1) q.2.1 Lib.Math.min.name)
  | 7 => an_w q.2.2.2.1 q.2.2.2.2 (.methodLink (an_own q.1) q.2.1 arraycopyName)
  | _ => false
def an_callB (own : Nat) (e : am_E) : Bool := match e with
  | (.invokevirtual idx, r1, r2, r3) => an_ct.any fun q => q.1 == own && q.2.1 == idx && (q.2.2.1 == 0 || q.2.2.1 == 3) && q.2.2.2.1 == r1 && q.2.2.2.2.1 == r2 && q.2.2.2.2.2.1 == r3
  | (.invokespecial idx, _, r2, r3) => an_ct.any fun q => q.1 == own && q.2.1 == idx && (q.2.2.1 == 1 || q.2.2.1 == 4) && q.2.2.2.2.1 == r2 && q.2.2.2.2.2.1 == r3
  | (.invokestatic idx, _, r2, r3) => an_ct.any fun q => q.1 == own && q.2.1 == idx && q.2.2.1 == 2 && q.2.2.2.2.1 == r2 && q.2.2.2.2.2.1 == r3
  | _ => false
def an_insB (own : Nat) (ini : Bool) (e : am_E) : Bool := match e with
  | (.getfield idx, r1, r2, r3) => an_fl.any fun q => q.1 == own && q.2.1 == idx && q.2.2.1 == r1 && q.2.2.2.1 == r2 && q.2.2.2.2.1 == r3
  | (.putfield idx, r1, r2, r3) => an_fl.any fun q => q.1 == own && q.2.1 == idx && q.2.2.1 == r1 && q.2.2.2.1 == r2 && q.2.2.2.2.1 == r3 && (!q.2.2.2.2.2.1 || (ini && r1 == own))
  | (.ldc idx, r1, _, _) => an_ki.any fun q => q.1 == own && q.2.1 == idx && q.2.2.1 == r1
  | (.ldc2_w idx, r1, _, _) => an_kl.any fun q => q.1 == own && q.2.1 == idx && q.2.2.1 == r1
  | (.new idx, r1, _, _) => an_nc.any fun q => q.1 == own && q.2.1 == idx && q.2.2.1 == r1
  | (.newarray at', r1, _, _) => (r1 == 0 && decide (at' = .int)) || (r1 == 1 && decide (at' = .byte)) || (r1 == 2 && decide (at' = .boolean)) || (r1 == 3 && decide (at' = .long))
  | (.anewarray idx, _, _, _) => an_aa.any fun q => q.1 == own && q.2.1 == idx
  | (.invokespecial idx, _, _, _) => an_oi.any fun q => q.1 == own && q.2.1 == idx
  | (.invokestatic idx, r1, _, _) => an_mx.any fun q => q.1 == own && q.2.1 == idx && q.2.2.1 == r1
  | _ => true
def an_chk (own : Nat) (bytes : ByteArray) (ini : Bool) (q : Nat × am_E) : Bool := decide (decode bytes q.1 = .ok (q.2.1, am_len q.2.1 q.2.2.1)) && (if am_isCall q.2.1 q.2.2.1 = true then an_callB own q.2 else an_insB own ini q.2)
def an_chkP (own : Nat) (bytes : ByteArray) (ini : Bool) (t : List (List (Nat × am_E))) : Bool := t.all fun c => c.all fun x => an_chk own bytes ini x
def an_chkM (q : am_M × Nat × List (List (Nat × am_E))) : Bool := decide (q.1.2.2.2.2.1 = an_own q.2.1) && an_chkP q.2.1 q.1.2.1 q.1.2.2.2.2.2 q.2.2
theorem an_app {own : Nat} {bytes : ByteArray} {ini : Bool} {s t : List (List (Nat × am_E))} (h1 : an_chkP own bytes ini s = true) (h2 : an_chkP own bytes ini t = true) : an_chkP own bytes ini (s ++ t) = true := by
  unfold an_chkP at *
  rw [List.all_append, h1, h2]; rfl
theorem an_chkM_of {q : am_M × Nat × List (List (Nat × am_E))} (h1 : decide (q.1.2.2.2.2.1 = an_own q.2.1) = true) (h2 : an_chkP q.2.1 q.1.2.1 q.1.2.2.2.2.2 q.2.2 = true) : an_chkM q = true := by
  unfold an_chkM
  rw [h1, h2]; rfl

theorem an_fl_ok : an_fl.all an_flB = true := by decide +kernel
theorem an_ct_ok : an_ct.all an_ctB = true := by decide +kernel
theorem an_ki_ok : an_ki.all an_kiB = true := by decide +kernel
theorem an_kl_ok : an_kl.all an_klB = true := by decide +kernel
theorem an_nc_ok : an_nc.all an_ncB = true := by decide +kernel
theorem an_aa_ok : an_aa.all an_aaB = true := by decide +kernel
theorem an_oi_ok : an_oi.all an_oiB = true := by decide +kernel
theorem an_mx_ok : an_mx.all an_mxB = true := by decide +kernel
