/-! one instruction of the small machine is one of the machine's -/
def am_tys (dT : Nat → ClassId) (cn : String) : List (ClassId × FieldType) := [(dT 0, .int), (dT 1, .byte), (dT 2, .boolean), (dT 3, .long), (dT 4, .object cn)]
def am_sl (cl : List vw_C) : am_K → Nat
  | .inl ci => am_nf cl ci
  | .inr (_, n) => n
def am_sz (cl : List vw_C) (K : List am_K) : Nat := (K.map (am_sl cl)).sum
/-- what the tables say of the classes -/
def am_Tb (cl : List vw_C) (Ts : List Cond) (cn : String) (ec : Nat) : Prop :=
  (∀ (ci : Nat) (q : vw_C), cl[ci]? = some q → (∀ w ∈ u_ws q.1 q.2.1 q.2.2, w ∈ Ts) ∧ (∃ ty : Nat → FieldType, ∀ k, k < q.2.2 → parseFieldDescriptor (q.2.1 k).2.2.1 = some (ty k)) ∧ (∀ k, k < q.2.2 → am_fk cl ci k ≤ 3) ∧ ∀ x, x < q.2.2 → ∀ y, y < q.2.2 → x ≠ y → (q.2.1 x).2.1 ≠ (q.2.1 y).2.1) ∧
  (∃ q : vw_C, cl[ec]? = some q ∧ q.1 = cn) ∧ Cond.arrayClass .int ∈ Ts ∧ Cond.arrayClass .byte ∈ Ts ∧ Cond.arrayClass .boolean ∈ Ts ∧ Cond.arrayClass .long ∈ Ts
/-- what stays the same in a method's run -/
def am_Cx (cl : List vw_C) (Ts : List Cond) (cn own : String) (ini : Bool) (X : Nat × (Nat → Int32)) (sb b : Nat) (D : va_G) (dT : Nat → ClassId) (p : Program) (s : State) (m : MethodId) (args : Array Value) (meth : Method) (c : Code) (cc : ByteArray) (nL : Nat) : Prop :=
  p.tables.exec = Jvm.exec ∧ c.code = cc ∧ c.maxLocals = nL ∧ (∀ w ∈ Ts, w.before args s = true) ∧ s.vm.findClass own = some m.cls ∧ (ini = true → meth.name = "<init>") ∧
  va_K D cl (am_tys dT cn) s ∧ va_AO cn s ∧ va_X sb X.1 X.2 s s.heap ∧ sb < b ∧ b ≤ s.heap.size
/-- what the tables say of an instruction -/
def am_ok (cl : List vw_C) (Ts : List Cond) (cn own : String) (ini : Bool) (i : Instr) (r1 r2 r3 : Nat) : Prop := match i with
  | .getfield idx => ∃ q : vw_C, cl[r1]? = some q ∧ r2 < q.2.2 ∧ r3 = am_fk cl r1 r2 ∧ Cond.fieldLink own idx (q.2.1 r2).1 (q.2.1 r2).2.1 (q.2.1 r2).2.2.1 ∈ Ts
  | .putfield idx => ∃ q : vw_C, cl[r1]? = some q ∧ r2 < q.2.2 ∧ r3 = am_fk cl r1 r2 ∧ Cond.fieldLink own idx (q.2.1 r2).1 (q.2.1 r2).2.1 (q.2.1 r2).2.2.1 ∈ Ts ∧ ((q.2.1 r2).2.2.2 = true → ini = true ∧ (q.2.1 r2).1 = own)
  | .ldc idx => Cond.constant own idx (Int32.ofNat r1) ∈ Ts
  | .ldc2_w idx => Cond.constantLong own idx (Int64.ofNat r1) ∈ Ts
  | .new idx => ∃ q : vw_C, cl[r1]? = some q ∧ Cond.classLink own idx q.1 ∈ Ts ∧ Cond.instantiable q.1 q.2.2 ∈ Ts ∧ Cond.initialized q.1 ∈ Ts
  | .newarray at' => (r1 = 0 ∧ at' = .int) ∨ (r1 = 1 ∧ at' = .byte) ∨ (r1 = 2 ∧ at' = .boolean) ∨ (r1 = 3 ∧ at' = .long)
  | .anewarray idx => Cond.classLink own idx cn ∈ Ts
  | .invokespecial idx => r1 = 4 → Cond.methodLink own idx Lib.objectInit ∈ Ts ∧ Cond.instanceMethod Lib.objectInit ∈ Ts ∧ Cond.code Lib.objectInit ⟨#[0xb1]⟩ 1 none ∈ Ts
  | .invokestatic idx => (r1 = 5 → Cond.methodLink own idx Lib.Math.max.name ∈ Ts ∧ Cond.static Lib.Math.max.name ∈ Ts ∧ Cond.initialized "java/lang/Math" ∈ Ts ∧ Cond.code Lib.Math.max.name Lib.Math.max.code 2 (some .int) ∈ Ts) ∧
      (r1 = 6 → Cond.methodLink own idx Lib.Math.min.name ∈ Ts ∧ Cond.static Lib.Math.min.name ∈ Ts ∧ Cond.initialized "java/lang/Math" ∈ Ts ∧ Cond.code Lib.Math.min.name Lib.Math.min.code 2 (some .int) ∈ Ts) ∧
      (r1 = 7 → Cond.methodLink own idx arraycopyName ∈ Ts ∧ Cond.native arraycopyName ∈ Ts ∧ Cond.static arraycopyName ∈ Ts ∧ Cond.initialized "java/lang/System" ∈ Ts)
  | _ => True
/-- how many bytes it takes -/
def am_len (i : Instr) (r1 : Nat) : Nat := match i with
  | .bipush _ | .ldc _ | .iload _ | .lload _ | .aload _ | .istore _ | .lstore _ | .astore _ | .newarray _ => 2
  | .sipush _ | .ldc2_w _ | .iinc _ _ | .goto _ | .ifCond _ _ | .if_icmp _ _ | .getfield _ | .putfield _ | .new _ | .anewarray _ | .invokespecial _ | .invokestatic _ | .invokevirtual _ => 3
  | .tableswitch _ _ _ _ | .lookupswitch _ _ => r1
  | _ => 1
/-- does it touch the heap -/
def am_hp (i : Instr) : Bool := match i with
  | .getfield _ | .putfield _ | .iaload | .baload | .laload | .aaload | .iastore | .bastore | .lastore | .aastore | .arraylength | .new _ | .newarray _ | .anewarray _ | .invokespecial _ | .invokestatic _ => true
  | _ => false
section AMI
variable {cl : List vw_C} {Ts : List Cond} {cn own : String} {ec : Nat} {ini : Bool} {X : Nat × (Nat → Int32)} {sb b : Nat} {D : va_G} {dT : Nat → ClassId}
variable {p : Program} {l : Launch} {e : Env} {R : Room} {s : State} {m : MethodId} {args : Array Value} {below : List Frame} {meth : Method} {c : Code} {H : Heap} {locs : List Loc} {cells slots : Nat} {Q : State → Prop}
variable {cc : ByteArray} {nL d r1 r2 r3 pc : Nat} {ls : Array Slot} {L : am_L} {st : List Value} {σ : am_S}
/-- the world's part of a state of the run -/
def am_Wd (cl : List vw_C) (sb b : Nat) (D : va_G) (dT : Nat → ClassId) (s : State) (σ : am_S) (H : Heap) (locs : List Loc) : Prop := va_P D cl (am_ws cl sb b dT σ) H ∧ va_S (fun q => b ≤ q) s.heap H locs
theorem am_cvs_ct (st : List Value) : ((st.map (am_cv sb b)).map fun v => v.category).sum = am_ct st := by
  rw [am_ct, List.map_map]
  congr 1
  exact List.map_congr_left fun v _ => am_cv_cat sb b v
theorem am_br_of {c' : Bool} {off : Int} {q : am_R} (h : am_br c' pc off L st σ = some q) : ∃ tgt : Nat, (pc : Int) + off = tgt ∧ q = ((if c' = true then tgt else pc + 3), L, st, σ) := by
  unfold am_br at h
  obtain ⟨h1, h2⟩ := am_if_of h
  refine ⟨((pc : Int) + off).toNat, by omega, ?_⟩
  cases h2; rfl
theorem am_to_of {off : Int} {q : am_R} (h : am_to pc off L st σ = some q) : ∃ tgt : Nat, (pc : Int) + off = tgt ∧ q = (tgt, L, st, σ) := by
  unfold am_to at h
  obtain ⟨h1, h2⟩ := am_if_of h
  refine ⟨((pc : Int) + off).toNat, by omega, ?_⟩
  cases h2; rfl
/-- the instructions that touch the frame alone -/
theorem am_pure_W (hx : p.tables.exec = Jvm.exec) (hb : c.code = cc) (hown : s.vm.findClass own = some m.cls) (hts : ∀ w ∈ Ts, w.before args s = true) {i : Instr} (hdg : decode cc pc = .ok (i, am_len i r1)) (hok : am_ok cl Ts cn own ini i r1 r2 r3)
    (hpure : am_hp i = false)
    (hl : am_lh sb b ls nL L) {q : am_R} (h : am_ins (some X) ec d i r1 r2 r3 pc L st σ = some q)
    (kk : ∀ ls', am_lh sb b ls' nL q.2.1 → q.2.2.2 = σ → W p l e R s m args below meth c H locs cells slots Q (F0 m q.1 ls' (q.2.2.1.map (am_cv sb b)))) :
    W p l e R s m args below meth c H locs cells slots Q (F0 m pc ls (st.map (am_cv sb b))) := by
  cases i with
  | iconst n => cases h; exact lv_iconst hx hb hdg rfl (kk _ hl rfl)
  | bipush n => cases h; exact lv_bipush hx hb hdg rfl (kk _ hl rfl)
  | sipush n => cases h; exact lv_sipush hx hb hdg rfl (kk _ hl rfl)
  | lconst n => cases h; exact lv_lconst hx hb hdg rfl (kk _ hl rfl)
  | ldc n => cases h; exact lv_ldc hx hb hown (hts _ hok) hdg (kk _ hl rfl)
  | ldc2_w n => cases h; exact lv_ldc2 hx hb hown (hts _ hok) hdg (kk _ hl rfl)
  | iload_n n => obtain ⟨x, hv, h⟩ := am_ti_of h; cases h; exact lv_iload_n hx hb hdg rfl (am_lh_ld hl hv) (kk _ hl rfl)
  | iload n => obtain ⟨x, hv, h⟩ := am_ti_of h; cases h; exact lv_iload hx hb hdg (am_lh_ld hl hv) (kk _ hl rfl)
  | lload_n n => obtain ⟨x, hv, h⟩ := am_tl_of h; cases h; exact lv_lload_n hx hb hdg rfl (am_lh_ld hl hv) (kk _ hl rfl)
  | lload n => obtain ⟨x, hv, h⟩ := am_tl_of h; cases h; exact lv_lload hx hb hdg (am_lh_ld hl hv) (kk _ hl rfl)
  | aload_n n => obtain ⟨x, hv, h⟩ := am_ta_of h; cases h; exact lv_aload_n hx hb hdg rfl (am_lh_ld hl hv) (kk _ hl rfl)
  | aload n => obtain ⟨x, hv, h⟩ := am_ta_of h; cases h; exact lv_aload hx hb hdg (am_lh_ld hl hv) (kk _ hl rfl)
  | istore_n n => obtain ⟨x, t, rfl, h⟩ := am_i1_of h; obtain ⟨hk, h⟩ := am_if_of h; cases h; exact lv_istore_n hx hb hdg rfl (am_lh_has hl) (by rw [← hl.2.1]; exact hk) rfl fun ls' h' => kk ls' (am_lh_s1 (v := .int x) hl.2.1 h') rfl
  | istore n => obtain ⟨x, t, rfl, h⟩ := am_i1_of h; obtain ⟨hk, h⟩ := am_if_of h; cases h; exact lv_istore hx hb hdg (am_lh_has hl) (by rw [← hl.2.1]; exact hk) rfl fun ls' h' => kk ls' (am_lh_s1 (v := .int x) hl.2.1 h') rfl
  | lstore_n n => obtain ⟨x, t, rfl, h⟩ := am_l1_of h; obtain ⟨hk, h⟩ := am_if_of h; cases h; exact lv_lstore_n hx hb hdg rfl (am_lh_has hl) (by rw [← hl.2.1]; exact hk) rfl fun ls' h' => kk ls' (am_lh_s2 (v := .long x) hl.2.1 h') rfl
  | lstore n => obtain ⟨x, t, rfl, h⟩ := am_l1_of h; obtain ⟨hk, h⟩ := am_if_of h; cases h; exact lv_lstore hx hb hdg (am_lh_has hl) (by rw [← hl.2.1]; exact hk) rfl fun ls' h' => kk ls' (am_lh_s2 (v := .long x) hl.2.1 h') rfl
  | astore_n n => obtain ⟨x, t, rfl, h⟩ := am_a1_of h; obtain ⟨hk, h⟩ := am_if_of h; cases h; exact lv_astore_n hx hb hdg rfl (am_lh_has hl) (by rw [← hl.2.1]; exact hk) rfl fun ls' h' => kk ls' (am_lh_s1 (v := .ref x) hl.2.1 h') rfl
  | astore n => obtain ⟨x, t, rfl, h⟩ := am_a1_of h; obtain ⟨hk, h⟩ := am_if_of h; cases h; exact lv_astore hx hb hdg (am_lh_has hl) (by rw [← hl.2.1]; exact hk) rfl fun ls' h' => kk ls' (am_lh_s1 (v := .ref x) hl.2.1 h') rfl
  | iinc k n =>
    obtain ⟨x, hv, h⟩ := am_ti_of h; obtain ⟨hk, h⟩ := am_if_of h; cases h
    have h0 := am_lh_has hl
    have h1 : lv_has ls nL ((k, .int x) :: am_pl sb b L) := ⟨h0.1, h0.2.1, fun q hq => by
      rcases List.mem_cons.mp hq with rfl | hq
      · exact am_lh_ld hl hv
      · exact h0.2.2 q hq⟩
    refine lv_iinc hx hb hdg h1 (k := 0) rfl rfl (by rw [← hl.2.1]; exact hk) rfl fun ls' h' => kk ls' (am_lh_s1 (v := .int (x + Int32.ofInt n)) hl.2.1 ⟨h'.1, h'.2.1, fun q hq => h'.2.2 q ?_⟩) rfl
    rcases List.mem_cons.mp hq with rfl | hq
    · exact List.mem_cons_self
    · obtain ⟨g1, g2⟩ := List.mem_filter.mp hq
      exact List.mem_cons_of_mem _ (List.mem_filter.mpr ⟨List.mem_cons_of_mem _ g1, g2⟩)
  | iadd => obtain ⟨x, y, t, rfl, h⟩ := am_i2_of h; cases h; exact lv_iadd hx hb hdg (kk _ hl rfl)
  | isub => obtain ⟨x, y, t, rfl, h⟩ := am_i2_of h; cases h; exact lv_isub hx hb hdg (kk _ hl rfl)
  | imul => obtain ⟨x, y, t, rfl, h⟩ := am_i2_of h; cases h; exact lv_imul hx hb hdg (kk _ hl rfl)
  | iand => obtain ⟨x, y, t, rfl, h⟩ := am_i2_of h; cases h; exact lv_iand hx hb hdg (kk _ hl rfl)
  | ior => obtain ⟨x, y, t, rfl, h⟩ := am_i2_of h; cases h; exact lv_ior hx hb hdg (kk _ hl rfl)
  | ixor => obtain ⟨x, y, t, rfl, h⟩ := am_i2_of h; cases h; exact lv_ixor hx hb hdg (kk _ hl rfl)
  | idiv => obtain ⟨x, y, t, rfl, h⟩ := am_i2_of h; obtain ⟨hk, h⟩ := am_ifn_of h; cases h; exact lv_idiv hx hb hdg hk (kk _ hl rfl)
  | irem => obtain ⟨x, y, t, rfl, h⟩ := am_i2_of h; obtain ⟨hk, h⟩ := am_ifn_of h; cases h; exact lv_irem hx hb hdg hk (kk _ hl rfl)
  | ishl => obtain ⟨x, y, t, rfl, h⟩ := am_i2_of h; cases h; exact lv_ishl hx hb hdg (kk _ hl rfl)
  | ishr => obtain ⟨x, y, t, rfl, h⟩ := am_i2_of h; cases h; exact lv_ishr hx hb hdg (kk _ hl rfl)
  | iushr => obtain ⟨x, y, t, rfl, h⟩ := am_i2_of h; cases h; exact lv_iushr hx hb hdg rfl (kk _ hl rfl)
  | ineg => obtain ⟨x, t, rfl, h⟩ := am_i1_of h; cases h; exact lv_ineg hx hb hdg (kk _ hl rfl)
  | i2l => obtain ⟨x, t, rfl, h⟩ := am_i1_of h; cases h; exact lv_i2l hx hb hdg rfl (kk _ hl rfl)
  | i2b => obtain ⟨x, t, rfl, h⟩ := am_i1_of h; cases h; exact lv_i2b hx hb hdg rfl (kk _ hl rfl)
  | ladd => obtain ⟨x, y, t, rfl, h⟩ := am_l2_of h; cases h; exact lv_ladd hx hb hdg (kk _ hl rfl)
  | lmul => obtain ⟨x, y, t, rfl, h⟩ := am_l2_of h; cases h; exact lv_lmul hx hb hdg (kk _ hl rfl)
  | land => obtain ⟨x, y, t, rfl, h⟩ := am_l2_of h; cases h; exact lv_land hx hb hdg (kk _ hl rfl)
  | lor => obtain ⟨x, y, t, rfl, h⟩ := am_l2_of h; cases h; exact lv_lor hx hb hdg (kk _ hl rfl)
  | ldiv => obtain ⟨x, y, t, rfl, h⟩ := am_l2_of h; obtain ⟨hk, h⟩ := am_ifn_of h; cases h; exact lv_ldiv hx hb hdg hk (kk _ hl rfl)
  | lrem => obtain ⟨x, y, t, rfl, h⟩ := am_l2_of h; obtain ⟨hk, h⟩ := am_ifn_of h; cases h; exact lv_lrem hx hb hdg hk (kk _ hl rfl)
  | lcmp => obtain ⟨x, y, t, rfl, h⟩ := am_l2_of h; cases h; exact W.lcmp hx hb hdg (kk _ hl rfl)
  | lneg => obtain ⟨x, t, rfl, h⟩ := am_l1_of h; cases h; exact lv_lneg hx hb hdg (kk _ hl rfl)
  | l2i => obtain ⟨x, t, rfl, h⟩ := am_l1_of h; cases h; exact lv_l2i hx hb hdg rfl (kk _ hl rfl)
  | lshl => obtain ⟨x, y, t, rfl, h⟩ := am_li_of h; cases h; exact lv_lshl hx hb hdg rfl (kk _ hl rfl)
  | lushr => obtain ⟨x, y, t, rfl, h⟩ := am_li_of h; cases h; exact lv_lushr hx hb hdg rfl (kk _ hl rfl)
  | dup => obtain ⟨x, t, rfl, h⟩ := am_v1_of h; obtain ⟨hk, h⟩ := am_if_of h; cases h; exact lv_dup hx hb hdg (by rw [am_cv_cat]; exact hk) (kk _ hl rfl)
  | pop => obtain ⟨x, t, rfl, h⟩ := am_v1_of h; obtain ⟨hk, h⟩ := am_if_of h; cases h; exact lv_pop hx hb hdg (by rw [am_cv_cat]; exact hk) (kk _ hl rfl)
  | dup_x1 => obtain ⟨x, y, t, rfl, h⟩ := am_v2_of h; obtain ⟨hk, h⟩ := am_if_of h; cases h; exact lv_dup_x1 hx hb hdg (by rw [am_cv_cat]; exact hk.1) (by rw [am_cv_cat]; exact hk.2) (kk _ hl rfl)
  | dup2 => obtain ⟨x, y, t, rfl, h⟩ := am_v2_of h; obtain ⟨hk, h⟩ := am_if_of h; cases h; exact lv_dup2_11 hx hb hdg (by rw [am_cv_cat]; exact hk.1) (by rw [am_cv_cat]; exact hk.2) (kk _ hl rfl)
  | goto off => obtain ⟨tgt, ht, rfl⟩ := am_to_of h; exact lv_goto hx hb hdg ht (kk _ hl rfl)
  | ifCond cd off =>
    cases cd with
    | eq => obtain ⟨x, t, rfl, h⟩ := am_i1_of h; obtain ⟨tgt, ht, rfl⟩ := am_br_of h; exact lv_if_eq hx hb hdg ht (fun hc => by simpa [hc] using kk _ hl rfl) (fun hc => by simpa [hc] using kk _ hl rfl)
    | ne => obtain ⟨x, t, rfl, h⟩ := am_i1_of h; obtain ⟨tgt, ht, rfl⟩ := am_br_of h; exact lv_if_ne hx hb hdg ht (fun hc => by simpa [hc] using kk _ hl rfl) (fun hc => by simpa [hc] using kk _ hl rfl)
    | lt => obtain ⟨x, t, rfl, h⟩ := am_i1_of h; obtain ⟨tgt, ht, rfl⟩ := am_br_of h; exact lv_if_lt hx hb hdg ht (fun hc => by simpa only [hc, decide_true, decide_false, if_true, Bool.false_eq_true, if_false] using kk _ hl rfl) (fun hc => by simpa only [hc, decide_true, decide_false, if_true, Bool.false_eq_true, if_false] using kk _ hl rfl)
    | ge => obtain ⟨x, t, rfl, h⟩ := am_i1_of h; obtain ⟨tgt, ht, rfl⟩ := am_br_of h; exact lv_if_ge hx hb hdg ht (fun hc => by simpa only [hc, decide_true, decide_false, if_true, Bool.false_eq_true, if_false] using kk _ hl rfl) (fun hc => by simpa only [hc, decide_true, decide_false, if_true, Bool.false_eq_true, if_false] using kk _ hl rfl)
    | gt => obtain ⟨x, t, rfl, h⟩ := am_i1_of h; obtain ⟨tgt, ht, rfl⟩ := am_br_of h; exact lv_if_gt hx hb hdg ht (fun hc => by simpa only [hc, decide_true, decide_false, if_true, Bool.false_eq_true, if_false] using kk _ hl rfl) (fun hc => by simpa only [hc, decide_true, decide_false, if_true, Bool.false_eq_true, if_false] using kk _ hl rfl)
    | le => obtain ⟨x, t, rfl, h⟩ := am_i1_of h; obtain ⟨tgt, ht, rfl⟩ := am_br_of h; exact lv_if_le hx hb hdg ht (fun hc => by simpa only [hc, decide_true, decide_false, if_true, Bool.false_eq_true, if_false] using kk _ hl rfl) (fun hc => by simpa only [hc, decide_true, decide_false, if_true, Bool.false_eq_true, if_false] using kk _ hl rfl)
  | if_icmp cd off =>
    cases cd with
    | eq => obtain ⟨x, y, t, rfl, h⟩ := am_i2_of h; obtain ⟨tgt, ht, rfl⟩ := am_br_of h; exact lv_icmp_eq hx hb hdg ht (fun hc => by simpa only [hc, decide_true, decide_false, if_true, Bool.false_eq_true, if_false] using kk _ hl rfl) (fun hc => by simpa only [hc, decide_true, decide_false, if_true, Bool.false_eq_true, if_false] using kk _ hl rfl)
    | ne => obtain ⟨x, y, t, rfl, h⟩ := am_i2_of h; obtain ⟨tgt, ht, rfl⟩ := am_br_of h; exact lv_icmp_ne hx hb hdg ht (fun hc => by simpa [hc] using kk _ hl rfl) (fun hc => by simpa [hc] using kk _ hl rfl)
    | lt => obtain ⟨x, y, t, rfl, h⟩ := am_i2_of h; obtain ⟨tgt, ht, rfl⟩ := am_br_of h; exact lv_icmp_lt hx hb hdg ht (fun hc => by simpa only [hc, decide_true, decide_false, if_true, Bool.false_eq_true, if_false] using kk _ hl rfl) (fun hc => by simpa only [hc, decide_true, decide_false, if_true, Bool.false_eq_true, if_false] using kk _ hl rfl)
    | ge => obtain ⟨x, y, t, rfl, h⟩ := am_i2_of h; obtain ⟨tgt, ht, rfl⟩ := am_br_of h; exact lv_icmp_ge hx hb hdg ht (fun hc => by simpa only [hc, decide_true, decide_false, if_true, Bool.false_eq_true, if_false] using kk _ hl rfl) (fun hc => by simpa only [hc, decide_true, decide_false, if_true, Bool.false_eq_true, if_false] using kk _ hl rfl)
    | gt => obtain ⟨x, y, t, rfl, h⟩ := am_i2_of h; obtain ⟨tgt, ht, rfl⟩ := am_br_of h; exact lv_icmp_gt hx hb hdg ht (fun hc => by simpa only [hc, decide_true, decide_false, if_true, Bool.false_eq_true, if_false] using kk _ hl rfl) (fun hc => by simpa only [hc, decide_true, decide_false, if_true, Bool.false_eq_true, if_false] using kk _ hl rfl)
    | le => obtain ⟨x, y, t, rfl, h⟩ := am_i2_of h; obtain ⟨tgt, ht, rfl⟩ := am_br_of h; exact lv_icmp_le hx hb hdg ht (fun hc => by simpa only [hc, decide_true, decide_false, if_true, Bool.false_eq_true, if_false] using kk _ hl rfl) (fun hc => by simpa only [hc, decide_true, decide_false, if_true, Bool.false_eq_true, if_false] using kk _ hl rfl)
  | tableswitch dflt lo hi offs =>
    obtain ⟨x, t, rfl, h2⟩ := am_i1_of h
    by_cases hc : x.toInt < lo ∨ hi < x.toInt
    · rw [if_pos hc] at h2
      obtain ⟨tgt, ht, rfl⟩ := am_to_of h2
      exact lv_tableOut hx hb hdg hc ht (kk _ hl rfl)
    · rw [if_neg hc] at h2
      cases ho : offs[(x.toInt - lo).toNat]? with
      | none => rw [ho] at h2; cases h2
      | some off =>
        rw [ho] at h2
        obtain ⟨tgt, ht, rfl⟩ := am_to_of h2
        exact lv_tableIn hx hb hdg (fun z => hc (Or.inl z)) (fun z => hc (Or.inr z)) ho ht (kk _ hl rfl)
  | lookupswitch dflt ps => obtain ⟨x, t, rfl, h⟩ := am_i1_of h; obtain ⟨hk, h⟩ := am_if_of h; obtain ⟨tgt, ht, rfl⟩ := am_to_of h; exact lv_lookup hx hb hdg hk rfl ht (kk _ hl rfl)
  | getfield _ => cases hpure
  | putfield _ => cases hpure
  | iaload => cases hpure
  | baload => cases hpure
  | laload => cases hpure
  | aaload => cases hpure
  | iastore => cases hpure
  | bastore => cases hpure
  | lastore => cases hpure
  | aastore => cases hpure
  | arraylength => cases hpure
  | new _ => cases hpure
  | newarray _ => cases hpure
  | anewarray _ => cases hpure
  | invokespecial _ => cases hpure
  | invokestatic _ => cases hpure
  | _ => cases h
end AMI
