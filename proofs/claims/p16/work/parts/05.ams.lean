/-! a method of the small machine is one of the machine's -/
/-- the frame's instructions leave the memory -/
theorem am_pure_same {X : Option (Nat × (Nat → Int32))} {ec d r1 r2 r3 pc : Nat} {L : am_L} {st : List Value} {σ : am_S} {i : Instr}
    (hpure : am_hp i = false)
    {q : am_R} (h : am_ins X ec d i r1 r2 r3 pc L st σ = some q) : q.2.2.2 = σ := by
  cases i with
  | iconst n => cases h; rfl
  | bipush n => cases h; rfl
  | sipush n => cases h; rfl
  | lconst n => cases h; rfl
  | ldc n => cases h; rfl
  | ldc2_w n => cases h; rfl
  | iload_n n => obtain ⟨x, hv, h⟩ := am_ti_of h; cases h; rfl
  | iload n => obtain ⟨x, hv, h⟩ := am_ti_of h; cases h; rfl
  | lload_n n => obtain ⟨x, hv, h⟩ := am_tl_of h; cases h; rfl
  | lload n => obtain ⟨x, hv, h⟩ := am_tl_of h; cases h; rfl
  | aload_n n => obtain ⟨x, hv, h⟩ := am_ta_of h; cases h; rfl
  | aload n => obtain ⟨x, hv, h⟩ := am_ta_of h; cases h; rfl
  | istore_n n => obtain ⟨x, t, rfl, h⟩ := am_i1_of h; obtain ⟨hk, h⟩ := am_if_of h; cases h; rfl
  | istore n => obtain ⟨x, t, rfl, h⟩ := am_i1_of h; obtain ⟨hk, h⟩ := am_if_of h; cases h; rfl
  | lstore_n n => obtain ⟨x, t, rfl, h⟩ := am_l1_of h; obtain ⟨hk, h⟩ := am_if_of h; cases h; rfl
  | lstore n => obtain ⟨x, t, rfl, h⟩ := am_l1_of h; obtain ⟨hk, h⟩ := am_if_of h; cases h; rfl
  | astore_n n => obtain ⟨x, t, rfl, h⟩ := am_a1_of h; obtain ⟨hk, h⟩ := am_if_of h; cases h; rfl
  | astore n => obtain ⟨x, t, rfl, h⟩ := am_a1_of h; obtain ⟨hk, h⟩ := am_if_of h; cases h; rfl
  | iinc k n => obtain ⟨x, hv, h⟩ := am_ti_of h; obtain ⟨hk, h⟩ := am_if_of h; cases h; rfl
  | iadd => obtain ⟨x, y, t, rfl, h⟩ := am_i2_of h; cases h; rfl
  | isub => obtain ⟨x, y, t, rfl, h⟩ := am_i2_of h; cases h; rfl
  | imul => obtain ⟨x, y, t, rfl, h⟩ := am_i2_of h; cases h; rfl
  | iand => obtain ⟨x, y, t, rfl, h⟩ := am_i2_of h; cases h; rfl
  | ior => obtain ⟨x, y, t, rfl, h⟩ := am_i2_of h; cases h; rfl
  | ixor => obtain ⟨x, y, t, rfl, h⟩ := am_i2_of h; cases h; rfl
  | idiv => obtain ⟨x, y, t, rfl, h⟩ := am_i2_of h; obtain ⟨hk, h⟩ := am_ifn_of h; cases h; rfl
  | irem => obtain ⟨x, y, t, rfl, h⟩ := am_i2_of h; obtain ⟨hk, h⟩ := am_ifn_of h; cases h; rfl
  | ishl => obtain ⟨x, y, t, rfl, h⟩ := am_i2_of h; cases h; rfl
  | ishr => obtain ⟨x, y, t, rfl, h⟩ := am_i2_of h; cases h; rfl
  | iushr => obtain ⟨x, y, t, rfl, h⟩ := am_i2_of h; cases h; rfl
  | ineg => obtain ⟨x, t, rfl, h⟩ := am_i1_of h; cases h; rfl
  | i2l => obtain ⟨x, t, rfl, h⟩ := am_i1_of h; cases h; rfl
  | i2b => obtain ⟨x, t, rfl, h⟩ := am_i1_of h; cases h; rfl
  | ladd => obtain ⟨x, y, t, rfl, h⟩ := am_l2_of h; cases h; rfl
  | lmul => obtain ⟨x, y, t, rfl, h⟩ := am_l2_of h; cases h; rfl
  | land => obtain ⟨x, y, t, rfl, h⟩ := am_l2_of h; cases h; rfl
  | lor => obtain ⟨x, y, t, rfl, h⟩ := am_l2_of h; cases h; rfl
  | ldiv => obtain ⟨x, y, t, rfl, h⟩ := am_l2_of h; obtain ⟨hk, h⟩ := am_ifn_of h; cases h; rfl
  | lrem => obtain ⟨x, y, t, rfl, h⟩ := am_l2_of h; obtain ⟨hk, h⟩ := am_ifn_of h; cases h; rfl
  | lcmp => obtain ⟨x, y, t, rfl, h⟩ := am_l2_of h; cases h; rfl
  | lneg => obtain ⟨x, t, rfl, h⟩ := am_l1_of h; cases h; rfl
  | l2i => obtain ⟨x, t, rfl, h⟩ := am_l1_of h; cases h; rfl
  | lshl => obtain ⟨x, y, t, rfl, h⟩ := am_li_of h; cases h; rfl
  | lushr => obtain ⟨x, y, t, rfl, h⟩ := am_li_of h; cases h; rfl
  | dup => obtain ⟨x, t, rfl, h⟩ := am_v1_of h; obtain ⟨hk, h⟩ := am_if_of h; cases h; rfl
  | pop => obtain ⟨x, t, rfl, h⟩ := am_v1_of h; obtain ⟨hk, h⟩ := am_if_of h; cases h; rfl
  | dup_x1 => obtain ⟨x, y, t, rfl, h⟩ := am_v2_of h; obtain ⟨hk, h⟩ := am_if_of h; cases h; rfl
  | dup2 => obtain ⟨x, y, t, rfl, h⟩ := am_v2_of h; obtain ⟨hk, h⟩ := am_if_of h; cases h; rfl
  | goto off => obtain ⟨tgt, ht, rfl⟩ := am_to_of h; rfl
  | ifCond cd off =>
    cases cd with
    | eq => obtain ⟨x, t, rfl, h⟩ := am_i1_of h; obtain ⟨tgt, ht, rfl⟩ := am_br_of h; rfl
    | ne => obtain ⟨x, t, rfl, h⟩ := am_i1_of h; obtain ⟨tgt, ht, rfl⟩ := am_br_of h; rfl
    | lt => obtain ⟨x, t, rfl, h⟩ := am_i1_of h; obtain ⟨tgt, ht, rfl⟩ := am_br_of h; rfl
    | ge => obtain ⟨x, t, rfl, h⟩ := am_i1_of h; obtain ⟨tgt, ht, rfl⟩ := am_br_of h; rfl
    | gt => obtain ⟨x, t, rfl, h⟩ := am_i1_of h; obtain ⟨tgt, ht, rfl⟩ := am_br_of h; rfl
    | le => obtain ⟨x, t, rfl, h⟩ := am_i1_of h; obtain ⟨tgt, ht, rfl⟩ := am_br_of h; rfl
  | if_icmp cd off =>
    cases cd with
    | eq => obtain ⟨x, y, t, rfl, h⟩ := am_i2_of h; obtain ⟨tgt, ht, rfl⟩ := am_br_of h; rfl
    | ne => obtain ⟨x, y, t, rfl, h⟩ := am_i2_of h; obtain ⟨tgt, ht, rfl⟩ := am_br_of h; rfl
    | lt => obtain ⟨x, y, t, rfl, h⟩ := am_i2_of h; obtain ⟨tgt, ht, rfl⟩ := am_br_of h; rfl
    | ge => obtain ⟨x, y, t, rfl, h⟩ := am_i2_of h; obtain ⟨tgt, ht, rfl⟩ := am_br_of h; rfl
    | gt => obtain ⟨x, y, t, rfl, h⟩ := am_i2_of h; obtain ⟨tgt, ht, rfl⟩ := am_br_of h; rfl
    | le => obtain ⟨x, y, t, rfl, h⟩ := am_i2_of h; obtain ⟨tgt, ht, rfl⟩ := am_br_of h; rfl
  | tableswitch dflt lo hi offs =>
    obtain ⟨x, t, rfl, h2⟩ := am_i1_of h
    by_cases hc : x.toInt < lo ∨ hi < x.toInt
    · rw [if_pos hc] at h2
      obtain ⟨tgt, ht, rfl⟩ := am_to_of h2
      rfl
    · rw [if_neg hc] at h2
      cases ho : offs[(x.toInt - lo).toNat]? with
      | none => rw [ho] at h2; cases h2
      | some off =>
        rw [ho] at h2
        obtain ⟨tgt, ht, rfl⟩ := am_to_of h2
        rfl
  | lookupswitch dflt ps => obtain ⟨x, t, rfl, h⟩ := am_i1_of h; obtain ⟨hk, h⟩ := am_if_of h; obtain ⟨tgt, ht, rfl⟩ := am_to_of h; rfl
  | getfield _ => cases hpure
  | putfield _ => cases hpure
  | iaload => cases hpure
  | baload => cases hpure
  | laload => cases hpure
  | aaload => cases hpure
  | iastore => cases hpure
  | bastore => cases hpure
  | lastore => cases hpure
  | aastore => cases hpure
  | arraylength => cases hpure
  | new _ => cases hpure
  | newarray _ => cases hpure
  | anewarray _ => cases hpure
  | invokespecial _ => cases hpure
  | invokestatic _ => cases hpure
  | _ => cases h
theorem am_heap_grow {X : Option (Nat × (Nat → Int32))} {ec d r1 r2 r3 pc : Nat} {L : am_L} {st : List Value} {σ : am_S} {i : Instr}
    (hheap : am_hp i = true)
    {q : am_R} (h : am_ins X ec d i r1 r2 r3 pc L st σ = some q) : q.2.2.2.1 = σ.1 ∨ ∃ k, q.2.2.2.1 = σ.1 ++ [k] := by
  cases i with
  | getfield idx => obtain ⟨a, t, rfl, h⟩ := am_a1_of h; obtain ⟨hk, h⟩ := am_if_of h; cases h; exact Or.inl rfl
  | putfield idx => obtain ⟨a, v, t, rfl, h⟩ := am_av_of h; obtain ⟨hk, h⟩ := am_if_of h; obtain ⟨τ, hτ, h⟩ := Option.bind_eq_some_iff.mp h; cases h; exact Or.inl (am_sf_of hτ).1
  | iaload =>
    obtain ⟨a, i, t, rfl, h2⟩ := am_ai_of h
    by_cases ha : a = 0
    · rw [if_pos ha] at h2; obtain ⟨x, hx2, h2⟩ := am_sx_of h2; obtain ⟨hin, h2⟩ := am_ifn_of h2; cases h2; exact Or.inl rfl
    · rw [if_neg ha] at h2; obtain ⟨tt, n, hk, h2⟩ := am_rw_of h2; obtain ⟨ht, h2⟩ := am_if_of h2; obtain ⟨hin, h2⟩ := am_ifn_of h2; cases h2; exact Or.inl rfl
  | baload => obtain ⟨a, i, t, rfl, h⟩ := am_ai_of h; obtain ⟨tt, n, hk, h⟩ := am_rw_of h; obtain ⟨ht, h⟩ := am_if_of h; obtain ⟨hin, h⟩ := am_ifn_of h; cases h; exact Or.inl rfl
  | laload => obtain ⟨a, i, t, rfl, h⟩ := am_ai_of h; obtain ⟨tt, n, hk, h⟩ := am_rw_of h; obtain ⟨ht, h⟩ := am_if_of h; obtain ⟨hin, h⟩ := am_ifn_of h; cases h; exact Or.inl rfl
  | aaload => obtain ⟨a, i, t, rfl, h⟩ := am_ai_of h; obtain ⟨tt, n, hk, h⟩ := am_rw_of h; obtain ⟨ht, h⟩ := am_if_of h; obtain ⟨hin, h⟩ := am_ifn_of h; cases h; exact Or.inl rfl
  | iastore => obtain ⟨a, i, x, t, rfl, h⟩ := am_aii_of h; obtain ⟨tt, n, hk, h⟩ := am_rw_of h; obtain ⟨ht, h⟩ := am_if_of h; obtain ⟨hin, h⟩ := am_ifn_of h; cases h; exact Or.inl rfl
  | bastore => obtain ⟨a, i, x, t, rfl, h⟩ := am_aii_of h; obtain ⟨tt, n, hk, h⟩ := am_rw_of h; obtain ⟨ht, h⟩ := am_if_of h; obtain ⟨hin, h⟩ := am_ifn_of h; cases h; exact Or.inl rfl
  | lastore => obtain ⟨a, i, x, t, rfl, h⟩ := am_ail_of h; obtain ⟨tt, n, hk, h⟩ := am_rw_of h; obtain ⟨ht, h⟩ := am_if_of h; obtain ⟨hin, h⟩ := am_ifn_of h; cases h; exact Or.inl rfl
  | aastore => obtain ⟨a, i, x, t, rfl, h⟩ := am_aia_of h; obtain ⟨tt, n, hk, h⟩ := am_rw_of h; obtain ⟨ht, h⟩ := am_if_of h; obtain ⟨hin, h⟩ := am_ifn_of h; cases h; exact Or.inl rfl
  | arraylength =>
    obtain ⟨a, t, rfl, h2⟩ := am_a1_of h
    by_cases ha : a = 0
    · rw [if_pos ha] at h2; obtain ⟨x, hx2, h2⟩ := am_sx_of h2; cases h2; exact Or.inl rfl
    · rw [if_neg ha] at h2; obtain ⟨tt, n, hk, h2⟩ := am_rw_of h2; obtain ⟨ht, h2⟩ := am_if_of h2; cases h2; exact Or.inl rfl
  | new idx => cases h; exact Or.inr ⟨_, rfl⟩
  | newarray at' => obtain ⟨x, t, rfl, h⟩ := am_i1_of h; obtain ⟨hin, h⟩ := am_ifn_of h; cases h; exact Or.inr ⟨_, rfl⟩
  | anewarray idx => obtain ⟨x, t, rfl, h⟩ := am_i1_of h; obtain ⟨hin, h⟩ := am_ifn_of h; cases h; exact Or.inr ⟨_, rfl⟩
  | invokespecial idx => obtain ⟨a, t, rfl, h⟩ := am_a1_of h; obtain ⟨hk, h⟩ := am_if_of h; cases h; exact Or.inl rfl
  | invokestatic idx =>
    simp only [am_ins] at h
    split at h
    · obtain ⟨x, y, t, rfl, h⟩ := am_i2_of h; obtain ⟨hk, h⟩ := am_if_of h; cases h; exact Or.inl rfl
    · obtain ⟨x, y, t, rfl, h⟩ := am_i2_of h; obtain ⟨hk, h⟩ := am_if_of h; cases h; exact Or.inl rfl
    · obtain ⟨a0, sp, a, dp, n, t, rfl, h⟩ := am_cp_of h; obtain ⟨hk, h⟩ := am_if_of h; obtain ⟨ta, n0, hk0, h⟩ := am_rw_of h; obtain ⟨tb, n1, hk1, h⟩ := am_rw_of h; obtain ⟨ht, h⟩ := am_if_of h; cases h; exact Or.inl rfl
    · cases h
  | _ => cases hheap
theorem am_ins_grow {X : Option (Nat × (Nat → Int32))} {ec d r1 r2 r3 pc : Nat} {L : am_L} {st : List Value} {σ : am_S} {i : Instr} {q : am_R} (h : am_ins X ec d i r1 r2 r3 pc L st σ = some q) : ∃ K, q.2.2.2.1 = σ.1 ++ K := by
  by_cases hi : am_hp i = true
  · rcases am_heap_grow hi h with e | ⟨k, e⟩
    · exact ⟨[], by rw [e, List.append_nil]⟩
    · exact ⟨[k], e⟩
  · exact ⟨[], by rw [am_pure_same (by simpa using hi) h, List.append_nil]⟩
section AMS
variable {X : Option (Nat × (Nat → Int32))} {ec : Nat} {mt : Nat → Option am_M} {cd : Nat → Nat → Option am_E}
/-- one step, told apart -/
theorem am_succ {n d mid pc : Nat} {L : am_L} {st : List Value} {σ : am_S} {r : Option Value × am_S} (h : am X ec mt cd (n + 1) d mid pc L st σ = some r) : ∃ M i r1 r2 r3, mt mid = some M ∧ cd mid pc = some (i, r1, r2, r3) ∧
    ((i = .return_ ∧ M.2.2.2.1 = none ∧ st = [] ∧ r = (none, σ)) ∨ (i = .ireturn ∧ ∃ x, st = [.int x] ∧ am_rok M.2.2.2.1 x = true ∧ r = (some (.int x), σ)) ∨
     (am_isCall i r1 = true ∧ ∃ d' N as t q, d = d' + 1 ∧ mt r2 = some N ∧ am_ca i r1 r3 st σ.1 = some (as, t) ∧ am_ct t ≤ 8 ∧ (am_en as N.2.2.1).length = N.2.2.1 ∧ am X ec mt cd n d' r2 0 (am_en as N.2.2.1) [] σ = some q ∧ am X ec mt cd n d mid (pc + 3) L (q.1.toList ++ t) q.2 = some r) ∨
     (am_isCall i r1 = false ∧ i ≠ .return_ ∧ i ≠ .ireturn ∧ ∃ q, am_ins X ec d i r1 r2 r3 pc L st σ = some q ∧ am X ec mt cd n d mid q.1 q.2.1 q.2.2.1 q.2.2.2 = some r)) := by
  rw [am] at h
  split at h
  · rename_i M i r1 r2 r3 hM hc
    refine ⟨M, i, r1, r2, r3, hM, hc, ?_⟩
    split at h
    · obtain ⟨⟨h1, h2⟩, h⟩ := am_if_of h
      cases h
      exact Or.inl ⟨rfl, h1, h2, rfl⟩
    · split at h
      · obtain ⟨h1, h⟩ := am_if_of h
        cases h
        exact Or.inr (Or.inl ⟨rfl, _, rfl, h1, rfl⟩)
      · cases h
    · rename_i hn1 hn2
      by_cases hcall : am_isCall i r1 = true
      · rw [if_pos hcall] at h
        split at h
        · rename_i d' N as t hN has
          obtain ⟨⟨h1, h2⟩, h⟩ := am_if_of h
          obtain ⟨q, hq, h⟩ := Option.bind_eq_some_iff.mp h
          exact Or.inr (Or.inr (Or.inl ⟨hcall, _, N, as, t, q, rfl, hN, has, h1, h2, hq, h⟩))
        · cases h
      · rw [if_neg hcall] at h
        obtain ⟨q, hq, h⟩ := Option.bind_eq_some_iff.mp h
        exact Or.inr (Or.inr (Or.inr ⟨by simpa using hcall, hn1, hn2, q, hq, h⟩))
  · cases h
theorem am_grow : ∀ (n d mid pc : Nat) (L : am_L) (st : List Value) (σ : am_S) (r : Option Value × am_S), am X ec mt cd n d mid pc L st σ = some r → ∃ K, r.2.1 = σ.1 ++ K
  | 0, _, _, _, _, _, _, _, h => by rw [am] at h; cases h
  | n + 1, d, mid, pc, L, st, σ, r, h => by
    obtain ⟨M, i, r1, r2, r3, hM, hc, ⟨-, -, -, rfl⟩ | ⟨-, x, -, -, rfl⟩ | ⟨-, d', N, as, t, q, -, -, -, -, -, hq, h2⟩ | ⟨-, -, -, q, hq, h2⟩⟩ := am_succ h
    · exact ⟨[], by simp⟩
    · exact ⟨[], by simp⟩
    · obtain ⟨K1, e1⟩ := am_grow n _ _ _ _ _ _ _ hq
      obtain ⟨K2, e2⟩ := am_grow n _ _ _ _ _ _ _ h2
      exact ⟨K1 ++ K2, by rw [e2, e1, List.append_assoc]⟩
    · obtain ⟨K1, e1⟩ := am_ins_grow hq
      obtain ⟨K2, e2⟩ := am_grow n _ _ _ _ _ _ _ h2
      exact ⟨K1 ++ K2, by rw [e2, e1, List.append_assoc]⟩
theorem am_sz_app (cl : List vw_C) (K1 K2 : List am_K) : am_sz cl (K1 ++ K2) = am_sz cl K1 + am_sz cl K2 := by simp [am_sz]
end AMS
/-- what ran without a script runs with one -/
theorem am_ins_X {X : Nat × (Nat → Int32)} {ec d r1 r2 r3 pc : Nat} {L : am_L} {st : List Value} {σ : am_S} {i : Instr} {q : am_R} (h : am_ins none ec d i r1 r2 r3 pc L st σ = some q) : am_ins (some X) ec d i r1 r2 r3 pc L st σ = some q := by
  cases i with
  | iaload =>
    obtain ⟨a, i, t, rfl, h2⟩ := am_ai_of h
    by_cases ha : a = 0
    · rw [if_pos ha] at h2; obtain ⟨x, hx2, h2⟩ := am_sx_of h2; cases hx2
    · show (if a = 0 then _ else _) = _
      rw [if_neg ha] at h2 ⊢; exact h2
  | arraylength =>
    obtain ⟨a, t, rfl, h2⟩ := am_a1_of h
    by_cases ha : a = 0
    · rw [if_pos ha] at h2; obtain ⟨x, hx2, h2⟩ := am_sx_of h2; cases hx2
    · show (if a = 0 then _ else _) = _
      rw [if_neg ha] at h2 ⊢; exact h2
  | _ => exact h
theorem am_ins_d {X : Option (Nat × (Nat → Int32))} {ec d r1 r2 r3 pc : Nat} {L : am_L} {st : List Value} {σ : am_S} {i : Instr} {q : am_R} (k : Nat) (h : am_ins X ec d i r1 r2 r3 pc L st σ = some q) : am_ins X ec (d + k) i r1 r2 r3 pc L st σ = some q := by
  cases i with
  | invokespecial idx =>
    obtain ⟨a, t, rfl, h2⟩ := am_a1_of h
    obtain ⟨⟨h3, h4, h5⟩, h2⟩ := am_if_of h2
    show (if _ then _ else _) = _
    rw [if_pos ⟨h3, by omega, h5⟩]; exact h2
  | invokestatic idx =>
    simp only [am_ins] at h ⊢
    split at h
    · obtain ⟨x, y, t, rfl, h2⟩ := am_i2_of h
      obtain ⟨⟨h3, h4⟩, h2⟩ := am_if_of h2
      show (if _ then _ else _) = _
      rw [if_pos ⟨by omega, h4⟩]; exact h2
    · obtain ⟨x, y, t, rfl, h2⟩ := am_i2_of h
      obtain ⟨⟨h3, h4⟩, h2⟩ := am_if_of h2
      show (if _ then _ else _) = _
      rw [if_pos ⟨by omega, h4⟩]; exact h2
    · obtain ⟨a0, sp, a, dp, n, t, rfl, h2⟩ := am_cp_of h
      obtain ⟨⟨h3, h4⟩, h2⟩ := am_if_of h2
      show (if _ then _ else _) = _
      rw [if_pos ⟨by omega, h4⟩]; exact h2
    · cases h
  | _ => exact h
/-- the locals at the entry -/
theorem am_en_at (sb b : Nat) : ∀ (as : List Value) (i : Nat) (v : Value), (as.flatMap fun v => if v.category = 2 then [some v, none] else [some v])[i]? = some (some v) → (lg_sl (as.map (am_cv sb b)))[i]? = some (.val (am_cv sb b v))
  | [], i, v, h => by simp at h
  | a :: as, i, v, h => by
    have ih := am_en_at sb b as
    unfold lg_sl at ih ⊢
    rw [List.map_cons, List.flatMap_cons, am_cv_cat]
    rw [List.flatMap_cons] at h
    by_cases hc : a.category = 2
    · rw [if_pos hc] at h ⊢
      match i, h with
      | 0, h => simp at h; subst h; rfl
      | 1, h => simp at h
      | i + 2, h => simp at h ⊢; exact ih i v h
    · rw [if_neg hc] at h ⊢
      match i, h with
      | 0, h => simp at h; subst h; rfl
      | i + 1, h => simp at h ⊢; exact ih i v h
theorem am_en_len (sb b : Nat) : ∀ (as : List Value), (lg_sl (as.map (am_cv sb b))).length = (as.flatMap fun v => if v.category = 2 then [some v, none] else [some v]).length
  | [] => rfl
  | a :: as => by
    have ih := am_en_len sb b as
    unfold lg_sl at ih ⊢
    rw [List.map_cons, List.flatMap_cons, List.flatMap_cons, List.length_append, List.length_append, ih, am_cv_cat]
    by_cases hc : a.category = 2
    · rw [if_pos hc, if_pos hc]; rfl
    · rw [if_neg hc, if_neg hc]; rfl
theorem am_lh_en {sb b n : Nat} {as : List Value} (h : (am_en as n).length = n) : am_lh sb b ((lg_sl (as.map (am_cv sb b)) ++ List.replicate (n - (lg_sl (as.map (am_cv sb b))).length) Slot.unset).toArray) n (am_en as n) := by
  have h1 : (lg_sl (as.map (am_cv sb b))).length ≤ n := by
    rw [am_en_len]
    unfold am_en at h
    rw [List.length_append, List.length_replicate] at h
    omega
  obtain ⟨g1, g2, -⟩ := lv_entry (as.map (am_cv sb b)) h1
  refine ⟨g1, h, g2, fun i v hv => ?_⟩
  unfold am_en at hv
  have hlt : i < (as.flatMap fun v => if v.category = 2 then [some v, none] else [some v]).length := by
    refine Nat.lt_of_not_le fun hl => ?_
    rw [List.getElem?_append_right hl] at hv
    have := List.eq_of_mem_replicate (List.mem_of_getElem? hv)
    cases this
  rw [List.getElem?_append_left hlt] at hv
  rw [List.getElem?_toArray, List.getElem?_append_left (by rw [am_en_len]; exact hlt)]
  exact am_en_at sb b as i v hv
