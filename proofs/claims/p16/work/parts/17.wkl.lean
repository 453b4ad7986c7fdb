/-! fewer known locals: what ran with them runs with more -/
def LLe (L1 L2 : am_L) : Prop := L1.length = L2.length ∧ ∀ (i : Nat) (v : Value), L1[i]? = some (some v) → L2[i]? = some (some v)
theorem am_cl_keep {L : am_L} {k i : Nat} {v : Value} (h : L[i]? = some (some v)) (hn : ¬ (i + 1 = k ∧ v.category = 2)) : (am_cl L k)[i]? = some (some v) := by
  unfold am_cl
  split
  · exact h
  · rename_i j
    split
    · rename_i w hw
      split
      · rename_i hc
        rw [List.getElem?_set]
        by_cases hj : j = i
        · subst hj
          rw [hw] at h; cases h
          exact absurd ⟨rfl, hc⟩ hn
        · rw [if_neg hj]; exact h
      · exact h
    · exact h
theorem LLe.ld {L1 L2 : am_L} (h : LLe L1 L2) {k : Nat} {v : Value} (hv : am_ld L1 k = some v) : am_ld L2 k = some v := by
  have h1 := h.2 _ _ (am_ld_of hv)
  unfold am_ld
  rw [h1]
theorem LLe.cl {L1 L2 : am_L} (h : LLe L1 L2) (k : Nat) : LLe (am_cl L1 k) (am_cl L2 k) := ⟨by rw [am_cl_len, am_cl_len, h.1], fun i v hv => by
  obtain ⟨h1, h2⟩ := am_cl_at hv
  exact am_cl_keep (h.2 _ _ h1) h2⟩
theorem LLe.set {L1 L2 : am_L} (h : LLe L1 L2) (k : Nat) (w : Option Value) : LLe (L1.set k w) (L2.set k w) := ⟨by rw [List.length_set, List.length_set, h.1], fun i v hv => by
  rw [List.getElem?_set] at hv ⊢
  by_cases e : k = i
  · rw [if_pos e, ← h.1]; rw [if_pos e] at hv; exact hv
  · rw [if_neg e] at hv ⊢; exact h.2 _ _ hv⟩
theorem LLe.s1 {L1 L2 : am_L} (h : LLe L1 L2) {k : Nat} {v : Value} : LLe (am_s1 L1 k v) (am_s1 L2 k v) := (h.cl k).set k (some v)
theorem LLe.s2 {L1 L2 : am_L} (h : LLe L1 L2) {k : Nat} {v : Value} : LLe (am_s2 L1 k v) (am_s2 L2 k v) := ((h.cl k).set (k + 1) none).set k (some v)
theorem am_to_L {L1 L2 : am_L} (hle : LLe L1 L2) {pc : Nat} {off : Int} {st : List Value} {σ : am_S} {q : am_R} (h : am_to pc off L1 st σ = some q) : ∃ L', am_to pc off L2 st σ = some (q.1, L', q.2.2) ∧ LLe q.2.1 L' := by
  unfold am_to at h ⊢
  obtain ⟨h1, h2⟩ := am_if_of h
  cases h2
  exact ⟨L2, by rw [if_pos h1], hle⟩
theorem am_br_L {L1 L2 : am_L} (hle : LLe L1 L2) {c : Bool} {pc : Nat} {off : Int} {st : List Value} {σ : am_S} {q : am_R} (h : am_br c pc off L1 st σ = some q) : ∃ L', am_br c pc off L2 st σ = some (q.1, L', q.2.2) ∧ LLe q.2.1 L' := by
  unfold am_br at h ⊢
  obtain ⟨h1, h2⟩ := am_if_of h
  cases h2
  exact ⟨L2, by rw [if_pos h1], hle⟩
theorem am_ins_L {X : Option (Nat × (Nat → Int32))} {ec d r1 r2 r3 pc : Nat} {L L2 : am_L} (hle : LLe L L2) {st : List Value} {σ : am_S} {i : Instr} {q : am_R} (h : am_ins X ec d i r1 r2 r3 pc L st σ = some q) : ∃ L', am_ins X ec d i r1 r2 r3 pc L2 st σ = some (q.1, L', q.2.2) ∧ LLe q.2.1 L' := by
  cases i with
  | iconst n => cases h; exact ⟨L2, rfl, hle⟩
  | bipush n => cases h; exact ⟨L2, rfl, hle⟩
  | sipush n => cases h; exact ⟨L2, rfl, hle⟩
  | lconst n => cases h; exact ⟨L2, rfl, hle⟩
  | ldc n => cases h; exact ⟨L2, rfl, hle⟩
  | ldc2_w n => cases h; exact ⟨L2, rfl, hle⟩
  | iload_n n => obtain ⟨x, hv, h⟩ := am_ti_of h; cases h; exact ⟨L2, by show am_ti (am_ld L2 n) _ = _; rw [hle.ld hv]; rfl, hle⟩
  | iload n => obtain ⟨x, hv, h⟩ := am_ti_of h; cases h; exact ⟨L2, by show am_ti (am_ld L2 n) _ = _; rw [hle.ld hv]; rfl, hle⟩
  | lload_n n => obtain ⟨x, hv, h⟩ := am_tl_of h; cases h; exact ⟨L2, by show am_tl (am_ld L2 n) _ = _; rw [hle.ld hv]; rfl, hle⟩
  | lload n => obtain ⟨x, hv, h⟩ := am_tl_of h; cases h; exact ⟨L2, by show am_tl (am_ld L2 n) _ = _; rw [hle.ld hv]; rfl, hle⟩
  | aload_n n => obtain ⟨x, hv, h⟩ := am_ta_of h; cases h; exact ⟨L2, by show am_ta (am_ld L2 n) _ = _; rw [hle.ld hv]; rfl, hle⟩
  | aload n => obtain ⟨x, hv, h⟩ := am_ta_of h; cases h; exact ⟨L2, by show am_ta (am_ld L2 n) _ = _; rw [hle.ld hv]; rfl, hle⟩
  | istore_n n => obtain ⟨x, t, rfl, h⟩ := am_i1_of h; obtain ⟨hk, h⟩ := am_if_of h; cases h; exact ⟨_, by show (if _ then _ else _) = _; rw [if_pos (hle.1 ▸ hk)], hle.s1⟩
  | istore n => obtain ⟨x, t, rfl, h⟩ := am_i1_of h; obtain ⟨hk, h⟩ := am_if_of h; cases h; exact ⟨_, by show (if _ then _ else _) = _; rw [if_pos (hle.1 ▸ hk)], hle.s1⟩
  | lstore_n n => obtain ⟨x, t, rfl, h⟩ := am_l1_of h; obtain ⟨hk, h⟩ := am_if_of h; cases h; exact ⟨_, by show (if _ then _ else _) = _; rw [if_pos (hle.1 ▸ hk)], hle.s2⟩
  | lstore n => obtain ⟨x, t, rfl, h⟩ := am_l1_of h; obtain ⟨hk, h⟩ := am_if_of h; cases h; exact ⟨_, by show (if _ then _ else _) = _; rw [if_pos (hle.1 ▸ hk)], hle.s2⟩
  | astore_n n => obtain ⟨x, t, rfl, h⟩ := am_a1_of h; obtain ⟨hk, h⟩ := am_if_of h; cases h; exact ⟨_, by show (if _ then _ else _) = _; rw [if_pos (hle.1 ▸ hk)], hle.s1⟩
  | astore n => obtain ⟨x, t, rfl, h⟩ := am_a1_of h; obtain ⟨hk, h⟩ := am_if_of h; cases h; exact ⟨_, by show (if _ then _ else _) = _; rw [if_pos (hle.1 ▸ hk)], hle.s1⟩
  | iinc k n => obtain ⟨x, hv, h⟩ := am_ti_of h; obtain ⟨hk, h⟩ := am_if_of h; cases h; exact ⟨_, by show am_ti (am_ld L2 k) _ = _; rw [hle.ld hv]; show (if _ then _ else _) = _; rw [if_pos (hle.1 ▸ hk)], hle.s1⟩
  | iadd => obtain ⟨x, y, t, rfl, h⟩ := am_i2_of h; cases h; exact ⟨L2, rfl, hle⟩
  | isub => obtain ⟨x, y, t, rfl, h⟩ := am_i2_of h; cases h; exact ⟨L2, rfl, hle⟩
  | imul => obtain ⟨x, y, t, rfl, h⟩ := am_i2_of h; cases h; exact ⟨L2, rfl, hle⟩
  | iand => obtain ⟨x, y, t, rfl, h⟩ := am_i2_of h; cases h; exact ⟨L2, rfl, hle⟩
  | ior => obtain ⟨x, y, t, rfl, h⟩ := am_i2_of h; cases h; exact ⟨L2, rfl, hle⟩
  | ixor => obtain ⟨x, y, t, rfl, h⟩ := am_i2_of h; cases h; exact ⟨L2, rfl, hle⟩
  | idiv => obtain ⟨x, y, t, rfl, h⟩ := am_i2_of h; obtain ⟨hk, h⟩ := am_ifn_of h; cases h; exact ⟨L2, by show (if _ then _ else _) = _; rw [if_neg hk], hle⟩
  | irem => obtain ⟨x, y, t, rfl, h⟩ := am_i2_of h; obtain ⟨hk, h⟩ := am_ifn_of h; cases h; exact ⟨L2, by show (if _ then _ else _) = _; rw [if_neg hk], hle⟩
  | ishl => obtain ⟨x, y, t, rfl, h⟩ := am_i2_of h; cases h; exact ⟨L2, rfl, hle⟩
  | ishr => obtain ⟨x, y, t, rfl, h⟩ := am_i2_of h; cases h; exact ⟨L2, rfl, hle⟩
  | iushr => obtain ⟨x, y, t, rfl, h⟩ := am_i2_of h; cases h; exact ⟨L2, rfl, hle⟩
  | ineg => obtain ⟨x, t, rfl, h⟩ := am_i1_of h; cases h; exact ⟨L2, rfl, hle⟩
  | i2l => obtain ⟨x, t, rfl, h⟩ := am_i1_of h; cases h; exact ⟨L2, rfl, hle⟩
  | i2b => obtain ⟨x, t, rfl, h⟩ := am_i1_of h; cases h; exact ⟨L2, rfl, hle⟩
  | ladd => obtain ⟨x, y, t, rfl, h⟩ := am_l2_of h; cases h; exact ⟨L2, rfl, hle⟩
  | lmul => obtain ⟨x, y, t, rfl, h⟩ := am_l2_of h; cases h; exact ⟨L2, rfl, hle⟩
  | land => obtain ⟨x, y, t, rfl, h⟩ := am_l2_of h; cases h; exact ⟨L2, rfl, hle⟩
  | lor => obtain ⟨x, y, t, rfl, h⟩ := am_l2_of h; cases h; exact ⟨L2, rfl, hle⟩
  | ldiv => obtain ⟨x, y, t, rfl, h⟩ := am_l2_of h; obtain ⟨hk, h⟩ := am_ifn_of h; cases h; exact ⟨L2, by show (if _ then _ else _) = _; rw [if_neg hk], hle⟩
  | lrem => obtain ⟨x, y, t, rfl, h⟩ := am_l2_of h; obtain ⟨hk, h⟩ := am_ifn_of h; cases h; exact ⟨L2, by show (if _ then _ else _) = _; rw [if_neg hk], hle⟩
  | lcmp => obtain ⟨x, y, t, rfl, h⟩ := am_l2_of h; cases h; exact ⟨L2, rfl, hle⟩
  | lneg => obtain ⟨x, t, rfl, h⟩ := am_l1_of h; cases h; exact ⟨L2, rfl, hle⟩
  | l2i => obtain ⟨x, t, rfl, h⟩ := am_l1_of h; cases h; exact ⟨L2, rfl, hle⟩
  | lshl => obtain ⟨x, y, t, rfl, h⟩ := am_li_of h; cases h; exact ⟨L2, rfl, hle⟩
  | lushr => obtain ⟨x, y, t, rfl, h⟩ := am_li_of h; cases h; exact ⟨L2, rfl, hle⟩
  | dup => obtain ⟨x, t, rfl, h⟩ := am_v1_of h; obtain ⟨hk, h⟩ := am_if_of h; cases h; exact ⟨L2, by show (if _ then _ else _) = _; rw [if_pos hk], hle⟩
  | pop => obtain ⟨x, t, rfl, h⟩ := am_v1_of h; obtain ⟨hk, h⟩ := am_if_of h; cases h; exact ⟨L2, by show (if _ then _ else _) = _; rw [if_pos hk], hle⟩
  | dup_x1 => obtain ⟨x, y, t, rfl, h⟩ := am_v2_of h; obtain ⟨hk, h⟩ := am_if_of h; cases h; exact ⟨L2, by show (if _ then _ else _) = _; rw [if_pos hk], hle⟩
  | dup2 => obtain ⟨x, y, t, rfl, h⟩ := am_v2_of h; obtain ⟨hk, h⟩ := am_if_of h; cases h; exact ⟨L2, by show (if _ then _ else _) = _; rw [if_pos hk], hle⟩
  | goto off => exact am_to_L hle h
  | ifCond cd off =>
    cases cd with
    | eq => obtain ⟨x, t, rfl, h⟩ := am_i1_of h; exact am_br_L hle h
    | ne => obtain ⟨x, t, rfl, h⟩ := am_i1_of h; exact am_br_L hle h
    | lt => obtain ⟨x, t, rfl, h⟩ := am_i1_of h; exact am_br_L hle h
    | ge => obtain ⟨x, t, rfl, h⟩ := am_i1_of h; exact am_br_L hle h
    | gt => obtain ⟨x, t, rfl, h⟩ := am_i1_of h; exact am_br_L hle h
    | le => obtain ⟨x, t, rfl, h⟩ := am_i1_of h; exact am_br_L hle h
  | if_icmp cd off =>
    cases cd with
    | eq => obtain ⟨x, y, t, rfl, h⟩ := am_i2_of h; exact am_br_L hle h
    | ne => obtain ⟨x, y, t, rfl, h⟩ := am_i2_of h; exact am_br_L hle h
    | lt => obtain ⟨x, y, t, rfl, h⟩ := am_i2_of h; exact am_br_L hle h
    | ge => obtain ⟨x, y, t, rfl, h⟩ := am_i2_of h; exact am_br_L hle h
    | gt => obtain ⟨x, y, t, rfl, h⟩ := am_i2_of h; exact am_br_L hle h
    | le => obtain ⟨x, y, t, rfl, h⟩ := am_i2_of h; exact am_br_L hle h
  | tableswitch dflt lo hi offs =>
    obtain ⟨x, t, rfl, h2⟩ := am_i1_of h
    show ∃ L', (if x.toInt < lo ∨ hi < x.toInt then _ else _) = _ ∧ _
    by_cases hc : x.toInt < lo ∨ hi < x.toInt
    · rw [if_pos hc] at h2 ⊢
      exact am_to_L hle h2
    · rw [if_neg hc] at h2 ⊢
      cases ho : offs[(x.toInt - lo).toNat]? with
      | none => rw [ho] at h2; cases h2
      | some off =>
        rw [ho] at h2
        exact am_to_L hle h2
  | lookupswitch dflt ps =>
    obtain ⟨x, t, rfl, h⟩ := am_i1_of h
    obtain ⟨hk, h⟩ := am_if_of h
    obtain ⟨L', g1, g2⟩ := am_to_L hle h
    exact ⟨L', by show (if _ then _ else _) = _; rw [if_pos hk]; exact g1, g2⟩
  | getfield _ => obtain ⟨a, t, rfl, h⟩ := am_a1_of h; obtain ⟨hk, h⟩ := am_if_of h; cases h; exact ⟨L2, by show (if _ then _ else _) = _; rw [if_pos hk], hle⟩
  | putfield _ => obtain ⟨a, v, t, rfl, h⟩ := am_av_of h; obtain ⟨hk, h⟩ := am_if_of h; obtain ⟨τ, hτ, h⟩ := Option.bind_eq_some_iff.mp h; cases h; exact ⟨L2, by show (if _ then _ else _) = _; rw [if_pos hk, hτ]; rfl, hle⟩
  | iaload => 
    obtain ⟨a, i, t, rfl, h2⟩ := am_ai_of h
    show ∃ L', (if a = 0 then _ else _) = _ ∧ _
    by_cases ha : a = 0
    · rw [if_pos ha] at h2 ⊢; obtain ⟨x, rfl, h2⟩ := am_sx_of h2; obtain ⟨hin, h2⟩ := am_ifn_of h2; cases h2; exact ⟨L2, by show (if _ then _ else _) = _; rw [if_neg hin], hle⟩
    · rw [if_neg ha] at h2 ⊢; obtain ⟨tt, n, hk, h2⟩ := am_rw_of h2; obtain ⟨ht, h2⟩ := am_if_of h2; obtain ⟨hin, h2⟩ := am_ifn_of h2; cases h2; exact ⟨L2, by rw [hk]; show (if _ then _ else _) = _; rw [if_pos ht, if_neg hin], hle⟩
  | baload => obtain ⟨a, i, t, rfl, h⟩ := am_ai_of h; obtain ⟨tt, n, hk, h⟩ := am_rw_of h; obtain ⟨ht, h⟩ := am_if_of h; obtain ⟨hin, h⟩ := am_ifn_of h; cases h; exact ⟨L2, by show am_rw _ _ = _; rw [hk]; show (if _ then _ else _) = _; rw [if_pos ht, if_neg hin], hle⟩
  | laload => obtain ⟨a, i, t, rfl, h⟩ := am_ai_of h; obtain ⟨tt, n, hk, h⟩ := am_rw_of h; obtain ⟨ht, h⟩ := am_if_of h; obtain ⟨hin, h⟩ := am_ifn_of h; cases h; exact ⟨L2, by show am_rw _ _ = _; rw [hk]; show (if _ then _ else _) = _; rw [if_pos ht, if_neg hin], hle⟩
  | aaload => obtain ⟨a, i, t, rfl, h⟩ := am_ai_of h; obtain ⟨tt, n, hk, h⟩ := am_rw_of h; obtain ⟨ht, h⟩ := am_if_of h; obtain ⟨hin, h⟩ := am_ifn_of h; cases h; exact ⟨L2, by show am_rw _ _ = _; rw [hk]; show (if _ then _ else _) = _; rw [if_pos ht, if_neg hin], hle⟩
  | iastore => obtain ⟨a, i, x, t, rfl, h⟩ := am_aii_of h; obtain ⟨tt, n, hk, h⟩ := am_rw_of h; obtain ⟨ht, h⟩ := am_if_of h; obtain ⟨hin, h⟩ := am_ifn_of h; cases h; exact ⟨L2, by show am_rw _ _ = _; rw [hk]; show (if _ then _ else _) = _; rw [if_pos ht, if_neg hin], hle⟩
  | bastore => obtain ⟨a, i, x, t, rfl, h⟩ := am_aii_of h; obtain ⟨tt, n, hk, h⟩ := am_rw_of h; obtain ⟨ht, h⟩ := am_if_of h; obtain ⟨hin, h⟩ := am_ifn_of h; cases h; exact ⟨L2, by show am_rw _ _ = _; rw [hk]; show (if _ then _ else _) = _; rw [if_pos ht, if_neg hin], hle⟩
  | lastore => obtain ⟨a, i, x, t, rfl, h⟩ := am_ail_of h; obtain ⟨tt, n, hk, h⟩ := am_rw_of h; obtain ⟨ht, h⟩ := am_if_of h; obtain ⟨hin, h⟩ := am_ifn_of h; cases h; exact ⟨L2, by show am_rw _ _ = _; rw [hk]; show (if _ then _ else _) = _; rw [if_pos ht, if_neg hin], hle⟩
  | aastore => obtain ⟨a, i, x, t, rfl, h⟩ := am_aia_of h; obtain ⟨tt, n, hk, h⟩ := am_rw_of h; obtain ⟨ht, h⟩ := am_if_of h; obtain ⟨hin, h⟩ := am_ifn_of h; cases h; exact ⟨L2, by show am_rw _ _ = _; rw [hk]; show (if _ then _ else _) = _; rw [if_pos ht, if_neg hin], hle⟩
  | arraylength => 
    obtain ⟨a, t, rfl, h2⟩ := am_a1_of h
    show ∃ L', (if a = 0 then _ else _) = _ ∧ _
    by_cases ha : a = 0
    · rw [if_pos ha] at h2 ⊢; obtain ⟨x, rfl, h2⟩ := am_sx_of h2; cases h2; exact ⟨L2, rfl, hle⟩
    · rw [if_neg ha] at h2 ⊢; obtain ⟨tt, n, hk, h2⟩ := am_rw_of h2; obtain ⟨ht, h2⟩ := am_if_of h2; cases h2; exact ⟨L2, by rw [hk]; show (if _ then _ else _) = _; rw [if_pos ht], hle⟩
  | new _ => cases h; exact ⟨L2, rfl, hle⟩
  | newarray _ => obtain ⟨x, t, rfl, h⟩ := am_i1_of h; obtain ⟨hk, h⟩ := am_ifn_of h; cases h; exact ⟨L2, by show (if _ then _ else _) = _; rw [if_neg hk], hle⟩
  | anewarray _ => obtain ⟨x, t, rfl, h⟩ := am_i1_of h; obtain ⟨hk, h⟩ := am_ifn_of h; cases h; exact ⟨L2, by show (if _ then _ else _) = _; rw [if_neg hk], hle⟩
  | invokespecial _ => obtain ⟨a, t, rfl, h⟩ := am_a1_of h; obtain ⟨hk, h⟩ := am_if_of h; cases h; exact ⟨L2, by show (if _ then _ else _) = _; rw [if_pos hk], hle⟩
  | invokestatic _ => 
    simp only [am_ins] at h ⊢
    split at h
    · obtain ⟨x, y, t, rfl, h⟩ := am_i2_of h; obtain ⟨hk, h⟩ := am_if_of h; cases h; exact ⟨L2, by show (if _ then _ else _) = _; rw [if_pos hk], hle⟩
    · obtain ⟨x, y, t, rfl, h⟩ := am_i2_of h; obtain ⟨hk, h⟩ := am_if_of h; cases h; exact ⟨L2, by show (if _ then _ else _) = _; rw [if_pos hk], hle⟩
    · obtain ⟨a0, sp, a, dp, n, t, rfl, h⟩ := am_cp_of h; obtain ⟨hk, h⟩ := am_if_of h; obtain ⟨ta, n0, hk0, h⟩ := am_rw_of h; obtain ⟨tb, n1, hk1, h⟩ := am_rw_of h; obtain ⟨ht, h⟩ := am_if_of h; cases h; exact ⟨L2, by show (if _ then _ else _) = _; rw [if_pos hk, hk0]; show am_rw _ _ = _; rw [hk1]; show (if _ then _ else _) = _; rw [if_pos ht], hle⟩
    · cases h
  | _ => cases h
section AML
variable {X : Option (Nat × (Nat → Int32))} {ec : Nat} {mt : Nat → Option am_M} {cd : Nat → Nat → Option am_E}
theorem am_weakL : ∀ (n d mid pc : Nat) (L L2 : am_L) (st : List Value) (σ : am_S) (r : Option Value × am_S), LLe L L2 → am X ec mt cd n d mid pc L st σ = some r → am X ec mt cd n d mid pc L2 st σ = some r
  | 0, _, _, _, _, _, _, _, _, _, h => by rw [am] at h; cases h
  | n + 1, d, mid, pc, L, L2, st, σ, r, hle, h => by
    obtain ⟨M, i, r1, r2, r3, hM, hc, ⟨rfl, h1, rfl, rfl⟩ | ⟨rfl, x, rfl, h1, rfl⟩ | ⟨hi, d', N, as, t, q, rfl, hN, ha, h1, h2, hq, h3⟩ | ⟨hi, h1, h2, q, hq, h3⟩⟩ := am_succ h
    · exact am_mk_v hM hc h1
    · exact am_mk_i hM hc h1
    · exact am_mk_c hM hc hi hN ha h1 h2 hq (am_weakL n _ _ _ _ _ _ _ _ hle h3)
    · obtain ⟨L', g1, g2⟩ := am_ins_L hle hq
      exact am_mk_s hM hc hi h1 h2 g1 (am_weakL n _ _ _ _ _ _ _ _ g2 h3)
end AML
theorem Rn.weakL {X : Option (Nat × (Nat → Int32))} {d mid pc : Nat} {L L2 : am_L} {st : List Value} {σ : am_S} {Q : Option Value → am_S → Prop} (h : Rn X d mid pc L st σ Q) (hle : LLe L L2) : Rn X d mid pc L2 st σ Q := by
  obtain ⟨n, r, h1, h2⟩ := h
  exact ⟨n, r, am_weakL n _ _ _ _ _ _ _ _ hle h1, h2⟩
theorem LLe.nil : LLe [] [] := ⟨rfl, fun i v h => h⟩
theorem LLe.keep {L1 L2 : am_L} (w : Option Value) (h : LLe L1 L2) : LLe (w :: L1) (w :: L2) := ⟨by rw [List.length_cons, List.length_cons, h.1], fun i v hv => by
  cases i with
  | zero => exact hv
  | succ i => exact h.2 i v hv⟩
theorem LLe.drop {L1 L2 : am_L} (w : Option Value) (h : LLe L1 L2) : LLe (none :: L1) (w :: L2) := ⟨by rw [List.length_cons, List.length_cons, h.1], fun i v hv => by
  cases i with
  | zero => cases hv
  | succ i => exact h.2 i v hv⟩
