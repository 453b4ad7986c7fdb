/-! runs of the small machine, told by what holds at their end -/
section AMM
variable {X : Option (Nat × (Nat → Int32))} {ec : Nat} {mt : Nat → Option am_M} {cd : Nat → Nat → Option am_E}
theorem am_mk_v {n d mid pc r1 r2 r3 : Nat} {L : am_L} {σ : am_S} {M : am_M} (hM : mt mid = some M) (hc : cd mid pc = some (.return_, r1, r2, r3)) (hr : M.2.2.2.1 = none) : am X ec mt cd (n + 1) d mid pc L [] σ = some (none, σ) := by
  rw [am, hM, hc]
  simp [hr]
theorem am_mk_i {n d mid pc r1 r2 r3 : Nat} {L : am_L} {σ : am_S} {M : am_M} {x : Int32} (hM : mt mid = some M) (hc : cd mid pc = some (.ireturn, r1, r2, r3)) (hr : am_rok M.2.2.2.1 x = true) : am X ec mt cd (n + 1) d mid pc L [.int x] σ = some (some (.int x), σ) := by
  rw [am, hM, hc]
  simp [hr]
theorem am_mk_c {n d' mid pc r1 r2 r3 : Nat} {L : am_L} {st as t : List Value} {σ : am_S} {M N : am_M} {i : Instr} {q : Option Value × am_S} {r : Option (Option Value × am_S)} (hM : mt mid = some M) (hc : cd mid pc = some (i, r1, r2, r3)) (hi : am_isCall i r1 = true) (hN : mt r2 = some N) (ha : am_ca i r1 r3 st σ.1 = some (as, t)) (h1 : am_ct t ≤ 8) (h2 : (am_en as N.2.2.1).length = N.2.2.1) (h3 : am X ec mt cd n d' r2 0 (am_en as N.2.2.1) [] σ = some q) (h4 : am X ec mt cd n (d' + 1) mid (pc + 3) L (q.1.toList ++ t) q.2 = r) : am X ec mt cd (n + 1) (d' + 1) mid pc L st σ = r := by
  rw [am, hM, hc]
  dsimp only
  have e : ∀ {α : Type} (a b c : α), (match i with | .return_ => a | .ireturn => b | _ => c) = c := by
    intro α a b c
    cases i <;> first | rfl | cases hi
  split
  · cases hi
  · cases hi
  · rw [if_pos hi, hN, ha]
    dsimp only
    rw [if_pos ⟨h1, h2⟩, h3]
    exact h4
theorem am_mk_s {n d mid pc r1 r2 r3 : Nat} {L : am_L} {st : List Value} {σ : am_S} {M : am_M} {i : Instr} {q : am_R} {r : Option (Option Value × am_S)} (hM : mt mid = some M) (hc : cd mid pc = some (i, r1, r2, r3)) (hi : am_isCall i r1 = false) (h1 : i ≠ .return_) (h2 : i ≠ .ireturn) (h3 : am_ins X ec d i r1 r2 r3 pc L st σ = some q) (h4 : am X ec mt cd n d mid q.1 q.2.1 q.2.2.1 q.2.2.2 = r) : am X ec mt cd (n + 1) d mid pc L st σ = r := by
  rw [am, hM, hc]
  dsimp only
  split
  · exact absurd rfl h1
  · exact absurd rfl h2
  · rw [if_neg (by rw [hi]; decide), h3]
    exact h4
theorem am_mono : ∀ (n k d mid pc : Nat) (L : am_L) (st : List Value) (σ : am_S) (r : Option Value × am_S), am X ec mt cd n d mid pc L st σ = some r → am X ec mt cd (n + k) d mid pc L st σ = some r
  | 0, _, _, _, _, _, _, _, _, h => by rw [am] at h; cases h
  | n + 1, k, d, mid, pc, L, st, σ, r, h => by
    rw [show n + 1 + k = (n + k) + 1 by omega]
    obtain ⟨M, i, r1, r2, r3, hM, hc, ⟨rfl, h1, rfl, rfl⟩ | ⟨rfl, x, rfl, h1, rfl⟩ | ⟨hi, d', N, as, t, q, rfl, hN, ha, h1, h2, hq, h3⟩ | ⟨hi, h1, h2, q, hq, h3⟩⟩ := am_succ h
    · exact am_mk_v hM hc h1
    · exact am_mk_i hM hc h1
    · exact am_mk_c hM hc hi hN ha h1 h2 (am_mono n k _ _ _ _ _ _ _ hq) (am_mono n k _ _ _ _ _ _ _ h3)
    · exact am_mk_s hM hc hi h1 h2 hq (am_mono n k _ _ _ _ _ _ _ h3)
theorem am_deep (k : Nat) : ∀ (n d mid pc : Nat) (L : am_L) (st : List Value) (σ : am_S) (r : Option Value × am_S), am X ec mt cd n d mid pc L st σ = some r → am X ec mt cd n (d + k) mid pc L st σ = some r
  | 0, _, _, _, _, _, _, _, h => by rw [am] at h; cases h
  | n + 1, d, mid, pc, L, st, σ, r, h => by
    obtain ⟨M, i, r1, r2, r3, hM, hc, ⟨rfl, h1, rfl, rfl⟩ | ⟨rfl, x, rfl, h1, rfl⟩ | ⟨hi, d', N, as, t, q, rfl, hN, ha, h1, h2, hq, h3⟩ | ⟨hi, h1, h2, q, hq, h3⟩⟩ := am_succ h
    · exact am_mk_v hM hc h1
    · exact am_mk_i hM hc h1
    · rw [show d' + 1 + k = (d' + k) + 1 by omega]
      refine am_mk_c hM hc hi hN ha h1 h2 (am_deep k n _ _ _ _ _ _ _ hq) ?_
      have h4 := am_deep k n _ _ _ _ _ _ _ h3
      rw [show d' + 1 + k = (d' + k) + 1 by omega] at h4
      exact h4
    · exact am_mk_s hM hc hi h1 h2 (am_ins_d k hq) (am_deep k n _ _ _ _ _ _ _ h3)
theorem am_anyX {x : Nat × (Nat → Int32)} : ∀ (n d mid pc : Nat) (L : am_L) (st : List Value) (σ : am_S) (r : Option Value × am_S), am none ec mt cd n d mid pc L st σ = some r → am (some x) ec mt cd n d mid pc L st σ = some r
  | 0, _, _, _, _, _, _, _, h => by rw [am] at h; cases h
  | n + 1, d, mid, pc, L, st, σ, r, h => by
    obtain ⟨M, i, r1, r2, r3, hM, hc, ⟨rfl, h1, rfl, rfl⟩ | ⟨rfl, y, rfl, h1, rfl⟩ | ⟨hi, d', N, as, t, q, rfl, hN, ha, h1, h2, hq, h3⟩ | ⟨hi, h1, h2, q, hq, h3⟩⟩ := am_succ h
    · exact am_mk_v hM hc h1
    · exact am_mk_i hM hc h1
    · exact am_mk_c hM hc hi hN ha h1 h2 (am_anyX n _ _ _ _ _ _ _ hq) (am_anyX n _ _ _ _ _ _ _ h3)
    · exact am_mk_s hM hc hi h1 h2 (am_ins_X hq) (am_anyX n _ _ _ _ _ _ _ h3)
end AMM
/-- from this place the method comes to an end with Q -/
def Rn (X : Option (Nat × (Nat → Int32))) (d mid pc : Nat) (L : am_L) (st : List Value) (σ : am_S) (Q : Option Value → am_S → Prop) : Prop := ∃ n r, am X an_ec an_mtf an_cd n d mid pc L st σ = some r ∧ Q r.1 r.2
/-- a call of a method comes to an end with Q -/
def Rc (X : Option (Nat × (Nat → Int32))) (d mid : Nat) (as : List Value) (σ : am_S) (Q : Option Value → am_S → Prop) : Prop := ∃ N, an_mtf mid = some N ∧ (am_en as N.2.2.1).length = N.2.2.1 ∧ Rn X d mid 0 (am_en as N.2.2.1) [] σ Q
section RNS
variable {X : Option (Nat × (Nat → Int32))} {d mid pc r1 r2 r3 : Nat} {L : am_L} {st : List Value} {σ : am_S} {Q : Option Value → am_S → Prop}
theorem Rn.weak {Q2 : Option Value → am_S → Prop} (h : Rn X d mid pc L st σ Q) (hq : ∀ v τ, Q v τ → Q2 v τ) : Rn X d mid pc L st σ Q2 := by
  obtain ⟨n, r, h1, h2⟩ := h
  exact ⟨n, r, h1, hq _ _ h2⟩
theorem Rc.weak {as : List Value} {Q2 : Option Value → am_S → Prop} (h : Rc X d mid as σ Q) (hq : ∀ v τ, Q v τ → Q2 v τ) : Rc X d mid as σ Q2 := by
  obtain ⟨N, h1, h2, h3⟩ := h
  exact ⟨N, h1, h2, h3.weak hq⟩
/-- one instruction, as a function -/
def stp (X : Option (Nat × (Nat → Int32))) (d mid pc : Nat) (L : am_L) (st : List Value) (σ : am_S) : Option am_R := match an_mtf mid, an_cd mid pc with
  | some _, some (i, r1, r2, r3) => match i with
    | .return_ => none
    | .ireturn => none
    | _ => if am_isCall i r1 = true then none else am_ins X an_ec d i r1 r2 r3 pc L st σ
  | _, _ => none
theorem rn_stp {q : am_R} (h : stp X d mid pc L st σ = some q) (k : Rn X d mid q.1 q.2.1 q.2.2.1 q.2.2.2 Q) : Rn X d mid pc L st σ Q := by
  obtain ⟨n, r, h1, h2⟩ := k
  unfold stp at h
  split at h
  · rename_i M i r1 r2 r3 hM hc
    refine ⟨n + 1, r, ?_, h2⟩
    split at h
    · cases h
    · cases h
    · rename_i n1 n2
      obtain ⟨hi, h⟩ := am_ifn_of h
      exact am_mk_s hM hc (by simpa using hi) n1 n2 h h1
  · cases h
def stps (X : Option (Nat × (Nat → Int32))) (d mid : Nat) : Nat → am_R → Option am_R
  | 0, q => some q
  | k + 1, q => match stp X d mid q.1 q.2.1 q.2.2.1 q.2.2.2 with
    | some q' => stps X d mid k q'
    | none => none
theorem rn_stps : ∀ (k : Nat) {q0 q : am_R}, stps X d mid k q0 = some q → Rn X d mid q.1 q.2.1 q.2.2.1 q.2.2.2 Q → Rn X d mid q0.1 q0.2.1 q0.2.2.1 q0.2.2.2 Q
  | 0, q0, q, h, k => by cases h; exact k
  | n + 1, q0, q, h, k => by
    unfold stps at h
    split at h
    · rename_i q' hq
      exact rn_stp hq (rn_stps n h k)
    · cases h
theorem rn_v (hM : ∃ M, an_mtf mid = some M ∧ M.2.2.2.1 = none) (hc : an_cd mid pc = some (.return_, r1, r2, r3)) (h : Q none σ) : Rn X d mid pc L [] σ Q := by
  obtain ⟨M, h1, h2⟩ := hM
  exact ⟨1, _, am_mk_v h1 hc h2, h⟩
theorem rn_i {x : Int32} (hM : ∃ M, an_mtf mid = some M ∧ am_rok M.2.2.2.1 x = true) (hc : an_cd mid pc = some (.ireturn, r1, r2, r3)) (h : Q (some (.int x)) σ) : Rn X d mid pc L [.int x] σ Q := by
  obtain ⟨M, h1, h2⟩ := hM
  exact ⟨1, _, am_mk_i h1 hc h2, h⟩
theorem rn_c {i : Instr} {as t : List Value} {Q1 : Option Value → am_S → Prop} (hM : ∃ M, an_mtf mid = some M) (hc : an_cd mid pc = some (i, r1, r2, r3)) (hi : am_isCall i r1 = true) (ha : am_ca i r1 r3 st σ.1 = some (as, t)) (h1 : am_ct t ≤ 8) (hR : Rc X d r2 as σ Q1) (k : ∀ v τ, Q1 v τ → Rn X (d + 1) mid (pc + 3) L (v.toList ++ t) τ Q) : Rn X (d + 1) mid pc L st σ Q := by
  obtain ⟨M, hM⟩ := hM
  obtain ⟨N, g1, g2, n, r, g3, g4⟩ := hR
  obtain ⟨n2, r', g5, g6⟩ := k _ _ g4
  refine ⟨(n + n2) + 1, r', ?_, g6⟩
  refine am_mk_c hM hc hi g1 ha h1 g2 (am_mono n n2 _ _ _ _ _ _ _ g3) ?_
  rw [Nat.add_comm n n2]
  exact am_mono n2 n _ _ _ _ _ _ _ g5
end RNS
