/-! the two constructors, run -/
def an_r1 : Option (Option Value × am_S) := am none an_ec an_mtf an_cd 1000 10 1 0 (am_en [.ref 1] 1) [] (am_nw an_s0 (.inl 0))
def an_r2 : Option (Option Value × am_S) := match an_r1 with
  | some r => am none an_ec an_mtf an_cd 1000 10 132 0 (am_en [.ref 262] 1) [] (am_nw r.2 (.inl 11))
  | none => none
def an_ckr (o : Option (Option Value × am_S)) (f : am_S → Bool) : Bool := match o with
  | some r => decide (r.1 = none) && f r.2
  | none => false
theorem an_r2_K : an_ckr an_r2 (fun σ => decide (σ.1 = an_K) && an_ptl.all (fun t => decide (σ.2.2.2 t.1 t.2.1 = some t.2.2))) = true := by decide +kernel
theorem s_sld {d mid pc r1 r2 r3 : Nat} {L : am_L} {st : List Value} {σ : am_S} {Q : Option Value → am_S → Prop} {n0 : Nat} {xs : Nat → Int32} {x : Int} (hc : an_cd mid pc = some (.iaload, r1, r2, r3)) (hn : n0 ≤ 100000) (hb : 0 ≤ x ∧ x < n0) (kk : Rn (some (n0, xs)) d mid (pc + 1) L (.int (iz (xs x.toNat).toInt) :: st) σ Q) : Rn (some (n0, xs)) d mid pc L (.int (iz x) :: .ref 0 :: st) σ Q := rn_ins (q := (pc + 1, L, .int (iz (xs x.toNat).toInt) :: st, σ)) hc rfl nofun nofun (by
  obtain ⟨h1, h2⟩ := iz_in hn hb
  show (if iz x < 0 ∨ n0 ≤ (iz x).toNatClampNeg then none else some (pc + 1, L, .int (xs (iz x).toNatClampNeg) :: st, σ)) = _
  rw [if_neg h1, h2, iz_of]) kk
theorem s_slen {d mid pc r1 r2 r3 : Nat} {L : am_L} {st : List Value} {σ : am_S} {Q : Option Value → am_S → Prop} {n0 : Nat} {xs : Nat → Int32} (hc : an_cd mid pc = some (.arraylength, r1, r2, r3)) (kk : Rn (some (n0, xs)) d mid (pc + 1) L (.int (iz n0) :: st) σ Q) : Rn (some (n0, xs)) d mid pc L (.ref 0 :: st) σ Q := rn_ins (q := (pc + 1, L, .int (iz n0) :: st, σ)) hc rfl nofun nofun (by
  show some (pc + 1, L, Value.int (Int32.ofNat n0) :: st, σ) = _
  rw [iz_nat]) kk
