/-! show() in the class -/
section CSH
variable {X : aX} {d : Nat} {P : Mp} {J J' : Mj} {m m' m0 : Mi} {Sn : Nat → Nat} {sc b s o g G mg N : Nat} {ar : Nat → Int} {R : Nat → Mi} {nm : Nat → Int}
/-- a SYMBOL without its mark -/
def pln (c : Int) : Int := if c < 0 then c else c % 32
/-- two sides, shown -/
def oSide (ay : Int → Nat) (Sn : Nat → Nat) (l r : List Int) (s : Ws) : Ws := wtm ay Sn r [] ((wtm ay Sn l [] s).1 ++ [61], (wtm ay Sn l [] s).2.1, (wtm ay Sn l [] s).2.2)
/-- a RULE, shown -/
def oRule (ay : Int → Nat) (Sn : Nat → Nat) (nm : Nat → Int) (vm : Nat) (l r : List Int) : Ws := wtm ay Sn r [] ((wtm ay Sn l [] ([], nmL nm vm, 0)).1 ++ [45] ++ [62], (wtm ay Sn l [] ([], nmL nm vm, 0)).2.1, (wtm ay Sn l [] ([], nmL nm vm, 0)).2.2)
def oVal (ay : Int → Nat) (Sn : Nat → Nat) (nm : Nat → Int) (vs : List (List Int)) : Ws := shV nm ay Sn vs 0 ([], nvL nm vs 0 (fun _ => 0), 0)
def oEq (ay : Int → Nat) (Sn : Nat → Nat) (nm : Nat → Int) (l r : List Int) (vs : List (List Int)) : Ws := oSide ay Sn (l.map pln) (r.map pln) ([], nvL nm vs 0 (fun _ => 0), 0)
theorem pln_ay {c : Int} : ayw ar (pln c) = ayw ar c := by
  unfold pln
  split
  · rfl
  · exact ayw_32 _ _ (by omega) (by omega) (by omega)
theorem Wb_add {n : Nat} {s : Ws} {w : List Int} (h : Wb n s) (hw : w.length ≤ 200) (hn : n + 1 ≤ 3000) : Wb (n + 1) (s.1 ++ w, s.2.1, s.2.2) := by
  obtain ⟨⟨h1, h2, h3⟩, h4⟩ := h
  refine ⟨⟨?_, ?_, hn⟩, h4⟩
  · show (s.1 ++ w).length ≤ 256 * (n + 1)
    rw [List.length_append]
    omega
  · show s.2.2 ≤ n + 1
    omega
theorem BN_wc (h : BN b Sn sc m J) (hb : b = 54 ∨ b = 155) (f : wcF m J m' J') : BN b Sn sc m' J' := ⟨⟨(f.1 _ _ (by omega) (by omega) (by omega)).trans h.1.1, h.1.2⟩, fun i hi => ⟨(f.2 _ _ (by omega)).trans (h.2 i hi).1, (h.2 i hi).2⟩⟩
theorem BA_wc (h : BA b sc ar m) (hb : b = 54 ∨ b = 155) (hs : sc ≤ 16) (f : wcF m J m' J') : BA b sc ar m' := BA_fr h hs fun k _ => f.1 _ _ (by omega) (by omega) (by omega)
theorem c_showSides {x nx f n : Nat} {l r : List Int} {s : Ws} (hp : PP P) (hb : b = 54 ∨ b = 155) (hP : P 1 8 = some b) (hB : BN b Sn sc m J) (hA : BA b sc ar m) (kx : am_kd an_K x = some (.inr (0, nx))) (bx : nx ≤ 100000) (hx : x < 50 ∨ 53 < x) (hxb : x < b ∨ b + 5 ≤ x) (hf : f + (l.length + r.length) ≤ nx) (hl : l.length ≤ 200 ∧ r.length ≤ 200) (hg : ∀ c, c ∈ l ++ r → gq sc c) (hct : ctt (ayw ar) l = some 1 ∧ ctt (ayw ar) r = some 1) (hR1 : RC x f l m) (hR2 : RC x (f + l.length) r m) (h : WC s m J) (hw : Wb n s) (hn : n + 500 ≤ 3000) {post : Int → Mi → Mj → Mp → Prop} (k : ∀ m' J', WC (oSide (ayw ar) Sn l r s) m' J' → wcF m J m' J' → post ((oSide (ayw ar) Sn l r s).1.length : Int) m' J' P) : Ci X (d + 4) 129 [.ref 1, .ref x, .int (iz (f : Int))] m J P post := by
  have kb := kd_book hb
  have hs := hB.1.2
  refine Ci.of rfl rfl rfl (b_Nh_showSides_0 x nx (f : Int) kx bx m J P hp post ⟨b, hP, kb, ?_⟩)
  refine c_writeTerm (d := d) (n := n) hp hb hB hA kx bx hx hxb (by omega) hl.1 (fun c hc => hg c (List.mem_append_left _ hc)) hct.1 hR1 h hw (by omega) (fun m1 J1 w1 w2 w3 => ⟨hp, ?_⟩)
  have wl := w2.1.1
  refine c_write hp w1.1 (by omega) (fun m2 v1 v2 => ⟨hp, b, hP, kb, ?_⟩)
  have w4 : WC ((wtm (ayw ar) Sn l [] s).1 ++ [61], (wtm (ayw ar) Sn l [] s).2.1, (wtm (ayw ar) Sn l [] s).2.2) m2 J1 := WC_oc w1 v1 v2
  have F2 : wcF m J m2 J1 := wcF_trans w3 (ocF_wc v2)
  refine c_writeTerm (d := d) (n := n + l.length + 1) hp hb (BN_wc hB hb F2) (BA_wc hA hb hs F2) kx bx hx hxb (by omega) hl.2 (fun c hc => hg c (List.mem_append_right _ hc)) hct.2 (RC_fr hR2 fun i _ => F2.1 _ _ (by omega) (by omega) (by omega)) w4 (Wb_add w2 (by simp) (by omega)) (by omega) (fun m3 J3 u1 u2 u3 => ⟨hp, ?_⟩)
  have e := u1.1.1
  rw [show m3 50 1 = _ from e]
  exact k m3 J3 u1 (wcF_trans F2 u3)
/-- a RULE's names -/
theorem Sq_nm (hS : Sq sc Sn ar N R) {u : Nat} (hu : u < N) : (0 ≤ R u 0 4 ∧ R u 0 4 ≤ 8) ∧ ∀ v : Nat, (v : Int) < R u 0 4 → isN (R u 7 v).toNat ∧ 0 < R u 7 v := by
  obtain ⟨hz, _⟩ := hS.2.2 u hu
  obtain ⟨⟨_, _, h1, _⟩, _, _, _, _, h6⟩ := hz
  refine ⟨by omega, fun v hv => ?_⟩
  have q1 := h6 v hv
  have q2 := isN_pos q1.2
  exact ⟨q1.2, by omega⟩
theorem gp_gq {c : Int} (h : gp sc c ∧ -8 ≤ c) : gq sc c := by
  obtain ⟨⟨h1, h2, h3⟩, h4⟩ := h
  unfold gq
  by_cases g : 0 ≤ c
  · have := h3 g
    omega
  · omega
theorem c_showRule {k : Int} (hp : PP P) (hb : b = 54 ∨ b = 155) (hP : P 1 8 = some b) (hS : Sq sc Sn ar N R) (hSN : SqN sc Sn N R) (hC : CSy b sc Sn ar N R m J) (hz : Zr k) {post : Int → Mi → Mj → Mp → Prop} (k0 : k < 0 ∨ (N : Int) ≤ k → post (-1) m J P) (k1 : 0 ≤ k ∧ k < (N : Int) → ∀ m' J', WC (oRule (ayw ar) Sn (R k.toNat 7) (R k.toNat 0 4).toNat (ZLs Sn sc R k.toNat) (ZRs Sn sc R k.toNat)) m' J' → wcF m J m' J' → post ((oRule (ayw ar) Sn (R k.toNat 7) (R k.toNat 0 4).toNat (ZLs Sn sc R k.toNat) (ZRs Sn sc R k.toNat)).1.length : Int) m' J' P) : Ci X (d + 4) 126 [.ref 1, .int (iz k)] m J P post := by
  have kb := kd_book hb
  have hs := hS.1.1
  have hX := CSy_BKC hS hSN hC
  have hN := hX.2.1.1
  refine Ci.of rfl rfl rfl (b_Nh_showRule_0 k m J P hp post ⟨hz, fun g => k0 (Or.inl g), fun h0 => ⟨b, hP, kb, hz, ?_⟩⟩)
  rw [show m b 5 = (N : Int) from hX.2.1.2.1]
  refine ⟨by constructor <;> omega, fun hlt => ⟨b, hP, kb, by omega, ?_⟩, fun g => k0 (Or.inr (by omega))⟩
  obtain ⟨u, rfl⟩ := Int.eq_ofNat_of_zero_le (show 0 ≤ k by omega)
  have hu : u < N := by omega
  have k1' := k1 ⟨by omega, hlt⟩
  rw [Int.toNat_natCast] at k1' ⊢
  have ko := kd_rule hb (show u < 16 by omega)
  have ko1 : am_kd an_K (b + 5 + 6 * u + 1) = some (.inr (0, 80)) := kd_rule_arr hb (by omega) (by omega) (by omega)
  obtain ⟨n1, n2⟩ := Sq_nm hS hu
  have hZ := Sq_ZK hS u hu
  have hRB := hX.2.2 u hu
  have hE := hC.2.2.2 u hu
  have hgq : ∀ c, c ∈ ZLs Sn sc R u ++ ZRs Sn sc R u → gq sc c := fun c hc => gp_gq (hZ.2.1 c hc)
  have hvar := hE.1.2.2.1
  have hnam := hE.1.2.2.2
  obtain ⟨vm, hvm⟩ : ∃ vm, vm = (R u 0 4).toNat := ⟨_, rfl⟩
  rw [← hvm] at k1'
  generalize ZLs Sn sc R u = l at *
  generalize ZRs Sn sc R u = r at *
  have h40 := hZ.2.2
  have hn8 : ∀ v, v < vm → isN (R u 7 v).toNat ∧ 0 < R u 7 v := fun v hv => n2 v (by omega)
  refine c_beginPage hp (fun m1 J1 a1 a2 => ⟨hp, ?_⟩)
  refine c_nameAll (vm := vm) (nm := R u 7) hp ko (by omega) a1 ((a2.1 _ _ (by omega) (by omega) (by omega)).trans (hvar.trans (by omega))) (by omega) (fun v hv => ⟨(a2.2 _ _ (by omega)).trans (hnam v (by omega)), (hn8 v hv).2⟩) (fun J2 b1 b2 => ⟨hp, b, hP, kb, ?_⟩)
  have F1 : wcF m J m1 J2 := wcF_trans a2 ⟨fun _ _ _ _ _ => rfl, b2⟩
  have hrow := hRB.2.1
  obtain ⟨hr1, hr2⟩ := Ro_app.mp hrow
  rw [Nat.zero_add] at hr2
  have rc1 : RC (b + 5 + 6 * u + 1) 0 l m1 := Ro_RC (Ro_fr hr1 fun k _ _ => F1.1 _ _ (by omega) (by omega) (by omega)) fun c hc => by have := (hgq c (List.mem_append_left _ hc)).2; omega
  refine c_writeTerm (d := d) (n := 0) (f := 0) (l := l) hp hb (BN_wc hC.1 hb F1) (BA_wc hC.2.1 hb hs F1) ko1 (by omega) (by omega) (by omega) (by omega) (by omega) (fun c hc => hgq c (List.mem_append_left _ hc)) hZ.1.1 rc1 b1 (Wb_nm hn8) (by omega) (fun m3 J3 w1 w2 w3 => ⟨hp, ?_⟩)
  have wl := w2.1.1
  refine c_write hp w1.1 (by omega) (fun m4 v1 v2 => ⟨hp, ?_⟩)
  have w4 := WC_oc w1 v1 v2
  refine c_write hp w4.1 (by dsimp only; rw [List.length_append]; simp only [List.length_cons, List.length_nil]; omega) (fun m5 v3 v4 => ⟨hp, b, hP, kb, ?_⟩)
  have w5 := WC_oc w4 v3 v4
  have F5 : wcF m J m5 J3 := wcF_trans F1 (wcF_trans w3 (wcF_trans (ocF_wc v2) (ocF_wc v4)))
  have rc2 : RC (b + 5 + 6 * u + 1) l.length r m5 := Ro_RC (Ro_fr hr2 fun k _ _ => F5.1 _ _ (by omega) (by omega) (by omega)) fun c hc => by have := (hgq c (List.mem_append_right _ hc)).2; omega
  rw [show m5 (b + 5 + 6 * u) 5 = (l.length : Int) from (F5.1 _ _ (by omega) (by omega) (by omega)).trans hRB.1.1]
  refine c_writeTerm (d := d) (n := 0 + l.length + 1 + 1) (f := l.length) (l := r) hp hb (BN_wc hC.1 hb F5) (BA_wc hC.2.1 hb hs F5) ko1 (by omega) (by omega) (by omega) (by omega) (by omega) (fun c hc => hgq c (List.mem_append_right _ hc)) hZ.1.2 rc2 w5 (Wb_add (Wb_add w2 (by simp) (by omega)) (by simp) (by omega)) (by omega) (fun m6 J6 u1 u2 u3 => ⟨hp, ?_⟩)
  have e := u1.1.1
  rw [show m6 50 1 = _ from e]
  exact k1' m6 J6 u1 (wcF_trans F5 u3)
end CSH
