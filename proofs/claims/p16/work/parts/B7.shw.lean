/-! OUT: showValues(); class and reference -/
section OSW
variable {X : aX} {d : Nat} {P : Mp} {J J' : Mj} {m m' : Mi} {Sn : Nat → Nat} {sc b : Nat} {ar : Nat → Int} {nm : Nat → Int}
theorem Wb_pre {n : Nat} {s : Ws} {v : Nat} (h : Wb n s) (hn : n + 1 ≤ 3000) : Wb (n + 1) (s.1 ++ ((if v = 0 then [] else [44]) ++ (nbs (nm v).toNat ++ [61])), s.2.1, s.2.2) := by
  have := nbs_len (v := (nm v).toNat)
  have h1 := h.1
  refine ⟨⟨?_, by show s.2.2 ≤ _; omega, hn⟩, h.2⟩
  show (s.1 ++ ((if v = 0 then [] else [44]) ++ (nbs (nm v).toNat ++ [61]))).length ≤ _
  rw [List.length_append, List.length_append, List.length_append, List.length_singleton]
  split
  · rw [List.length_nil]; omega
  · rw [List.length_singleton]; omega
theorem c_showVals {x nx f o N n : Nat} {vs : List (List Int)} {s : Ws} (hp : PP P) (hb : b = 54 ∨ b = 155) (hP : P 1 8 = some b) (hB : BN b Sn sc m J) (hA : BA b sc ar m) (kx : am_kd an_K x = some (.inr (0, nx))) (bx : nx ≤ 100000) (hx : x < 50 ∨ 53 < x) (hxb : x < b ∨ b + 5 ≤ x) (ko : am_kd an_K o = some (.inl 8)) (ho : o + 5 ≠ 52 ∧ o ≠ 50) (hN8 : N ≤ 6) (hv : m o 7 = (N : Int)) (hJ : ∀ v, v < N → J (o + 5) v = cN (nm v).toNat) (hlen : vs.length = N) (hf : f + tln vs ≤ nx) (hok : ∀ w, w ∈ vs → okw sc ar w) (hR : RCl x m f vs) (h : WC s m J) (hw : Wb n s) (hn : n + N + tln vs ≤ 3000) {post : Int → Mi → Mj → Mp → Prop} (k : ∀ m' J', WC (shV nm (ayw ar) Sn vs 0 s) m' J' → wcF m J m' J' → post ((shV nm (ayw ar) Sn vs 0 s).1.length : Int) m' J' P) : Rn X (d + 4) 94 27 [some (.ref 1), some (.ref x), some (.int (iz (f : Int))), some (.ref o), some (.int (iz (f : Int))), some (.int (iz 0))] [] (SS m J P) (QI post) := by
  have kb := kd_book hb
  have hs16 := hB.1.2
  have loop : ∀ (us : List (List Int)) (v g n1 : Nat) (s1 : Ws) (m1 : Mi) (J1 : Mj), v + us.length = N → g + tln us ≤ nx → (∀ w, w ∈ us → okw sc ar w) → RCl x m1 g us → WC s1 m1 J1 → Wb n1 s1 → n1 + us.length + tln us ≤ 3000 → wcF m J m1 J1 → shV nm (ayw ar) Sn vs 0 s = shV nm (ayw ar) Sn us v s1 → Rn X (d + 4) 94 27 [some (.ref 1), some (.ref x), some (.int (iz (f : Int))), some (.ref o), some (.int (iz (g : Int))), some (.int (iz (v : Int)))] [] (SS m1 J1 P) (QI post) := by
    intro us
    induction us with
    | nil =>
      intro v g n1 s1 m1 J1 h1 h2 h3 h4 h5 h6 h7 h8 e
      rw [List.length_nil] at h1
      refine b_Nh_showValues_27 x nx f o g v kx bx ko m1 J1 P hp post ?_
      have ev : m1 o 7 = (N : Int) := (h8.1 _ _ (by intro q; rw [q] at ko; exact absurd ko (by decide +kernel)) (by intro q; rw [q] at ko; exact absurd ko (by decide +kernel)) (by omega)).trans hv
      rw [ev, h5.1.1]
      refine ⟨by constructor <;> omega, by constructor <;> omega, fun _ => ?_, fun q => absurd (by omega) q⟩
      rw [shV] at e
      rw [← e] at h5 ⊢
      exact k m1 J1 h5 h8
    | cons w us ih =>
      intro v g n1 s1 m1 J1 h1 h2 h3 h4 h5 h6 h7 h8 e
      rw [List.length_cons] at h1 h7
      rw [tln] at h2 h7
      have hwk := h3 w List.mem_cons_self
      have ni : (v : Int) + 1 = ((v + 1 : Nat) : Int) := rfl
      have ev : m1 o 7 = (N : Int) := (h8.1 _ _ (by intro q; rw [q] at ko; exact absurd ko (by decide +kernel)) (by intro q; rw [q] at ko; exact absurd ko (by decide +kernel)) (by omega)).trans hv
      have ej : ∀ J2 : Mj, (∀ a k, a ≠ 52 → J2 a k = J1 a k) → J2 (o + 5) v = cN (nm v).toNat := fun J2 q => (q _ _ ho.1).trans ((h8.2 _ _ ho.1).trans (hJ v (by omega)))
      have hb1 := Wb_pre (nm := nm) (v := v) h6 (by omega)
      have hl1 := h6.1
      have nl8 := nbs_len (v := (nm v).toNat)
      rw [shV] at e
      -- behind the comma
      have go : ∀ (m2 : Mi), OC (s1.1 ++ (if v = 0 then [] else [44])) m2 → ocF m1 m2 → Cv X (d + 3) 86 [.ref 50, .long (J1 (o + 5) (v : Int).toNat)] m2 J1 P (fun m5 J6 P7 => PP P7 ∧ Cv X (d + 3) 87 [.ref 50, .int (iz 61)] m5 J6 P7 (fun m10 J11 P12 => PP P12 ∧ (∃ q15, P12 1 8 = some q15 ∧ am_kd an_K q15 = some (.inl 10) ∧ Ci X (d + 3) 84 [.ref 50, .ref x, .int (iz (g : Int)), .ref q15] m10 J11 P12 (fun z19 m16 J17 P18 => PP P18 ∧ Rn X (d + 4) 94 27 [some (.ref 1), some (.ref x), some (.int (iz (f : Int))), some (.ref o), some (.int (iz z19)), some (.int (iz ((v : Int) + 1)))] [] (SS m16 J17 P18) (QI post))))) := fun m2 q1 q2 => by
        have ll : (s1.1 ++ (if v = 0 then [] else [44])).length ≤ s1.1.length + 1 := by
          rw [List.length_append]
          split
          · rw [List.length_nil]; omega
          · rw [List.length_singleton]; omega
        rw [Int.toNat_natCast, ej J1 fun _ _ _ => rfl]
        refine c_writeName (d := d + 2) hp q1 (by omega) fun m3 v1 v2 => ⟨hp, c_write hp v1 (by rw [List.length_append]; omega) fun m4 w1 w2 => ⟨hp, b, hP, kb, ?_⟩⟩
        have F4 : ocF m1 m4 := ocF_trans q2 (ocF_trans v2 w2)
        have el : s1.1 ++ (if v = 0 then [] else [44]) ++ nbs (nm v).toNat ++ [61] = s1.1 ++ ((if v = 0 then [] else [44]) ++ (nbs (nm v).toNat ++ [61])) := by rw [List.append_assoc, List.append_assoc]
        rw [el] at w1
        have hW4 := WC_oc h5 w1 F4
        have F40 := wcF_trans h8 (ocF_wc (J := J1) F4)
        have hB4 : BN b Sn sc m4 J1 := ⟨⟨(F40.1 _ _ (by omega) (by omega) (by omega)).trans hB.1.1, hB.1.2⟩, fun i hi => ⟨(F40.2 _ _ (by omega)).trans (hB.2 i hi).1, (hB.2 i hi).2⟩⟩
        have hA4 : BA b sc ar m4 := BA_fr hA hs16 fun k _ => F40.1 _ _ (by omega) (by omega) (by omega)
        refine c_writeTerm hp hb hB4 hA4 kx bx hx hxb (by omega) hwk.2.1 hwk.2.2 hwk.1 (RC_fr h4.1 fun i hi => F4 _ _ (by omega) (by omega)) hW4 hb1 (by omega) fun m5 J5 u1 u2 u3 => ⟨hp, ?_⟩
        rw [ni]
        refine ih (v + 1) (g + w.length) (n1 + 1 + w.length) _ m5 J5 (by omega) (by omega) (fun w' hw' => h3 w' (List.mem_cons_of_mem _ hw')) (RCl_fr h4.2 fun k => (u3.1 _ _ (by omega) (by omega) (by omega)).trans (F4 _ _ (by omega) (by omega))) u1 u2 (by omega) (wcF_trans F40 u3) e
      refine b_Nh_showValues_27 x nx f o g v kx bx ko m1 J1 P hp post ?_
      rw [ev]
      refine ⟨by constructor <;> omega, by constructor <;> omega, fun q => absurd q (by omega), fun _ => ⟨by constructor <;> omega, fun q => ⟨by omega, ?_⟩, fun q => ?_⟩⟩
      · have := go m1 (by rw [if_pos (by omega), List.append_nil]; exact h5.1) fun _ _ _ _ => rfl
        exact this
      · refine c_write hp h5.1 (by omega) fun m2 q1 q2 => ⟨hp, by omega, ?_⟩
        exact go m2 (by rw [if_neg (by omega)]; exact q1) q2
  exact loop vs 0 f n s m J (by omega) hf hok hR h hw (by omega) ⟨fun _ _ _ _ _ => rfl, fun _ _ _ => rfl⟩ rfl
theorem c_showValues {x nx f o N : Nat} {vs : List (List Int)} (hp : PP P) (hb : b = 54 ∨ b = 155) (hP : P 1 8 = some b) (hB : BN b Sn sc m J) (hA : BA b sc ar m) (kx : am_kd an_K x = some (.inr (0, nx))) (bx : nx ≤ 100000) (hx : x < 50 ∨ 53 < x) (hxb : x < b ∨ b + 5 ≤ x) (ko : am_kd an_K o = some (.inl 8)) (ho : o + 5 ≠ 52 ∧ o ≠ 50) (hN8 : N ≤ 6) (hv : m o 7 = (N : Int)) (hJ : ∀ v, v < N → J (o + 5) v = cN (nm v).toNat) (hN : ∀ v, v < N → isN (nm v).toNat ∧ 0 < nm v) (hlen : vs.length = N) (hf : f + tln vs ≤ nx) (hok : ∀ w, w ∈ vs → okw sc ar w) (hR : RCl x m f vs) (hn : N + tln vs ≤ 3000) {post : Int → Mi → Mj → Mp → Prop} (k : ∀ m' J', WC (shV nm (ayw ar) Sn vs 0 ([], nvL nm vs 0 (fun _ => 0), 0)) m' J' → wcF m J m' J' → post ((shV nm (ayw ar) Sn vs 0 ([], nvL nm vs 0 (fun _ => 0), 0)).1.length : Int) m' J' P) : Ci X (d + 4) 94 [.ref 1, .ref x, .int (iz (f : Int)), .ref o] m J P post := by
  have kb := kd_book hb
  have hs16 := hB.1.2
  have oe1 : o ≠ 51 := by intro q; rw [q] at ko; exact absurd ko (by decide +kernel)
  have oe2 : o ≠ 53 := by intro q; rw [q] at ko; exact absurd ko (by decide +kernel)
  refine Ci.of rfl rfl rfl (b_Nh_showValues_0 x nx f o kx bx ko m J P hp post (c_beginPage hp fun m1 J1 v1 v2 => ⟨hp, b, hP, kb, ?_⟩))
  have e1 : m1 o 7 = (N : Int) := (v2.1 _ _ oe1 oe2 (by omega)).trans hv
  have hB1 : BN b Sn sc m1 J1 := ⟨⟨(v2.1 _ _ (by omega) (by omega) (by omega)).trans hB.1.1, hB.1.2⟩, fun i hi => ⟨(v2.2 _ _ (by omega)).trans (hB.2 i hi).1, (hB.2 i hi).2⟩⟩
  have hA1 : BA b sc ar m1 := BA_fr hA hs16 fun k _ => v2.1 _ _ (by omega) (by omega) (by omega)
  have hJ1 : ∀ v, v < N → J1 (o + 5) v = cN (nm v).toNat := fun v hv => (v2.2 _ _ ho.1).trans (hJ v hv)
  have hR1 : RCl x m1 f vs := RCl_fr hR fun k => v2.1 _ _ (by omega) (by omega) (by omega)
  refine c_nameValues (d := d + 1) hp hb hA1 hs16 kx bx ko ho.1 hN8 e1 hJ1 hN hlen hf hok hR1 v1 fun J2 w1 w2 => ⟨hp, ?_⟩
  have hB2 : BN b Sn sc m1 J2 := ⟨hB1.1, fun i hi => ⟨(w2 _ _ (by omega)).trans (hB1.2 i hi).1, (hB1.2 i hi).2⟩⟩
  have hL := nvL_ok (nm := nm) (N := N) hN (vs := vs) (v := 0) (L := fun _ => 0) (by omega) fun u => ⟨Int.le_refl 0, fun g => absurd g (Int.lt_irrefl 0)⟩
  refine c_showVals (n := 0) hp hb hP hB2 hA1 kx bx hx hxb ko ho hN8 e1 (fun v hv => (w2 _ _ ho.1).trans (hJ1 v hv)) hlen hf hok hR1 w1 ⟨⟨Nat.le_refl _, Nat.le_refl _, by decide⟩, fun u => ⟨(hL u).2, (hL u).1⟩⟩ (by omega) fun m3 J3 u1 u2 => ?_
  exact k m3 J3 u1 (wcF_trans v2 (wcF_trans (J' := J2) ⟨fun _ _ _ _ _ => rfl, w2⟩ u2))
theorem r_showVals {x nx y ny z nz f g0 N n : Nat} {vs : List (List Int)} {s : Ws} (hp : PP P) (hK : RK sc Sn ar m J) (kx : am_kd an_K x = some (.inr (0, nx))) (bx : nx ≤ 100000) (hx : (x < 262 ∨ (280 < x ∧ x < 299)) ∨ (299 < x ∧ x < 347)) (ky : am_kd an_K y = some (.inr (0, ny))) (bY : ny ≤ 100000) (hyx : (y < 262 ∨ (280 < y ∧ y < 299)) ∨ (299 < y ∧ y < 347)) (kz : am_kd an_K z = some (.inr (3, nz))) (bz : nz ≤ 100000) (hz : z ≠ 348) (hN8 : N ≤ 6) (hnz : N ≤ nz) (hg0 : g0 + N ≤ ny) (hy : ∀ v, (h : v < vs.length) → m y (g0 + v) = (vs[v].length : Int)) (hJ : ∀ v, v < N → J z v = rN (nm v).toNat) (hN : ∀ v, v < N → isN (nm v).toNat ∧ 0 < nm v) (hlen : vs.length = N) (hf : f + tln vs ≤ nx) (hok : ∀ w, w ∈ vs → okw sc ar w) (hR : RDl x m f vs) (h : WR s m J) (hw : Wb n s) (hn : n + N + tln vs ≤ 3000) {post : Mi → Mj → Mp → Prop} (k : ∀ m', WR (shV nm (ayw ar) Sn vs 0 s) m' J → wrF_ m J m' J → post m' J P) : Rn X (d + 4) 196 19 [some (.ref 262), some (.ref x), some (.int (iz (f : Int))), some (.ref y), some (.int (iz (g0 : Int))), some (.int (iz (N : Int))), some (.ref z), some (.int (iz (f : Int))), some (.int (iz 0))] [] (SS m J P) (QV post) := by
  have loop : ∀ (us : List (List Int)) (v g n1 : Nat) (s1 : Ws) (m1 : Mi), v + us.length = N → g + tln us ≤ nx → (∀ w, w ∈ us → okw sc ar w) → (∀ i, (h : i < us.length) → m y (g0 + v + i) = (us[i].length : Int)) → RDl x m1 g us → WR s1 m1 J → Wb n1 s1 → n1 + us.length + tln us ≤ 3000 → wrF_ m J m1 J → shV nm (ayw ar) Sn vs 0 s = shV nm (ayw ar) Sn us v s1 → Rn X (d + 4) 196 19 [some (.ref 262), some (.ref x), some (.int (iz (f : Int))), some (.ref y), some (.int (iz (g0 : Int))), some (.int (iz (N : Int))), some (.ref z), some (.int (iz (g : Int))), some (.int (iz (v : Int)))] [] (SS m1 J P) (QV post) := by
    intro us
    induction us with
    | nil =>
      intro v g n1 s1 m1 h1 h2 h3 hl h4 h5 h6 h7 h8 e
      rw [List.length_nil] at h1
      refine b_Mdl_showValues_19 x nx f y ny g0 N z nz g v kx bx ky bY kz bz m1 J P hp post ⟨by constructor <;> omega, by constructor <;> omega, fun _ => ?_, fun q => absurd (by omega) q⟩
      rw [shV] at e
      rw [← e] at h5
      exact k m1 h5 h8
    | cons w us ih =>
      intro v g n1 s1 m1 h1 h2 h3 hl h4 h5 h6 h7 h8 e
      rw [List.length_cons] at h1 h7
      rw [tln] at h2 h7
      have hwk := h3 w List.mem_cons_self
      have ni : (v : Int) + 1 = ((v + 1 : Nat) : Int) := rfl
      have hlv : m y (g0 + v) = (w.length : Int) := hl 0 (by rw [List.length_cons]; omega)
      have eg : ((g0 : Int) + (v : Int)).toNat = g0 + v := by omega
      have hnv := hN v (by omega)
      have hb1 := Wb_pre (nm := nm) (v := v) h6 (by omega)
      have hl1 := h6.1
      have nl8 := nbs_len (v := (nm v).toNat)
      have w200 := hwk.2.1
      rw [shV] at e
      have go : ∀ (m2 : Mi), OR (s1.1 ++ (if v = 0 then [] else [44])) m2 → orF m1 m2 → Cv X (d + 3) 191 [.ref 262, .long (J z (v : Int).toNat)] m2 J P (fun m5 J6 P7 => PP P7 ∧ Cv X (d + 3) 193 [.ref 262, .int (iz 61)] m5 J6 P7 (fun m10 J11 P12 => PP P12 ∧ ((0 : Int) ≤ ((g0 : Int) + (v : Int)) ∧ (((g0 : Int) + (v : Int)) : Int) < ny) ∧ Cv X (d + 3) 189 [.ref 262, .ref x, .int (iz (g : Int)), .int (iz (m10 y ((g0 : Int) + (v : Int)).toNat))] m10 J11 P12 (fun m16 J17 P18 => PP P18 ∧ ((0 : Int) ≤ ((g0 : Int) + (v : Int)) ∧ (((g0 : Int) + (v : Int)) : Int) < ny) ∧ Rn X (d + 4) 196 19 [some (.ref 262), some (.ref x), some (.int (iz (f : Int))), some (.ref y), some (.int (iz (g0 : Int))), some (.int (iz (N : Int))), some (.ref z), some (.int (iz ((g : Int) + (m16 y ((g0 : Int) + (v : Int)).toNat)))), some (.int (iz ((v : Int) + 1)))] [] (SS m16 J17 P18) (QV post)))) := fun m2 q1 q2 => by
        have ll : (s1.1 ++ (if v = 0 then [] else [44])).length ≤ s1.1.length + 1 := by
          rw [List.length_append]
          split
          · rw [List.length_nil]; omega
          · rw [List.length_singleton]; omega
        rw [Int.toNat_natCast, hJ v (by omega), eg]
        refine r_putName (d := d + 2) hp hnv.1 q1 (by omega) fun m3 v1 v2 => ⟨hp, r_put hp v1 (by rw [List.length_append]; omega) (by decide) fun m4 w1 w2 => ⟨hp, by omega, ?_⟩⟩
        have F4 : orF m1 m4 := orF_trans q2 (orF_trans v2 w2)
        have el : s1.1 ++ (if v = 0 then [] else [44]) ++ nbs (nm v).toNat ++ [61] = s1.1 ++ ((if v = 0 then [] else [44]) ++ (nbs (nm v).toNat ++ [61])) := by rw [List.append_assoc, List.append_assoc]
        rw [el] at w1
        have hW4 := WR_or h5 w1 F4
        have F40 := wrF__trans h8 (orF_wr (J := J) F4)
        have hK4 : RK sc Sn ar m4 J := ⟨⟨(F40.1 _ _ (by decide) (by decide) (by decide) (by decide)).trans hK.1.1, hK.1.2⟩, hK.2.1, fun i hi => ⟨(F40.1 _ _ (by decide) (by decide) (by decide) (by omega)).trans (hK.2.2 i hi).1, (hK.2.2 i hi).2⟩⟩
        rw [F40.1 _ _ (by omega) (by omega) (by omega) (by omega), hlv]
        refine r_showRow hp hK4 kx bx hx (by omega) hwk.2.1 hwk.2.2 hwk.1 (RD_fr h4.1 fun i hi => F4 _ _ (by omega) (by omega)) hW4 hb1 (by omega) fun m5 u1 u2 u3 => ⟨hp, by omega, ?_⟩
        have F50 := wrF__trans F40 u3
        rw [F50.1 _ _ (by omega) (by omega) (by omega) (by omega), hlv, ni, show (g : Int) + (w.length : Int) = ((g + w.length : Nat) : Int) by omega]
        exact ih (v + 1) (g + w.length) (n1 + 1 + w.length) _ m5 (by omega) (by omega) (fun w' hw' => h3 w' (List.mem_cons_of_mem _ hw')) (fun i hi => by have := hl (i + 1) (by rw [List.length_cons]; omega); rw [show g0 + (v + 1) + i = g0 + v + (i + 1) by omega]; exact this) (RDl_fr h4.2 fun k => (u3.1 _ _ (by omega) (by omega) (by omega) (by omega)).trans (F4 _ _ (by omega) (by omega))) u1 u2 (by omega) F50 e
      refine b_Mdl_showValues_19 x nx f y ny g0 N z nz g v kx bx ky bY kz bz m1 J P hp post ⟨by constructor <;> omega, by constructor <;> omega, fun q => absurd q (by omega), fun _ => ⟨by constructor <;> omega, fun q => ⟨by omega, ?_⟩, fun q => ?_⟩⟩
      · exact go m1 (by rw [if_pos (by omega), List.append_nil]; exact h5.1) fun _ _ _ _ => rfl
      · refine r_put hp h5.1 (by omega) (by decide) fun m2 q1 q2 => ⟨hp, by omega, ?_⟩
        exact go m2 (by rw [if_neg (by omega)]; exact q1) q2
  exact loop vs 0 f n s m (by omega) hf hok (fun i hi => hy i hi) hR h hw (by omega) ⟨fun _ _ _ _ _ _ => rfl, fun _ _ _ => rfl⟩ rfl
theorem r_showValues {x nx y ny z nz f g0 N : Nat} {vs : List (List Int)} (hp : PP P) (hK : RK sc Sn ar m J) (kx : am_kd an_K x = some (.inr (0, nx))) (bx : nx ≤ 100000) (hx : (x < 262 ∨ (280 < x ∧ x < 299)) ∨ (299 < x ∧ x < 347)) (ky : am_kd an_K y = some (.inr (0, ny))) (bY : ny ≤ 100000) (hyx : (y < 262 ∨ (280 < y ∧ y < 299)) ∨ (299 < y ∧ y < 347)) (kz : am_kd an_K z = some (.inr (3, nz))) (bz : nz ≤ 100000) (hz : z ≠ 348) (hN8 : N ≤ 6) (hnz : N ≤ nz) (hg0 : g0 + N ≤ ny) (hy : ∀ v, (h : v < vs.length) → m y (g0 + v) = (vs[v].length : Int)) (hJ : ∀ v, v < N → J z v = rN (nm v).toNat) (hN : ∀ v, v < N → isN (nm v).toNat ∧ 0 < nm v) (hlen : vs.length = N) (hf : f + tln vs ≤ nx) (hok : ∀ w, w ∈ vs → okw sc ar w) (hR : RDl x m f vs) (h : WR W0 m J) (hn : N + tln vs ≤ 3000) {post : Mi → Mj → Mp → Prop} (k : ∀ m' J', WR (shV nm (ayw ar) Sn vs 0 ([], nvL nm vs 0 (fun _ => 0), 0)) m' J' → wrF_ m J m' J' → post m' J' P) : Cv X (d + 4) 196 [.ref 262, .ref x, .int (iz (f : Int)), .ref y, .int (iz (g0 : Int)), .int (iz (N : Int)), .ref z] m J P post := by
  have kz348 : am_kd an_K 348 = some (.inr (3, 800)) := by decide +kernel
  refine Cv.of rfl rfl rfl (b_Mdl_showValues_0 x nx f y ny g0 N z nz kx bx ky bY kz bz m J P hp post (r_namesOf hp kx bx ky bY kz bz hz hN8 hnz hg0 hy hJ hN hlen hf hok hR h fun J2 w1 w2 => ⟨hp, ?_⟩))
  have hL := nvL_ok (nm := nm) (N := N) hN (vs := vs) (v := 0) (L := fun _ => 0) (by omega) fun u => ⟨Int.le_refl 0, fun g => absurd g (Int.lt_irrefl 0)⟩
  have hK2 : RK sc Sn ar m J2 := ⟨hK.1, fun i hi => ⟨(w2 _ _ (by decide)).trans (hK.2.1 i hi).1, (hK.2.1 i hi).2⟩, hK.2.2⟩
  refine r_showVals (n := 0) hp hK2 kx bx hx ky bY hyx kz bz hz hN8 hnz hg0 hy (fun v hv => (w2 _ _ hz).trans (hJ v hv)) hN hlen hf hok hR w1 ⟨⟨Nat.le_refl _, Nat.le_refl _, by decide⟩, fun u => ⟨(hL u).2, (hL u).1⟩⟩ (by omega) fun m3 u1 u2 => ?_
  exact k m3 J2 u1 ⟨u2.1, w2⟩
end OSW
