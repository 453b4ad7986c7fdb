/-! OUT: VALUES; class and reference -/
section OSV
variable {X : aX} {d : Nat} {P : Mp} {J J' : Mj} {m m' : Mi} {Sn : Nat → Nat} {sc b s0 : Nat} {ar : Nat → Int} {nm : Nat → Int}
theorem nvL_ok {N : Nat} (hN : ∀ v, v < N → isN (nm v).toNat ∧ 0 < nm v) : ∀ {vs : List (List Int)} {v : Nat} {L : Nat → Int}, v + vs.length = N → (∀ u, 0 ≤ L u ∧ (0 < L u → isN (L u).toNat)) → ∀ u, 0 ≤ nvL nm vs v L u ∧ (0 < nvL nm vs v L u → isN (nvL nm vs v L u).toNat)
  | [], _, _, _, h => h
  | w :: vs, v, L, hv, h => by
    rw [List.length_cons] at hv
    rw [nvL]
    refine nvL_ok hN (by omega) fun u => ?_
    split
    · unfold lup
      split
      · have := hN v (by omega)
        exact ⟨by omega, fun _ => this.1⟩
      · exact h u
    · exact h u
theorem c_nameValues {x nx f o N : Nat} {vs : List (List Int)} (hp : PP P) (hb : b = 54 ∨ b = 155) (hA : BA b sc ar m) (hs : sc ≤ 16) (kx : am_kd an_K x = some (.inr (0, nx))) (bx : nx ≤ 100000) (ko : am_kd an_K o = some (.inl 8)) (ho : o + 5 ≠ 52) (hN8 : N ≤ 6) (hv : m o 7 = (N : Int)) (hJ : ∀ v, v < N → J (o + 5) v = cN (nm v).toNat) (hN : ∀ v, v < N → isN (nm v).toNat ∧ 0 < nm v) (hlen : vs.length = N) (hf : f + tln vs ≤ nx) (hok : ∀ w, w ∈ vs → okw sc ar w) (hR : RCl x m f vs) (h : WC W0 m J) {post : Mi → Mj → Mp → Prop} (k : ∀ J', WC ([], nvL nm vs 0 (fun _ => 0), 0) m J' → (∀ a k, a ≠ 52 → J' a k = J a k) → post m J' P) : Cv X (d + 2) 95 [.ref 50, .ref x, .int (iz (f : Int)), .ref o, .ref b] m J P post := by
  have kb := kd_book hb
  have loop : ∀ (us : List (List Int)) (v g : Nat) (L : Nat → Int) (J1 : Mj), v + us.length = N → g + tln us ≤ nx → (∀ w, w ∈ us → okw sc ar w) → RCl x m g us → (∀ u, 0 ≤ L u ∧ (0 < L u → isN (L u).toNat)) → (∀ u, u < 800 → J1 52 u = lbC (L u)) → (∀ a k, a ≠ 52 → J1 a k = J a k) → nvL nm vs 0 (fun _ => 0) = nvL nm us v L → Rn X (d + 2) 95 6 [some (.ref 50), some (.ref x), some (.int (iz (f : Int))), some (.ref o), some (.ref b), some (.int (iz (g : Int))), some (.int (iz (v : Int))), none] [] (SS m J1 P) (QV post) := by
    intro us
    induction us with
    | nil =>
      intro v g L J1 h1 h2 h3 h4 h5 h6 h7 e
      rw [List.length_nil] at h1
      refine b_Page_nameValues_6 x nx f o b g v kx bx ko kb m J1 P hp post ?_
      rw [hv]
      refine ⟨by constructor <;> omega, by constructor <;> omega, fun _ => ?_, fun q => absurd (by omega) q⟩
      refine k J1 ⟨h.1, h.2.1, fun u hu => ?_⟩ h7
      show J1 52 u = lbC (nvL nm vs 0 (fun _ => 0) u)
      rw [e]
      exact h6 u hu
    | cons w us ih =>
      intro v g L J1 h1 h2 h3 h4 h5 h6 h7 e
      rw [List.length_cons] at h1
      rw [tln] at h2
      have hw := h3 w List.mem_cons_self
      have hw0 := ct_ne hw.1
      have hc := hw.2.2 _ (cl_0 hw0)
      have hpl := h4.1 0 hw0
      rw [Nat.add_zero] at hpl
      have hc1 := hc.1
      have hc2 := hc.2
      have ni : (v : Int) + 1 = ((v + 1 : Nat) : Int) := rfl
      have nx1 : ∀ (J2 : Mj) (L2 : Nat → Int), (∀ u, 0 ≤ L2 u ∧ (0 < L2 u → isN (L2 u).toNat)) → (∀ u, u < 800 → J2 52 u = lbC (L2 u)) → (∀ a k, a ≠ 52 → J2 a k = J a k) → nvL nm vs 0 (fun _ => 0) = nvL nm us (v + 1) L2 → Ci X (d + 1) 96 [.ref b, .ref x, .int (iz (g : Int))] m J2 P (fun z10 m7 J8 P9 => PP P9 ∧ Rn X (d + 2) 95 6 [some (.ref 50), some (.ref x), some (.int (iz (f : Int))), some (.ref o), some (.ref b), some (.int (iz z10)), some (.int (iz ((v : Int) + 1))), none] [] (SS m7 J8 P9) (QV post)) := fun J2 L2 q1 q2 q3 q4 => by
        refine c_behind hp kb hA hs kx bx (by omega) hw.2.2 hw.1 h4.1 ⟨hp, ?_⟩
        rw [ni]
        exact ih (v + 1) (g + w.length) L2 J2 (by omega) (by omega) (fun w' hw' => h3 w' (List.mem_cons_of_mem _ hw')) h4.2 q1 q2 q3 q4
      rw [nvL] at e
      refine b_Page_nameValues_6 x nx f o b g v kx bx ko kb m J1 P hp post ?_
      rw [hv, Int.toNat_natCast]
      generalize hz : m x g = z at hpl ⊢
      have hzb : -800 ≤ z ∧ z < 64 := by
        by_cases q : cl w 0 < 0
        · have := hpl.1 q; omega
        · have := hpl.2 (by omega); omega
      refine ⟨by constructor <;> omega, by constructor <;> omega, fun q => absurd q (by omega), fun _ => ⟨by constructor <;> omega, by constructor <;> omega, fun q => absurd q (by omega), fun _ => ⟨by omega, by constructor <;> omega, fun q => ?_, fun q => ?_⟩⟩⟩
      · have hnc : ¬ cl w 0 < 0 := fun q2 => by have := hpl.1 q2; omega
        rw [if_neg (fun q2 => hnc q2.1)] at e
        exact nx1 J1 L h5 h6 h7 e
      · have hcn : cl w 0 < 0 := by
          apply Classical.byContradiction
          intro q2
          have := hpl.2 (by omega)
          omega
        have ez := hpl.1 hcn
        rw [← ez] at e
        obtain ⟨u, hu⟩ : ∃ u : Nat, (-1) - z = (u : Int) := ⟨(-1 - z).toNat, by omega⟩
        have hu8 : u < 800 := by omega
        rw [hu, Int.toNat_natCast, h6 u hu8]
        rw [show (-1 - z).toNat = u by omega] at e
        refine ⟨by omega, zcmp_zr _ _, fun q2 => ?_, fun q2 => ⟨by omega, by omega, ?_⟩⟩
        · rw [lbC_z (h5 u).1 (h5 u).2] at q2
          rw [if_neg (fun q3 => q2 q3.2)] at e
          exact nx1 J1 L h5 h6 h7 e
        · have q3 := (lbC_z (h5 u).1 (h5 u).2).mp (Classical.not_not.mp q2)
          rw [if_pos ⟨by omega, q3⟩] at e
          have hnv := hN v (by omega)
          refine nx1 _ (lup L u (nm v)) (fun u2 => ?_) (fun u2 hu2 => ?_) (fun a k g1 => (mju_ne _ _ (by omega)).trans (h7 a k g1)) e
          · unfold lup
            split
            · exact ⟨by omega, fun _ => hnv.1⟩
            · exact h5 u2
          · unfold lup
            by_cases q4 : u2 = u
            · rw [q4, mju_at, if_pos rfl, Int.toNat_natCast, h7 _ _ ho, hJ v (by omega)]
              unfold lbC
              rw [if_pos hnv.2]
            · rw [mju_ne _ _ (by omega), if_neg q4]
              exact h6 u2 hu2
  exact Cv.of rfl rfl rfl (b_Page_nameValues_0 x nx f o b kx bx ko kb m J P hp post (loop vs 0 f (fun _ => 0) J (by omega) hf hok hR (fun u => ⟨Int.le_refl 0, fun g => absurd g (Int.lt_irrefl 0)⟩) h.2.2 (fun _ _ _ => rfl) rfl))
theorem r_namesOf {x nx y ny z nz f g0 N : Nat} {vs : List (List Int)} (hp : PP P) (kx : am_kd an_K x = some (.inr (0, nx))) (bx : nx ≤ 100000) (ky : am_kd an_K y = some (.inr (0, ny))) (bY : ny ≤ 100000) (kz : am_kd an_K z = some (.inr (3, nz))) (bz : nz ≤ 100000) (hz : z ≠ 348) (hN8 : N ≤ 6) (hnz : N ≤ nz) (hg0 : g0 + N ≤ ny) (hy : ∀ v, (h : v < vs.length) → m y (g0 + v) = (vs[v].length : Int)) (hJ : ∀ v, v < N → J z v = rN (nm v).toNat) (hN : ∀ v, v < N → isN (nm v).toNat ∧ 0 < nm v) (hlen : vs.length = N) (hf : f + tln vs ≤ nx) (hok : ∀ w, w ∈ vs → okw sc ar w) (hR : RDl x m f vs) (h : WR W0 m J) {post : Mi → Mj → Mp → Prop} (k : ∀ J', WR ([], nvL nm vs 0 (fun _ => 0), 0) m J' → (∀ a k, a ≠ 348 → J' a k = J a k) → post m J' P) : Cv X d 197 [.ref 262, .ref x, .int (iz (f : Int)), .ref y, .int (iz (g0 : Int)), .int (iz (N : Int)), .ref z] m J P post := by
  have loop : ∀ (us : List (List Int)) (v g : Nat) (L : Nat → Int) (J1 : Mj), v + us.length = N → g + tln us ≤ nx → (∀ w, w ∈ us → okw sc ar w) → (∀ i, (h : i < us.length) → m y (g0 + v + i) = (us[i].length : Int)) → RDl x m g us → (∀ u, 0 ≤ L u ∧ (0 < L u → isN (L u).toNat)) → (∀ u, u < 800 → J1 348 u = if 0 < L u then rN (L u).toNat else 0) → (∀ a k, a ≠ 348 → J1 a k = J a k) → nvL nm vs 0 (fun _ => 0) = nvL nm us v L → Rn X d 197 6 [some (.ref 262), some (.ref x), some (.int (iz (f : Int))), some (.ref y), some (.int (iz (g0 : Int))), some (.int (iz (N : Int))), some (.ref z), some (.int (iz (g : Int))), some (.int (iz (v : Int)))] [] (SS m J1 P) (QV post) := by
    intro us
    induction us with
    | nil =>
      intro v g L J1 h1 h2 h3 hl h4 h5 h6 h7 e
      rw [List.length_nil] at h1
      refine b_Mdl_namesOf_6 x nx f y ny g0 N z nz g v kx bx ky bY kz bz m J1 P hp post ⟨by constructor <;> omega, by constructor <;> omega, fun _ => ?_, fun q => absurd (by omega) q⟩
      have hL := nvL_ok (nm := nm) (N := N) hN (vs := vs) (v := 0) (L := fun _ => 0) (by omega) fun u => ⟨Int.le_refl 0, fun g => absurd g (Int.lt_irrefl 0)⟩
      refine k J1 ⟨h.1, h.2.1, fun u hu => ?_⟩ h7
      show J1 348 u = (if 0 < nvL nm vs 0 (fun _ => 0) u then rN (nvL nm vs 0 (fun _ => 0) u).toNat else 0) ∧ m 349 u = if nvL nm vs 0 (fun _ => 0) u < 0 then -(nvL nm vs 0 (fun _ => 0) u) else 0
      have h0 := (h.2.2 u hu).2
      have hn : ¬ nvL nm vs 0 (fun _ => 0) u < 0 := by have := (hL u).1; omega
      rw [if_neg hn]
      rw [show W0.2.1 u = 0 from rfl, if_neg (by decide)] at h0
      refine ⟨?_, h0⟩
      rw [e]
      exact h6 u hu
    | cons w us ih =>
      intro v g L J1 h1 h2 h3 hl h4 h5 h6 h7 e
      rw [List.length_cons] at h1
      rw [tln] at h2
      have hw := h3 w List.mem_cons_self
      have hw0 := ct_ne hw.1
      have hc := hw.2.2 _ (cl_0 hw0)
      have hpl := h4.1 0 hw0
      rw [Nat.add_zero] at hpl
      have hc1 := hc.1
      have hc2 := hc.2
      have ni : (v : Int) + 1 = ((v + 1 : Nat) : Int) := rfl
      have hlv : m y (g0 + v) = (w.length : Int) := hl 0 (by rw [List.length_cons]; omega)
      have eg : ((g0 : Int) + (v : Int)).toNat = g0 + v := by omega
      have hw200 := hw.2.1
      have nx1 : ∀ (J2 : Mj) (L2 : Nat → Int), (∀ u, 0 ≤ L2 u ∧ (0 < L2 u → isN (L2 u).toNat)) → (∀ u, u < 800 → J2 348 u = if 0 < L2 u then rN (L2 u).toNat else 0) → (∀ a k, a ≠ 348 → J2 a k = J a k) → nvL nm vs 0 (fun _ => 0) = nvL nm us (v + 1) L2 → Rn X d 197 6 [some (.ref 262), some (.ref x), some (.int (iz (f : Int))), some (.ref y), some (.int (iz (g0 : Int))), some (.int (iz (N : Int))), some (.ref z), some (.int (iz ((g : Int) + (w.length : Int)))), some (.int (iz ((v : Int) + 1)))] [] (SS m J2 P) (QV post) := fun J2 L2 q1 q2 q3 q4 => by
        rw [ni, show (g : Int) + (w.length : Int) = ((g + w.length : Nat) : Int) by omega]
        exact ih (v + 1) (g + w.length) L2 J2 (by omega) (by omega) (fun w' hw' => h3 w' (List.mem_cons_of_mem _ hw')) (fun i hi => by have := hl (i + 1) (by rw [List.length_cons]; omega); rw [show g0 + (v + 1) + i = g0 + v + (i + 1) by omega]; exact this) h4.2 q1 q2 q3 q4
      rw [nvL] at e
      have h1v : cl w 0 < 0 → w.length = 1 := fun q => by
        cases w with
        | nil => exact absurd hw0 (Nat.lt_irrefl _)
        | cons c r =>
          obtain ⟨j, j1, j2, j3⟩ := ct_cons.mp hw.1
          rw [ayw_v c q] at j3
          have j0 : j = 0 := by omega
          rw [j0] at j1
          have hr : r = [] := by
            cases r with
            | nil => rfl
            | cons c' r' => obtain ⟨j', _, _, q⟩ := ct_cons.mp j1; omega
          rw [hr]; rfl
      refine b_Mdl_namesOf_6 x nx f y ny g0 N z nz g v kx bx ky bY kz bz m J1 P hp post ?_
      rw [eg, hlv, Int.toNat_natCast, Int.toNat_natCast]
      generalize hzz : m x g = zz at hpl ⊢
      have hzb : -800 ≤ zz ∧ zz < 128 := by
        by_cases q : cl w 0 < 0
        · have := hpl.1 q; omega
        · have := hpl.2 (by omega); omega
      refine ⟨by constructor <;> omega, by constructor <;> omega, fun q => absurd q (by omega), fun _ => ⟨by omega, by constructor <;> omega, fun q => ⟨by omega, ?_⟩, fun q => ⟨by omega, by constructor <;> omega, fun q2 => ⟨by omega, ?_⟩, fun q2 => ⟨by omega, ?_⟩⟩⟩⟩
      · have hnc : ¬ cl w 0 < 0 := fun q2 => by have := h1v q2; omega
        rw [if_neg (fun q2 => hnc q2.1)] at e
        exact nx1 J1 L h5 h6 h7 e
      · have hnc : ¬ cl w 0 < 0 := fun q3 => by have := hpl.1 q3; omega
        rw [if_neg (fun q2 => hnc q2.1)] at e
        exact nx1 J1 L h5 h6 h7 e
      · have hcn : cl w 0 < 0 := by
          apply Classical.byContradiction
          intro q3
          have := hpl.2 (by omega)
          omega
        have ez := hpl.1 hcn
        rw [← ez] at e
        obtain ⟨u, hu⟩ : ∃ u : Nat, (-1) - zz = (u : Int) := ⟨(-1 - zz).toNat, by omega⟩
        have hu8 : u < 800 := by omega
        rw [hu, Int.toNat_natCast, h6 u hu8]
        rw [show (-1 - zz).toNat = u by omega] at e
        refine ⟨by omega, zcmp_zr _ _, fun q3 => ⟨by omega, ?_⟩, fun q3 => ⟨by omega, by omega, by omega, by omega, ?_⟩⟩
        · rw [rnz_z (h5 u).1 (h5 u).2] at q3
          rw [if_neg (fun q4 => q3 q4.2)] at e
          exact nx1 J1 L h5 h6 h7 e
        · have q4 := (rnz_z (h5 u).1 (h5 u).2).mp (Classical.not_not.mp q3)
          rw [if_pos ⟨by omega, q4⟩] at e
          have hnv := hN v (by omega)
          refine nx1 _ (lup L u (nm v)) (fun u2 => ?_) (fun u2 hu2 => ?_) (fun a k g1 => (mju_ne _ _ (by omega)).trans (h7 a k g1)) e
          · unfold lup
            split
            · exact ⟨by omega, fun _ => hnv.1⟩
            · exact h5 u2
          · unfold lup
            by_cases q5 : u2 = u
            · rw [q5, mju_at, if_pos rfl, if_pos hnv.2, h7 _ _ hz, hJ v (by omega)]
            · rw [mju_ne _ _ (by omega), if_neg q5]
              exact h6 u2 hu2
  exact Cv.of rfl rfl rfl (b_Mdl_namesOf_0 x nx f y ny g0 N z nz kx bx ky bY kz bz m J P hp post (loop vs 0 f (fun _ => 0) J (by omega) hf hok (fun i hi => hy i hi) hR (fun u => ⟨Int.le_refl 0, fun g => absurd g (Int.lt_irrefl 0)⟩) (fun u hu => (h.2.2 u hu).1) (fun _ _ _ => rfl) rfl))
end OSV
