/-! a SYSTEM as it stands, in class and reference -/
section CSY
variable {X : aX} {d : Nat} {P : Mp} {J J' : Mj} {m m' : Mi} {ar : Nat → Int} {Sn : Nat → Nat} {sc N b : Nat} {R : Nat → Mi} {Z : Mi} {cd : Nat → Int} {nx pt : Nat → Nat}
/-- the places of a row are the places of its TERMS -/
theorem nl_Tm {ay : Int → Nat} {f0 sz E : Nat} (hT : Tm nx pt f0 sz) (hE : sz ≤ E) (hy : ∀ c, f0 ≤ c → c < sz → ay (cd c) = pt c) {c : Nat} (h1 : f0 ≤ c) (h2 : c < sz) : nl ay (sgl cd 0 E) c = nx c := by
  obtain ⟨g1, g2, _⟩ := hT.2.2 c h1 h2
  have ht := ct_ch hT.2.2 hy _ 1 c (nx c) (Nat.le_refl _) h1 g2 ⟨g1, Nat.le_refl _, rfl⟩
  have e : sgl cd 0 E = sgl cd 0 c ++ (sgl cd c (nx c - c) ++ sgl cd (nx c) (E - nx c)) := by
    have a1 := sgl_app (cd := cd) (i := c) (j := E - c) (a := 0)
    have a2 := sgl_app (cd := cd) (i := nx c - c) (j := E - nx c) (a := c)
    rw [Nat.zero_add] at a1
    rw [show c + (nx c - c) = nx c by omega, show nx c - c + (E - nx c) = E - c by omega] at a2
    rw [show c + (E - c) = E by omega] at a1
    rw [a1, a2]
  have := nl_of e ht
  rw [sgl_len, sgl_len] at this
  omega
theorem EQ_RB {o : Nat} (h : EQ o Sn sc Z m J) (hz : ∀ c : Nat, (c : Int) < Z 0 3 → 0 ≤ Z 5 c) (h7 : 0 ≤ Z 0 7) (hO : RO sc ar (Z 0 7).toNat (Z 0 3).toNat (cdZ Sn sc Z) (nxY Z) (ptY Z)) (hs : sc ≤ 16) (hN : ∀ c, c < (Z 0 3).toNat → Z 1 c < 0 → 0 ≤ sfi Sn (Z 2 c).toNat 0 sc) : RB o (ayw ar) (ZL Sn sc Z) (ZR Sn sc Z) m := by
  have hL := RO_lists hO hs
  obtain ⟨_, _, _, _, _, _, _, e1, e2⟩ := hL
  have hLE := Rw_LE hO.1
  have e : ZL Sn sc Z ++ ZR Sn sc Z = sgl (cdZ Sn sc Z) 0 (Z 0 3).toNat := by
    unfold ZL ZR
    have := sgl_app (cd := cdZ Sn sc Z) (i := (Z 0 7).toNat) (j := (Z 0 3).toNat - (Z 0 7).toNat) (a := 0)
    rw [Nat.zero_add] at this
    rw [← this]
    congr 1; omega
  have hy : ∀ c, c < (Z 0 3).toNat → ayw ar (cdZ Sn sc Z c) = ptY Z c := fun c hc => by
    obtain ⟨hR, ⟨h1, h2⟩, h3, h4, h5⟩ := hO
    refine ayw_cd (fun g => hR.2.2.1 c hc g) fun g => ?_
    obtain ⟨g1, g2⟩ := h5 c hc g
    exact ⟨by omega, g2⟩
  refine ⟨⟨?_, ?_⟩, EQ_code h hO hN, fun c hc => ?_⟩
  · rw [h.2.1, e1]
    omega
  · have := h.1.1
    rw [this, e2]
    omega
  · rw [e2] at hc
    have hn := (h.1.2.1 c (by omega)).2.1
    have h0 := hz c (by omega)
    rw [hn, e]
    have hx : nl (ayw ar) (sgl (cdZ Sn sc Z) 0 (Z 0 3).toNat) c = nxY Z c := by
      by_cases g : c < (Z 0 7).toNat
      · exact nl_Tm hO.1.1 (by omega) (fun c _ h => hy c (by omega)) (Nat.zero_le _) g
      · exact nl_Tm hO.1.2.1 (Nat.le_refl _) (fun c _ h => hy c h) (by omega) hc
    rw [hx]
    unfold nxY
    omega
/-- both sides of all RULES -/
def ZLs (Sn : Nat → Nat) (sc : Nat) (R : Nat → Mi) (u : Nat) : List Int := ZL Sn sc (R u)
def ZRs (Sn : Nat → Nat) (sc : Nat) (R : Nat → Mi) (u : Nat) : List Int := ZR Sn sc (R u)
theorem Sq_ar (hS : Sq sc Sn ar N R) : arK sc ar := ⟨hS.1.1, fun i hi => (hS.2.1 i hi).2⟩
theorem Sq_ZK (hS : Sq sc Sn ar N R) : ∀ u, u < N → ZK sc ar (ZLs Sn sc R u) (ZRs Sn sc R u) := fun u hu => by
  obtain ⟨a1, a2, a3, a4, a5, a6, a7, _⟩ := Sq_lists hS hu
  exact ⟨⟨a1, a2⟩, a5, a6, a7⟩
theorem Sq_Rf (hS : Sq sc Sn ar N R) : Rf_ok sc ar N (ZLs Sn sc R) (ZRs Sn sc R) := fun u hu => by
  obtain ⟨a1, a2, a3, a4, a5, a6, a7, _⟩ := Sq_lists hS hu
  exact ⟨a1, a2, a3, a4, a5⟩
/-- the class holds a SYSTEM in its book b -/
def CSy (b sc : Nat) (Sn : Nat → Nat) (ar : Nat → Int) (N : Nat) (R : Nat → Mi) (m : Mi) (J : Mj) : Prop := BN b Sn sc m J ∧ BA b sc ar m ∧ BkM b N (SL Sn sc ar R) (SR Sn sc ar R) m ∧ ∀ v, v < N → EQ (b + 5 + 6 * v) Sn sc (R v) m J
theorem CSy_fr (hs : sc ≤ 16) (h : CSy b sc Sn ar N R m J) (f : ∀ a k, b ≤ a → a ≤ b + 100 → m' a k = m a k) (g : ∀ a k, b ≤ a → a ≤ b + 100 → J' a k = J a k) : CSy b sc Sn ar N R m' J' := by
  obtain ⟨h1, h2, h3, h4⟩ := h
  have hN := h3.1
  refine ⟨⟨⟨(f _ _ (by omega) (by omega)).trans h1.1.1, h1.1.2⟩, fun i hi => ⟨(g _ _ (by omega) (by omega)).trans (h1.2 i hi).1, (h1.2 i hi).2⟩⟩, BA_fr h2 hs fun k _ => f _ _ (by omega) (by omega), BkM_fr h3 fun a k g1 g2 => f _ _ (by omega) (by omega), fun v hv => ?_⟩
  obtain ⟨⟨q1, q2, q3, q4⟩, q5, q6, q7⟩ := h4 v hv
  exact ⟨⟨(f _ _ (by omega) (by omega)).trans q1, fun c hc => ⟨(f _ _ (by omega) (by omega)).trans (q2 c hc).1, (f _ _ (by omega) (by omega)).trans (q2 c hc).2.1, (f _ _ (by omega) (by omega)).trans (q2 c hc).2.2⟩, (f _ _ (by omega) (by omega)).trans q3, fun w hw => (g _ _ (by omega) (by omega)).trans (q4 w hw)⟩, (f _ _ (by omega) (by omega)).trans q5, (f _ _ (by omega) (by omega)).trans q6, (f _ _ (by omega) (by omega)).trans q7⟩
theorem CSy_BKC (hS : Sq sc Sn ar N R) (hN : SqN sc Sn N R) (h : CSy b sc Sn ar N R m J) : BKC b sc ar N (SL Sn sc ar R) (SR Sn sc ar R) (ZLs Sn sc R) (ZRs Sn sc R) m := ⟨h.2.1, h.2.2.1, fun u hu => by
  obtain ⟨hz, hO⟩ := hS.2.2 u hu
  exact EQ_RB (h.2.2.2 u hu) (fun c hc => (hz.2.2.1 c hc).1.2) hz.1.1.1 hO hS.1.1 (hN u hu)⟩
theorem RSy_fr (h : RSy sc Sn ar N R m J) (f0 : ∀ k, (k = 34 ∨ k = 35) → m' 262 k = m 262 k) (f : ∀ a k, 280 ≤ a → a ≤ 285 → m' a k = m a k) (g : ∀ a k, 279 ≤ a → a ≤ 286 → J' a k = J a k) : RSy sc Sn ar N R m' J' := by
  obtain ⟨⟨h1, h2, h3⟩, h4, h5⟩ := h
  refine ⟨⟨⟨(f0 _ (by omega)).trans h1.1, h1.2⟩, fun i hi => ⟨(g _ _ (by decide) (by decide)).trans (h2 i hi).1, (h2 i hi).2⟩, fun i hi => ⟨(f _ _ (by decide) (by decide)).trans (h3 i hi).1, (h3 i hi).2⟩⟩, (f0 _ (by omega)).trans h4, fun v hv => ?_⟩
  obtain ⟨⟨r1, r2, r3⟩, r4, r5, r6⟩ := h5 v hv
  exact ⟨⟨(f _ _ (by decide) (by decide)).trans r1, (f _ _ (by decide) (by decide)).trans r2, (f _ _ (by decide) (by decide)).trans r3⟩, fun j hj => (f _ _ (by decide) (by decide)).trans (r4 j hj), fun j hj => (f _ _ (by decide) (by decide)).trans (r5 j hj), fun w hw => (g _ _ (by decide) (by decide)).trans (r6 w hw)⟩
/-- the SYSTEM in the reference, as lists -/
theorem RSy_RA (h : RSy sc Sn ar N R m J) : RAr sc ar m := ⟨h.1.1.2, h.1.2.2⟩
theorem RSy_Ry (hS : Sq sc Sn ar N R) (hN : SqN sc Sn N R) (h : RSy sc Sn ar N R m J) : RyM N (ZLs Sn sc R) (ZRs Sn sc R) m := by
  refine ⟨⟨hS.1.2, h.2.1⟩, fun u hu => ?_⟩
  obtain ⟨⟨r1, r2, r3⟩, r4, r5, r6⟩ := h.2.2 u hu
  obtain ⟨hz, hO⟩ := hS.2.2 u hu
  obtain ⟨a1, a2, a3, a4, a5, a6, a7, a8, a9⟩ := Sq_lists hS hu
  have z1 := hz.1
  have hLE := Rw_LE hO.1
  show (m 283 u = ((ZL Sn sc (R u)).length : Int) ∧ m 284 u = ((ZR Sn sc (R u)).length : Int)) ∧ (Ro m 281 (40 * u) (ZL Sn sc (R u)) ∧ Ro m 282 (40 * u) (ZR Sn sc (R u))) ∧ ((ZL Sn sc (R u)).length ≤ 40 ∧ (ZR Sn sc (R u)).length ≤ 40) ∧ (0 ≤ m 285 u ∧ m 285 u ≤ 8) ∧ ∀ c, c ∈ ZL Sn sc (R u) → (-8 ≤ c ∧ c < 16) ∧ (c < 0 → -1 - c < m 285 u)
  refine ⟨⟨by rw [r1]; omega, by rw [r2]; omega⟩, ⟨?_, ?_⟩, ⟨a6, a7⟩, ⟨by rw [r3]; omega, by rw [r3]; omega⟩, fun c hc => ?_⟩
  · exact Ro_sgl fun i hi => by rw [Nat.zero_add]; exact r4 i (by omega)
  · exact Ro_sgl fun i hi => r5 i (by omega)
  · have hg := a5 c (List.mem_append_left _ hc)
    refine ⟨⟨hg.2, hg.1.2.1⟩, fun h0 => ?_⟩
    obtain ⟨i, i1, i2, i3⟩ := sgl_mem hc
    have := (hz.2.2.1 i (by omega)).2.2.1
    by_cases g : 0 ≤ R u 1 i
    · have e : cdZ Sn sc (R u) i = -1 - R u 1 i := by unfold cdZ; rw [if_pos g]
      rw [r3, i3, e]
      omega
    · have e : cdZ Sn sc (R u) i = sfi Sn (R u 2 i).toNat 0 sc := by unfold cdZ; rw [if_neg g]
      have := hN u hu i (by omega) (by omega)
      omega
end CSY
