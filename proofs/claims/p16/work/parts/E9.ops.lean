/-! the beginning, and all calls together -/
section OPI
variable {X : aX} {d : Nat} {P : Mp} {J : Mj} {m : Mi} {A : Int}
/-- what is asked of the new pair -/
abbrev Fs (m : Mi) (J : Mj) (P : Mp) : Prop := ((∀ k, k < 1600 → 0 ≤ m 3 k ∧ m 3 k ≤ 255) ∧ m 2 1 = 0 ∧ m 262 1 = 0 ∧ m 4 3 = m 262 12 ∧ m 4 4 = m 262 13 ∧ zand (m 263 0) 255 = m 3 0) ∧ ((0 ≤ m 8 8 ∧ m 8 8 ≤ 0) ∧ (∀ z, z < 1688 → 0 ≤ m 14 z ∧ m 14 z ≤ m 8 8) ∧ (0 ≤ m 18 8 ∧ m 18 8 ≤ 0) ∧ ∀ z, z < 1688 → 0 ≤ m 24 z ∧ m 24 z ≤ m 18 8) ∧ (m 50 1 = 0 ∧ m 262 136 = 0) ∧ (m 54 4 = 0 ∧ m 54 5 = 0 ∧ m 36 3 = 0 ∧ m 36 4 = 0 ∧ m 36 5 = 0 ∧ m 1 11 = 0) ∧ (m 262 34 = 0 ∧ m 262 35 = 0 ∧ m 262 44 = 0 ∧ m 262 45 = 0 ∧ m 262 46 = 0 ∧ m 262 47 = 0 ∧ m 262 33 = 0) ∧ (m 38 8 = 0 ∧ m 38 11 = 0 ∧ m 38 12 = 0 ∧ m 262 93 = 0 ∧ m 262 96 = 0 ∧ m 262 98 = 0) ∧ (P 1 8 = some 54 ∧ P 1 9 = some 155 ∧ P 1 10 = some 256 ∧ P 38 2 = some 39 ∧ P 262 59 = some 296 ∧ P 262 60 = some 297) ∧ J 262 8 = 79437 ∧ J 262 9 = 4805381
/-- the same, but for the rows -/
abbrev Fs0 (m : Mi) (J : Mj) (P : Mp) : Prop := (m 2 1 = 0 ∧ m 262 1 = 0 ∧ m 4 3 = m 262 12 ∧ m 4 4 = m 262 13 ∧ zand (m 263 0) 255 = m 3 0) ∧ ((0 ≤ m 8 8 ∧ m 8 8 ≤ 0) ∧ (0 ≤ m 18 8 ∧ m 18 8 ≤ 0)) ∧ (m 50 1 = 0 ∧ m 262 136 = 0) ∧ (m 54 4 = 0 ∧ m 54 5 = 0 ∧ m 36 3 = 0 ∧ m 36 4 = 0 ∧ m 36 5 = 0 ∧ m 1 11 = 0) ∧ (m 262 34 = 0 ∧ m 262 35 = 0 ∧ m 262 44 = 0 ∧ m 262 45 = 0 ∧ m 262 46 = 0 ∧ m 262 47 = 0 ∧ m 262 33 = 0) ∧ (m 38 8 = 0 ∧ m 38 11 = 0 ∧ m 38 12 = 0 ∧ m 262 93 = 0 ∧ m 262 96 = 0 ∧ m 262 98 = 0) ∧ (P 1 8 = some 54 ∧ P 1 9 = some 155 ∧ P 1 10 = some 256 ∧ P 38 2 = some 39 ∧ P 262 59 = some 296 ∧ P 262 60 = some 297) ∧ J 262 8 = 79437 ∧ J 262 9 = 4805381
def an_fsb (σ : am_S) : Bool := decide (Fs0 (an_mz σ.2.1) σ.2.2.1 σ.2.2.2)
/-- the first n cells of a row hold 0 -/
def an_rg (a n : Nat) (σ : am_S) : Bool := (List.range n).all fun k => decide (σ.2.1 a k = 0)
theorem an_fs_K : an_ckr an_r2 an_fsb = true := by decide +kernel
theorem an_rg_K1 : an_ckr an_r2 (an_rg 3 1600) = true := by decide +kernel
theorem an_rg_K2 : an_ckr an_r2 (an_rg 14 1688) = true := by decide +kernel
theorem an_rg_K3 : an_ckr an_r2 (an_rg 24 1688) = true := by decide +kernel
theorem an_fs0 : Fs0 an_m0 an_J0 an_P0 := by
  obtain ⟨σ0, h1, h2⟩ := an_ckr_of an_fs_K
  have e : an_sig = σ0 := by unfold an_sig; rw [h1]
  rw [← e] at h2
  unfold an_fsb at h2
  exact of_decide_eq_true h2
theorem an_rg_of {a n : Nat} (h : an_ckr an_r2 (an_rg a n) = true) : ∀ k, k < n → an_m0 a k = 0 := by
  obtain ⟨σ0, h1, h2⟩ := an_ckr_of h
  have e : an_sig = σ0 := by unfold an_sig; rw [h1]
  rw [← e] at h2
  unfold an_rg at h2
  intro k hk
  have g := of_decide_eq_true (List.all_eq_true.mp h2 k (List.mem_range.mpr hk))
  unfold an_m0
  exact (congrArg Int32.toInt g).trans (by decide)
theorem an_fs : Fs an_m0 an_J0 an_P0 := by
  obtain ⟨a, ⟨b1, b3⟩, r⟩ := an_fs0
  refine ⟨⟨fun k hk => ?_, a⟩, ⟨b1, fun z hz => ?_, b3, fun z hz => ?_⟩, r⟩
  · have q := an_rg_of an_rg_K1 k hk
    constructor <;> omega
  · have q := an_rg_of an_rg_K2 z hz
    constructor <;> omega
  · have q := an_rg_of an_rg_K3 z hz
    constructor <;> omega
theorem an_iv0 : IV 0 an_m0 an_J0 an_P0 := by
  obtain ⟨⟨a1, a2, a3, a4, a5, a6⟩, ⟨b1, b2, b3, b4⟩, ⟨c1, c2⟩, ⟨d1, d2, d3, d4, d5, d6⟩, ⟨e1, e2, e3, e4, e5, e6, e7⟩, ⟨f1, f2, f3, f4, f5, f6⟩, ⟨g1, g2, g3, g4, g5, g6⟩, h1, h2⟩ := an_fs
  refine ⟨54, 155, 256, 39, 296, 297, ⟨an_PP0, ⟨g1, g2, Or.inl ⟨rfl, rfl⟩⟩, ⟨g3, g4, Or.inr ⟨rfl, rfl⟩⟩, ⟨g5, g6, Or.inl ⟨rfl, rfl⟩⟩⟩, 0, fun k => an_m0 3 k, an_m0 262 12, an_m0 262 13, 0, fun _ => 0, by omega, 0, fun _ => 0, fun _ => 0, 0, fun _ _ _ => 0, 0, [], 0, ?_, [], [], 0, 0, fun _ => 0, ([], [], 0, 0, 0, false), 0, ?_, ⟨⟨a1, ⟨a2, a4, a5⟩, fun k _ => rfl⟩, ⟨⟨⟨⟨b1.1, by omega⟩, b2⟩, b1.2⟩, ⟨⟨b3.1, by omega⟩, b4⟩, b3.2⟩, ⟨Or.inl (by omega), c1, fun k _ hk => absurd hk (by omega)⟩, ⟨⟨⟨⟨d1, by omega⟩, fun i hi => absurd hi (by omega)⟩, fun i hi => absurd hi (by omega), ⟨by omega, d2, fun u hu => absurd hu (by omega)⟩, fun v hv => absurd hv (by omega)⟩, ⟨⟨d3, d4, d5⟩, trivial⟩, d6⟩, f1, ⟨by show Zr (an_m0 38 11); rw [f2]; constructor <;> omega, by show Zr (an_m0 38 12); rw [f3]; constructor <;> omega⟩, fun g => absurd g (by omega)⟩, ⟨⟨⟨h1, h2⟩, ⟨a3, rfl, rfl⟩, fun k hk => by rw [show k = 0 by omega]; exact a6⟩, ⟨Or.inl (by omega), c2, fun k _ hk => absurd hk (by omega)⟩, ⟨⟨⟨⟨e1, by omega⟩, fun i hi => absurd hi (by omega), fun i hi => absurd hi (by omega)⟩, e2, fun v hv => absurd hv (by omega)⟩, ⟨⟨e3, e4, e5, e6⟩, trivial⟩, e7⟩, f4, ⟨by show Zr (an_m0 262 96); rw [f5]; constructor <;> omega, by show Zr (an_m0 262 98); rw [f6]; constructor <;> omega⟩, fun g => absurd g (by omega)⟩⟩
  · exact ⟨⟨⟨by omega, by omega⟩, fun i hi => absurd hi (by omega), fun v hv => absurd hv (by omega)⟩, fun v hv => absurd hv (by omega), ⟨rfl, by omega, fun e he => by cases he⟩, Or.inl rfl⟩
  · exact ⟨Or.inl rfl, fun g => absurd g (by omega), fun g => absurd g (by omega)⟩
theorem Pr.toPw {c1 c2 : Nat} {as : List Value} {K : Mi → Mj → Mp → Prop} (h : Pr X d c1 c2 as m J P K) : Pw X d c1 c2 as m J P K := Ci.weak h fun _ _ _ _ ⟨h1, h2⟩ => ⟨h1, h2.weak fun _ _ _ _ ⟨g1, _, _, _, g5⟩ => ⟨g1, g5⟩⟩
theorem Pr.up {c1 c2 : Nat} {as : List Value} {A' : Int} (h : Pr X d c1 c2 as m J P (IVk A)) (g : A ≤ A') : Pr X d c1 c2 as m J P (IVk A') := h.weak fun _ _ _ H => IV_up H g
theorem Pw.up {c1 c2 : Nat} {as : List Value} {A' : Int} (h : Pw X d c1 c2 as m J P (IVk A)) (g : A ≤ A') : Pw X d c1 c2 as m J P (IVk A') := Ci.weak h fun _ _ _ _ ⟨h1, h2⟩ => ⟨h1, h2.weak fun _ _ _ _ ⟨g1, g2⟩ => ⟨g1, IV_up g2 g⟩⟩
/-- all calls -/
theorem v_ops (H : IV A m J P) (hA : A + 600000 < 2147483647) {a1 a2 a3 a4 a5 : Int} (h1 : Zr a1) (h2 : Zr a2) (h3 : Zr a3) (h4 : Zr a4) (h5 : Zr a5) :
  Pr X 10 12 134 [vi a1, vi a2, vi a3, vi a4, vi a5] m J P (IVk (A + 400000)) ∧
  Pr X 10 14 136 [vi a1] m J P (IVk (A + 400000)) ∧
  Pr X 10 73 181 [vi a1] m J P (IVk (A + 400000)) ∧
  ((a1 ≠ 5 → Pr X 10 74 182 [vi a1] m J P (IVk (A + 400000))) ∧ Pw X 10 74 182 [vi a1] m J P (IVk (A + 400000))) ∧
  Pr X 10 76 183 [vi a1, vi a2] m J P (IVk (A + 400000)) ∧
  Pr X 10 79 184 [vi a1] m J P (IVk (A + 400000)) ∧
  Pr X 10 90 194 [vi a1] m J P (IVk (A + 400000)) ∧
  Pr X 10 97 198 [vi a1, vi (if a2 = 0 then 0 else 1)] m J P (IVk (A + 400000)) ∧
  Pr X 10 105 203 [vi a1] m J P (IVk (A + 400000)) ∧
  Pr X 10 110 206 [vi a1] m J P (IVk (A + 400000)) ∧
  Pr X 10 112 207 [vi a1, vi a2] m J P (IVk (A + 400000)) ∧
  Pr X 10 118 209 [vi a1, vi a2] m J P (IVk (A + 400000)) ∧
  Pr X 10 122 213 [vi a1, vi a2] m J P (IVk (A + 400000)) ∧
  Pr X 10 125 215 [vi a1, vi a2] m J P (IVk (A + 400000)) ∧
  Pr X 10 131 216 [vi a1] m J P (IVk (A + 400000)) := by
  have le : A ≤ A + 400000 := by omega
  refine ⟨(v_feed (d := 9) H).up le, v_system (d := 2) H h1 hA, (v_fault (d := 10) H h1).up le, ⟨fun g => (v_count (d := 8) H h1 g).up le, ?_⟩, (v_pair (d := 8) H h1 h2).up le, (v_normal (d := 4) H h1).up le, v_unify (d := 3) H h1 hA, v_goal (d := 3) H h1 (by split; exact Or.inl rfl; exact Or.inr rfl) hA, v_expand (d := 2) H h1 hA, (v_tree (d := 8) H h1).up le, (v_node (d := 7) H h1 h2).up le, (v_answer (d := 4) H h1 h2).up le, (v_covers (d := 5) H h1 h2).up le, v_show (d := 4) H h1 h2 hA, (v_out (d := 8) H h1).up le⟩
  by_cases g : a1 = 5
  · exact (v_count5 (d := 8) H h1 g).up le
  · exact ((v_count (d := 8) H h1 g).up le).toPw
end OPI
