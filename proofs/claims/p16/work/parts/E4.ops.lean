/-! single calls: feed -/
section OPD
variable {X : aX} {d x y : Nat} {P P' : Mp} {J J' : Mj} {m m' m0 c : Mi} {h : Nat} {A : Int}
theorem b255_hi : ∀ i, i < 32 → 8 ≤ i → (255#32).getLsbD i = false := by decide
theorem byte_bv (v : BitVec 32) (s : Nat) (hs : s ≤ 24) : (v >>> s) &&& 255#32 = (BitVec.signExtend 32 (BitVec.signExtend 8 (v.sshiftRight s))) &&& 255#32 := by
  rw [BitVec.signExtend_eq_setWidth_of_le (x := v.sshiftRight s) (by decide : 8 ≤ 32)]
  ext i hi
  simp only [BitVec.getElem_and, BitVec.getElem_ushiftRight, BitVec.getElem_signExtend, BitVec.getElem_setWidth, BitVec.getLsbD_sshiftRight]
  by_cases h8 : i < 8
  · simp [h8, BitVec.getLsbD_sshiftRight, show s + i < 32 by omega, show ¬ (32 ≤ i) by omega]
  · have : (255#32)[i] = false := by
      rw [← BitVec.getLsbD_eq_getElem]
      exact b255_hi i hi (by omega)
    simp [this]
theorem byte_24 (x : Int) : ab x 24 = zand (lb x 3) 255 := by
  unfold ab lb zand zushr zi2b zshr
  rw [show (8 * 3 : Int) = 24 from rfl]
  simp only [iz_of]
  congr 1
  generalize iz x = v
  apply Int32.toBitVec_inj.mp
  have h := byte_bv v.toBitVec 24 (by decide)
  have e1 : (iz 24).toUInt32 &&& Int32.toUInt32 31 = 24 := by decide
  have e2 : (iz 24 &&& 31) = 24 := by decide
  have e3 : iz 255 = 255 := by decide
  rw [e1, e2, e3]
  simp only [Int32.toBitVec_and]
  show (v.toUInt32 >>> 24).toBitVec &&& _ = (v >>> 24).toInt8.toInt32.toBitVec &&& _
  rw [UInt32.toBitVec_shiftRight]
  simp
  exact h
theorem byte_16 (x : Int) : ab x 16 = zand (lb x 2) 255 := by
  unfold ab lb zand zushr zi2b zshr
  rw [show (8 * 2 : Int) = 16 from rfl]
  simp only [iz_of]
  congr 1
  generalize iz x = v
  apply Int32.toBitVec_inj.mp
  have h := byte_bv v.toBitVec 16 (by decide)
  have e1 : (iz 16).toUInt32 &&& Int32.toUInt32 31 = 16 := by decide
  have e2 : (iz 16 &&& 31) = 16 := by decide
  have e3 : iz 255 = 255 := by decide
  rw [e1, e2, e3]
  simp only [Int32.toBitVec_and]
  show (v.toUInt32 >>> 16).toBitVec &&& _ = (v >>> 16).toInt8.toInt32.toBitVec &&& _
  rw [UInt32.toBitVec_shiftRight]
  simp
  exact h
theorem byte_8 (x : Int) : ab x 8 = zand (lb x 1) 255 := by
  unfold ab lb zand zushr zi2b zshr
  rw [show (8 * 1 : Int) = 8 from rfl]
  simp only [iz_of]
  congr 1
  generalize iz x = v
  apply Int32.toBitVec_inj.mp
  have h := byte_bv v.toBitVec 8 (by decide)
  have e1 : (iz 8).toUInt32 &&& Int32.toUInt32 31 = 8 := by decide
  have e2 : (iz 8 &&& 31) = 8 := by decide
  have e3 : iz 255 = 255 := by decide
  rw [e1, e2, e3]
  simp only [Int32.toBitVec_and]
  show (v.toUInt32 >>> 8).toBitVec &&& _ = (v >>> 8).toInt8.toInt32.toBitVec &&& _
  rw [UInt32.toBitVec_shiftRight]
  simp
  exact h
theorem byte_0 (x : Int) : ab x 0 = zand (lb x 0) 255 := by
  unfold ab lb zand zushr zi2b zshr
  rw [show (8 * 0 : Int) = 0 from rfl]
  simp only [iz_of]
  congr 1
  generalize iz x = v
  apply Int32.toBitVec_inj.mp
  have h := byte_bv v.toBitVec 0 (by decide)
  have e1 : (iz 0).toUInt32 &&& Int32.toUInt32 31 = 0 := by decide
  have e2 : (iz 0 &&& 31) = 0 := by decide
  have e3 : iz 255 = 255 := by decide
  rw [e1, e2, e3]
  simp only [Int32.toBitVec_and]
  show (v.toUInt32 >>> 0).toBitVec &&& _ = (v >>> 0).toInt8.toInt32.toBitVec &&& _
  rw [UInt32.toBitVec_shiftRight]
  simp at h ⊢
  exact h
/-- both tapes alike -/
def tAg (h : Nat) (m c : Mi) : Prop := m 2 1 = (h : Int) ∧ c 262 1 = (h : Int) ∧ (∀ k, (k < h ∨ k = 0) → zand (c 263 k) 255 = m 3 k) ∧ ∀ k, k < 1600 → 0 ≤ m 3 k ∧ m 3 k ≤ 255
theorem tAg_1 {u v : Int} (H : tAg h m c) (e : zand v 255 = u) : tAg (h + 1) (ap1 m u) (ly1 c v) := by
  obtain ⟨h1, h2, h3, h4⟩ := H
  refine ⟨?_, ?_, fun k hk => ?_, fun k hk => ?_⟩
  · rw [ap1_n]; omega
  · rw [ly1_n]; omega
  · have e1 : (m 2 1).toNat = h := by omega
    have e2 : (c 262 1).toNat = h := by omega
    have q : ly1 c v 263 k = if k = (c 262 1).toNat then v else c 263 k := by
      unfold ly1
      rw [mu_ne _ _ (by omega)]
      by_cases g : k = (c 262 1).toNat
      · rw [if_pos g, g, mu_at]
      · rw [if_neg g, mu_ne _ _ (by omega)]
    rw [ap1_b, q, e1, e2]
    by_cases g : k = h
    · rw [if_pos g, if_pos g]; exact e
    · rw [if_neg g, if_neg g]; exact h3 k (by omega)
  · rw [ap1_b]
    split
    · rw [← e]; exact zand_255 v
    · exact h4 k hk
theorem tAg_4 (u : Int) (H : tAg h m c) : tAg (h + 4) (ap4 m u) (ly4 c u) := tAg_1 (tAg_1 (tAg_1 (tAg_1 H (byte_24 u).symm) (byte_16 u).symm) (byte_8 u).symm) (byte_0 u).symm
theorem tAg_20 (u1 u2 u3 u4 u5 : Int) (H : tAg h m c) : tAg (h + 20) (ap20 m u1 u2 u3 u4 u5) (ly20 c u1 u2 u3 u4 u5) := tAg_4 u5 (tAg_4 u4 (tAg_4 u3 (tAg_4 u2 (tAg_4 u1 H))))
theorem v_feed {u1 u2 u3 u4 u5 : Int} (H : IV A m J P) : Pr X (d + 1) 12 134 [vi u1, vi u2, vi u3, vi u4, vi u5] m J P (IVk A) := by
  obtain ⟨b, s, o, g, x', y, hP, h, T, q, qa, z, L, h16, sc, Sn, ar, N, R, t, K, rl, pi, l, r, vm, mg, nm, S, st, pt, hc, hr⟩ := id H
  have hp := hP.1
  have hs := pi.1.1.1
  have hb := (BP_kd hP.2.1).1
  have hgo : g = 39 ∨ g = 256 := by rcases hP.2.2.1.2.2 with h | h <;> omega
  obtain ⟨c1, ⟨c2, c3, c4⟩, c5⟩ := hc.1
  obtain ⟨r1, ⟨r2, r3, r4⟩, r5⟩ := hr.1
  have c2 : m 2 1 = (h : Int) := c2
  have r2 : m 262 1 = (h : Int) := r2
  have H0 : tAg h m m := ⟨c2, r2, fun k hk => (r5 k hk).trans (c5 k hk).symm, c1⟩
  refine Pr.mk' (c_feed hp ⟨by omega, by omega⟩ (fun g1 => ⟨hp, ?_⟩) (fun g1 => ⟨hp, ?_⟩))
  · have e262 : ap20 m u1 u2 u3 u4 u5 262 1 = m 262 1 := ap20_o _ _ _ _ _ _ (by omega) (by omega)
    refine r_feed hp (by rw [e262]; omega) (fun g2 => ⟨hp, by rw [e262]; omega, ?_⟩) (fun g2 => absurd g2 (by rw [e262]; omega))
    have H1 : tAg h m (ap20 m u1 u2 u3 u4 u5) := ⟨c2, by rw [e262]; exact r2, fun k hk => by rw [ap20_o _ _ _ _ _ _ (by omega) (by omega)]; exact H0.2.2.1 k hk, c1⟩
    obtain ⟨t1, t2, t3, t4⟩ := tAg_20 u1 u2 u3 u4 u5 H1
    have f1 : ∀ a k, a ≠ 3 → ¬ (a = 2 ∧ k = 1) → ap20 m u1 u2 u3 u4 u5 a k = m a k := fun a k g1 g2 => ap20_o m _ _ _ _ _ g1 g2
    have f2 : ∀ a k, a ≠ 263 → ¬ (a = 262 ∧ k = 1) → ly20 (ap20 m u1 u2 u3 u4 u5) u1 u2 u3 u4 u5 a k = ap20 m u1 u2 u3 u4 u5 a k := fun a k g1 g2 => ly20_o _ _ _ _ _ _ g1 g2
    generalize ap20 m u1 u2 u3 u4 u5 = m1 at *
    generalize ly20 m1 u1 u2 u3 u4 u5 = m2 at *
    have f : ∀ a k, a ≠ 3 → a ≠ 263 → ¬ (a = 2 ∧ k = 1) → ¬ (a = 262 ∧ k = 1) → m2 a k = m a k := fun a k g1 g2 g3 g4 => (f2 a k g2 g4).trans (f1 a k g1 g3)
    refine ⟨b, s, o, g, x', y, hP, h + 20, fun k => m1 3 k, q, qa, z, L, by omega, sc, Sn, ar, N, R, t, K, rl, pi, l, r, vm, mg, nm, S, st, pt, ⟨⟨fun k hk => ?_, ⟨?_, ?_, ?_⟩, fun k hk => f2 3 k (by omega) (by omega)⟩, iA_fr hc.2.1 fun a k _ => f a k (by omega) (by omega) (by omega) (by omega), iO_fr hc.2.2.1 fun a k _ => f a k (by omega) (by omega) (by omega) (by omega), iS_fr hs hc.2.2.2.1 (fun a k _ => f a k (by omega) (by omega) (by omega) (by omega)) (fun _ _ _ _ => rfl), iT_fr hc.2.2.2.2 (fun a k _ => f a k (by omega) (by omega) (by omega) (by omega)) fun _ => rfl⟩, ⟨r1, ⟨t2, (f _ _ (by omega) (by omega) (by omega) (by omega)).trans r3, (f _ _ (by omega) (by omega) (by omega) (by omega)).trans r4⟩, fun k hk => t3 k hk⟩, ujO_fr hr.2.1 fun a k _ => f a k (by omega) (by omega) (by omega) (by omega), ujS_fr hr.2.2.1 (fun a k _ => f a k (by omega) (by omega) (by omega) (by omega)) (fun _ _ _ _ => rfl), ujT_fr hr.2.2.2 (fun a k _ => f a k (by omega) (by omega) (by omega) (by omega)) fun _ => rfl⟩
    · show 0 ≤ m2 3 k ∧ m2 3 k ≤ 255
      rw [f2 3 k (by omega) (by omega)]
      exact t4 k hk
    · exact (f2 2 1 (by omega) (by omega)).trans t1
    · exact (f _ _ (by omega) (by omega) (by omega) (by omega)).trans c3
    · exact (f _ _ (by omega) (by omega) (by omega) (by omega)).trans c4
  · exact r_feed hp (by omega) (fun g2 => absurd g2 (by omega)) (fun g2 => ⟨hp, rfl, H⟩)
end OPD
