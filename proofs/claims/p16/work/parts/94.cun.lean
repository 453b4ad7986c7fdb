/-! the class's Bench: unifies(), isFinite() -/
section CUN
variable {X : aX} {d : Nat} {P : Mp} {J : Mj} {m m' : Mi} {x0 : Nat} {cd : Nat → Int} {nx : Nat → Nat} {ay : Int → Nat} {n : Nat} {R rt T : Nat → Nat} {B : Nat} {col : Nat → Int}
theorem CI_union (h : CI x0 R rt T B (fun _ => 0) m) {z1 z2 r : Nat} (hz1 : z1 < 1688) (hz2 : z2 < 1688) (hxy : rt z1 ≠ rt z2) (tx : tch x0 m (rt z1)) (ty : tch x0 m (rt z2)) {R' : Nat → Nat} (hR : ∀ z, R' z = if R z = R z1 ∨ R z = R z2 then r else R z) (hr : r < 1688) (h8 : 880 ≤ r → r = R z2) (hr2 : r = R z1 ∨ r = R z2) {hv : Int} (hhv : hv = if r < 880 then (r : Int) else -1) (f0 : m' x0 8 = m x0 8) (f3x : m' (x0 + 3) (rt z1) = (rt z2 : Int)) (f3 : ∀ k, k ≠ rt z1 → m' (x0 + 3) k = m (x0 + 3) k) (f4y : m' (x0 + 4) (rt z2) = hv) (f4 : ∀ k, k ≠ rt z2 → m' (x0 + 4) k = m (x0 + 4) k) (f5 : ∀ k, m' (x0 + 5) k = m (x0 + 5) k) (f6 : ∀ k, m' (x0 + 6) k = m (x0 + 6) k) : CI x0 R' (rep rt (rt z1) (rt z2)) (fun w => if w = rt z2 then B + 1 else T w) (B + 1) (fun _ => 0) m' := by
  have hr1 := CI_root h hz1
  have hr2' := CI_root h hz2
  obtain ⟨⟨a1, a2⟩, h1, h2⟩ := h
  have g1 := h1 z1 hz1
  have g2 := h1 z2 hz2
  have ex : ∀ z, z < 1688 → (rt z = rt z1 ↔ R z = R z1) := fun z hz => h2 z z1 hz hz1
  have ey : ∀ z, z < 1688 → (rt z = rt z2 ↔ R z = R z2) := fun z hz => h2 z z2 hz hz2
  have te : ∀ w, tch x0 m' w ↔ tch x0 m w := fun w => by unfold tch; rw [f6, f0]
  have lx : vlk x0 m' (rt z1) = (rt z2 : Int) := by rw [vlk_t ((te _).mpr tx), f3x]
  have le : ∀ w, w ≠ rt z1 → vlk x0 m' w = vlk x0 m w := fun w g => by unfold vlk; rw [f6, f0, f3 w g]
  have hy' : vhr x0 m' (rt z2) = hv := by rw [vhr_t ((te _).mpr ty), f4y]
  have he : ∀ w, w ≠ rt z2 → vhr x0 m' w = vhr x0 m w := fun w g => by unfold vhr; rw [f6, f0, f4 w g]
  have se : ∀ w, vsh x0 m' w = vsh x0 m w := fun w => by unfold vsh; rw [f6, f0, f5]
  have rx : ∀ {w}, rt w = rt z1 → rep rt (rt z1) (rt z2) w = rt z2 := fun e => if_pos e
  have rn : ∀ {w}, rt w ≠ rt z1 → rep rt (rt z1) (rt z2) w = rt w := fun e => if_neg e
  have r2 : rep rt (rt z1) (rt z2) (rt z2) = rt z2 := (rn (by rw [hr2']; exact fun e => hxy e.symm)).trans hr2'
  refine ⟨⟨by rw [f0]; exact a1, fun z hz => by rw [f6, f0]; exact a2 z hz⟩, fun z hz => ?_, fun z w hz hw => ?_⟩
  · obtain ⟨⟨b1, b2, b3⟩, ⟨w, w1, w2, w3, w4, w5, w6⟩, b4, b5, b6, b7⟩ := h1 z hz
    refine ⟨⟨?_, ?_, ?_⟩, ?_, ?_, ?_, ?_, ?_⟩
    · unfold rep; split
      · exact g2.1.1
      · exact b1
    · rw [hR]; split
      · exact hr
      · exact b2
    · dsimp only; split <;> omega
    · by_cases e : z = rt z1
      · subst e
        refine ⟨rt z2, lx, g2.1.1, ?_, fun _ => ?_, fun e => absurd e.symm hxy, fun _ => (te _).mpr ty⟩
        · rw [r2, rx hr1]
        · dsimp only
          rw [if_neg hxy, if_pos rfl]
          omega
      · refine ⟨w, by rw [le z e]; exact w1, w2, ?_, fun hne => ?_, fun ew => ?_, fun q => (te w).mpr (w6 ((te z).mp q))⟩
        · unfold rep; rw [w3]
        · dsimp only
          have := w4 hne
          by_cases e2 : w = rt z2
          · rw [if_pos e2]
            by_cases e3 : z = rt z2
            · exact absurd (e2.trans e3.symm) hne
            · rw [if_neg e3]; omega
          · rw [if_neg e2]
            by_cases e3 : z = rt z2
            · exfalso
              have e4 := g2.2.2.1
              rw [← e3, w1] at e4
              exact hne (by omega)
            · rw [if_neg e3]; exact this
        · have e5 := w5 ew
          rw [rn (by rw [e5]; exact e), e5]
    · by_cases e : rt z = rt z1
      · rw [rx e, le _ (fun q => hxy q.symm)]
        exact g2.2.2.1
      · rw [rn e, le _ (by exact e)]
        exact b4
    · by_cases e : rt z = rt z1
      · rw [rx e, hy', hhv, hR, if_pos (Or.inl ((ex z hz).mp e))]
      · by_cases e2 : rt z = rt z2
        · rw [rn e, e2, hy', hhv, hR, if_pos (Or.inr ((ey z hz).mp e2))]
        · have q0 : ¬ (R z = R z1 ∨ R z = R z2) := fun q => q.elim (fun q => e ((ex z hz).mpr q)) (fun q => e2 ((ey z hz).mpr q))
          rw [rn e, he _ e2, b5, hR, if_neg q0]
    · intro q
      by_cases e : rt z = rt z1
      · rw [hR, if_pos (Or.inl ((ex z hz).mp e))] at q ⊢
        rw [rx e, h8 q]
        exact g2.2.2.2.2.1 (by rw [← h8 q]; exact q)
      · by_cases e2 : rt z = rt z2
        · rw [hR, if_pos (Or.inr ((ey z hz).mp e2))] at q ⊢
          rw [rn e, e2, h8 q]
          exact g2.2.2.2.2.1 (by rw [← h8 q]; exact q)
        · rw [hR, if_neg (fun q => q.elim (fun q => e ((ex z hz).mpr q)) (fun q => e2 ((ey z hz).mpr q)))] at q ⊢
          rw [rn e]
          exact b6 q
    · rw [se]
      by_cases e : rt z = rt z1
      · rw [rx e]; exact g2.2.2.2.2.2
      · rw [rn e]; exact b7
  · rw [hR, hR]
    by_cases e1 : rt z = rt z1
    · rw [rx e1, if_pos (Or.inl ((ex z hz).mp e1))]
      by_cases e2 : rt w = rt z1
      · rw [rx e2, if_pos (Or.inl ((ex w hw).mp e2))]
        exact ⟨fun _ => rfl, fun _ => rfl⟩
      · by_cases e3 : rt w = rt z2
        · rw [rn e2, if_pos (Or.inr ((ey w hw).mp e3)), e3]
          exact ⟨fun _ => rfl, fun _ => rfl⟩
        · rw [rn e2, if_neg (fun q => q.elim (fun q => e2 ((ex w hw).mpr q)) (fun q => e3 ((ey w hw).mpr q)))]
          refine ⟨fun q => absurd q.symm e3, fun q => ?_⟩
          exfalso
          rcases hr2 with q2 | q2
          · exact e2 ((ex w hw).mpr (by rw [← q, q2]))
          · exact e3 ((ey w hw).mpr (by rw [← q, q2]))
    · rw [rn e1]
      by_cases e1' : rt z = rt z2
      · rw [e1', if_pos (Or.inr ((ey z hz).mp e1'))]
        by_cases e2 : rt w = rt z1
        · rw [rx e2, if_pos (Or.inl ((ex w hw).mp e2))]
          exact ⟨fun _ => rfl, fun _ => rfl⟩
        · by_cases e3 : rt w = rt z2
          · rw [rn e2, if_pos (Or.inr ((ey w hw).mp e3)), e3]
            exact ⟨fun _ => rfl, fun _ => rfl⟩
          · rw [rn e2, if_neg (fun q => q.elim (fun q => e2 ((ex w hw).mpr q)) (fun q => e3 ((ey w hw).mpr q)))]
            refine ⟨fun q => absurd q.symm e3, fun q => ?_⟩
            exfalso
            rcases hr2 with q2 | q2
            · exact e2 ((ex w hw).mpr (by rw [← q, q2]))
            · exact e3 ((ey w hw).mpr (by rw [← q, q2]))
      · rw [if_neg (fun q => q.elim (fun q => e1 ((ex z hz).mpr q)) (fun q => e1' ((ey z hz).mpr q)))]
        by_cases e2 : rt w = rt z1
        · rw [rx e2, if_pos (Or.inl ((ex w hw).mp e2))]
          refine ⟨fun q => absurd q e1', fun q => ?_⟩
          exfalso
          rcases hr2 with q2 | q2
          · exact e1 ((ex z hz).mpr (by rw [q, q2]))
          · exact e1' ((ey z hz).mpr (by rw [q, q2]))
        · by_cases e3 : rt w = rt z2
          · rw [rn e2, if_pos (Or.inr ((ey w hw).mp e3)), e3]
            refine ⟨fun q => absurd q e1', fun q => ?_⟩
            exfalso
            rcases hr2 with q2 | q2
            · exact e1 ((ex z hz).mpr (by rw [q, q2]))
            · exact e1' ((ey z hz).mpr (by rw [q, q2]))
          · rw [rn e2, if_neg (fun q => q.elim (fun q => e2 ((ex w hw).mpr q)) (fun q => e3 ((ey w hw).mpr q)))]
            exact h2 z w hz hw
theorem CI_shade (h : CI x0 R rt T B col m) {z : Nat} (hz : z < 1688) (tz : tch x0 m (rt z)) {v : Int} : CI x0 R rt T B (cset col (R z) v) (mu m (x0 + 5) (rt z) v) := by
  obtain ⟨⟨a1, a2⟩, h1, h2⟩ := h
  have f0 : mu m (x0 + 5) (rt z) v x0 8 = m x0 8 := mu_ne _ _ (by omega)
  have f6 : ∀ w, mu m (x0 + 5) (rt z) v (x0 + 6) w = m (x0 + 6) w := fun w => mu_ne _ _ (by omega)
  have te : ∀ w, tch x0 (mu m (x0 + 5) (rt z) v) w ↔ tch x0 m w := fun w => by unfold tch; rw [f6, f0]
  have le : ∀ w, vlk x0 (mu m (x0 + 5) (rt z) v) w = vlk x0 m w := fun w => by unfold vlk; rw [f6, f0, mu_ne _ _ (by omega)]
  have he : ∀ w, vhr x0 (mu m (x0 + 5) (rt z) v) w = vhr x0 m w := fun w => by unfold vhr; rw [f6, f0, mu_ne _ _ (by omega)]
  refine ⟨⟨by rw [f0]; exact a1, fun w hw => by rw [f6, f0]; exact a2 w hw⟩, fun w hw => ?_, h2⟩
  obtain ⟨b1, ⟨u, w1, w2, w3, w4, w5, w6⟩, b4, b5, b6, b7⟩ := h1 w hw
  refine ⟨b1, ⟨u, by rw [le]; exact w1, w2, w3, w4, w5, fun q => (te u).mpr (w6 ((te w).mp q))⟩, by rw [le]; exact b4, by rw [he]; exact b5, b6, ?_⟩
  by_cases e : rt w = rt z
  · rw [e, vsh_t ((te _).mpr tz), mu_at, (h2 w z hw hz).mp e, cset_at]
  · rw [cset_ne _ _ (fun q => e ((h2 w z hw hz).mpr q)), ← b7]
    unfold vsh
    rw [f6, f0, mu_ne _ _ (by omega)]
/-- pairs on the stack, the next one first -/
def STK (x0 : Nat) (m : Mi) : List (Nat × Nat) → Prop
  | [] => True
  | (a, b) :: st => (m (x0 + 7) (2 * st.length) = (a : Int) ∧ m (x0 + 7) (2 * st.length + 1) = (b : Int)) ∧ STK x0 m st
theorem STK_fr : ∀ {st : List (Nat × Nat)}, STK x0 m st → (∀ k, k < 2 * st.length → m' (x0 + 7) k = m (x0 + 7) k) → STK x0 m' st
  | [], _, _ => trivial
  | (a, b) :: st, h, f => by
    rw [List.length_cons] at f
    exact ⟨⟨(f _ (by omega)).trans h.1.1, (f _ (by omega)).trans h.1.2⟩, STK_fr h.2 fun k hk => f k (by omega)⟩
/-- pushArguments() -/
theorem c_pushArgs {s t : Nat} {st : List (Nat × Nat)} (hp : PP P) (kx : am_kd an_K x0 = some (.inl 4)) (hG : Gok ay cd nx n) (hM : GC x0 cd nx n m) (hs : s < n) (ht : t < n) (hay : ay (cd s) = ay (cd t)) (hST : STK x0 m st) (hroom : st.length + ay (cd s) ≤ 1000) {post : Int → Mi → Mj → Mp → Prop} (k : ∀ m', STK x0 m' (prs nx s t (ay (cd s)) ++ st) → (∀ b k, b ≠ x0 + 7 → m' b k = m b k) → post ((2 * (prs nx s t (ay (cd s)) ++ st).length : Nat) : Int) m' J P) : Ci X d 55 [.ref x0, .int (iz (s : Int)), .int (iz (t : Int)), .int (iz ((2 * st.length : Nat) : Int))] m J P post := by
  have h880 := hG.1
  have h4 := (hG.2.2 s hs).2.1
  have es : ((s : Nat) : Int).toNat = s := by omega
  have et : ((t : Nat) : Int).toNat = t := by omega
  refine Ci.of rfl rfl rfl (b_Bench_pushArguments_0 x0 s t _ kx m J P hp post ?_)
  have loop : ∀ (q i : Nat) (m1 : Mi), i + q = ay (cd s) → STK x0 m1 (prs nx s t i ++ st) → (∀ b k, b ≠ x0 + 7 → m1 b k = m b k) → Rn X d 55 16 [some (.ref x0), some (.int (iz (s : Int))), some (.int (iz (t : Int))), some (.int (iz ((2 * st.length : Nat) : Int))), some (.int (iz ((kid nx (s + 1) i : Nat) : Int))), some (.int (iz ((kid nx (t + 1) i : Nat) : Int))), some (.int (iz ((2 * (prs nx s t i ++ st).length : Nat) : Int))), some (.int (iz (i : Int)))] [] (SS m1 J P) (QI post) := by
    intro q
    induction q with
    | zero =>
      intro i m1 hi hST1 hf
      have ei : i = ay (cd s) := by omega
      subst ei
      have e1 := G_end hG hs
      have e2 := (hG.2.2 s hs).1.2.1
      have hl : (prs nx s t (ay (cd s)) ++ st).length = ay (cd s) + st.length := by rw [List.length_append, prs_len]
      have hn1 : m1 (x0 + 2) s = (nx s : Int) := (hf _ _ (by omega)).trans (hM s hs).2
      have done := k m1 hST1 hf
      refine b_Bench_pushArguments_16 x0 s t _ _ _ _ _ kx m1 J P hp post ⟨by constructor <;> omega, fun _ => done, fun _ => ⟨by omega, by rw [e1]; constructor <;> omega, by rw [es, hn1]; constructor <;> omega, fun _ => done, fun h => absurd (by rw [es, hn1, e1]; exact Int.le_refl _) h⟩⟩
    | succ q ih =>
      intro i m1 hi hST1 hf
      have g1 := G_kid hG hs (i := i) (by omega)
      have g2 := G_kid hG ht (i := i) (by omega)
      have hl : (prs nx s t i ++ st).length = i + st.length := by rw [List.length_append, prs_len]
      have hn1 : m1 (x0 + 2) s = (nx s : Int) := (hf _ _ (by omega)).trans (hM s hs).2
      have hn2 : m1 (x0 + 2) t = (nx t : Int) := (hf _ _ (by omega)).trans (hM t ht).2
      have b1 := (hG.2.2 s hs).1.2.1
      have b2 := (hG.2.2 t ht).1.2.1
      have i1 : ((kid nx (s + 1) i : Nat) : Int).toNat = kid nx (s + 1) i := by omega
      have i2 : ((kid nx (t + 1) i : Nat) : Int).toNat = kid nx (t + 1) i := by omega
      have i3 : ((2 * (prs nx s t i ++ st).length : Nat) : Int).toNat = 2 * (prs nx s t i ++ st).length := by omega
      have i4 : (((2 * (prs nx s t i ++ st).length : Nat) : Int) + 1).toNat = 2 * (prs nx s t i ++ st).length + 1 := by omega
      refine b_Bench_pushArguments_16 x0 s t _ _ _ _ _ kx m1 J P hp post ⟨by constructor <;> omega, fun h => absurd h (by omega), fun _ => ⟨by omega, by constructor <;> omega, by rw [es, hn1]; constructor <;> omega, fun h => absurd h (by rw [es, hn1]; omega), fun _ => ⟨by omega, by constructor <;> omega, by rw [et, hn2]; constructor <;> omega, fun h => absurd h (by rw [et, hn2]; omega), fun _ => ⟨by constructor <;> omega, fun h => absurd h (by omega), fun _ => ⟨by omega, by omega, by omega, by omega, ?_⟩⟩⟩⟩⟩
      rw [i1, i2, i3, i4]
      have f2 : ∀ b k, b ≠ x0 + 7 → mu (mu m1 (x0 + 7) (2 * (prs nx s t i ++ st).length) (kid nx (s + 1) i : Int)) (x0 + 7) (2 * (prs nx s t i ++ st).length + 1) (kid nx (t + 1) i : Int) b k = m b k := fun b k h => by rw [mu_ne _ _ (by omega), mu_ne _ _ (by omega)]; exact hf b k h
      rw [f2 _ _ (by omega), f2 _ _ (by omega), (hM _ g1.2.1).2, (hM _ g2.2.1).2]
      have e1 : ((2 * (prs nx s t i ++ st).length : Nat) : Int) + 2 = ((2 * (prs nx s t (i + 1) ++ st).length : Nat) : Int) := by rw [hl, List.length_append, prs_len]; omega
      have e2 : ((i : Nat) : Int) + 1 = ((i + 1 : Nat) : Int) := by omega
      rw [e1, e2]
      refine ih (i + 1) _ (by omega) ⟨⟨?_, ?_⟩, STK_fr hST1 fun k hk => ?_⟩ f2
      · show mu (mu m1 (x0 + 7) (2 * (prs nx s t i ++ st).length) (kid nx (s + 1) i : Int)) (x0 + 7) (2 * (prs nx s t i ++ st).length + 1) (kid nx (t + 1) i : Int) (x0 + 7) (2 * (prs nx s t i ++ st).length) = _
        rw [mu_ne _ _ (by omega), mu_at]
      · exact mu_at _ _ _ _
      · have hk' : k < 2 * (prs nx s t i ++ st).length := hk
        rw [mu_ne _ _ (by omega), mu_ne _ _ (by omega)]
  have e1 : (s : Int) + 1 = ((kid nx (s + 1) 0 : Nat) : Int) := by rw [kid]; omega
  have e2 : (t : Int) + 1 = ((kid nx (t + 1) 0 : Nat) : Int) := by rw [kid]; omega
  rw [e1, e2]
  exact loop (ay (cd s)) 0 m (by omega) hST (fun _ _ _ => rfl)
end CUN
