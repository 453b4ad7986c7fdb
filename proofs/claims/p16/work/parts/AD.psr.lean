/-! the class's Pairs: search() -/
section PSR
variable {X : aX} {d : Nat} {P : Mp} {J : Mj} {m m' : Mi} {ar : Nat → Int} {sc N b : Nat} {Lf Rf Lm Rm : Nat → List Int}
/-- the bench's attempts: at most so many more -/
def ATb (A : Int) (m0 m : Mi) : Prop := ATT 8 m ∧ m 8 8 ≤ m0 8 8 + A
/-- what search() may change -/
def psF (m m' : Mi) : Prop := ∀ a k, ¬ (8 ≤ a ∧ a ≤ 17) → ¬ (28 ≤ a ∧ a ≤ 37) → m' a k = m a k
theorem psF_trans {m'' : Mi} (h : psF m m') (h2 : psF m' m'') : psF m m'' := fun a k g1 g2 => (h2 a k g1 g2).trans (h a k g1 g2)
theorem PKh_fr {t : Nat} {K : List (Nat × Nat × Nat × Int)} (h : PKh t K m) (f1 : ∀ k, m' 36 k = m 36 k) (f2 : ∀ k, m' 37 k = m 37 k) : PKh t K m' := ⟨⟨(f1 _).trans h.1.1, (f1 _).trans h.1.2.1, (f1 _).trans h.1.2.2⟩, PKr_fr h.2 fun k _ => f2 k⟩
/-- one more is counted -/
theorem PKh_tot {t : Nat} {K : List (Nat × Nat × Nat × Int)} (h : PKh t K m) : PKh (t + 1) K (mu m 36 3 ((t : Int) + 1)) := ⟨⟨by rw [mu_at]; omega, (mu_ne _ _ (by omega)).trans h.1.2.1, (mu_ne _ _ (by omega)).trans h.1.2.2⟩, PKr_fr h.2 fun k _ => mu_ne _ _ (by omega)⟩
/-- what one more place comes to -/
theorem c_one {i p j : Nat} {s : PKs} {A : Int} {m0 : Mi} (hp : PP P) (hb : b = 54 ∨ b = 155) (har : arK sc ar) (hX : BKC b sc ar N Lm Rm Lf Rf m) (hRg : Rg (ayw ar) N Lm Rm) (hgR : ∀ u, u < N → ∀ c, c ∈ Rm u → gp sc c) (hZ : ∀ u, u < N → ZK sc ar (Lf u) (Rf u)) (hi : i < N) (hj : j < N) (hpl : p < (Lf i).length) (hij : ¬ (i = j ∧ p = 0)) (hs : PKh s.1 s.2 m) (hok : pkok s) (hAT : ATb A m0 m) (hA0 : m0 8 8 + A < 2147483647) (ht : s.1 < 100000) (hF : psF m0 m) {x1 x2 x3 : Int} {post : Mi → Mj → Mp → Prop} (k : ∀ m', PKh (pkst (ayw ar) N Lm Rm Lf Rf i p j s).1 (pkst (ayw ar) N Lm Rm Lf Rf i p j s).2 m' → ATb (A + 1) m0 m' → psF m0 m' → Rn X (d + 5) 49 106 [some (.ref 36), some (.ref b), some (.int (iz x1)), some (.int (iz x2)), some (.int (iz x3))] [] (SS m' J P) (QV post)) : Ci X (d + 4) 50 [.ref 36, .int (iz (i : Int)), .int (iz (p : Int)), .int (iz (j : Int)), .ref b] m J P (fun z8 m5 J6 P7 => PP P7 ∧ Zr (z8) ∧ (((¬ z8 = 0) → Zr (m5 36 3) ∧ (((200 ≤ (m5 36 3)) → Rn X (d + 5) 49 106 [some (.ref 36), some (.ref b), some (.int (iz x1)), some (.int (iz x2)), some (.int (iz x3))] [] (SS (mu m5 36 3 ((m5 36 3) + 1)) J6 P7) (QV post)) ∧ (¬ (200 ≤ (m5 36 3)) → Cv X (d + 4) 58 [.ref 36, .int (iz (i : Int)), .int (iz (p : Int)), .int (iz (j : Int)), .ref b] m5 J6 P7 (fun m12 J13 P14 => PP P14 ∧ Rn X (d + 5) 49 106 [some (.ref 36), some (.ref b), some (.int (iz x1)), some (.int (iz x2)), some (.int (iz x3))] [] (SS (mu m12 36 3 ((m12 36 3) + 1)) J13 P14) (QV post))))) ∧ (¬ (¬ z8 = 0) → Rn X (d + 5) 49 106 [some (.ref 36), some (.ref b), some (.int (iz x1)), some (.int (iz x2)), some (.int (iz x3))] [] (SS m5 J6 P7) (QV post)))) := by
  have hN := hX.2.1.1
  have hA1 := hAT.2
  refine c_overlap (d := d + 1) hp hb har hX.1 (by omega) (by omega) hpl (hZ i hi) (hZ j hj) (hX.2.2 i hi) (hX.2.2 j hj) hAT.1 (by omega) (fun hq R hR m1 rt T B col w1 w2 w3 w4 w5 w6 w7 w8 => ⟨hp, zr1, fun _ => ?_, fun g => absurd (by decide) g⟩) (fun hn m1 w1 w2 w3 => ⟨hp, zr0, fun g => absurd rfl g, fun _ => ?_⟩)
  · have hs1 : PKh s.1 s.2 m1 := PKh_fr hs (fun k => w8 _ _ (by decide)) (fun k => w8 _ _ (by decide))
    have F1 : psF m0 m1 := psF_trans hF fun a k g1 g2 => w8 a k (by omega)
    have ev : pst (ayw ar) N Lm Rm Lf Rf i p j = some (pjn (ayw ar) N Lm Rm (pw1 (ayw ar) (Lf i) (Rf i) (Lf j) (Rf j) p R) (pw2 (ayw ar) (Lf i) (Rf i) (Lf j) (Rf j) p R)) := by
      unfold pst
      rw [if_neg hij, if_pos hq, hR]
    have es : pkst (ayw ar) N Lm Rm Lf Rf i p j s = (s.1 + 1, if s.1 < 200 then s.2 ++ [(i, p, j, pjn (ayw ar) N Lm Rm (pw1 (ayw ar) (Lf i) (Rf i) (Lf j) (Rf j) p R) (pw2 (ayw ar) (Lf i) (Rf i) (Lf j) (Rf j) p R))] else s.2) := by
      unfold pkst
      rw [ev]
    rw [es] at k
    dsimp only at k
    have htot := hs1.1.1
    rw [htot]
    refine ⟨by constructor <;> omega, fun g => ?_, fun g => ?_⟩
    · rw [if_neg (by omega)] at k
      refine k _ (PKh_tot hs1) ⟨?_, ?_⟩ (fun a q g1 g2 => (mu_ne _ _ (by omega)).trans (F1 a q g1 g2))
      · refine ⟨by rw [mu_ne _ _ (by omega)]; exact w1.1.1, fun z hz => ?_⟩
        rw [mu_ne _ _ (by omega), mu_ne _ _ (by omega)]
        exact w1.1.2 z hz
      · rw [mu_ne _ _ (by omega)]
        omega
    · have g' : s.1 < 200 := by omega
      rw [if_pos g'] at k
      unfold pkok at hok
      rw [if_pos g'] at hok
      have hX1 := BKC_fr (m' := m1) hb har hX fun a k g => w8 a k (by omega)
      refine c_keep hp hb har hX1 hRg hgR hZ hi hj hpl hR w1 w2 w4 w5 w6 hs1 hok g' (fun m2 u1 u2 u3 u4 => ⟨hp, ?_⟩)
      rw [u1.1.1]
      refine k _ (PKh_tot u1) ⟨?_, ?_⟩ (fun a q g1 g2 => (mu_ne _ _ (by omega)).trans ((u4 a q g1 g2).trans (F1 a q g1 g2)))
      · refine ⟨by rw [mu_ne _ _ (by omega)]; exact u2.1, fun z hz => ?_⟩
        rw [mu_ne _ _ (by omega), mu_ne _ _ (by omega)]
        exact u2.2 z hz
      · rw [mu_ne _ _ (by omega), u3]
        omega
  · have ev : pst (ayw ar) N Lm Rm Lf Rf i p j = none := by
      unfold pst
      rw [if_neg hij]
      by_cases q : cl (Lf i) p = cl (Lf j) 0
      · rw [if_pos q, hn q]
      · rw [if_neg q]
    have es : pkst (ayw ar) N Lm Rm Lf Rf i p j s = s := by
      unfold pkst
      rw [ev]
    rw [es] at k
    exact k m1 (PKh_fr hs (fun k => w3 _ _ (by decide)) (fun k => w3 _ _ (by decide))) ⟨w1, by omega⟩ (psF_trans hF fun a k g1 g2 => w3 a k (by omega))
end PSR
