/-! GOALS and TERMS that are asked about: class and reference -/
section ASK
variable {X : aX} {d : Nat} {P : Mp} {b o sc : Nat} {Sn : Nat → Nat} {ar : Nat → Int} {t : Int → Int} {n most p : Int} {m : Mi} {J : Mj} {Z : Mi}
theorem yA_U (hT : Tx t n) (hp : 0 ≤ p ∧ p ≤ n) (hm : 0 ≤ most) (h5 : yA t n most p 0 5 = 0) : yU n most (yA t n most p) ∧ Tm (nxY (yA t n most p)) (ptY (yA t n most p)) 0 (yA t n most p 0 3).toNat := by
  have hn := hT.2.2.2
  have hA := yA_I (most := most) hT hp hm
  have hK := yrn_K (most := most) hT (by decide) (n + 1).toNat _ (y0_I hp hm) (y0_K (p := p))
  have e1 : yrn t n most 0 (n + 1).toNat (y0 p) = yA t n most p := rfl
  rw [e1] at hK
  obtain ⟨i1, i2, i3, i4, i5, i6, i7, i8, i9⟩ := hA.1
  have hE := hA.2.elim (fun e => absurd h5 e) id
  have h2A : yA t n most p 0 2 = 0 := by omega
  have TA : Tm (nxY (yA t n most p)) (ptY (yA t n most p)) 0 (yA t n most p 0 3).toNat := by
    have := hK.1
    rw [h2A, hE.1] at this
    exact yJ_end this
  refine ⟨⟨by omega, fun c hc => ?_, fun c hc => ?_, i7⟩, TA⟩
  · have g := TA.2.2 c (Nat.zero_le _) (by omega)
    have := ch_le g.2.2
    exact ⟨g, by omega⟩
  · have g := hK.2 c (by omega) hc
    exact ⟨g.1, fun q => (g.2 q).1, i8 c hc⟩
/-- the FAULT of a GOAL and of a TERM (0 without), and its place -/
def qG (t : Int → Int) (n : Int) : Mi := yTwo t n 8 6 (tA t n 0)
def qU (t : Int → Int) (n : Int) : Mi := yA t n 6 (tA t n 0)
def qA (Sn : Nat → Nat) (sc : Nat) (ar : Nat → Int) (t : Int → Int) (n : Int) (Z : Mi) : Int × Int := if Z 0 5 ≠ 0 then (Z 0 5, Z 0 6) else if tK t n (Z 0 0) ≠ 0 then (ft t n (Z 0 0), Z 0 0) else jN Sn sc ar Z (Z 0 3).toNat 0
/-- what asking may change in the class -/
def aF (o : Nat) (m : Mi) (J : Mj) (m' : Mi) (J' : Mj) : Prop := (∀ a k, a ≠ 2 → a ≠ 4 → a ≠ 7 → (a < o ∨ o + 3 < a) → m' a k = m a k) ∧ m' 2 1 = 0 ∧ (∀ a k, a ≠ 2 → a ≠ o + 5 → J' a k = J a k)
theorem c_readGoal (hp : PP P) (kb : am_kd an_K b = some (.inl 10)) (ko : am_kd an_K o = some (.inl 8)) (hE : EB o b) (hs : sc ≤ 16) (hm : ∀ k, k < 1600 → 0 ≤ m 3 k ∧ m 3 k ≤ 255) (hn : 0 ≤ n ∧ n ≤ 1600) (hB : BN b Sn sc m J) (hA : BA b sc ar m) {post : Int → Mi → Mj → Mp → Prop} (k1 : (qA Sn sc ar (txC m n) n (qG (txC m n) n)).1 = 0 → ∀ m' J', m' 4 3 = 0 → m' 4 4 = -1 → EQ o Sn sc (qG (txC m n) n) m' J' → aF o m J m' J' → post 0 m' J' P) (k2 : (qA Sn sc ar (txC m n) n (qG (txC m n) n)).1 ≠ 0 → ∀ m' J', m' 4 3 = (qA Sn sc ar (txC m n) n (qG (txC m n) n)).1 → m' 4 4 = (qA Sn sc ar (txC m n) n (qG (txC m n) n)).2 → aF o m J m' J' → post (qA Sn sc ar (txC m n) n (qG (txC m n) n)).1 m' J' P) : Ci X (d + 6) 91 [.ref 4, .int (iz n), .ref b, .ref o] m J P post := by
  have hT := txC_T hm hn
  have hA0 := tA_bd (t := txC m n) hn.1
  have ho := hE
  unfold EB at ho
  have end45 : ∀ (x4 : Int) (m' : Mi) (J' : Mj), post (m' 4 3) m' J' P → Rn X (d + 6) 91 45 [some (.ref 4), some (.int (iz n)), some (.ref b), some (.ref o), some (.int (iz x4))] [] (SS m' J' P) (QI post) := fun x4 m' J' h => b_Reader_readGoal_45 n b o x4 kb ko m' J' P hp post h
  refine Ci.of rfl rfl rfl (b_Reader_readGoal_0 n b o kb ko m J P hp post (c_begin hp hm hn fun m1 J1 h1 h2 => ⟨hp, ?_⟩))
  have hB1 : BN b Sn sc m1 J1 := BN_fr hB (fun k => h2.1 _ _ (by omega) (by omega)) (fun k => h2.2.1 _ _ (by omega))
  have G : ∀ {m' J'}, qT o m1 J1 m' J' → aF o m J m' J' := fun w => ⟨fun a k g g2 g3 g4 => (w.1 a k g g2 g3 g4).trans (h2.1 a k g g2), w.2.1.trans h2.2.2.1, fun a k g g2 => (w.2.2 a k g g2).trans (h2.2.1 a k g)⟩
  have hbd := yTwo_bd (sign := 8) (most := 6) hT hA0 (by decide)
  refine c_readTwo (sign := 8) (most := 6) hp kb ko hE hT (by decide) (by constructor <;> decide) hA0 h1 hB1 (fun e5 m2 J2 c1 c2 c3 c4 => ⟨hp, zr1, fun h => absurd h (by decide), fun _ => ?_⟩) (fun e5 m2 J2 c1 c2 c3 => ⟨hp, zr0, fun _ => end45 0 m2 J2 ?_, fun h => absurd rfl h⟩)
  · have e5' : qG (txC m n) n 0 5 = 0 := e5
    have c1' : cC (txC m n) n (qG (txC m n) n 0 0) m2 J2 := c1
    have c2' : EQ o Sn sc (qG (txC m n) n) m2 J2 := c2
    have hZ : yZ n 6 (qG (txC m n) n) := yTwo_Z hT hA0 (by decide) e5
    have eA : qA Sn sc ar (txC m n) n (qG (txC m n) n) = if tK (txC m n) n (qG (txC m n) n 0 0) ≠ 0 then (ft (txC m n) n (qG (txC m n) n 0 0), qG (txC m n) n 0 0) else jN Sn sc ar (qG (txC m n) n) (qG (txC m n) n 0 3).toNat 0 := by rw [qA, if_neg (fun h => h e5')]
    have hft := ft_bd (txC m n) n (qG (txC m n) n 0 0)
    refine c_isLast hp c1' zr0 (fun g => ⟨hp, zr1, fun h => absurd h (by decide), fun _ => ?_⟩) (fun g => ⟨hp, zr0, fun _ => end45 0 _ J2 ?_, fun h => absurd rfl h⟩)
    · rw [if_neg (fun h => h g)] at eA
      rw [eA] at k1 k2
      have hA2 : BA b sc ar m2 := fun i hi => by
        rw [c3.1 _ _ (by omega) (by omega) (by omega) (by omega), h2.1 _ _ (by omega) (by omega)]
        exact hA i hi
      refine c_checkNames (ar := ar) hp kb ko hs hA2 (yZ_U hZ) (by decide) hn.2 c2'.1 (fun w => ⟨hp, end45 1 m2 J2 ?_⟩) (fun w => ⟨hp, end45 1 _ J2 ?_⟩)
      · have ek : m2 4 3 = 0 := (c4 _).trans h2.2.2.2.1
        rw [ek]
        exact k1 w m2 J2 ek ((c4 _).trans h2.2.2.2.2) c2' (G c3)
      · have ek : ∀ x y : Int, mu (mu m2 4 3 x) 4 4 y 4 3 = x := fun x y => by rw [mu_ne _ _ (by decide), mu_at]
        rw [ek]
        exact k2 w _ J2 (ek _ _) (mu_at _ _ _ _) (G (qT_trans c3 (qT_q (qF_ref hE.1))))
    · rw [if_pos g] at eA
      rw [eA] at k2
      have ek : ∀ x y : Int, mu (mu m2 4 3 x) 4 4 y 4 3 = x := fun x y => by rw [mu_ne _ _ (by decide), mu_at]
      rw [ek]
      exact k2 (show ft (txC m n) n (qG (txC m n) n 0 0) ≠ 0 by omega) _ J2 (ek _ _) (mu_at _ _ _ _) (G (qT_trans c3 (qT_q (qF_ref hE.1))))
  · have e5' : qG (txC m n) n 0 5 ≠ 0 := e5
    have eA : qA Sn sc ar (txC m n) n (qG (txC m n) n) = (qG (txC m n) n 0 5, qG (txC m n) n 0 6) := by rw [qA, if_pos e5']
    rw [eA] at k2
    rw [c1]
    exact k2 e5' m2 J2 c1 c2 (G c3)
theorem c_readTerm (hp : PP P) (kb : am_kd an_K b = some (.inl 10)) (ko : am_kd an_K o = some (.inl 8)) (hE : EB o b) (hs : sc ≤ 16) (hm : ∀ k, k < 1600 → 0 ≤ m 3 k ∧ m 3 k ≤ 255) (hn : 0 ≤ n ∧ n ≤ 1600) (hB : BN b Sn sc m J) (hA : BA b sc ar m) {post : Int → Mi → Mj → Mp → Prop} (k1 : (qA Sn sc ar (txC m n) n (qU (txC m n) n)).1 = 0 → ∀ m' J', m' 4 3 = 0 → m' 4 4 = -1 → EY o Sn sc (qU (txC m n) n) m' J' → aF o m J m' J' → post 0 m' J' P) (k2 : (qA Sn sc ar (txC m n) n (qU (txC m n) n)).1 ≠ 0 → ∀ m' J', m' 4 3 = (qA Sn sc ar (txC m n) n (qU (txC m n) n)).1 → m' 4 4 = (qA Sn sc ar (txC m n) n (qU (txC m n) n)).2 → aF o m J m' J' → post (qA Sn sc ar (txC m n) n (qU (txC m n) n)).1 m' J' P) : Ci X (d + 5) 80 [.ref 4, .int (iz n), .ref b, .ref o] m J P post := by
  have hT := txC_T hm hn
  have hA0 := tA_bd (t := txC m n) hn.1
  have ho := hE
  unfold EB at ho
  have end52 : ∀ (x4 : Int) (m' : Mi) (J' : Mj), post (m' 4 3) m' J' P → Rn X (d + 5) 80 52 [some (.ref 4), some (.int (iz n)), some (.ref b), some (.ref o), some (.int (iz x4))] [] (SS m' J' P) (QI post) := fun x4 m' J' h => b_Reader_readTerm_52 n b o x4 kb ko m' J' P hp post h
  refine Ci.of rfl rfl rfl (b_Reader_readTerm_0 n b o kb ko m J P hp post (c_begin hp hm hn fun m1 J1 h1 h2 => ⟨hp, c_clear hp ko ⟨hp, ?_⟩⟩))
  have q1 : qT o m1 J1 (mu (mu (mu (mu (mu m1 o 5 0) o 6 0) o 7 0) o 8 0) o 9 (-1)) J1 := qT_trans (qT_o hE.1) (qT_trans (qT_o hE.1) (qT_trans (qT_o hE.1) (qT_trans (qT_o hE.1) (qT_o hE.1))))
  have r1 : ∀ k, mu (mu (mu (mu (mu m1 o 5 0) o 6 0) o 7 0) o 8 0) o 9 (-1) 4 k = m1 4 k := fun k => by rw [mu_ne _ _ (by omega), mu_ne _ _ (by omega), mu_ne _ _ (by omega), mu_ne _ _ (by omega), mu_ne _ _ (by omega)]
  have hB1 : BN b Sn sc m1 J1 := BN_fr hB (fun k => h2.1 _ _ (by omega) (by omega)) (fun k => h2.2.1 _ _ (by omega))
  have G : ∀ {m' J'}, qT o m1 J1 m' J' → aF o m J m' J' := fun w => ⟨fun a k g g2 g3 g4 => (w.1 a k g g2 g3 g4).trans (h2.1 a k g g2), w.2.1.trans h2.2.2.1, fun a k g g2 => (w.2.2 a k g g2).trans (h2.2.1 a k g)⟩
  have z0 : y0 (tA (txC m n) n 0) 0 0 = tA (txC m n) n 0 := by simp [y0, mu]
  have hC1 : cC (txC m n) n (y0 (tA (txC m n) n 0) 0 0) (mu (mu (mu (mu (mu m1 o 5 0) o 6 0) o 7 0) o 8 0) o 9 (-1)) J1 := by
    rw [z0]
    exact cC_fr h1 (fun k => by rw [mu_ne _ _ (by omega), mu_ne _ _ (by omega), mu_ne _ _ (by omega), mu_ne _ _ (by omega), mu_ne _ _ (by omega)]) (fun k => by rw [mu_ne _ _ (by omega), mu_ne _ _ (by omega), mu_ne _ _ (by omega), mu_ne _ _ (by omega), mu_ne _ _ (by omega)]) (fun _ => rfl)
  have hY1 : EY o Sn sc (y0 (tA (txC m n) n 0)) (mu (mu (mu (mu (mu m1 o 5 0) o 6 0) o 7 0) o 8 0) o 9 (-1)) J1 := by
    simp only [EY, y0, mu]
    simp
    exact ⟨fun c hc => by omega, fun v hv => by omega⟩
  -- closeLeft(NONE): nothing else changes
  have cl : ∀ (m' : Mi) (J' : Mj) (Q : Mi → Mj → Mp → Prop), (∀ x y : Int, Q (mu (mu (mu m' o 5 x) o 8 y) o 9 (-1)) J' P) → Cv X (d + 4) 35 [.ref o, .int (iz (-1))] m' J' P (fun m17 J18 P19 => PP P19 ∧ Q m17 J18 P19) := fun m' J' Q h => c_closeLeft hp ko ⟨hp, h _ _⟩
  have qc : ∀ (m' : Mi) (J' : Mj) (x y : Int), qT o m' J' (mu (mu (mu m' o 5 x) o 8 y) o 9 (-1)) J' := fun m' J' x y => qT_trans (qT_o hE.1) (qT_trans (qT_o hE.1) (qT_o hE.1))
  have fc : ∀ (m' : Mi) (x y : Int) (a k : Nat), ¬ (a = o ∧ (k = 5 ∨ k = 8 ∨ k = 9)) → mu (mu (mu m' o 5 x) o 8 y) o 9 (-1) a k = m' a k := fun m' x y a k h => by rw [mu_ne _ _ (by omega), mu_ne _ _ (by omega), mu_ne _ _ (by omega)]
  refine c_readSide (Y := y0 (tA (txC m n) n 0)) (fr := 0) (most := 6) hp kb ko hE hT (by decide) (by decide) (by simp [y0, mu]) (by simp [y0, mu]) (by simp [y0, mu]) (by simp [y0, mu]) (y0_I hA0 (by decide)) hC1 hY1 (BN_T hE hB1 q1) (fun e5 m2 J2 c1 c2 c3 c4 => ⟨hp, zr1, fun h => absurd h (by decide), fun _ => ?_⟩) (fun e5 m2 J2 c1 c2 c3 => ⟨hp, zr0, fun _ => cl m2 J2 _ (fun x y => end52 0 _ J2 ?_), fun h => absurd rfl h⟩)
  · have e5' : qU (txC m n) n 0 5 = 0 := e5
    have c1' : cC (txC m n) n (qU (txC m n) n 0 0) m2 J2 := c1
    have c2' : EY o Sn sc (qU (txC m n) n) m2 J2 := c2
    have hZ : yU n 6 (qU (txC m n) n) := (yA_U hT hA0 (by decide) e5).1
    have eA : qA Sn sc ar (txC m n) n (qU (txC m n) n) = if tK (txC m n) n (qU (txC m n) n 0 0) ≠ 0 then (ft (txC m n) n (qU (txC m n) n 0 0), qU (txC m n) n 0 0) else jN Sn sc ar (qU (txC m n) n) (qU (txC m n) n 0 3).toNat 0 := by rw [qA, if_neg (fun h => h e5')]
    have hft := ft_bd (txC m n) n (qU (txC m n) n 0 0)
    have q2 := qT_trans q1 (qT_q c3)
    refine c_isLast hp c1' zr0 (fun g => ⟨hp, zr1, fun h => absurd h (by decide), fun _ => cl m2 J2 _ (fun x y => ?_)⟩) (fun g => ⟨hp, zr0, fun _ => cl _ J2 _ (fun x y => end52 0 _ J2 ?_), fun h => absurd rfl h⟩)
    · rw [if_neg (fun h => h g)] at eA
      rw [eA] at k1 k2
      have q3 := qT_trans q2 (qc m2 J2 x y)
      have hA2 : BA b sc ar (mu (mu (mu m2 o 5 x) o 8 y) o 9 (-1)) := fun i hi => by
        rw [q3.1 _ _ (by omega) (by omega) (by omega) (by omega), h2.1 _ _ (by omega) (by omega)]
        exact hA i hi
      have c2'' : EY o Sn sc (qU (txC m n) n) (mu (mu (mu m2 o 5 x) o 8 y) o 9 (-1)) J2 := by
        obtain ⟨s1, s2, s3, s4⟩ := c2'
        refine ⟨by rw [fc _ _ _ _ _ (by omega)]; exact s1, fun c hc => ?_, by rw [fc _ _ _ _ _ (by omega)]; exact s3, s4⟩
        rw [fc _ _ _ _ _ (by omega), fc _ _ _ _ _ (by omega), fc _ _ _ _ _ (by omega)]
        exact s2 c hc
      have ekk : ∀ k, mu (mu (mu m2 o 5 x) o 8 y) o 9 (-1) 4 k = m1 4 k := fun k => by rw [fc _ _ _ _ _ (by omega), c4, r1]
      refine c_checkNames (ar := ar) hp kb ko hs hA2 hZ (by decide) hn.2 c2'' (fun w => ⟨hp, end52 1 _ J2 ?_⟩) (fun w => ⟨hp, end52 1 _ J2 ?_⟩)
      · have ek : mu (mu (mu m2 o 5 x) o 8 y) o 9 (-1) 4 3 = 0 := (ekk _).trans h2.2.2.2.1
        rw [ek]
        exact k1 w _ J2 ek ((ekk _).trans h2.2.2.2.2) c2'' (G q3)
      · have ek : ∀ (m' : Mi) (x y : Int), mu (mu m' 4 3 x) 4 4 y 4 3 = x := fun m' x y => by rw [mu_ne _ _ (by decide), mu_at]
        rw [ek]
        exact k2 w _ J2 (ek _ _ _) (mu_at _ _ _ _) (G (qT_trans q3 (qT_q (qF_ref hE.1))))
    · rw [if_pos g] at eA
      rw [eA] at k2
      have ek : mu (mu (mu (mu (mu m2 4 3 (ft (txC m n) n (qU (txC m n) n 0 0))) 4 4 (qU (txC m n) n 0 0)) o 5 x) o 8 y) o 9 (-1) 4 3 = ft (txC m n) n (qU (txC m n) n 0 0) := by rw [fc _ _ _ _ _ (by omega), mu_ne _ _ (by decide), mu_at]
      rw [ek]
      exact k2 (show ft (txC m n) n (qU (txC m n) n 0 0) ≠ 0 by omega) _ J2 ek (by rw [fc _ _ _ _ _ (by omega), mu_at]) (G (qT_trans q2 (qT_trans (qT_q (qF_ref hE.1)) (qc _ J2 x y))))
  · have e5' : qU (txC m n) n 0 5 ≠ 0 := e5
    have eA : qA Sn sc ar (txC m n) n (qU (txC m n) n) = (qU (txC m n) n 0 5, qU (txC m n) n 0 6) := by rw [qA, if_pos e5']
    have c1' : m2 4 3 = qU (txC m n) n 0 5 := c1
    have c2' : m2 4 4 = qU (txC m n) n 0 6 := c2
    rw [eA] at k2
    have ek : mu (mu (mu m2 o 5 x) o 8 y) o 9 (-1) 4 3 = qU (txC m n) n 0 5 := by rw [fc _ _ _ _ _ (by omega)]; exact c1'
    rw [ek]
    exact k2 e5' _ J2 ek (by rw [fc _ _ _ _ _ (by omega)]; exact c2') (G (qT_trans q1 (qT_trans (qT_q c3) (qc m2 J2 x y))))
end ASK
