/-! a SYSTEM read and judged, whole: class and reference -/
section SYS
variable {X : aX} {d : Nat} {P : Mp} {b o sc : Nat} {Sn : Nat → Nat} {ar : Nat → Int} {t : Int → Int} {n most : Int} {m : Mi} {J : Mj} {R : Nat → Mi}
/-- the text of n signs on the class's tape -/
def txC (m : Mi) (n : Int) : Int → Int := fun x => if n ≤ x then 0 else m 3 x.toNat
def txR (m : Mi) (n : Int) : Int → Int := fun x => if n ≤ x then 0 else zand (m 263 x.toNat) 255
theorem txC_T (hm : ∀ k, k < 1600 → 0 ≤ m 3 k ∧ m 3 k ≤ 255) (hn : 0 ≤ n ∧ n ≤ 1600) : Tx (txC m n) n := by
  refine ⟨fun x => ?_, fun x hx => ?_, hn.1, hn.2⟩
  · unfold txC
    split
    · omega
    · exact hm _ (by omega)
  · unfold txC
    rw [if_pos hx]
theorem tA_bd (hn : 0 ≤ n) : 0 ≤ tA t n 0 ∧ tA t n 0 ≤ n := tA_le hn
/-- what beginning may change -/
def bgC (m : Mi) (J : Mj) (m' : Mi) (J' : Mj) : Prop := (∀ a k, a ≠ 2 → a ≠ 4 → m' a k = m a k) ∧ (∀ a k, a ≠ 2 → J' a k = J a k) ∧ m' 2 1 = 0 ∧ m' 4 3 = 0 ∧ m' 4 4 = -1
theorem c_begin (hp : PP P) (hm : ∀ k, k < 1600 → 0 ≤ m 3 k ∧ m 3 k ≤ 255) (hn : 0 ≤ n ∧ n ≤ 1600) {post : Mi → Mj → Mp → Prop} (k : ∀ m' J', cC (txC m n) n (tA (txC m n) n 0) m' J' → bgC m J m' J' → post m' J' P) : Cv X (d + 4) 17 [.ref 4, .int (iz n)] m J P post := by
  refine Cv.of rfl rfl rfl (b_Reader_begin_0 n m J P hp post (Cv.of rfl rfl rfl (b_Text_begin_0 n _ J P hp _ ?_)))
  refine c_go (t := txC m n) (n := n) (b := 0) hp (txC_T hm hn) ⟨Int.le_refl _, hn.1⟩ (mu_at _ _ _ _) ?_ ?_ (fun m' J' h1 h2 => ⟨hp, hp, k m' J' h1 ⟨fun a k g g2 => ?_, fun a k g => h2.2 a k (fun e => g e.1), ?_, ?_, ?_⟩⟩)
  · rw [mu_ne _ _ (by decide), mu_ne _ _ (by decide), mu_at]
  · funext x
    unfold lc txC
    rw [mu_ne (y := 2) _ _ (by decide), mu_ne (y := 2) _ _ (by decide), mu_at, mu_ne _ _ (by omega), mu_ne _ _ (by omega), mu_ne _ _ (by omega), mu_ne _ _ (by omega), mu_ne _ _ (by omega)]
  · rw [h2.1 a k (fun e => g e.1), mu_ne _ _ (by omega), mu_ne _ _ (by omega), mu_ne _ _ (by omega), mu_ne _ _ (by omega), mu_ne _ _ (by omega)]
  · rw [h2.1 _ _ (by decide), mu_ne _ _ (by decide), mu_at]
  · rw [h2.1 _ _ (by decide), mu_ne _ _ (by decide), mu_ne _ _ (by decide), mu_ne _ _ (by decide), mu_ne _ _ (by decide), mu_at]
  · rw [h2.1 _ _ (by decide), mu_ne _ _ (by decide), mu_ne _ _ (by decide), mu_ne _ _ (by decide), mu_at]
def bgR (m : Mi) (J : Mj) (m' : Mi) (J' : Mj) : Prop := (∀ a k, ¬ (a = 262 ∧ (k = 1 ∨ k = 2 ∨ k = 3 ∨ k = 4 ∨ k = 5 ∨ k = 6 ∨ k = 10)) → m' a k = m a k) ∧ (∀ a k, ¬ (a = 262 ∧ k = 7) → J' a k = J a k) ∧ m' 262 1 = 0 ∧ m' 262 10 = 0
theorem txR_T (hn : 0 ≤ n ∧ n ≤ 1600) : Tx (txR m n) n := by
  refine ⟨fun x => ?_, fun x hx => ?_, hn.1, hn.2⟩
  · unfold txR
    split
    · omega
    · exact zand_255 _
  · unfold txR
    rw [if_pos hx]
theorem r_begin (hp : PP P) (hn : 0 ≤ n ∧ n ≤ 1600) (h6 : -2147483648 ≤ m 262 6 ∧ m 262 6 ≤ 2147483647) (hw : wds J) {post : Mi → Mj → Mp → Prop} (k : ∀ m' J', rC (txR m n) n (tA (txR m n) n 0) m' J' → bgR m J m' J' → post m' J' P) : Cv X (d + 3) 137 [.ref 262, .int (iz n)] m J P post := by
  refine Cv.of rfl rfl rfl (b_Mdl_begin_0 n m J P hp post ?_)
  refine r_go (t := txR m n) (n := n) (b := 0) hp (txR_T hn) ⟨Int.le_refl _, hn.1⟩ ?_ ?_ ?_ ?_ hw (fun m' J' h1 h2 => ⟨hp, k m' J' h1 ⟨fun a k g => ?_, fun a k g => h2.2 a k g, ?_, ?_⟩⟩)
  · rw [mu_ne _ _ (by decide), mu_at]
  · rw [mu_ne _ _ (by decide), mu_ne _ _ (by decide), mu_ne _ _ (by decide), mu_at]
  · funext x
    unfold lk txR
    rw [mu_ne (y := 2) _ _ (by decide), mu_ne (y := 2) _ _ (by decide), mu_ne (y := 2) _ _ (by decide), mu_at, mu_ne _ _ (by omega), mu_ne _ _ (by omega), mu_ne _ _ (by omega), mu_ne _ _ (by omega)]
  · rw [mu_ne _ _ (by decide), mu_ne _ _ (by decide), mu_ne _ _ (by decide), mu_ne _ _ (by decide)]; exact h6
  · rw [h2.1 a k (fun e => g ⟨e.1, by omega⟩), mu_ne _ _ (by omega), mu_ne _ _ (by omega), mu_ne _ _ (by omega), mu_ne _ _ (by omega)]
  · rw [h2.1 _ _ (by decide), mu_ne _ _ (by decide), mu_ne _ _ (by decide), mu_at]
  · rw [h2.1 _ _ (by decide), mu_at]
/-- the SYSTEM of a text -/
def qS (t : Int → Int) (n : Int) : Mi := sAll t n (tA t n 0)
def qSn (t : Int → Int) (n : Int) (i : Nat) : Nat := (qS t n 2 i).toNat
def qsc (t : Int → Int) (n : Int) : Nat := (qS t n 0 3).toNat
def qar (t : Int → Int) (n : Int) (i : Nat) : Int := qS t n 4 i
def qpl (t : Int → Int) (n : Int) (i : Nat) : Int := qS t n 3 i
def qR (t : Int → Int) (n : Int) (u : Nat) : Mi := Ru t n (qS t n 0 0) u
def qF_ (t : Int → Int) (n : Int) : Int × Int × Nat := yF t n (tA t n 0)
def qN (t : Int → Int) (n : Int) : Nat := (qF_ t n).2.2
noncomputable def qJ (t : Int → Int) (n : Int) : Int × Int := if (qF_ t n).1 ≠ 0 then ((qF_ t n).1, (qF_ t n).2.1) else jAll (qSn t n) (qsc t n) (qar t n) (qpl t n) (qR t n) (qN t n)
theorem rE_ok {p1 : Int} : ∀ (k u : Nat), (rE t n p1 k u).1 = 0 → ∀ v, u ≤ v → v < (rE t n p1 k u).2.2 → Ru t n p1 v 0 5 = 0
  | 0, u, h, v, h1, h2 => by
    exfalso
    rw [rE] at h2
    revert h2
    (repeat' split) <;> simp <;> omega
  | k + 1, u, h, v, h1, h2 => by
    rw [rE] at h h2
    by_cases g11 : tK t n (rp t n p1 u) = 11
    · rw [if_pos g11] at h h2
      by_cases g5 : Ru t n p1 u 0 5 ≠ 0
      · rw [if_pos g5] at h
        exact absurd h g5
      · rw [if_neg g5] at h h2
        by_cases g7 : tK t n (Ru t n p1 u 0 0) ≠ 7
        · rw [if_pos g7] at h
          have := ft_bd t n (Ru t n p1 u 0 0)
          exact absurd h (show ft t n (Ru t n p1 u 0 0) ≠ 0 by omega)
        · rw [if_neg g7] at h h2
          by_cases e : v = u
          · rw [e]; exact Classical.not_not.mp g5
          · exact rE_ok k (u + 1) h v (by omega) h2
    · rw [if_neg g11] at h2
      exfalso
      revert h2
      split <;> simp <;> omega
theorem qR_Z (hT : Tx t n) (h : (qF_ t n).1 = 0) {v : Nat} (hv : v < qN t n) : yZ n 8 (qR t n v) := by
  have hS := sAll_I hT (tA_bd (t := t) hT.2.2.1)
  have e : qF_ t n = rE t n (qS t n 0 0) 16 0 := by
    unfold qF_ yF at h ⊢
    by_cases g : sAll t n (tA t n 0) 0 5 ≠ 0
    · rw [if_pos g] at h; exact absurd h g
    · rw [if_neg g]; rfl
  unfold qN at hv
  rw [e] at h hv
  have h5 := rE_ok 16 0 h v (Nat.zero_le _) hv
  have hr := rp_bd hT hS.1 v
  have ha := nxp_le hT hr.2
  exact yTwo_Z hT (by show 0 ≤ nxp t n (rp t n (qS t n 0 0) v) ∧ nxp t n (rp t n (qS t n 0 0) v) ≤ n; exact ⟨Int.le_trans hr.1 ha.1, ha.2⟩) (by decide) h5
theorem qN_le (hT : Tx t n) : qN t n ≤ 16 := by
  have hS := sAll_I hT (tA_bd (t := t) hT.2.2.1)
  unfold qN qF_ yF
  split
  · exact Nat.zero_le _
  · have := (rE_bd hT hS.1 16 0).2.1
    omega
/-- what is behind a SYSTEM, in the class -/
def sysG (b : Nat) (m : Mi) (J : Mj) (m' : Mi) (J' : Mj) : Prop := (∀ a k, a ≠ 2 → a ≠ 4 → a ≠ 6 → a ≠ 7 → (a < b ∨ b + 101 ≤ a) → m' a k = m a k) ∧ (∀ a k, a ≠ 2 → (a < b ∨ b + 101 ≤ a) → J' a k = J a k) ∧ m' 2 1 = 0
theorem c_judge_130 {N : Nat} {x1 : Int} (hp : PP P) (hb : b = 54 ∨ b = 155) (hN16 : N ≤ 16) (hs : sc ≤ 16) (hn : n ≤ 1600) (hm : most ≤ 8) (hZ : ∀ v, v < N → yZ n most (R v)) {m0 : Mi} {post : Int → Mi → Mj → Mp → Prop} : ∀ (k u : Nat) (m : Mi), u + k = N → m b 5 = N → BA b sc ar m → (∀ v, v < N → EQ (b + 5 + 6 * v) Sn sc (R v) m J) → (∀ a k, a ≠ 6 → m a k = m0 a k) → ((jT Sn sc ar R k u).1 = 0 → ∀ m', (∀ a k, a ≠ 6 → m' a k = m0 a k) → post (m' 4 3) m' J P) → ((jT Sn sc ar R k u).1 ≠ 0 → ∀ m', m' 4 3 = (jT Sn sc ar R k u).1 → m' 4 4 = (jT Sn sc ar R k u).2 → (∀ a k, a ≠ 6 → a ≠ 4 → m' a k = m0 a k) → post (m' 4 3) m' J P) → Rn X (d + 6) 16 130 [some (.ref 4), some (.int (iz x1)), some (.ref b), some (.int (iz 1)), some (.int (iz (u : Int)))] [] (SS m J P) (QI post) := by
  have kb := kd_book hb
  intro k
  induction k with
  | zero =>
    intro u m hu h5 hA hQ hf k1 k2
    exact b_Reader_readSystem_130 x1 b 1 u kb m J P hp post ⟨by constructor <;> omega, by rw [h5]; constructor <;> omega, fun _ => k1 rfl m hf, fun h => absurd (by rw [h5]; omega) h⟩
  | succ k ih =>
    intro u m hu h5 hA hQ hf k1 k2
    have eu : b + 5 + 6 * ((u : Nat) : Int).toNat = b + 5 + 6 * u := by omega
    have ko := kd_rule hb (u := u) (by omega)
    have q := hQ u (by omega)
    have hz := hZ u (by omega)
    have en : ((u : Nat) : Int) + 1 = ((u + 1 : Nat) : Int) := by omega
    have bN := jN_bd (Sn := Sn) (sc := sc) ar (R u) (R u 0 3).toNat 0
    refine b_Reader_readSystem_130 x1 b 1 u kb m J P hp post ⟨by constructor <;> omega, by rw [h5]; constructor <;> omega, fun h => absurd h (by rw [h5]; omega), fun _ => ⟨zr1, fun h => absurd h (by decide), fun _ => ⟨by omega, ?_⟩⟩⟩
    rw [eu, en]
    refine c_checkNames (ar := ar) hp kb ko hs hA (yZ_U hz) hm hn q.1 (fun g => ⟨hp, zr1, fun h => absurd h (by decide), fun _ => ⟨by omega, ?_⟩⟩) (fun g => ⟨hp, zr0, fun _ => ?_, fun h => absurd rfl h⟩)
    · refine c_checkRule hp ko (by omega) hz hm hn hs (fun i hi => (hA i hi).2) q g (fun g2 m1 w1 => ⟨hp, zr1, fun h => absurd h (by decide), fun _ => ?_⟩) (fun g2 m1 w1 w2 w3 => ⟨hp, zr0, fun _ => ?_, fun h => absurd rfl h⟩)
      · have e : jT Sn sc ar R (k + 1) u = jT Sn sc ar R k (u + 1) := by rw [jT, if_neg (fun h => h g2)]
        rw [e] at k1 k2
        exact ih (u + 1) m1 (by omega) (by rw [w1 _ _ (by omega)]; exact h5) (fun i hi => by rw [w1 _ _ (by omega)]; exact hA i hi) (fun v hv => EQ_fr (hQ v hv) (fun a k q1 q2 => w1 _ _ (by omega)) (fun _ => rfl)) (fun a k h => (w1 a k h).trans (hf a k h)) k1 k2
      · have e : jT Sn sc ar R (k + 1) u = jR Sn sc ar (R u) := by rw [jT, if_pos g2]
        rw [e] at k2
        exact c_rs_130_0 hp kb (by rw [w3 _ _ (by omega) (by omega), h5]; omega) (by omega) (k2 g2 m1 w1 w2 (fun a k h h2 => (w3 a k h h2).trans (hf a k h)))
    · have ejR : jR Sn sc ar (R u) = jN Sn sc ar (R u) (R u 0 3).toNat 0 := by rw [jR, if_pos g]
      have e : jT Sn sc ar R (k + 1) u = jN Sn sc ar (R u) (R u 0 3).toNat 0 := by rw [jT, ejR, if_pos g]
      rw [e] at k2
      refine c_rs_130_0 hp kb (by rw [mu_ne _ _ (by omega), mu_ne _ _ (by omega), h5]; omega) (by omega) (k2 g _ (by rw [mu_ne _ _ (by decide), mu_at]) (mu_at _ _ _ _) (fun a k h h2 => by rw [mu_ne _ _ (by omega), mu_ne _ _ (by omega)]; exact hf a k h))
/-- readSystem() of the class -/
theorem c_readSystem (hp : PP P) (hb : b = 54 ∨ b = 155) (hm : ∀ k, k < 1600 → 0 ≤ m 3 k ∧ m 3 k ≤ 255) (hn : 0 ≤ n ∧ n ≤ 1600) {post : Int → Mi → Mj → Mp → Prop} (k1 : (qJ (txC m n) n).1 = 0 → ∀ m' J', m' 4 3 = 0 → m' 4 4 = -1 → BN b (qSn (txC m n) n) (qsc (txC m n) n) m' J' → BA b (qsc (txC m n) n) (qar (txC m n) n) m' → m' b 5 = qN (txC m n) n → (∀ v, v < qN (txC m n) n → EQ (b + 5 + 6 * v) (qSn (txC m n) n) (qsc (txC m n) n) (qR (txC m n) n v) m' J') → sysG b m J m' J' → post 0 m' J' P) (k2 : (qJ (txC m n) n).1 ≠ 0 → ∀ m' J', m' 4 3 = (qJ (txC m n) n).1 → m' 4 4 = (qJ (txC m n) n).2 → sysG b m J m' J' → post (qJ (txC m n) n).1 m' J' P) : Ci X (d + 6) 16 [.ref 4, .int (iz n), .ref b] m J P post := by
  have kb := kd_book hb
  have hT := txC_T hm hn
  have hA0 := tA_bd (t := txC m n) hn.1
  have hS := sAll_I hT hA0
  have hN := qN_le hT
  have hS3 := hS.2.2.1
  have esc : ((qsc (txC m n) n : Nat) : Int) = sAll (txC m n) n (tA (txC m n) n 0) 0 3 := by
    unfold qsc qS
    omega
  have hs16 : qsc (txC m n) n ≤ 16 := by omega
  refine Ci.of rfl rfl rfl (b_Reader_readSystem_0 n b kb m J P hp post (c_begin hp hm hn fun m1 J1 h1 h2 => ⟨hp, ?_⟩))
  have f1 : ∀ a k, a ≠ 2 → a ≠ 4 → a ≠ b → mu (mu m1 b 4 0) b 5 0 a k = m a k := fun a k g g2 g3 => by rw [mu_ne _ _ (by omega), mu_ne _ _ (by omega)]; exact h2.1 a k g g2
  have g24 : ∀ a k, (a = 2 ∨ a = 4) → mu (mu m1 b 4 0) b 5 0 a k = m1 a k := fun a k g => by rw [mu_ne _ _ (by omega), mu_ne _ _ (by omega)]
  refine c_readSymbols hp kb (by omega) hT hA0 (cC_fr h1 (fun k => g24 _ _ (Or.inl rfl)) (fun k => by rw [mu_ne _ _ (by omega), mu_ne _ _ (by omega)]) (fun _ => rfl)) (by rw [mu_ne _ _ (fun e => absurd e.2 (by decide)), mu_at]) (fun e5 m2 J2 c1 c2 c3 c4 => ⟨hp, ?_⟩) (fun e5 m2 J2 c1 c2 c3 => ⟨hp, ?_⟩)
  · have eF : qF_ (txC m n) n = rE (txC m n) n (sAll (txC m n) n (tA (txC m n) n 0) 0 0) 16 0 := by unfold qF_ yF; rw [if_neg (fun g => g e5)]
    have hB2 : BN b (qSn (txC m n) n) (qsc (txC m n) n) m2 J2 := ⟨⟨c2.1.trans esc.symm, hs16⟩, fun i hi => ⟨(c2.2 i (by omega)).1, (hS.2.2.2.1 i (by omega)).1.2⟩⟩
    have hb5 : m2 b 5 = ((0 : Nat) : Int) := by rw [c3.2.2.2 _ (by decide), mu_at]; rfl
    have G : ∀ {m' J'}, sysF b m2 J2 m' J' → sysG b m J m' J' := fun w => ⟨fun a k g g2 g3 g4 g5 => by rw [w.1 a k g g2 g4 g5, c3.1 a k g g2 (by omega)]; exact f1 a k g g2 (by omega), fun a k g g2 => by rw [w.2.2 a k g g2, c3.2.2.1 a k g (by omega)]; exact h2.2.1 a k g, by rw [w.2.1, c3.2.1, g24 _ _ (Or.inl rfl)]; exact h2.2.2.1⟩
    have H : ∀ {m' m'' J'}, sysG b m J m' J' → (∀ a k, a ≠ 6 → a ≠ 4 → m'' a k = m' a k) → sysG b m J m'' J' := fun w v => ⟨fun a k g g2 g3 g4 g5 => (v a k g3 g2).trans (w.1 a k g g2 g3 g4 g5), w.2.1, (v _ _ (by decide) (by decide)).trans w.2.2⟩
    refine c_rules_24 (Sn := qSn (txC m n) n) (sc := qsc (txC m n) n) hp hb hT hS.1 16 0 (by decide) m2 J2 c1 hB2 hb5 (fun v hv => absurd hv (Nat.not_lt_zero _)) (fun g m' J' q1 q2 q3 => ?_) (fun g m' J' x3 x4 q1 q2 q3 q4 q5 q6 q7 => ?_)
    · have eJ : qJ (txC m n) n = ((qF_ (txC m n) n).1, (qF_ (txC m n) n).2.1) := by rw [qJ, eF, if_pos g]
      rw [eJ, eF] at k2
      rw [q1]
      exact k2 g m' J' q1 q2 (G q3)
    · have eJ : qJ (txC m n) n = jAll (qSn (txC m n) n) (qsc (txC m n) n) (qar (txC m n) n) (qpl (txC m n) n) (qR (txC m n) n) (qN (txC m n) n) := by rw [qJ, eF, if_neg (fun h => h g)]
      have eN : qN (txC m n) n = (rE (txC m n) n (sAll (txC m n) n (tA (txC m n) n 0) 0 0) 16 0).2.2 := by unfold qN; rw [eF]
      rw [← eN] at q1 q2
      have hZ : ∀ v, v < qN (txC m n) n → yZ n 8 (qR (txC m n) n v) := fun v hv => qR_Z hT (by rw [eF]; exact g) hv
      have q2' : ∀ v, v < qN (txC m n) n → EQ (b + 5 + 6 * v) (qSn (txC m n) n) (qsc (txC m n) n) (qR (txC m n) n v) m' J' := q2
      have hA' : BA b (qsc (txC m n) n) (qar (txC m n) n) m' := fun i hi => ⟨by rw [q6 _ _ (by omega) (by omega) (by omega)]; exact (c2.2 i (by omega)).2.1, (hS.2.2.2.1 i (by omega)).2.2⟩
      have hkp : ∀ k, m' 4 k = m1 4 k := fun k => (q5 k).trans ((c4 k).trans (g24 _ _ (Or.inr rfl)))
      rw [eJ] at k1 k2
      have jb := jS_bd (qSn (txC m n) n) (qsc (txC m n) n) 0
      refine c_checkSymbols hp kb q3 (fun w => ⟨hp, zr1, fun h => absurd h (by decide), fun _ => ?_⟩) (fun w => ⟨hp, zr0, fun _ => ?_, fun h => absurd rfl h⟩)
      · have e : jAll (qSn (txC m n) n) (qsc (txC m n) n) (qar (txC m n) n) (qpl (txC m n) n) (qR (txC m n) n) (qN (txC m n) n) = jT (qSn (txC m n) n) (qsc (txC m n) n) (qar (txC m n) n) (qR (txC m n) n) (qN (txC m n) n) 0 := by rw [jAll, if_neg (by omega)]
        rw [e] at k1 k2
        refine c_judge_130 (R := qR (txC m n) n) (ar := qar (txC m n) n) (m0 := m') hp hb hN hs16 hn.2 (by decide) hZ (qN (txC m n) n) 0 m' (by omega) q1 hA' q2' (fun _ _ _ => rfl) (fun w2 m3 v => ?_) (fun w2 m3 v1 v2 v3 => ?_)
        · have ek : m3 4 3 = 0 := by rw [v _ _ (by decide), hkp]; exact h2.2.2.2.1
          have ep : m3 4 4 = -1 := by rw [v _ _ (by decide), hkp]; exact h2.2.2.2.2
          rw [ek]
          exact k1 w2 m3 J' ek ep (BN_fr q3 (fun k => v _ _ (by omega)) (fun _ => rfl)) (fun i hi => by rw [v _ _ (by omega)]; exact hA' i hi) (by rw [v _ _ (by omega)]; exact q1) (fun u hu => EQ_fr (q2' u hu) (fun a k _ _ => v _ _ (by omega)) (fun _ => rfl)) (H (G q4) (fun a k g _ => v a k g))
        · rw [v1]
          exact k2 w2 m3 J' v1 v2 (H (G q4) v3)
      · have e : jAll (qSn (txC m n) n) (qsc (txC m n) n) (qar (txC m n) n) (qpl (txC m n) n) (qR (txC m n) n) (qN (txC m n) n) = (4, qpl (txC m n) n (jS (qSn (txC m n) n) (qsc (txC m n) n) 0).toNat) := by rw [jAll, if_pos w]
        rw [e] at k2
        have epl : m' (b + 3) (jS (qSn (txC m n) n) (qsc (txC m n) n) 0).toNat = qpl (txC m n) n (jS (qSn (txC m n) n) (qsc (txC m n) n) 0).toNat := by
          rw [q6 _ _ (by omega) (by omega) (by omega)]
          exact (c2.2 _ (by omega)).2.2
        rw [epl]
        have ek : mu (mu m' 4 3 4) 4 4 (qpl (txC m n) n (jS (qSn (txC m n) n) (qsc (txC m n) n) 0).toNat) 4 3 = 4 := by rw [mu_ne _ _ (by decide), mu_at]
        have done := k2 (show (4 : Int) ≠ 0 by decide) _ J' ek (mu_at _ _ _ _) (H (G q4) (fun a k _ h => by rw [mu_ne _ _ (by omega), mu_ne _ _ (by omega)]))
        exact c_rs_125 hp kb (by rw [mu_ne _ _ (by omega), mu_ne _ _ (by omega), q1]; omega) (by rw [ek]; exact done)
  · have eF : qF_ (txC m n) n = (sAll (txC m n) n (tA (txC m n) n 0) 0 5, sAll (txC m n) n (tA (txC m n) n 0) 0 6, 0) := by unfold qF_ yF; rw [if_pos e5]
    have eJ : qJ (txC m n) n = ((qF_ (txC m n) n).1, (qF_ (txC m n) n).2.1) := by rw [qJ, eF, if_pos e5]
    rw [eJ, eF] at k2
    refine c_rs_24_0 hp kb (by rw [c3.2.2.2 _ (by decide), mu_at]; decide) (by decide) ?_
    rw [c1]
    exact k2 e5 m2 J2 c1 c2 ⟨fun a k g g2 g3 g4 g5 => by rw [c3.1 a k g g2 (by omega)]; exact f1 a k g g2 (by omega), fun a k g g2 => by rw [c3.2.2.1 a k g (by omega)]; exact h2.2.1 a k g, by rw [c3.2.1, g24 _ _ (Or.inl rfl)]; exact h2.2.2.1⟩
/-- what reading and judging may change in the reference -/
def sysR (m : Mi) (J : Mj) (m' : Mi) (J' : Mj) : Prop := (∀ a k, ¬ (a = 262 ∧ (k = 1 ∨ k = 2 ∨ k = 3 ∨ k = 4 ∨ k = 5 ∨ k = 6 ∨ k = 10 ∨ k = 11 ∨ k = 14 ∨ k = 15 ∨ k = 16 ∨ k = 17 ∨ k = 56 ∨ k = 57)) → ¬ (264 ≤ a ∧ a ≤ 278) → ¬ (291 ≤ a ∧ a ≤ 295) → m' a k = m a k) ∧ (∀ a k, ¬ (a = 262 ∧ k = 7) → ¬ (264 ≤ a ∧ a ≤ 278) → J' a k = J a k) ∧ m' 262 1 = 0
/-- where the reference's rows of RULES begin -/
def qbs (t : Int → Int) (n : Int) (u : Nat) : Nat := bs t n (qS t n 0 0) u
/-- begin(), readSystem() and judgeSystem() of the reference -/
theorem r_readJudge (hp : PP P) (hn : 0 ≤ n ∧ n ≤ 1600) (h6 : -2147483648 ≤ m 262 6 ∧ m 262 6 ≤ 2147483647) (hw : wds J) {post : Mi → Mj → Mp → Prop} (k1 : (qJ (txR m n) n).1 = 0 → ∀ m' J', m' 262 10 = 0 → RN (qsc (txR m n) n) (qSn (txR m n) n) (qar (txR m n) n) m' J' → m' 262 15 = qN (txR m n) n → (∀ v, v < qN (txR m n) n → RR v (qbs (txR m n) n v) (qR (txR m n) n v) m' J') → sysR m J m' J' → post m' J' P) (k2 : (qJ (txR m n) n).1 ≠ 0 → ∀ m' J', m' 262 10 = (qJ (txR m n) n).1 → m' 262 11 = (qJ (txR m n) n).2 → sysR m J m' J' → post m' J' P) : Cv X (d + 7) 137 [.ref 262, .int (iz n)] m J P (fun m4 J5 P6 => PP P6 ∧ Cv X (d + 7) 141 [.ref 262] m4 J5 P6 (fun m9 J10 P11 => PP P11 ∧ ((m9 262 10 ≠ 0 → post m9 J10 P11) ∧ (m9 262 10 = 0 → Cv X (d + 7) 149 [.ref 262] m9 J10 P11 (fun m31 J32 P33 => PP P33 ∧ post m31 J32 P33))))) := by
  have hT := txR_T (m := m) hn
  have hA0 := tA_bd (t := txR m n) hn.1
  have hS := sAll_I hT hA0
  have hN := qN_le hT
  have hS3 := hS.2.2.1
  have esc : ((qsc (txR m n) n : Nat) : Int) = sAll (txR m n) n (tA (txR m n) n 0) 0 3 := by
    unfold qsc qS
    omega
  have hs16 : qsc (txR m n) n ≤ 16 := by omega
  refine r_begin hp hn h6 hw fun m1 J1 h1 h2 => ⟨hp, ?_⟩
  have G : ∀ {m' J'}, zF m1 J1 m' J' → sysR m J m' J' := fun w => ⟨fun a k g g2 g3 => (w.1 a k (fun e => g ⟨e.1, by omega⟩) g2).trans (h2.1 a k (fun e => g ⟨e.1, by omega⟩)), fun a k g g2 => (w.2 a k g g2).trans (h2.2.1 a k g), (w.1 _ _ (by decide) (by decide)).trans h2.2.2.1⟩
  refine r_readSystem hp hT hA0 h1 h2.2.2.2 (fun g m2 J2 q1 q2 q3 => ⟨hp, fun _ => ?_, fun h => absurd (q1.symm.trans h) g⟩) (fun g m2 J2 q1 q2 q3 q4 q5 => ⟨hp, fun h => absurd q1 h, fun _ => ?_⟩)
  · have g' : (qF_ (txR m n) n).1 ≠ 0 := g
    have eJ : qJ (txR m n) n = ((qF_ (txR m n) n).1, (qF_ (txR m n) n).2.1) := by rw [qJ, if_pos g']
    rw [eJ] at k2
    exact k2 g m2 J2 q1 q2 (G q3)
  · have eJ : qJ (txR m n) n = jAll (qSn (txR m n) n) (qsc (txR m n) n) (qar (txR m n) n) (qpl (txR m n) n) (qR (txR m n) n) (qN (txR m n) n) := by rw [qJ, if_neg (fun h => h g)]
    rw [eJ] at k1 k2
    have hRN : RN (qsc (txR m n) n) (qSn (txR m n) n) (qar (txR m n) n) m2 J2 := ⟨⟨q2.1.trans esc.symm, hs16⟩, fun i hi => ⟨(q2.2 i (by omega)).1, (hS.2.2.2.1 i (by omega)).1.2⟩, fun i hi => ⟨(q2.2 i (by omega)).2.1, (hS.2.2.2.1 i (by omega)).2.2⟩⟩
    have H : ∀ {m'}, jF m2 m' → sysR m J m' J2 := fun w => ⟨fun a k g1 g2 g3 => (w a k (fun e => g1 ⟨e.1, by omega⟩) g3).trans ((G q5).1 a k g1 g2 g3), (G q5).2.1, (w _ _ (by decide) (by decide)).trans (G q5).2.2⟩
    refine r_judgeSystem (bs := qbs (txR m n) n) (R := qR (txR m n) n) (pl := qpl (txR m n) n) (ar := qar (txR m n) n) hp hN (fun v hv => ?_) (by decide : (8 : Int) ≤ 8) hn.2 (fun v hv => qR_Z hT g hv) hRN (fun i hi => (q2.2 i (by omega)).2.2) q3 q4 q1 (fun w m3 v1 v2 => ⟨hp, ?_⟩) (fun w m3 v1 v2 v3 => ⟨hp, ?_⟩)
    · have := bs_le hT hS.1 v
      have e : qbs (txR m n) n v = bs (txR m n) n (sAll (txR m n) n (tA (txR m n) n 0) 0 0) v := rfl
      rw [e]
      omega
    · exact k1 w m3 J2 v1 (RN_j hRN v2) ((v2 _ _ (by decide) (by decide)).trans q3) (fun v hv => RR_j (q4 v hv) v2) (H v2)
    · exact k2 w m3 J2 v1 v2 (H v3)
end SYS
