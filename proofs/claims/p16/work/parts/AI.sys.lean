/-! system() whole, in class and reference -/
section SYW
variable {X : aX} {d mid : Nat} {P : Mp} {J : Mj} {m m' : Mi} {n : Int} {t : Int → Int}
/-- a cell may be taken as the int that it is -/
theorem SS_zr (o k : Nat) : SS (mu m o k (iz (m o k)).toInt) J P = SS m J P := by
  rw [← SS_mu, iz_of]
  simp only [SS, Prod.mk.injEq, true_and, and_true]
  funext a b
  by_cases h1 : a = o <;> by_cases h2 : b = k <;> simp [am_up, h1, h2]
theorem Ci.zr {as : List Value} {post : Int → Mi → Mj → Mp → Prop} (o k : Nat) (h : Ci X d mid as (mu m o k (iz (m o k)).toInt) J P post) : Ci X d mid as m J P post := by
  unfold Ci at h ⊢
  rw [SS_zr] at h
  exact h
theorem iz_Zr (z : Int) : Zr (iz z).toInt := iz_zr _
/-- an answer may be taken as the int that it is -/
theorem Ci.rz {as : List Value} {post : Int → Mi → Mj → Mp → Prop} (h : Ci X d mid as m J P fun z m' J' P' => ∀ z', iz z' = iz z → Zr z' → post z' m' J' P') : Ci X d mid as m J P post := Rc.weak h fun _ _ ⟨z, m', J', P', h1, h2, h3⟩ => ⟨(iz z).toInt, m', J', P', by rw [iz_of]; exact h1, h2, h3 _ (iz_of _) (iz_Zr z)⟩
theorem qJ_bd (hT : Tx t n) : 0 ≤ (qJ t n).1 ∧ (qJ t n).1 ≤ 9 := by
  have hA0 := tA_bd (t := t) hT.2.2.1
  have hS := sAll_I hT hA0
  have h5 := hS.2.2.2.2
  unfold qJ
  have hF : 0 ≤ (qF_ t n).1 ∧ (qF_ t n).1 ≤ 3 := by
    unfold qF_ yF
    split
    · exact ⟨h5.1, h5.2.1⟩
    · exact (rE_bd hT hS.1 16 0).1
  split
  · exact ⟨hF.1, by show (qF_ t n).1 ≤ 9; omega⟩
  · unfold jAll
    split
    · exact ⟨show (0 : Int) ≤ 4 by decide, show (4 : Int) ≤ 9 by decide⟩
    · have := jT_bd (Sn := qSn t n) (sc := qsc t n) (ar := qar t n) (R := qR t n) (qN t n) 0
      omega
/-- the text of both tapes -/
def Tp (m : Mi) : Prop := ∀ k, k < 1600 → 0 ≤ m 3 k ∧ m 3 k ≤ 255
/-- which book is which -/
def BP (P : Mp) (b s : Nat) : Prop := P 1 8 = some b ∧ P 1 9 = some s ∧ ((b = 54 ∧ s = 155) ∨ (b = 155 ∧ s = 54))
theorem BP_kd {b s : Nat} (h : BP P b s) : (b = 54 ∨ b = 155) ∧ (s = 54 ∨ s = 155) := by
  rcases h.2.2 with ⟨h1, h2⟩ | ⟨h1, h2⟩ <;> omega
theorem PP_bk (hp : PP P) {v w : Option Nat} : PP (mpu P 1 8 v) ∧ PP (mpu (mpu P 1 8 v) 1 9 w) := by
  have h1 : PP (mpu P 1 8 v) := PP_put hp (by decide +kernel)
  exact ⟨h1, PP_put h1 (by decide +kernel)⟩
/-- what system() may change in the class: s the spare book -/
def csF (s : Nat) (m : Mi) (J : Mj) (P : Mp) (m' : Mi) (J' : Mj) (P' : Mp) : Prop := (∀ a k, a ≠ 2 → a ≠ 4 → a ≠ 6 → a ≠ 7 → ¬ (8 ≤ a ∧ a ≤ 17) → ¬ (28 ≤ a ∧ a ≤ 37) → (a < s ∨ s + 101 ≤ a) → ¬ (a = 1 ∧ k = 11) → ¬ (a = 38 ∧ k = 8) → m' a k = m a k) ∧ (∀ a k, a ≠ 2 → (a < s ∨ s + 101 ≤ a) → J' a k = J a k) ∧ (∀ o k, ¬ (o = 1 ∧ (k = 8 ∨ k = 9)) → P' o k = P o k)
theorem c_system {b s : Nat} (hp : PP P) (hbp : BP P b s) (hm : Tp m) (hz : Zr n) (h2 : 0 ≤ m 2 1 ∧ m 2 1 ≤ 1600) (hAT : ATT 8 m) (hA0 : m 8 8 + 100000 < 2147483647) {post : Int → Mi → Mj → Mp → Prop} (k0 : n < 0 ∨ m 2 1 < n → post (-1) m J P) (k2 : 0 ≤ n ∧ n ≤ m 2 1 → (qJ (txC m n) n).1 ≠ 0 → ∀ m' J', m' 4 3 = (qJ (txC m n) n).1 → m' 4 4 = (qJ (txC m n) n).2 → sysG s m J m' J' → post (qJ (txC m n) n).1 m' J' P) (k1 : 0 ≤ n ∧ n ≤ m 2 1 → (qJ (txC m n) n).1 = 0 → ∀ m' J' P', PP P' → BP P' s b → CSy s (qsc (txC m n) n) (qSn (txC m n) n) (qar (txC m n) n) (qN (txC m n) n) (qR (txC m n) n) m' J' → PKh (pkI (ayw (qar (txC m n) n)) (qN (txC m n) n) (SL (qSn (txC m n) n) (qsc (txC m n) n) (qar (txC m n) n) (qR (txC m n) n)) (SR (qSn (txC m n) n) (qsc (txC m n) n) (qar (txC m n) n) (qR (txC m n) n)) (ZLs (qSn (txC m n) n) (qsc (txC m n) n) (qR (txC m n) n)) (ZRs (qSn (txC m n) n) (qsc (txC m n) n) (qR (txC m n) n)) (qN (txC m n) n) 0 (0, [])).1 (pkI (ayw (qar (txC m n) n)) (qN (txC m n) n) (SL (qSn (txC m n) n) (qsc (txC m n) n) (qar (txC m n) n) (qR (txC m n) n)) (SR (qSn (txC m n) n) (qsc (txC m n) n) (qar (txC m n) n) (qR (txC m n) n)) (ZLs (qSn (txC m n) n) (qsc (txC m n) n) (qR (txC m n) n)) (ZRs (qSn (txC m n) n) (qsc (txC m n) n) (qR (txC m n) n)) (qN (txC m n) n) 0 (0, [])).2 m' → ATb 10240 m m' → (m' 1 11 = 1 ∧ m' 38 8 = 0 ∧ m' 2 1 = 0 ∧ m' 4 3 = 0 ∧ m' 4 4 = -1) → csF s m J P m' J' P' → post 0 m' J' P') : Ci X (d + 7) 14 [.ref 1, .int (iz n)] m J P post := by
  have hbs := BP_kd hbp
  have hs := hbs.2
  have zh : Zr (m 2 1) := by constructor <;> omega
  refine Ci.of rfl rfl rfl (b_Nh_system_0 n m J P hp post ?_)
  refine c_lacks hp hz zh (fun g => ⟨hp, zr1, fun e => absurd e (by decide), fun _ => k0 g⟩) (fun g => ⟨hp, zr0, fun _ => ⟨s, hbp.2.1, kd_book hs, ?_⟩, fun e => absurd rfl e⟩)
  have hn : 0 ≤ n ∧ n ≤ 1600 := by omega
  have hT := txC_T hm hn
  have hb9 := qJ_bd hT
  refine c_readSystem hp hs hm hn (fun e m1 J1 v1 v2 v3 v4 v5 v6 v7 => ⟨hp, zr0, fun _ => ⟨b, hbp.1, kd_book hbs.1, s, hbp.2.1, kd_book hs, (PP_bk (w := none) hp).1, (PP_bk hp).2, s, ?_, kd_book hs, ?_⟩, fun g => absurd rfl g⟩) (fun e m1 J1 v1 v2 v3 => ⟨hp, by constructor <;> omega, fun g => absurd g e, fun _ => ?_⟩)
  · show mpu (mpu P 1 8 (some s)) 1 9 (some b) 1 8 = some s
    simp [mpu]
  · have hp2 : PP (mpu (mpu P 1 8 (some s)) 1 9 (some b)) := (PP_bk hp).2
    have hSq := qJ_Sq hT e
    have hSN := qJ_N e
    generalize hQ : mpu (mpu P 1 8 (some s)) 1 9 (some b) = Q at *
    have hBQ : BP Q s b := by
      rw [← hQ]
      refine ⟨by simp [mpu], by simp [mpu], ?_⟩
      rcases hbp.2.2 with h | h
      · exact Or.inr ⟨h.2, h.1⟩
      · exact Or.inl ⟨h.2, h.1⟩
    have hPF : ∀ o k, ¬ (o = 1 ∧ (k = 8 ∨ k = 9)) → Q o k = P o k := fun o k g => by
      rw [← hQ]
      unfold mpu
      rw [if_neg (by omega), if_neg (by omega)]
    have har := Sq_ar hSq
    have hs16 := hSq.1.1
    have hN16 := hSq.1.2
    have F1 : ∀ a k, ¬ (a = 1 ∧ k = 11) → ¬ (a = 38 ∧ k = 8) → mu (mu m1 1 11 1) 38 8 0 a k = m1 a k := fun a k g1 g2 => by rw [mu_ne _ _ (by omega), mu_ne _ _ (by omega)]
    have ex1 : mu (mu m1 1 11 1) 38 8 0 1 11 = 1 := by rw [mu_ne _ _ (by omega), mu_at]
    have ex2 : mu (mu m1 1 11 1) 38 8 0 38 8 = 0 := mu_at _ _ _ _
    generalize mu (mu m1 1 11 1) 38 8 0 = m2 at *
    have hBN2 : BN s (qSn (txC m n) n) (qsc (txC m n) n) m2 J1 := ⟨⟨(F1 _ _ (by omega) (by omega)).trans v3.1.1, v3.1.2⟩, v3.2⟩
    have hBA2 := BA_fr (m' := m2) v4 hs16 fun k _ => F1 _ _ (by omega) (by omega)
    have hEQ : ∀ m3 : Mi, (∀ v, v < qN (txC m n) n → ∀ a k, s + 5 + 6 * v ≤ a → a ≤ s + 5 + 6 * v + 3 → m3 a k = m2 a k) → ∀ v, v < qN (txC m n) n → EQ (s + 5 + 6 * v) (qSn (txC m n) n) (qsc (txC m n) n) (qR (txC m n) n v) m3 J1 := fun m3 f v hv => by
      have g : ∀ a k, s + 5 + 6 * v ≤ a → a ≤ s + 5 + 6 * v + 3 → m3 a k = m1 a k := fun a k g1 g2 => (f v hv a k g1 g2).trans (F1 _ _ (by omega) (by omega))
      obtain ⟨⟨q1, q2, q3, q4⟩, q5, q6, q7⟩ := v6 v hv
      exact ⟨⟨(g _ _ (by omega) (by omega)).trans q1, fun c hc => ⟨(g _ _ (by omega) (by omega)).trans (q2 c hc).1, (g _ _ (by omega) (by omega)).trans (q2 c hc).2.1, (g _ _ (by omega) (by omega)).trans (q2 c hc).2.2⟩, (g _ _ (by omega) (by omega)).trans q3, q4⟩, (g _ _ (by omega) (by omega)).trans q5, (g _ _ (by omega) (by omega)).trans q6, (g _ _ (by omega) (by omega)).trans q7⟩
    refine c_prepare (d := d + 4) hp2 hs hSq hSN hBA2 ((F1 _ _ (by omega) (by omega)).trans v5) (hEQ m2 fun _ _ _ _ _ _ => rfl) (fun m3 w1 w2 => ⟨hp2, s, hBQ.1, kd_book hs, ?_⟩)
    have hC3 : CSy s (qsc (txC m n) n) (qSn (txC m n) n) (qar (txC m n) n) (qN (txC m n) n) (qR (txC m n) n) m3 J1 := ⟨⟨⟨(w2 _ _ (by omega) (by omega) (fun u _ => by omega)).trans hBN2.1.1, hBN2.1.2⟩, hBN2.2⟩, BA_fr hBA2 hs16 fun k _ => w2 _ _ (by omega) (by omega) (fun u _ => by omega), w1, hEQ m3 fun v hv a k g1 g2 => w2 _ _ (by omega) (by omega) (fun u _ => by omega)⟩
    have hX3 := CSy_BKC hSq hSN hC3
    have fr3 : ∀ a k, a ≠ 2 → a ≠ 4 → a ≠ 6 → a ≠ 7 → ¬ (28 ≤ a ∧ a ≤ 37) → (a < s ∨ s + 101 ≤ a) → ¬ (a = 1 ∧ k = 11) → ¬ (a = 38 ∧ k = 8) → m3 a k = m a k := fun a k g1 g2 g3 g4 g5 g6 g7 g8 => (w2 a k (by omega) (by omega) (fun u _ => by omega)).trans ((F1 a k g7 g8).trans (v7.1 a k g1 g2 g3 g4 g6))
    have b8 : ∀ a k, 8 ≤ a → a ≤ 17 → m3 a k = m a k := fun a k g1 g2 => fr3 a k (by omega) (by omega) (by omega) (by omega) (by omega) (by omega) (by omega) (by omega)
    have A3 : ATT 8 m3 := by
      have ea : m3 8 8 = m 8 8 := b8 _ _ (by decide) (by decide)
      refine ⟨by rw [ea]; exact hAT.1, fun z hz => ?_⟩
      rw [ea, b8 _ _ (by decide) (by decide)]
      exact hAT.2 z hz
    refine c_search (d := d + 1) hp2 hs har hX3 (Sq_Rg hSq) (Sq_SR hSq) (Sq_ZK hSq) (by rw [b8 _ _ (by decide) (by decide)]; exact hA0) A3 (fun m4 u1 u2 u3 u4 => ⟨hp2, ?_⟩)
    have f2 : ∀ a k, a ≠ 34 → a ≠ 35 → (a < s ∨ s + 101 ≤ a) → ¬ (8 ≤ a ∧ a ≤ 17) → ¬ (28 ≤ a ∧ a ≤ 37) → m4 a k = m2 a k := fun a k g1 g2 g3 g4 g5 => (u4 a k g4 g5).trans (w2 a k g1 g2 (fun u _ => by omega))
    refine k1 g e m4 J1 Q hp2 hBQ (CSy_fr hs16 hC3 (fun a k g1 g2 => u4 a k (by omega) (by omega)) (fun _ _ _ _ => rfl)) u1 ⟨u3.1, ?_⟩ ⟨?_, ?_, ?_, ?_, ?_⟩ ⟨fun a k g1 g2 g3 g4 g5 g6 g7 g8 g9 => ?_, fun a k g1 g2 => v7.2.1 a k g1 g2, hPF⟩
    · have := u3.2
      rw [b8 _ _ (by decide) (by decide)] at this
      exact this
    · rw [f2 _ _ (by decide) (by decide) (by omega) (by decide) (by decide)]
      exact ex1
    · rw [f2 _ _ (by decide) (by decide) (by omega) (by decide) (by decide)]
      exact ex2
    · rw [f2 _ _ (by decide) (by decide) (by omega) (by decide) (by decide), F1 _ _ (by omega) (by omega)]
      exact v7.2.2
    · rw [f2 _ _ (by decide) (by decide) (by omega) (by decide) (by decide), F1 _ _ (by omega) (by omega)]
      exact v1
    · rw [f2 _ _ (by decide) (by decide) (by omega) (by decide) (by decide), F1 _ _ (by omega) (by omega)]
      exact v2
    · rw [u4 a k g5 g6, fr3 a k g1 g2 g3 g4 g6 g7 g8 g9]
  · have := k2 g e m1 J1 v1 v2 v3
    rw [v1]
    exact this
/-- what system() may change in the reference -/
def rsF (m : Mi) (J : Mj) (m' : Mi) (J' : Mj) : Prop := (∀ a k, ¬ (a = 262 ∧ k ≠ 136 ∧ k ≠ 139 ∧ ¬ (94 ≤ k ∧ k ≤ 102)) → ¬ (264 ≤ a ∧ a ≤ 321) → m' a k = m a k) ∧ (∀ a k, ¬ (a = 262 ∧ k = 7) → ¬ (264 ≤ a ∧ a ≤ 286) → J' a k = J a k)
theorem r_system {x y : Nat} (hp : PP P) (hTP : TP P x y) (hz : Zr n) (h2 : 0 ≤ m 262 1 ∧ m 262 1 ≤ 1600) (hw : wds J) {post : Int → Mi → Mj → Mp → Prop} (k0 : n < 0 ∨ m 262 1 < n → post (-1) m J P) (k2 : 0 ≤ n ∧ n ≤ m 262 1 → (qJ (txR m n) n).1 ≠ 0 → ∀ m' J', m' 262 12 = (qJ (txR m n) n).1 → m' 262 13 = (qJ (txR m n) n).2 → m' 262 1 = 0 → (∀ a k, ¬ (a = 262 ∧ (k = 12 ∨ k = 13 ∨ k = 1 ∨ k = 2 ∨ k = 3 ∨ k = 4 ∨ k = 5 ∨ k = 6 ∨ k = 10 ∨ k = 11 ∨ k = 14 ∨ k = 15 ∨ k = 16 ∨ k = 17 ∨ k = 56 ∨ k = 57)) → ¬ (264 ≤ a ∧ a ≤ 278) → ¬ (291 ≤ a ∧ a ≤ 295) → m' a k = m a k) → (∀ a k, ¬ (a = 262 ∧ k = 7) → ¬ (264 ≤ a ∧ a ≤ 278) → J' a k = J a k) → post (qJ (txR m n) n).1 m' J' P) (k1 : 0 ≤ n ∧ n ≤ m 262 1 → (qJ (txR m n) n).1 = 0 → ∀ m' J' P' x' y', PP P' → TP P' x' y' → PF P P' → RSy (qsc (txR m n) n) (qSn (txR m n) n) (qar (txR m n) n) (qN (txR m n) n) (qR (txR m n) n) m' J' → QKh (pkI (ayw (qar (txR m n) n)) (qN (txR m n) n) (SL (qSn (txR m n) n) (qsc (txR m n) n) (qar (txR m n) n) (qR (txR m n) n)) (SR (qSn (txR m n) n) (qsc (txR m n) n) (qar (txR m n) n) (qR (txR m n) n)) (ZLs (qSn (txR m n) n) (qsc (txR m n) n) (qR (txR m n) n)) (ZRs (qSn (txR m n) n) (qsc (txR m n) n) (qR (txR m n) n)) (qN (txR m n) n) 0 (0, [])).1 (pkI (ayw (qar (txR m n) n)) (qN (txR m n) n) (SL (qSn (txR m n) n) (qsc (txR m n) n) (qar (txR m n) n) (qR (txR m n) n)) (SR (qSn (txR m n) n) (qsc (txR m n) n) (qar (txR m n) n) (qR (txR m n) n)) (ZLs (qSn (txR m n) n) (qsc (txR m n) n) (qR (txR m n) n)) (ZRs (qSn (txR m n) n) (qsc (txR m n) n) (qR (txR m n) n)) (qN (txR m n) n) 0 (0, [])).2 m' → pkok (pkI (ayw (qar (txR m n) n)) (qN (txR m n) n) (SL (qSn (txR m n) n) (qsc (txR m n) n) (qar (txR m n) n) (qR (txR m n) n)) (SR (qSn (txR m n) n) (qsc (txR m n) n) (qar (txR m n) n) (qR (txR m n) n)) (ZLs (qSn (txR m n) n) (qsc (txR m n) n) (qR (txR m n) n)) (ZRs (qSn (txR m n) n) (qsc (txR m n) n) (qR (txR m n) n)) (qN (txR m n) n) 0 (0, [])) → (m' 262 33 = 1 ∧ m' 262 93 = 0 ∧ m' 262 1 = 0 ∧ m' 262 12 = 0 ∧ m' 262 13 = -1) → rsF m J m' J' → post 0 m' J' P') : Ci X (d + 8) 136 [.ref 262, .int (iz n)] m J P post := by
  by_cases hg : ¬ (0 ≤ n ∧ n ≤ m 262 1)
  · have zt : Zr (m 262 1) := by constructor <;> omega
    exact Ci.of rfl rfl rfl (b_Mdl_system_0 n m J P hp post ⟨hz, fun g => k0 (Or.inl g), fun g => ⟨hz, zt, fun g2 => absurd ⟨by omega, g2⟩ hg, fun g2 => k0 (Or.inr (by omega))⟩⟩)
  have hg := Classical.not_not.mp hg
  refine Ci.zr 262 6 ?_
  have h6 := iz_Zr (m 262 6)
  have e0 : ∀ a k, ¬ (a = 262 ∧ k = 6) → mu m 262 6 (iz (m 262 6)).toInt a k = m a k := fun a k g => mu_ne _ _ (by omega)
  have e6 : mu m 262 6 (iz (m 262 6)).toInt 262 6 = (iz (m 262 6)).toInt := mu_at _ _ _ _
  rw [← e6] at h6
  have etx : txR (mu m 262 6 (iz (m 262 6)).toInt) n = txR m n := by
    funext z
    unfold txR
    rw [e0 _ _ (by omega)]
  generalize mu m 262 6 (iz (m 262 6)).toInt = m0 at *
  have e1 : m0 262 1 = m 262 1 := e0 _ _ (by decide)
  have zt : Zr (m0 262 1) := by rw [e1]; constructor <;> omega
  refine Ci.of rfl rfl rfl (b_Mdl_system_0 n m0 J P hp post ⟨hz, fun g => absurd g (by omega), fun g => ⟨hz, zt, fun g2 => ?_, fun g2 => absurd (by omega) g2⟩⟩)
  · have hn : 0 ≤ n ∧ n ≤ 1600 := by omega
    have hT := txR_T (m := m0) hn
    rw [etx] at hT
    have hb9 := qJ_bd hT
    have S : ∀ m9 J9, sysR m0 J m9 J9 → (∀ a k, ¬ (a = 262 ∧ (k = 1 ∨ k = 2 ∨ k = 3 ∨ k = 4 ∨ k = 5 ∨ k = 6 ∨ k = 10 ∨ k = 11 ∨ k = 14 ∨ k = 15 ∨ k = 16 ∨ k = 17 ∨ k = 56 ∨ k = 57)) → ¬ (264 ≤ a ∧ a ≤ 278) → ¬ (291 ≤ a ∧ a ≤ 295) → m9 a k = m a k) ∧ (∀ a k, ¬ (a = 262 ∧ k = 7) → ¬ (264 ≤ a ∧ a ≤ 278) → J9 a k = J a k) ∧ m9 262 1 = 0 := fun m9 J9 w => ⟨fun a k g1 g2 g3 => (w.1 a k g1 g2 g3).trans (e0 a k (by omega)), w.2.1, w.2.2⟩
    -- tells() and what comes behind it
    have tell : ∀ m9 J9, m9 262 10 = (qJ (txR m n) n).1 → ((qJ (txR m n) n).1 ≠ 0 → m9 262 11 = (qJ (txR m n) n).2) → sysR m0 J m9 J9 → ((qJ (txR m n) n).1 = 0 → RN (qsc (txR m n) n) (qSn (txR m n) n) (qar (txR m n) n) m9 J9 ∧ m9 262 15 = qN (txR m n) n ∧ ∀ v, v < qN (txR m n) n → RR v (qbs (txR m n) n v) (qR (txR m n) n v) m9 J9) → Cv X (d + 7) 159 [.ref 262] m9 J9 P (fun m15 J16 P17 => PP P17 ∧ Zr (m15 262 10) ∧ ((((m15 262 10) ≤ 0) → Cv X (d + 7) 160 [.ref 262] m15 J16 P17 (fun m21 J22 P23 => PP P23 ∧ Cv X (d + 7) 161 [.ref 262] (mu m21 262 93 0) J22 P23 (fun m26 J27 P28 => PP P28 ∧ post 0 m26 J27 P28))) ∧ (¬ ((m15 262 10) ≤ 0) → post (m15 262 10) m15 J16 P17))) := by
      intro m9 J9 w1 w2 w3 w4
      obtain ⟨s1, s2, s3⟩ := S m9 J9 w3
      by_cases hq : (qJ (txR m n) n).1 = 0
      · obtain ⟨w5, w6, w7⟩ := w4 hq
        have hSq := qJ_Sq hT hq
        have hSN := qJ_N hq
        refine r_tells (k := 0) (p := -1) hp (w1.trans hq) (fun g => absurd rfl g) (fun _ => rfl) (by decide) ?_
        have t0 : ∀ a k, ¬ (a = 262 ∧ (k = 12 ∨ k = 13)) → mu (mu m9 262 12 0) 262 13 (-1) a k = m9 a k := fun a k g => by rw [mu_ne _ _ (by omega), mu_ne _ _ (by omega)]
        have t1 : mu (mu m9 262 12 0) 262 13 (-1) 262 12 = 0 := by rw [mu_ne _ _ (by omega), mu_at]
        have t2 : mu (mu m9 262 12 0) 262 13 (-1) 262 13 = -1 := mu_at _ _ _ _
        generalize mu (mu m9 262 12 0) 262 13 (-1) = m10 at *
        have eb : m10 262 10 = 0 := (t0 _ _ (by decide)).trans (w1.trans hq)
        rw [eb]
        refine ⟨hp, zr0, fun _ => ?_, fun g => absurd (by decide) g⟩
        have hA0 := tA_bd (t := txR m n) hn.1
        have hS := sAll_I hT hA0
        have hN16 := hSq.1.2
        refine r_takeSystem (d := d + 5) (bs := fun v => qbs (txR m n) n v) hp hSq (fun v hv => ?_) ⟨⟨(t0 _ _ (by decide)).trans w5.1.1, w5.1.2⟩, w5.2.1, fun i hi => ⟨(t0 _ _ (by omega)).trans (w5.2.2 i hi).1, (w5.2.2 i hi).2⟩⟩ ((t0 _ _ (by decide)).trans w6) (fun v hv => ?_) (fun m11 J11 y1 y2 y3 => ⟨hp, ?_⟩)
        · have := bs_le hT hS.1 v
          have e : qbs (txR m n) n v = bs (txR m n) n (sAll (txR m n) n (tA (txR m n) n 0) 0 0) v := rfl
          rw [e]
          omega
        · obtain ⟨⟨r1, r2, r3, r4, r5⟩, r6, r7⟩ := w7 v hv
          exact ⟨⟨(t0 _ _ (by omega)).trans r1, (t0 _ _ (by omega)).trans r2, (t0 _ _ (by omega)).trans r3, (t0 _ _ (by omega)).trans r4, (t0 _ _ (by omega)).trans r5⟩, fun c hc => ⟨(t0 _ _ (by omega)).trans (r6 c hc).1, (t0 _ _ (by omega)).trans (r6 c hc).2.1, (t0 _ _ (by omega)).trans (r6 c hc).2.2.1, (r6 c hc).2.2.2⟩, r7⟩
        · have z0 : ∀ a k, ¬ (a = 262 ∧ k = 93) → mu m11 262 93 0 a k = m11 a k := fun a k g => mu_ne _ _ (by omega)
          have z1 : mu m11 262 93 0 262 93 = 0 := mu_at _ _ _ _
          generalize mu m11 262 93 0 = m12 at *
          have y4 : RSy (qsc (txR m n) n) (qSn (txR m n) n) (qar (txR m n) n) (qN (txR m n) n) (qR (txR m n) n) m12 J11 := RSy_fr y1 (fun k g => z0 _ _ (by omega)) (fun a k g1 g2 => z0 _ _ (by omega)) (fun _ _ _ _ => rfl)
          refine r_looksAtPairs (d := d) (Sq_ar hSq) (RSy_RA y4) (RSy_Ry hSq hSN y4) (Sq_Rf hSq) (Sq_ZK hSq) hp hTP (fun m13 P13 x' y' p1 p2 p3 p4 p5 p6 => ⟨p1, ?_⟩)
          have L : ∀ a k, ¬ (302 ≤ a ∧ a ≤ 320) → ¬ (296 ≤ a ∧ a ≤ 301) → a ≠ 321 → ¬ (287 ≤ a ∧ a ≤ 290) → ¬ (a = 262 ∧ (k = 74 ∨ k = 87 ∨ k = 86 ∨ k = 90 ∨ k = 91 ∨ k = 61 ∨ k = 62 ∨ k = 67 ∨ k = 44 ∨ k = 45 ∨ k = 46 ∨ k = 47)) → m13 a k = m12 a k := p6
          have T : ∀ a k, ¬ (a = 262 ∧ (k = 33 ∨ k = 34 ∨ k = 35 ∨ k = 93)) → ¬ (279 ≤ a ∧ a ≤ 286) → a ≠ 291 → a ≠ 292 → m12 a k = m10 a k := fun a k g1 g2 g3 g4 => (z0 a k (by omega)).trans (y3.1 a k (by omega) g2 g3 g4)
          refine k1 hg hq m13 J11 P13 x' y' p1 p2 p3 (RSy_fr y4 (fun k g => L _ _ (by decide) (by decide) (by decide) (by decide) (by omega)) (fun a k g1 g2 => L _ _ (by omega) (by omega) (by omega) (by omega) (by omega)) (fun _ _ _ _ => rfl)) p4 p5 ⟨?_, ?_, ?_, ?_, ?_⟩ ⟨fun a k g1 g2 => ?_, fun a k g1 g2 => ?_⟩
          · rw [L _ _ (by decide) (by decide) (by decide) (by decide) (by omega), z0 _ _ (by decide)]; exact y2
          · rw [L _ _ (by decide) (by decide) (by decide) (by decide) (by omega)]; exact z1
          · rw [L _ _ (by decide) (by decide) (by decide) (by decide) (by omega), T _ _ (by decide) (by decide) (by decide) (by decide), t0 _ _ (by decide)]; exact s3
          · rw [L _ _ (by decide) (by decide) (by decide) (by decide) (by omega), T _ _ (by decide) (by decide) (by decide) (by decide)]; exact t1
          · rw [L _ _ (by decide) (by decide) (by decide) (by decide) (by omega), T _ _ (by decide) (by decide) (by decide) (by decide)]; exact t2
          · rw [L _ _ (by omega) (by omega) (by omega) (by omega) (by omega), T _ _ (by omega) (by omega) (by omega) (by omega), t0 _ _ (by omega), s1 _ _ (by omega) (by omega) (by omega)]
          · rw [y3.2 _ _ (by omega) (by omega), s2 _ _ g1 (by omega)]
      · refine r_tells (k := (qJ (txR m n) n).1) (p := (qJ (txR m n) n).2) hp w1 w2 (fun g => absurd g hq) hb9 ?_
        have eb : mu (mu m9 262 12 (qJ (txR m n) n).1) 262 13 (qJ (txR m n) n).2 262 10 = (qJ (txR m n) n).1 := by rw [mu_ne _ _ (by omega), mu_ne _ _ (by omega)]; exact w1
        rw [eb]
        refine ⟨hp, by constructor <;> omega, fun g => absurd g (by omega), fun _ => k2 hg hq _ J9 (by rw [mu_ne _ _ (by omega), mu_at]) (mu_at _ _ _ _) (by rw [mu_ne _ _ (by omega), mu_ne _ _ (by omega)]; exact s3) (fun a k g1 g2 g3 => by rw [mu_ne _ _ (by omega), mu_ne _ _ (by omega)]; exact s1 a k (by omega) g2 g3) s2⟩
    refine Cv.weak (r_readJudge (n := n) (m := m0) (J := J) (d := d) (post := fun m9 J9 P9 => P9 = P ∧ m9 262 10 = (qJ (txR m n) n).1 ∧ Cv X (d + 7) 159 [.ref 262] m9 J9 P9 (fun m15 J16 P17 => PP P17 ∧ Zr (m15 262 10) ∧ ((((m15 262 10) ≤ 0) → Cv X (d + 7) 160 [.ref 262] m15 J16 P17 (fun m21 J22 P23 => PP P23 ∧ Cv X (d + 7) 161 [.ref 262] (mu m21 262 93 0) J22 P23 (fun m26 J27 P28 => PP P28 ∧ post 0 m26 J27 P28))) ∧ (¬ ((m15 262 10) ≤ 0) → post (m15 262 10) m15 J16 P17)))) hp hn h6 hw ?_ ?_) ?_
    · rw [etx]
      intro e m' J' v1 v2 v3 v4 v5
      exact ⟨rfl, v1.trans e.symm, tell m' J' (v1.trans e.symm) (fun g => absurd e g) v5 fun _ => ⟨v2, v3, v4⟩⟩
    · rw [etx]
      intro e m' J' v1 v2 v3
      exact ⟨rfl, v1, tell m' J' v1 (fun _ => v2) v3 fun g => absurd g e⟩
    · intro m4 J4 P4 h
      refine ⟨h.1, Cv.weak h.2 fun m9 J9 P9 h9 => ⟨h9.1, ?_⟩⟩
      by_cases hb : m9 262 10 = 0
      · exact ⟨by rw [hb]; exact zr0, fun g => absurd hb g, fun _ => Cv.weak (h9.2.2 hb) fun m11 J11 P11 h11 => ⟨h11.1, h11.2.2.2⟩⟩
      · obtain ⟨q1, q2, q3⟩ := h9.2.1 hb
        exact ⟨by rw [q2]; constructor <;> omega, fun _ => q3, fun g => absurd hb g⟩
end SYW
