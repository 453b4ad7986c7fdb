/-! goal() in the class, whole -/
section CGL
variable {X : aX} {d : Nat} {P : Mp} {J J' : Mj} {m m' m0 : Mi} {Sn : Nat → Nat} {sc b s o g N : Nat} {ar : Nat → Int} {R : Nat → Mi} {n : Int} {t : Int → Int} {Z : Mi}
/-- a GOAL without a FAULT is a good one -/
theorem qG_gK (hT : Tx t n) (hs : sc ≤ 16) (h : (qA Sn sc ar t n (qG t n)).1 = 0) : gK sc ar (ZL Sn sc (qG t n)) (ZR Sn sc (qG t n)) (qG t n 0 4).toNat := by
  obtain ⟨a1, ⟨a2, a3, a4⟩, a5, a6, a7, a8, a9⟩ := qG_ok hT hs h
  refine ⟨a1, a2, a5, by omega, fun c hc => ?_, fun v hv => a9 v (by omega)⟩
  have hA0 := tA_bd (t := t) hT.2.2.1
  obtain ⟨h5, hj⟩ := qG_0 h
  have hZ : yZ n 6 (qG t n) := yTwo_Z hT hA0 (by decide) h5
  have hU := yZ_U hZ
  have hZ1 := hZ.1
  generalize qG t n = Z at *
  have eall : ZL Sn sc Z ++ ZR Sn sc Z = sgl (cdZ Sn sc Z) 0 (Z 0 3).toNat := by
    unfold ZL ZR
    have := sgl_app (cd := cdZ Sn sc Z) (i := (Z 0 7).toNat) (j := (Z 0 3).toNat - (Z 0 7).toNat) (a := 0)
    rw [Nat.zero_add] at this
    rw [← this]
    congr 1; omega
  rw [eall] at hc
  obtain ⟨i, _, i2, i3⟩ := sgl_mem hc
  rw [i3]
  obtain ⟨_, _, ⟨u4, u5⟩, _⟩ := hU.2.2.1 i (by omega)
  unfold cdZ
  by_cases g : 0 ≤ Z 1 i
  · rw [if_pos g]
    omega
  · rw [if_neg g]
    have := a6 i (by omega) (by omega)
    omega
/-- what goal() may change in the class -/
def cgF (o : Nat) (m : Mi) (J : Mj) (m' : Mi) (J' : Mj) : Prop := (∀ a k, a ≠ 2 → a ≠ 4 → a ≠ 7 → (a < o ∨ o + 3 < a) → ¬ (8 ≤ a ∧ a ≤ 27) → ¬ (45 ≤ a ∧ a ≤ 48) → ¬ (a = 38 ∧ 8 ≤ k) → m' a k = m a k) ∧ m' 2 1 = 0 ∧ (∀ a k, a ≠ 2 → a ≠ o + 5 → J' a k = J a k)
theorem aF_cg (h : aF o m J m' J') : cgF o m J m' J' := ⟨fun a k g1 g2 g3 g4 _ _ _ => h.1 a k g1 g2 g3 g4, h.2.1, h.2.2⟩
theorem PP_go (hp : PP P) {v w : Option Nat} : PP (mpu P 38 2 v) ∧ PP (mpu (mpu P 38 2 v) 1 10 w) := by
  have f : ∀ {P : Mp}, PP P → ∀ {o k : Nat} {v : Option Nat}, an_pt o k = none → PP (mpu P o k v) := fun {P} hp {o k v} h a b q hq => by
    unfold mpu
    split
    · rename_i e
      rw [e.1, e.2, h] at hq
      cases hq
    · exact hp a b q hq
  have h1 := f hp (v := v) (show an_pt 38 2 = none by decide +kernel)
  exact ⟨h1, f h1 (v := w) (show an_pt 1 10 = none by decide +kernel)⟩
theorem c_goal {rl x2 : Int} (hp : PP P) (hbp : BP P b s) (hsp : SPt P o g) (hm : Tp m) (hz : Zr n) (h2 : 0 ≤ m 2 1 ∧ m 2 1 ≤ 1600) (hrl : m 1 11 = rl) (hr01 : rl = 0 ∨ rl = 1) (hx2 : x2 = 0 ∨ x2 = 1) (hS : Sq sc Sn ar N R) (hC : CSy b sc Sn ar N R m J) (hAT8 : ATT 8 m) (hAT : ATT 18 m) (hA0 : m 18 8 < 2147483647) {post : Int → Mi → Mj → Mp → Prop} (k0 : rl = 0 ∨ n < 0 ∨ m 2 1 < n → post (-1) m J P) (kf : rl = 1 → 0 ≤ n ∧ n ≤ m 2 1 → (qA Sn sc ar (txC m n) n (qG (txC m n) n)).1 ≠ 0 → ∀ m' J', m' 4 3 = (qA Sn sc ar (txC m n) n (qG (txC m n) n)).1 → m' 4 4 = (qA Sn sc ar (txC m n) n (qG (txC m n) n)).2 → aF o m J m' J' → post (qA Sn sc ar (txC m n) n (qG (txC m n) n)).1 m' J' P) (k1 : rl = 1 → 0 ≤ n ∧ n ≤ m 2 1 → (qA Sn sc ar (txC m n) n (qG (txC m n) n)).1 = 0 → ∀ m' J' P', PP P' → SPt P' g o → (∀ a k, ¬ (a = 38 ∧ k = 2) → ¬ (a = 1 ∧ k = 10) → P' a k = P a k) → m' 4 3 = 0 → m' 4 4 = -1 → GQ o (ZL Sn sc (qG (txC m n) n)) (ZR Sn sc (qG (txC m n) n)) (qG (txC m n) n 0 4).toNat (qG (txC m n) n 7) m' J' → TCm (tPlant (ayw ar) (ZL Sn sc (qG (txC m n) n)) (ZR Sn sc (qG (txC m n) n)) (qG (txC m n) n 0 4).toNat) m' → m' 38 8 = 1 → m' 38 10 = (mgO x2 : Int) → ATT 8 m' → m' 8 8 = m 8 8 → ATT 18 m' → m' 18 8 = m 18 8 + 1 → cgF o m J m' J' → post 0 m' J' P') : Ci X (d + 7) 97 [.ref 1, .int (iz n), .int (iz x2)] m J P post := by
  have hbs := BP_kd hbp
  have hb := hbs.1
  have kb := kd_book hb
  have hs16 := hS.1.1
  have har := Sq_ar hS
  have ho : o = 39 ∨ o = 256 := by rcases hsp.2.2 with h | h <;> omega
  have hgo : g = 39 ∨ g = 256 := by rcases hsp.2.2 with h | h <;> omega
  obtain ⟨ko, ko1⟩ := SP_kd ho
  obtain ⟨kg, _⟩ := SP_kd hgo
  have zr : Zr rl := by rcases hr01 with h | h <;> rw [h] <;> constructor <;> decide
  have zh : Zr (m 2 1) := by constructor <;> omega
  refine Ci.of rfl rfl rfl (b_Nh_goal_0 n x2 m J P hp post ?_)
  rw [hrl]
  refine ⟨zr, fun hg0 => k0 (Or.inl hg0), fun hg0 => ?_⟩
  have hr1 : rl = 1 := by omega
  refine c_lacks hp hz zh (fun g => ⟨hp, zr1, fun e => absurd e (by decide), fun _ => k0 (Or.inr g)⟩) (fun hg => ⟨hp, zr0, fun _ => ⟨b, hbp.1, kb, o, hsp.1, ko, ?_⟩, fun e => absurd rfl e⟩)
  have hn : 0 ≤ n ∧ n ≤ 1600 := by omega
  have hT := txC_T hm hn
  have hEB : EB o b := by unfold EB; omega
  refine c_readGoal hp kb ko hEB hs16 hm hn hC.1 hC.2.1 (fun e m1 J1 v1 v2 v3 v4 => ⟨hp, zr0, fun _ => ⟨g, hsp.2.1, kg, o, hsp.1, ko, (PP_go (w := some g) hp).1, (PP_go hp).2, b, ?_, kb, ?_⟩, fun g => absurd rfl g⟩) (fun e m1 J1 v1 v2 v3 => ⟨hp, ?_, fun g => absurd g e, fun _ => by rw [v1]; exact kf hr1 hg e m1 J1 v1 v2 v3⟩)
  · show mpu (mpu P 38 2 (some o)) 1 10 (some g) 1 8 = some b
    unfold mpu
    rw [if_neg (by omega), if_neg (by omega)]
    exact hbp.1
  · obtain ⟨a1, ⟨a2, a3, a4⟩, a5, a6, a7, a8, _⟩ := qG_ok hT hs16 e
    have hK := qG_gK hT hs16 e
    have k1' := k1 hr1 hg e
    clear k1 kf k0
    have eall : ZL Sn sc (qG (txC m n) n) ++ ZR Sn sc (qG (txC m n) n) = sgl (cdZ Sn sc (qG (txC m n) n)) 0 (qG (txC m n) n 0 3).toNat := by
      unfold ZL ZR
      have := sgl_app (cd := cdZ Sn sc (qG (txC m n) n)) (i := (qG (txC m n) n 0 7).toNat) (j := (qG (txC m n) n 0 3).toNat - (qG (txC m n) n 0 7).toNat) (a := 0)
      rw [Nat.zero_add] at this
      rw [← this]
      congr 1; omega
    have hrow : Ro m1 (o + 1) 0 (ZL Sn sc (qG (txC m n) n) ++ ZR Sn sc (qG (txC m n) n)) := by
      rw [eall]
      refine Ro_sgl fun i hi => ?_
      rw [Nat.zero_add, (v3.1.2.1 i (by omega)).1]
      unfold ce cdZ
      by_cases q : 0 ≤ qG (txC m n) n 1 i
      · rw [if_pos q, if_pos q]
      · rw [if_neg q, if_neg q]
        unfold sy
        rw [if_neg (by have := a6 i hi (by omega); omega)]
    have hQ : GQ o (ZL Sn sc (qG (txC m n) n)) (ZR Sn sc (qG (txC m n) n)) (qG (txC m n) n 0 4).toNat (qG (txC m n) n 7) m1 J1 := by
      refine ⟨⟨?_, ?_, ?_⟩, hrow, fun v hv => v3.1.2.2.2 v (by omega)⟩
      · rw [v3.2.1]; omega
      · rw [v3.1.1]; omega
      · rw [v3.1.2.2.1]; omega
    have hC1 : CSy b sc Sn ar N R m1 J1 := CSy_fr hs16 hC (fun a k g1 g2 => v4.1 a k (by omega) (by omega) (by omega) (by omega)) (fun a k g1 g2 => v4.2.2 a k (by omega) (by omega))
    have hP' : mpu (mpu P 38 2 (some o)) 1 10 (some g) 38 2 = some o := by
      unfold mpu
      rw [if_neg (by omega), if_pos ⟨rfl, rfl⟩]
    refine c_plant (d := d + 2) (g := o) (x1 := x2) (nm := qG (txC m n) n 7) (PP_go hp).2 hb har hC1.2.1 hP' ho hQ hK hx2 (ATT_fr hAT8 (v4.1 _ _ (by omega) (by omega) (by omega) (by omega)) fun z => v4.1 _ _ (by omega) (by omega) (by omega) (by omega)) (ATT_fr hAT (v4.1 _ _ (by omega) (by omega) (by omega) (by omega)) fun z => v4.1 _ _ (by omega) (by omega) (by omega) (by omega)) (by rw [v4.1 _ _ (by omega) (by omega) (by omega) (by omega)]; exact hA0) (fun m2 w1 w2 w3 w4 w5 w6 w7 w8 => ⟨(PP_go hp).2, ?_⟩)
    refine k1' m2 J1 _ (PP_go hp).2 ⟨?_, hP', ?_⟩ (fun a k h1 h2 => ?_) ((w8 _ _ (by omega) (by omega) (by omega)).trans v1) ((w8 _ _ (by omega) (by omega) (by omega)).trans v2) (GQ_fr hQ (fun a k h1 h2 => w8 a k (by omega) (by omega) (by omega)) fun _ => rfl) w1 w2 w3 w4 (w5.trans (v4.1 _ _ (by omega) (by omega) (by omega) (by omega))) w6 (w7.trans (by rw [v4.1 _ _ (by omega) (by omega) (by omega) (by omega)])) ⟨fun a k g1 g2 g3 g4 g5 g6 g7 => (w8 a k g5 g6 g7).trans (v4.1 a k g1 g2 g3 g4), (w8 _ _ (by omega) (by omega) (by omega)).trans v4.2.1, v4.2.2⟩
    · unfold mpu
      rw [if_pos ⟨rfl, rfl⟩]
    · rcases hsp.2.2 with h | h
      · exact Or.inr ⟨h.2, h.1⟩
      · exact Or.inl ⟨h.2, h.1⟩
    · unfold mpu
      rw [if_neg h2, if_neg h1]
  · have := qA_bd (Sn := Sn) (sc := sc) (ar := ar) (t := txC m n) (n := n) (qG_5 hT)
    constructor <;> omega
end CGL
