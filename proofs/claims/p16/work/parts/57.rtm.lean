/-! the reference reads one TERM -/
section RTM
variable {X : aX} {d : Nat} {P : Mp} {base : Nat} {t : Int → Int} {n most fr : Int} {m : Mi} {J : Mj}
theorem k2s_all (k : Int) (h : 0 ≤ k ∧ k ≤ 12) : (k2s k = 0 ↔ k = 0) ∧ (k2s k = 1 ↔ k = 1) ∧ (k2s k = 2 ↔ k = 2) ∧ (k2s k = 3 ↔ k = 3) ∧ (k2s k = 6 ↔ k = 10) ∧ (k2s k = 7 ↔ k = 11) := by
  have g : ((List.range 13).all fun k => decide ((k2s (k : Nat) = 0 ↔ ((k : Nat) : Int) = 0) ∧ (k2s (k : Nat) = 1 ↔ ((k : Nat) : Int) = 1) ∧ (k2s (k : Nat) = 2 ↔ ((k : Nat) : Int) = 2) ∧ (k2s (k : Nat) = 3 ↔ ((k : Nat) : Int) = 3) ∧ (k2s (k : Nat) = 6 ↔ ((k : Nat) : Int) = 10) ∧ (k2s (k : Nat) = 7 ↔ ((k : Nat) : Int) = 11))) = true := by decide +kernel
  have := of_decide_eq_true (List.all_eq_true.mp g k.toNat (List.mem_range.mpr (by omega)))
  rw [show ((k.toNat : Nat) : Int) = k by omega] at this
  exact this
theorem tS_all {p : Int} (hT : Tx t n) : (tS t n p = 0 ↔ tK t n p = 0) ∧ (tS t n p = 1 ↔ tK t n p = 1) ∧ (tS t n p = 2 ↔ tK t n p = 2) ∧ (tS t n p = 3 ↔ tK t n p = 3) ∧ (tS t n p = 6 ↔ tK t n p = 10) ∧ (tS t n p = 7 ↔ tK t n p = 11) := by
  rw [tS_k hT]
  exact k2s_all _ (tK_bd t n p)
theorem rC_fr {p : Int} {m' : Mi} {J' : Mj} (h : rC t n p m J) (f1 : ∀ k, k ≤ 6 → m' 262 k = m 262 k) (f2 : ∀ k, m' 263 k = m 263 k) (f3 : ∀ k, J' 262 k = J 262 k) : rC t n p m' J' := by
  obtain ⟨⟨s1, s2, s3, s4, s5⟩, s6, s7, s8, s9, s10⟩ := h
  unfold rC wds
  unfold wds at s10
  rw [f1 _ (by decide), f1 _ (by decide), f1 _ (by decide), f1 _ (by decide), f1 _ (by decide), f3, f3, f3, lk_eq (f1 _ (by decide)) f2]
  exact ⟨⟨s1, s2, s3, s4, s5⟩, s6, s7, s8, s9, s10⟩
/-- the reference's rows hold what was read, from base on -/
def RY (base : Nat) (Y : Mi) (m : Mi) (J : Mj) : Prop := m 262 16 = base + Y 0 3 ∧ (∀ c : Nat, (c : Int) < Y 0 3 → m 269 (base + c) = Y 1 c ∧ m 270 (base + c) = Y 3 c ∧ m 271 (base + c) = Y 4 c ∧ J 265 (base + c) = rN (Y 2 c).toNat) ∧ m 262 17 = Y 0 4 ∧ ∀ v : Nat, (v : Int) < Y 0 4 → J 266 v = rN (Y 7 v).toNat
/-- what reading a TERM may change -/
def tF (base : Nat) (m : Mi) (J : Mj) (m' : Mi) (J' : Mj) : Prop := (∀ a k, ¬ (a = 262 ∧ (k = 3 ∨ k = 4 ∨ k = 5 ∨ k = 6 ∨ k = 10 ∨ k = 11 ∨ k = 16 ∨ k = 17)) → ¬ ((a = 269 ∨ a = 270 ∨ a = 271) ∧ base ≤ k) → a ≠ 278 → m' a k = m a k) ∧ (∀ a k, ¬ (a = 262 ∧ k = 7) → ¬ (a = 265 ∧ base ≤ k) → a ≠ 266 → J' a k = J a k)
theorem tF_refl : tF base m J m J := ⟨fun _ _ _ _ _ => rfl, fun _ _ _ _ _ => rfl⟩
theorem tF_trans {m' m'' : Mi} {J' J'' : Mj} (h1 : tF base m J m' J') (h2 : tF base m' J' m'' J'') : tF base m J m'' J'' :=
  ⟨fun a k g g2 g3 => (h2.1 a k g g2 g3).trans (h1.1 a k g g2 g3), fun a k g g2 g3 => (h2.2 a k g g2 g3).trans (h1.2 a k g g2 g3)⟩
theorem tF_nxt {m' : Mi} {J' : Mj} (h : rF m J m' J') : tF base m J m' J' :=
  ⟨fun a k g _ _ => h.1 a k (fun e => g ⟨e.1, by omega⟩), fun a k g _ _ => h.2 a k g⟩
theorem tF_rf {x y : Int} : tF base m J (rf m x y) J := by
  unfold rf
  split
  · exact ⟨fun a k g _ _ => by rw [mu_ne _ _ (by omega), mu_ne _ _ (by omega)], fun _ _ _ _ _ => rfl⟩
  · exact tF_refl
theorem rf_0 {x y : Int} (h : m 262 10 = 0) : rf m x y = mu (mu m 262 10 x) 262 11 y := by rw [rf, if_pos (by omega)]
theorem rf_1 {x y : Int} (h : 0 < m 262 10) : rf m x y = m := by rw [rf, if_neg (by omega)]
variable {Y : Mi}
theorem r_variableOf_2 {w : Nat} {p : Int} (hp : PP P) (h17 : m 262 17 = Y 0 4) (hJ : ∀ v : Nat, (v : Int) < Y 0 4 → J 266 v = rN (Y 7 v).toNat) (hN : ∀ v : Nat, (v : Int) < Y 0 4 → 0 ≤ Y 7 v ∧ isN (Y 7 v).toNat) (hb : 0 ≤ Y 0 4 ∧ Y 0 4 ≤ most ∧ most ≤ 8) (hw : isN w) (hname : J 262 7 = rN w) (hat : m 262 4 = p) (h10 : m 262 10 = 0) {post : Int → Mi → Mj → Mp → Prop} : ∀ (k i : Nat), (i : Int) + k = Y 0 4 → (0 ≤ vfi Y w i k → post (vfi Y w i k) m J P) → (vfi Y w i k < 0 → most ≤ Y 0 4 → post 0 (mu (mu m 262 10 3) 262 11 p) J P) → (vfi Y w i k < 0 → Y 0 4 < most → post (Y 0 4) (mu m 262 17 (Y 0 4 + 1)) (mju J 266 (Y 0 4).toNat (rN w)) P) → Rn X (d + 1) 148 2 [some (.ref 262), some (.int (iz most)), some (.int (iz (i : Int)))] [] (SS m J P) (QI post) := by
  intro k
  induction k with
  | zero =>
    intro i hi k1 k2 k3
    have e : vfi Y w i 0 = -1 := rfl
    refine b_Mdl_variableOf_2 most i m J P hp post ⟨by constructor <;> omega, by rw [h17]; constructor <;> omega, fun _ => ⟨by constructor <;> omega, by rw [h17]; constructor <;> omega, fun _ => ⟨by constructor <;> omega, by constructor <;> omega, fun g => ⟨by omega, ?_⟩, fun g => ?_⟩, fun g => absurd (by rw [h17]; omega) g⟩, fun g => absurd (by rw [h17]; omega) g⟩
    · have ei : (i : Int) = Y 0 4 := by omega
      rw [ei, h17, hname]
      exact k3 (by omega) (by omega)
    · refine r_fail hp (by rw [h10]; exact zr0) ⟨hp, ?_⟩
      rw [rf_0 h10, hat]
      exact k2 (by omega) (by omega)
  | succ k ih =>
    intro i hi k1 k2 k3
    have hn := hN i (by omega)
    refine b_Mdl_variableOf_2 most i m J P hp post ⟨by constructor <;> omega, by rw [h17]; constructor <;> omega, fun g => absurd g (by rw [h17]; omega), fun _ => ⟨by omega, zcmp_zr _ _, fun g => ?_, fun g => ?_⟩⟩
    · rw [zcmp_0, show ((i : Int)).toNat = i by omega, hJ i (by omega), hname, rN_inj hn.2 hw] at g
      have e : vfi Y w i (k + 1) = i := by rw [vfi, if_pos (by omega)]
      rw [e] at k1
      exact ⟨by constructor <;> omega, by rw [h17]; constructor <;> omega, fun g2 => absurd g2 (by rw [h17]; omega), fun _ => k1 (by omega)⟩
    · rw [zcmp_0, show ((i : Int)).toNat = i by omega, hJ i (by omega), hname, rN_inj hn.2 hw] at g
      have e : vfi Y w i (k + 1) = vfi Y w (i + 1) k := by rw [vfi, if_neg (by omega)]
      rw [e] at k1 k2 k3
      exact ih (i + 1) (by omega) k1 k2 k3
theorem r_variableOf {w : Nat} {p : Int} (hp : PP P) (h17 : m 262 17 = Y 0 4) (hJ : ∀ v : Nat, (v : Int) < Y 0 4 → J 266 v = rN (Y 7 v).toNat) (hN : ∀ v : Nat, (v : Int) < Y 0 4 → 0 ≤ Y 7 v ∧ isN (Y 7 v).toNat) (hb : 0 ≤ Y 0 4 ∧ Y 0 4 ≤ most ∧ most ≤ 8) (hw : isN w) (hname : J 262 7 = rN w) (hat : m 262 4 = p) (h10 : m 262 10 = 0) {post : Int → Mi → Mj → Mp → Prop} (k1 : 0 ≤ vfi Y w 0 (Y 0 4).toNat → post (vfi Y w 0 (Y 0 4).toNat) m J P) (k2 : vfi Y w 0 (Y 0 4).toNat < 0 → most ≤ Y 0 4 → post 0 (mu (mu m 262 10 3) 262 11 p) J P) (k3 : vfi Y w 0 (Y 0 4).toNat < 0 → Y 0 4 < most → post (Y 0 4) (mu m 262 17 (Y 0 4 + 1)) (mju J 266 (Y 0 4).toNat (rN w)) P) : Ci X (d + 1) 148 [.ref 262, .int (iz most)] m J P post :=
  Ci.of rfl rfl rfl (b_Mdl_variableOf_0 most m J P hp post (r_variableOf_2 hp h17 hJ hN hb hw hname hat h10 (Y 0 4).toNat 0 (by omega) k1 k2 k3))
theorem RY_add {Y Y' m' : Mi} {J' : Mj} {v w p : Int} (h : RY base Y m J) (h0 : 0 ≤ Y 0 3) (y3 : Y' 0 3 = Y 0 3) (yr : ∀ r c, 1 ≤ r → r ≤ 5 → Y' r c = Y r c) (m16 : m' 262 16 = base + Y 0 3 + 1) (hk : m' 269 (base + (Y 0 3).toNat) = v ∧ m' 270 (base + (Y 0 3).toNat) = p ∧ m' 271 (base + (Y 0 3).toNat) = 0 ∧ J' 265 (base + (Y 0 3).toNat) = rN w.toNat) (hj : ∀ j, j < base + (Y 0 3).toNat → m' 269 j = m 269 j ∧ m' 270 j = m 270 j ∧ m' 271 j = m 271 j ∧ J' 265 j = J 265 j) (h17 : m' 262 17 = Y' 0 4) (h7 : ∀ v : Nat, (v : Int) < Y' 0 4 → J' 266 v = rN (Y' 7 v).toNat) : RY base (yAdd Y' v w p) m' J' := by
  obtain ⟨h1, h2, h3, h4⟩ := h
  simp only [RY, yAdd, mu]
  simp
  refine ⟨by rw [m16, y3]; omega, fun c hc => ?_, h17, h7⟩
  rw [y3] at hc ⊢
  by_cases e : c = (Y 0 3).toNat
  · simp only [e, if_true]
    exact hk
  · simp only [e, if_false]
    have g := h2 c (by omega)
    have j := hj (base + c) (by omega)
    rw [j.1, j.2.1, j.2.2.1, j.2.2.2, yr 1 c (by decide) (by decide), yr 2 c (by decide) (by decide), yr 3 c (by decide) (by decide), yr 4 c (by decide) (by decide)]
    exact g
theorem RY_fr {m' : Mi} {J' : Mj} (h : RY base Y m J) (f1 : m' 262 16 = m 262 16) (f2 : m' 262 17 = m 262 17) (f3 : ∀ k, m' 269 k = m 269 k ∧ m' 270 k = m 270 k ∧ m' 271 k = m 271 k ∧ J' 265 k = J 265 k ∧ J' 266 k = J 266 k) : RY base Y m' J' := by
  obtain ⟨h1, h2, h3, h4⟩ := h
  refine ⟨f1.trans h1, fun c hc => ?_, f2.trans h3, fun v hv => by rw [(f3 v).2.2.2.2]; exact h4 v hv⟩
  have f := f3 (base + c)
  rw [f.1, f.2.1, f.2.2.1, f.2.2.2.1]
  exact h2 c hc
theorem RY_nxt {m' : Mi} {J' : Mj} (h : RY base Y m J) (f : rF m J m' J') : RY base Y m' J' :=
  RY_fr h (f.1 _ _ (by decide)) (f.1 _ _ (by decide)) (fun k => ⟨f.1 _ _ (fun e => by cases e.1), f.1 _ _ (fun e => by cases e.1), f.1 _ _ (fun e => by cases e.1), f.2 _ _ (fun e => by cases e.1), f.2 _ _ (fun e => by cases e.1)⟩)
/-- an item was added in the memory -/
def Ia (base : Nat) (Y Y' : Mi) (v w p : Int) (m : Mi) (J : Mj) (m2 : Mi) (J2 : Mj) : Prop := RY base (yAdd Y' v w p) m2 J2 ∧ tF base m J m2 J2 ∧ (∀ k, k ≤ 11 → m2 262 k = m 262 k) ∧ (∀ k, m2 263 k = m 263 k) ∧ (∀ k, J2 262 k = J 262 k) ∧ (∀ k, m2 278 k = m 278 k)
end RTM
