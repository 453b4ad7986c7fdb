/-! the class reads one head -/
section CYD
variable {X : aX} {d : Nat} {P : Mp}
/-- the names of a book -/
def BN (b : Nat) (Sn : Nat → Nat) (sc : Nat) (m : Mi) (J : Mj) : Prop := (m b 4 = sc ∧ sc ≤ 16) ∧ ∀ i : Nat, i < sc → J (b + 1) i = cN (Sn i) ∧ isN (Sn i)
theorem c_symbolOf_2 {b : Nat} {Sn : Nat → Nat} {sc w : Nat} {m : Mi} {J : Mj} (hp : PP P) (kb : am_kd an_K b = some (.inl 10)) (hB : BN b Sn sc m J) (hw : isN w) {post : Int → Mi → Mj → Mp → Prop} : ∀ (k i : Nat), i + k = sc → post (if sfi Sn w i k < 0 then 16 else sfi Sn w i k) m J P → Rn X d 32 2 [some (.ref b), some (.long (cN w)), none, some (.int (iz (i : Int)))] [] (SS m J P) (QI post) := by
  intro k
  induction k with
  | zero =>
    intro i hi h
    have e := hB.1.1
    have h16 := hB.1.2
    rw [sfi, if_pos (by decide)] at h
    exact b_Book_symbolOf_2 b (cN w) i kb m J P hp post ⟨by constructor <;> omega, by rw [e]; constructor <;> omega, fun _ => h, fun g => absurd (by rw [e]; omega) g⟩
  | succ k ih =>
    intro i hi h
    have e := hB.1.1
    have h16 := hB.1.2
    have hn := hB.2 i (by omega)
    refine b_Book_symbolOf_2 b (cN w) i kb m J P hp post ⟨by constructor <;> omega, by rw [e]; constructor <;> omega, fun g => absurd g (by rw [e]; omega), fun _ => ⟨by omega, zcmp_zr _ _, fun g => ?_, fun g => ?_⟩⟩
    · rw [zcmp_0, show ((i : Int)).toNat = i by omega, hn.1, cN_inj hn.2 hw] at g
      rw [sfi, if_neg g] at h
      exact ih (i + 1) (by omega) h
    · rw [zcmp_0, show ((i : Int)).toNat = i by omega, hn.1, cN_inj hn.2 hw] at g
      rw [sfi, if_pos (Classical.not_not.mp g), if_neg (by omega)] at h
      exact h
theorem c_symbolOf {b : Nat} {Sn : Nat → Nat} {sc w : Nat} {m : Mi} {J : Mj} (hp : PP P) (kb : am_kd an_K b = some (.inl 10)) (hB : BN b Sn sc m J) (hw : isN w) {post : Int → Mi → Mj → Mp → Prop} (k : post (sy Sn sc w) m J P) : Ci X d 32 [.ref b, .long (cN w)] m J P post :=
  Ci.of rfl rfl rfl (b_Book_symbolOf_0 b (cN w) kb m J P hp post (c_symbolOf_2 hp kb hB hw sc 0 (by omega) k))
theorem c_variable_3 {o w : Nat} {Y : Mi} {most : Int} {m : Mi} {J : Mj} (hp : PP P) (ko : am_kd an_K o = some (.inl 8)) (hv : m o 7 = Y 0 4) (hJ : ∀ v : Nat, (v : Int) < Y 0 4 → J (o + 5) v = cN (Y 7 v).toNat) (hN : ∀ v : Nat, (v : Int) < Y 0 4 → 0 ≤ Y 7 v ∧ isN (Y 7 v).toNat) (hb : 0 ≤ Y 0 4 ∧ Y 0 4 ≤ most ∧ most ≤ 8) (hw : isN w) {post : Int → Mi → Mj → Mp → Prop} : ∀ (k i : Nat), (i : Int) + k = Y 0 4 → (0 ≤ vfi Y w i k → post (vfi Y w i k) m J P) → (vfi Y w i k < 0 → most ≤ Y 0 4 → post (-1) m J P) → (vfi Y w i k < 0 → Y 0 4 < most → post (Y 0 4) (mu m o 7 (Y 0 4 + 1)) (mju J (o + 5) (Y 0 4).toNat (cN w)) P) → Rn X d 33 3 [some (.ref o), some (.long (cN w)), none, some (.int (iz most)), some (.int (iz (i : Int)))] [] (SS m J P) (QI post) := by
  intro k
  induction k with
  | zero =>
    intro i hi k1 k2 k3
    have e : vfi Y w i 0 = -1 := rfl
    refine b_Equation_variable_3 o (cN w) most i ko m J P hp post ⟨by constructor <;> omega, by rw [hv]; constructor <;> omega, fun _ => ⟨by rw [hv]; constructor <;> omega, by constructor <;> omega, fun g => ?_, fun g => ⟨by rw [hv]; constructor <;> omega, fun g2 => ⟨by rw [hv]; omega, ?_⟩, fun g2 => absurd (by rw [hv]; rw [hv] at g; omega) g2⟩⟩, fun g => absurd (by rw [hv]; omega) g⟩
    · rw [hv] at g
      exact k2 (by omega) g
    · rw [hv] at g
      rw [mu_at, hv, Int.add_sub_cancel]
      exact k3 (by omega) (by omega)
  | succ k ih =>
    intro i hi k1 k2 k3
    have hn := hN i (by omega)
    refine b_Equation_variable_3 o (cN w) most i ko m J P hp post ⟨by constructor <;> omega, by rw [hv]; constructor <;> omega, fun g => absurd g (by rw [hv]; omega), fun _ => ⟨by omega, zcmp_zr _ _, fun g => ?_, fun g => ?_⟩⟩
    · rw [zcmp_0, show ((i : Int)).toNat = i by omega, hJ i (by omega), cN_inj hn.2 hw] at g
      have e : vfi Y w i (k + 1) = vfi Y w (i + 1) k := by rw [vfi, if_neg (by omega)]
      rw [e] at k1 k2 k3
      exact ih (i + 1) (by omega) k1 k2 k3
    · rw [zcmp_0, show ((i : Int)).toNat = i by omega, hJ i (by omega), cN_inj hn.2 hw] at g
      have e : vfi Y w i (k + 1) = i := by rw [vfi, if_pos (by have := Classical.not_not.mp g; omega)]
      rw [e] at k1
      exact k1 (by omega)
theorem c_variable {o w : Nat} {Y : Mi} {most : Int} {m : Mi} {J : Mj} (hp : PP P) (ko : am_kd an_K o = some (.inl 8)) (hv : m o 7 = Y 0 4) (hJ : ∀ v : Nat, (v : Int) < Y 0 4 → J (o + 5) v = cN (Y 7 v).toNat) (hN : ∀ v : Nat, (v : Int) < Y 0 4 → 0 ≤ Y 7 v ∧ isN (Y 7 v).toNat) (hb : 0 ≤ Y 0 4 ∧ Y 0 4 ≤ most ∧ most ≤ 8) (hw : isN w) {post : Int → Mi → Mj → Mp → Prop} (k1 : 0 ≤ vfi Y w 0 (Y 0 4).toNat → post (vfi Y w 0 (Y 0 4).toNat) m J P) (k2 : vfi Y w 0 (Y 0 4).toNat < 0 → most ≤ Y 0 4 → post (-1) m J P) (k3 : vfi Y w 0 (Y 0 4).toNat < 0 → Y 0 4 < most → post (Y 0 4) (mu m o 7 (Y 0 4 + 1)) (mju J (o + 5) (Y 0 4).toNat (cN w)) P) : Ci X d 33 [.ref o, .long (cN w), .int (iz most)] m J P post :=
  Ci.of rfl rfl rfl (b_Equation_variable_0 o (cN w) most ko m J P hp post (c_variable_3 hp ko hv hJ hN hb hw (Y 0 4).toNat 0 (by omega) k1 k2 k3))
theorem c_add {o : Nat} {x1 x2 s : Int} {m : Mi} {J : Mj} (hp : PP P) (ko : am_kd an_K o = some (.inl 8)) (hs : m o 6 = s) (hb : 0 ≤ s ∧ s < 80) {post : Mi → Mj → Mp → Prop} (k : post (mu (mu (mu (mu m (o + 1) s.toNat x1) (o + 3) s.toNat x2) o 6 (s + 1)) (o + 2) s.toNat (s + 1)) J P) : Cv X d 34 [.ref o, .int (iz x1), .int (iz x2)] m J P post := by
  have H := b_Equation_add_0 (X := X) (d := d) o x1 x2 ko m J P hp post
  have e1 : mu m (o + 1) s.toNat x1 o 6 = s := by rw [mu_ne _ _ (by omega)]; exact hs
  have e2 : mu (mu m (o + 1) s.toNat x1) (o + 3) s.toNat x2 o 6 = s := by rw [mu_ne _ _ (by omega)]; exact e1
  simp only [hs, e1, e2, mu_at, Int.add_sub_cancel] at H
  exact Cv.of rfl rfl rfl (H ⟨by constructor <;> omega, fun _ => ⟨hb, hb, hb, k⟩, fun g => absurd hb.2 g⟩)
/-- the cell of an item -/
def ce (Sn : Nat → Nat) (sc : Nat) (v w : Int) : Int := if 0 ≤ v then -1 - v else sy Sn sc w.toNat
/-- the class's EQUATION at o holds what was read -/
def EY (o : Nat) (Sn : Nat → Nat) (sc : Nat) (Y : Mi) (m : Mi) (J : Mj) : Prop := m o 6 = Y 0 3 ∧ (∀ c : Nat, (c : Int) < Y 0 3 → m (o + 1) c = ce Sn sc (Y 1 c) (Y 2 c) ∧ m (o + 2) c = Y 5 c ∧ m (o + 3) c = Y 3 c) ∧ m o 7 = Y 0 4 ∧ ∀ v : Nat, (v : Int) < Y 0 4 → J (o + 5) v = cN (Y 7 v).toNat
theorem EY_add {o : Nat} {Sn : Nat → Nat} {sc : Nat} {Y m : Mi} {J : Mj} {v w p : Int} (h : EY o Sn sc Y m J) (h0 : 0 ≤ Y 0 3) : EY o Sn sc (yAdd Y v w p) (mu (mu (mu (mu m (o + 1) (Y 0 3).toNat (ce Sn sc v w)) (o + 3) (Y 0 3).toNat p) o 6 (Y 0 3 + 1)) (o + 2) (Y 0 3).toNat (Y 0 3 + 1)) J := by
  obtain ⟨h1, h2, h3, h4⟩ := h
  simp only [EY, yAdd, mu]
  simp
  refine ⟨fun c hc => ?_, h3, h4⟩
  by_cases e : c = (Y 0 3).toNat
  · simp [e]
  · simp only [e, if_false]
    exact h2 c (by omega)
theorem EY_var {o : Nat} {Sn : Nat → Nat} {sc : Nat} {Y m : Mi} {J : Mj} {w : Nat} (h : EY o Sn sc Y m J) (h0 : 0 ≤ Y 0 4) : EY o Sn sc (yVn Y w) (mu m o 7 (Y 0 4 + 1)) (mju J (o + 5) (Y 0 4).toNat (cN w)) := by
  obtain ⟨h1, h2, h3, h4⟩ := h
  simp only [EY, yVn, mu, mju]
  simp
  refine ⟨h1, h2, fun v hv => ?_⟩
  by_cases e : v = (Y 0 4).toNat
  · simp [e]
  · simp only [e, if_false]
    exact h4 v (by omega)
theorem EY_fr {o : Nat} {Sn : Nat → Nat} {sc : Nat} {Y m m' : Mi} {J J' : Mj} (h : EY o Sn sc Y m J) (f1 : ∀ a k, o ≤ a → a ≤ o + 3 → m' a k = m a k) (f2 : ∀ k, J' (o + 5) k = J (o + 5) k) : EY o Sn sc Y m' J' := by
  obtain ⟨h1, h2, h3, h4⟩ := h
  refine ⟨by rw [f1 _ _ (by omega) (by omega)]; exact h1, fun c hc => ?_, by rw [f1 _ _ (by omega) (by omega)]; exact h3, fun v hv => by rw [f2]; exact h4 v hv⟩
  rw [f1 _ _ (by omega) (by omega), f1 _ _ (by omega) (by omega), f1 _ _ (by omega) (by omega)]
  exact h2 c hc
theorem cC_fr {t : Int → Int} {n p : Int} {m m' : Mi} {J J' : Mj} (h : cC t n p m J) (f1 : ∀ k, m' 2 k = m 2 k) (f2 : ∀ k, m' 3 k = m 3 k) (f3 : ∀ k, J' 2 k = J 2 k) : cC t n p m' J' := by
  obtain ⟨⟨s1, s2, s3, s4, s5⟩, s6, s7⟩ := h
  unfold cC
  rw [f1, f1, f1, f1, f1, f3, lc_eq (f1 _) f2]
  exact ⟨⟨s1, s2, s3, s4, s5⟩, s6, s7⟩
/-- what reading a head may change -/
def hF (o : Nat) (m : Mi) (J : Mj) (m' : Mi) (J' : Mj) : Prop := (∀ a k, a ≠ 2 → (a < o ∨ o + 3 < a) → m' a k = m a k) ∧ m' 2 1 = m 2 1 ∧ (∀ a k, a ≠ 2 → a ≠ o + 5 → J' a k = J a k) ∧ (∀ k, k ≠ 6 → k ≠ 7 → m' o k = m o k)
theorem hF_trans {o : Nat} {m m' m'' : Mi} {J J' J'' : Mj} (h1 : hF o m J m' J') (h2 : hF o m' J' m'' J'') : hF o m J m'' J'' :=
  ⟨fun a k g g2 => (h2.1 a k g g2).trans (h1.1 a k g g2), h2.2.1.trans h1.2.1, fun a k g g2 => (h2.2.2.1 a k g g2).trans (h1.2.2.1 a k g g2), fun k g g2 => (h2.2.2.2 k g g2).trans (h1.2.2.2 k g g2)⟩
theorem hF_adv {o : Nat} {m m' : Mi} {J J' : Mj} (ho : 39 ≤ o) (h : cF m J m' J') : hF o m J m' J' :=
  ⟨fun a k g _ => h.1 a k (fun e => g e.1), h.1 _ _ (by decide), fun a k g _ => h.2 a k (fun e => g e.1), fun k _ _ => h.1 _ _ (by omega)⟩
theorem hF_add {o : Nat} {m : Mi} {J : Mj} {s : Nat} {x1 x2 q r : Int} (ho : 39 ≤ o) : hF o m J (mu (mu (mu (mu m (o + 1) s x1) (o + 3) s x2) o 6 q) (o + 2) s r) J :=
  ⟨fun a k g g2 => by rw [mu_ne _ _ (by omega), mu_ne _ _ (by omega), mu_ne _ _ (by omega), mu_ne _ _ (by omega)], by rw [mu_ne _ _ (by omega), mu_ne _ _ (by omega), mu_ne _ _ (by omega), mu_ne _ _ (by omega)], fun _ _ _ _ => rfl, fun k g g2 => by rw [mu_ne _ _ (by omega), mu_ne _ _ (by omega), mu_ne _ _ (by omega), mu_ne _ _ (by omega)]⟩
theorem hF_var {o : Nat} {m : Mi} {J : Mj} {s : Nat} {x : Int} {w : Int64} (ho : 39 ≤ o) : hF o m J (mu m o 7 x) (mju J (o + 5) s w) :=
  ⟨fun a k g g2 => mu_ne _ _ (by omega), mu_ne _ _ (by omega), fun a k _ g => mju_ne _ _ (by omega), fun k g g2 => mu_ne _ _ (by omega)⟩
theorem cC_hF {o : Nat} {t : Int → Int} {n p : Int} {m : Mi} {J : Mj} {s : Nat} {x1 x2 q r : Int} (ho : 39 ≤ o) (h : cC t n p m J) : cC t n p (mu (mu (mu (mu m (o + 1) s x1) (o + 3) s x2) o 6 q) (o + 2) s r) J :=
  cC_fr h (fun k => by rw [mu_ne _ _ (by omega), mu_ne _ _ (by omega), mu_ne _ _ (by omega), mu_ne _ _ (by omega)]) (fun k => by rw [mu_ne _ _ (by omega), mu_ne _ _ (by omega), mu_ne _ _ (by omega), mu_ne _ _ (by omega)]) (fun _ => rfl)
/-- where a book and an EQUATION lie -/
def EB (o b : Nat) : Prop := 39 ≤ o ∧ o ≤ 256 ∧ 39 ≤ b ∧ (b + 5 ≤ o ∨ o + 6 ≤ b)
variable {b o sc : Nat} {Sn : Nat → Nat} {t : Int → Int} {n most fr : Int} {Y m : Mi} {J : Mj}
/-- an item is added, and the next TOKEN is read -/
theorem c_addAdv {v w p q : Int} (hp : PP P) (ko : am_kd an_K o = some (.inl 8)) (ho : 39 ≤ o) (hT : Tx t n) (hn : 0 ≤ p ∧ p ≤ n) (hC : cC t n p m J) (hY : EY o Sn sc Y m J) (hs : 0 ≤ Y 0 3 ∧ Y 0 3 < 80) (hq : q = p) {post : Mi → Mj → Mp → Prop} (k : ∀ m' J', cC t n (nxp t n p) m' J' → EY o Sn sc (yAdd Y v w p) m' J' → hF o m J m' J' → post m' J' P) : Cv X (d + 2) 34 [.ref o, .int (iz (ce Sn sc v w)), .int (iz q)] m J P (fun m1 J1 P1 => PP P1 ∧ Cv X (d + 2) 19 [.ref 2] m1 J1 P1 (fun m2 J2 P2 => PP P2 ∧ post m2 J2 P2)) := by
  rw [hq]
  refine c_add hp ko hY.1 hs ⟨hp, ?_⟩
  refine c_adv hp hT hn (cC_hF ho hC) fun m' J' h1 h2 => ⟨hp, k m' J' h1 ?_ (hF_trans (hF_add ho) (hF_adv ho h2))⟩
  exact EY_fr (EY_add hY hs.1) (fun a k g g2 => h2.1 a k (fun e => by omega)) (fun k => h2.2 _ _ (fun e => by omega))
theorem c_readHead (hp : PP P) (kb : am_kd an_K b = some (.inl 10)) (ko : am_kd an_K o = some (.inl 8)) (hE : EB o b) (hT : Tx t n) (hB : BN b Sn sc m J) (hC : cC t n (Y 0 0) m J) (hY : EY o Sn sc Y m J) (hI : yI n most fr Y) (hf : 0 ≤ fr ∧ fr ≤ 40) (hm : most ≤ 8) {post : Int → Mi → Mj → Mp → Prop} (k1 : ¬ (tK t n (Y 0 0) = 1 ∨ tK t n (Y 0 0) = 2) → post 0 (mu (mu m 4 3 (ft t n (Y 0 0))) 4 4 (Y 0 0)) J P) (k2 : (tK t n (Y 0 0) = 1 ∨ tK t n (Y 0 0) = 2) → (40 ≤ Y 0 3 - fr ∨ (tK t n (Y 0 0) ≠ 1 ∧ vfi Y (yw t n Y) 0 (Y 0 4).toNat < 0 ∧ most ≤ Y 0 4)) → post 0 (mu (mu m 4 3 3) 4 4 (Y 0 0)) J P) (k3 : tK t n (Y 0 0) = 1 → Y 0 3 - fr < 40 → ∀ m' J', cC t n (nxp t n (Y 0 0)) m' J' → EY o Sn sc (yAdd Y (-1) (yw t n Y) (Y 0 0)) m' J' → hF o m J m' J' → post 1 m' J' P) (k4 : tK t n (Y 0 0) = 2 → Y 0 3 - fr < 40 → 0 ≤ vfi Y (yw t n Y) 0 (Y 0 4).toNat → ∀ m' J', cC t n (nxp t n (Y 0 0)) m' J' → EY o Sn sc (yAdd Y (vfi Y (yw t n Y) 0 (Y 0 4).toNat) (yw t n Y) (Y 0 0)) m' J' → hF o m J m' J' → post 1 m' J' P) (k5 : tK t n (Y 0 0) = 2 → Y 0 3 - fr < 40 → vfi Y (yw t n Y) 0 (Y 0 4).toNat < 0 → Y 0 4 < most → ∀ m' J', cC t n (nxp t n (Y 0 0)) m' J' → EY o Sn sc (yAdd (yVn Y (yw t n Y)) (Y 0 4) (yw t n Y) (Y 0 0)) m' J' → hF o m J m' J' → post 1 m' J' P) : Ci X (d + 3) 31 [.ref 4, .ref b, .ref o, .int (iz fr), .int (iz most)] m J P post := by
  have hkb := tK_bd t n (Y 0 0)
  have e4 : m 2 4 = tK t n (Y 0 0) := hC.1.2.2.1
  have e5 : m 2 5 = Y 0 0 := hC.1.1
  have e6 : m o 6 = Y 0 3 := hY.1
  obtain ⟨i1, i2, i3, i4, i5, i6, i7, i8, i9⟩ := hI
  have hz : Zr (m 2 4) := by rw [e4]; constructor <;> omega
  refine Ci.of rfl rfl rfl (b_Reader_readHead_0 b o fr most kb ko m J P hp post ⟨hz, fun g => ?_, fun g => c_isLast hp hC zr1 (fun g1 => ⟨hp, zr1, fun _ => ?_, fun g2 => absurd (by decide) g2⟩) (fun g1 => ⟨hp, zr0, fun g2 => absurd rfl g2, fun _ => k1 (fun h => h.elim g1 (fun h => g (e4.trans h)))⟩)⟩)
  all_goals
    have hk : tK t n (Y 0 0) = 1 ∨ tK t n (Y 0 0) = 2 := by omega
    have hw := tN_is hT hk
    have hJ : J 2 7 = cN (tN t n (Y 0 0)) := hC.2.2 (by rw [e4]; exact hk)
    refine ⟨by rw [e6]; constructor <;> omega, fun g4 => ⟨hz, fun g5 => ?_, fun g5 => ?_⟩, fun g4 => c_refuse hp ⟨hp, Or.inl rfl, ?_⟩⟩
    · rw [e6] at g4
      rw [e4] at g5
      rw [hJ]
      refine c_variable (Y := Y) hp ko hY.2.2.1 hY.2.2.2 i7 (by omega) hw.1 (fun h => ⟨hp, by have := vfi_bd Y (tN t n (Y 0 0) : Nat) (Y 0 4).toNat 0; constructor <;> omega, fun _ => ?_, fun g7 => absurd (fun e => by rw [e] at h; exact absurd h (by decide)) g7⟩) (fun h h2 => ⟨hp, by constructor <;> decide, fun g7 => absurd rfl g7, fun _ => c_refuse hp ⟨hp, Or.inl rfl, by rw [e5]; exact k2 hk (Or.inr ⟨g5, h, h2⟩)⟩⟩) (fun h h2 => ⟨hp, by constructor <;> omega, fun _ => ?_, fun g7 => absurd (by omega) g7⟩)
      · have e7 : -1 - vfi Y (tN t n (Y 0 0) : Nat) 0 (Y 0 4).toNat = ce Sn sc (vfi Y (tN t n (Y 0 0) : Nat) 0 (Y 0 4).toNat) (yw t n Y) := by rw [ce, if_pos h]
        show Cv X (d + 2) 34 [.ref o, .int (iz (-1 - vfi Y (tN t n (Y 0 0) : Nat) 0 (Y 0 4).toNat)), .int (iz (m 2 5))] m J P _
        rw [e7]
        exact c_addAdv hp ko hE.1 hT i1 hC hY (by omega) e5 (k4 (by omega) g4 h)
      · have e7 : -1 - Y 0 4 = ce Sn sc (Y 0 4) (yw t n Y) := by rw [ce, if_pos (by omega)]
        have e8 : yVn Y (tN t n (Y 0 0) : Nat) 0 3 = Y 0 3 := by simp [yVn, mu]
        show Cv X (d + 2) 34 [.ref o, .int (iz (-1 - Y 0 4)), .int (iz (mu m o 7 (Y 0 4 + 1) 2 5))] (mu m o 7 (Y 0 4 + 1)) (mju J (o + 5) (Y 0 4).toNat (cN (tN t n (Y 0 0)))) P _
        rw [e7]
        have ho := hE.1
        exact c_addAdv (Y := yVn Y (tN t n (Y 0 0) : Nat)) hp ko hE.1 hT i1 (cC_fr hC (fun k => mu_ne _ _ (by omega)) (fun k => mu_ne _ _ (by omega)) (fun k => mju_ne _ _ (by omega))) (EY_var hY i5.1) (by rw [e8]; omega) (by rw [mu_ne _ _ (by omega)]; exact e5) (fun m' J' h3 h4 h5 => k5 (by omega) g4 h h2 m' J' h3 h4 (hF_trans (hF_var hE.1) h5))
    · rw [e6] at g4
      rw [e4] at g5
      rw [hJ]
      refine c_symbolOf hp kb hB hw.1 ⟨hp, ?_⟩
      have e7 : sy Sn sc (tN t n (Y 0 0)) = ce Sn sc (-1) (yw t n Y) := by rw [ce, if_neg (by decide)]; rfl
      rw [e7]
      exact c_addAdv hp ko hE.1 hT i1 hC hY (by omega) e5 (k3 (Classical.not_not.mp g5) g4)
    · rw [e5]
      rw [e6] at g4
      exact k2 hk (Or.inl (by omega))
end CYD
