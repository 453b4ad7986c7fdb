/-! where a reading stands: class and reference -/
section CUR
variable {X : aX} {d : Nat} {P : Mp}
/-- a text of n signs -/
def Tx (t : Int → Int) (n : Int) : Prop := (∀ x, 0 ≤ t x ∧ t x ≤ 255) ∧ (∀ x, n ≤ x → t x = 0) ∧ 0 ≤ n ∧ n ≤ 1600
/-- the place of the next TOKEN -/
def nxp (t : Int → Int) (n p : Int) : Int := tA t n (tB t n p)
/-- the name of the TOKEN at a place -/
def tN (t : Int → Int) (n p : Int) : Nat := vR t p (tB t n p - p).toNat
theorem tW_le {t : Int → Int} {n p : Int} (h : p ≤ n) : p ≤ tW t n p ∧ tW t n p ≤ n := by
  have h1 := we_le t (n - p).toNat p
  have h2 := we_lt t (n - p).toNat p
  unfold tW
  omega
theorem tB_le {t : Int → Int} {n p : Int} (hT : Tx t n) (h : p ≤ n) : p ≤ tB t n p ∧ tB t n p ≤ n := by
  have h1 := tW_le (t := t) h
  have h2 : t (p + 1) = 62 → p + 1 < n := fun e => by
    apply Classical.byContradiction
    intro g
    rw [hT.2.1 (p + 1) (by omega)] at e
    exact absurd e (by decide)
  unfold tB
  by_cases a1 : n ≤ p
  · rw [if_pos a1]; omega
  rw [if_neg a1]
  by_cases a2 : 48 ≤ t p ∧ t p ≤ 57
  · rw [if_pos a2]; omega
  rw [if_neg a2]
  by_cases a3 : 0 < cd (t p)
  · rw [if_pos a3]; exact h1
  rw [if_neg a3]
  by_cases a4 : t p = 45 ∧ t (p + 1) = 62
  · have := h2 a4.2
    rw [if_pos a4]; omega
  · rw [if_neg a4]; omega
theorem tA_le {t : Int → Int} {n b : Int} (h : b ≤ n) : b ≤ tA t n b ∧ tA t n b ≤ n := ⟨sk_le t n _ b, sk_lt t n _ b h⟩
theorem nxp_le {t : Int → Int} {n p : Int} (hT : Tx t n) (h : p ≤ n) : p ≤ nxp t n p ∧ nxp t n p ≤ n := by
  have h1 := tB_le hT h
  have h2 := tA_le (t := t) h1.2
  unfold nxp
  omega
/-- a TOKEN that isn't the end takes a sign at least -/
theorem tB_lt {t : Int → Int} {n p : Int} (h : tK t n p ≠ 0) : p < tB t n p := by
  have a1 : ¬ n ≤ p := fun g => h (by rw [tK, if_pos g])
  unfold tB
  rw [if_neg a1]
  by_cases a2 : 48 ≤ t p ∧ t p ≤ 57
  · rw [if_pos a2]; omega
  rw [if_neg a2]
  by_cases a3 : 0 < cd (t p)
  · rw [if_pos a3]
    have e : (n - p).toNat = (n - p - 1).toNat + 1 := by omega
    have := we_le t (n - p - 1).toNat (p + 1)
    unfold tW
    rw [e, we, if_pos a3]
    omega
  rw [if_neg a3]
  split <;> omega
theorem nxp_lt {t : Int → Int} {n p : Int} (hT : Tx t n) (hp : p ≤ n) (h : tK t n p ≠ 0) : p < nxp t n p := by
  have h1 := tB_lt h
  have h2 := tB_le hT hp
  have h3 := tA_le (t := t) h2.2
  unfold nxp
  omega
theorem tK_end {t : Int → Int} {n p : Int} (h : n ≤ p) : tK t n p = 0 := by rw [tK, if_pos h]
theorem tW_gt {t : Int → Int} {n p : Int} (h : p < n) (h1 : 0 < cd (t p)) : p < tW t n p := by
  unfold tW
  obtain ⟨f, e⟩ : ∃ f, (n - p).toNat = f + 1 := ⟨(n - p).toNat - 1, by omega⟩
  rw [e, we, if_pos h1]
  have := we_le t f (p + 1)
  omega
theorem tK_word {t : Int → Int} {n p : Int} (h : tK t n p = 1 ∨ tK t n p = 2) : tB t n p = tW t n p ∧ tW t n p - p ≤ 8 ∧ ¬ n ≤ p := by
  have a1 : ¬ n ≤ p := fun g => by rw [tK, if_pos g] at h; omega
  unfold tK at h
  rw [if_neg a1] at h
  by_cases a2 : kd (t p) = 1 ∨ kd (t p) = 2
  · rw [if_pos a2] at h
    have a3 := (kd_word _).mp a2
    refine ⟨by rw [tB, if_neg a1, if_neg a3.1, if_pos a3.2], ?_, a1⟩
    apply Classical.byContradiction
    intro g
    rw [if_pos (by omega)] at h
    omega
  · exfalso
    rw [if_neg a2] at h
    by_cases a3 : kd (t p) = 9
    · rw [if_pos a3] at h
      revert h
      split <;> omega
    · rw [if_neg a3] at h
      exact a2 h
theorem tN_is {t : Int → Int} {n p : Int} (hT : Tx t n) (h : tK t n p = 1 ∨ tK t n p = 2) : isN (tN t n p) ∧ nmC t p (tB t n p - p).toNat = cN (tN t n p) ∧ nmR t p (tB t n p - p).toNat = rN (tN t n p) := by
  obtain ⟨e, h8, hn⟩ := tK_word h
  have hc : 0 < cd (t p) := by
    unfold tK at h
    rw [if_neg hn] at h
    by_cases a2 : kd (t p) = 1 ∨ kd (t p) = 2
    · exact ((kd_word _).mp a2).2
    · exfalso
      rw [if_neg a2] at h
      by_cases a3 : kd (t p) = 9
      · rw [if_pos a3] at h
        revert h
        split <;> omega
      · rw [if_neg a3] at h
        exact a2 h
  have hg := tW_gt (t := t) (n := n) (p := p) (by omega) hc
  have hw : ∀ i : Nat, i < (tB t n p - p).toNat → 0 < cd (t (p + i)) := fun i g => by rw [e] at g; exact tW_all i g
  have hk : (tB t n p - p).toNat ≤ 8 := by rw [e]; omega
  exact ⟨⟨t, p, _, hT.1, ⟨by omega, hk⟩, hw, rfl⟩, nmC_cN hT.1 hk hw, nmR_rN t p _⟩
/-- the class stands at the TOKEN at p -/
def cC (t : Int → Int) (n p : Int) (m : Mi) (J : Mj) : Prop := (m 2 5 = p ∧ m 2 3 = tB t n p ∧ m 2 4 = tK t n p ∧ m 2 2 = n ∧ lc m = t) ∧ (m 2 4 = 3 → m 2 6 = t p - 48) ∧ (m 2 4 = 1 ∨ m 2 4 = 2 → J 2 7 = cN (tN t n p))
/-- the reference stands at the TOKEN at p -/
def rC (t : Int → Int) (n p : Int) (m : Mi) (J : Mj) : Prop := (m 262 4 = p ∧ m 262 5 = tB t n p ∧ m 262 3 = tS t n p ∧ m 262 2 = n ∧ lk m = t) ∧ (m 262 3 = 3 → m 262 6 = t p - 48) ∧ (m 262 3 = 4 → m 262 6 = k2n (tK t n p)) ∧ (-2147483648 ≤ m 262 6 ∧ m 262 6 ≤ 2147483647) ∧ (m 262 3 = 1 ∨ m 262 3 = 2 → J 262 7 = rN (tN t n p)) ∧ wds J
/-- what advance() may change -/
def cF (m : Mi) (J : Mj) (m' : Mi) (J' : Mj) : Prop := (∀ a k, ¬ (a = 2 ∧ (k = 3 ∨ k = 4 ∨ k = 5 ∨ k = 6)) → m' a k = m a k) ∧ (∀ a k, ¬ (a = 2 ∧ k = 7) → J' a k = J a k)
/-- what next() may change -/
def rF (m : Mi) (J : Mj) (m' : Mi) (J' : Mj) : Prop := (∀ a k, ¬ (a = 262 ∧ (k = 3 ∨ k = 4 ∨ k = 5 ∨ k = 6)) → m' a k = m a k) ∧ (∀ a k, ¬ (a = 262 ∧ k = 7) → J' a k = J a k)
/-- from any place of a text on -/
theorem c_go {m : Mi} {J : Mj} {t : Int → Int} {n b : Int} (hp : PP P) (hT : Tx t n) (hb : 0 ≤ b ∧ b ≤ n) (h1 : m 2 3 = b) (h2 : m 2 2 = n) (h3 : lc m = t) {post : Mi → Mj → Mp → Prop} (k : ∀ m' J', cC t n (tA t n b) m' J' → cF m J m' J' → post m' J' P) : Cv X (d + 2) 19 [.ref 2] m J P post := by
  subst h1; subst h2; subst h3
  refine c_advance hp hb hT.2.2.2 hT.1 fun m' J' h => ?_
  obtain ⟨⟨s1, s2, s3⟩, s4, s5, s6, s7⟩ := h
  refine k m' J' ⟨⟨s1, s2, s3, s6 _ _ (by decide), lc_eq (s6 _ _ (by decide)) (fun k => s6 _ _ (fun e => by cases e.1))⟩, s4, fun g => ?_⟩ ⟨s6, s7⟩
  rw [s5 g, s2]
  rw [s3] at g
  exact (tN_is hT g).2.1
theorem c_adv {m : Mi} {J : Mj} {t : Int → Int} {n p : Int} (hp : PP P) (hT : Tx t n) (hb : 0 ≤ p ∧ p ≤ n) (h : cC t n p m J) {post : Mi → Mj → Mp → Prop} (k : ∀ m' J', cC t n (nxp t n p) m' J' → cF m J m' J' → post m' J' P) : Cv X (d + 2) 19 [.ref 2] m J P post := by
  have := tB_le hT hb.2
  exact c_go hp hT (by omega) h.1.2.1 h.1.2.2.2.1 h.1.2.2.2.2 k
theorem r_go {m : Mi} {J : Mj} {t : Int → Int} {n b : Int} (hp : PP P) (hT : Tx t n) (hb : 0 ≤ b ∧ b ≤ n) (h1 : m 262 5 = b) (h2 : m 262 2 = n) (h3 : lk m = t) (hn : -2147483648 ≤ m 262 6 ∧ m 262 6 ≤ 2147483647) (hw : wds J) {post : Mi → Mj → Mp → Prop} (k : ∀ m' J', rC t n (tA t n b) m' J' → rF m J m' J' → post m' J' P) : Cv X (d + 2) 138 [.ref 262] m J P post := by
  subst h1; subst h2; subst h3
  refine r_next hp hb hT.2.2.2 hw fun m' J' h => ?_
  obtain ⟨⟨s1, s2, s3⟩, s4, s5, s6, s7, s8, s9⟩ := h
  have tr := tok_rel (n := m 262 2) (p := tA (lk m) (m 262 2) (m 262 5)) hT.1
  refine k m' J' ⟨⟨s1, s2, s3, s8 _ _ (by decide), lk_eq (s8 _ _ (by decide)) (fun k => s8 _ _ (fun e => by cases e.1))⟩, s4, fun g => ?_, s6 hn, fun g => ?_, ?_⟩ ⟨s8, s9⟩
  · rw [s5 g]
    exact tr.2 (by rw [← s3]; exact g)
  · rw [s7 g, s2]
    rw [s3, tr.1] at g
    refine (tN_is hT ?_).2.2
    revert g
    unfold k2s
    (repeat' split) <;> omega
  · unfold wds at hw ⊢
    rw [s9 _ _ (by decide), s9 _ _ (by decide)]
    exact hw
theorem r_nxt {m : Mi} {J : Mj} {t : Int → Int} {n p : Int} (hp : PP P) (hT : Tx t n) (hb : 0 ≤ p ∧ p ≤ n) (h : rC t n p m J) {post : Mi → Mj → Mp → Prop} (k : ∀ m' J', rC t n (nxp t n p) m' J' → rF m J m' J' → post m' J' P) : Cv X (d + 2) 138 [.ref 262] m J P post := by
  have := tB_le hT hb.2
  exact r_go hp hT (by omega) h.1.2.1 h.1.2.2.2.1 h.1.2.2.2.2 h.2.2.2.1 h.2.2.2.2.2 k
end CUR
