/-! the reference: newNode(), load() -/
section RLD
variable {X : aX} {d : Nat} {P : Mp} {J : Mj} {m m' : Mi} {cd : Nat → Int} {nx : Nat → Nat} {ay : Int → Nat} {n : Nat} {mk : Nat → Int} {np : Nat → Nat}
theorem r_newNode {K : Nat} {x1 x2 : Int} (hp : PP P) (hK : m 262 74 = (K : Int)) (h2000 : K < 2000) {post : Int → Mi → Mj → Mp → Prop} (k : ∀ m', m' 262 74 = ((K + 1 : Nat) : Int) → m' 302 K = x1 → m' 303 K = -1 → m' 304 K = x2 → (∀ a k, ¬ (302 ≤ a ∧ a ≤ 306 ∧ k = K) → ¬ (a = 262 ∧ k = 74) → m' a k = m a k) → post (K : Int) m' J P) : Ci X d 167 [.ref 262, .int (iz x1), .int (iz x2)] m J P post := by
  have e1 : ((K : Nat) : Int).toNat = K := by omega
  have g1 : ∀ v : Int, mu m 302 K v 262 74 = (K : Int) := fun v => (mu_ne _ _ (by omega)).trans hK
  have g2 : ∀ v w : Int, mu (mu m 302 K v) 303 K w 262 74 = (K : Int) := fun v w => (mu_ne _ _ (by omega)).trans (g1 v)
  have g3 : ∀ v w u : Int, mu (mu (mu m 302 K v) 303 K w) 304 K u 262 74 = (K : Int) := fun v w u => (mu_ne _ _ (by omega)).trans (g2 v w)
  have g4 : ∀ v w u t : Int, mu (mu (mu (mu m 302 K v) 303 K w) 304 K u) 305 K t 262 74 = (K : Int) := fun v w u t => (mu_ne _ _ (by omega)).trans (g3 v w u)
  have g5 : ∀ v w u t s : Int, mu (mu (mu (mu (mu m 302 K v) 303 K w) 304 K u) 305 K t) 306 K s 262 74 = (K : Int) := fun v w u t s => (mu_ne _ _ (by omega)).trans (g4 v w u t)
  refine Ci.of rfl rfl rfl (b_Mdl_newNode_0 x1 x2 m J P hp post ?_)
  rw [hK, e1, g1, e1, g2, e1, g3, e1, g4, e1, g5]
  refine ⟨by omega, by omega, by omega, by omega, by omega, ?_⟩
  rw [mu_at]
  have e2 : ((K : Nat) : Int) + 1 - 1 = (K : Int) := by omega
  have e3 : ((K : Nat) : Int) + 1 = ((K + 1 : Nat) : Int) := by omega
  rw [e2, e3]
  refine k _ (mu_at _ _ _ _) ?_ ?_ ?_ (fun a k h1 h2 => ?_)
  · rw [mu_ne _ _ (by omega), mu_ne _ _ (by omega), mu_ne _ _ (by omega), mu_ne _ _ (by omega), mu_ne _ _ (by omega), mu_at]
  · rw [mu_ne _ _ (by omega), mu_ne _ _ (by omega), mu_ne _ _ (by omega), mu_ne _ _ (by omega), mu_at]
  · rw [mu_ne _ _ (by omega), mu_ne _ _ (by omega), mu_ne _ _ (by omega), mu_at]
  · rw [mu_ne _ _ (by omega), mu_ne _ _ (by omega), mu_ne _ _ (by omega), mu_ne _ _ (by omega), mu_ne _ _ (by omega), mu_ne _ _ (by omega)]
/-- cells below p are loaded: np the node of each part, K of them; D: with all ARGUMENTS -/
def LDI (ay : Int → Nat) (cd : Nat → Int) (nx : Nat → Nat) (mk : Nat → Int) (np : Nat → Nat) (p K : Nat) (D : Nat → Prop) (m : Mi) : Prop := (K ≤ p ∧ m 262 74 = (K : Int)) ∧ (∀ c, c < p → np (ptc cd c) < K) ∧ (∀ c c', c < p → c' < p → np (ptc cd c) = np (ptc cd c') → ptc cd c = ptc cd c') ∧ (∀ c, c < p → 0 ≤ cd c → m 302 (np c) = syc cd c ∧ m 304 (np c) = mk c) ∧ (∀ c, c < p → cd c < 0 → m 302 (np (ptc cd c)) = -1 ∧ m 304 (np (ptc cd c)) = 0) ∧ (∀ c, D c → c < p ∧ (0 ≤ cd c → ∀ j, j < ay (cd c) → m 307 (4 * np c + j) = (np (ptc cd (kid nx (c + 1) j)) : Int))) ∧ ∀ k, k < K → m 303 k = -1
def nup (np : Nat → Nat) (z0 K : Nat) : Nat → Nat := fun z => if z = z0 then K else np z
theorem nup_at (np : Nat → Nat) (z0 K : Nat) : nup np z0 K z0 = K := if_pos rfl
theorem nup_ne (np : Nat → Nat) {z0 z : Nat} (K : Nat) (h : z ≠ z0) : nup np z0 K z = np z := if_neg h
/-- a part stands in the cells below p -/
def Ocr (cd : Nat → Int) (p z : Nat) : Prop := ∃ c, c < p ∧ ptc cd c = z
theorem ocr_mk {p z c : Nat} (h : c < p) (e : ptc cd c = z) : Ocr cd p z := Exists.intro c ⟨h, e⟩
/-- a table of VARIABLES -/
def VTB (cd : Nat → Int) (a base lim : Nat) (np : Nat → Nat) (p : Nat) (m : Mi) : Prop := ∀ v, v < lim → (Ocr cd p (880 + base + v) ∧ m a v = (np (880 + base + v) : Int)) ∨ (¬ Ocr cd p (880 + base + v) ∧ m a v = -1)
/-- what load() may change -/
def ldF (a : Nat) (m m' : Mi) : Prop := ∀ b k, ¬ (302 ≤ b ∧ b ≤ 307) → ¬ (310 ≤ b ∧ b ≤ 312) → b ≠ a → ¬ (b = 262 ∧ k = 74) → m' b k = m b k
theorem ldF_trans {a : Nat} {m'' : Mi} (h : ldF a m m') (h2 : ldF a m' m'') : ldF a m m'' := fun b k g1 g2 g3 g4 => (h2 b k g1 g2 g3 g4).trans (h b k g1 g2 g3 g4)
theorem ptc_s {c : Nat} (h : 0 ≤ cd c) : ptc cd c = c := by unfold ptc; rw [if_neg (by omega)]
theorem ptc_v {c : Nat} (h : cd c < 0) (hb : -808 ≤ cd c) : 880 ≤ ptc cd c := by unfold ptc; rw [if_pos h]; omega
/-- a row as load() reads it -/
def RWk (cd : Nat → Int) (mk : Nat → Int) (rw_ : Nat → Int) (base lim : Nat) (x5 : Int) (c : Nat) : Prop := (0 ≤ cd c → (0 ≤ rw_ c ∧ rw_ c < 128) ∧ rw_ c % 64 = syc cd c ∧ mk c = if 0 ≤ x5 then x5 else rw_ c / 64) ∧ (cd c < 0 → ∃ v : Nat, v < lim ∧ rw_ c = -1 - (v : Int) ∧ ptc cd c = 880 + base + v)
theorem zrem_64 {x : Int} (h : 0 ≤ x ∧ x < 128) : zrem x 64 = x % 64 ∧ zdiv x 64 = x / 64 := by
  have g : ((List.range 128).all fun k => decide (zrem ((k : Nat) : Int) 64 = ((k : Nat) : Int) % 64) && decide (zdiv ((k : Nat) : Int) 64 = ((k : Nat) : Int) / 64)) = true := by decide +kernel
  have := List.all_eq_true.mp g x.toNat (List.mem_range.mpr (by omega))
  rw [Bool.and_eq_true, decide_eq_true_eq, decide_eq_true_eq, show ((x.toNat : Nat) : Int) = x by omega] at this
  exact this
/-- a cell's node is added -/
theorem LDI_new {p K : Nat} {D : Nat → Prop} (hG : Gok ay cd nx n) (h : LDI ay cd nx mk np p K D m) (hp : p < n) (hno : ∀ c, c < p → ptc cd c ≠ ptc cd p) {np' : Nat → Nat} (hnp : np' = nup np (ptc cd p) K) (hK : m' 262 74 = ((K + 1 : Nat) : Int)) (hs : 0 ≤ cd p → m' 302 K = syc cd p ∧ m' 304 K = mk p) (hv : cd p < 0 → m' 302 K = -1 ∧ m' 304 K = 0) (hl : m' 303 K = -1) (hD : ∀ c, D c → c < p ∧ ∀ j, j < ay (cd c) → kid nx (c + 1) j < p) (f1 : ∀ k, k < K → m' 302 k = m 302 k ∧ m' 304 k = m 304 k ∧ m' 303 k = m 303 k) (f2 : ∀ c, D c → 0 ≤ cd c → ∀ j, j < ay (cd c) → m' 307 (4 * np c + j) = m 307 (4 * np c + j)) : LDI ay cd nx mk np' (p + 1) (K + 1) D m' ∧ ∀ c, c < p → np' (ptc cd c) = np (ptc cd c) := by
  obtain ⟨⟨a1, a2⟩, b, c1, d1, e1, f, g⟩ := h
  have eo : ∀ c, c < p → np' (ptc cd c) = np (ptc cd c) := fun c hc => by rw [hnp]; exact nup_ne _ _ (hno c hc)
  have en : np' (ptc cd p) = K := by rw [hnp]; exact nup_at _ _ _
  refine ⟨⟨⟨by omega, hK⟩, fun c hc => ?_, fun c c' hc hc' e => ?_, fun c hc h0 => ?_, fun c hc h0 => ?_, fun c hc => ⟨by have := (f c hc).1; omega, fun h0 j hj => ?_⟩, fun k hk => ?_⟩, eo⟩
  · by_cases e : c = p
    · rw [e, en]; omega
    · rw [eo c (by omega)]; have := b c (by omega); omega
  · by_cases g1 : c = p
    · by_cases g2 : c' = p
      · rw [g1, g2]
      · rw [g1, en, eo c' (by omega)] at e
        have := b c' (by omega); omega
    · by_cases g2 : c' = p
      · rw [g2, en, eo c (by omega)] at e
        have := b c (by omega); omega
      · rw [eo c (by omega), eo c' (by omega)] at e
        exact c1 c c' (by omega) (by omega) e
  · by_cases g1 : c = p
    · rw [g1, ← ptc_s (cd := cd) (c := p) (by rw [← g1]; exact h0), en]
      rw [ptc_s (by rw [← g1]; exact h0)]
      exact hs (by rw [← g1]; exact h0)
    · have e2 := eo c (by omega)
      rw [ptc_s h0] at e2
      have e3 := b c (by omega)
      rw [ptc_s h0] at e3
      rw [e2, (f1 _ e3).1, (f1 _ e3).2.1]
      exact d1 c (by omega) h0
  · by_cases g1 : c = p
    · rw [g1, en]; exact hv (by rw [← g1]; exact h0)
    · have e3 := b c (by omega)
      rw [eo c (by omega), (f1 _ e3).1, (f1 _ e3).2.1]
      exact e1 c (by omega) h0
  · obtain ⟨q1, q2⟩ := f c hc
    have e2 := eo c q1
    rw [ptc_s h0] at e2
    rw [e2, f2 c hc h0 j hj, q2 h0 j hj, eo _ ((hD c hc).2 j hj)]
  · by_cases e : k = K
    · rw [e]; exact hl
    · rw [(f1 k (by omega)).2.2]; exact g k (by omega)
/-- a cell that has its node already -/
theorem LDI_old {p K : Nat} {D : Nat → Prop} (h : LDI ay cd nx mk np p K D m) {c0 : Nat} (hc0 : c0 < p) (he : ptc cd c0 = ptc cd p) (hneg : cd p < 0) (hneg0 : cd c0 < 0) (hK : m' 262 74 = m 262 74) (f1 : ∀ k, m' 302 k = m 302 k ∧ m' 304 k = m 304 k ∧ m' 303 k = m 303 k) (f2 : ∀ c, D c → 0 ≤ cd c → ∀ j, j < ay (cd c) → m' 307 (4 * np c + j) = m 307 (4 * np c + j)) : LDI ay cd nx mk np (p + 1) K D m' := by
  obtain ⟨⟨a1, a2⟩, b, c1, d1, e1, f, g⟩ := h
  refine ⟨⟨by omega, hK.trans a2⟩, fun c hc => ?_, fun c c' hc hc' e => ?_, fun c hc h0 => ?_, fun c hc h0 => ?_, fun c hc => ⟨by have := (f c hc).1; omega, fun h0 j hj => ?_⟩, fun k hk => by rw [(f1 k).2.2]; exact g k hk⟩
  · by_cases e : c = p
    · rw [e, ← he]; exact b c0 hc0
    · exact b c (by omega)
  · have w : ∀ c, c < p + 1 → ∃ c', c' < p ∧ ptc cd c' = ptc cd c := fun c hc => by
      by_cases e : c = p
      · exact ⟨c0, hc0, by rw [e]; exact he⟩
      · exact ⟨c, by omega, rfl⟩
    obtain ⟨u, u1, u2⟩ := w c hc
    obtain ⟨u', u1', u2'⟩ := w c' hc'
    rw [← u2, ← u2'] at e ⊢
    exact c1 u u' u1 u1' e
  · by_cases e : c = p
    · rw [e] at h0; omega
    · rw [(f1 _).1, (f1 _).2.1]; exact d1 c (by omega) h0
  · by_cases e : c = p
    · rw [e, ← he, (f1 _).1, (f1 _).2.1]; exact e1 c0 hc0 hneg0
    · rw [(f1 _).1, (f1 _).2.1]; exact e1 c (by omega) h0
  · rw [f2 c hc h0 j hj]; exact (f c hc).2 h0 j hj
variable {x1 n1 tb nt from_ base lim cs K : Nat} {x5 : Int} {rw_ : Nat → Int} {D : Nat → Prop}
/-- one cell; o SYMBOLS stand open about it -/
theorem r_load_9 (hp : PP P) (k1 : am_kd an_K x1 = some (.inr (0, n1))) (b1 : n1 ≤ 100000) (kt : am_kd an_K tb = some (.inr (0, nt))) (bt : nt ≤ 100000) (htb : tb = 308 ∨ tb = 309) (hx1 : ¬ (302 ≤ x1 ∧ x1 ≤ 312)) (hx1' : x1 ≠ 262) (h5 : Zr x5) (hlim : lim ≤ nt) (hG : Gok ay cd nx n) {p o i : Nat} {x3 x7 : Int} (hL : LDI ay cd nx mk np p K D m) (hV : VTB cd tb base lim np p m) (hpn : p < n) (hi : i < 201) (hr : m x1 (from_ + i) = rw_ p) (hrw : RWk cd mk rw_ base lim x5 p) (hn1 : from_ + i < n1) (hx3 : (from_ : Int) + i < x3) (z3 : Zr x3) (hD : ∀ c, D c → c < p ∧ ∀ j, j < ay (cd c) → kid nx (c + 1) j < p) {par j : Nat} (hpar : i ≠ 0 → (1 ≤ o ∧ o ≤ 201) ∧ (par < p ∧ 0 ≤ cd par ∧ ¬ D par) ∧ m 310 (o - 1) = (np par : Int) ∧ m 311 (o - 1) = (j : Int) ∧ j < 4) {post : Int → Mi → Mj → Mp → Prop} (k : ∀ np' K' m', LDI ay cd nx mk np' (p + 1) K' D m' → VTB cd tb base lim np' (p + 1) m' → (∀ c, c < p → np' (ptc cd c) = np (ptc cd c)) → K ≤ K' → (0 ≤ cd p → np' p = K) → m' 312 i = (np' (ptc cd p) : Int) → (∀ q, q ≠ i → m' 312 q = m 312 q) → (∀ q, m' 310 q = m 310 q ∧ m' 311 q = m 311 q) → (i ≠ 0 → m' 307 (4 * np par + j) = (np' (ptc cd p) : Int)) → (∀ q, ¬ (i ≠ 0 ∧ q = 4 * np par + j) → m' 307 q = m 307 q) → ldF tb m m' → Rn X (d + 1) 166 139 [some (.ref 262), some (.ref x1), some (.int (iz (from_ : Int))), some (.int (iz x3)), some (.ref tb), some (.int (iz x5)), some (.int (iz (o : Int))), some (.int (iz (if i = 0 then (np' (ptc cd p) : Int) else x7))), some (.int (iz ((from_ + i : Nat) : Int))), some (.int (iz (rw_ p))), some (.int (iz (np' (ptc cd p) : Int)))] [] (SS m' J P) (QI post)) : Rn X (d + 1) 166 9 [some (.ref 262), some (.ref x1), some (.int (iz (from_ : Int))), some (.int (iz x3)), some (.ref tb), some (.int (iz x5)), some (.int (iz (o : Int))), some (.int (iz x7)), some (.int (iz ((from_ + i : Nat) : Int))), none, none] [] (SS m J P) (QI post) := by
  have h880 := hG.1
  obtain ⟨_, hb4, hb1, hb2⟩ := hG.2.2 p hpn
  obtain ⟨⟨l1, l2⟩, lb, lc, ld, le, lf, lg⟩ := hL
  have e1 : ((from_ + i : Nat) : Int).toNat = from_ + i := by omega
  have e2 : (((from_ + i : Nat) : Int) - (from_ : Int)) = (i : Int) := by omega
  have e3 : ((i : Nat) : Int).toNat = i := by omega
  have zk : Zr ((from_ + i : Nat) : Int) := by constructor <;> omega
  have zf : Zr ((from_ : Nat) : Int) := by constructor <;> omega
  have hKn : K < 2000 := by omega
  have hparK : i ≠ 0 → np par < K := fun h => by
    have := (hpar h).2.1
    have e := lb par this.1
    rw [ptc_s this.2.1] at e
    exact e
  -- with the node z in m6: the rest is the same three times
  have fin : ∀ (z : Nat) (m6 : Mi) (np' : Nat → Nat) (K' : Nat), z = np' (ptc cd p) → K ≤ K' → (∀ c, c < p → np' (ptc cd c) = np (ptc cd c)) → (0 ≤ cd p → np' p = K) → (∀ q, m6 310 q = m 310 q ∧ m6 311 q = m 311 q) → (∀ q, m6 312 q = m 312 q) → (∀ q, m6 307 q = m 307 q) → ldF tb m m6 → (∀ m', m' 262 74 = m6 262 74 → (∀ k, m' 302 k = m6 302 k ∧ m' 304 k = m6 304 k ∧ m' 303 k = m6 303 k) → (∀ c, D c → 0 ≤ cd c → ∀ j, j < ay (cd c) → m' 307 (4 * np c + j) = m 307 (4 * np c + j)) → (∀ q, m' tb q = m6 tb q) → LDI ay cd nx mk np' (p + 1) K' D m' ∧ VTB cd tb base lim np' (p + 1) m') → ((0 : Int) ≤ (i : Int) ∧ (i : Int) < 201) ∧ Zr ((from_ + i : Nat) : Int) ∧ Zr ((from_ : Nat) : Int) ∧ (((¬ ((from_ + i : Nat) : Int) = ((from_ : Nat) : Int)) → ((0 : Int) ≤ ((o : Int) - 1) ∧ (((o : Int) - 1) : Int) < 201) ∧ ((0 : Int) ≤ ((o : Int) - 1) ∧ (((o : Int) - 1) : Int) < 201) ∧ ((0 : Int) ≤ ((4 * ((mu m6 312 i (z : Int)) 310 ((o : Int) - 1).toNat)) + ((mu m6 312 i (z : Int)) 311 ((o : Int) - 1).toNat)) ∧ (((4 * ((mu m6 312 i (z : Int)) 310 ((o : Int) - 1).toNat)) + ((mu m6 312 i (z : Int)) 311 ((o : Int) - 1).toNat)) : Int) < 8000) ∧ Rn X (d + 1) 166 139 [some (.ref 262), some (.ref x1), some (.int (iz (from_ : Int))), some (.int (iz x3)), some (.ref tb), some (.int (iz x5)), some (.int (iz (o : Int))), some (.int (iz x7)), some (.int (iz ((from_ + i : Nat) : Int))), some (.int (iz (rw_ p))), some (.int (iz (z : Int)))] [] (SS (mu (mu m6 312 i (z : Int)) 307 ((4 * ((mu m6 312 i (z : Int)) 310 ((o : Int) - 1).toNat)) + ((mu m6 312 i (z : Int)) 311 ((o : Int) - 1).toNat)).toNat (z : Int)) J P) (QI post)) ∧ (¬ (¬ ((from_ + i : Nat) : Int) = ((from_ : Nat) : Int)) → Rn X (d + 1) 166 139 [some (.ref 262), some (.ref x1), some (.int (iz (from_ : Int))), some (.int (iz x3)), some (.ref tb), some (.int (iz x5)), some (.int (iz (o : Int))), some (.int (iz (z : Int))), some (.int (iz ((from_ + i : Nat) : Int))), some (.int (iz (rw_ p))), some (.int (iz (z : Int)))] [] (SS (mu m6 312 i (z : Int)) J P) (QI post))) := by
    intro z m6 np' K' hz hKK hno hnew fl fn fg fF hX
    subst hz
    refine ⟨by omega, zk, zf, fun h => ?_, fun h => ?_⟩
    · have hi0 : i ≠ 0 := by omega
      obtain ⟨h1, ⟨h2, h2', h2D⟩, h3, h4, h4'⟩ := hpar hi0
      have hk := hparK hi0
      have eo : ((o : Int) - 1).toNat = o - 1 := by omega
      rw [eo, mu_ne _ _ (by omega), mu_ne _ _ (by omega), (fl _).1, (fl _).2, h3, h4]
      have ei : (4 * (np par : Int) + (j : Int)).toNat = 4 * np par + j := by omega
      rw [ei]
      have hX' := hX (mu (mu m6 312 i (np' (ptc cd p) : Int)) 307 (4 * np par + j) (np' (ptc cd p) : Int)) (by rw [mu_ne _ _ (by omega), mu_ne _ _ (by omega)]) (fun k => by rw [mu_ne _ _ (by omega), mu_ne _ _ (by omega), mu_ne _ _ (by omega), mu_ne _ _ (by omega), mu_ne _ _ (by omega), mu_ne _ _ (by omega)]; exact ⟨rfl, rfl, rfl⟩) (fun c hc h0 j' hj' => by
        have hcp := (lf c hc).1
        have : np c ≠ np par := fun e => by
          have := lc c par hcp h2 (by rw [ptc_s h0, ptc_s h2']; exact e)
          rw [ptc_s h0, ptc_s h2'] at this
          exact h2D (by rw [← this]; exact hc)
        have hay4 := (hG.2.2 c (by omega)).2.1
        rw [mu_ne _ _ (by omega), mu_ne _ _ (by omega), fg]) (fun q => by rw [mu_ne _ _ (by omega), mu_ne _ _ (by omega)])
      refine ⟨by omega, by omega, by omega, ?_⟩
      have := k np' K' _ hX'.1 hX'.2 hno hKK hnew ?_ (fun q hq => ?_) (fun q => ⟨?_, ?_⟩) (fun _ => mu_at _ _ _ _) (fun q hq => ?_) (fun b k' g1 g2 g3 g4 => ?_)
      · rw [if_neg hi0] at this; exact this
      · rw [mu_ne _ _ (by omega), mu_at]
      · rw [mu_ne _ _ (by omega), mu_ne _ _ (by omega)]; exact fn q
      · rw [mu_ne _ _ (by omega), mu_ne _ _ (by omega)]; exact (fl q).1
      · rw [mu_ne _ _ (by omega), mu_ne _ _ (by omega)]; exact (fl q).2
      · rw [mu_ne _ _ (fun e => hq ⟨hi0, e.2⟩), mu_ne _ _ (by omega)]; exact fg q
      · rw [mu_ne _ _ (by omega), mu_ne _ _ (by omega)]; exact fF b k' g1 g2 g3 g4
    · have hi0 : i = 0 := by omega
      have hX' := hX (mu m6 312 i (np' (ptc cd p) : Int)) (mu_ne _ _ (by omega)) (fun k => by rw [mu_ne _ _ (by omega), mu_ne _ _ (by omega), mu_ne _ _ (by omega)]; exact ⟨rfl, rfl, rfl⟩) (fun c hc h0 j' hj' => by rw [mu_ne _ _ (by omega), fg]) (fun q => mu_ne _ _ (by omega))
      have := k np' K' _ hX'.1 hX'.2 hno hKK hnew (mu_at _ _ _ _) (fun q hq => (mu_ne _ _ (by omega)).trans (fn q)) (fun q => ⟨(mu_ne _ _ (by omega)).trans (fl q).1, (mu_ne _ _ (by omega)).trans (fl q).2⟩) (fun h => absurd hi0 h) (fun q hq => (mu_ne _ _ (by omega)).trans (fg q)) (fun b k' g1 g2 g3 g4 => (mu_ne _ _ (by omega)).trans (fF b k' g1 g2 g3 g4))
      rw [if_pos hi0] at this
      exact this
  have hLDI : LDI ay cd nx mk np p K D m := ⟨⟨l1, l2⟩, lb, lc, ld, le, lf, lg⟩
  refine b_Mdl_load_9 x1 n1 from_ x3 tb nt x5 o x7 _ k1 b1 kt bt m J P hp post ⟨zk, z3, fun h => absurd h (by omega), fun _ => ⟨by omega, ?_⟩⟩
  rw [e1, hr, e2, e3]
  by_cases h0 : 0 ≤ cd p
  · obtain ⟨q1, q2, q3⟩ := hrw.1 h0
    obtain ⟨z1, z2⟩ := zrem_64 q1
    have hno : ∀ c, c < p → ptc cd c ≠ ptc cd p := fun c hc e => by
      rw [ptc_s h0] at e
      by_cases g : 0 ≤ cd c
      · rw [ptc_s g] at e; omega
      · have := ptc_v (cd := cd) (c := c) (by omega) (hG.2.2 c (by omega)).2.2.1
        omega
    have sym : ∀ (m6 : Mi) (xm : Int), xm = mk p → m6 262 74 = ((K + 1 : Nat) : Int) → m6 302 K = syc cd p → m6 303 K = -1 → m6 304 K = xm → (∀ a k, ¬ (302 ≤ a ∧ a ≤ 306 ∧ k = K) → ¬ (a = 262 ∧ k = 74) → m6 a k = m a k) → _ := fun m6 xm hxm w1 w2 w3 w4 w5 => fin K m6 (nup np (ptc cd p) K) (K + 1) (nup_at _ _ _).symm (by omega) (fun c hc => nup_ne _ _ (hno c hc)) (fun _ => by rw [ptc_s h0]; exact nup_at _ _ _) (fun q => ⟨w5 _ _ (by omega) (by omega), w5 _ _ (by omega) (by omega)⟩) (fun q => w5 _ _ (by omega) (by omega)) (fun q => w5 _ _ (by omega) (by omega)) (fun b k g1 g2 g3 g4 => w5 b k (by omega) g4) (fun m' v1 v2 v3 v4 => by
      have hh := LDI_new (m' := m') hG hLDI hpn hno rfl (v1.trans w1) (fun _ => ⟨(v2 K).1.trans w2, ((v2 K).2.1.trans w4).trans hxm⟩) (fun g => absurd h0 (by omega)) ((v2 K).2.2.trans w3) hD (fun k hk => ⟨(v2 k).1.trans (w5 _ _ (by omega) (by omega)), (v2 k).2.1.trans (w5 _ _ (by omega) (by omega)), (v2 k).2.2.trans (w5 _ _ (by omega) (by omega))⟩) v3
      refine ⟨hh.1, fun v hv => ?_⟩
      have hb : 880 + base + v ≠ ptc cd p := by rw [ptc_s h0]; omega
      rw [v4, w5 _ _ (by omega) (by omega), nup_ne _ _ hb]
      rcases hV v hv with ⟨⟨c, c1, c2⟩, g⟩ | ⟨g1, g2⟩
      · exact Or.inl ⟨ocr_mk (by omega) c2, g⟩
      · refine Or.inr ⟨fun ⟨c, c1, c2⟩ => g1 (ocr_mk (c := c) ?_ c2), g2⟩
        by_cases e : c = p
        · rw [e] at c2; exact absurd c2.symm hb
        · omega)
    refine ⟨by constructor <;> omega, fun _ => ⟨h5, fun g5 => ?_, fun g5 => ?_⟩, fun g => absurd q1.1 g⟩
    · rw [if_pos g5] at q3
      rw [z1, q2]
      exact r_newNode hp l2 hKn (fun m6 w1 w2 w3 w4 w5 => ⟨hp, sym m6 x5 q3.symm w1 w2 w3 w4 w5⟩)
    · rw [if_neg g5] at q3
      rw [z1, z2, q2]
      exact r_newNode hp l2 hKn (fun m6 w1 w2 w3 w4 w5 => ⟨hp, sym m6 _ q3.symm w1 w2 w3 w4 w5⟩)
  · obtain ⟨v, v1, v2, v3⟩ := hrw.2 (by omega)
    have hn0 : cd p < 0 := by omega
    have ev : (-1 : Int) - rw_ p = (v : Int) := by omega
    have ev2 : ((v : Nat) : Int).toNat = v := by omega
    rw [ev, ev2]
    refine ⟨by constructor <;> omega, fun g => absurd g (by omega), fun _ => ⟨by omega, ?_⟩⟩
    rcases hV v v1 with ⟨⟨c0, c1, c2⟩, g⟩ | ⟨g1, g2⟩
    · have e0 : ptc cd c0 = ptc cd p := by rw [c2, v3]
      have hc0n : cd c0 < 0 := Classical.byContradiction fun q => by
        rw [ptc_s (by omega)] at c2; omega
      have hb := lb c0 c1
      rw [e0, v3] at hb
      have zz : Zr ((np (880 + base + v) : Nat) : Int) := by constructor <;> omega
      rw [g]
      refine ⟨zz, fun _ => ⟨by omega, ?_⟩, fun q => absurd (by omega) q⟩
      exact fin (np (880 + base + v)) m np K (by rw [v3]) (Nat.le_refl _) (fun _ _ => rfl) (fun q => absurd q h0) (fun _ => ⟨rfl, rfl⟩) (fun _ => rfl) (fun _ => rfl) (fun _ _ _ _ _ _ => rfl) (fun m' w1 w2 w3 w4 => ⟨LDI_old hLDI c1 e0 hn0 hc0n w1 w2 w3, fun u hu => by
        rw [w4]
        rcases hV u hu with ⟨⟨c, c3, c4⟩, q⟩ | ⟨q1, q2⟩
        · exact Or.inl ⟨ocr_mk (by omega) c4, q⟩
        · refine Or.inr ⟨fun ⟨c, c3, c4⟩ => q1 ?_, q2⟩
          by_cases e : c = p
          · exact ocr_mk c1 (by rw [e0, ← e]; exact c4)
          · exact ocr_mk (c := c) (by omega) c4⟩)
    · have hno : ∀ c, c < p → ptc cd c ≠ ptc cd p := fun c hc e => g1 (ocr_mk hc (by rw [e, v3]))
      rw [g2]
      refine ⟨zrm, fun q => absurd q (by decide), fun _ => r_newNode hp l2 hKn (fun m6 w1 w2 w3 w4 w5 => ⟨hp, by omega, by omega, ?_⟩)⟩
      rw [mu_at]
      refine fin K (mu m6 tb v (K : Int)) (nup np (ptc cd p) K) (K + 1) (nup_at _ _ _).symm (by omega) (fun c hc => nup_ne _ _ (hno c hc)) (fun q => absurd q h0) (fun q => ⟨?_, ?_⟩) (fun q => ?_) (fun q => ?_) (fun b k g1 g2 g3 g4 => ?_) (fun m' u1 u2 u3 u4 => ?_)
      · rw [mu_ne _ _ (by omega)]; exact w5 _ _ (by omega) (by omega)
      · rw [mu_ne _ _ (by omega)]; exact w5 _ _ (by omega) (by omega)
      · rw [mu_ne _ _ (by omega)]; exact w5 _ _ (by omega) (by omega)
      · rw [mu_ne _ _ (by omega)]; exact w5 _ _ (by omega) (by omega)
      · rw [mu_ne _ _ (by omega)]; exact w5 b k (by omega) g4
      · have fx : ∀ k, mu m6 tb v (K : Int) 302 k = m6 302 k ∧ mu m6 tb v (K : Int) 304 k = m6 304 k ∧ mu m6 tb v (K : Int) 303 k = m6 303 k := fun k => ⟨mu_ne _ _ (by omega), mu_ne _ _ (by omega), mu_ne _ _ (by omega)⟩
        have hh := LDI_new (m' := m') hG hLDI hpn hno rfl (by rw [u1, mu_ne _ _ (by omega)]; exact w1) (fun q => absurd q h0) (fun _ => ⟨by rw [(u2 K).1, (fx K).1]; exact w2, by rw [(u2 K).2.1, (fx K).2.1]; exact w4⟩) (by rw [(u2 K).2.2, (fx K).2.2]; exact w3) hD (fun k hk => ⟨by rw [(u2 k).1, (fx k).1]; exact w5 _ _ (by omega) (by omega), by rw [(u2 k).2.1, (fx k).2.1]; exact w5 _ _ (by omega) (by omega), by rw [(u2 k).2.2, (fx k).2.2]; exact w5 _ _ (by omega) (by omega)⟩) u3
        refine ⟨hh.1, fun u hu => ?_⟩
        rw [u4]
        by_cases e : u = v
        · subst e
          rw [mu_at, v3, nup_at]
          exact Or.inl ⟨ocr_mk (c := p) (by omega) v3, rfl⟩
        · have hb : 880 + base + u ≠ ptc cd p := by rw [v3]; omega
          rw [mu_ne _ _ (by omega), w5 _ _ (by omega) (by omega), nup_ne _ _ hb]
          rcases hV u hu with ⟨⟨c, c1, c2⟩, g⟩ | ⟨q1, q2⟩
          · exact Or.inl ⟨ocr_mk (by omega) c2, g⟩
          · refine Or.inr ⟨fun ⟨c, c1, c2⟩ => q1 (ocr_mk (c := c) ?_ c2), q2⟩
            by_cases e2 : c = p
            · rw [e2] at c2; exact absurd c2.symm hb
            · omega
end RLD
