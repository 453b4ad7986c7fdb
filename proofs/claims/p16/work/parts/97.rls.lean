/-! the reference: load(), whole -/
section RLS
variable {X : aX} {d : Nat} {P : Mp} {J : Mj} {m m' : Mi} {cd : Nat → Int} {nx : Nat → Nat} {ay : Int → Nat} {n : Nat} {mk : Nat → Int} {np : Nat → Nat} {x1 n1 tb nt from_ base lim cs K : Nat} {x5 : Int} {rw_ : Nat → Int} {D : Nat → Prop}
/-- the ARITIES of the cells as the reference tells them -/
def ARr (ay : Int → Nat) (cd : Nat → Int) (n : Nat) (m : Mi) : Prop := ∀ c, c < n → 0 ≤ cd c → (0 ≤ syc cd c ∧ syc cd c < 16) ∧ m 280 (syc cd c).toNat = (ay (cd c) : Int)
/-- what is loaded has its ARGUMENTS -/
def DK (ay : Int → Nat) (cd : Nat → Int) (nx : Nat → Nat) (D : Nat → Prop) (p : Nat) : Prop := ∀ c, D c → c < p ∧ ∀ j, j < ay (cd c) → kid nx (c + 1) j < p
def Dor (D : Nat → Prop) (a b : Nat) : Nat → Prop := fun x => D x ∨ (a ≤ x ∧ x < b)
theorem LDI_D {p : Nat} {D' : Nat → Prop} (h : LDI ay cd nx mk np p K D m) (g : ∀ c, D' c → c < p ∧ (0 ≤ cd c → ∀ j, j < ay (cd c) → m 307 (4 * np c + j) = (np (ptc cd (kid nx (c + 1) j)) : Int))) : LDI ay cd nx mk np p K D' m := ⟨h.1, h.2.1, h.2.2.1, h.2.2.2.1, h.2.2.2.2.1, g, h.2.2.2.2.2.2⟩
theorem LDI_fr {p : Nat} (h : LDI ay cd nx mk np p K D m) (f0 : m' 262 74 = m 262 74) (f : ∀ a k, 302 ≤ a → a ≤ 307 → m' a k = m a k) : LDI ay cd nx mk np p K D m' := by
  obtain ⟨⟨a1, a2⟩, b, c, d, e, g, l⟩ := h
  refine ⟨⟨a1, f0.trans a2⟩, b, c, fun c h1 h2 => ?_, fun c h1 h2 => ?_, fun c hc => ⟨(g c hc).1, fun h0 j hj => ?_⟩, fun k hk => ?_⟩
  · rw [f _ _ (by decide) (by decide), f _ _ (by decide) (by decide)]; exact d c h1 h2
  · rw [f _ _ (by decide) (by decide), f _ _ (by decide) (by decide)]; exact e c h1 h2
  · rw [f _ _ (by decide) (by decide)]; exact (g c hc).2 h0 j hj
  · rw [f _ _ (by decide) (by decide)]; exact l k hk
theorem VTB_fr {p : Nat} (h : VTB cd tb base lim np p m) (f : ∀ k, m' tb k = m tb k) : VTB cd tb base lim np p m' := fun v hv => by rw [f]; exact h v hv
theorem kid_mono (hG : Gok ay cd nx n) {c i i' : Nat} (hc : c < n) (hi : i < ay (cd c)) (h : i' < i) : kid nx (c + 1) i' < kid nx (c + 1) i := by
  obtain ⟨⟨h1, h2, h3⟩, _⟩ := hG.2.2 c hc
  induction i with
  | zero => exact absurd h (Nat.not_lt_zero _)
  | succ i ih =>
    have g := (ch_kid (i := i) h3 (by omega)).2.2.1 (by omega)
    rw [kid]
    by_cases e : i' = i
    · rw [e]; exact g.1
    · have := ih (by omega) (by omega); omega
set_option maxHeartbeats 16000000 in
theorem r_lscan {E : Nat} {x3 : Int} (hp : PP P) (k1 : am_kd an_K x1 = some (.inr (0, n1))) (b1 : n1 ≤ 100000) (kt : am_kd an_K tb = some (.inr (0, nt))) (bt : nt ≤ 100000) (htb : tb = 308 ∨ tb = 309) (hx1 : ¬ (302 ≤ x1 ∧ x1 ≤ 312)) (hx1' : x1 ≠ 262) (h5 : Zr x5) (hlim : lim ≤ nt) (hG : Gok ay cd nx n) (hE : cs < E ∧ E ≤ n ∧ E - cs ≤ 200) (hx3 : x3 = ((from_ + (E - cs) : Nat) : Int)) (hn1 : from_ + (E - cs) ≤ n1) (hrw : ∀ q, cs ≤ q → q < E → RWk cd mk rw_ base lim x5 q) {post : Int → Mi → Mj → Mp → Prop} : ∀ (len c o K : Nat) (D : Nat → Prop) (np : Nat → Nat) (x7 : Int) (m : Mi) (par j : Nat), nx c - c ≤ len → c < n → cs ≤ c → nx c ≤ E → (c ≠ cs → 1 ≤ o) → o ≤ c - cs → LDI ay cd nx mk np c K D m → VTB cd tb base lim np c m → DK ay cd nx D c → (∀ q, cs ≤ q → q < E → m x1 (from_ + (q - cs)) = rw_ q) → ARr ay cd n m → (c ≠ cs → (par < c ∧ 0 ≤ cd par ∧ ¬ D par) ∧ m 310 (o - 1) = (np par : Int) ∧ m 311 (o - 1) = (j : Int) ∧ j < 4) → (∀ np' K' m' x9 x10, LDI ay cd nx mk np' (nx c) K' (Dor D c (nx c)) m' → VTB cd tb base lim np' (nx c) m' → DK ay cd nx (Dor D c (nx c)) (nx c) → (∀ q, q < c → np' (ptc cd q) = np (ptc cd q)) → K ≤ K' → (∀ q, q < c - cs → m' 312 q = m 312 q) → (∀ q, c ≤ q → q < nx c → m' 312 (q - cs) = (np' (ptc cd q) : Int)) → (∀ q, q < o → m' 310 q = m 310 q) → (∀ q, q + 1 < o → m' 311 q = m 311 q) → (c ≠ cs → m' 311 (o - 1) = (j : Int) + 1 ∧ m' 307 (4 * np par + j) = (np' (ptc cd c) : Int)) → (∀ q, q < 4 * K → ¬ (c ≠ cs ∧ q = 4 * np par + j) → m' 307 q = m 307 q) → ldF tb m m' → Rn X (d + 1) 166 183 [some (.ref 262), some (.ref x1), some (.int (iz (from_ : Int))), some (.int (iz x3)), some (.ref tb), some (.int (iz x5)), some (.int (iz (o : Int))), some (.int (iz (if c = cs then (np' (ptc cd c) : Int) else x7))), some (.int (iz ((from_ + (nx c - 1 - cs) : Nat) : Int))), some (.int (iz x9)), some (.int (iz x10))] [] (SS m' J P) (QI post)) → Rn X (d + 1) 166 9 [some (.ref 262), some (.ref x1), some (.int (iz (from_ : Int))), some (.int (iz x3)), some (.ref tb), some (.int (iz x5)), some (.int (iz (o : Int))), some (.int (iz x7)), some (.int (iz ((from_ + (c - cs) : Nat) : Int))), none, none] [] (SS m J P) (QI post) := by
  have h880 := hG.1
  intro len
  induction len with
  | zero =>
    intro c o K D np x7 m par j hlen hcn
    have := (hG.2.2 c hcn).1.1
    omega
  | succ len ih =>
    intro c o K D np x7 m par j hlen hcn hcs hcE ho1 ho hL hV hD hrow hAR hpar kk
    · obtain ⟨⟨t1, t2, t3⟩, t4, t5, t6⟩ := hG.2.2 c hcn
      have hcEE : c < E := by omega
      have ei0 : (c - cs = 0) ↔ c = cs := by omega
      refine r_load_9 (i := c - cs) (par := par) (j := j) hp k1 b1 kt bt htb hx1 hx1' h5 hlim hG hL hV hcn (by omega) (hrow c hcs hcEE) (hrw c hcs hcEE) (by omega) (by omega) (by rw [hx3]; constructor <;> omega) hD (fun h => ?_) (fun np1 K1 m1 w1 w2 w3 w4 w4' w5 w6 w7 w8 w9 w10 => ?_)
      · have hne : c ≠ cs := by omega
        obtain ⟨q1, q2, q3, q4⟩ := hpar hne
        exact ⟨⟨ho1 hne, by omega⟩, q1, q2, q3, q4⟩
      · have hAR1 : ARr ay cd n m1 := fun q h1 h2 => by rw [w10 _ _ (by omega) (by omega) (by omega) (by omega)]; exact hAR q h1 h2
        have hrow1 : ∀ q, cs ≤ q → q < E → m1 x1 (from_ + (q - cs)) = rw_ q := fun q h1 h2 => by rw [w10 _ _ (by omega) (by omega) (by omega) (by omega)]; exact hrow q h1 h2
        have ex7 : (if c - cs = 0 then (np1 (ptc cd c) : Int) else x7) = if c = cs then (np1 (ptc cd c) : Int) else x7 := by
          by_cases g : c = cs
          · rw [if_pos g, if_pos (ei0.mpr g)]
          · rw [if_neg g, if_neg (fun h => g (ei0.mp h))]
        rw [ex7]
        have zk : Zr ((from_ + (c - cs) : Nat) : Int) := by constructor <;> omega
        have zf : Zr ((from_ : Nat) : Int) := by constructor <;> omega
        have hrwc := hrw c hcs hcEE
        have zr9 : Zr (rw_ c) := by
          by_cases g : 0 ≤ cd c
          · have := (hrwc.1 g).1; constructor <;> omega
          · obtain ⟨v, v1, v2, _⟩ := hrwc.2 (by omega)
            constructor <;> omega
        have hsgn : rw_ c < 0 ↔ cd c < 0 := by
          by_cases g : 0 ≤ cd c
          · have := (hrwc.1 g).1
            constructor <;> (intro; omega)
          · obtain ⟨v, v1, v2, _⟩ := hrwc.2 (by omega)
            constructor <;> (intro; omega)
        have hpK : c ≠ cs → np par < K := fun h => by
          have := (hpar h).1
          have e := hL.2.1 par this.1
          rw [ptc_s this.2.1] at e
          exact e
        -- the parent counts one more
        have cnt : ∀ (m2 : Mi), (∀ a k, ¬ (a = 311 ∧ c ≠ cs ∧ k = o - 1) → m2 a k = m1 a k) → (c ≠ cs → m2 311 (o - 1) = (j : Int) + 1) → LDI ay cd nx mk np1 (c + 1) K1 D m2 ∧ VTB cd tb base lim np1 (c + 1) m2 ∧ ldF tb m m2 ∧ ARr ay cd n m2 ∧ (∀ q, cs ≤ q → q < E → m2 x1 (from_ + (q - cs)) = rw_ q) := fun m2 f1 f2 => ⟨LDI_fr w1 (f1 _ _ (by omega)) (fun a k h1 h2 => f1 _ _ (by omega)), VTB_fr w2 (fun k => f1 _ _ (by omega)), fun b k g1 g2 g3 g4 => (f1 b k (by omega)).trans (w10 b k g1 g2 g3 g4), fun q h1 h2 => by rw [f1 _ _ (by omega)]; exact hAR1 q h1 h2, fun q h1 h2 => by rw [f1 _ _ (by omega)]; exact hrow1 q h1 h2⟩
        -- behind a VARIABLE
        have vari : cd c < 0 → ∀ (m2 : Mi), (∀ a k, ¬ (a = 311 ∧ c ≠ cs ∧ k = o - 1) → m2 a k = m1 a k) → (c ≠ cs → m2 311 (o - 1) = (j : Int) + 1) → Rn X (d + 1) 166 183 [some (.ref 262), some (.ref x1), some (.int (iz (from_ : Int))), some (.int (iz x3)), some (.ref tb), some (.int (iz x5)), some (.int (iz (o : Int))), some (.int (iz (if c = cs then (np1 (ptc cd c) : Int) else x7))), some (.int (iz ((from_ + (c - cs) : Nat) : Int))), some (.int (iz (rw_ c))), some (.int (iz (np1 (ptc cd c) : Int)))] [] (SS m2 J P) (QI post) := by
          intro hv m2 f1 f2
          obtain ⟨u1, u2, u3, u4, u5⟩ := cnt m2 f1 f2
          have hay : ay (cd c) = 0 := hG.2.1 _ hv
          have enx : nx c = c + 1 := by
            have := t3
            rw [hay] at this
            unfold ch at this
            omega
          have := kk np1 K1 m2 (rw_ c) (np1 (ptc cd c)) (by
            rw [enx]
            refine LDI_D u1 fun q hq => ?_
            rcases hq with hq | hq
            · exact u1.2.2.2.2.2.1 q hq
            · have : q = c := by omega
              rw [this]
              exact ⟨by omega, fun h => absurd h (by omega)⟩) (by rw [enx]; exact u2) (by
            rw [enx]
            intro q hq
            rcases hq with hq | hq
            · exact ⟨by have := (hD q hq).1; omega, fun j hj => by have := (hD q hq).2 j hj; omega⟩
            · have : q = c := by omega
              rw [this, hay]
              exact ⟨by omega, fun j hj => absurd hj (Nat.not_lt_zero _)⟩) w3 w4 (fun q hq => by rw [f1 _ _ (by omega)]; exact w6 q (by omega)) (fun q h1 h2 => by
            have : q = c := by omega
            rw [this, f1 _ _ (by omega)]; exact w5) (fun q hq => by rw [f1 _ _ (by omega)]; exact (w7 q).1) (fun q hq => by rw [f1 _ _ (by omega)]; exact (w7 q).2) (fun h => ⟨f2 h, by rw [f1 _ _ (by omega)]; exact w8 (by omega)⟩) (fun q h1 h2 => by rw [f1 _ _ (by omega)]; exact w9 q (fun e => h2 ⟨by omega, e.2⟩)) u3
          rw [show nx c - 1 - cs = c - cs by omega] at this
          exact this
        -- behind a SYMBOL
        have symb : 0 ≤ cd c → ∀ (m2 : Mi), (∀ a k, ¬ (a = 311 ∧ c ≠ cs ∧ k = o - 1) → ¬ ((a = 310 ∨ a = 311) ∧ k = o) → m2 a k = m1 a k) → (c ≠ cs → m2 311 (o - 1) = (j : Int) + 1) → m2 310 o = (np1 (ptc cd c) : Int) → m2 311 o = 0 → Rn X (d + 1) 166 183 [some (.ref 262), some (.ref x1), some (.int (iz (from_ : Int))), some (.int (iz x3)), some (.ref tb), some (.int (iz x5)), some (.int (iz ((o + 1 : Nat) : Int))), some (.int (iz (if c = cs then (np1 (ptc cd c) : Int) else x7))), some (.int (iz ((from_ + (c - cs) : Nat) : Int))), some (.int (iz (rw_ c))), some (.int (iz (np1 (ptc cd c) : Int)))] [] (SS m2 J P) (QI post) := by
          intro h0 m2 f1 f2 f3 f4
          have hptc : ptc cd c = c := ptc_s h0
          rw [hptc] at f3
          have L2 : LDI ay cd nx mk np1 (c + 1) K1 D m2 := LDI_fr w1 (f1 _ _ (by omega) (by omega)) (fun a k h1 h2 => f1 _ _ (by omega) (by omega))
          have V2 : VTB cd tb base lim np1 (c + 1) m2 := VTB_fr w2 (fun k => f1 _ _ (by omega) (by omega))
          have F2 : ldF tb m m2 := fun b k g1 g2 g3 g4 => (f1 b k (by omega) (by omega)).trans (w10 b k g1 g2 g3 g4)
          have hnpc : np1 c = K := w4' h0
          -- ARGUMENT by ARGUMENT
          have loop : ∀ (q i : Nat) (np3 : Nat → Nat) (K3 : Nat) (m3 : Mi) (x9 x10 : Int), i + q = ay (cd c) → LDI ay cd nx mk np3 (kid nx (c + 1) i) K3 (Dor D (c + 1) (kid nx (c + 1) i)) m3 → VTB cd tb base lim np3 (kid nx (c + 1) i) m3 → DK ay cd nx (Dor D (c + 1) (kid nx (c + 1) i)) (kid nx (c + 1) i) → (∀ q, q < c + 1 → np3 (ptc cd q) = np1 (ptc cd q)) → K1 ≤ K3 → (∀ q, q < c - cs → m3 312 q = m 312 q) → (∀ q, c ≤ q → q < kid nx (c + 1) i → m3 312 (q - cs) = (np3 (ptc cd q) : Int)) → (∀ q, q < o → m3 310 q = m 310 q) → (∀ q, q + 1 < o → m3 311 q = m 311 q) → (c ≠ cs → m3 311 (o - 1) = (j : Int) + 1 ∧ m3 307 (4 * np par + j) = (np3 (ptc cd c) : Int)) → (∀ q, q < 4 * K → ¬ (c ≠ cs ∧ q = 4 * np par + j) → m3 307 q = m 307 q) → ldF tb m m3 → m3 310 o = (np3 c : Int) → m3 311 o = (i : Int) → (∀ i', i' < i → m3 307 (4 * np3 c + i') = (np3 (ptc cd (kid nx (c + 1) i')) : Int)) → Rn X (d + 1) 166 183 [some (.ref 262), some (.ref x1), some (.int (iz (from_ : Int))), some (.int (iz x3)), some (.ref tb), some (.int (iz x5)), some (.int (iz ((o + 1 : Nat) : Int))), some (.int (iz (if c = cs then (np3 (ptc cd c) : Int) else x7))), some (.int (iz ((from_ + (kid nx (c + 1) i - 1 - cs) : Nat) : Int))), some (.int (iz x9)), some (.int (iz x10))] [] (SS m3 J P) (QI post) := by
            intro q
            induction q with
            | zero =>
              intro i np3 K3 m3 x9 x10 hi L3 V3 D3 g1 g2 g3 g4 g5 g6 g7 g8 g9 g10 g11 g12
              have ei : i = ay (cd c) := by omega
              subst ei
              have eend := G_end hG hcn
              rw [eend] at L3 V3 D3 g4
              have e1 : (((o + 1 : Nat) : Int) - 1).toNat = o := by omega
              have e2 : ((np3 c : Nat) : Int).toNat = np3 c := by omega
              have hAR3 := hAR c hcn h0
              have hb3 := L3.2.1 c (by omega)
              rw [hptc] at hb3
              have hK3 := L3.1.1
              have hs3 := (L3.2.2.2.1 c (by omega) h0).1
              have har3 : m3 280 (syc cd c).toNat = (ay (cd c) : Int) := (g9 _ _ (by omega) (by omega) (by omega) (by omega)).trans hAR3.2
              have e4 : ((o + 1 : Nat) : Int) + (-1) = (o : Int) := by omega
              refine b_Mdl_load_183 x1 n1 from_ x3 tb nt x5 _ _ _ x9 x10 k1 b1 kt bt m3 J P hp post ⟨by constructor <;> omega, fun h => absurd h (by omega), fun _ => ⟨by omega, by omega, ?_⟩⟩
              rw [e1, g10, e2, hs3, g11, har3, e4, eend]
              refine ⟨by omega, hAR3.1, by constructor <;> omega, by constructor <;> omega, fun h => absurd rfl h, fun _ => ?_⟩
              refine kk np3 K3 m3 x9 x10 (LDI_D L3 fun x hx => ?_) V3 (fun x hx => ?_) (fun x hx => (g1 x (by omega)).trans (w3 x hx)) (by omega) g3 g4 g5 g6 g7 g8 g9
              · rcases hx with hx | hx
                · exact L3.2.2.2.2.2.1 x (Or.inl hx)
                · by_cases e : x = c
                  · rw [e]; exact ⟨by omega, fun _ j hj => g12 j hj⟩
                  · exact L3.2.2.2.2.2.1 x (Or.inr ⟨by omega, by omega⟩)
              · rcases hx with hx | hx
                · exact D3 x (Or.inl hx)
                · by_cases e : x = c
                  · rw [e]; exact ⟨by omega, fun j hj => by have := G_kid hG hcn hj; omega⟩
                  · exact D3 x (Or.inr ⟨by omega, by omega⟩)
            | succ q jh =>
              intro i np3 K3 m3 x9 x10 hi L3 V3 D3 g1 g2 g3 g4 g5 g6 g7 g8 g9 g10 g11 g12
              have gk := G_kid hG hcn (i := i) (by omega)
              have e1 : (((o + 1 : Nat) : Int) - 1).toNat = o := by omega
              have e2 : ((np3 c : Nat) : Int).toNat = np3 c := by omega
              have hAR3 := hAR c hcn h0
              have hb3 := L3.2.1 c gk.1
              rw [hptc] at hb3
              have hK3 := L3.1.1
              have hs3 := (L3.2.2.2.1 c gk.1 h0).1
              have har3 : m3 280 (syc cd c).toNat = (ay (cd c) : Int) := (g9 _ _ (by omega) (by omega) (by omega) (by omega)).trans hAR3.2
              refine b_Mdl_load_183 x1 n1 from_ x3 tb nt x5 _ _ _ x9 x10 k1 b1 kt bt m3 J P hp post ⟨by constructor <;> omega, fun h => absurd h (by omega), fun _ => ⟨by omega, by omega, ?_⟩⟩
              rw [e1, g10, e2, hs3, g11, har3]
              refine ⟨by omega, hAR3.1, by constructor <;> omega, by constructor <;> omega, fun _ => ?_, fun h => absurd (show ¬ ((i : Int) = (ay (cd c) : Int)) by omega) h⟩
              have ek : ((from_ + (kid nx (c + 1) i - 1 - cs) : Nat) : Int) + 1 = ((from_ + (kid nx (c + 1) i - cs) : Nat) : Int) := by omega
              rw [ek]
              have hnd : ¬ Dor D (c + 1) (kid nx (c + 1) i) c := fun h => by
                rcases h with h | h
                · have := (hD c h).1; omega
                · omega
              refine ih (kid nx (c + 1) i) (o + 1) K3 _ np3 _ m3 c i (by omega) gk.2.1 (by omega) (by omega) (fun _ => by omega) (by omega) L3 V3 D3 (fun q h1 h2 => by rw [g9 _ _ (by omega) (by omega) (by omega) (by omega)]; exact hrow q h1 h2) (fun q h1 h2 => by rw [g9 _ _ (by omega) (by omega) (by omega) (by omega)]; exact hAR q h1 h2) (fun _ => ⟨⟨gk.1, h0, hnd⟩, by rw [show o + 1 - 1 = o by omega]; exact g10, by rw [show o + 1 - 1 = o by omega]; exact g11, by omega⟩) (fun np4 K4 m4 x9' x10' v1 v2 v3 v4 v5 v6 v7 v8 v9 v10 v11 v12 => ?_)
              have hne : kid nx (c + 1) i ≠ cs := by omega
              rw [if_neg hne]
              have e4c : np4 (ptc cd c) = np3 (ptc cd c) := v4 c gk.1
              have e4c' := e4c
              rw [hptc] at e4c'
              rw [← e4c]
              have eD : ∀ x, Dor D (c + 1) (kid nx (c + 1) (i + 1)) x ↔ Dor (Dor D (c + 1) (kid nx (c + 1) i)) (kid nx (c + 1) i) (nx (kid nx (c + 1) i)) x := fun x => by
                show (D x ∨ (c + 1 ≤ x ∧ x < nx (kid nx (c + 1) i))) ↔ ((D x ∨ (c + 1 ≤ x ∧ x < kid nx (c + 1) i)) ∨ (kid nx (c + 1) i ≤ x ∧ x < nx (kid nx (c + 1) i)))
                have g5' := (hG.2.2 _ gk.2.1).1.1
                have g6' := (ch_kid (i := i) t3 (by omega)).1
                by_cases hx : D x
                · exact ⟨fun _ => Or.inl (Or.inl hx), fun _ => Or.inl hx⟩
                · constructor
                  · rintro (h | h)
                    · exact absurd h hx
                    · by_cases g : x < kid nx (c + 1) i
                      · exact Or.inl (Or.inr ⟨h.1, g⟩)
                      · exact Or.inr ⟨by omega, h.2⟩
                  · rintro ((h | h) | h)
                    · exact absurd h hx
                    · exact Or.inr ⟨h.1, by omega⟩
                    · exact Or.inr ⟨by omega, h.2⟩
              have v10' := v10 hne
              rw [show o + 1 - 1 = o by omega] at v10'
              have hnp3 : np3 c = K := by have := g1 c (by omega); rw [hptc] at this; rw [this]; exact hnpc
              refine jh (i + 1) np4 K4 m4 x9' x10' (by omega) (LDI_D v1 fun x hx => v1.2.2.2.2.2.1 x ((eD x).mp hx)) v2 (fun x hx => v3 x ((eD x).mp hx)) (fun q hq => (v4 q (by omega)).trans (g1 q hq)) (by omega) (fun q hq => (v6 q (by omega)).trans (g3 q hq)) (fun q h1 h2 => ?_) (fun q hq => (v8 q (by omega)).trans (g5 q hq)) (fun q hq => (v9 q (by omega)).trans (g6 q hq)) (fun h => ⟨(v9 (o - 1) (by omega)).trans (g7 h).1, ?_⟩) (fun q h1 h2 => (v11 q (by omega) (fun e => by omega)).trans (g8 q h1 h2)) (ldF_trans g9 v12) ((v8 o (by omega)).trans (by rw [g10, e4c'])) (by rw [v10'.1]; omega) (fun i' hi' => ?_)
              · by_cases g : q < kid nx (c + 1) i
                · rw [v6 _ (by omega), g4 q h1 g, v4 q g]
                · exact v7 q (by omega) h2
              · have := hpK h
                rw [v11 _ (by omega) (fun e => by omega), (g7 h).2, e4c]
              · by_cases g : i' = i
                · rw [g, e4c']
                  exact v10'.2
                · rw [e4c', v11 _ (by omega) (fun e => by omega), g12 i' (by omega), v4 _ (by
                    have h1 := G_kid hG hcn (i := i') (by omega)
                    exact kid_mono hG hcn (by omega) (by omega))]
          have := loop (ay (cd c)) 0 np1 K1 m2 (rw_ c) (np1 (ptc cd c)) (by omega) (LDI_D L2 fun x hx => ?_) V2 (fun x hx => ?_) (fun _ _ => rfl) (Nat.le_refl _) (fun q hq => by rw [f1 _ _ (by omega) (by omega)]; exact w6 q (by omega)) (fun q h1 h2 => ?_) (fun q hq => by rw [f1 _ _ (by omega) (by omega)]; exact (w7 q).1) (fun q hq => by rw [f1 _ _ (by omega) (by omega)]; exact (w7 q).2) (fun h => ⟨f2 h, by rw [f1 _ _ (by omega) (by omega)]; exact w8 (by omega)⟩) (fun q h1 h2 => by rw [f1 _ _ (by omega) (by omega)]; exact w9 q (fun e => h2 ⟨by omega, e.2⟩)) F2 f3 f4 (fun i' hi' => absurd hi' (Nat.not_lt_zero _))
          · rw [kid, show c + 1 - 1 - cs = c - cs by omega] at this
            exact this
          · rcases hx with hx | hx
            · exact L2.2.2.2.2.2.1 x hx
            · rw [kid] at hx; omega
          · rcases hx with hx | hx
            · rw [kid]
              exact ⟨by have := (hD x hx).1; omega, fun j hj => by have := (hD x hx).2 j hj; omega⟩
            · rw [kid] at hx; omega
          · rw [kid] at h2
            have : q = c := by omega
            rw [this, f1 _ _ (by omega) (by omega)]; exact w5
        have eo : ((o : Nat) : Int).toNat = o := by omega
        have eo1 : ((o : Nat) : Int) + 1 = ((o + 1 : Nat) : Int) := by omega
        have eom : ((o : Nat) : Int) - 1 = ((o : Int) - 1) := rfl
        refine b_Mdl_load_139 x1 n1 from_ x3 tb nt x5 o _ _ (rw_ c) _ k1 b1 kt bt m1 J P hp post ⟨zk, zf, fun hle => ⟨zr9, fun hneg => ?_, fun hpos => ⟨by omega, by omega, ?_⟩⟩, fun hgt => ?_⟩
        · have : c = cs := by omega
          exact vari (hsgn.mp hneg) m1 (fun _ _ _ => rfl) (fun h => absurd this h)
        · have hcc : c = cs := by omega
          rw [eo, eo1]
          refine symb (Classical.byContradiction fun g => hpos (hsgn.mpr (by omega))) _ (fun a k g1 g2 => by rw [mu_ne _ _ (by omega), mu_ne _ _ (by omega)]) (fun h => absurd hcc h) (by rw [mu_ne _ _ (by omega), mu_at]) (mu_at _ _ _ _)
        · have hne : c ≠ cs := by omega
          have ho' := ho1 hne
          have eo' : ((o : Int) - 1).toNat = o - 1 := by omega
          have ej : m1 311 (o - 1) = (j : Int) := by rw [(w7 _).2]; exact (hpar hne).2.2.1
          rw [eo', ej]
          refine ⟨by omega, by omega, zr9, fun hneg => ?_, fun hpos => ⟨by omega, by omega, ?_⟩⟩
          · exact vari (hsgn.mp hneg) _ (fun a k g => mu_ne _ _ (by omega)) (fun _ => mu_at _ _ _ _)
          · rw [eo, eo1]
            refine symb (Classical.byContradiction fun g => hpos (hsgn.mpr (by omega))) _ (fun a k g1 g2 => by rw [mu_ne _ _ (by omega), mu_ne _ _ (by omega), mu_ne _ _ (by omega)]) (fun _ => by rw [mu_ne _ _ (by omega), mu_ne _ _ (by omega), mu_at]) (by rw [mu_ne _ _ (by omega), mu_at]) (mu_at _ _ _ _)
end RLS
