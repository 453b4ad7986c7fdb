/-! the class's Reducer: reduce(), joins(), takeForm() -/
section RDE
variable {X : aX} {d : Nat} {P : Mp} {J : Mj} {m : Mi} {b sc o N : Nat} {ar : Nat → Int} {dn : List Int} {σ : Int → List Int} {Lm Rm : Nat → List Int}
/-- a cell without mark or flag -/
def gp (sc : Nat) (c : Int) : Prop := -10000 ≤ c ∧ c < 16 ∧ (0 ≤ c → c < sc)
theorem gd_gp {c : Int} (hs : sc ≤ 16) (h : gp sc c) : gd sc c := ⟨h.1, by have := h.2.1; omega, fun g => by have := h.2.2 g; omega⟩
/-- what reduce() may change -/
def rdF (m m' : Mi) : Prop := ∀ a k, ¬ (a = 28 ∧ 1 ≤ k ∧ k ≤ 6) → ¬ (29 ≤ a ∧ a ≤ 35 ∧ a ≠ 32) → m' a k = m a k
theorem rdF_trans {m m' m'' : Mi} (h : rdF m m') (h2 : rdF m' m'') : rdF m m'' := fun a k g g2 => (h2 a k g g2).trans (h a k g g2)
/-- the RULES of the book as the Reducer holds them -/
def BkM (b N : Nat) (Lm Rm : Nat → List Int) (m : Mi) : Prop := N ≤ 16 ∧ m b 5 = (N : Int) ∧ ∀ u, u < N → RM (b + 5 + 6 * u) (Lm u) (Rm u) m
theorem BkM_fr {m' : Mi} (h : BkM b N Lm Rm m) (f : ∀ a k, b ≤ a → a < b + 101 → m' a k = m a k) : BkM b N Lm Rm m' :=
  ⟨h.1, (f _ _ (Nat.le_refl _) (by omega)).trans h.2.1, fun u hu => RM_fr (h.2.2 u hu) (fun k => f _ _ (by omega) (by have := h.1; omega)) (fun k => f _ _ (by omega) (by have := h.1; omega))⟩
theorem ct_rep {ay : Int → Nat} {r r' : List Int} (h : ctt ay r = ctt ay r') : ∀ (a : List Int), ctt ay (a ++ r) = ctt ay (a ++ r')
  | [] => h
  | c :: a => by rw [List.cons_append, List.cons_append, ctt, ctt, ct_rep h a]
theorem sf_pl : ∀ {l : List Int}, (∀ c, c ∈ l → c < 16) → (∀ v, v ∈ l → v < 0 → ∀ x, x ∈ σ v → x < 16) → (sf σ l).map pl = sb σ l
  | [], _, _ => rfl
  | c :: l, h, g => by
    have ih := sf_pl (l := l) (fun c' hc => h c' (List.mem_cons_of_mem _ hc)) (fun v hv => g v (List.mem_cons_of_mem _ hv))
    unfold sf at ih ⊢
    rw [sb_cons, sb_cons, List.map_append, ih]
    congr 1
    by_cases hn : c < 0
    · rw [if_pos hn, if_pos hn, List.map_map]
      have : ∀ x, x ∈ σ c → (pl ∘ fg) x = x := fun x hx => pl_fg (g c List.mem_cons_self hn x hx)
      rw [List.map_congr_left this]; simp
    · rw [if_neg hn, if_neg hn]
      have := h c List.mem_cons_self
      show [pl c] = [c]
      unfold pl
      rw [if_neg (by omega)]
theorem sb_all {Q : Int → Prop} : ∀ {l : List Int}, (∀ c, c ∈ l → 0 ≤ c → Q c) → (∀ v, v ∈ l → v < 0 → ∀ x, x ∈ σ v → Q x) → ∀ x, x ∈ sb σ l → Q x
  | [], _, _, x, hx => absurd hx List.not_mem_nil
  | c :: l, h, g, x, hx => by
    rw [sb_cons] at hx
    rcases List.mem_append.mp hx with h1 | h1
    · by_cases hn : c < 0
      · rw [if_pos hn] at h1; exact g c List.mem_cons_self hn x h1
      · rw [if_neg hn] at h1
        rw [List.mem_singleton.mp h1]
        exact h c List.mem_cons_self (by omega)
    · exact sb_all (fun c' hc => h c' (List.mem_cons_of_mem _ hc)) (fun v hv => g v (List.mem_cons_of_mem _ hv)) x h1
/-- a cell to come, flagged or not -/
def gw (sc : Nat) (c : Int) : Prop := gp sc (pl c) ∧ c < 128
theorem gw_fg {c : Int} (hs : sc ≤ 16) (h : gp sc c) : gw sc (fg c) := ⟨by rw [pl_fg h.2.1]; exact h, by unfold fg; have := h.2.1; split <;> omega⟩
theorem gw_gp {c : Int} (h : gp sc c) : gw sc c := ⟨by unfold pl; rw [if_neg (by have := h.2.1; omega)]; exact h, by have := h.2.1; omega⟩
theorem gw_cases {c : Int} (hs : sc ≤ 16) (h : gw sc c) : (c < 0 ∧ pl c = c) ∨ (0 ≤ c ∧ c < 16 ∧ pl c = c) ∨ (64 ≤ c ∧ c < 128 ∧ pl c = c - 64 ∧ c - 64 < 16) := by
  obtain ⟨⟨h1, h2, h3⟩, h4⟩ := h
  unfold pl at h1 h2 h3 ⊢
  by_cases g : 64 ≤ c
  · rw [if_pos g] at h1 h2 h3 ⊢; omega
  · rw [if_neg g] at h1 h2 h3 ⊢; omega
variable {x1 n1 : Nat} {x2 x3 : Int}
theorem c_red_exit (k1 : am_kd an_K x1 = some (.inr (0, n1))) (b1 : n1 ≤ 100000) (kb : am_kd an_K b = some (.inl 10)) (hp : PP P) {x5 x6 : Int} (h5 : x5 = -2 ∨ x5 = -3) (h6 : Zr x6) (h1 : Zr (m 28 1)) {post : Int → Mi → Mj → Mp → Prop} (k : post x5 m J P) : Rn X (d + 2) 67 42 [some (.ref 28), some (.ref x1), some (.int (iz x2)), some (.int (iz x3)), some (.ref b), some (.int (iz x5)), some (.int (iz x6)), none, none, none, none] [] (SS m J P) (QI post) := by
  have z5 : Zr x5 := by constructor <;> omega
  refine b_Reducer_reduce_42 x1 n1 x2 x3 b x5 x6 k1 b1 kb m J P hp post ⟨h6, fun _ => ⟨z5, fun h => absurd h (by omega), fun _ => k⟩, fun _ => ⟨h1, fun _ => ⟨z5, fun h => absurd h (by omega), fun _ => k⟩, fun _ => ⟨z5, fun _ => ⟨z5, fun h => absurd h (by omega), fun _ => k⟩, fun h => absurd (fun e : x5 = 0 => by omega) h⟩⟩⟩
theorem c_red_42 (hp : PP P) (k1 : am_kd an_K x1 = some (.inr (0, n1))) (b1 : n1 ≤ 100000) (hb : b = 54 ∨ b = 155) (hs : sc ≤ 16) (hR : Rg (ayw ar) N Lm Rm) (hRg : ∀ u, u < N → ∀ c, c ∈ Rm u → gp sc c) {m0 : Mi} (hA0 : BA b sc ar m0) (hK0 : BkM b N Lm Rm m0) {post : Int → Mi → Mj → Mp → Prop} : ∀ (n k : Nat) (ww dn : List Int) (m : Mi) (x6 : Int), 201 * k + ww.length < n → 0 ≤ x6 → x6 + 201 * k + ww.length ≤ 201300 → k ≤ 1000 → WW m ww.reverse → DN (ayw ar) m dn → m 28 5 = 1000 - (k : Int) → m 28 6 = ((ww.length + dn.length : Nat) : Int) → ww.length + dn.length ≤ 200 → FlI (ayw ar) N Lm Rm ww dn → dnN (ayw ar) N Lm Rm dn → ctt (ayw ar) ((ww.map pl).reverse ++ dn) = some 1 → (∀ c, c ∈ ww → gw sc c) → (∀ c, c ∈ dn → gp sc c) → rdF m0 m → (∀ f s m', nr (ayw ar) N Lm Rm k (ww.map pl) dn = (0, f, s) → DN (ayw ar) m' f → (∀ c, c ∈ f → gp sc c) → ctt (ayw ar) f = some 1 → rdF m0 m' → post (1000 - (s : Int)) m' J P) → (∀ q m', nr (ayw ar) N Lm Rm k (ww.map pl) dn = q → (q.1 = -2 ∨ q.1 = -3) → rdF m0 m' → post q.1 m' J P) → Rn X (d + 2) 67 42 [some (.ref 28), some (.ref x1), some (.int (iz x2)), some (.int (iz x3)), some (.ref b), some (.int (iz 0)), some (.int (iz x6)), none, none, none, none] [] (SS m J P) (QI post) := by
  have kb := kd_book hb
  intro n
  induction n with
  | zero => intro k ww dn m x6 h; exact absurd h (Nat.not_lt_zero _)
  | succ n ih =>
    intro k ww dn m x6 hn h0 h6 hk hW hD h5 ht hl hF hN hC hgw hgd hf k0 kq
    have z6 : Zr x6 := by constructor <;> omega
    have hW2 := hW.2.1
    rw [List.length_reverse] at hW2
    have hN16 := hK0.1
    cases ww with
    | nil =>
      refine b_Reducer_reduce_42 x1 n1 x2 x3 b 0 x6 k1 b1 kb m J P hp post ⟨z6, fun h => absurd h (by omega), fun _ => ⟨by rw [hW2]; exact zr0, fun _ => ⟨zr0, fun _ => ?_, fun h => absurd (by decide) h⟩, fun h => absurd (by rw [hW2]; exact Int.le_refl _) h⟩⟩
      rw [h5]
      exact k0 dn k m (nr_none rfl) hD hgd hC hf
    | cons c ww =>
      rw [List.length_cons] at hW2 ht hl hn h6
      have hcg := hgw c List.mem_cons_self
      have hcc := gw_cases hs hcg
      have hcell := Ro_mem (p := ww.reverse) (q := []) (c := c) hW.2.2 (by rw [List.reverse_cons])
      rw [List.length_reverse, Nat.zero_add] at hcell
      have hW200 := hW.1
      rw [List.length_reverse, List.length_cons] at hW200
      have e1 : m 28 1 - 1 = (ww.length : Int) := by rw [hW2]; omega
      have e2 : mu m 28 1 (ww.length : Int) 28 1 = (ww.length : Int) := mu_at _ _ _ _
      have e3 : ((ww.length : Nat) : Int).toNat = ww.length := by omega
      have e4 : mu m 28 1 (ww.length : Int) 29 ww.length = c := (mu_ne _ _ (by omega)).trans hcell
      have F1 : rdF m (mu m 28 1 (ww.length : Int)) := fun a k g g2 => mu_ne _ _ (by omega)
      have hf1 := rdF_trans hf F1
      have hA1 : BA b sc ar (mu m 28 1 (ww.length : Int)) := BA_fr hA0 hs fun k _ => hf1 _ _ (by omega) (by omega)
      have hD1 : DN (ayw ar) (mu m 28 1 (ww.length : Int)) dn := DN_fr hD (mu_ne _ _ (by omega)) (fun k => mu_ne _ _ (by omega)) (fun k => mu_ne _ _ (by omega))
      -- how many TERMS are looked through
      have hC1 : (((c :: ww).map pl).reverse ++ dn) = (ww.map pl).reverse ++ (pl c :: dn) := by simp
      rw [hC1] at hC
      obtain ⟨jc, hjc⟩ := ct_suf hC
      obtain ⟨kd, hkd, hay, _⟩ := ct_cons.mp hjc
      have hgd' : ∀ c', c' ∈ pl c :: dn → gp sc c' := fun c' h => by
        rcases List.mem_cons.mp h with h | h
        · rw [h]; exact hcg.1
        · exact hgd c' h
      -- on, with nothing done
      have move : ∀ (m2 : Mi) (x7 x8 x9 x10 : Int), rlx (ayw ar) Lm Rm N 0 (pl c :: dn) = none → DN (ayw ar) m2 (pl c :: dn) → WW m2 ww.reverse → m2 28 5 = 1000 - (k : Int) → m2 28 6 = ((ww.length + 1 + dn.length : Nat) : Int) → rdF m0 m2 → Rn X (d + 2) 67 42 [some (.ref 28), some (.ref x1), some (.int (iz x2)), some (.int (iz x3)), some (.ref b), some (.int (iz 0)), some (.int (iz (x6 + 1))), none, none, none, none] [] (SS m2 J P) (QI post) := by
        intro m2 x7 x8 x9 x10 hnone g1 g2 g3 g4 g5
        have emv : nr (ayw ar) N Lm Rm k ((c :: ww).map pl) dn = nr (ayw ar) N Lm Rm k (ww.map pl) (pl c :: dn) := by rw [List.map_cons]; exact nr_move hnone
        rw [emv] at k0 kq
        exact ih k ww (pl c :: dn) m2 (x6 + 1) (by omega) (by omega) (by omega) hk g2 g1 g3 (by rw [g4, List.length_cons]; congr 1; omega) (by rw [List.length_cons]; omega) (FlI_move hF) (dnN_cons hN hnone) hC (fun c' h => hgw c' (List.mem_cons_of_mem _ h)) hgd' g5 k0 kq
      -- behind settle()
      have settled : ∀ (m2 : Mi), DN (ayw ar) m2 (pl c :: dn) → (∀ a k, ¬ (a = 28 ∧ k = 4) → a ≠ 30 → a ≠ 31 → m2 a k = mu m 28 1 (ww.length : Int) a k) → WW m2 ww.reverse ∧ m2 28 5 = 1000 - (k : Int) ∧ m2 28 6 = ((ww.length + 1 + dn.length : Nat) : Int) ∧ rdF m0 m2 := by
        intro m2 g1 g2
        refine ⟨⟨by rw [List.length_reverse]; omega, by rw [g2 _ _ (by omega) (by decide) (by decide), e2, List.length_reverse], ?_⟩, ?_, ?_, ?_⟩
        · have := hW.2.2
          rw [List.reverse_cons] at this
          exact Ro_fr (Ro_app.mp this).1 fun k' _ _ => (g2 _ _ (by omega) (by decide) (by decide)).trans (mu_ne _ _ (by omega))
        · rw [g2 _ _ (by omega) (by decide) (by decide), mu_ne _ _ (by omega)]; exact h5
        · rw [g2 _ _ (by omega) (by decide) (by decide), mu_ne _ _ (by omega)]; exact ht
        · exact fun a k' q1 q2 => (g2 a k' (by omega) (by omega) (by omega)).trans (hf1 a k' q1 q2)
      have hcD : ∀ {post : Mi → Mj → Mp → Prop}, (∀ m2, DN (ayw ar) m2 (pl c :: dn) → (∀ a k, ¬ (a = 28 ∧ k = 4) → a ≠ 30 → a ≠ 31 → m2 a k = mu m 28 1 (ww.length : Int) a k) → post m2 J P) → Cv X (d + 1) 68 [.ref 28, .int (iz (pl c)), .ref b] (mu m 28 1 (ww.length : Int)) J P post := fun kk => c_settle hp kb hs hA1 (gd_gp hs hcg.1) hD1 (by omega) hkd hay kk
      refine b_Reducer_reduce_42 x1 n1 x2 x3 b 0 x6 k1 b1 kb m J P hp post ⟨z6, fun h => absurd h (by omega), fun _ => ⟨by rw [hW2]; constructor <;> omega, fun h => absurd h (by rw [hW2]; omega), fun _ => ⟨zr0, fun h => absurd rfl h, fun _ => ?_⟩⟩⟩
      rw [e1, e2, e3, e4]
      have zc : Zr c := by have t1 := hcg.1.1; constructor <;> omega
      -- flagged or a VARIABLE
      have skip : ∀ (m2 : Mi), rlx (ayw ar) Lm Rm N 0 (pl c :: dn) = none → DN (ayw ar) m2 (pl c :: dn) → (∀ a k, ¬ (a = 28 ∧ k = 4) → a ≠ 30 → a ≠ 31 → m2 a k = mu m 28 1 (ww.length : Int) a k) → Rn X (d + 2) 67 128 [some (.ref 28), some (.ref x1), some (.int (iz x2)), some (.int (iz x3)), some (.ref b), some (.int (iz 0)), some (.int (iz x6)), some (.int (iz c)), some (.int (iz 1)), some (.int (iz 0)), some (.int (iz 0))] [] (SS m2 J P) (QI post) := by
        intro m2 hnone g1 g2
        obtain ⟨w1, w2, w3, w4⟩ := settled m2 g1 g2
        have hb5 : m2 b 5 = (N : Int) := (w4 _ _ (by omega) (by omega)).trans hK0.2.1
        exact b_Reducer_reduce_128 x1 n1 x2 x3 b 0 x6 c 1 0 0 k1 b1 kb m2 J P hp post ⟨zr0, by rw [hb5]; constructor <;> omega, fun _ => move m2 0 0 0 0 hnone g1 w1 w2 w3 w4, fun _ => ⟨zr1, fun _ => move m2 0 0 0 0 hnone g1 w1 w2 w3 w4, fun h => absurd (by decide) h⟩⟩
      rcases hcc with ⟨c1, c2⟩ | ⟨c1, c1', c2⟩ | ⟨c1, c1', c2, c3⟩
      · -- a VARIABLE
        have hnone : rlx (ayw ar) Lm Rm N 0 (pl c :: dn) = none := rlx_var hR (by omega)
        refine ⟨by omega, zc, fun _ => ⟨zc, fun h => absurd h (by omega), fun _ => ?_⟩, fun h => absurd c1 h⟩
        have := hcD (post := fun m10 J11 P12 => PP P12 ∧ Rn X (d + 2) 67 128 [some (.ref 28), some (.ref x1), some (.int (iz x2)), some (.int (iz x3)), some (.ref b), some (.int (iz 0)), some (.int (iz x6)), some (.int (iz c)), some (.int (iz 1)), some (.int (iz 0)), some (.int (iz 0))] [] (SS m10 J11 P12) (QI post)) (fun m2 g1 g2 => ⟨hp, skip m2 hnone g1 g2⟩)
        rw [c2] at this
        exact this
      · -- a SYMBOL
        have ez : zand c 31 = pl c := by rw [zand_31 ⟨c1, by omega⟩, c2]; omega
        refine ⟨by omega, zc, fun h => absurd h (by omega), fun _ => ⟨zc, fun _ => ⟨zc, fun _ => ?_, fun h => absurd c1 h⟩, fun h => absurd (by omega) h⟩⟩
        rw [ez]
        refine hcD (fun m2 g1 g2 => ⟨hp, ?_⟩)
        obtain ⟨w1, w2, w3, w4⟩ := settled m2 g1 g2
        -- RULE by RULE
        have rules : ∀ (q u : Nat) (m3 : Mi), u + q = N → (∀ w, w < u → ¬ Mtc (ayw ar) (Lm w) (pl c :: dn)) → (∀ a k, a ≠ 33 → m3 a k = m2 a k) → Rn X (d + 2) 67 128 [some (.ref 28), some (.ref x1), some (.int (iz x2)), some (.int (iz x3)), some (.ref b), some (.int (iz 0)), some (.int (iz x6)), some (.int (iz c)), some (.int (iz 0)), some (.int (iz 0)), some (.int (iz (u : Int)))] [] (SS m3 J P) (QI post) := by
          intro q
          induction q with
          | zero =>
            intro u m3 hu hno hf3
            have hb5 : m3 b 5 = (N : Int) := (hf3 _ _ (by omega)).trans ((w4 _ _ (by omega) (by omega)).trans hK0.2.1)
            have hnone : rlx (ayw ar) Lm Rm N 0 (pl c :: dn) = none := rlx_none_iff.mpr fun v _ h2 => hno v (by omega)
            refine b_Reducer_reduce_128 x1 n1 x2 x3 b 0 x6 c 0 0 u k1 b1 kb m3 J P hp post ⟨by constructor <;> omega, by rw [hb5]; constructor <;> omega, fun _ => ?_, fun h => absurd (by rw [hb5]; omega) h⟩
            exact move m3 0 0 0 0 hnone (DN_fr g1 (hf3 _ _ (by decide)) (fun k => hf3 _ _ (by decide)) (fun k => hf3 _ _ (by decide))) ⟨w1.1, (hf3 _ _ (by decide)).trans w1.2.1, Ro_fr w1.2.2 fun k _ _ => hf3 _ _ (by decide)⟩ ((hf3 _ _ (by decide)).trans w2) ((hf3 _ _ (by decide)).trans w3) (fun a k q1 q2 => (hf3 a k (by omega)).trans (w4 a k q1 q2))
          | succ q jh =>
            intro u m3 hu hno hf3
            have hb5 : m3 b 5 = (N : Int) := (hf3 _ _ (by omega)).trans ((w4 _ _ (by omega) (by omega)).trans hK0.2.1)
            have eu : b + 5 + 6 * ((u : Nat) : Int).toNat = b + 5 + 6 * u := by omega
            have ko := kd_rule hb (u := u) (by omega)
            have hM3 : RM (b + 5 + 6 * u) (Lm u) (Rm u) m3 := RM_fr (hK0.2.2 u (by omega)) (fun k => (hf3 _ _ (by omega)).trans (w4 _ _ (by omega) (by omega))) (fun k => (hf3 _ _ (by omega)).trans (w4 _ _ (by omega) (by omega)))
            have hD3 : DN (ayw ar) m3 (pl c :: dn) := DN_fr g1 (hf3 _ _ (by decide)) (fun k => hf3 _ _ (by decide)) (fun k => hf3 _ _ (by decide))
            obtain ⟨r1, r2, r3, r4, r5, r6⟩ := hR.2 u (by omega)
            have nx : ((u : Nat) : Int) + 1 = ((u + 1 : Nat) : Int) := by omega
            have zb : ∀ c', c' ∈ pl c :: dn → Zr c' := fun c' h => by have := hgd' c' h; have t1 := this.1; have t2 := this.2.1; constructor <;> omega
            refine b_Reducer_reduce_128 x1 n1 x2 x3 b 0 x6 c 0 0 u k1 b1 kb m3 J P hp post ⟨by constructor <;> omega, by rw [hb5]; constructor <;> omega, fun h => absurd h (by rw [hb5]; omega), fun _ => ⟨zr0, fun h => absurd rfl h, fun _ => ⟨zr0, fun h => absurd rfl h, fun _ => ⟨by omega, ?_⟩⟩⟩⟩
            rw [eu, nx]
            refine c_fits hp ko (by omega) hjc zb r1 hD3 hM3 (fun σ y m4 s1 s2 s3 s4 => ⟨hp, zr1, fun h => absurd h (by decide), fun _ => ⟨by omega, ?_⟩⟩) (fun hno' m4 s4 => ⟨hp, zr0, fun _ => ?_, fun h => absurd rfl h⟩)
            · have hD4 : DN (ayw ar) m4 (pl c :: dn) := DN_fr hD3 (s4 _ _ (by decide)) (fun k => s4 _ _ (by decide)) (fun k => s4 _ _ (by decide))
              have hM4 : RM (b + 5 + 6 * u) (Lm u) (Rm u) m4 := RM_fr hM3 (fun k => s4 _ _ (by omega)) (fun k => s4 _ _ (by omega))
              have F4 : ∀ a k, a ≠ 33 → m4 a k = m2 a k := fun a k h => (s4 a k h).trans (hf3 a k h)
              have hW4 : WW m4 ww.reverse := ⟨w1.1, (F4 _ _ (by decide)).trans w1.2.1, Ro_fr w1.2.2 fun k _ _ => F4 _ _ (by decide)⟩
              have hf4 : rdF m0 m4 := fun a k q1 q2 => (F4 a k (by omega)).trans (w4 a k q1 q2)
              have hb5' : m4 b 5 = (N : Int) := (s4 _ _ (by omega)).trans hb5
              -- what the pure machine does
              have hx : rlx (ayw ar) Lm Rm N 0 (pl c :: dn) = some (sb σ (Rm u), y) := by
                rw [rlx_at (v := u) (Nat.zero_le _) (by omega) (fun w _ h => hno w h) ⟨σ, y, s1, s2⟩]
                exact Mr_some s1 s2 r3
              have hsn : sn (ayw ar) N Lm Rm ((c :: ww).map pl) dn = some (ww.map pl, sb σ (Rm u), y) := by rw [List.map_cons, sn, hx]
              have hhit := nr_hit (k := k) hsn
              rw [List.length_map] at hhit
              have hyl := congrArg List.length s2
              rw [List.length_append, List.length_cons] at hyl
              have hσ : ∀ v, v ∈ Rm u → v < 0 → ∀ x, x ∈ σ v → gp sc x := fun v hv hn x hx => by
                obtain ⟨p, q, e, _⟩ := s3 v (r3 v hv hn) hn
                exact hgd' x (by rw [e]; simp [hx])
              -- behind contract(): out of the loop over RULES
              have out : ∀ (z : Int) (m5 : Mi), Zr z → m5 b 5 = (N : Int) → Rn X (d + 2) 67 42 [some (.ref 28), some (.ref x1), some (.int (iz x2)), some (.int (iz x3)), some (.ref b), some (.int (iz z)), some (.int (iz (x6 + 1))), none, none, none, none] [] (SS m5 J P) (QI post) → Rn X (d + 2) 67 128 [some (.ref 28), some (.ref x1), some (.int (iz x2)), some (.int (iz x3)), some (.ref b), some (.int (iz z)), some (.int (iz x6)), some (.int (iz c)), some (.int (iz 0)), some (.int (iz 1)), some (.int (iz ((u + 1 : Nat) : Int)))] [] (SS m5 J P) (QI post) := fun z m5 hz h5' kk => b_Reducer_reduce_128 x1 n1 x2 x3 b z x6 c 0 1 _ k1 b1 kb m5 J P hp post ⟨by constructor <;> omega, by rw [h5']; constructor <;> omega, fun _ => kk, fun _ => ⟨zr0, fun h => absurd rfl h, fun _ => ⟨zr1, fun _ => kk, fun h => absurd (by decide) h⟩⟩⟩
              refine c_contract (y := y) (wb := ww.reverse) (st := 1000 - (k : Int)) hp ko (by omega) (fun c' h => ⟨(hgd' c' h).1, (hgd' c' h).2.1⟩) s1 r3 r1 hD4 s3 hM4 hW4 s2 ⟨(F4 _ _ (by decide)).trans w2, by omega, by omega⟩ (by rw [F4 _ _ (by decide), w3, List.length_reverse, List.length_cons]; congr 1; omega) (by rw [List.length_reverse, List.length_cons]; omega) (fun hst => ⟨hp, ?_⟩) (fun hst hgr m5 v1 => ⟨hp, ?_⟩) (fun hst hle m5 v1 v2 v3 v4 v5 => ⟨hp, ?_⟩)
              · refine out (-3) m4 (by constructor <;> decide) hb5' (c_red_exit k1 b1 kb hp (Or.inr rfl) (by constructor <;> omega) (by rw [hW4.2.1, List.length_reverse]; constructor <;> omega) ?_)
                have hk0 : k = 0 := by omega
                rw [if_pos hk0] at hhit
                exact kq _ m4 hhit (Or.inr rfl) hf4
              · have hf5 : rdF m0 m5 := fun a k q1 q2 => (v1 a k (by omega) (by omega)).trans (hf4 a k q1 q2)
                rw [List.length_reverse] at hgr
                rw [if_neg (by omega), if_pos hgr] at hhit
                refine out (-2) m5 (by constructor <;> decide) ((v1 _ _ (by omega) (by omega)).trans hb5') ?_
                -- top may have any value: it was not touched
                exact c_red_exit k1 b1 kb hp (Or.inl rfl) (by constructor <;> omega) (by rw [v1 _ _ (by omega) (by decide), hW4.2.1, List.length_reverse]; constructor <;> omega) (kq _ m5 hhit (Or.inl rfl) hf5)
              · have hf5 : rdF m0 m5 := fun a k q1 q2 => (v5 a k q1 (by omega)).trans (hf4 a k q1 q2)
                rw [List.length_reverse] at hle
                rw [if_neg (by omega), if_neg (by omega)] at hhit
                have epl : ((sf σ (Rm u)).reverse ++ ww).map pl = (sb σ (Rm u)).reverse ++ ww.map pl := by
                  rw [List.map_append, List.map_reverse, sf_pl r6 (fun v h1 h2 x h3 => (hσ v h1 h2 x h3).2.1)]
                rw [← epl] at hhit
                rw [hhit] at k0 kq
                have elen : ((sf σ (Rm u)).reverse ++ ww).length = (sb σ (Rm u)).length + ww.length := by rw [List.length_append, List.length_reverse, sf_len]
                have e0 : (0 : Int) = 0 := rfl
                refine out 0 m5 zr0 ((v5 _ _ (by omega) (by omega)).trans hb5') ?_
                refine ih (k - 1) ((sf σ (Rm u)).reverse ++ ww) y m5 (x6 + 1) (by rw [elen]; omega) (by omega) (by rw [elen]; omega) (by omega) (by rw [List.reverse_append, List.reverse_reverse]; exact v2) v1 (by rw [v3]; omega) (by rw [v4, List.length_append, List.length_append, List.length_reverse, List.length_reverse]; congr 1; omega) (by rw [elen]; omega) ?_ ?_ ?_ ?_ (fun c' h => hgd' c' (by rw [s2]; exact List.mem_append_right _ h)) hf5 k0 kq
                · refine FlI_new hR (by omega) hF (by omega) hN s1 (fun v h1 h2 x h3 => (hσ v h1 h2 x h3).2.1) ?_
                  rw [← c2]; exact s2
                · refine dnN_suf (x := (sb σ (Lm u)).tail) ?_
                  have e5 : sb σ (Lm u) ≠ [] := fun h0 => by
                    have := ct_sb ayw_v s1 r1
                    rw [h0] at this
                    exact absurd (ct_nil.mp this) (by decide)
                  cases h7 : sb σ (Lm u) with
                  | nil => exact absurd h7 e5
                  | cons s t =>
                    rw [h7] at s2
                    injection s2 with _ s2
                    have s2' : dn = t ++ y := s2
                    rw [List.tail_cons, ← s2']
                    exact hN
                · have e5 : (((sf σ (Rm u)).reverse ++ ww).map pl).reverse ++ y = (ww.map pl).reverse ++ (sb σ (Rm u) ++ y) := by rw [epl]; simp
                  rw [e5, ← hC, s2]
                  obtain ⟨jy, hjy⟩ := ct_suf (by rw [← s2]; exact hjc)
                  exact ct_rep (by rw [ct_app hjy (ct_sb ayw_v s1 r2), ct_app hjy (ct_sb ayw_v s1 r1)]) _
                · intro c' h
                  rcases List.mem_append.mp h with h | h
                  · rw [List.mem_reverse] at h
                    unfold sf at h
                    refine sb_all (Q := gw sc) (fun c'' h1 h2 => gw_gp (hRg u (by omega) c'' h1)) (fun v h1 h2 x h3 => ?_) c' h
                    obtain ⟨x', h4, h5⟩ := List.mem_map.mp h3
                    rw [← h5]
                    exact gw_fg hs (hσ v h1 h2 x' h4)
                  · exact hgw c' (List.mem_cons_of_mem _ h)
            · exact jh (u + 1) m4 (by omega) (fun w hw => by
                by_cases e : w = u
                · rw [e]; exact hno'
                · exact hno w (by omega)) (fun a k h => (s4 a k h).trans (hf3 a k h))
        exact rules N 0 m2 (by omega) (fun w h => absurd h (Nat.not_lt_zero _)) (fun _ _ _ => rfl)
      · -- flagged
        have hnone := FlI_top hR hF c1
        have ez : zand c 31 = pl c := by rw [zand_31 ⟨by omega, c1'⟩, c2]; omega
        refine ⟨by omega, zc, fun h => absurd h (by omega), fun _ => ⟨zc, fun h => absurd h (by omega), fun _ => ⟨zc, fun _ => ?_, fun h => absurd (by omega) h⟩⟩⟩
        rw [ez]
        exact hcD (fun m2 g1 g2 => ⟨hp, skip m2 hnone g1 g2⟩)
end RDE
