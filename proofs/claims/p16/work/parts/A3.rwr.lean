/-! the reference: clearNumbers(), write() -/
section RWR
variable {X : aX} {d : Nat} {P : Mp} {J : Mj} {m m' : Mi} {cd : Nat → Int} {nx : Nat → Nat} {ay : Int → Nat} {n : Nat} {mk : Nat → Int} {np R rn T : Nat → Nat} {B K : Nat}
theorem nbr_seen : ∀ {l seen : List Int}, (nbr seen l).2.length ≤ seen.length + l.length
  | [], seen => Nat.le_add_right _ _
  | v :: l, seen => by
    have h1 := nbr_seen (l := l) (seen := seen)
    have h2 := nbr_seen (l := l) (seen := seen ++ [v])
    rw [List.length_append, List.length_singleton] at h2
    rw [nbr, List.length_cons]
    split
    · dsimp only; omega
    · split
      · dsimp only; omega
      · dsimp only; omega
/-- numbers as the reference keeps them -/
def NBM (cd : Nat → Int) (n : Nat) (np : Nat → Nat) (seen : List Int) (m : Mi) : Prop := m 262 86 = (seen.length : Int) ∧ ∀ z, Ocr cd n z → 880 ≤ z → m 306 (np z) = if (879 - (z : Int)) ∈ seen then (ixo (879 - (z : Int)) seen : Int) else -1
theorem NBM_fr {seen : List Int} (h : NBM cd n np seen m) (f0 : m' 262 86 = m 262 86) (f : ∀ k, m' 306 k = m 306 k) : NBM cd n np seen m' := ⟨f0.trans h.1, fun z h1 h2 => by rw [f]; exact h.2 z h1 h2⟩
/-- parts that are to be written, the next one first -/
def STQ (np : Nat → Nat) (m : Mi) : List (Nat × Bool) → Prop
  | [] => True
  | e :: st => (m 317 st.length = (np e.1 : Int) ∧ m 318 st.length = b2i e.2) ∧ STQ np m st
theorem STQ_fr : ∀ {st : List (Nat × Bool)}, STQ np m st → (∀ k, k < st.length → m' 317 k = m 317 k ∧ m' 318 k = m 318 k) → STQ np m' st
  | [], _, _ => trivial
  | e :: st, h, f => by
    rw [List.length_cons] at f
    exact ⟨⟨(f _ (by omega)).1.trans h.1.1, (f _ (by omega)).2.trans h.1.2⟩, STQ_fr h.2 fun k hk => f k (by omega)⟩
/-- what write() may change -/
def wrF (x6 x7 : Nat) (m m' : Mi) : Prop := ∀ b k, b ≠ 317 → b ≠ 318 → b ≠ 306 → ¬ (b = 262 ∧ k = 86) → ¬ (b = x6 ∧ x7 ≤ k) → m' b k = m b k
theorem wrF_trans {x6 x7 : Nat} {m'' : Mi} (h : wrF x6 x7 m m') (h2 : wrF x6 x7 m' m'') : wrF x6 x7 m m'' := fun b k g1 g2 g3 g4 g5 => (h2 b k g1 g2 g3 g4 g5).trans (h b k g1 g2 g3 g4 g5)
/-- clearNumbers() -/
theorem r_clearNumbers (hp : PP P) (hK : m 262 74 = (K : Int)) (hK2 : K ≤ 2000) (hR : ∀ z, Ocr cd n z → np z < K) {post : Mi → Mj → Mp → Prop} (k : ∀ m', NBM cd n np [] m' → (∀ b k, b ≠ 306 → ¬ (b = 262 ∧ k = 86) → m' b k = m b k) → post m' J P) : Cv X d 171 [.ref 262] m J P post := by
  refine Cv.of rfl rfl rfl (b_Mdl_clearNumbers_0 m J P hp post ?_)
  have loop : ∀ (q v : Nat) (m1 : Mi), v + q = K → (∀ w, w < v → m1 306 w = -1) → m1 262 86 = 0 → (∀ b k, b ≠ 306 → ¬ (b = 262 ∧ k = 86) → m1 b k = m b k) → Rn X d 171 7 [some (.ref 262), some (.int (iz (v : Int)))] [] (SS m1 J P) (QV post) := by
    intro q
    induction q with
    | zero =>
      intro v m1 hv h1 h2 hF
      have h3 : m1 262 74 = (K : Int) := (hF _ _ (by decide) (by decide)).trans hK
      refine b_Mdl_clearNumbers_7 v m1 J P hp post ⟨by constructor <;> omega, by rw [h3]; constructor <;> omega, fun _ => k m1 ⟨h2, fun z hz _ => ?_⟩ hF, fun g => absurd (by rw [h3]; omega) g⟩
      rw [if_neg List.not_mem_nil]
      exact h1 _ (by have := hR z hz; omega)
    | succ q ih =>
      intro v m1 hv h1 h2 hF
      have h3 : m1 262 74 = (K : Int) := (hF _ _ (by decide) (by decide)).trans hK
      have ev : ((v : Nat) : Int).toNat = v := by omega
      have en : ((v : Nat) : Int) + 1 = ((v + 1 : Nat) : Int) := by omega
      refine b_Mdl_clearNumbers_7 v m1 J P hp post ⟨by constructor <;> omega, by rw [h3]; constructor <;> omega, fun g => absurd g (by rw [h3]; omega), fun _ => ⟨by omega, ?_⟩⟩
      rw [ev, en]
      refine ih (v + 1) _ (by omega) (fun w hw => ?_) ((mu_ne _ _ (by omega)).trans h2) (fun b k g1 g2 => (mu_ne _ _ (by omega)).trans (hF b k g1 g2))
      by_cases e : w = v
      · rw [e, mu_at]
      · rw [mu_ne _ _ (by omega)]; exact h1 w (by omega)
  exact loop K 0 _ (by omega) (fun w hw => absurd hw (Nat.not_lt_zero _)) (mu_at _ _ _ _) (fun b k g1 g2 => mu_ne _ _ (by omega))
/-- ARGUMENTS are put aside -/
theorem r_push {c x6 nx6 x7 s0 : Nat} {x1 x2 x3 x4 x5 x12 : Int} {w : Bool} (hp : PP P) (k6 : am_kd an_K x6 = some (.inr (0, nx6))) (b6 : nx6 ≤ 100000) (hc : np c < 2000) {post : Int → Mi → Mj → Mp → Prop} : ∀ (q : Nat) (st : List (Nat × Bool)) (m : Mi), q ≤ 4 → STQ np m st → st.length + q ≤ 2000 → (∀ j, j < q → m 307 (4 * np c + j) = (np (ptc cd (kid nx (c + 1) j)) : Int)) → (∀ m', STQ np m' (pkids cd nx c w q ++ st) → (∀ b k, b ≠ 317 → b ≠ 318 → m' b k = m b k) → Rn X (d + 1) 172 29 [some (.ref 262), some (.int (iz x1)), some (.int (iz x2)), some (.int (iz x3)), some (.int (iz x4)), some (.int (iz x5)), some (.ref x6), some (.int (iz (x7 : Int))), some (.int (iz ((pkids cd nx c w q ++ st).length : Int))), some (.int (iz ((s0 : Int) + 1))), none, none, none, none] [] (SS m' J P) (QI post)) → Rn X (d + 1) 172 234 [some (.ref 262), some (.int (iz x1)), some (.int (iz x2)), some (.int (iz x3)), some (.int (iz x4)), some (.int (iz x5)), some (.ref x6), some (.int (iz (x7 : Int))), some (.int (iz (st.length : Int))), some (.int (iz (s0 : Int))), some (.int (iz (np c : Int))), some (.int (iz (b2i w))), some (.int (iz x12)), some (.int (iz ((q : Int) - 1)))] [] (SS m J P) (QI post) := by
  intro q
  induction q with
  | zero =>
    intro st m hq hS hl hg k
    have := k m hS (fun _ _ _ _ => rfl)
    have e : (pkids cd nx c w 0 ++ st) = st := rfl
    rw [e] at this
    exact b_Mdl_write_234 x1 x2 x3 x4 x5 x6 nx6 x7 _ s0 _ _ x12 _ k6 b6 m J P hp post ⟨by constructor <;> omega, fun _ => this, fun g => absurd (by omega) g⟩
  | succ q ih =>
    intro st m hq hS hl hg k
    have e1 : ((q + 1 : Nat) : Int) - 1 = (q : Int) := by omega
    have e2 : ((4 * (np c : Int)) + (q : Int)).toNat = 4 * np c + q := by omega
    have e3 : ((st.length : Nat) : Int).toNat = st.length := by omega
    have e4 : ((q : Nat) : Int) + (-1) = (q : Int) - 1 := by omega
    have ep : pkids cd nx c w (q + 1) ++ st = pkids cd nx c w q ++ ((ptc cd (kid nx (c + 1) q), w) :: st) := by
      unfold pkids
      rw [kids, List.map_append, List.append_assoc]
      rfl
    have hgq := hg q (by omega)
    rw [e1]
    have next : ∀ m2, STQ np m2 ((ptc cd (kid nx (c + 1) q), w) :: st) → (∀ b k, b ≠ 317 → b ≠ 318 → m2 b k = m b k) → Rn X (d + 1) 172 234 [some (.ref 262), some (.int (iz x1)), some (.int (iz x2)), some (.int (iz x3)), some (.int (iz x4)), some (.int (iz x5)), some (.ref x6), some (.int (iz (x7 : Int))), some (.int (iz ((st.length : Int) + 1))), some (.int (iz (s0 : Int))), some (.int (iz (np c : Int))), some (.int (iz (b2i w))), some (.int (iz x12)), some (.int (iz ((q : Int) + (-1))))] [] (SS m2 J P) (QI post) := by
      intro m2 w1 w2
      have := ih ((ptc cd (kid nx (c + 1) q), w) :: st) m2 (by omega) w1 (by rw [List.length_cons]; omega) (fun j hj => (w2 _ _ (by decide) (by decide)).trans (hg j (by omega))) (fun m' v1 v2 => by
        rw [← ep] at v1 ⊢
        exact k m' v1 fun b k q1 q2 => (v2 b k q1 q2).trans (w2 b k q1 q2))
      rw [List.length_cons] at this
      rw [e4]
      exact this
    refine b_Mdl_write_234 x1 x2 x3 x4 x5 x6 nx6 x7 _ s0 _ _ x12 _ k6 b6 m J P hp post ⟨by constructor <;> omega, fun g => absurd g (by omega), fun _ => ⟨by omega, by omega, ?_⟩⟩
    rw [e2, e3, hgq]
    cases w with
    | false =>
      have z0 : b2i false = 0 := rfl
      rw [z0] at next ⊢
      exact ⟨zr0, fun _ => ⟨by omega, next _ ⟨⟨by rw [mu_ne _ _ (by omega)]; exact mu_at _ _ _ _, mu_at _ _ _ _⟩, STQ_fr hS fun k hk => ⟨by rw [mu_ne _ _ (by omega), mu_ne _ _ (by omega)], by rw [mu_ne _ _ (by omega), mu_ne _ _ (by omega)]⟩⟩ (fun b k q1 q2 => by rw [mu_ne _ _ (by omega), mu_ne _ _ (by omega)])⟩, fun g => absurd rfl g⟩
    | true =>
      have z0 : b2i true = 1 := rfl
      rw [z0] at next ⊢
      exact ⟨zr1, fun g => absurd g (by decide), fun _ => ⟨by omega, next _ ⟨⟨by rw [mu_ne _ _ (by omega)]; exact mu_at _ _ _ _, mu_at _ _ _ _⟩, STQ_fr hS fun k hk => ⟨by rw [mu_ne _ _ (by omega), mu_ne _ _ (by omega)], by rw [mu_ne _ _ (by omega), mu_ne _ _ (by omega)]⟩⟩ (fun b k q1 q2 => by rw [mu_ne _ _ (by omega), mu_ne _ _ (by omega)])⟩⟩
theorem pkids_len {c : Nat} {w : Bool} {k : Nat} : (pkids cd nx c w k).length = k := by unfold pkids; rw [List.length_map, kids_len]
theorem pkids_mem {c : Nat} {w : Bool} {k : Nat} {e : Nat × Bool} (h : e ∈ pkids cd nx c w k) : ∃ i, i < k ∧ e.1 = ptc cd (kid nx (c + 1) i) := by
  obtain ⟨a, h1, h2⟩ := List.mem_map.mp h
  obtain ⟨i, hi, e1⟩ := List.mem_iff_getElem.mp h1
  rw [kids_get] at e1
  rw [kids_len] at hi
  exact Exists.intro i ⟨hi, by rw [← h2, ← e1]⟩
theorem r_write_29 {hole patch lim x6 nx6 x7 : Nat} {x1 x2 x3 x4 am : Int} {seen0 : List Int} (hp : PP P) (k6 : am_kd an_K x6 = some (.inr (0, nx6))) (b6 : nx6 ≤ 100000) (hx6 : x6 = 319 ∨ x6 = 320 ∨ x6 = 337) (hx7 : x7 + lim ≤ nx6) (hl200 : lim ≤ 200) (hse : seen0.length ≤ 10000) (hG : Gok ay cd nx n) (hK : K ≤ 2000) (hhole : ∀ z, Ocr cd n z → ((np z : Int) = x2 ↔ z = hole)) (zx2 : Zr x2) (hpatch : Ocr cd n hole → patch < n ∧ x3 = (np (ptc cd patch) : Int)) (ham : am = 0 ∨ am = 1) (hmk : ∀ c, 0 ≤ mk c) {m0 : Mi} (ha0 : m0 262 87 = am) (hL0 : RLk cd n np R rn T B K m0) (hR0 : RGr ay cd nx mk np n K m0) (hA0 : ARr ay cd n m0) {W : Option (List Int)} {post : Int → Mi → Mj → Mp → Prop} (k1 : ∀ l, W = some l → ∀ m', Ro m' x6 x7 (nbr seen0 l).1 → NBM cd n np (nbr seen0 l).2 m' → wrF x6 x7 m0 m' → post (l.length : Nat) m' J P) (k0 : W = none → ∀ m' seen', NBM cd n np seen' m' → seen'.length ≤ seen0.length + 200 → wrF x6 x7 m0 m' → post (-1) m' J P) : ∀ (f : Nat) (st : List (Nat × Bool)) (l : List Int) (m : Mi), ((pq ay cd nx R mk am hole patch f st).map fun r => l ++ r) = W → l.length + f = lim → st.length ≤ 4 * l.length + 1 → (∀ e, e ∈ st → Ocr cd n e.1) → Ro m x6 x7 (nbr seen0 l).1 → NBM cd n np (nbr seen0 l).2 m → STQ np m st → wrF x6 x7 m0 m → Rn X (d + 1) 172 29 [some (.ref 262), some (.int (iz x1)), some (.int (iz x2)), some (.int (iz x3)), some (.int (iz x4)), some (.int (iz (lim : Int))), some (.ref x6), some (.int (iz (x7 : Int))), some (.int (iz (st.length : Int))), some (.int (iz (l.length : Int))), none, none, none, none] [] (SS m J P) (QI post) := by
  have h880 := hG.1
  have h6 : 318 < x6 := by rcases hx6 with h | h | h <;> rw [h] <;> decide
  intro f
  induction f with
  | zero =>
    intro st l m hW hlf hst hel hM hN hS hF
    cases st with
    | nil =>
      have hW' : W = some l := by rw [← hW, pq]; simp
      exact b_Mdl_write_29 x1 x2 x3 x4 lim x6 nx6 x7 _ l.length k6 b6 m J P hp post ⟨zr0, fun _ => k1 l hW' m hM hN hF, fun g => absurd (Int.le_refl _) g⟩
    | cons e st =>
      have hW' : W = none := by rw [← hW]; rfl
      exact b_Mdl_write_29 x1 x2 x3 x4 lim x6 nx6 x7 _ l.length k6 b6 m J P hp post ⟨by rw [List.length_cons] at hst ⊢; constructor <;> omega, fun g => absurd g (by rw [List.length_cons]; omega), fun _ => ⟨by constructor <;> omega, by constructor <;> omega, fun g => absurd (by omega) g, fun _ => k0 hW' m (nbr seen0 l).2 hN (by have := nbr_seen (l := l) (seen := seen0); omega) hF⟩⟩
  | succ f ih =>
    intro st l m hW hlf hst hel hM hN hS hF
    cases st with
    | nil =>
      have hW' : W = some l := by rw [← hW, pq]; simp
      exact b_Mdl_write_29 x1 x2 x3 x4 lim x6 nx6 x7 _ l.length k6 b6 m J P hp post ⟨zr0, fun _ => k1 l hW' m hM hN hF, fun g => absurd (Int.le_refl _) g⟩
    | cons e st =>
      obtain ⟨z, w⟩ := e
      have hz : Ocr cd n z := hel (z, w) List.mem_cons_self
      have hel' : ∀ e, e ∈ st → Ocr cd n e.1 := fun e he => hel e (List.mem_cons_of_mem _ he)
      rw [List.length_cons] at hst
      obtain ⟨⟨hS1, hS2⟩, hS3⟩ := hS
      change m 317 st.length = (np z : Int) at hS1
      change m 318 st.length = b2i w at hS2
      rw [pq] at hW
      have fr : ∀ b k, b ≠ 317 → b ≠ 318 → b ≠ 306 → ¬ (b = 262 ∧ k = 86) → b < 318 → m b k = m0 b k := fun b k g1 g2 g3 g4 g5 => hF b k g1 g2 g3 g4 (by omega)
      have hR : RGr ay cd nx mk np n K m := RGr_fr hR0 (fr _ _ (by decide) (by decide) (by decide) (by decide) (by decide)) (fun k => fr _ _ (by decide) (by decide) (by decide) (by omega) (by decide)) (fun k => fr _ _ (by decide) (by decide) (by decide) (by omega) (by decide)) (fun k => fr _ _ (by decide) (by decide) (by decide) (by omega) (by decide))
      have hL : RLk cd n np R rn T B K m := RLk_fr hL0 (fun k => fr _ _ (by decide) (by decide) (by decide) (by omega) (by decide))
      have hA : ARr ay cd n m := fun c hc h0 => ⟨(hA0 c hc h0).1, (fr _ _ (by decide) (by decide) (by decide) (by omega) (by decide)).trans (hA0 c hc h0).2⟩
      have haM : m 262 87 = am := (fr _ _ (by decide) (by decide) (by decide) (by decide) (by decide)).trans ha0
      have e1 : ((st.length + 1 : Nat) : Int) + (-1) = (st.length : Int) := by omega
      have e2 : ((st.length : Nat) : Int).toNat = st.length := by omega
      have e5 : ((x7 : Int) + (l.length : Int)).toNat = x7 + l.length := by omega
      have e6 : ((l.length : Nat) : Int) + 1 = ((l.length + 1 : Nat) : Int) := by omega
      have hnl : (nbr seen0 l).1.length = l.length := nbr_len
      have hsl := nbr_seen (l := l) (seen := seen0)
      -- what is written of a SYMBOL
      have sym : ∀ (y : Nat) (w' : Bool) (kk : Int), Ocr cd n y → y < 880 → 0 ≤ kk → ((pq ay cd nx R mk am hole patch f (pkids cd nx y w' (ay (cd y)) ++ st)).map fun r => (l ++ [syc cd y + 64 * kk]) ++ r) = W → Rn X (d + 1) 172 136 [some (.ref 262), some (.int (iz x1)), some (.int (iz x2)), some (.int (iz x3)), some (.int (iz x4)), some (.int (iz (lim : Int))), some (.ref x6), some (.int (iz (x7 : Int))), some (.int (iz (st.length : Int))), some (.int (iz (l.length : Int))), some (.int (iz (np y : Int))), some (.int (iz (b2i w'))), some (.int (iz kk)), none] [] (SS m J P) (QI post) := by
        intro y w' kk hy hy8 hkk hW2
        obtain ⟨hyK, hys, _⟩ := RGr_sym hG hR hy
        obtain ⟨hyn, hy0, hsy⟩ := hys hy8
        obtain ⟨hb16, har⟩ := hA y hyn hy0
        have h4 := (hG.2.2 y hyn).2.1
        have ey : ((np y : Nat) : Int).toNat = np y := by omega
        refine b_Mdl_write_136 x1 x2 x3 x4 lim x6 nx6 x7 _ l.length _ _ kk k6 b6 m J P hp post ⟨by omega, ?_⟩
        rw [ey, hsy, e5]
        refine ⟨by constructor <;> omega, fun _ => ⟨by omega, by omega, by omega, ?_⟩, fun g => absurd hb16.1 g⟩
        rw [mu_ne _ _ (by omega), hsy, mu_ne _ _ (by omega), har]
        refine ⟨hb16, ?_⟩
        refine r_push hp k6 b6 (by omega) (ay (cd y)) st _ h4 (STQ_fr hS3 fun k hk => ⟨mu_ne _ _ (by omega), mu_ne _ _ (by omega)⟩) (by omega) (fun j hj => (mu_ne _ _ (by omega)).trans (hR.2.2.2.2.2 y hyn hy0 j hj)) (fun m' v1 v2 => ?_)
        have v0 : 0 ≤ syc cd y + 64 * kk := by omega
        have er : nbr seen0 (l ++ [syc cd y + 64 * kk]) = ((nbr seen0 l).1 ++ [syc cd y + 64 * kk], (nbr seen0 l).2) := by
          rw [nbr_app, nbr, if_pos v0]
          rfl
        rw [e6]
        have := ih (pkids cd nx y w' (ay (cd y)) ++ st) (l ++ [syc cd y + 64 * kk]) m' hW2 (by rw [List.length_append, List.length_singleton]; omega) (by rw [List.length_append, List.length_append, List.length_singleton, pkids_len]; omega) (fun e he => ?_) (by
          rw [er]
          refine Ro_app.mpr ⟨Ro_fr hM fun k _ hk => ?_, ?_, trivial⟩
          · rw [v2 _ _ (by omega) (by omega), mu_ne _ _ (by omega)]
          · rw [v2 _ _ (by omega) (by omega), hnl]; exact mu_at _ _ _ _) (by
          rw [er]
          exact NBM_fr hN ((v2 _ _ (by decide) (by decide)).trans (mu_ne _ _ (by omega))) (fun k => (v2 _ _ (by decide) (by decide)).trans (mu_ne _ _ (by omega)))) v1 (wrF_trans hF fun b k q1 q2 q3 q4 q5 => (v2 b k q1 q2).trans (mu_ne _ _ (by omega)))
        · rw [show (l ++ [syc cd y + 64 * kk]).length = l.length + 1 by rw [List.length_append, List.length_singleton]] at this
          exact this
        · rcases List.mem_append.mp he with he | he
          · obtain ⟨i, hi, e⟩ := pkids_mem he
            rw [e]
            exact ocr_mk (G_kid hG hyn hi).2.1 rfl
          · exact hel' e he
      -- a VARIABLE is written
      have var : ∀ (y : Nat) (x11 kk : Int), Ocr cd n y → 880 ≤ y → ((pq ay cd nx R mk am hole patch f st).map fun r => (l ++ [879 - (y : Int)]) ++ r) = W → Rn X (d + 1) 172 136 [some (.ref 262), some (.int (iz x1)), some (.int (iz x2)), some (.int (iz x3)), some (.int (iz x4)), some (.int (iz (lim : Int))), some (.ref x6), some (.int (iz (x7 : Int))), some (.int (iz (st.length : Int))), some (.int (iz (l.length : Int))), some (.int (iz (np y : Int))), some (.int (iz x11)), some (.int (iz kk)), none] [] (SS m J P) (QI post) := by
        intro y x11 kk hy hy8 hW2
        obtain ⟨hyK, _, hys⟩ := RGr_sym hG hR hy
        have hsy := hys hy8
        have hnum := hN.2 y hy hy8
        have hnn := hN.1
        have ey : ((np y : Nat) : Int).toNat = np y := by omega
        have v0 : ¬ (0 : Int) ≤ 879 - (y : Int) := by omega
        -- behind the writing
        have go : ∀ (m' : Mi) (v : Int), nbr seen0 (l ++ [879 - (y : Int)]) = ((nbr seen0 l).1 ++ [v], (nbr seen0 (l ++ [879 - (y : Int)])).2) → m' x6 (x7 + l.length) = v → (∀ k, k < x7 + l.length → m' x6 k = m x6 k) → NBM cd n np (nbr seen0 (l ++ [879 - (y : Int)])).2 m' → (∀ k, m' 317 k = m 317 k ∧ m' 318 k = m 318 k) → wrF x6 x7 m m' → Rn X (d + 1) 172 29 [some (.ref 262), some (.int (iz x1)), some (.int (iz x2)), some (.int (iz x3)), some (.int (iz x4)), some (.int (iz (lim : Int))), some (.ref x6), some (.int (iz (x7 : Int))), some (.int (iz (st.length : Int))), some (.int (iz ((l.length : Int) + 1))), none, none, none, none] [] (SS m' J P) (QI post) := by
          intro m' v er w1 w2 w3 w4 w5
          rw [e6]
          have := ih st (l ++ [879 - (y : Int)]) m' hW2 (by rw [List.length_append, List.length_singleton]; omega) (by rw [List.length_append, List.length_singleton]; omega) hel' (by
            rw [er]
            refine Ro_app.mpr ⟨Ro_fr hM fun k _ hk => w2 k (by omega), ?_, trivial⟩
            rw [hnl]; exact w1) w3 (STQ_fr hS3 fun k _ => w4 k) (wrF_trans hF w5)
          rw [List.length_append, List.length_singleton] at this
          exact this
        refine b_Mdl_write_136 x1 x2 x3 x4 lim x6 nx6 x7 _ l.length _ x11 kk k6 b6 m J P hp post ⟨by omega, ?_⟩
        rw [ey, hsy, e5, hnum]
        refine ⟨zrm, fun g => absurd g (by decide), fun _ => ⟨by omega, ?_⟩⟩
        by_cases g : (879 - (y : Int)) ∈ (nbr seen0 l).2
        · rw [if_pos g]
          have hix := ixo_lt g
          refine ⟨by constructor <;> omega, fun _ => ⟨by omega, by omega, ?_⟩, fun q => absurd (by omega) q⟩
          have en : nbr seen0 (l ++ [879 - (y : Int)]) = ((nbr seen0 l).1 ++ [-1 - (ixo (879 - (y : Int)) (nbr seen0 l).2 : Int)], (nbr seen0 l).2) := by
            rw [nbr_app, nbr, if_neg v0, if_pos g]
            rfl
          refine go _ (-1 - (ixo (879 - (y : Int)) (nbr seen0 l).2 : Int)) (by rw [en]) (mu_at _ _ _ _) (fun k hk => mu_ne _ _ (by omega)) ?_ (fun k => ⟨mu_ne _ _ (by omega), mu_ne _ _ (by omega)⟩) (fun b k q1 q2 q3 q4 q5 => mu_ne _ _ (by omega))
          rw [en]
          exact NBM_fr hN (mu_ne _ _ (by omega)) (fun k => mu_ne _ _ (by omega))
        · rw [if_neg g]
          refine ⟨zrm, fun q => absurd q (by decide), fun _ => ⟨by omega, by omega, by omega, ?_⟩⟩
          have en : nbr seen0 (l ++ [879 - (y : Int)]) = ((nbr seen0 l).1 ++ [-1 - ((nbr seen0 l).2.length : Int)], (nbr seen0 l).2 ++ [879 - (y : Int)]) := by
            rw [nbr_app, nbr, if_neg v0, if_neg g]
            rfl
          refine go _ (-1 - ((nbr seen0 l).2.length : Int)) (by rw [en]) ?_ (fun k hk => ?_) ?_ (fun k => ⟨?_, ?_⟩) (fun b k q1 q2 q3 q4 q5 => ?_)
          · rw [mu_at, mu_ne _ _ (by omega), mu_at, hnn]
          · rw [mu_ne _ _ (by omega), mu_ne _ _ (by omega), mu_ne _ _ (by omega)]
          · rw [en]
            refine ⟨?_, fun z' hz' hz8 => ?_⟩
            · rw [mu_ne _ _ (by omega), mu_at, mu_ne _ _ (by omega), hnn, List.length_append, List.length_singleton]
              rfl
            · rw [mu_ne _ _ (by omega), mu_ne _ _ (by omega)]
              by_cases e : z' = y
              · rw [e, mu_at, hnn, if_pos (by simp), ixo_new g]
              · rw [mu_ne _ _ (fun q => e (RGr_inj hR hz' hy q.2)), hN.2 z' hz' hz8]
                by_cases q2 : (879 - (z' : Int)) ∈ (nbr seen0 l).2
                · rw [if_pos q2, if_pos (List.mem_append_left _ q2), ixo_app q2]
                · rw [if_neg q2, if_neg (fun q3 => by
                    rcases List.mem_append.mp q3 with q3 | q3
                    · exact q2 q3
                    · have := List.mem_singleton.mp q3
                      omega)]
          · rw [mu_ne _ _ (by omega), mu_ne _ _ (by omega), mu_ne _ _ (by omega)]
          · rw [mu_ne _ _ (by omega), mu_ne _ _ (by omega), mu_ne _ _ (by omega)]
          · rw [mu_ne _ _ (by omega), mu_ne _ _ (by omega), mu_ne _ _ (by omega)]
      -- what a VARIABLE stands for, or what came for one
      have whole : ∀ (y : Nat), Ocr cd n y → (if 880 ≤ R y then (pq ay cd nx R mk am hole patch f st).map fun l => (879 - (R y : Int)) :: l else (pq ay cd nx R mk am hole patch f (pkids cd nx (R y) true (ay (cd (R y))) ++ st)).map fun l => (syc cd (R y) + 64 * am) :: l).map (fun r => l ++ r) = W → Ci X d 169 [.ref 262, .int (iz (np y : Int))] m J P (fun z6 m3 J4 P5 => PP P5 ∧ Zr (m3 262 87) ∧ (((m3 262 87 = 0) → Rn X (d + 1) 172 136 [some (.ref 262), some (.int (iz x1)), some (.int (iz x2)), some (.int (iz x3)), some (.int (iz x4)), some (.int (iz (lim : Int))), some (.ref x6), some (.int (iz (x7 : Int))), some (.int (iz (st.length : Int))), some (.int (iz (l.length : Int))), some (.int (iz z6)), some (.int (iz 1)), some (.int (iz 0)), none] [] (SS m3 J4 P5) (QI post)) ∧ (¬ (m3 262 87 = 0) → Rn X (d + 1) 172 136 [some (.ref 262), some (.int (iz x1)), some (.int (iz x2)), some (.int (iz x3)), some (.int (iz x4)), some (.int (iz (lim : Int))), some (.ref x6), some (.int (iz (x7 : Int))), some (.int (iz (st.length : Int))), some (.int (iz (l.length : Int))), some (.int (iz z6)), some (.int (iz 1)), some (.int (iz 1)), none] [] (SS m3 J4 P5) (QI post)))) := by
        intro y hy hW2
        obtain ⟨c, hc, ec⟩ := hy
        have hl := hL.2 c hc
        rw [ec] at hl
        have hyK := hR.2.1 c hc
        rw [ec] at hyK
        refine r_find hp hL hK hyK ⟨hp, ?_⟩
        rw [hl.1, haM]
        have both : ∀ kk : Int, kk = am → Rn X (d + 1) 172 136 [some (.ref 262), some (.int (iz x1)), some (.int (iz x2)), some (.int (iz x3)), some (.int (iz x4)), some (.int (iz (lim : Int))), some (.ref x6), some (.int (iz (x7 : Int))), some (.int (iz (st.length : Int))), some (.int (iz (l.length : Int))), some (.int (iz (np (R y) : Int))), some (.int (iz 1)), some (.int (iz kk)), none] [] (SS m J P) (QI post) := by
          intro kk ekk
          rw [ekk]
          by_cases g : 880 ≤ R y
          · rw [if_pos g] at hW2
            refine var (R y) 1 am hl.2 g ?_
            rw [← hW2]
            cases pq ay cd nx R mk am hole patch f st <;> simp
          · rw [if_neg g] at hW2
            refine sym (R y) true am hl.2 (by omega) (by omega) ?_
            rw [← hW2]
            cases pq ay cd nx R mk am hole patch f (pkids cd nx (R y) true (ay (cd (R y))) ++ st) <;> simp
        exact ⟨by rcases ham with h | h <;> rw [h] <;> (constructor <;> decide), fun g => both 0 g.symm, fun g => both 1 (by omega)⟩
      -- behind the choice
      have go : ∀ (y : Nat), Ocr cd n y → y = (if w = false ∧ z = hole then ptc cd patch else z) → Rn X (d + 1) 172 87 [some (.ref 262), some (.int (iz x1)), some (.int (iz x2)), some (.int (iz x3)), some (.int (iz x4)), some (.int (iz (lim : Int))), some (.ref x6), some (.int (iz (x7 : Int))), some (.int (iz (st.length : Int))), some (.int (iz (l.length : Int))), some (.int (iz (np y : Int))), some (.int (iz (b2i w))), none, none] [] (SS m J P) (QI post) := by
        intro y hy ey
        rw [← ey] at hW
        obtain ⟨hyK, hys, hyv⟩ := RGr_sym hG hR hy
        have en : ((np y : Nat) : Int).toNat = np y := by omega
        cases w with
        | true =>
          rw [if_pos (Or.inl rfl)] at hW
          have z1 : b2i true = 1 := rfl
          rw [z1]
          exact b_Mdl_write_87 x1 x2 x3 x4 lim x6 nx6 x7 _ l.length _ 1 k6 b6 m J P hp post ⟨by omega, zr1, fun _ => whole y hy hW, fun g => absurd (by decide) g⟩
        | false =>
          have z1 : b2i false = 0 := rfl
          rw [z1]
          refine b_Mdl_write_87 x1 x2 x3 x4 lim x6 nx6 x7 _ l.length _ 0 k6 b6 m J P hp post ⟨by omega, zr0, fun g => absurd rfl g, fun _ => ⟨by omega, ?_⟩⟩
          rw [en]
          by_cases g : 880 ≤ y
          · rw [if_pos (Or.inr g)] at hW
            rw [hyv g]
            exact ⟨zrm, fun q => absurd q (by decide), fun _ => whole y hy hW⟩
          · rw [if_neg (fun q => q.elim (fun q => by cases q) g)] at hW
            obtain ⟨hyn, hy0, hsy⟩ := hys (by omega)
            have hb16 := (hA y hyn hy0).1
            rw [hsy, (hR.2.2.2.1 y hyn hy0).2]
            refine ⟨by constructor <;> omega, fun _ => ?_, fun q => absurd hb16.1 q⟩
            refine sym y false (mk y) hy (by omega) (hmk y) ?_
            rw [← hW]
            cases pq ay cd nx R mk am hole patch f (pkids cd nx y false (ay (cd y)) ++ st) <;> simp
      have hzK := (RGr_sym hG hR hz).1
      refine b_Mdl_write_29 x1 x2 x3 x4 lim x6 nx6 x7 _ l.length k6 b6 m J P hp post ⟨by rw [List.length_cons]; constructor <;> omega, fun g => absurd g (by rw [List.length_cons]; omega), fun _ => ⟨by constructor <;> omega, by constructor <;> omega, fun _ => ⟨by rw [List.length_cons]; omega, by rw [List.length_cons]; omega, ?_⟩, fun g => absurd (by omega) g⟩⟩
      rw [List.length_cons, e1, e2, hS1, hS2]
      cases w with
      | true =>
        have z1 : b2i true = 1 := rfl
        rw [z1]
        have := go z hz (if_neg (fun g => by cases g.1)).symm
        rw [z1] at this
        exact ⟨zr1, fun g => absurd rfl g, fun _ => this⟩
      | false =>
        have z1 : b2i false = 0 := rfl
        rw [z1]
        refine ⟨zr0, fun _ => ⟨by constructor <;> omega, zx2, fun g => ?_, fun g => ?_⟩, fun g => absurd (by decide) g⟩
        · have := go z hz (if_neg (fun q => g ((hhole z hz).mpr q.2))).symm
          rw [z1] at this
          exact this
        · have ea := (hhole z hz).mp (Classical.not_not.mp g)
          rw [ea] at hz
          obtain ⟨p1, p2⟩ := hpatch hz
          have := go (ptc cd patch) (ocr_mk p1 rfl) (if_pos ⟨rfl, ea⟩).symm
          rw [z1, ← p2] at this
          exact this
/-- write() -/
theorem r_write {a0 hole patch lim x6 nx6 x7 : Nat} {x2 x3 am : Int} {w : Bool} {seen0 : List Int} (hp : PP P) (k6 : am_kd an_K x6 = some (.inr (0, nx6))) (b6 : nx6 ≤ 100000) (hx6 : x6 = 319 ∨ x6 = 320 ∨ x6 = 337) (hx7 : x7 + lim ≤ nx6) (hl200 : lim ≤ 200) (hse : seen0.length ≤ 10000) (hG : Gok ay cd nx n) (hK : K ≤ 2000) (hhole : ∀ z, Ocr cd n z → ((np z : Int) = x2 ↔ z = hole)) (zx2 : Zr x2) (hpatch : Ocr cd n hole → patch < n ∧ x3 = (np (ptc cd patch) : Int)) (ham : am = 0 ∨ am = 1) (hmk : ∀ c, 0 ≤ mk c) (ha0 : m 262 87 = am) (hL0 : RLk cd n np R rn T B K m) (hR0 : RGr ay cd nx mk np n K m) (hA0 : ARr ay cd n m) (ha : Ocr cd n a0) (hN : NBM cd n np seen0 m) {post : Int → Mi → Mj → Mp → Prop} (k1 : ∀ l, pq ay cd nx R mk am hole patch lim [(a0, w)] = some l → ∀ m', Ro m' x6 x7 (nbr seen0 l).1 → NBM cd n np (nbr seen0 l).2 m' → wrF x6 x7 m m' → post (l.length : Nat) m' J P) (k0 : pq ay cd nx R mk am hole patch lim [(a0, w)] = none → ∀ m' seen', NBM cd n np seen' m' → seen'.length ≤ seen0.length + 200 → wrF x6 x7 m m' → post (-1) m' J P) : Ci X (d + 1) 172 [.ref 262, .int (iz (np a0 : Int)), .int (iz x2), .int (iz x3), .int (iz (b2i w)), .int (iz (lim : Int)), .ref x6, .int (iz (x7 : Int))] m J P post := by
  have h6 : 318 < x6 := by rcases hx6 with h | h | h <;> rw [h] <;> decide
  have go : ∀ (m1 : Mi), m1 317 0 = (np a0 : Int) → m1 318 0 = b2i w → (∀ b k, b ≠ 317 → b ≠ 318 → m1 b k = m b k) → Rn X (d + 1) 172 29 [some (.ref 262), some (.int (iz (np a0 : Int))), some (.int (iz x2)), some (.int (iz x3)), some (.int (iz (b2i w))), some (.int (iz (lim : Int))), some (.ref x6), some (.int (iz (x7 : Int))), some (.int (iz 1)), some (.int (iz 0)), none, none, none, none] [] (SS m1 J P) (QI post) := by
    intro m1 w1 w2 w3
    have F1 : wrF x6 x7 m m1 := fun b k g1 g2 _ _ _ => w3 b k g1 g2
    exact r_write_29 (X := X) (d := d) (J := J) (m0 := m) (post := post) (W := pq ay cd nx R mk am hole patch lim [(a0, w)]) (x1 := (np a0 : Int)) (x4 := b2i w) hp k6 b6 hx6 hx7 hl200 hse hG hK hhole zx2 hpatch ham hmk ha0 hL0 hR0 hA0 k1 k0 lim [(a0, w)] [] m1 (by simp) (by simp) (by simp) (fun e he => by rw [List.mem_singleton.mp he]; exact ha) trivial (NBM_fr hN (w3 _ _ (by decide) (by decide)) (fun k => w3 _ _ (by decide) (by decide))) ⟨⟨w1, w2⟩, trivial⟩ F1
  cases w with
  | true =>
    refine Ci.of rfl rfl rfl (b_Mdl_write_0 _ x2 x3 1 lim x6 nx6 x7 k6 b6 m J P hp post ⟨by decide, zr1, fun g => absurd g (by decide), fun _ => ⟨by decide, go _ ?_ ?_ ?_⟩⟩)
    · rw [mu_ne _ _ (by decide)]; exact mu_at _ _ _ _
    · exact mu_at _ _ _ _
    · intro b k g1 g2; rw [mu_ne _ _ (by omega), mu_ne _ _ (by omega)]
  | false =>
    refine Ci.of rfl rfl rfl (b_Mdl_write_0 _ x2 x3 0 lim x6 nx6 x7 k6 b6 m J P hp post ⟨by decide, zr0, fun _ => ⟨by decide, go _ ?_ ?_ ?_⟩, fun g => absurd rfl g⟩)
    · rw [mu_ne _ _ (by decide)]; exact mu_at _ _ _ _
    · exact mu_at _ _ _ _
    · intro b k g1 g2; rw [mu_ne _ _ (by omega), mu_ne _ _ (by omega)]
end RWR
