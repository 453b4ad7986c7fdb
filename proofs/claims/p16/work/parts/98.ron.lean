/-! the reference: load() as called; find(), one(), isRing() -/
section RON
variable {X : aX} {d : Nat} {P : Mp} {J : Mj} {m m' : Mi} {cd : Nat → Int} {nx : Nat → Nat} {ay : Int → Nat} {n : Nat} {mk : Nat → Int} {np R rn T : Nat → Nat} {K B : Nat} {D : Nat → Prop}
/-- load() -/
theorem r_load {x1 n1 tb nt from_ base lim cs E : Nat} {x5 x3 : Int} {rw_ : Nat → Int} (hp : PP P) (k1 : am_kd an_K x1 = some (.inr (0, n1))) (b1 : n1 ≤ 100000) (kt : am_kd an_K tb = some (.inr (0, nt))) (bt : nt ≤ 100000) (htb : tb = 308 ∨ tb = 309) (hx1 : ¬ (302 ≤ x1 ∧ x1 ≤ 312)) (hx1' : x1 ≠ 262) (h5 : Zr x5) (hlim : lim ≤ nt) (hG : Gok ay cd nx n) (hcs : cs < n) (hE : nx cs = E) (hE2 : E - cs ≤ 200) (hx3 : x3 = ((from_ + (E - cs) : Nat) : Int)) (hn1 : from_ + (E - cs) ≤ n1) (hrw : ∀ q, cs ≤ q → q < E → RWk cd mk rw_ base lim x5 q) (hL : LDI ay cd nx mk np cs K D m) (hV : VTB cd tb base lim np cs m) (hD : DK ay cd nx D cs) (hrow : ∀ q, cs ≤ q → q < E → m x1 (from_ + (q - cs)) = rw_ q) (hAR : ARr ay cd n m) {post : Int → Mi → Mj → Mp → Prop} (k : ∀ np' K' m', LDI ay cd nx mk np' E K' (Dor D cs E) m' → VTB cd tb base lim np' E m' → DK ay cd nx (Dor D cs E) E → (∀ q, q < cs → np' (ptc cd q) = np (ptc cd q)) → (∀ q, cs ≤ q → q < E → m' 312 (q - cs) = (np' (ptc cd q) : Int)) → ldF tb m m' → post (np' (ptc cd cs) : Nat) m' J P) : Ci X (d + 1) 166 [.ref 262, .ref x1, .int (iz (from_ : Int)), .int (iz x3), .ref tb, .int (iz x5)] m J P post := by
  obtain ⟨⟨g1, g2, g3⟩, _⟩ := hG.2.2 cs hcs
  refine Ci.of rfl rfl rfl (b_Mdl_load_0 x1 n1 from_ x3 tb nt x5 k1 b1 kt bt m J P hp post ?_)
  have := r_lscan (X := X) (d := d) (J := J) (post := post) (E := E) (x3 := x3) (rw_ := rw_) hp k1 b1 kt bt htb hx1 hx1' h5 hlim hG ⟨by omega, by omega, hE2⟩ hx3 hn1 hrw (nx cs - cs) cs 0 K D np (-1) m 0 0 (Nat.le_refl _) hcs (Nat.le_refl _) (by omega) (fun h => absurd rfl h) (Nat.zero_le _) hL hV hD hrow hAR (fun h => absurd rfl h) (fun np' K' m' x9 x10 w1 w2 w3 w4 w5 w6 w7 w8 w9 w10 w11 w12 => ?_)
  · rw [Nat.sub_self, Nat.add_zero] at this
    exact this
  · rw [hE] at w1 w2 w3 w7
    rw [if_pos rfl]
    have hnp := w1.2.1 cs (by omega)
    have hK' := w1.1.1
    have e1 : ((from_ + (nx cs - 1 - cs) : Nat) : Int) + 1 = x3 := by rw [hx3]; omega
    refine b_Mdl_load_183 x1 n1 from_ x3 tb nt x5 _ _ _ x9 x10 k1 b1 kt bt m' J P hp post ⟨zr0, fun _ => ?_, fun h => absurd (by decide) h⟩
    rw [e1]
    have h880 := hG.1
    exact b_Mdl_load_9 x1 n1 from_ x3 tb nt x5 _ _ _ k1 b1 kt bt m' J P hp post ⟨by rw [hx3]; constructor <;> omega, by rw [hx3]; constructor <;> omega, fun _ => k np' K' m' w1 w2 w3 w4 w7 w12, fun h => absurd (Int.le_refl _) h⟩
/-- the graph in the reference's pool -/
def RGr (ay : Int → Nat) (cd : Nat → Int) (nx : Nat → Nat) (mk : Nat → Int) (np : Nat → Nat) (n K : Nat) (m : Mi) : Prop := (K ≤ n ∧ m 262 74 = (K : Int)) ∧ (∀ c, c < n → np (ptc cd c) < K) ∧ (∀ c c', c < n → c' < n → np (ptc cd c) = np (ptc cd c') → ptc cd c = ptc cd c') ∧ (∀ c, c < n → 0 ≤ cd c → m 302 (np c) = syc cd c ∧ m 304 (np c) = mk c) ∧ (∀ c, c < n → cd c < 0 → m 302 (np (ptc cd c)) = -1 ∧ m 304 (np (ptc cd c)) = 0) ∧ ∀ c, c < n → 0 ≤ cd c → ∀ j, j < ay (cd c) → m 307 (4 * np c + j) = (np (ptc cd (kid nx (c + 1) j)) : Int)
theorem RGr_fr (h : RGr ay cd nx mk np n K m) (f0 : m' 262 74 = m 262 74) (f1 : ∀ k, m' 302 k = m 302 k) (f2 : ∀ k, m' 304 k = m 304 k) (f3 : ∀ k, m' 307 k = m 307 k) : RGr ay cd nx mk np n K m' := by
  obtain ⟨a, b, c, d, e, g⟩ := h
  refine ⟨⟨a.1, f0.trans a.2⟩, b, c, fun q h1 h2 => ?_, fun q h1 h2 => ?_, fun q h1 h2 j hj => ?_⟩
  · rw [f1, f2]; exact d q h1 h2
  · rw [f1, f2]; exact e q h1 h2
  · rw [f3]; exact g q h1 h2 j hj
theorem RGr_of (h : LDI ay cd nx mk np n K D m) (hD : ∀ c, c < n → D c) : RGr ay cd nx mk np n K m := ⟨h.1, h.2.1, h.2.2.1, h.2.2.2.1, h.2.2.2.2.1, fun c hc h0 j hj => (h.2.2.2.2.2.1 c (hD c hc)).2 h0 j hj⟩
/-- the symbol of a part's node -/
theorem RGr_sym (hG : Gok ay cd nx n) (h : RGr ay cd nx mk np n K m) {z : Nat} (hz : Ocr cd n z) : np z < K ∧ (z < 880 → z < n ∧ 0 ≤ cd z ∧ m 302 (np z) = syc cd z) ∧ (880 ≤ z → m 302 (np z) = -1) := by
  obtain ⟨c, hc, e⟩ := hz
  subst e
  have h880 := hG.1
  refine ⟨h.2.1 c hc, fun g => ?_, fun g => ?_⟩
  · by_cases q : 0 ≤ cd c
    · rw [ptc_s q] at g ⊢
      exact ⟨hc, q, (h.2.2.2.1 c hc q).1⟩
    · have := ptc_v (cd := cd) (c := c) (by omega) (hG.2.2 c hc).2.2.1
      omega
  · by_cases q : 0 ≤ cd c
    · rw [ptc_s q] at g; omega
    · exact (h.2.2.2.2.1 c hc (by omega)).1
theorem RGr_inj (h : RGr ay cd nx mk np n K m) {z w : Nat} (hz : Ocr cd n z) (hw : Ocr cd n w) (e : np z = np w) : z = w := by
  obtain ⟨c, hc, e1⟩ := hz
  obtain ⟨c', hc', e2⟩ := hw
  rw [← e1, ← e2] at e ⊢
  exact h.2.2.1 c c' hc hc' e
/-- the links: rn where they lead, np (R z) for a part z -/
def RLk (cd : Nat → Int) (n : Nat) (np R rn T : Nat → Nat) (B K : Nat) (m : Mi) : Prop := (∀ k, k < K → (T k ≤ B ∧ rn k < K ∧ rn (rn k) = rn k ∧ m 303 (rn k) = -1) ∧ ((m 303 k = -1 ∧ rn k = k) ∨ ∃ l : Nat, m 303 k = (l : Int) ∧ l < K ∧ rn l = rn k ∧ T k < T l)) ∧ ∀ c, c < n → rn (np (ptc cd c)) = np (R (ptc cd c)) ∧ Ocr cd n (R (ptc cd c))
theorem RLk_fr (h : RLk cd n np R rn T B K m) (f : ∀ k, m' 303 k = m 303 k) : RLk cd n np R rn T B K m' := ⟨fun k hk => by rw [f, f]; exact h.1 k hk, h.2⟩
theorem r_find {k0 : Nat} (hp : PP P) (hL : RLk cd n np R rn T B K m) (hK : K ≤ 2000) (hk : k0 < K) {post : Int → Mi → Mj → Mp → Prop} (k : post (rn k0 : Nat) m J P) : Ci X d 169 [.ref 262, .int (iz (k0 : Int))] m J P post := by
  refine Ci.of rfl rfl rfl (b_Mdl_find_0 k0 m J P hp post ?_)
  have loop : ∀ (q w : Nat), B - T w < q → w < K → rn w = rn k0 → Rn X d 169 2 [some (.ref 262), some (.int (iz (k0 : Int))), some (.int (iz (w : Int)))] [] (SS m J P) (QI post) := by
    intro q
    induction q with
    | zero => intro w h; exact absurd h (Nat.not_lt_zero _)
    | succ q ih =>
      intro w hq hw hr
      have e1 : ((w : Nat) : Int).toNat = w := by omega
      obtain ⟨⟨g1, g2, g3, g4⟩, g5⟩ := hL.1 w hw
      refine b_Mdl_find_2 k0 w m J P hp post ⟨by omega, ?_⟩
      rw [e1]
      rcases g5 with ⟨g5, g6⟩ | ⟨l, g5, g6, g7, g8⟩
      · rw [g5]
        refine ⟨zrm, fun _ => ?_, fun h => absurd (by decide) h⟩
        have : w = rn k0 := by rw [← hr]; exact g6.symm
        rw [this]; exact k
      · rw [g5]
        have := (hL.1 l g6).1.1
        exact ⟨by constructor <;> omega, fun h => absurd h (by omega), fun _ => ⟨by omega, ih l (by omega) g6 (g7.trans hr)⟩⟩
  exact loop (B - T k0 + 1) k0 (by omega) hk rfl
theorem RLk_union (h : RLk cd n np R rn T B K m) (hR : RGr ay cd nx mk np n K m) {p q : Nat} (hp : Ocr cd n p) (hq : Ocr cd n q) (hpp : R p = p) (hqq : R q = q) (hpq : p ≠ q) (hpt : ∀ z, Ocr cd n z → ∃ c, c < n ∧ ptc cd c = z) : RLk cd n np (rep R p q) (fun k => if rn k = np p then np q else rn k) (fun k => if k = np q then B + 1 else T k) (B + 1) K (mu m 303 (np p) (np q : Int)) := by
  have rp : rn (np p) = np p := by
    obtain ⟨c, hc, e⟩ := hpt p hp
    have := (h.2 c hc).1
    rw [e, hpp] at this
    exact this
  have rq : rn (np q) = np q := by
    obtain ⟨c, hc, e⟩ := hpt q hq
    have := (h.2 c hc).1
    rw [e, hqq] at this
    exact this
  have hnp : np p ≠ np q := fun e => hpq (RGr_inj hR hp hq e)
  have lp : np p < K := by
    obtain ⟨c, hc, e⟩ := hpt p hp
    have := hR.2.1 c hc
    rw [e] at this; exact this
  have lq : np q < K := by
    obtain ⟨c, hc, e⟩ := hpt q hq
    have := hR.2.1 c hc
    rw [e] at this; exact this
  refine ⟨fun k hk => ?_, fun c hc => ?_⟩
  · obtain ⟨⟨g1, g2, g3, g4⟩, g5⟩ := h.1 k hk
    have gq := (h.1 (np q) lq).1
    refine ⟨⟨?_, ?_, ?_, ?_⟩, ?_⟩
    · dsimp only; split <;> omega
    · dsimp only; split
      · exact lq
      · exact g2
    · dsimp only
      by_cases e : rn k = np p
      · rw [if_pos e, rq, if_neg (fun e => hnp e.symm)]
      · rw [if_neg e, g3, if_neg e]
    · dsimp only
      by_cases e : rn k = np p
      · rw [if_pos e, mu_ne _ _ (by omega), ← rq]
        exact gq.2.2.2
      · rw [if_neg e, mu_ne _ _ (by omega)]; exact g4
    · by_cases e : k = np p
      · subst e
        refine Or.inr ⟨np q, mu_at _ _ _ _, lq, ?_, ?_⟩
        · dsimp only
          rw [rq, if_neg (fun e => hnp e.symm), rp, if_pos rfl]
        · dsimp only
          rw [if_neg hnp, if_pos rfl]; omega
      · rcases g5 with ⟨g5, g6⟩ | ⟨l, g5, g6, g7, g8⟩
        · refine Or.inl ⟨(mu_ne _ _ (by omega)).trans g5, ?_⟩
          dsimp only
          rw [g6, if_neg e]
        · refine Or.inr ⟨l, (mu_ne _ _ (by omega)).trans g5, g6, ?_, ?_⟩
          · dsimp only; rw [g7]
          · dsimp only
            have hlT := (h.1 l g6).1.1
            by_cases e2 : k = np q
            · exfalso
              rw [e2] at g5
              have := gq.2.2.2
              rw [rq] at this
              omega
            · rw [if_neg e2]
              split
              · omega
              · exact g8
  · obtain ⟨g1, g2⟩ := h.2 c hc
    dsimp only
    rw [g1]
    unfold rep
    by_cases e : R (ptc cd c) = p
    · rw [e, if_pos rfl, if_pos rfl]
      exact ⟨rfl, hq⟩
    · rw [if_neg (fun e2 => e (RGr_inj hR g2 hp e2)), if_neg e]
      exact ⟨rfl, g2⟩
/-- pairs that wait -/
def STW (cd : Nat → Int) (np : Nat → Nat) (m : Mi) : List (Nat × Nat) → Prop
  | [] => True
  | (a, b) :: st => (m 313 st.length = (np (ptc cd a) : Int) ∧ m 314 st.length = (np (ptc cd b) : Int)) ∧ STW cd np m st
theorem STW_fr : ∀ {st : List (Nat × Nat)}, STW cd np m st → (∀ k, k < st.length → m' 313 k = m 313 k ∧ m' 314 k = m 314 k) → STW cd np m' st
  | [], _, _ => trivial
  | (a, b) :: st, h, f => by
    rw [List.length_cons] at f
    exact ⟨⟨(f _ (by omega)).1.trans h.1.1, (f _ (by omega)).2.trans h.1.2⟩, STW_fr h.2 fun k hk => f k (by omega)⟩
/-- what one() may change -/
def onF (m m' : Mi) : Prop := ∀ b k, b ≠ 303 → b ≠ 305 → b ≠ 313 → b ≠ 314 → b ≠ 315 → b ≠ 316 → m' b k = m b k
theorem onF_trans {m'' : Mi} (h : onF m m') (h2 : onF m' m'') : onF m m'' := fun b k g1 g2 g3 g4 g5 g6 => (h2 b k g1 g2 g3 g4 g5 g6).trans (h b k g1 g2 g3 g4 g5 g6)
theorem RGr_on (h : RGr ay cd nx mk np n K m) (f : onF m m') : RGr ay cd nx mk np n K m' := RGr_fr h (f _ _ (by decide) (by decide) (by decide) (by decide) (by decide) (by decide)) (fun k => f _ _ (by decide) (by decide) (by decide) (by decide) (by decide) (by decide)) (fun k => f _ _ (by decide) (by decide) (by decide) (by decide) (by decide) (by decide)) (fun k => f _ _ (by decide) (by decide) (by decide) (by decide) (by decide) (by decide))
theorem ARr_on (h : ARr ay cd n m) (f : onF m m') : ARr ay cd n m' := fun c hc h0 => by rw [f _ _ (by decide) (by decide) (by decide) (by decide) (by decide) (by decide)]; exact h c hc h0
theorem ocr_pt {c : Nat} (hc : c < n) : Ocr cd n (ptc cd c) := ocr_mk hc rfl
theorem syc_eq (h32 : ay32 ay) {a b : Nat} (ha : 0 ≤ cd a) (hb : 0 ≤ cd b) (e : syc cd a = syc cd b) : ay (cd a) = ay (cd b) := h32 _ _ ha hb e
theorem r_one_16 {a0 b0 : Nat} {x2 : Int} (hp : PP P) (hG : Gok ay cd nx n) (h32 : ay32 ay) (hK : K ≤ 2000) {m0 : Mi} (ha0 : a0 < n) {post : Int → Mi → Mj → Mp → Prop} (kn : un ay cd nx (Amt ay cd n (fun z => z) + 1) (fun z => z) [(a0, b0)] = none → ∀ m', onF m0 m' → post 0 m' J P) (ks : ∀ R', un ay cd nx (Amt ay cd n (fun z => z) + 1) (fun z => z) [(a0, b0)] = some R' → ∀ m' rn' T' B', RLk cd n np R' rn' T' B' K m' → RGr ay cd nx mk np n K m' → UIv cd n R' → onF m0 m' → Ci X (d + 1) 170 [.ref 262, .int (iz (np (ptc cd a0) : Int))] m' J P (fun z5 m2 J3 P4 => PP P4 ∧ Zr (z5) ∧ (((¬ z5 = 0) → post 0 m2 J3 P4) ∧ (¬ (¬ z5 = 0) → post 1 m2 J3 P4)))) : ∀ (f : Nat) (R rn T : Nat → Nat) (B : Nat) (st : List (Nat × Nat)) (m : Mi), un ay cd nx f R st = un ay cd nx (Amt ay cd n (fun z => z) + 1) (fun z => z) [(a0, b0)] → f = Amt ay cd n R + st.length → f ≤ 881 → (∀ e, e ∈ st → e.1 < n ∧ e.2 < n) → UIv cd n R → RLk cd n np R rn T B K m → RGr ay cd nx mk np n K m → ARr ay cd n m → STW cd np m st → onF m0 m → Rn X (d + 2) 168 16 [some (.ref 262), some (.int (iz (np (ptc cd a0) : Int))), some (.int (iz x2)), some (.int (iz (st.length : Int))), none, none, none] [] (SS m J P) (QI post) := by
  have h880 := hG.1
  intro f
  induction f with
  | zero =>
    intro R rn T B st m hW hf hf1 hst hU hL hR hA hS hF
    have e0 : st = [] := List.length_eq_zero_iff.mp (by omega)
    subst e0
    rw [un] at hW
    exact b_Mdl_one_16 _ x2 _ m J P hp post ⟨zr0, fun _ => ks R hW.symm m rn T B hL hR hU hF, fun g => absurd (by decide) g⟩
  | succ f ih =>
    intro R rn T B st m hW hf hf1 hst hU hL hR hA hS hF
    cases st with
    | nil =>
      rw [un] at hW
      exact b_Mdl_one_16 _ x2 _ m J P hp post ⟨zr0, fun _ => ks R hW.symm m rn T B hL hR hU hF, fun g => absurd (by decide) g⟩
    | cons e st =>
      obtain ⟨a, b⟩ := e
      have hab : a < n ∧ b < n := hst (a, b) List.mem_cons_self
      have hst' : ∀ e, e ∈ st → e.1 < n ∧ e.2 < n := fun e he => hst e (List.mem_cons_of_mem _ he)
      rw [List.length_cons] at hf
      obtain ⟨⟨s1, s2⟩, s3⟩ := hS
      have ua := hU _ (vp_pt hG hab.1)
      have ub := hU _ (vp_pt hG hab.2)
      have va := hL.2 a hab.1
      have vb := hL.2 b hab.2
      have sa := RGr_sym hG hR va.2
      have sb' := RGr_sym hG hR vb.2
      have na := hR.2.1 a hab.1
      have nb := hR.2.1 b hab.2
      have e1 : ((st.length + 1 : Nat) : Int) + (-1) = (st.length : Int) := by omega
      have e2 : ((st.length : Nat) : Int).toNat = st.length := by omega
      have ep : ((np (R (ptc cd a)) : Nat) : Int).toNat = np (R (ptc cd a)) := by omega
      have eq' : ((np (R (ptc cd b)) : Nat) : Int).toNat = np (R (ptc cd b)) := by omega
      rw [un] at hW
      have occ : ∀ z, Ocr cd n z → ∃ c, c < n ∧ ptc cd c = z := fun z h => h
      have nxt : ∀ {R3 rn3 T3 : Nat → Nat} {B3 : Nat} {st3 : List (Nat × Nat)} {m3 : Mi}, un ay cd nx f R3 st3 = un ay cd nx (Amt ay cd n (fun z => z) + 1) (fun z => z) [(a0, b0)] → f = Amt ay cd n R3 + st3.length → (∀ e, e ∈ st3 → e.1 < n ∧ e.2 < n) → UIv cd n R3 → RLk cd n np R3 rn3 T3 B3 K m3 → onF m m3 → STW cd np m3 st3 → Rn X (d + 2) 168 16 [some (.ref 262), some (.int (iz (np (ptc cd a0) : Int))), some (.int (iz x2)), some (.int (iz (st3.length : Int))), none, none, none] [] (SS m3 J P) (QI post) := fun {R3 rn3 T3 B3 st3 m3} q1 q2 q3 q4 q5 q6 q7 => ih R3 rn3 T3 B3 st3 m3 q1 q2 (by omega) q3 q4 q5 (RGr_on hR q6) (ARr_on hA q6) q7 (onF_trans hF q6)
      refine b_Mdl_one_16 _ x2 _ m J P hp post ⟨by rw [List.length_cons]; constructor <;> omega, fun g => absurd g (by rw [List.length_cons]; omega), fun _ => ⟨by rw [List.length_cons]; omega, ?_⟩⟩
      rw [List.length_cons, e1, e2, s1]
      refine r_find hp hL hK na ⟨hp, by omega, ?_⟩
      rw [s2]
      refine r_find hp hL hK nb ⟨hp, ?_⟩
      rw [va.1, vb.1, ep, eq']
      have lA := sa.1
      have lB := sb'.1
      refine ⟨by constructor <;> omega, by constructor <;> omega, fun hne => ⟨by omega, ?_⟩, fun heq => ?_⟩
      · have hRn : R (ptc cd a) ≠ R (ptc cd b) := fun e => hne (by rw [e])
        rw [if_neg hRn] at hW
        have onx : ∀ p v, onF m (mu m 303 p v) := fun p v b k g1 g2 g3 g4 g5 g6 => mu_ne _ _ (by omega)
        have stw : ∀ p v, STW cd np (mu m 303 p v) st := fun p v => STW_fr s3 fun k _ => ⟨mu_ne _ _ (by omega), mu_ne _ _ (by omega)⟩
        by_cases p8 : R (ptc cd a) < 880
        · obtain ⟨pn, p0, ps⟩ := sa.2.1 p8
          rw [if_neg (by omega)] at hW
          have hArp := hA _ pn p0
          rw [ps]
          refine ⟨by constructor <;> omega, fun _ => ⟨by omega, ?_⟩, fun g => absurd hArp.1.1 g⟩
          by_cases q8 : R (ptc cd b) < 880
          · obtain ⟨qn, q0, qs⟩ := sb'.2.1 q8
            rw [if_neg (by omega)] at hW
            have hArq := hA _ qn q0
            rw [qs]
            refine ⟨by constructor <;> omega, fun _ => ⟨by omega, by omega, by constructor <;> omega, by constructor <;> omega, fun he => ⟨by omega, ?_⟩, fun he => ?_⟩, fun g => absurd hArq.1.1 g⟩
            · rw [if_neg (fun g => g he)] at hW
              have eay := syc_eq h32 p0 q0 he
              have hAm := Amt_sym (ay := ay) (n := n) (cd := cd) ua.2.1 ub.2.1 hRn pn p0
              have hu := RLk_union hL hR va.2 vb.2 ua.2.1 ub.2.1 hRn occ
              have h4 := (hG.2.2 _ pn).2.1
              -- their ARGUMENTS
              have loop : ∀ (q i : Nat) (m3 : Mi), i + q = ay (cd (R (ptc cd a))) → (∀ o k, o ≠ 313 → o ≠ 314 → m3 o k = mu m 303 (np (R (ptc cd a))) (np (R (ptc cd b)) : Int) o k) → STW cd np m3 (prs nx (R (ptc cd a)) (R (ptc cd b)) i ++ st) → Rn X (d + 2) 168 132 [some (.ref 262), some (.int (iz (np (ptc cd a0) : Int))), some (.int (iz x2)), some (.int (iz ((prs nx (R (ptc cd a)) (R (ptc cd b)) i ++ st).length : Int))), some (.int (iz (np (R (ptc cd a)) : Int))), some (.int (iz (np (R (ptc cd b)) : Int))), some (.int (iz (i : Int)))] [] (SS m3 J P) (QI post) := by
                intro q
                induction q with
                | zero =>
                  intro i m3 hi f3 hS3
                  have ei : i = ay (cd (R (ptc cd a))) := by omega
                  have o3 : onF m m3 := onF_trans (onx _ _) fun b k g1 g2 g3 g4 g5 g6 => f3 b k g3 g4
                  have ps3 : m3 302 (np (R (ptc cd a))) = syc cd (R (ptc cd a)) := (o3 _ _ (by decide) (by decide) (by decide) (by decide) (by decide) (by decide)).trans ps
                  have ar3 : m3 280 (syc cd (R (ptc cd a))).toNat = (ay (cd (R (ptc cd a))) : Int) := (o3 _ _ (by decide) (by decide) (by decide) (by decide) (by decide) (by decide)).trans hArp.2
                  refine b_Mdl_one_132 _ x2 _ _ _ i m3 J P hp post ⟨by omega, by rw [ep, ps3]; omega, by constructor <;> omega, by rw [ep, ps3, ar3]; constructor <;> omega, fun _ => ?_, fun g => absurd (by rw [ep, ps3, ar3]; omega) g⟩
                  rw [ei] at hS3 ⊢
                  refine nxt hW (by rw [List.length_append, prs_len]; omega) (fun e he2 => ?_) (UIv_rep hU ua.2.1 ub.2.1 hRn ub.1 (fun _ => q8)) (RLk_fr hu fun k => f3 _ _ (by decide) (by decide)) o3 hS3
                  rcases List.mem_append.mp he2 with he2 | he2
                  · obtain ⟨i, i1, i2⟩ := prs_mem he2
                    rw [i2]
                    exact ⟨(G_kid hG pn i1).2.1, (G_kid hG qn (by rw [← eay]; exact i1)).2.1⟩
                  · exact hst' e he2
                | succ q jh =>
                  intro i m3 hi f3 hS3
                  have o3 : onF m m3 := onF_trans (onx _ _) fun b k g1 g2 g3 g4 g5 g6 => f3 b k g3 g4
                  have R3 := RGr_on hR o3
                  have ps3 : m3 302 (np (R (ptc cd a))) = syc cd (R (ptc cd a)) := (o3 _ _ (by decide) (by decide) (by decide) (by decide) (by decide) (by decide)).trans ps
                  have ar3 : m3 280 (syc cd (R (ptc cd a))).toNat = (ay (cd (R (ptc cd a))) : Int) := (o3 _ _ (by decide) (by decide) (by decide) (by decide) (by decide) (by decide)).trans hArp.2
                  have hl : (prs nx (R (ptc cd a)) (R (ptc cd b)) i ++ st).length = i + st.length := by rw [List.length_append, prs_len]
                  have el : (((prs nx (R (ptc cd a)) (R (ptc cd b)) i ++ st).length : Nat) : Int).toNat = (prs nx (R (ptc cd a)) (R (ptc cd b)) i ++ st).length := by omega
                  have e4a : (4 * (np (R (ptc cd a)) : Int) + (i : Int)).toNat = 4 * np (R (ptc cd a)) + i := by omega
                  have e4b : (4 * (np (R (ptc cd b)) : Int) + (i : Int)).toNat = 4 * np (R (ptc cd b)) + i := by omega
                  have ga := R3.2.2.2.2.2 _ pn p0 i (by omega)
                  have gb := R3.2.2.2.2.2 _ qn q0 i (by omega)
                  refine b_Mdl_one_132 _ x2 _ _ _ i m3 J P hp post ⟨by omega, by rw [ep, ps3]; omega, by constructor <;> omega, by rw [ep, ps3, ar3]; constructor <;> omega, fun g => absurd g (by rw [ep, ps3, ar3]; omega), fun _ => ⟨by omega, by omega, by omega, by omega, ?_⟩⟩
                  rw [el, e4a, e4b, ga, mu_ne _ _ (by omega), gb]
                  have e5 : (((prs nx (R (ptc cd a)) (R (ptc cd b)) i ++ st).length : Nat) : Int) + 1 = ((prs nx (R (ptc cd a)) (R (ptc cd b)) (i + 1) ++ st).length : Int) := by rw [hl, List.length_append, prs_len]; omega
                  have e6 : ((i : Nat) : Int) + 1 = ((i + 1 : Nat) : Int) := by omega
                  rw [e5, e6]
                  refine jh (i + 1) _ (by omega) (fun b k g1 g2 => by rw [mu_ne _ _ (by omega), mu_ne _ _ (by omega)]; exact f3 b k g1 g2) ⟨⟨?_, ?_⟩, STW_fr hS3 fun k hk => ⟨?_, ?_⟩⟩
                  · show mu (mu m3 313 (prs nx (R (ptc cd a)) (R (ptc cd b)) i ++ st).length _) 314 (prs nx (R (ptc cd a)) (R (ptc cd b)) i ++ st).length _ 313 (prs nx (R (ptc cd a)) (R (ptc cd b)) i ++ st).length = _
                    rw [mu_ne _ _ (by omega), mu_at]
                  · exact mu_at _ _ _ _
                  · have hk' : k < (prs nx (R (ptc cd a)) (R (ptc cd b)) i ++ st).length := hk
                    rw [mu_ne _ _ (by omega), mu_ne _ _ (by omega)]
                  · have hk' : k < (prs nx (R (ptc cd a)) (R (ptc cd b)) i ++ st).length := hk
                    rw [mu_ne _ _ (by omega), mu_ne _ _ (by omega)]
              exact loop (ay (cd (R (ptc cd a)))) 0 _ (by omega) (fun _ _ _ _ => rfl) (stw _ _)
            · rw [if_pos he] at hW
              exact kn hW.symm m hF
          · rw [if_pos (by omega)] at hW
            rw [sb'.2.2 (by omega)]
            refine ⟨zrm, fun g => absurd g (by decide), fun _ => ⟨by omega, ?_⟩⟩
            exact nxt hW (by rw [Amt_var hG hU (by omega)]; omega) hst' (UIv_rep hU ub.2.1 ua.2.1 (fun e => hRn e.symm) ua.1 (fun q => absurd q (by omega))) (RLk_union hL hR vb.2 va.2 ub.2.1 ua.2.1 (fun e => hRn e.symm) occ) (onx _ _) (stw _ _)
        · rw [if_pos (by omega)] at hW
          rw [sa.2.2 (by omega)]
          refine ⟨zrm, fun g => absurd g (by decide), fun _ => ⟨by omega, ?_⟩⟩
          exact nxt hW (by rw [Amt_var hG hU (by omega)]; omega) hst' (UIv_rep hU ua.2.1 ub.2.1 hRn ub.1 (fun q => absurd q (by omega))) (RLk_union hL hR va.2 vb.2 ua.2.1 ub.2.1 hRn occ) (onx _ _) (stw _ _)
      · have he : np (R (ptc cd a)) = np (R (ptc cd b)) := by omega
        rw [if_pos (RGr_inj hR va.2 vb.2 he)] at hW
        exact nxt hW (by omega) hst' hU hL (fun _ _ _ _ _ _ _ _ => rfl) s3
/-- the search's path -/
def STP (np : Nat → Nat) (m : Mi) : List (Nat × Nat) → Prop
  | [] => True
  | (c, i) :: st => (m 315 st.length = (np c : Int) ∧ m 316 st.length = (i : Int)) ∧ STP np m st
theorem STP_fr : ∀ {st : List (Nat × Nat)}, STP np m st → (∀ k, k < st.length → m' 315 k = m 315 k ∧ m' 316 k = m 316 k) → STP np m' st
  | [], _, _ => trivial
  | (a, b) :: st, h, f => by
    rw [List.length_cons] at f
    exact ⟨⟨(f _ (by omega)).1.trans h.1.1, (f _ (by omega)).2.trans h.1.2⟩, STP_fr h.2 fun k hk => f k (by omega)⟩
/-- the colours: of VARIABLES 0 or 2 -/
def CRc (cd : Nat → Int) (n : Nat) (np : Nat → Nat) (col : Nat → Int) (m : Mi) : Prop := ∀ z, Ocr cd n z → (z < 880 → m 305 (np z) = col z) ∧ (880 ≤ z → m 305 (np z) = 0 ∨ m 305 (np z) = 2)
theorem CRc_set (hR : RGr ay cd nx mk np n K m) {col : Nat → Int} (h : CRc cd n np col m) {c : Nat} {v : Int} (hc : Ocr cd n c) (h8 : c < 880) : CRc cd n np (cset col c v) (mu m 305 (np c) v) := by
  intro z hz
  refine ⟨fun g => ?_, fun g => ?_⟩
  · by_cases e : z = c
    · rw [e, mu_at, cset_at]
    · rw [mu_ne _ _ (fun q => e (RGr_inj hR hz hc q.2)), cset_ne _ _ e]
      exact (h z hz).1 g
  · rw [mu_ne _ _ (fun q => by have := RGr_inj hR hz hc q.2; omega)]
    exact (h z hz).2 g
theorem CRc_var (hR : RGr ay cd nx mk np n K m) {col : Nat → Int} (h : CRc cd n np col m) {c : Nat} (hc : Ocr cd n c) (h8 : 880 ≤ c) : CRc cd n np col (mu m 305 (np c) 2) := by
  intro z hz
  refine ⟨fun g => ?_, fun g => ?_⟩
  · rw [mu_ne _ _ (fun q => by have := RGr_inj hR hz hc q.2; omega)]
    exact (h z hz).1 g
  · by_cases e : z = c
    · rw [e, mu_at]; exact Or.inr rfl
    · rw [mu_ne _ _ (fun q => e (RGr_inj hR hz hc q.2))]
      exact (h z hz).2 g
/-- what isRing() may change -/
def rgF (m m' : Mi) : Prop := ∀ b k, b ≠ 305 → b ≠ 315 → b ≠ 316 → m' b k = m b k
theorem rgF_on (h : rgF m m') : onF m m' := fun b k g1 g2 g3 g4 g5 g6 => h b k g2 g5 g6
theorem rgF_trans {m'' : Mi} (h : rgF m m') (h2 : rgF m' m'') : rgF m m'' := fun b k g1 g2 g3 => (h2 b k g1 g2 g3).trans (h b k g1 g2 g3)
theorem r_ring_57 {x1 : Int} (hp : PP P) (hG : Gok ay cd nx n) (hK : K ≤ 1900) (hU : UIv cd n R) {m0 : Mi} (hL0 : RLk cd n np R rn T B K m0) (hR0 : RGr ay cd nx mk np n K m0) (hA0 : ARr ay cd n m0) {W : Bool} {post : Int → Mi → Mj → Mp → Prop} (k : ∀ m', rgF m0 m' → post (if W = true then 0 else 1) m' J P) : ∀ (f : Nat) (col : Nat → Int) (st : List (Nat × Nat)) (m : Mi), df ay cd nx R f col st = W → Dmt ay cd n col st ≤ f → st.length + Wht n col ≤ n → (∀ z, (col z = 0 ∨ col z = 1 ∨ col z = 2) ∧ (col z ≠ 0 → z < 880)) → (∀ e, e ∈ st → e.1 < n ∧ 0 ≤ cd e.1 ∧ R e.1 = e.1 ∧ col e.1 ≠ 0 ∧ e.2 ≤ ay (cd e.1)) → CRc cd n np col m → STP np m st → rgF m0 m → Rn X (d + 1) 170 57 [some (.ref 262), some (.int (iz x1)), some (.int (iz (st.length : Int))), none, none, none] [] (SS m J P) (QI post) := by
  have h880 := hG.1
  intro f
  induction f with
  | zero =>
    intro col st m hW hf hw hcv hst hC hS hF
    cases st with
    | cons e st => obtain ⟨c, i⟩ := e; rw [Dmt] at hf; omega
    | nil =>
      rw [df] at hW
      have fin := k m hF
      rw [← hW] at fin
      exact b_Mdl_isRing_57 x1 _ m J P hp post ⟨zr0, fun _ => fin, fun g => absurd (by decide) g⟩
  | succ f ih =>
    intro col st m hW hf hw hcv hst hC hS hF
    cases st with
    | nil =>
      rw [df] at hW
      have fin := k m hF
      rw [← hW] at fin
      exact b_Mdl_isRing_57 x1 _ m J P hp post ⟨zr0, fun _ => fin, fun g => absurd (by decide) g⟩
    | cons e st =>
      obtain ⟨c, i⟩ := e
      obtain ⟨g1, g2, g3, g4, g5⟩ := hst (c, i) List.mem_cons_self
      change c < n at g1
      change 0 ≤ cd c at g2
      change R c = c at g3
      change col c ≠ 0 at g4
      change i ≤ ay (cd c) at g5
      have hst' : ∀ e, e ∈ st → e.1 < n ∧ 0 ≤ cd e.1 ∧ R e.1 = e.1 ∧ col e.1 ≠ 0 ∧ e.2 ≤ ay (cd e.1) := fun e he => hst e (List.mem_cons_of_mem _ he)
      obtain ⟨⟨s1, s2⟩, s3⟩ := hS
      rw [List.length_cons] at hw
      rw [Dmt] at hf
      have h4 := (hG.2.2 c g1).2.1
      have R1 := RGr_on hR0 (rgF_on hF)
      have A1 := ARr_on hA0 (rgF_on hF)
      have L1 : RLk cd n np R rn T B K m := RLk_fr hL0 fun k => hF _ _ (by decide) (by decide) (by decide)
      have oc : Ocr cd n c := by have := ocr_pt (cd := cd) g1; rw [ptc_s g2] at this; exact this
      have sc := RGr_sym hG R1 oc
      obtain ⟨_, _, scs⟩ := sc.2.1 (by omega)
      have hAc := A1 c g1 g2
      have lc := sc.1
      have e1 : ((st.length + 1 : Nat) : Int) - 1 = (st.length : Int) := by omega
      have e2 : ((st.length : Nat) : Int).toNat = st.length := by omega
      have e3 : ((np c : Nat) : Int).toNat = np c := by omega
      have e6 : ((st.length + 1 : Nat) : Int) + (-1) = (st.length : Int) := by omega
      refine b_Mdl_isRing_57 x1 _ m J P hp post ⟨by rw [List.length_cons]; constructor <;> omega, fun g => absurd g (by rw [List.length_cons]; omega), fun _ => ⟨by rw [List.length_cons]; omega, by rw [List.length_cons]; omega, ?_⟩⟩
      rw [List.length_cons, e1, e2, s1, e3, scs]
      refine ⟨by omega, by constructor <;> omega, fun g => absurd hAc.1.1 (by omega), fun _ => ⟨by omega, by omega, by rw [s2]; constructor <;> omega, by rw [hAc.2]; constructor <;> omega, ?_⟩⟩
      rw [s2, hAc.2]
      rw [df] at hW
      refine ⟨fun hne => ⟨by omega, by omega, by omega, ?_⟩, fun heq => ⟨by omega, ?_⟩⟩
      · have hi : i < ay (cd c) := by omega
        rw [if_neg (by omega)] at hW
        have gk := G_kid hG g1 hi
        have e4 : (4 * (np c : Int) + (i : Int)).toNat = 4 * np c + i := by omega
        rw [e4, mu_ne _ _ (by omega), R1.2.2.2.2.2 c g1 g2 i hi]
        have F2 : rgF m (mu m 316 st.length ((i : Int) + 1)) := fun b k g1 g2 g3 => mu_ne _ _ (by omega)
        have L2 : RLk cd n np R rn T B K (mu m 316 st.length ((i : Int) + 1)) := RLk_fr L1 fun k => mu_ne _ _ (by omega)
        have C2 : CRc cd n np col (mu m 316 st.length ((i : Int) + 1)) := fun z hz => by rw [mu_ne _ _ (by omega)]; exact hC z hz
        have S2 : STP np (mu m 316 st.length ((i : Int) + 1)) ((c, i + 1) :: st) := by
          refine ⟨⟨?_, ?_⟩, STP_fr s3 fun k hk => ⟨mu_ne _ _ (by omega), mu_ne _ _ (by omega)⟩⟩
          · rw [mu_ne _ _ (by omega)]; exact s1
          · rw [mu_at]; omega
        have vk := L1.2 _ gk.2.1
        have nk := R1.2.1 _ gk.2.1
        have sk := RGr_sym hG R1 vk.2
        have cq := C2 _ vk.2
        have hq := hU _ (vp_pt hG gk.2.1)
        have lk := sk.1
        have ek : ((np (R (ptc cd (kid nx (c + 1) i))) : Nat) : Int).toNat = np (R (ptc cd (kid nx (c + 1) i))) := by omega
        refine r_find hp L2 (by omega) nk ⟨hp, ?_⟩
        rw [vk.1, ek]
        have hst2 : ∀ e, e ∈ (c, i + 1) :: st → e.1 < n ∧ 0 ≤ cd e.1 ∧ R e.1 = e.1 ∧ col e.1 ≠ 0 ∧ e.2 ≤ ay (cd e.1) := fun e he => by
          rcases List.mem_cons.mp he with rfl | he
          · exact ⟨g1, g2, g3, g4, hi⟩
          · exact hst' e he
        have eD : Dmt ay cd n col ((c, i + 1) :: st) + 1 = (ay (cd c) - i + 1) + Dmt ay cd n col st := by rw [Dmt]; omega
        have e5 : ((st.length + 1 : Nat) : Int) = (((c, i + 1) :: st).length : Int) := by rw [List.length_cons]
        have e7 : ((st.length + 1 : Nat) : Int).toNat = st.length + 1 := by omega
        have zc : Zr (mu m 316 st.length ((i : Int) + 1) 305 (np (R (ptc cd (kid nx (c + 1) i))))) := by
          by_cases q8 : R (ptc cd (kid nx (c + 1) i)) < 880
          · rw [cq.1 q8]
            rcases (hcv (R (ptc cd (kid nx (c + 1) i)))).1 with g | g | g <;> (rw [g]; constructor <;> decide)
          · rcases cq.2 (by omega) with g | g <;> (rw [g]; constructor <;> decide)
        refine ⟨by omega, zc, fun hn1 => ⟨by omega, zc, fun hn2 => ⟨by omega, by omega, by omega, ?_⟩, fun h2 => ?_⟩, fun h1 => ?_⟩
        · -- pushed
          rw [e7]
          by_cases q8 : R (ptc cd (kid nx (c + 1) i)) < 880
          · have he0 : col (R (ptc cd (kid nx (c + 1) i))) = 0 := by
              rw [cq.1 q8] at hn1 hn2
              rcases (hcv (R (ptc cd (kid nx (c + 1) i)))).1 with g | g | g
              · exact g
              · exact absurd g hn1
              · exact absurd g hn2
            rw [if_pos q8, if_neg (by rw [he0]; decide), if_pos he0] at hW
            have nq := (vp_lt hG hq.1).2 q8
            have hWn := Wht_new (n := n) nq.1 he0
            have hDn := Dmt_new (ay := ay) (cd := cd) nq.1 he0 (st := (c, i + 1) :: st)
            have e8 : ((st.length + 1 : Nat) : Int) + 1 = (((R (ptc cd (kid nx (c + 1) i)), 0) :: (c, i + 1) :: st).length : Int) := by simp
            rw [e8]
            have F3 : rgF m (mu (mu (mu m 316 st.length ((i : Int) + 1)) 315 (st.length + 1) (np (R (ptc cd (kid nx (c + 1) i))) : Int)) 316 (st.length + 1) 0) := fun b k g1 g2 g3 => by rw [mu_ne _ _ (by omega), mu_ne _ _ (by omega), mu_ne _ _ (by omega)]
            have R3 := RGr_on R1 (rgF_on F3)
            have C3 : CRc cd n np col (mu (mu (mu m 316 st.length ((i : Int) + 1)) 315 (st.length + 1) (np (R (ptc cd (kid nx (c + 1) i))) : Int)) 316 (st.length + 1) 0) := fun z hz => by rw [mu_ne _ _ (by omega), mu_ne _ _ (by omega)]; exact C2 z hz
            refine ih (cset col (R (ptc cd (kid nx (c + 1) i))) 1) ((R (ptc cd (kid nx (c + 1) i)), 0) :: (c, i + 1) :: st) _ hW ?_ ?_ (fun z => ?_) (fun e he => ?_) (CRc_set R3 C3 vk.2 q8) ?_ (rgF_trans hF (rgF_trans F3 fun b k g1 g2 g3 => mu_ne _ _ (by omega)))
            · rw [Dmt, Nat.sub_zero]; omega
            · rw [List.length_cons, List.length_cons]; omega
            · unfold cset
              split
              · exact ⟨Or.inr (Or.inl rfl), fun _ => by omega⟩
              · exact hcv z
            · rcases List.mem_cons.mp he with rfl | he
              · exact ⟨nq.1, nq.2, hq.2.1, by rw [cset_at]; decide, Nat.zero_le _⟩
              · have := hst2 e he
                refine ⟨this.1, this.2.1, this.2.2.1, ?_, this.2.2.2.2⟩
                rw [cset_ne _ _ (fun q => by rw [q] at this; exact this.2.2.2.1 he0)]
                exact this.2.2.2.1
            · refine ⟨⟨?_, ?_⟩, STP_fr S2 fun k hk => ?_⟩
              · rw [List.length_cons, mu_ne _ _ (by omega), mu_ne _ _ (by omega), mu_at]
              · rw [List.length_cons, mu_ne _ _ (by omega), mu_at]; rfl
              · rw [List.length_cons] at hk
                exact ⟨by rw [mu_ne _ _ (by omega), mu_ne _ _ (by omega), mu_ne _ _ (by omega)], by rw [mu_ne _ _ (by omega), mu_ne _ _ (by omega), mu_ne _ _ (by omega)]⟩
          · -- a VARIABLE: laid down and taken up again
            rw [if_neg q8] at hW
            have e8 : ((st.length + 1 : Nat) : Int) + 1 = ((st.length + 2 : Nat) : Int) := by omega
            have e9 : ((st.length + 2 : Nat) : Int) - 1 = ((st.length + 1 : Nat) : Int) := by omega
            have e10 : ((st.length + 2 : Nat) : Int) + (-1) = ((st.length + 1 : Nat) : Int) := by omega
            rw [e8]
            generalize hm3 : mu (mu (mu (mu m 316 st.length ((i : Int) + 1)) 315 (st.length + 1) (np (R (ptc cd (kid nx (c + 1) i))) : Int)) 316 (st.length + 1) 0) 305 (np (R (ptc cd (kid nx (c + 1) i)))) 1 = m3
            have t15 : m3 315 (st.length + 1) = (np (R (ptc cd (kid nx (c + 1) i))) : Int) := by rw [← hm3, mu_ne _ _ (by omega), mu_ne _ _ (by omega), mu_at]
            have F3 : rgF m m3 := fun b k g1 g2 g3 => by rw [← hm3, mu_ne _ _ (by omega), mu_ne _ _ (by omega), mu_ne _ _ (by omega), mu_ne _ _ (by omega)]
            have t02 : m3 302 (np (R (ptc cd (kid nx (c + 1) i)))) = -1 := (F3 _ _ (by decide) (by decide) (by decide)).trans (sk.2.2 (by omega))
            refine b_Mdl_isRing_57 x1 _ m3 J P hp post ⟨by constructor <;> omega, fun g => absurd g (by omega), fun _ => ⟨by omega, by omega, ?_⟩⟩
            rw [e9, e10, e7, t15, ek, t02]
            refine ⟨by omega, zrm, fun _ => ⟨by omega, ?_⟩, fun g => absurd (by decide) g⟩
            rw [e5]
            have R3 := RGr_on R1 (rgF_on F3)
            refine ih col ((c, i + 1) :: st) _ hW (by omega) (by rw [List.length_cons]; exact hw) hcv hst2 ?_ (STP_fr S2 fun k hk => ?_) (rgF_trans hF (rgF_trans F3 fun b k g1 g2 g3 => mu_ne _ _ (by omega)))
            · intro z hz
              have hz2 := C2 z hz
              have ne3 : ∀ z, Ocr cd n z → z ≠ R (ptc cd (kid nx (c + 1) i)) → m3 305 (np z) = mu m 316 st.length ((i : Int) + 1) 305 (np z) := fun z hz g => by
                rw [← hm3, mu_ne _ _ (fun q => g (RGr_inj R1 hz vk.2 q.2)), mu_ne _ _ (by omega), mu_ne _ _ (by omega)]
              by_cases e : z = R (ptc cd (kid nx (c + 1) i))
              · rw [e, mu_at]
                exact ⟨fun g => absurd g q8, fun _ => Or.inr rfl⟩
              · rw [mu_ne _ _ (fun q => e (RGr_inj R1 hz vk.2 q.2)), ne3 z hz e]
                exact hz2
            · rw [List.length_cons] at hk
              rw [← hm3]
              exact ⟨by rw [mu_ne _ _ (by omega), mu_ne _ _ (by omega), mu_ne _ _ (by omega), mu_ne _ _ (by omega)], by rw [mu_ne _ _ (by omega), mu_ne _ _ (by omega), mu_ne _ _ (by omega), mu_ne _ _ (by omega)]⟩
        · -- searched before
          have h2' := Classical.not_not.mp h2
          rw [e5]
          refine ih col ((c, i + 1) :: st) _ ?_ (by omega) (by rw [List.length_cons]; exact hw) hcv hst2 C2 S2 (rgF_trans hF F2)
          by_cases q8 : R (ptc cd (kid nx (c + 1) i)) < 880
          · rw [cq.1 q8] at h2'
            rw [if_pos q8, if_neg (by rw [h2']; decide), if_neg (by rw [h2']; decide)] at hW
            exact hW
          · rw [if_neg q8] at hW; exact hW
        · -- a ring
          have h1' := Classical.not_not.mp h1
          have q8 : R (ptc cd (kid nx (c + 1) i)) < 880 := Classical.byContradiction fun g => by
            rcases cq.2 (by omega) with q | q <;> (rw [q] at h1'; exact absurd h1' (by decide))
          rw [cq.1 q8] at h1'
          rw [if_pos q8, if_pos h1'] at hW
          have fin := k _ (rgF_trans hF F2)
          rw [← hW] at fin
          exact fin
      · -- through
        have hi : i = ay (cd c) := by omega
        rw [if_pos (by omega)] at hW
        rw [e6]
        refine ih (cset col c 2) st _ hW ?_ ?_ (fun z => ?_) (fun e he => ?_) (CRc_set R1 hC oc (by omega)) (STP_fr s3 fun k hk => ⟨mu_ne _ _ (by omega), mu_ne _ _ (by omega)⟩) (rgF_trans hF fun b k g1 g2 g3 => mu_ne _ _ (by omega))
        · rw [Dmt_col g4 (by decide)]; omega
        · rw [Wht_col g4 (by decide)]; omega
        · unfold cset
          split
          · exact ⟨Or.inr (Or.inr rfl), fun _ => by omega⟩
          · exact hcv z
        · have := hst' e he
          refine ⟨this.1, this.2.1, this.2.2.1, ?_, this.2.2.2.2⟩
          unfold cset
          split
          · decide
          · exact this.2.2.2.1
/-- isRing() -/
theorem r_isRing {a0 : Nat} (hp : PP P) (hG : Gok ay cd nx n) (hK : K ≤ 1900) (hU : UIv cd n R) (hL : RLk cd n np R rn T B K m) (hR : RGr ay cd nx mk np n K m) (hA : ARr ay cd n m) (ha : a0 < n) {post : Int → Mi → Mj → Mp → Prop} (k : ∀ m', rgF m m' → post (if fin ay cd nx n R a0 = true then 0 else 1) m' J P) : Ci X (d + 1) 170 [.ref 262, .int (iz (np (ptc cd a0) : Int))] m J P post := by
  have h880 := hG.1
  have va := hL.2 a0 ha
  have na := hR.2.1 a0 ha
  have hq := hU _ (vp_pt hG ha)
  refine Ci.of rfl rfl rfl (b_Mdl_isRing_0 _ m J P hp post ?_)
  have loop : ∀ (q v : Nat) (m1 : Mi), v + q = K → (∀ w, w < v → m1 305 w = 0) → rgF m m1 → Rn X (d + 1) 170 2 [some (.ref 262), some (.int (iz (np (ptc cd a0) : Int))), some (.int (iz (v : Int))), none, none, none] [] (SS m1 J P) (QI post) := by
    intro q
    induction q with
    | zero =>
      intro v m1 hv h0 hF
      have R1 := RGr_on hR (rgF_on hF)
      have L1 : RLk cd n np R rn T B K m1 := RLk_fr hL fun k => hF _ _ (by decide) (by decide) (by decide)
      have h74 : m1 262 74 = (K : Int) := R1.1.2
      refine b_Mdl_isRing_2 _ v m1 J P hp post ⟨by constructor <;> omega, by rw [h74]; constructor <;> omega, fun _ => ?_, fun g => absurd (by rw [h74]; omega) g⟩
      refine r_find hp L1 (by omega) na ⟨hp, by decide, by decide, by decide, ?_⟩
      rw [va.1]
      have sq := RGr_sym hG R1 va.2
      have lq := sq.1
      have e0 : (0 : Int).toNat = 0 := rfl
      have eq' : ((np (R (ptc cd a0)) : Nat) : Int).toNat = np (R (ptc cd a0)) := by omega
      have e315 : mu (mu m1 315 0 (np (R (ptc cd a0)) : Int)) 316 0 0 315 0 = (np (R (ptc cd a0)) : Int) := by rw [mu_ne _ _ (by decide), mu_at]
      rw [e0, e315, eq']
      refine ⟨by omega, ?_⟩
      have F3 : rgF m1 (mu (mu (mu m1 315 0 (np (R (ptc cd a0)) : Int)) 316 0 0) 305 (np (R (ptc cd a0))) 1) := fun b k g1 g2 g3 => by rw [mu_ne _ _ (by omega), mu_ne _ _ (by omega), mu_ne _ _ (by omega)]
      have C0 : ∀ z, Ocr cd n z → m1 305 (np z) = 0 := fun z hz => h0 _ (by have := (RGr_sym hG R1 hz).1; omega)
      by_cases q8 : R (ptc cd a0) < 880
      · have nq := (vp_lt hG hq.1).2 q8
        have efin : fin ay cd nx n R a0 = df ay cd nx R (Dmt ay cd n (cset (fun _ => 0) (R (ptc cd a0)) 1) [(R (ptc cd a0), 0)]) (cset (fun _ => 0) (R (ptc cd a0)) 1) [(R (ptc cd a0), 0)] := by unfold fin; rw [if_neg (by omega)]
        have hW0 : Wht n (fun _ => 0) ≤ n := by
          unfold Wht
          have : sumn (fun _ => wh 0 1) n = n := by
            have := sumn_const (c := wh 0 1) (k := n)
            rw [this, wh_0]; omega
          exact Nat.le_of_eq this
        have hWn := Wht_new (n := n) (col := fun _ => 0) nq.1 rfl
        have R2 : RGr ay cd nx mk np n K (mu (mu m1 315 0 (np (R (ptc cd a0)) : Int)) 316 0 0) := RGr_on R1 fun b k g1 g2 g3 g4 g5 g6 => by rw [mu_ne _ _ (by omega), mu_ne _ _ (by omega)]
        have C2 : CRc cd n np (fun _ => 0) (mu (mu m1 315 0 (np (R (ptc cd a0)) : Int)) 316 0 0) := fun z hz => by
          rw [mu_ne _ _ (by omega), mu_ne _ _ (by omega), C0 z hz]
          exact ⟨fun _ => rfl, fun _ => Or.inl rfl⟩
        have := r_ring_57 (X := X) (d := d) (J := J) (x1 := (np (ptc cd a0) : Int)) (m0 := m) (W := fin ay cd nx n R a0) (post := post) hp hG hK hU hL hR hA k _ _ [(R (ptc cd a0), 0)] (mu (mu (mu m1 315 0 (np (R (ptc cd a0)) : Int)) 316 0 0) 305 (np (R (ptc cd a0))) 1) efin.symm (Nat.le_refl _) (by rw [List.length_singleton]; omega) (fun z => by
          unfold cset
          split
          · exact ⟨Or.inr (Or.inl rfl), fun _ => by omega⟩
          · exact ⟨Or.inl rfl, fun g => absurd rfl g⟩) (fun e he => by
          rw [List.mem_singleton.mp he]
          exact ⟨nq.1, nq.2, hq.2.1, by rw [cset_at]; decide, Nat.zero_le _⟩) (CRc_set R2 C2 va.2 q8) ⟨⟨by
          show mu (mu (mu m1 315 0 (np (R (ptc cd a0)) : Int)) 316 0 0) 305 (np (R (ptc cd a0))) 1 315 0 = _
          rw [mu_ne _ _ (by omega)]; exact e315, by
          show mu (mu (mu m1 315 0 (np (R (ptc cd a0)) : Int)) 316 0 0) 305 (np (R (ptc cd a0))) 1 316 0 = _
          rw [mu_ne _ _ (by omega), mu_at]; rfl⟩, trivial⟩ (rgF_trans hF F3)
        exact this
      · have efin : fin ay cd nx n R a0 = true := by unfold fin; rw [if_pos (by omega)]
        have t02 : mu (mu (mu m1 315 0 (np (R (ptc cd a0)) : Int)) 316 0 0) 305 (np (R (ptc cd a0))) 1 302 (np (R (ptc cd a0))) = -1 := by
          rw [mu_ne _ _ (by omega), mu_ne _ _ (by omega), mu_ne _ _ (by omega)]
          exact sq.2.2 (by omega)
        have t15 : mu (mu (mu m1 315 0 (np (R (ptc cd a0)) : Int)) 316 0 0) 305 (np (R (ptc cd a0))) 1 315 0 = (np (R (ptc cd a0)) : Int) := by rw [mu_ne _ _ (by omega)]; exact e315
        refine b_Mdl_isRing_57 _ 1 _ J P hp post ⟨zr1, fun g => absurd g (by decide), fun _ => ⟨by decide, by decide, ?_⟩⟩
        rw [show ((1 : Int) - 1).toNat = 0 from rfl, t15, eq', t02]
        refine ⟨by omega, zrm, fun _ => ⟨by omega, ?_⟩, fun g => absurd (by decide) g⟩
        refine b_Mdl_isRing_57 _ _ _ J P hp post ⟨by constructor <;> decide, fun _ => ?_, fun g => absurd (by decide) g⟩
        have done := k (mu (mu (mu (mu m1 315 0 (np (R (ptc cd a0)) : Int)) 316 0 0) 305 (np (R (ptc cd a0))) 1) 305 (np (R (ptc cd a0))) 2) (rgF_trans hF (rgF_trans F3 fun b k g1 g2 g3 => mu_ne _ _ (by omega)))
        rw [efin, if_pos rfl] at done
        exact done
    | succ q ih =>
      intro v m1 hv h0 hF
      have h74 : m1 262 74 = (K : Int) := (hF _ _ (by decide) (by decide) (by decide)).trans hR.1.2
      have ev : ((v : Nat) : Int).toNat = v := by omega
      have en : ((v : Nat) : Int) + 1 = ((v + 1 : Nat) : Int) := by omega
      refine b_Mdl_isRing_2 _ v m1 J P hp post ⟨by constructor <;> omega, by rw [h74]; constructor <;> omega, fun g => absurd g (by rw [h74]; omega), fun _ => ⟨by omega, ?_⟩⟩
      rw [ev, en]
      refine ih (v + 1) _ (by omega) (fun w hw => ?_) (rgF_trans hF fun b k g1 g2 g3 => mu_ne _ _ (by omega))
      by_cases e : w = v
      · rw [e, mu_at]
      · rw [mu_ne _ _ (by omega)]; exact h0 w (by omega)
  exact loop K 0 m (by omega) (fun w hw => absurd hw (Nat.not_lt_zero _)) (fun _ _ _ _ _ => rfl)
/-- one() -/
theorem r_one {a0 b0 : Nat} (hp : PP P) (hG : Gok ay cd nx n) (h32 : ay32 ay) (hAm : Amt ay cd n (fun z => z) ≤ 880) (hR : RGr ay cd nx mk np n K m) (hl0 : ∀ k, k < K → m 303 k = -1) (hA : ARr ay cd n m) (ha : a0 < n) (hb : b0 < n) {post : Int → Mi → Mj → Mp → Prop} (k1 : ∀ R, uni ay cd nx n a0 b0 = some R → ∀ m' rn T B, RLk cd n np R rn T B K m' → RGr ay cd nx mk np n K m' → UIv cd n R → onF m m' → post 1 m' J P) (k0 : uni ay cd nx n a0 b0 = none → ∀ m', onF m m' → post 0 m' J P) : Ci X (d + 2) 168 [.ref 262, .int (iz (np (ptc cd a0) : Int)), .int (iz (np (ptc cd b0) : Int))] m J P post := by
  have h880 := hG.1
  have hKn := hR.1.1
  refine Ci.of rfl rfl rfl (b_Mdl_one_0 _ _ m J P hp post ⟨by decide, by decide, ?_⟩)
  generalize hm1 : mu (mu m 313 (0 : Int).toNat (np (ptc cd a0) : Int)) 314 (0 : Int).toNat (np (ptc cd b0) : Int) = m1
  have F1 : onF m m1 := fun b k g1 g2 g3 g4 g5 g6 => by rw [← hm1, mu_ne _ _ (by omega), mu_ne _ _ (by omega)]
  have R1 := RGr_on hR F1
  have A1 := ARr_on hA F1
  have L1 : RLk cd n np (fun z => z) (fun k => k) (fun _ => 0) 0 K m1 := by
    have hl1 : ∀ k, k < K → m1 303 k = -1 := fun k hk => by
      rw [← hm1, mu_ne _ _ (by omega), mu_ne _ _ (by omega)]; exact hl0 k hk
    exact ⟨fun k hk => ⟨⟨Nat.le_refl _, hk, rfl, hl1 k hk⟩, Or.inl ⟨hl1 k hk, rfl⟩⟩, fun c hc => ⟨rfl, ocr_pt hc⟩⟩
  have := r_one_16 (X := X) (d := d) (J := J) (a0 := a0) (b0 := b0) (x2 := (np (ptc cd b0) : Int)) (m0 := m) (mk := mk) (post := post) hp hG h32 (by omega) ha (fun hn m' w1 => k0 (by unfold uni; rw [hn]) m' w1) (fun R' hs m' rn' T' B' w1 w2 w3 w4 => ?_) (Amt ay cd n (fun z => z) + 1) (fun z => z) (fun k => k) (fun _ => 0) 0 [(a0, b0)] m1 rfl rfl (by omega) (fun e he => by rw [List.mem_singleton.mp he]; exact ⟨ha, hb⟩) UIv_id L1 R1 A1 ⟨⟨?_, ?_⟩, trivial⟩ F1
  · exact this
  · refine r_isRing hp hG (by omega) w3 w1 w2 (ARr_on hA w4) ha (fun m2 v1 => ⟨hp, ?_⟩)
    have g := onF_trans w4 (rgF_on v1)
    by_cases hf : fin ay cd nx n R' a0 = true
    · rw [if_pos hf]
      exact ⟨zr0, fun h => absurd rfl h, fun _ => k1 R' (by unfold uni; rw [hs]; dsimp only; rw [if_pos hf]) m2 rn' T' B' (RLk_fr w1 fun k => v1 _ _ (by decide) (by decide) (by decide)) (RGr_on w2 (rgF_on v1)) w3 g⟩
    · rw [if_neg hf]
      exact ⟨zr1, fun _ => k0 (by unfold uni; rw [hs]; dsimp only; rw [if_neg hf]) m2 g, fun h => absurd (by decide) h⟩
  · show m1 313 0 = (np (ptc cd a0) : Int)
    rw [← hm1, mu_ne _ _ (by decide)]
    exact mu_at _ _ _ _
  · show m1 314 0 = (np (ptc cd b0) : Int)
    rw [← hm1]
    exact mu_at _ _ _ _
end RON
