/-! the reference: writesValues() -/
section RWV
variable {X : aX} {d : Nat} {P : Mp} {J : Mj} {m m' : Mi} {ay : Int → Nat} {cd : Nat → Int} {nx R np rn T : Nat → Nat} {n B K : Nat} {mk : Nat → Int} {am : Int} {sc : Nat} {ar : Nat → Int}
/-- the reference's mark on a SYMBOL that is all marked -/
def amf (am : Int) (v : Int) : Int := if v < 0 then v else v + 64 * am
/-- what writesValues() may change -/
def wvF (s0 : Nat) (m m' : Mi) : Prop := ∀ b k, b ≠ 317 → b ≠ 318 → b ≠ 306 → b ≠ 338 → ¬ (b = 262 ∧ (k = 86 ∨ k = 122)) → ¬ (b = 337 ∧ s0 ≤ k) → m' b k = m b k
theorem wvF_trans {s0 s1 : Nat} {m'' : Mi} (hs : s0 ≤ s1) (h : wvF s0 m m') (h2 : wvF s1 m' m'') : wvF s0 m m'' := fun b k g1 g2 g3 g4 g5 g6 => (h2 b k g1 g2 g3 g4 g5 (by omega)).trans (h b k g1 g2 g3 g4 g5 g6)
/-- the graph as it is when something is written -/
def GW (ay : Int → Nat) (cd : Nat → Int) (nx R np rn T : Nat → Nat) (n B K : Nat) (mk : Nat → Int) (am : Int) (m : Mi) : Prop := RLk cd n np R rn T B K m ∧ RGr ay cd nx mk np n K m ∧ ARr ay cd n m ∧ m 262 87 = am
theorem GW_fr (h : GW ay cd nx R np rn T n B K mk am m) (f : ∀ b k, (302 ≤ b ∧ b ≤ 307 ∧ b ≠ 306 ∧ b ≠ 305) ∨ b = 280 ∨ (b = 262 ∧ (k = 74 ∨ k = 87)) → m' b k = m b k) : GW ay cd nx R np rn T n B K mk am m' :=
  ⟨RLk_fr h.1 fun k => f _ _ (Or.inl (by decide)), RGr_fr h.2.1 (f _ _ (by decide)) (fun k => f _ _ (Or.inl (by decide))) (fun k => f _ _ (Or.inl (by decide))) (fun k => f _ _ (Or.inl (by decide))), fun c hc h0 => ⟨(h.2.2.1 c hc h0).1, (f _ _ (Or.inr (Or.inl rfl))).trans (h.2.2.1 c hc h0).2⟩, (f _ _ (by decide)).trans h.2.2.2⟩
/-- one VALUE, in class and reference -/
theorem pv_pq (hG : Gok ay cd nx n) (h32 : ay32 ay) (hU : UIv cd n R) (hY : USy cd n R) (hC : UCl ay cd nx n R []) (ham : am = 0 ∨ am = 1) {V : Nat → Prop} (hV : ∀ c, c < n → V c → 0 ≤ cd c → ∀ i, i < ay (cd c) → V (kid nx (c + 1) i)) {a : Nat} (ha : a < n) (hVa : V a) : pq ay cd nx R mk am 100000 0 100 [(ptc cd a, true)] = (pt ay cd nx R (emc cd 0) 100000 0 100 [(a, false)]).map fun l => l.map (amf am) := by
  have h880 := hG.1
  have e0 : ∀ c w, c < n → 0 ≤ cd c → amf am (emc cd 0 c w) = syc cd c + 64 * am := fun c w hc h0 => by
    rw [emc_0]
    unfold amf syc
    rw [if_neg (by omega)]
  exact pt_pq (S := fun _ => False) (V := V) (em := emc cd 0) (mk := mk) (am := am) (hole := 100000) (patch := 0) (f := amf am) hG h32 hU hY hC (by omega) (fun c _ h => h.elim) (fun a h => h.elim) (fun c hc hv h0 => ⟨fun i hi => ⟨hV c hc hv h0 i hi, by have := (G_kid hG hc hi).2.1; omega⟩, e0 c false hc h0⟩) (fun c hc h0 => e0 c true hc h0) (fun v hv => by unfold amf; rw [if_pos hv]) (fun a _ h => h.elim) 100 [(a, false)] [(ptc cd a, true)] ⟨⟨ha, Or.inr ⟨rfl, rfl, Or.inr ⟨rfl, hVa, by show a ≠ 100000; omega⟩⟩⟩, trivial⟩
theorem amf_nbr (ham : am = 0 ∨ am = 1) {l seen : List Int} : nbr seen (l.map (amf am)) = ((nbr seen l).1.map (amf am), (nbr seen l).2) := nbr_map (fun v hv => by unfold amf; rw [if_pos hv]) (fun v hv => by unfold amf; rw [if_neg (by omega)]; omega)
/-- what is written plain is plain -/
theorem pt_lt32 {R : Nat → Nat} (hG : Gok ay cd nx n) (hO : ∀ c, c < n → Ocr cd n (R (ptc cd c))) {a : Nat} (ha : a < n) {l : List Int} (h : pt ay cd nx R (emc cd 0) 100000 0 100 [(a, false)] = some l) {c : Int} (hc : c ∈ l) (h0 : 0 ≤ c) (h32 : ay32 ay) : c < 32 := by
  obtain ⟨_, i2⟩ := pt_ok hG hO (em := emc cd 0) (fun c w hc h0 => by
    rw [emc_0]
    exact h32 _ _ (by omega) h0 (by omega)) (by omega) 100 [(a, false)] l h (fun e he => by rw [List.mem_singleton.mp he]; exact ha)
  rcases i2 c hc with ⟨c', w, hc', hc0, e⟩ | ⟨z, hz, hz8, e⟩
  · rw [emc_0] at e
    omega
  · omega
theorem r_writesValues {a G s0 : Nat} {seen0 : List Int} (hp : PP P) (hG : Gok ay cd nx n) (h32 : ay32 ay) (hU : UIv cd n R) (hY : USy cd n R) (hC : UCl ay cd nx n R []) (ham : am = 0 ∨ am = 1) (hmk : ∀ c, 0 ≤ mk c) (hK : K ≤ 2000) {V : Nat → Prop} (hV : ∀ c, c < n → V c → 0 ≤ cd c → ∀ i, i < ay (cd c) → V (kid nx (c + 1) i)) (hst : ∀ i, i < G → kid nx a i < n ∧ V (kid nx a i)) (hG6 : G ≤ 6) (hs0 : s0 + 100 * G ≤ 800) (hse : seen0.length ≤ 400) (hgv : m 262 101 = (G : Int)) (hsz : m 262 122 = (s0 : Int)) (hrt : ∀ i, i < G → m 339 i = (np (ptc cd (kid nx a i)) : Int)) (hW : GW ay cd nx R np rn T n B K mk am m) (hN : NBM cd n np seen0 m) {post : Int → Mi → Mj → Mp → Prop} (k1 : ∀ ls, pvs ay cd nx R (emc cd 0) 100000 0 G a = some ls → ∀ m', Ro m' 337 s0 (nbl seen0 ls).flatten → (∀ v, (h : v < ls.length) → m' 338 v = (ls[v].length : Int)) → m' 262 122 = ((s0 + ls.flatten.length : Nat) : Int) → wvF s0 m m' → post 1 m' J P) (k0 : pvs ay cd nx R (emc cd 0) 100000 0 G a = none → ∀ m', wvF s0 m m' → post 0 m' J P) : Ci X (d + 2) 195 [.ref 262] m J P post := by
  have kM : am_kd an_K 337 = some (.inr (0, 800)) := by decide +kernel
  have loop : ∀ (q v a1 s1 : Nat) (us : List (List Int)) (seen : List Int) (m1 : Mi), v + q = G → us.length = v → s1 = s0 + us.flatten.length → us.flatten.length ≤ 100 * v → seen.length ≤ 400 + 100 * v → a1 = kid nx a v → wvF s0 m m1 → NBM cd n np seen m1 → m1 262 122 = (s1 : Int) → (∀ i, (h : i < us.length) → m1 338 i = (us[i].length : Int)) → Ro m1 337 s0 (nbl seen0 us).flatten → seen = (nbr seen0 us.flatten).2 → (∀ ls, pvs ay cd nx R (emc cd 0) 100000 0 q a1 = some ls → pvs ay cd nx R (emc cd 0) 100000 0 G a = some (us ++ ls)) → (pvs ay cd nx R (emc cd 0) 100000 0 q a1 = none → pvs ay cd nx R (emc cd 0) 100000 0 G a = none) → Rn X (d + 2) 195 2 [some (.ref 262), some (.int (iz (v : Int))), none] [] (SS m1 J P) (QI post) := by
    intro q
    induction q with
    | zero =>
      intro v a1 s1 us seen m1 h1 h2 h3 h4 h5 h6 h7 h8 h9 h10 h11 h12 h13 h14
      have eg : m1 262 101 = (G : Int) := (h7 _ _ (by decide) (by decide) (by decide) (by decide) (by decide) (by omega)).trans hgv
      refine b_Mdl_writesValues_2 v m1 J P hp post ?_
      rw [eg]
      refine ⟨by constructor <;> omega, by constructor <;> omega, fun _ => ?_, fun g => absurd (by omega) g⟩
      have := h13 [] rfl
      rw [List.append_nil] at this
      exact k1 us this m1 h11 h10 (by rw [h9, h3]) h7
    | succ q ih =>
      intro v a1 s1 us seen m1 h1 h2 h3 h4 h5 h6 h7 h8 h9 h10 h11 h12 h13 h14
      have eg : m1 262 101 = (G : Int) := (h7 _ _ (by decide) (by decide) (by decide) (by decide) (by decide) (by omega)).trans hgv
      obtain ⟨ha1, hVa⟩ := hst v (by omega)
      rw [← h6] at ha1 hVa
      have er : m1 339 v = (np (ptc cd a1) : Int) := by
        rw [h7 _ _ (by decide) (by decide) (by decide) (by decide) (by omega) (by omega), h6]
        exact hrt v (by omega)
      have hW1 : GW ay cd nx R np rn T n B K mk am m1 := GW_fr hW fun b k g => h7 b k (by omega) (by omega) (by omega) (by omega) (by omega) (by omega)
      have hpp := pv_pq (mk := mk) hG h32 hU hY hC ham hV ha1 hVa
      refine b_Mdl_writesValues_2 v m1 J P hp post ?_
      rw [eg, Int.toNat_natCast, er, h9]
      refine ⟨by constructor <;> omega, by constructor <;> omega, fun g => absurd g (by omega), fun _ => ⟨by omega, ?_⟩⟩
      have wr := r_write (X := X) (d := d) (J := J) (P := P) (m := m1) (a0 := ptc cd a1) (hole := 100000) (patch := 0) (lim := 100) (x6 := 337) (nx6 := 800) (x7 := s1) (x2 := -1) (x3 := -1) (am := am) (w := true) (seen0 := seen) hp kM (by decide) (Or.inr (Or.inr rfl)) (by omega) (by decide) (by omega) hG hK (fun z hz => ⟨fun g => absurd g (by omega), fun g => absurd (Ocr_lt hG hz) (by omega)⟩) zrm (fun h => absurd (Ocr_lt hG h) (by decide)) ham hmk hW1.2.2.2 hW1.1 hW1.2.1 hW1.2.2.1 (ocr_mk ha1 rfl) h8 (post := fun z7 m4 J5 P6 => PP P6 ∧ ((0 : Int) ≤ (v : Int) ∧ ((v : Int) : Int) < 6) ∧ ((0 : Int) ≤ (v : Int) ∧ ((v : Int) : Int) < 6) ∧ Zr ((mu m4 338 v z7) 338 v) ∧ (((0 ≤ ((mu m4 338 v z7) 338 v)) → Rn X (d + 2) 195 52 [some (.ref 262), some (.int (iz (v : Int))), some (.int (iz 0))] [] (SS (mu m4 338 v z7) J5 P6) (QI post)) ∧ (¬ (0 ≤ ((mu m4 338 v z7) 338 v)) → post 0 (mu m4 338 v z7) J5 P6)))
      rw [hpp] at wr
      refine wr ?_ ?_
      · intro l' hl' m2 w1 w2 w3
        obtain ⟨l, hl, e⟩ := Option.map_eq_some_iff.mp hl'
        subst e
        have ll : l.length ≤ 100 := pt_len hl
        rw [List.length_map, mu_at, amf_nbr ham] at *
        dsimp only at w1 w2
        refine ⟨hp, by omega, by omega, by constructor <;> omega, fun _ => ?_, fun g => absurd (by omega) g⟩
        have f0 : ∀ b k, ¬ (b = 338 ∧ k = v) → mu m2 338 v ((l.length : Nat) : Int) b k = m2 b k := fun b k g => mu_ne _ _ g
        have f1 : mu m2 338 v ((l.length : Nat) : Int) 338 v = (l.length : Int) := mu_at _ _ _ _
        generalize mu m2 338 v ((l.length : Nat) : Int) = m3 at *
        have F3 : wvF s0 m1 m3 := fun b k g1 g2 g3 g4 g5 g6 => (f0 b k (by omega)).trans (w3 b k g1 g2 g3 (by omega) (by omega))
        have s3 : m3 262 122 = (s1 : Int) := (f0 _ _ (by omega)).trans ((w3 _ _ (by decide) (by decide) (by decide) (by decide) (by omega)).trans h9)
        have r3 : Ro m3 337 s1 ((nbr seen l).1.map (amf am)) := Ro_fr w1 fun k _ _ => f0 _ _ (by omega)
        have n3 : NBM cd n np (nbr seen l).2 m3 := NBM_fr w2 (f0 _ _ (by omega)) (fun k => f0 _ _ (by omega))
        have o3 : ∀ k, k < s1 → m3 337 k = m1 337 k := fun k hk => (f0 _ _ (by omega)).trans (w3 _ _ (by omega) (by omega) (by omega) (by omega) (by omega))
        have p3 : pvs ay cd nx R (emc cd 0) 100000 0 (q + 1) a1 = (pvs ay cd nx R (emc cd 0) 100000 0 q (nx a1)).map fun r => l :: r := by rw [pvs, hl]
        have lnb : (nbr seen l).1.length = l.length := nbr_len
        have mem : ∀ c, c ∈ (nbr seen l).1 → 0 ≤ c → c < 32 := fun c hc h0 => by
          rcases nbr_mem hc with ⟨q1, q2⟩ | ⟨q1, q2⟩
          · exact pt_lt32 hG (fun c hc => (hW.1.2 c hc).2) ha1 hl q2 h0 h32
          · omega
        have inner : ∀ (z k : Nat) (m5 : Mi), k + z = l.length → m5 262 122 = (s1 : Int) → m5 338 v = (l.length : Int) → (∀ b j, ¬ (b = 337 ∧ s1 ≤ j) → m5 b j = m3 b j) → (∀ j, (h : j < (nbr seen l).1.length) → m5 337 (s1 + j) = if j < k then (nbr seen l).1[j] else amf am (nbr seen l).1[j]) → Rn X (d + 2) 195 52 [some (.ref 262), some (.int (iz (v : Int))), some (.int (iz (k : Int)))] [] (SS m5 J P) (QI post) := by
          intro z
          induction z with
          | zero =>
            intro k m5 g1 g2 g3 g4 g5
            refine b_Mdl_writesValues_52 v k m5 J P hp post ?_
            rw [Int.toNat_natCast, g3, g2]
            refine ⟨by omega, by constructor <;> omega, by constructor <;> omega, fun _ => ⟨by omega, ?_⟩, fun g => absurd (by omega) g⟩
            rw [show (v : Int) + 1 = ((v + 1 : Nat) : Int) from rfl, show (s1 : Int) + (l.length : Int) = ((s1 + l.length : Nat) : Int) by omega]
            have f5 : ∀ b j, ¬ (b = 262 ∧ j = 122) → mu m5 262 122 ((s1 + l.length : Nat) : Int) b j = m5 b j := fun b j g => mu_ne _ _ g
            have eus : (us ++ [l]).flatten = us.flatten ++ l := by rw [List.flatten_append, List.flatten_cons, List.flatten_nil, List.append_nil]
            have nbs1 : (nbl seen0 (us ++ [l])).flatten = (nbl seen0 us).flatten ++ (nbr seen l).1 := by
              rw [nbl_flat, nbl_flat, eus, nbr_app, h12]
            refine ih (v + 1) (nx a1) (s1 + l.length) (us ++ [l]) (nbr seen l).2 _ (by omega) (by rw [List.length_append, h2]; rfl) (by rw [eus, List.length_append]; omega) (by rw [eus, List.length_append]; omega) (by have := nbr_seen (l := l) (seen := seen); omega) (by rw [h6]; rfl) (fun b j q1 q2 q3 q4 q5 q6 => ?_) (NBM_fr n3 ((f5 _ _ (by decide)).trans (g4 _ _ (by omega))) fun j => (f5 _ _ (by omega)).trans (g4 _ _ (by omega))) (mu_at _ _ _ _) (fun i hi => ?_) ?_ ?_ (fun ls hls => ?_) (fun hls => ?_)
            · rw [f5 b j (by omega), g4 b j (by omega), F3 b j q1 q2 q3 q4 q5 q6, h7 b j q1 q2 q3 q4 q5 q6]
            · rw [List.length_append, List.length_singleton] at hi
              by_cases q1 : i < us.length
              · rw [List.getElem_append_left q1, f5 _ _ (by omega), g4 _ _ (by omega), f0 _ _ (by omega), w3 _ _ (by decide) (by decide) (by decide) (by omega) (by omega)]
                exact h10 i q1
              · have e7 : (us ++ [l])[i] = l := by
                  rw [List.getElem_append_right (by omega)]
                  simp
                rw [e7, f5 _ _ (by omega), show i = v by omega, g3]
            · rw [nbs1]
              refine Ro_app.mpr ⟨?_, ?_⟩
              · have lfl : (nbl seen0 us).flatten.length = us.flatten.length := by rw [nbl_flat, nbr_len]
                exact Ro_fr h11 fun j q1 q2 => (f5 _ _ (by omega)).trans ((g4 _ _ (by omega)).trans (o3 j (by omega)))
              · have lfl : (nbl seen0 us).flatten.length = us.flatten.length := by rw [nbl_flat, nbr_len]
                rw [lfl, ← h3]
                refine Ro_of fun j hj => ?_
                rw [f5 _ _ (by omega), g5 j hj, if_pos (by omega)]
            · rw [eus, nbr_app, h12]
            · rw [List.append_assoc]
              refine h13 (l :: ls) ?_
              rw [p3, hls]
              rfl
            · refine h14 ?_
              rw [p3, hls]
              rfl
          | succ z ihz =>
            intro k m5 g1 g2 g3 g4 g5
            have hk := g5 k (by omega)
            rw [if_neg (by omega)] at hk
            have e1 : ((s1 : Int) + (k : Int)).toNat = s1 + k := by omega
            have hmemk : (nbr seen l).1[k]'(by omega) ∈ (nbr seen l).1 := List.getElem_mem _
            have hb := nbr_mem hmemk
            have hm := mem _ hmemk
            refine b_Mdl_writesValues_52 v k m5 J P hp post ?_
            rw [Int.toNat_natCast, g3, g2, e1, hk]
            generalize hc : (nbr seen l).1[k]'(by omega) = c at *
            have hcb2 : -1000 ≤ c ∧ c < 32 := by
              by_cases h0 : 0 ≤ c
              · exact ⟨by omega, hm h0⟩
              · rcases hb with q | q
                · omega
                · omega
            have nx1 : ∀ m6 : Mi, (∀ b j, ¬ (b = 337 ∧ j = s1 + k) → m6 b j = m5 b j) → m6 337 (s1 + k) = c → Rn X (d + 2) 195 52 [some (.ref 262), some (.int (iz (v : Int))), some (.int (iz ((k : Int) + 1)))] [] (SS m6 J P) (QI post) := fun m6 q1 q2 => by
              rw [show (k : Int) + 1 = ((k + 1 : Nat) : Int) from rfl]
              refine ihz (k + 1) m6 (by omega) ((q1 _ _ (by omega)).trans g2) ((q1 _ _ (by omega)).trans g3) (fun b j g => (q1 b j (by omega)).trans (g4 b j g)) fun j hj => ?_
              by_cases ej : j = k
              · subst ej
                rw [q2, if_pos (by omega), hc]
              · rw [q1 _ _ (by omega), g5 j hj]
                by_cases q3 : j < k
                · rw [if_pos q3, if_pos (by omega)]
                · rw [if_neg q3, if_neg (by omega)]
            have zb : -1000 ≤ amf am c ∧ amf am c < 128 := by
              unfold amf
              split <;> omega
            refine ⟨by omega, by constructor <;> omega, by constructor <;> omega, fun g => absurd g (by omega), fun _ => ⟨by omega, by constructor <;> omega, fun g => ?_, fun g => ⟨by omega, by omega, ?_⟩⟩⟩
            · have hcn : c < 0 := by
                unfold amf at g
                split at g <;> omega
              refine nx1 m5 (fun _ _ _ => rfl) ?_
              rw [hk]
              unfold amf
              rw [if_pos hcn]
            · have hcn : 0 ≤ c := by
                unfold amf at g
                split at g <;> omega
              refine nx1 _ (fun b j q => mu_ne _ _ q) ?_
              rw [mu_at, (zrem_64 (by omega)).1]
              unfold amf
              rw [if_neg (by omega)]
              omega
        refine inner l.length 0 m3 (by omega) s3 f1 (fun _ _ _ => rfl) fun j hj => ?_
        rw [if_neg (by omega)]
        have := Ro_get r3 (i := j) (by rw [List.length_map]; exact hj)
        rw [this, List.getElem_map]
      · intro hn m2 seen' w1 w2 w3
        have hln : pt ay cd nx R (emc cd 0) 100000 0 100 [(a1, false)] = none := by
          cases h : pt ay cd nx R (emc cd 0) 100000 0 100 [(a1, false)] with
          | none => rfl
          | some l => rw [h] at hn; cases hn
        rw [mu_at]
        refine ⟨hp, by omega, by omega, zrm, fun g => absurd g (by decide), fun _ => k0 (h14 (by rw [pvs, hln])) _ fun b j q1 q2 q3 q4 q5 q6 => ?_⟩
        rw [mu_ne _ _ (by omega), w3 b j q1 q2 q3 (by omega) (by omega), h7 b j q1 q2 q3 q4 q5 q6]
  refine Ci.of rfl rfl rfl (b_Mdl_writesValues_0 m J P hp post ?_)
  exact loop G 0 a s0 [] seen0 m (by omega) rfl rfl (Nat.le_refl _) (by omega) rfl (fun _ _ _ _ _ _ _ _ => rfl) hN hsz (fun i hi => absurd hi (Nat.not_lt_zero _)) trivial rfl (fun ls h => h) (fun h => h)
end RWV
