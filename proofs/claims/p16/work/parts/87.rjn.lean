/-! the class: prepare(), reduce() of a row, joins(), takeForm() -/
section RJN
variable {X : aX} {d : Nat} {P : Mp} {J : Mj} {m : Mi} {b sc N : Nat} {Sn : Nat → Nat} {ar : Nat → Int} {R : Nat → Mi} {Z : Mi} {cd : Nat → Int} {nx pt : Nat → Nat}
/-- n cells from a on -/
def sgl (cd : Nat → Int) : Nat → Nat → List Int
  | _, 0 => []
  | a, n + 1 => cd a :: sgl cd (a + 1) n
theorem sgl_len : ∀ {n a : Nat}, (sgl cd a n).length = n
  | 0, _ => rfl
  | n + 1, a => by rw [sgl, List.length_cons, sgl_len]
theorem sgl_app : ∀ {i j a : Nat}, sgl cd a (i + j) = sgl cd a i ++ sgl cd (a + i) j
  | 0, j, a => by rw [Nat.zero_add]; rfl
  | i + 1, j, a => by
    rw [show i + 1 + j = (i + j) + 1 by omega, sgl, sgl, sgl_app, show a + 1 + i = a + (i + 1) by omega]; rfl
theorem sgl_mem {c : Int} : ∀ {n a : Nat}, c ∈ sgl cd a n → ∃ i, a ≤ i ∧ i < a + n ∧ c = cd i
  | 0, a, h => absurd h List.not_mem_nil
  | n + 1, a, h => by
    rw [sgl] at h
    rcases List.mem_cons.mp h with h | h
    · exact ⟨a, by omega, by omega, h⟩
    · obtain ⟨i, h1, h2, h3⟩ := sgl_mem h
      exact ⟨i, by omega, by omega, h3⟩
theorem sgl_in {i : Nat} : ∀ {n a : Nat}, a ≤ i → i < a + n → cd i ∈ sgl cd a n
  | 0, a, h1, h2 => absurd h2 (by omega)
  | n + 1, a, h1, h2 => by
    rw [sgl]
    by_cases e : i = a
    · rw [e]; exact List.mem_cons_self
    · exact List.mem_cons_of_mem _ (sgl_in (by omega) (by omega))
theorem Ro_sgl {x : Nat} : ∀ {n a f : Nat}, (∀ i, i < n → m x (f + i) = cd (a + i)) → Ro m x f (sgl cd a n)
  | 0, a, f, _ => trivial
  | n + 1, a, f, h => ⟨h 0 (by omega), Ro_sgl fun i hi => by
    have := h (i + 1) (by omega)
    rw [show f + 1 + i = f + (i + 1) by omega, this, show a + 1 + i = a + (i + 1) by omega]⟩
theorem ct_ch {ay : Int → Nat} {f0 sz : Nat} (hT : ∀ c, f0 ≤ c → c < sz → c < nx c ∧ nx c ≤ sz ∧ ch nx (nx c) (pt c) (c + 1)) (hy : ∀ c, f0 ≤ c → c < sz → ay (cd c) = pt c) : ∀ (n k a e : Nat), e - a ≤ n → f0 ≤ a → e ≤ sz → ch nx e k a → ctt ay (sgl cd a (e - a)) = some k := by
  intro n
  induction n with
  | zero =>
    intro k a e h1 h2 h3 h4
    have := ch_le h4
    have e0 : k = 0 := by omega
    subst e0
    rw [show e - a = 0 by omega]
    rfl
  | succ n ih =>
    intro k a e h1 h2 h3 h4
    cases k with
    | zero =>
      unfold ch at h4
      rw [show e - a = 0 by omega]
      rfl
    | succ k =>
      unfold ch at h4
      obtain ⟨g1, g2, g3⟩ := h4
      obtain ⟨t1, t2, t3⟩ := hT a h2 (by omega)
      have r1 := ih (pt a) (a + 1) (nx a) (by omega) (by omega) (by omega) t3
      have r2 := ih k (nx a) e (by omega) (by omega) h3 g3
      have e1 : e - a = ((nx a - (a + 1)) + 1) + (e - nx a) := by omega
      rw [e1, sgl_app, show a + ((nx a - (a + 1)) + 1) = nx a by omega, Nat.add_comm k 1]
      refine ct_app r2 ?_
      rw [sgl]
      exact ct_one (by rw [r1, hy a h2 (by omega)])
theorem ct_Tm {ay : Int → Nat} {f0 sz : Nat} (hT : Tm nx pt f0 sz) (hy : ∀ c, f0 ≤ c → c < sz → ay (cd c) = pt c) : ctt ay (sgl cd f0 (sz - f0)) = some 1 := by
  refine ct_ch hT.2.2 hy _ 1 f0 sz (Nat.le_refl _) (Nat.le_refl _) (Nat.le_refl _) ?_
  have := hT.2.2 f0 (Nat.le_refl _) hT.1
  exact ⟨by omega, by omega, hT.2.1⟩
/-- both sides of a RULE as lists -/
def ZL (Sn : Nat → Nat) (sc : Nat) (Z : Mi) : List Int := sgl (cdZ Sn sc Z) 0 (Z 0 7).toNat
def ZR (Sn : Nat → Nat) (sc : Nat) (Z : Mi) : List Int := sgl (cdZ Sn sc Z) (Z 0 7).toNat ((Z 0 3).toNat - (Z 0 7).toNat)
theorem ayw_cd {c : Int} {p : Nat} (h1 : c < 0 → p = 0) (h2 : 0 ≤ c → c < 16 ∧ ar c.toNat = p) : ayw ar c = p := by
  unfold ayw
  by_cases g : c < 0
  · rw [if_pos g, h1 g]
  · rw [if_neg g]
    obtain ⟨g1, g2⟩ := h2 (by omega)
    rw [show (c % 32).toNat = c.toNat by omega, g2]
    omega
/-- what is good about a RULE without a FAULT -/
theorem RO_lists (h : RO sc ar (Z 0 7).toNat (Z 0 3).toNat (cdZ Sn sc Z) (nxY Z) (ptY Z)) (hs : sc ≤ 16) : ctt (ayw ar) (ZL Sn sc Z) = some 1 ∧ ctt (ayw ar) (ZR Sn sc Z) = some 1 ∧ (∀ c, c ∈ ZR Sn sc Z → c < 0 → c ∈ ZL Sn sc Z) ∧ (∃ s l, ZL Sn sc Z = s :: l ∧ 0 ≤ s) ∧ (∀ c, c ∈ ZL Sn sc Z ++ ZR Sn sc Z → gp sc c ∧ -8 ≤ c) ∧ (ZL Sn sc Z).length ≤ 40 ∧ (ZR Sn sc Z).length ≤ 40 ∧ (ZL Sn sc Z).length = (Z 0 7).toNat ∧ (ZL Sn sc Z).length + (ZR Sn sc Z).length = (Z 0 3).toNat := by
  obtain ⟨hR, ⟨h1, h2⟩, h3, h4, h5⟩ := h
  have hLE := Rw_LE hR
  have hay : ∀ c, c < (Z 0 3).toNat → ayw ar (cdZ Sn sc Z c) = ptY Z c := fun c hc => ayw_cd (fun g => hR.2.2.1 c hc g) (fun g => ⟨(hR.2.2.2.2.2 c hc).2, (h5 c hc g).2⟩)
  have g : ∀ i, i < (Z 0 3).toNat → gp sc (cdZ Sn sc Z i) ∧ -8 ≤ cdZ Sn sc Z i := fun i hi => by
    have g1 := hR.2.2.2.2.2 i hi
    have g2 := h5 i hi
    exact ⟨⟨by omega, g1.2, fun q => (g2 q).1⟩, g1.1⟩
  have c1 := ct_Tm (cd := cdZ Sn sc Z) (ay := ayw ar) hR.1 (fun c _ hc => hay c (by omega))
  have c2 := ct_Tm (cd := cdZ Sn sc Z) (ay := ayw ar) hR.2.1 (fun c _ hc => hay c hc)
  refine ⟨by rw [Nat.sub_zero] at c1; exact c1, c2, fun c hc hn => ?_, ?_, fun c hc => ?_, by unfold ZL; rw [sgl_len]; omega, by unfold ZR; rw [sgl_len]; omega, by unfold ZL; rw [sgl_len], by unfold ZL ZR; rw [sgl_len, sgl_len]; omega⟩
  · obtain ⟨i, i1, i2, i3⟩ := sgl_mem hc
    obtain ⟨c', q1, q2⟩ := h4 i i1 (by omega) (by omega)
    rw [i3, ← q2]
    exact sgl_in (Nat.zero_le _) (by omega)
  · refine ⟨cdZ Sn sc Z 0, sgl (cdZ Sn sc Z) 1 ((Z 0 7).toNat - 1), ?_, h3⟩
    unfold ZL
    rw [show (Z 0 7).toNat = ((Z 0 7).toNat - 1) + 1 by omega]
    rfl
  · rcases List.mem_append.mp hc with h | h
    · obtain ⟨i, i1, i2, i3⟩ := sgl_mem h
      rw [i3]; exact g i (by omega)
    · obtain ⟨i, i1, i2, i3⟩ := sgl_mem h
      rw [i3]; exact g i (by omega)
/-- the RULES turned round -/
def SL (Sn : Nat → Nat) (sc : Nat) (ar : Nat → Int) (R : Nat → Mi) (u : Nat) : List Int := mi (ayw ar) (ZL Sn sc (R u))
def SR (Sn : Nat → Nat) (sc : Nat) (ar : Nat → Int) (R : Nat → Mi) (u : Nat) : List Int := mi (ayw ar) (ZR Sn sc (R u))
theorem Sq_lists (hS : Sq sc Sn ar N R) {u : Nat} (hu : u < N) : ctt (ayw ar) (ZL Sn sc (R u)) = some 1 ∧ ctt (ayw ar) (ZR Sn sc (R u)) = some 1 ∧ (∀ c, c ∈ ZR Sn sc (R u) → c < 0 → c ∈ ZL Sn sc (R u)) ∧ (∃ s l, ZL Sn sc (R u) = s :: l ∧ 0 ≤ s) ∧ (∀ c, c ∈ ZL Sn sc (R u) ++ ZR Sn sc (R u) → gp sc c ∧ -8 ≤ c) ∧ (ZL Sn sc (R u)).length ≤ 40 ∧ (ZR Sn sc (R u)).length ≤ 40 ∧ (ZL Sn sc (R u)).length = (R u 0 7).toNat ∧ (ZL Sn sc (R u)).length + (ZR Sn sc (R u)).length = (R u 0 3).toNat := RO_lists (hS.2.2 u hu).2 hS.1.1
theorem Sq_Rg (hS : Sq sc Sn ar N R) : Rg (ayw ar) N (SL Sn sc ar R) (SR Sn sc ar R) := by
  refine ⟨ayw_v, fun u hu => ?_⟩
  obtain ⟨h1, h2, h3, ⟨s, l, h4, h4'⟩, h5, _⟩ := Sq_lists hS hu
  refine ⟨ct_mi h1, ct_mi h2, fun c hc hn => (mi_mem h1 c).mpr (h3 c ((mi_mem h2 c).mp hc) hn), ?_, fun c hc => (h5 c (List.mem_append_left _ ((mi_mem h1 c).mp hc))).1.2.1, fun c hc => (h5 c (List.mem_append_right _ ((mi_mem h2 c).mp hc))).1.2.1⟩
  refine ⟨s, mi (ayw ar) l, ?_, h4'⟩
  unfold SL
  rw [h4]
  refine mi_one ?_
  rw [h4] at h1
  obtain ⟨j, g1, g2, g3⟩ := ct_cons.mp h1
  rw [g1]; congr 1; omega
theorem Sq_SR (hS : Sq sc Sn ar N R) : ∀ u, u < N → ∀ c, c ∈ SR Sn sc ar R u → gp sc c := fun u hu c hc => by
  obtain ⟨h1, h2, h3, h4, h5, _⟩ := Sq_lists hS hu
  exact (h5 c (List.mem_append_right _ ((mi_mem h2 c).mp hc))).1
/-- its names are told -/
def SqN (sc : Nat) (Sn : Nat → Nat) (N : Nat) (R : Nat → Mi) : Prop := ∀ v, v < N → ∀ c, c < (R v 0 3).toNat → R v 1 c < 0 → 0 ≤ sfi Sn (R v 2 c).toNat 0 sc
theorem qJ_N {t : Int → Int} {n : Int} (h : (qJ t n).1 = 0) : SqN (qsc t n) (qSn t n) (qN t n) (qR t n) := by
  have hF : (qF_ t n).1 = 0 := Classical.byContradiction fun g => by
    rw [qJ, if_pos g] at h
    exact g h
  have hJ : (jT (qSn t n) (qsc t n) (qar t n) (qR t n) (qN t n) 0).1 = 0 := by
    rw [qJ, if_neg (fun g => g hF), jAll] at h
    by_cases g : 0 ≤ jS (qSn t n) (qsc t n) 0
    · rw [if_pos g] at h; exact absurd h (show ¬ (4 : Int) = 0 by decide)
    · rw [if_neg g] at h; exact h
  intro v hv c hc hn
  exact (jN_ok _ 0 (jR_0 (jT_0 _ 0 hJ v (Nat.zero_le _) (by omega))).1 c (Nat.zero_le _) (by omega) hn).1
/-- the cells of a RULE in the class -/
theorem EQ_code {o : Nat} (h : EQ o Sn sc Z m J) (hO : RO sc ar (Z 0 7).toNat (Z 0 3).toNat (cdZ Sn sc Z) (nxY Z) (ptY Z)) (hN : ∀ c, c < (Z 0 3).toNat → Z 1 c < 0 → 0 ≤ sfi Sn (Z 2 c).toNat 0 sc) : Ro m (o + 1) 0 (ZL Sn sc Z ++ ZR Sn sc Z) := by
  have hLE := Rw_LE hO.1
  have e : ZL Sn sc Z ++ ZR Sn sc Z = sgl (cdZ Sn sc Z) 0 (Z 0 3).toNat := by
    unfold ZL ZR
    have := sgl_app (cd := cdZ Sn sc Z) (i := (Z 0 7).toNat) (j := (Z 0 3).toNat - (Z 0 7).toNat) (a := 0)
    rw [Nat.zero_add] at this
    rw [← this]
    congr 1; omega
  rw [e]
  refine Ro_sgl fun i hi => ?_
  rw [Nat.zero_add]
  obtain ⟨_, g, _⟩ := h.1
  rw [(g i (by omega)).1]
  unfold ce cdZ
  by_cases q : 0 ≤ Z 1 i
  · rw [if_pos q, if_pos q]
  · rw [if_neg q, if_neg q]
    unfold sy
    rw [if_neg (by have := hN i hi (by omega); omega)]
theorem kd_rule_arr {b : Nat} (hb : b = 54 ∨ b = 155) {u : Nat} (hu : u < 16) {i : Nat} (h1 : 1 ≤ i) (h4 : i ≤ 4) : am_kd an_K (b + 5 + 6 * u + i) = some (.inr (0, 80)) := by
  have g : ((List.range 16).all fun u => (List.range 4).all fun i => decide (am_kd an_K (54 + 5 + 6 * u + (i + 1)) = some (.inr (0, 80))) && decide (am_kd an_K (155 + 5 + 6 * u + (i + 1)) = some (.inr (0, 80)))) = true := by decide +kernel
  have g2 := List.all_eq_true.mp (List.all_eq_true.mp g u (List.mem_range.mpr hu)) (i - 1) (List.mem_range.mpr (by omega))
  rw [Bool.and_eq_true, decide_eq_true_eq, decide_eq_true_eq, show i - 1 + 1 = i by omega] at g2
  rcases hb with rfl | rfl
  · exact g2.1
  · exact g2.2
/-- prepare() turns all RULES round -/
theorem c_prepare (hp : PP P) (hb : b = 54 ∨ b = 155) (hS : Sq sc Sn ar N R) (hN : SqN sc Sn N R) {m0 : Mi} (hA : BA b sc ar m0) (h5 : m0 b 5 = (N : Int)) (hQ : ∀ v, v < N → EQ (b + 5 + 6 * v) Sn sc (R v) m0 J) {post : Mi → Mj → Mp → Prop} (k : ∀ m', BkM b N (SL Sn sc ar R) (SR Sn sc ar R) m' → (∀ a k, a ≠ 34 → a ≠ 35 → (∀ u, u < N → a ≠ b + 5 + 6 * u + 4) → m' a k = m0 a k) → post m' J P) : Cv X (d + 2) 47 [.ref 28, .ref b] m0 J P post := by
  have kb := kd_book hb
  have hN16 := hS.1.2
  refine Cv.of rfl rfl rfl (b_Reducer_prepare_0 b kb m0 J P hp post ?_)
  have loop : ∀ (q u : Nat) (m : Mi), u + q = N → (∀ a k, a ≠ 34 → a ≠ 35 → (∀ u, u < N → a ≠ b + 5 + 6 * u + 4) → m a k = m0 a k) → (∀ v, v < u → RM (b + 5 + 6 * v) (SL Sn sc ar R v) (SR Sn sc ar R v) m) → Rn X (d + 2) 47 2 [some (.ref 28), some (.ref b), some (.int (iz (u : Int))), none] [] (SS m J P) (QV post) := by
    intro q
    induction q with
    | zero =>
      intro u m hu hf hM
      have h5' : m b 5 = (N : Int) := (hf _ _ (by omega) (by omega) (fun u _ => by omega)).trans h5
      exact b_Reducer_prepare_2 b u kb m J P hp post ⟨by constructor <;> omega, by rw [h5']; constructor <;> omega, fun _ => k m ⟨hN16, h5', fun v hv => hM v (by omega)⟩ hf, fun h => absurd (by rw [h5']; omega) h⟩
    | succ q ih =>
      intro u m hu hf hM
      have h5' : m b 5 = (N : Int) := (hf _ _ (by omega) (by omega) (fun u _ => by omega)).trans h5
      have eu : b + 5 + 6 * ((u : Nat) : Int).toNat = b + 5 + 6 * u := by omega
      have nx : ((u : Nat) : Int) + 1 = ((u + 1 : Nat) : Int) := by omega
      obtain ⟨l1, l2, l3, l4, l5, l6, l7, l8, l9⟩ := Sq_lists hS (u := u) (by omega)
      have hQu := hQ u (by omega)
      have hcode := EQ_code hQu (hS.2.2 u (by omega)).2 (hN u (by omega))
      have hz := (hS.2.2 u (by omega)).1.1
      have e5 : m (b + 5 + 6 * u) 5 = ((ZL Sn sc (R u)).length : Int) := by rw [hf _ _ (by omega) (by omega) (fun v _ => by omega), hQu.2.1]; omega
      have e6 : m (b + 5 + 6 * u) 6 = (((ZL Sn sc (R u)).length + (ZR Sn sc (R u)).length : Nat) : Int) := by rw [hf _ _ (by omega) (by omega) (fun v _ => by omega), hQu.1.1]; omega
      have k1 := kd_rule_arr hb (u := u) (by omega) (i := 1) (by omega) (by omega)
      have k4 := kd_rule_arr hb (u := u) (by omega) (i := 4) (by omega) (by omega)
      have hrow : Ro m (b + 5 + 6 * u + 1) 0 (ZL Sn sc (R u) ++ ZR Sn sc (R u)) := Ro_fr hcode fun k _ _ => hf _ _ (by omega) (by omega) (fun v _ => by omega)
      have hAm : BA b sc ar m := BA_fr hA hS.1.1 fun k _ => hf _ _ (by omega) (by omega) (fun v _ => by omega)
      refine b_Reducer_prepare_2 b u kb m J P hp post ⟨by constructor <;> omega, by rw [h5']; constructor <;> omega, fun h => absurd h (by rw [h5']; omega), fun _ => ⟨by omega, ?_⟩⟩
      rw [eu, e5, nx]
      have z0 : (0 : Int) = ((0 : Nat) : Int) := rfl
      refine c_mirror (l := ZL Sn sc (R u)) (from_ := 0) (at_ := 0) hp kb (by omega) hS.1.1 k1 (by decide) k4 (by decide) (by omega) (by omega) (by omega) (by omega) (by omega) (by omega) hAm (fun c hc => gd_gp hS.1.1 (l5 c (List.mem_append_left _ hc)).1) l1 (Ro_app.mp hrow).1 (fun m2 w1 w2 => ⟨hp, ?_⟩)
      have F2 : ∀ a k, a ≠ 34 → a ≠ 35 → a ≠ b + 5 + 6 * u + 4 → m2 a k = m a k := fun a k g1 g2 g3 => w2 a k g1 g2 (fun e => g3 e.1)
      rw [F2 _ _ (by omega) (by omega) (by omega), F2 _ _ (by omega) (by omega) (by omega), e5, e6]
      have es : (((ZL Sn sc (R u)).length + (ZR Sn sc (R u)).length : Nat) : Int) - ((ZL Sn sc (R u)).length : Int) = ((ZR Sn sc (R u)).length : Int) := by omega
      rw [es]
      have hrow2 := (Ro_app.mp hrow).2
      rw [Nat.zero_add] at hrow2
      refine c_mirror (l := ZR Sn sc (R u)) (from_ := (ZL Sn sc (R u)).length) (at_ := (ZL Sn sc (R u)).length) hp kb (by omega) hS.1.1 k1 (by decide) k4 (by decide) (by omega) (by omega) (by omega) (by omega) (by omega) (by omega) (BA_fr hAm hS.1.1 fun k _ => F2 _ _ (by omega) (by omega) (by omega)) (fun c hc => gd_gp hS.1.1 (l5 c (List.mem_append_right _ hc)).1) l2 (Ro_fr hrow2 fun k _ _ => F2 _ _ (by omega) (by omega) (by omega)) (fun m3 v1 v2 => ⟨hp, ?_⟩)
      have F3 : ∀ a k, a ≠ 34 → a ≠ 35 → a ≠ b + 5 + 6 * u + 4 → m3 a k = m a k := fun a k g1 g2 g3 => (v2 a k g1 g2 (fun e => g3 e.1)).trans (F2 a k g1 g2 g3)
      refine ih (u + 1) m3 (by omega) (fun a k g1 g2 g3 => (F3 a k g1 g2 (g3 u (by omega))).trans (hf a k g1 g2 g3)) (fun v hv => ?_)
      by_cases e : v = u
      · subst e
        have m1 : (SL Sn sc ar R v).length = (ZL Sn sc (R v)).length := mi_len l1
        have m2' : (SR Sn sc ar R v).length = (ZR Sn sc (R v)).length := mi_len l2
        refine ⟨by rw [F3 _ _ (by omega) (by omega) (by omega), e5, m1], by rw [F3 _ _ (by omega) (by omega) (by omega), e6, m1, m2'], Ro_app.mpr ⟨Ro_fr w1 fun k g1 g2 => v2 _ _ (by omega) (by omega) (fun e => ?_), ?_⟩, by rw [m1, m2']; exact ⟨l6, l7⟩, fun c hc => ?_⟩
        · rw [m1] at g2
          omega
        · rw [Nat.zero_add, m1]
          exact v1
        · have hc' : c ∈ ZL Sn sc (R v) ++ ZR Sn sc (R v) := by
            rcases List.mem_append.mp hc with h | h
            · exact List.mem_append_left _ ((mi_mem l1 c).mp h)
            · exact List.mem_append_right _ ((mi_mem l2 c).mp h)
          have := l5 c hc'
          exact ⟨this.2, this.1.2.1⟩
      · exact RM_fr (hM v (by omega)) (fun k => F3 _ _ (by omega) (by omega) (by omega)) (fun k => F3 _ _ (by omega) (by omega) (by omega))
  exact loop N 0 m0 (by omega) (fun _ _ _ _ _ => rfl) (fun v h => absurd h (Nat.not_lt_zero _))
/-- the NORMAL FORM of a TERM: trouble, the form turned round, STEPS left -/
noncomputable def nf (ay : Int → Nat) (N : Nat) (Lm Rm : Nat → List Int) (l : List Int) : Int × List Int × Nat := nr ay N Lm Rm 1000 (mi ay l).reverse []
theorem nr_range {ay : Int → Nat} {Lm Rm : Nat → List Int} : ∀ (k : Nat) (wr dn : List Int), (nr ay N Lm Rm k wr dn).1 = 0 ∨ (nr ay N Lm Rm k wr dn).1 = -2 ∨ (nr ay N Lm Rm k wr dn).1 = -3
  | 0, wr, dn => by
    rw [nr]
    cases sn ay N Lm Rm wr dn with
    | none => exact Or.inl rfl
    | some q => exact Or.inr (Or.inr rfl)
  | k + 1, wr, dn => by
    rw [nr]
    cases sn ay N Lm Rm wr dn with
    | none => exact Or.inl rfl
    | some q =>
      dsimp only
      split
      · exact Or.inr (Or.inl rfl)
      · exact nr_range k _ _
theorem nr_left {ay : Int → Nat} {Lm Rm : Nat → List Int} : ∀ (k : Nat) (wr dn : List Int), (nr ay N Lm Rm k wr dn).2.2 ≤ k
  | 0, wr, dn => by
    rw [nr]
    cases sn ay N Lm Rm wr dn <;> exact Nat.le_refl _
  | k + 1, wr, dn => by
    rw [nr]
    cases sn ay N Lm Rm wr dn with
    | none => exact Nat.le_refl _
    | some q =>
      dsimp only
      split
      · exact Nat.zero_le _
      · exact Nat.le_succ_of_le (nr_left k _ _)
variable {x1 n1 from_ : Nat} {l : List Int} {Lm Rm : Nat → List Int}
theorem c_reduce (hp : PP P) (k1 : am_kd an_K x1 = some (.inr (0, n1))) (b1 : n1 ≤ 100000) (hx1 : x1 < 28 ∨ 35 < x1 ∨ x1 = 32) (hb : b = 54 ∨ b = 155) (hs : sc ≤ 16) (hR : Rg (ayw ar) N Lm Rm) (hRg : ∀ u, u < N → ∀ c, c ∈ Rm u → gp sc c) (hA : BA b sc ar m) (hK : BkM b N Lm Rm m) (hl : l.length ≤ 200) (hf0 : from_ + l.length ≤ n1) (hg : ∀ c, c ∈ l → gp sc c) (hT : ctt (ayw ar) l = some 1) (hrow : Ro m x1 from_ l) {post : Int → Mi → Mj → Mp → Prop} (k0 : (nf (ayw ar) N Lm Rm l).1 = 0 → ∀ m', DN (ayw ar) m' (nf (ayw ar) N Lm Rm l).2.1 → (∀ c, c ∈ (nf (ayw ar) N Lm Rm l).2.1 → gp sc c) → ctt (ayw ar) (nf (ayw ar) N Lm Rm l).2.1 = some 1 → rdF m m' → post (1000 - ((nf (ayw ar) N Lm Rm l).2.2 : Int)) m' J P) (kq : (nf (ayw ar) N Lm Rm l).1 ≠ 0 → ∀ m', rdF m m' → post (nf (ayw ar) N Lm Rm l).1 m' J P) : Ci X (d + 2) 67 [.ref 28, .ref x1, .int (iz (from_ : Int)), .int (iz (l.length : Int)), .ref b] m J P post := by
  have kb := kd_book hb
  refine Ci.of rfl rfl rfl (b_Reducer_reduce_0 x1 n1 from_ l.length b k1 b1 kb m J P hp post ?_)
  refine c_mirror (from_ := from_) (at_ := 0) hp kb (by omega) hs k1 b1 (by decide +kernel : am_kd an_K 29 = some (.inr (0, 200))) (by decide) hl (by omega) (by omega) (by omega) hf0 (by omega) hA (fun c hc => gd_gp hs (hg c hc)) hT hrow (fun m1 w1 w2 => ⟨hp, ?_⟩)
  have F : ∀ m2, m2 = mu (mu (mu (mu m1 28 1 (l.length : Int)) 28 4 200) 28 6 (l.length : Int)) 28 5 0 → rdF m m2 := fun m2 e a k g1 g2 => by
    rw [e, mu_ne _ _ (by omega), mu_ne _ _ (by omega), mu_ne _ _ (by omega), mu_ne _ _ (by omega)]
    exact w2 a k (by omega) (by omega) (by omega)
  have hF := F _ rfl
  have hml := mi_len hT
  have hgm : ∀ c, c ∈ mi (ayw ar) l → gp sc c := fun c hc => hg c ((mi_mem hT c).mp hc)
  have epl : (mi (ayw ar) l).reverse.map pl = (mi (ayw ar) l).reverse := by
    have : ∀ c, c ∈ (mi (ayw ar) l).reverse → pl c = c := fun c hc => by
      have := (hgm c (List.mem_reverse.mp hc)).2.1
      unfold pl
      rw [if_neg (by omega)]
    rw [List.map_congr_left this]; simp
  have enf : nr (ayw ar) N Lm Rm 1000 ((mi (ayw ar) l).reverse.map pl) [] = nf (ayw ar) N Lm Rm l := by rw [epl]; rfl
  refine c_red_42 (m0 := m) hp k1 b1 hb hs hR hRg hA hK (201 * 1000 + 201) 1000 (mi (ayw ar) l).reverse [] _ 0 (by rw [List.length_reverse, hml]; omega) (Int.le_refl _) (by rw [List.length_reverse, hml]; omega) (Nat.le_refl _) ⟨?_, ?_, ?_⟩ (DN_nil ?_) ?_ ?_ (by rw [List.length_reverse, hml]; exact hl) (FlI_none fun c hc => by have := (hgm c (List.mem_reverse.mp hc)).2.1; omega) dnN_nil ?_ (fun c hc => gw_gp (hgm c (List.mem_reverse.mp hc))) (fun c hc => absurd hc List.not_mem_nil) hF (fun f s m' e h1 h2 h3 h4 => ?_) (fun q m' e h1 h2 => ?_)
  · rw [List.reverse_reverse, hml]; exact hl
  · rw [mu_ne _ _ (by omega), mu_ne _ _ (by omega), mu_ne _ _ (by omega), mu_at, List.reverse_reverse, hml]
  · rw [List.reverse_reverse]
    exact Ro_fr w1 fun k _ _ => by rw [mu_ne _ _ (by omega), mu_ne _ _ (by omega), mu_ne _ _ (by omega), mu_ne _ _ (by omega)]
  · rw [mu_ne _ _ (by omega), mu_ne _ _ (by omega), mu_at]
  · rw [mu_at]; rfl
  · rw [mu_ne _ _ (by omega), mu_at, List.length_reverse, hml, List.length_nil, Nat.add_zero]
  · rw [epl, List.reverse_reverse, List.append_nil]; exact ct_mi hT
  · rw [enf] at e
    have := k0 (by rw [e]) m'
    rw [e] at this
    exact this h1 h2 h3 h4
  · rw [enf] at e
    rw [← e] at h1 ⊢
    exact kq (by omega) m' h2
/-- whether two TERMS have one NORMAL FORM -/
noncomputable def jnf (ay : Int → Nat) (N : Nat) (Lm Rm : Nat → List Int) (l r : List Int) : Int := if (nf ay N Lm Rm l).1 ≠ 0 then 2 else if (nf ay N Lm Rm r).1 ≠ 0 then 2 else if (nf ay N Lm Rm l).2.1 = (nf ay N Lm Rm r).2.1 then 1 else 0
theorem c_joins {r : List Int} {sz : Int} (hp : PP P) (k1 : am_kd an_K x1 = some (.inr (0, n1))) (b1 : n1 ≤ 100000) (hx1 : x1 < 28 ∨ 35 < x1) (hb : b = 54 ∨ b = 155) (hs : sc ≤ 16) (hR : Rg (ayw ar) N Lm Rm) (hRg : ∀ u, u < N → ∀ c, c ∈ Rm u → gp sc c) (hA : BA b sc ar m) (hK : BkM b N Lm Rm m) (hl : l.length ≤ 200) (hr : r.length ≤ 200) (hf0 : l.length + r.length ≤ n1) (hg : ∀ c, c ∈ l ++ r → gp sc c) (hT : ctt (ayw ar) l = some 1) (hT2 : ctt (ayw ar) r = some 1) (hsz : sz = ((l.length + r.length : Nat) : Int)) (hrow : Ro m x1 0 (l ++ r)) {post : Int → Mi → Mj → Mp → Prop} (k : ∀ m', (∀ a k, ¬ (28 ≤ a ∧ a ≤ 35) → m' a k = m a k) → (∀ k, ¬ (1 ≤ k ∧ k ≤ 6) → m' 28 k = m 28 k) → post (jnf (ayw ar) N Lm Rm l r) m' J P) : Ci X (d + 3) 66 [.ref 28, .ref x1, .int (iz (l.length : Int)), .int (iz sz), .ref b] m J P post := by
  subst hsz
  have kb := kd_book hb
  have es : ((l.length + r.length : Nat) : Int) - (l.length : Int) = (r.length : Int) := by omega
  refine Ci.of rfl rfl rfl (b_Reducer_joins_0 x1 n1 l.length ((l.length + r.length : Nat) : Int) b k1 b1 kb m J P hp post ?_)
  have z0 : (0 : Int) = ((0 : Nat) : Int) := rfl
  have hrow1 := (Ro_app.mp hrow).1
  have hrow2 := (Ro_app.mp hrow).2
  rw [Nat.zero_add] at hrow2
  refine c_reduce (l := l) (from_ := 0) hp k1 b1 (by omega) hb hs hR hRg hA hK hl (by omega) (fun c hc => hg c (List.mem_append_left _ hc)) hT hrow1 (fun e0 m1 w1 w2 w3 w4 => ?_) (fun e0 m1 w4 => ?_)
  · have hlow := w1.2.1
    have h200 := w1.1
    have hleft := nr_left (N := N) (ay := ayw ar) (Lm := Lm) (Rm := Rm) 1000 (mi (ayw ar) l).reverse []
    have hleft' : (nf (ayw ar) N Lm Rm l).2.2 ≤ 1000 := hleft
    refine ⟨hp, by constructor <;> omega, fun _ => ⟨by rw [hlow]; omega, ?_⟩, fun h => absurd (by omega) h⟩
    rw [hlow]
    generalize hf1 : (nf (ayw ar) N Lm Rm l).2.1 = f1 at w1 w2 w3 hlow h200 ⊢
    have e1 : (200 - (f1.length : Int)).toNat = 200 - f1.length := by omega
    have e2 : (200 - (200 - (f1.length : Int))) = (f1.length : Int) := by omega
    rw [e1, e2, es, show ((f1.length : Int)).toNat = f1.length by omega, show (0 : Int).toNat = 0 from rfl]
    have F2 : ∀ a k, a ≠ 32 → mcp m1 30 32 (200 - f1.length) 0 f1.length a k = m1 a k := fun a k h => by
      unfold mcp
      rw [if_neg (fun e => h e.1)]
    have R2 : Ro (mcp m1 30 32 (200 - f1.length) 0 f1.length) 32 0 f1 := Ro_of fun i hi => by
      unfold mcp
      rw [if_pos ⟨rfl, by omega, by omega⟩, Nat.zero_add, Nat.sub_zero]
      exact Ro_get w1.2.2.1 hi
    have M2 : ∀ a k, ¬ (28 ≤ a ∧ a ≤ 35) → mcp m1 30 32 (200 - f1.length) 0 f1.length a k = m a k := fun a k h => (F2 a k (by omega)).trans (w4 a k (by omega) (by omega))
    refine c_reduce (l := r) (from_ := l.length) hp k1 b1 (by omega) hb hs hR hRg (BA_fr hA hs fun k _ => M2 _ _ (by omega)) (BkM_fr hK fun a k _ _ => M2 _ _ (by omega)) hr (by omega) (fun c hc => hg c (List.mem_append_right _ hc)) hT2 (Ro_fr hrow2 fun k _ _ => M2 _ _ (by omega)) (fun e3 m3 v1 v2 v3 v4 => ?_) (fun e3 m3 v4 => ?_)
    · have hleft2 : (nf (ayw ar) N Lm Rm r).2.2 ≤ 1000 := nr_left (N := N) (ay := ayw ar) (Lm := Lm) (Rm := Rm) 1000 (mi (ayw ar) r).reverse []
      have M3 : ∀ a k, ¬ (28 ≤ a ∧ a ≤ 35) → m3 a k = m a k := fun a k h => (v4 a k (by omega) (by omega)).trans (M2 a k h)
      have M4 : ∀ k, ¬ (1 ≤ k ∧ k ≤ 6) → m3 28 k = m 28 k := fun k h => (v4 _ k (by omega) (by omega)).trans ((F2 _ k (by decide)).trans (w4 _ k (by omega) (by omega)))
      have hR3 : Ro m3 32 0 f1 := Ro_fr R2 fun k _ _ => v4 _ _ (by omega) (by omega)
      have ej : jnf (ayw ar) N Lm Rm l r = if f1 = (nf (ayw ar) N Lm Rm r).2.1 then 1 else 0 := by unfold jnf; rw [if_neg (fun h => h e0), if_neg (fun h => h e3), hf1]
      generalize hf2 : (nf (ayw ar) N Lm Rm r).2.1 = f2 at v1 v2 v3 ej
      have hlow2 := v1.2.1
      have h2002 := v1.1
      have e4 : (200 - (200 - (f2.length : Int))) = (f2.length : Int) := by omega
      refine ⟨hp, by constructor <;> omega, fun _ => ?_, fun h => absurd (by omega) h⟩
      rw [hlow2, e4]
      refine ⟨by constructor <;> omega, by constructor <;> omega, fun he => ?_, fun he => ?_⟩
      · -- cell by cell
        have loop : ∀ (a1 a2 u : List Int), f1 = u ++ a1 → f2 = u ++ a2 → Rn X (d + 3) 66 76 [some (.ref 28), some (.ref x1), some (.int (iz (l.length : Int))), some (.int (iz ((l.length + r.length : Nat) : Int))), some (.ref b), some (.int (iz (f1.length : Int))), some (.int (iz (u.length : Int)))] [] (SS m3 J P) (QI post) := by
          intro a1
          induction a1 with
          | nil =>
            intro a2 u g1 g2
            have hl1 := congrArg List.length g1
            have hl2 := congrArg List.length g2
            rw [List.length_append] at hl1 hl2
            have : a2 = [] := by
              rw [List.length_nil] at hl1
              exact List.length_eq_zero_iff.mp (by omega)
            subst this
            refine b_Reducer_joins_76 x1 n1 _ _ b _ _ k1 b1 kb m3 J P hp post ⟨by constructor <;> omega, by constructor <;> omega, fun _ => ?_, fun h => absurd (by rw [List.length_nil] at hl1; omega) h⟩
            rw [if_pos (g1.trans g2.symm)] at ej
            rw [← ej]
            exact k m3 M3 M4
          | cons c a1 ih =>
            intro a2 u g1 g2
            have hl1 := congrArg List.length g1
            have hl2 := congrArg List.length g2
            rw [List.length_append] at hl1 hl2
            rw [List.length_cons] at hl1
            cases a2 with
            | nil => rw [List.length_nil] at hl2; omega
            | cons c2 a2 =>
              rw [List.length_cons] at hl2
              have f1' := Ro_mem (p := u) (q := a1) (c := c) hR3 g1
              have f2' := Ro_mem (p := u) (q := a2) (c := c2) v1.2.2.1 g2
              rw [Nat.zero_add] at f1'
              have j1 : ((200 - (f2.length : Int)) + (u.length : Int)).toNat = 200 - f2.length + u.length := by omega
              have j2 : ((u.length : Nat) : Int).toNat = u.length := by omega
              have q1 := w2 c (by rw [g1]; simp)
              have q2 := v2 c2 (by rw [g2]; simp)
              have q11 := q1.1
              have q12 := q1.2.1
              have q21 := q2.1
              have q22 := q2.2.1
              refine b_Reducer_joins_76 x1 n1 _ _ b _ _ k1 b1 kb m3 J P hp post ⟨by constructor <;> omega, by constructor <;> omega, fun h => absurd h (by omega), fun _ => ?_⟩
              rw [hlow2, j1, j2, f2', f1']
              refine ⟨by omega, by omega, by constructor <;> omega, by constructor <;> omega, fun e => ?_, fun e => ?_⟩
              · subst e
                have e5 : (u.length : Int) + 1 = ((u ++ [c2]).length : Int) := by simp
                rw [e5]
                exact ih a2 (u ++ [c2]) (by rw [g1]; simp) (by rw [g2]; simp)
              · rw [if_neg (fun e6 => e ?_)] at ej
                · rw [← ej]
                  exact k m3 M3 M4
                · rw [g1, g2] at e6
                  have := List.append_cancel_left e6
                  injection this with e7
                  exact e7.symm
        exact loop f1 f2 [] rfl rfl
      · rw [if_neg (fun e => he (by rw [e]))] at ej
        rw [← ej]
        exact k m3 M3 M4
    · have hneg := nr_range (N := N) (ay := ayw ar) (Lm := Lm) (Rm := Rm) 1000 (mi (ayw ar) r).reverse []
      have hneg' : (nf (ayw ar) N Lm Rm r).1 = 0 ∨ (nf (ayw ar) N Lm Rm r).1 = -2 ∨ (nf (ayw ar) N Lm Rm r).1 = -3 := hneg
      have ej : jnf (ayw ar) N Lm Rm l r = 2 := by unfold jnf; rw [if_neg (fun h => h e0), if_pos e3]
      refine ⟨hp, by constructor <;> omega, fun h => absurd h (by omega), fun _ => ?_⟩
      rw [← ej]
      exact k m3 (fun a k h => (v4 a k (by omega) (by omega)).trans (M2 a k h)) (fun k h => (v4 _ k (by omega) (by omega)).trans ((F2 _ k (by decide)).trans (w4 _ k (by omega) (by omega))))
  · have hneg := nr_range (N := N) (ay := ayw ar) (Lm := Lm) (Rm := Rm) 1000 (mi (ayw ar) l).reverse []
    have hneg' : (nf (ayw ar) N Lm Rm l).1 = 0 ∨ (nf (ayw ar) N Lm Rm l).1 = -2 ∨ (nf (ayw ar) N Lm Rm l).1 = -3 := hneg
    have ej : jnf (ayw ar) N Lm Rm l r = 2 := by unfold jnf; rw [if_pos e0]
    refine ⟨hp, by constructor <;> omega, fun h => absurd h (by omega), fun _ => ?_⟩
    rw [← ej]
    exact k m1 (fun a k h => w4 a k (by omega) (by omega)) (fun k h => w4 _ k (by omega) (by omega))
/-- takeForm() writes the NORMAL FORM -/
theorem c_takeForm {f : List Int} (hp : PP P) (k1 : am_kd an_K x1 = some (.inr (0, n1))) (b1 : n1 ≤ 100000) (hx1 : x1 < 28) (hn : 200 ≤ n1) (hb : b = 54 ∨ b = 155) (hs : sc ≤ 16) (hA : BA b sc ar m) (hD : DN (ayw ar) m f) (hg : ∀ c, c ∈ f → gp sc c) (hT : ctt (ayw ar) f = some 1) {post : Mi → Mj → Mp → Prop} (k : ∀ m', Ro m' x1 0 (mi (ayw ar) f) → (∀ a k, a ≠ 34 → a ≠ 35 → a ≠ x1 → m' a k = m a k) → post m' J P) : Cv X (d + 2) 81 [.ref 28, .ref x1, .ref b] m J P post := by
  have kb := kd_book hb
  have h200 := hD.1
  refine Cv.of rfl rfl rfl (b_Reducer_takeForm_0 x1 n1 b k1 b1 kb m J P hp post ?_)
  have e1 : m 28 4 = ((200 - f.length : Nat) : Int) := by rw [hD.2.1]; omega
  have e2 : (200 - ((200 - f.length : Nat) : Int)) = (f.length : Int) := by omega
  have z0 : (0 : Int) = ((0 : Nat) : Int) := rfl
  rw [e1, e2]
  exact c_mirror (l := f) (from_ := 200 - f.length) (at_ := 0) hp kb (by omega) hs (by decide +kernel : am_kd an_K 30 = some (.inr (0, 200))) (by decide) k1 b1 h200 (by decide) (by omega) (by omega) (by omega) (by omega) hA (fun c hc => gd_gp hs (hg c hc)) hT hD.2.2.1 (fun m' w1 w2 => ⟨hp, k m' w1 fun a k g1 g2 g3 => w2 a k g1 g2 (fun e => g3 e.1)⟩)
end RJN
