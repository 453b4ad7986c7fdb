/-! SYMBOLS and NAMES are judged -/
section JNM
variable {X : aX} {d : Nat} {P : Mp} {b o sc base : Nat} {Sn : Nat → Nat} {n most : Int} {m : Mi} {J : Mj} {Z : Mi}
/-- the first SYMBOL that was told ahead, -1 without -/
def jS (Sn : Nat → Nat) : Nat → Nat → Int
  | 0, _ => -1
  | k + 1, s => if 0 ≤ sfi Sn (Sn s) 0 s then (s : Int) else jS Sn k (s + 1)
theorem sfi_app (Sn : Nat → Nat) (w : Nat) : ∀ (k i j : Nat), sfi Sn w i (k + j) = if 0 ≤ sfi Sn w i k then sfi Sn w i k else sfi Sn w (i + k) j
  | 0, i, j => by
    have e : sfi Sn w i 0 = -1 := rfl
    rw [e, if_neg (by decide), Nat.zero_add, Nat.add_zero]
  | k + 1, i, j => by
    rw [show k + 1 + j = (k + j) + 1 by omega, sfi, sfi]
    by_cases h : Sn i = w
    · rw [if_pos h, if_pos h, if_pos (by omega)]
    · rw [if_neg h, if_neg h, sfi_app Sn w k (i + 1) j, show i + 1 + k = i + (k + 1) by omega]
theorem sfi_self {s : Nat} (hs : s < sc) : (sy Sn sc (Sn s) < s ↔ 0 ≤ sfi Sn (Sn s) 0 s) ∧ 0 ≤ sy Sn sc (Sn s) ∧ sy Sn sc (Sn s) ≤ s := by
  have e : sfi Sn (Sn s) 0 sc = if 0 ≤ sfi Sn (Sn s) 0 s then sfi Sn (Sn s) 0 s else s := by
    rw [show sc = s + ((sc - s - 1) + 1) by omega, sfi_app, show 0 + s = s by omega, show sfi Sn (Sn s) s (sc - s - 1 + 1) = s by rw [sfi, if_pos rfl]]
  have b1 := sfi_bd Sn (Sn s) s 0
  unfold sy
  rw [e]
  by_cases h : 0 ≤ sfi Sn (Sn s) 0 s
  · rw [if_pos h, if_neg (by omega)]
    exact ⟨⟨fun _ => h, fun _ => by omega⟩, h, by omega⟩
  · rw [if_neg h, if_neg (by omega)]
    exact ⟨⟨fun g => by omega, fun g => absurd g h⟩, by omega, by omega⟩
theorem jS_bd (Sn : Nat → Nat) : ∀ (k s : Nat), -1 ≤ jS Sn k s ∧ jS Sn k s < (s + k : Nat)
  | 0, s => by unfold jS; omega
  | k + 1, s => by
    have := jS_bd Sn k (s + 1)
    unfold jS
    split <;> omega
theorem c_checkSymbols_2 (hp : PP P) (kb : am_kd an_K b = some (.inl 10)) (hB : BN b Sn sc m J) {post : Int → Mi → Mj → Mp → Prop} : ∀ (k s : Nat), s + k = sc → (jS Sn k s < 0 → post 1 m J P) → (0 ≤ jS Sn k s → post 0 (mu (mu m 4 3 4) 4 4 (m (b + 3) (jS Sn k s).toNat)) J P) → Rn X (d + 1) 37 2 [some (.ref 4), some (.ref b), some (.int (iz (s : Int)))] [] (SS m J P) (QI post) := by
  have e4 := hB.1.1
  have h16 := hB.1.2
  intro k
  induction k with
  | zero =>
    intro s hs k1 k2
    exact b_Reader_checkSymbols_2 b s kb m J P hp post ⟨by constructor <;> omega, by rw [e4]; constructor <;> omega, fun _ => k1 (by unfold jS; decide), fun h => absurd (by rw [e4]; omega) h⟩
  | succ k ih =>
    intro s hs k1 k2
    have hn := hB.2 s (by omega)
    have es : ((s : Nat) : Int).toNat = s := by omega
    have hf := sfi_self (Sn := Sn) (sc := sc) (s := s) (by omega)
    refine b_Reader_checkSymbols_2 b s kb m J P hp post ⟨by constructor <;> omega, by rw [e4]; constructor <;> omega, fun h => absurd h (by rw [e4]; omega), fun _ => ⟨by omega, ?_⟩⟩
    rw [es, hn.1]
    refine c_symbolOf hp kb hB hn.2 ⟨hp, by constructor <;> omega, by constructor <;> omega, fun g => ?_, fun g => ⟨by omega, c_refuse hp ⟨hp, Or.inl rfl, ?_⟩⟩⟩
    · have e : jS Sn (k + 1) s = jS Sn k (s + 1) := by rw [jS, if_neg (fun h => by have := hf.1.mpr h; omega)]
      rw [e] at k1 k2
      exact ih (s + 1) (by omega) k1 k2
    · have e : jS Sn (k + 1) s = s := by rw [jS, if_pos (hf.1.mp (by omega))]
      rw [e] at k2
      rw [es] at k2
      exact k2 (by omega)
theorem c_checkSymbols (hp : PP P) (kb : am_kd an_K b = some (.inl 10)) (hB : BN b Sn sc m J) {post : Int → Mi → Mj → Mp → Prop} (k1 : jS Sn sc 0 < 0 → post 1 m J P) (k2 : 0 ≤ jS Sn sc 0 → post 0 (mu (mu m 4 3 4) 4 4 (m (b + 3) (jS Sn sc 0).toNat)) J P) : Ci X (d + 1) 37 [.ref 4, .ref b] m J P post :=
  Ci.of rfl rfl rfl (b_Reader_checkSymbols_0 b kb m J P hp post (c_checkSymbols_2 hp kb hB sc 0 (by omega) k1 k2))
/-- the reference's search of a name -/
theorem r_symbolOf_3 {a na w : Nat} {x4 : Int} (hp : PP P) (ka : am_kd an_K a = some (.inr (3, na))) (ba : na ≤ 100000) (hs : sc ≤ na) (hJ : ∀ i : Nat, i < sc → J a i = rN (Sn i) ∧ isN (Sn i)) (hw : isN w) (e4 : x4 = sc) {post : Int → Mi → Mj → Mp → Prop} : ∀ (k i : Nat), i + k = sc → post (sfi Sn w i k) m J P → Rn X d 150 3 [some (.ref 262), some (.long (rN w)), none, some (.ref a), some (.int (iz x4)), some (.int (iz (i : Int)))] [] (SS m J P) (QI post) := by
  intro k
  induction k with
  | zero =>
    intro i hi h
    exact b_Mdl_symbolOf_3 (rN w) a na x4 i ka ba m J P hp post ⟨by constructor <;> omega, by constructor <;> omega, fun _ => h, fun g => absurd (by omega) g⟩
  | succ k ih =>
    intro i hi h
    have hn := hJ i (by omega)
    refine b_Mdl_symbolOf_3 (rN w) a na x4 i ka ba m J P hp post ⟨by constructor <;> omega, by constructor <;> omega, fun g => absurd g (by omega), fun _ => ⟨by omega, zcmp_zr _ _, fun g => ?_, fun g => ?_⟩⟩
    · rw [zcmp_0, show ((i : Int)).toNat = i by omega, hn.1, rN_inj hn.2 hw] at g
      rw [sfi, if_neg g] at h
      exact ih (i + 1) (by omega) h
    · rw [zcmp_0, show ((i : Int)).toNat = i by omega, hn.1, rN_inj hn.2 hw] at g
      rw [sfi, if_pos (Classical.not_not.mp g)] at h
      exact h
theorem r_symbolOf {a na w : Nat} {x4 : Int} (hp : PP P) (ka : am_kd an_K a = some (.inr (3, na))) (ba : na ≤ 100000) (hs : sc ≤ na) (hJ : ∀ i : Nat, i < sc → J a i = rN (Sn i) ∧ isN (Sn i)) (hw : isN w) (e4 : x4 = sc) {post : Int → Mi → Mj → Mp → Prop} (k : post (sfi Sn w 0 sc) m J P) : Ci X d 150 [.ref 262, .long (rN w), .ref a, .int (iz x4)] m J P post :=
  Ci.of rfl rfl rfl (b_Mdl_symbolOf_0 (rN w) a na x4 ka ba m J P hp post (r_symbolOf_3 hp ka ba hs hJ hw e4 sc 0 (by omega) k))
theorem r_judgeSym (hp : PP P) (h14 : m 262 14 = sc) (h16 : sc ≤ 16) (hJ : ∀ i : Nat, i < sc → J 264 i = rN (Sn i) ∧ isN (Sn i)) (h10 : m 262 10 = 0) {post : Mi → Mj → Mp → Prop} : ∀ (k s : Nat), s + k = sc → (jS Sn k s < 0 → Rn X (d + 4) 149 54 [some (.ref 262), some (.int (iz 0))] [] (SS m J P) (QV post)) → (0 ≤ jS Sn k s → Rn X (d + 4) 149 54 [some (.ref 262), some (.int (iz 0))] [] (SS (mu (mu m 262 10 4) 262 11 (m 267 (jS Sn k s).toNat)) J P) (QV post)) → Rn X (d + 4) 149 2 [some (.ref 262), some (.int (iz (s : Int)))] [] (SS m J P) (QV post) := by
  have z10 : Zr (m 262 10) := by rw [h10]; exact zr0
  intro k
  induction k with
  | zero =>
    intro s hs k1 k2
    exact b_Mdl_judgeSystem_2 s m J P hp post ⟨by constructor <;> omega, by rw [h14]; constructor <;> omega, fun _ => k1 (by unfold jS; decide), fun h => absurd (by rw [h14]; omega) h⟩
  | succ k ih =>
    intro s hs k1 k2
    have hn := hJ s (by omega)
    have es : ((s : Nat) : Int).toNat = s := by omega
    have hb := sfi_bd Sn (Sn s) s 0
    refine b_Mdl_judgeSystem_2 s m J P hp post ⟨by constructor <;> omega, by rw [h14]; constructor <;> omega, fun h => absurd h (by rw [h14]; omega), fun _ => ⟨z10, fun h => absurd h10 h, fun _ => ⟨by omega, ?_⟩⟩⟩
    rw [es, hn.1]
    refine r_symbolOf (na := 16) (sc := s) (Sn := Sn) hp (by decide +kernel) (by decide) (by omega) (fun i hi => hJ i (by omega)) hn.2 rfl ⟨hp, by constructor <;> omega, fun g => ?_, fun g => ⟨by omega, r_fail hp z10 ⟨hp, ?_⟩⟩⟩
    · have e : jS Sn (k + 1) s = jS Sn k (s + 1) := by rw [jS, if_neg (by omega)]
      rw [e] at k1 k2
      exact ih (s + 1) (by omega) k1 k2
    · have e : jS Sn (k + 1) s = s := by rw [jS, if_pos (by omega)]
      rw [e, es] at k2
      rw [rf_0 h10]
      have q10 : mu (mu m 262 10 4) 262 11 (m 267 s) 262 10 = 4 := by rw [mu_ne _ _ (by decide), mu_at]
      have q14 : mu (mu m 262 10 4) 262 11 (m 267 s) 262 14 = sc := by rw [mu_ne _ _ (by decide), mu_ne _ _ (by decide)]; exact h14
      exact b_Mdl_judgeSystem_2 _ _ J P hp post ⟨by constructor <;> omega, by rw [q14]; constructor <;> omega, fun _ => k2 (by omega), fun _ => ⟨by rw [q10]; constructor <;> decide, fun _ => k2 (by omega), fun h => absurd (by rw [q10]; decide) h⟩⟩
/-- the FAULT of a name (0 without) and its place -/
def jN (Sn : Nat → Nat) (sc : Nat) (ar : Nat → Int) (Z : Mi) : Nat → Nat → Int × Int
  | 0, _ => (0, -1)
  | k + 1, c => if 0 ≤ Z 1 c then jN Sn sc ar Z k (c + 1) else if sfi Sn (Z 2 c).toNat 0 sc < 0 then (5, Z 3 c) else if ar (sfi Sn (Z 2 c).toNat 0 sc).toNat ≠ Z 4 c then (6, Z 3 c) else jN Sn sc ar Z k (c + 1)
theorem jN_bd (ar : Nat → Int) (Z : Mi) : ∀ k c, 0 ≤ (jN Sn sc ar Z k c).1 ∧ (jN Sn sc ar Z k c).1 ≤ 6
  | 0, c => by unfold jN; decide
  | k + 1, c => by
    have := jN_bd ar Z k (c + 1)
    unfold jN
    repeat' split
    · exact this
    · show (0 : Int) ≤ 5 ∧ (5 : Int) ≤ 6; decide
    · show (0 : Int) ≤ 6 ∧ (6 : Int) ≤ 6; decide
    · exact this
theorem jN_app (ar : Nat → Int) (Z : Mi) : ∀ k c j, jN Sn sc ar Z (k + j) c = if (jN Sn sc ar Z k c).1 = 0 then jN Sn sc ar Z j (c + k) else jN Sn sc ar Z k c
  | 0, c, j => by
    have e : jN Sn sc ar Z 0 c = (0, -1) := rfl
    rw [e, if_pos rfl, Nat.zero_add, Nat.add_zero]
  | k + 1, c, j => by
    have ih := jN_app ar Z k (c + 1) j
    rw [show k + 1 + j = (k + j) + 1 by omega, jN, jN]
    by_cases h1 : 0 ≤ Z 1 c
    · rw [if_pos h1, if_pos h1, ih, show c + 1 + k = c + (k + 1) by omega]
    rw [if_neg h1, if_neg h1]
    by_cases h2 : sfi Sn (Z 2 c).toNat 0 sc < 0
    · rw [if_pos h2, if_pos h2, if_neg (show ¬ (5 : Int) = 0 by decide)]
    rw [if_neg h2, if_neg h2]
    by_cases h3 : ar (sfi Sn (Z 2 c).toNat 0 sc).toNat ≠ Z 4 c
    · rw [if_pos h3, if_pos h3, if_neg (show ¬ (6 : Int) = 0 by decide)]
    rw [if_neg h3, if_neg h3, ih, show c + 1 + k = c + (k + 1) by omega]
theorem zand_31 {x : Int} (h : 0 ≤ x ∧ x < 128) : zand x 31 = x % 32 := by
  have g : ((List.range 128).all fun k => decide (zand ((k : Nat) : Int) 31 = ((k : Nat) : Int) % 32)) = true := by decide +kernel
  have := of_decide_eq_true (List.all_eq_true.mp g x.toNat (List.mem_range.mpr (by omega)))
  rw [show ((x.toNat : Nat) : Int) = x by omega] at this
  exact this
/-- argumentsOf() of a cell without a mark: its SYMBOL's ARITY -/
theorem c_argumentsOf {x : Int} (hp : PP P) (kb : am_kd an_K b = some (.inl 10)) (hx : -2147483648 ≤ x ∧ x < 128) {post : Int → Mi → Mj → Mp → Prop} (k1 : x < 0 ∨ 16 ≤ x % 32 → post 0 m J P) (k2 : 0 ≤ x → x % 32 < 16 → post (m (b + 2) (x % 32).toNat) m J P) : Ci X d 40 [.ref b, .int (iz x)] m J P post := by
  refine Ci.of rfl rfl rfl (b_Book_argumentsOf_0 b x kb m J P hp post ⟨by constructor <;> omega, fun g => k1 (Or.inl g), fun g => ?_⟩)
  rw [zand_31 ⟨by omega, hx.2⟩]
  exact ⟨by constructor <;> omega, fun g2 => ⟨by omega, k2 (by omega) g2⟩, fun g2 => k1 (Or.inr (by omega))⟩
theorem c_given_6 {c : Nat} {e pt : Nat} (hp : PP P) (ko : am_kd an_K o = some (.inl 8)) (hc : c < 80) (he : e ≤ 80) (hpt : pt ≤ 40) (hnx : ∀ j : Nat, j < e → m (o + 2) j = nxY Z j) (hce : m (o + 2) c = e) {post : Int → Mi → Mj → Mp → Prop} (k : post pt m J P) : ∀ (q a g : Nat), g + q = pt → ch (nxY Z) e q a → Rn X d 39 6 [some (.ref o), some (.int (iz (c : Int))), some (.int (iz (g : Int))), some (.int (iz (a : Int)))] [] (SS m J P) (QI post) := by
  intro q
  induction q with
  | zero =>
    intro a g hg hch
    unfold ch at hch
    have ecc : ((c : Nat) : Int).toNat = c := by omega
    rw [show g = pt by omega]
    refine b_Equation_argumentsGiven_6 o c pt a ko m J P hp post ⟨by constructor <;> omega, fun _ => k, fun _ => ⟨by omega, by constructor <;> omega, ?_, fun _ => k, fun h => ?_⟩⟩
    · rw [ecc, hce]; constructor <;> omega
    · rw [ecc, hce] at h; omega
  | succ q ih =>
    intro a g hg hch
    unfold ch at hch
    have ecc : ((c : Nat) : Int).toNat = c := by omega
    have eca : ((a : Nat) : Int).toNat = a := by omega
    refine b_Equation_argumentsGiven_6 o c g a ko m J P hp post ⟨by constructor <;> omega, fun h => absurd h (by omega), fun _ => ⟨by omega, by constructor <;> omega, ?_, fun h => ?_, fun _ => ⟨by omega, ?_⟩⟩⟩
    · rw [ecc, hce]; constructor <;> omega
    · rw [ecc, hce] at h; omega
    · rw [eca, hnx a (by omega)]
      exact ih (nxY Z a) (g + 1) (by omega) hch.2.2
theorem yZ_c (h : yZ n most Z) {c : Nat} (hc : (c : Int) < Z 0 3) : (c < nxY Z c ∧ nxY Z c ≤ (Z 0 3).toNat ∧ ch (nxY Z) (nxY Z c) (ptY Z c) (c + 1)) ∧ ptY Z c ≤ 39 := by
  obtain ⟨⟨h1, h2, _⟩, ⟨tA, tB⟩, _⟩ := h
  by_cases e : c < (Z 0 7).toNat
  · have g := tA.2.2 c (Nat.zero_le _) e
    have := ch_le g.2.2
    exact ⟨⟨g.1, by omega, g.2.2⟩, by omega⟩
  · have g := tB.2.2 c (by omega) (by omega)
    have := ch_le g.2.2
    exact ⟨g, by omega⟩
/-- items that can be judged by name -/
def yU (n most : Int) (Z : Mi) : Prop := ((0 ≤ Z 0 3 ∧ Z 0 3 ≤ 80) ∧ (0 ≤ Z 0 4 ∧ Z 0 4 ≤ most)) ∧ (∀ c : Nat, (c : Int) < Z 0 3 → (c < nxY Z c ∧ nxY Z c ≤ (Z 0 3).toNat ∧ ch (nxY Z) (nxY Z c) (ptY Z c) (c + 1)) ∧ ptY Z c ≤ 39) ∧ (∀ c : Nat, (c : Int) < Z 0 3 → (0 ≤ Z 4 c ∧ 0 ≤ Z 5 c) ∧ (0 ≤ Z 1 c → Z 4 c = 0) ∧ (-1 ≤ Z 1 c ∧ Z 1 c < Z 0 4) ∧ (0 ≤ Z 2 c ∧ isN (Z 2 c).toNat) ∧ (0 ≤ Z 3 c ∧ Z 3 c ≤ n)) ∧ (∀ v : Nat, (v : Int) < Z 0 4 → 0 ≤ Z 7 v ∧ isN (Z 7 v).toNat)
theorem yZ_U (h : yZ n most Z) : yU n most Z := by
  have h1 := h.1
  exact ⟨by omega, fun c hc => yZ_c h hc, h.2.2.1, h.2.2.2.2.2⟩
theorem c_given (hp : PP P) (ko : am_kd an_K o = some (.inl 8)) (hZ : yU n most Z) (hY : EY o Sn sc Z m J) {c : Nat} (hc : (c : Int) < Z 0 3) {post : Int → Mi → Mj → Mp → Prop} (k : post (Z 4 c) m J P) : Ci X d 39 [.ref o, .int (iz (c : Int))] m J P post := by
  have g := hZ.2.1 c hc
  have h1 := hZ.1
  have i4 := (hZ.2.2.1 c hc).1
  have enx : ∀ j : Nat, (j : Int) < Z 0 3 → m (o + 2) j = nxY Z j := fun j hj => by
    rw [(hY.2.1 j hj).2.1]
    have := (hZ.2.2.1 j hj).1
    unfold nxY; omega
  have ept : Z 4 c = ((ptY Z c : Nat) : Int) := by unfold ptY; omega
  rw [ept] at k
  exact Ci.of rfl rfl rfl (b_Equation_argumentsGiven_0 o c ko m J P hp post (c_given_6 (Z := Z) (e := nxY Z c) (pt := ptY Z c) hp ko (by omega) (by omega) (by omega) (fun j hj => enx j (by omega)) (enx c hc) k (ptY Z c) (c + 1) 0 (by omega) g.1.2.2))
/-- the ARITIES of a book -/
def BA (b sc : Nat) (ar : Nat → Int) (m : Mi) : Prop := ∀ i : Nat, i < sc → m (b + 2) i = ar i ∧ 0 ≤ ar i ∧ ar i ≤ 4
theorem c_checkNames_2 {ar : Nat → Int} (hp : PP P) (kb : am_kd an_K b = some (.inl 10)) (ko : am_kd an_K o = some (.inl 8)) (hs : sc ≤ 16) (hA : BA b sc ar m) (hZ : yU n most Z) (hm : most ≤ 8) (hn : n ≤ 1600) (hY : EY o Sn sc Z m J) {post : Int → Mi → Mj → Mp → Prop} : ∀ (k c : Nat), (c : Int) + k = Z 0 3 → ((jN Sn sc ar Z k c).1 = 0 → post 1 m J P) → ((jN Sn sc ar Z k c).1 ≠ 0 → post 0 (mu (mu m 4 3 (jN Sn sc ar Z k c).1) 4 4 (jN Sn sc ar Z k c).2) J P) → Rn X (d + 1) 38 2 [some (.ref 4), some (.ref b), some (.ref o), some (.int (iz (c : Int))), none] [] (SS m J P) (QI post) := by
  have e6 := hY.1
  have h1 := hZ.1
  intro k
  induction k with
  | zero =>
    intro c hc k1 k2
    exact b_Reader_checkNames_2 b o c kb ko m J P hp post ⟨by constructor <;> omega, by rw [e6]; constructor <;> omega, fun _ => k1 rfl, fun h => absurd (by rw [e6]; omega) h⟩
  | succ k ih =>
    intro c hc k1 k2
    have ec : ((c : Nat) : Int).toNat = c := by omega
    have y := hY.2.1 c (by omega)
    obtain ⟨z1, z2, z3, z4, z5⟩ := hZ.2.2.1 c (by omega)
    have hb := sfi_bd Sn (Z 2 c).toNat sc 0
    have ecode : m (o + 1) c = if 0 ≤ Z 1 c then -1 - Z 1 c else if sfi Sn (Z 2 c).toNat 0 sc < 0 then 16 else sfi Sn (Z 2 c).toNat 0 sc := by rw [y.1, ce, sy]
    refine b_Reader_checkNames_2 b o c kb ko m J P hp post ⟨by constructor <;> omega, by rw [e6]; constructor <;> omega, fun h => absurd h (by rw [e6]; omega), fun _ => ⟨by omega, ?_⟩⟩
    rw [ec, ecode, y.2.2]
    by_cases v : 0 ≤ Z 1 c
    · rw [if_pos v]
      have e : jN Sn sc ar Z (k + 1) c = jN Sn sc ar Z k (c + 1) := by rw [jN, if_pos v]
      rw [e] at k1 k2
      refine ⟨by constructor <;> omega, fun _ => c_given hp ko hZ hY (by omega) ⟨hp, c_argumentsOf hp kb (by omega) (fun _ => ⟨hp, ?_, zr0, fun _ => ih (c + 1) (by omega) k1 k2, fun h => absurd (z2 v) h⟩) (fun g => absurd g (by omega))⟩, fun h => absurd (fun e => by omega) h⟩
      rw [z2 v]; exact zr0
    · rw [if_neg v]
      by_cases s : sfi Sn (Z 2 c).toNat 0 sc < 0
      · rw [if_pos s]
        have e : jN Sn sc ar Z (k + 1) c = (5, Z 3 c) := by rw [jN, if_neg v, if_pos s]
        rw [e] at k2
        exact ⟨by constructor <;> decide, fun h => absurd rfl h, fun _ => ⟨by omega, c_refuse hp ⟨hp, Or.inl rfl, k2 (by show (5 : Int) ≠ 0; decide)⟩⟩⟩
      · rw [if_neg s]
        have ha := hA (sfi Sn (Z 2 c).toNat 0 sc).toNat (by omega)
        have g39 := (hZ.2.1 c (by omega)).2
        have i4 : Z 4 c = ((ptY Z c : Nat) : Int) := by unfold ptY; omega
        refine ⟨by constructor <;> omega, fun _ => c_given hp ko hZ hY (by omega) ⟨hp, c_argumentsOf hp kb (by omega) (fun g => absurd g (by omega)) (fun _ _ => ⟨hp, by constructor <;> omega, ?_, fun h => ?_, fun h => ⟨by omega, c_refuse hp ⟨hp, Or.inl rfl, ?_⟩⟩⟩)⟩, fun h => absurd (fun e => by omega) h⟩
        · rw [show (sfi Sn (Z 2 c).toNat 0 sc % 32).toNat = (sfi Sn (Z 2 c).toNat 0 sc).toNat by omega, ha.1]; constructor <;> omega
        · rw [show (sfi Sn (Z 2 c).toNat 0 sc % 32).toNat = (sfi Sn (Z 2 c).toNat 0 sc).toNat by omega, ha.1] at h
          have e : jN Sn sc ar Z (k + 1) c = jN Sn sc ar Z k (c + 1) := by rw [jN, if_neg v, if_neg s, if_neg (fun g => g h.symm)]
          rw [e] at k1 k2
          exact ih (c + 1) (by omega) k1 k2
        · rw [show (sfi Sn (Z 2 c).toNat 0 sc % 32).toNat = (sfi Sn (Z 2 c).toNat 0 sc).toNat by omega, ha.1] at h
          have e : jN Sn sc ar Z (k + 1) c = (6, Z 3 c) := by rw [jN, if_neg v, if_neg s, if_pos (fun g => h g.symm)]
          rw [e] at k2
          rw [y.2.2]
          exact k2 (by show (6 : Int) ≠ 0; decide)
theorem c_checkNames {ar : Nat → Int} (hp : PP P) (kb : am_kd an_K b = some (.inl 10)) (ko : am_kd an_K o = some (.inl 8)) (hs : sc ≤ 16) (hA : BA b sc ar m) (hZ : yU n most Z) (hm : most ≤ 8) (hn : n ≤ 1600) (hY : EY o Sn sc Z m J) {post : Int → Mi → Mj → Mp → Prop} (k1 : (jN Sn sc ar Z (Z 0 3).toNat 0).1 = 0 → post 1 m J P) (k2 : (jN Sn sc ar Z (Z 0 3).toNat 0).1 ≠ 0 → post 0 (mu (mu m 4 3 (jN Sn sc ar Z (Z 0 3).toNat 0).1) 4 4 (jN Sn sc ar Z (Z 0 3).toNat 0).2) J P) : Ci X (d + 1) 38 [.ref 4, .ref b, .ref o] m J P post := by
  have h1 := hZ.1
  exact Ci.of rfl rfl rfl (b_Reader_checkNames_0 b o kb ko m J P hp post (c_checkNames_2 hp kb ko hs hA hZ hm hn hY (Z 0 3).toNat 0 (by omega) k1 k2))
/-- the reference judges names -/
theorem r_judgeNames_3 {ar : Nat → Int} {a na q nq : Nat} {x1 x2 x4 : Int} {hi : Nat} (hp : PP P) (ka : am_kd an_K a = some (.inr (3, na))) (ba : na ≤ 100000) (kq : am_kd an_K q = some (.inr (0, nq))) (bq : nq ≤ 100000) (hs : sc ≤ 16) (hs2 : sc ≤ na ∧ sc ≤ nq) (hJ : ∀ i : Nat, i < sc → J a i = rN (Sn i) ∧ isN (Sn i)) (e4 : x4 = sc) (hA : ∀ i : Nat, i < sc → m q i = ar i ∧ 0 ≤ ar i ∧ ar i ≤ 4) (hZ : yU n most Z) (hm : most ≤ 8) (hn : n ≤ 1600) (hb : base + 80 ≤ 2000) (h10 : m 262 10 = 0) (hR : ∀ c : Nat, (c : Int) < Z 0 3 → m 269 (base + c) = Z 1 c ∧ m 270 (base + c) = Z 3 c ∧ m 271 (base + c) = Z 4 c ∧ J 265 (base + c) = rN (Z 2 c).toNat) (hhi : (hi : Int) ≤ Z 0 3) (e2 : x2 = base + hi) {post : Mi → Mj → Mp → Prop} : ∀ (k c : Nat), c + k = hi → ((jN Sn sc ar Z k c).1 = 0 → post m J P) → ((jN Sn sc ar Z k c).1 ≠ 0 → post (mu (mu m 262 10 (jN Sn sc ar Z k c).1) 262 11 (jN Sn sc ar Z k c).2) J P) → Rn X (d + 1) 152 3 [some (.ref 262), some (.int (iz x1)), some (.int (iz x2)), some (.ref a), some (.int (iz x4)), some (.ref q), some (.int (iz (base + c : Int))), none] [] (SS m J P) (QV post) := by
  have h1 := hZ.1
  have z10 : Zr (m 262 10) := by rw [h10]; exact zr0
  have stop : ∀ (x6 k p : Int), 0 ≤ x6 → x6 ≤ 2001 → 0 < k → k ≤ 9 → post (mu (mu m 262 10 k) 262 11 p) J P → Rn X (d + 1) 152 3 [some (.ref 262), some (.int (iz x1)), some (.int (iz x2)), some (.ref a), some (.int (iz x4)), some (.ref q), some (.int (iz x6)), none] [] (SS (mu (mu m 262 10 k) 262 11 p) J P) (QV post) := fun x6 k p g1 g2 g3 g4 g5 => by
    have q10 : mu (mu m 262 10 k) 262 11 p 262 10 = k := by rw [mu_ne _ _ (by decide), mu_at]
    exact b_Mdl_judgeNames_3 x1 x2 a na x4 q nq x6 ka ba kq bq _ J P hp post ⟨by constructor <;> omega, by constructor <;> omega, fun _ => g5, fun _ => ⟨by rw [q10]; constructor <;> omega, fun _ => g5, fun h => absurd (by rw [q10]; omega) h⟩⟩
  intro k
  induction k with
  | zero =>
    intro c hc k1 k2
    exact b_Mdl_judgeNames_3 x1 x2 a na x4 q nq _ ka ba kq bq m J P hp post ⟨by constructor <;> omega, by constructor <;> omega, fun _ => k1 rfl, fun h => absurd (by omega) h⟩
  | succ k ih =>
    intro c hc k1 k2
    have ec : ((base : Int) + (c : Nat)).toNat = base + c := by omega
    obtain ⟨r1, r2, r3, r4⟩ := hR c (by omega)
    obtain ⟨z1, z2, z3, z4, z5⟩ := hZ.2.2.1 c (by omega)
    have hbd := sfi_bd Sn (Z 2 c).toNat sc 0
    have nx : (base : Int) + (c : Nat) + 1 = base + ((c + 1 : Nat) : Int) := by omega
    refine b_Mdl_judgeNames_3 x1 x2 a na x4 q nq _ ka ba kq bq m J P hp post ⟨by constructor <;> omega, by constructor <;> omega, fun h => absurd h (by omega), fun _ => ⟨z10, fun h => absurd h10 h, fun _ => ⟨by omega, ?_⟩⟩⟩
    rw [ec, r1, r4, nx]
    by_cases v : 0 ≤ Z 1 c
    · have e : jN Sn sc ar Z (k + 1) c = jN Sn sc ar Z k (c + 1) := by rw [jN, if_pos v]
      rw [e] at k1 k2
      exact ⟨by constructor <;> omega, fun h => absurd h (by omega), fun _ => ih (c + 1) (by omega) k1 k2⟩
    · refine ⟨by constructor <;> omega, fun _ => ⟨by omega, r_symbolOf hp ka ba hs2.1 hJ z4.2 e4 ⟨hp, by constructor <;> omega, fun s => ⟨by omega, by omega, ?_⟩, fun s => ⟨by omega, r_fail hp z10 ⟨hp, ?_⟩⟩⟩⟩, fun h => absurd (by omega) h⟩
      · have ha := hA (sfi Sn (Z 2 c).toNat 0 sc).toNat (by omega)
        have g39 := (hZ.2.1 c (by omega)).2
        have i4 : Z 4 c = ((ptY Z c : Nat) : Int) := by unfold ptY; omega
        rw [ha.1, r3]
        refine ⟨by constructor <;> omega, by constructor <;> omega, fun h => ?_, fun h => ⟨by omega, r_fail hp z10 ⟨hp, ?_⟩⟩⟩
        · have e : jN Sn sc ar Z (k + 1) c = jN Sn sc ar Z k (c + 1) := by rw [jN, if_neg v, if_neg (by omega), if_neg (fun g => g h)]
          rw [e] at k1 k2
          exact ih (c + 1) (by omega) k1 k2
        · have e : jN Sn sc ar Z (k + 1) c = (6, Z 3 c) := by rw [jN, if_neg v, if_neg (by omega), if_pos h]
          rw [e] at k2
          rw [rf_0 h10, r2]
          exact stop _ 6 _ (by omega) (by omega) (by decide) (by decide) (k2 (by show (6 : Int) ≠ 0; decide))
      · have e : jN Sn sc ar Z (k + 1) c = (5, Z 3 c) := by rw [jN, if_neg v, if_pos (by omega)]
        rw [e] at k2
        rw [rf_0 h10, r2]
        exact stop _ 5 _ (by omega) (by omega) (by decide) (by decide) (k2 (by show (5 : Int) ≠ 0; decide))
end JNM
