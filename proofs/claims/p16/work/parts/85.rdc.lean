/-! the class's Reducer: contract(), reduce() -/
section RDC
variable {X : aX} {d : Nat} {P : Mp} {J : Mj} {m : Mi} {b sc o N : Nat} {ar : Nat → Int} {dn : List Int} {σ : Int → List Int} {Lm Rm : Nat → List Int}
/-- what is to come: wb, the next one last -/
def WW (m : Mi) (wb : List Int) : Prop := wb.length ≤ 200 ∧ m 28 1 = (wb.length : Int) ∧ Ro m 29 0 wb
theorem zor_64 {x : Int} (h : 0 ≤ x ∧ x < 64) : zor x 64 = x + 64 := by
  have g : ((List.range 64).all fun k => decide (zor ((k : Nat) : Int) 64 = ((k : Nat) : Int) + 64)) = true := by decide +kernel
  have := of_decide_eq_true (List.all_eq_true.mp g x.toNat (List.mem_range.mpr (by omega)))
  rw [show ((x.toNat : Nat) : Int) = x by omega] at this
  exact this
theorem c_await {ay : Int → Nat} {p t z wb : List Int} (hp : PP P) (hD : DN ay m dn) (hb : ∀ c, c ∈ dn → -10000 ≤ c ∧ c < 16) (e : dn = p ++ (t ++ z)) (ht : ctt ay t = some 1) (hW : WW m wb) (hr : wb.length + t.length ≤ 200) {post : Mi → Mj → Mp → Prop} (k : ∀ m', WW m' (wb ++ t.map fg) → (∀ a k, ¬ (a = 28 ∧ k = 1) → a ≠ 29 → m' a k = m a k) → post m' J P) : Cv X d 72 [.ref 28, .int (iz ((200 - dn.length + p.length : Nat) : Int))] m J P post := by
  obtain ⟨s1, s2, s3, s4⟩ := DN_sz hD e ht
  have i1 : ((200 - dn.length + p.length : Nat) : Int).toNat = 200 - dn.length + p.length := by omega
  refine Cv.of rfl rfl rfl (b_Reducer_awaitSettled_0 _ m J P hp post ?_)
  have loop : ∀ (r u : List Int) (m1 : Mi), t = u ++ r → WW m1 (wb ++ u.map fg) → (∀ a k, ¬ (a = 28 ∧ k = 1) → a ≠ 29 → m1 a k = m a k) → Rn X d 72 2 [some (.ref 28), some (.int (iz ((200 - dn.length + p.length : Nat) : Int))), some (.int (iz ((200 - dn.length + p.length + u.length : Nat) : Int)))] [] (SS m1 J P) (QV post) := by
    intro r
    induction r with
    | nil =>
      intro u m1 q1 hW1 hf
      rw [List.append_nil] at q1
      subst q1
      refine b_Reducer_awaitSettled_2 _ _ m1 J P hp post ⟨by omega, by constructor <;> omega, ?_⟩
      rw [i1, hf _ _ (by omega) (by decide), s1]
      exact ⟨by constructor <;> omega, fun _ => k m1 hW1 hf, fun h => absurd (by omega) h⟩
    | cons c r ih =>
      intro u m1 q1 hW1 hf
      have a1 := congrArg List.length q1
      rw [List.length_append, List.length_cons] at a1
      have f1 := Ro_mem (p := p ++ u) (q := r ++ z) (c := c) hD.2.2.1 (by rw [e, q1]; simp only [List.append_assoc, List.cons_append])
      rw [List.length_append] at f1
      have hbc := hb c (by rw [e, q1]; simp)
      obtain ⟨w1, w2, w3⟩ := hW1
      rw [List.length_append, List.length_map] at w1 w2
      have j1 : ((200 - dn.length + p.length + u.length : Nat) : Int).toNat = 200 - dn.length + (p.length + u.length) := by omega
      have jt : (((wb.length + u.length : Nat)) : Int).toNat = wb.length + u.length := by omega
      have en : ((200 - dn.length + p.length + u.length : Nat) : Int) + 1 = ((200 - dn.length + p.length + (u ++ [c]).length : Nat) : Int) := by rw [List.length_append, List.length_singleton]; omega
      have nxt : ∀ x : Int, x = fg c → Rn X d 72 2 [some (.ref 28), some (.int (iz ((200 - dn.length + p.length : Nat) : Int))), some (.int (iz (((200 - dn.length + p.length + u.length : Nat) : Int) + 1)))] [] (SS (mu (mu m1 29 (wb.length + u.length) x) 28 1 (mu m1 29 (wb.length + u.length) x 28 1 + 1)) J P) (QV post) := fun x hx => by
        rw [en, mu_ne _ _ (by omega), w2]
        refine ih (u ++ [c]) _ (by rw [q1]; simp) ⟨by rw [List.length_append, List.length_map, List.length_append, List.length_singleton]; omega, by rw [mu_at, List.length_append, List.length_map, List.length_append, List.length_singleton]; omega, ?_⟩ (fun a k g1 g2 => by rw [mu_ne _ _ (by omega), mu_ne _ _ (by omega)]; exact hf a k g1 g2)
        rw [List.map_append, ← List.append_assoc]
        refine Ro_app.mpr ⟨Ro_fr w3 fun k g1 g2 => ?_, ?_, trivial⟩
        · rw [List.length_append, List.length_map] at g2
          rw [mu_ne _ _ (by omega), mu_ne _ _ (by omega)]
        · rw [List.length_append, List.length_map, Nat.zero_add, mu_ne _ _ (by omega), mu_at, hx]
      refine b_Reducer_awaitSettled_2 _ _ m1 J P hp post ⟨by omega, by constructor <;> omega, ?_⟩
      rw [i1, hf _ _ (by omega) (by decide), s1, w2, j1, hf 30 _ (by omega) (by decide), f1, jt]
      refine ⟨by constructor <;> omega, fun h => absurd h (by omega), fun _ => ⟨by constructor <;> omega, fun h => absurd h (by omega), fun _ => ⟨by omega, by constructor <;> omega, fun h => ⟨by omega, by omega, ?_⟩, fun h => ⟨by omega, by omega, ?_⟩⟩⟩⟩
      · exact nxt _ (by rw [zor_64 ⟨h, by omega⟩]; unfold fg; rw [if_neg (by omega)])
      · exact nxt _ (by unfold fg; rw [if_pos (by omega)])
  have := loop t [] m rfl (by rw [List.map_nil, List.append_nil]; exact hW) (fun _ _ _ _ => rfl)
  rw [List.length_nil, Nat.add_zero] at this
  exact this
/-- what comes of a RULE, its VARIABLES' parts flagged -/
def sf (σ : Int → List Int) (l : List Int) : List Int := sb (fun v => (σ v).map fg) l
theorem sf_len : ∀ {l : List Int}, (sf σ l).length = (sb σ l).length
  | [] => rfl
  | c :: l => by
    unfold sf
    rw [sb_cons, sb_cons, List.length_append, List.length_append]
    have := sf_len (l := l)
    unfold sf at this
    rw [this]
    congr 1
    split
    · rw [List.length_map]
    · rfl
theorem c_contract_120 {L R wb : List Int} (hp : PP P) (ko : am_kd an_K o = some (.inl 8)) (ho : 59 ≤ o) {m0 : Mi} (hb : ∀ c, c ∈ dn → -10000 ≤ c ∧ c < 16) (hs : tv (ayw ar) σ) (hR : ∀ c, c ∈ R → c < 0 → c ∈ L) (hr : wb.length + (sb σ R).length ≤ 200) {g : Nat} {post : Int → Mi → Mj → Mp → Prop} (k : ∀ m', WW m' (wb ++ sf σ R) → m' 28 4 = 200 - (dn.length : Int) + (g : Int) → (∀ a k, ¬ (a = 28 ∧ (k = 1 ∨ k = 4)) → a ≠ 29 → m' a k = m0 a k) → post 0 m' J P) : ∀ (R2 R1 : List Int) (m : Mi), R = R1 ++ R2 → DN (ayw ar) m dn → BD m σ dn L → RM o L R m → WW m (wb ++ sf σ R1) → (∀ a k, ¬ (a = 28 ∧ k = 1) → a ≠ 29 → m a k = m0 a k) → Rn X (d + 1) 71 120 [some (.ref 28), some (.ref o), some (.int (iz (g : Int))), some (.int (iz ((L.length + R1.length : Nat) : Int))), none] [] (SS m J P) (QI post) := by
  intro R2
  induction R2 with
  | nil =>
    intro R1 m eR hD hB hM hW hf
    rw [List.append_nil] at eR
    subst eR
    refine b_Reducer_contract_120 o _ _ ko m J P hp post ⟨by have := hM.2.2.2.1; constructor <;> omega, by rw [hM.2.1]; have := hM.2.2.2.1; constructor <;> omega, fun _ => k _ ⟨hW.1, (mu_ne _ _ (by omega)).trans hW.2.1, Ro_fr hW.2.2 fun k _ _ => mu_ne _ _ (by omega)⟩ (by rw [mu_at, hD.2.1]) (fun a k h1 h2 => (mu_ne _ _ (by omega)).trans (hf a k (fun e => h1 ⟨e.1, Or.inl e.2⟩) h2)), fun h => absurd (by rw [hM.2.1]; exact Int.le_refl _) h⟩
  | cons c R2 ih =>
    intro R1 m eR hD hB hM hW hf
    have hlen := congrArg List.length eR
    rw [List.length_append, List.length_cons] at hlen
    have e40 := hM.2.2.2.1
    have hc := Ro_mem (p := L ++ R1) (c := c) (q := R2) hM.2.2.1 (by rw [eR]; simp only [List.append_assoc])
    rw [Nat.zero_add, List.length_append] at hc
    have hcb := hM.2.2.2.2 c (by rw [eR]; simp)
    have ei : ((L.length + R1.length : Nat) : Int).toNat = L.length + R1.length := by omega
    have nx : ((L.length + R1.length : Nat) : Int) + 1 = ((L.length + (R1 ++ [c]).length : Nat) : Int) := by rw [List.length_append, List.length_singleton]; omega
    have esb : ∀ τ : Int → List Int, sb τ R = sb τ R1 ++ ((if c < 0 then τ c else [c]) ++ sb τ R2) := fun τ => by rw [eR, sb_app, sb_cons]
    have hrl := congrArg List.length (esb σ)
    rw [List.length_append, List.length_append] at hrl
    have hl1 := sf_len (σ := σ) (l := R1)
    refine b_Reducer_contract_120 o _ _ ko m J P hp post ⟨by constructor <;> omega, by rw [hM.2.1]; constructor <;> omega, fun h => absurd h (by rw [hM.2.1]; omega), fun _ => ⟨by omega, ?_⟩⟩
    rw [ei, hc]
    refine ⟨by constructor <;> omega, fun hn => ?_, fun hn => ?_⟩
    · have hW2 := hW.2.1
      have hW1 := hW.1
      rw [List.length_append] at hW2 hW1
      rw [if_neg (by omega), List.length_singleton] at hrl
      rw [hW2]
      have et : (((wb.length + (sf σ R1).length : Nat)) : Int).toNat = wb.length + (sf σ R1).length := by omega
      refine ⟨by constructor <;> omega, fun h => absurd h (by omega), fun _ => ⟨by omega, ?_⟩⟩
      rw [et, mu_ne _ _ (by omega), hW2, nx]
      have e2 : sf σ (R1 ++ [c]) = sf σ R1 ++ [c] := by unfold sf; rw [sb_app, sb_cons, if_neg (by omega), sb_nil, List.append_nil]
      refine ih (R1 ++ [c]) _ (by rw [eR]; simp) (DN_fr hD (by rw [mu_ne _ _ (by omega), mu_ne _ _ (by omega)]) (fun k => by rw [mu_ne _ _ (by omega), mu_ne _ _ (by omega)]) (fun k => by rw [mu_ne _ _ (by omega), mu_ne _ _ (by omega)])) (fun c' h1 h2 => ?_) (RM_fr hM (fun k => by rw [mu_ne _ _ (by omega), mu_ne _ _ (by omega)]) (fun k => by rw [mu_ne _ _ (by omega), mu_ne _ _ (by omega)])) ⟨?_, ?_, ?_⟩ (fun a k h1 h2 => by rw [mu_ne _ _ (by omega), mu_ne _ _ (by omega)]; exact hf a k h1 h2)
      · obtain ⟨p, q, g1, g2⟩ := hB c' h1 h2
        exact ⟨p, q, g1, by rw [mu_ne _ _ (by omega), mu_ne _ _ (by omega)]; exact g2⟩
      · rw [e2, List.length_append, List.length_append, List.length_singleton]; omega
      · rw [mu_at, e2, List.length_append, List.length_append, List.length_singleton]; omega
      · rw [e2, ← List.append_assoc]
        refine Ro_app.mpr ⟨Ro_fr hW.2.2 fun k g1 g2 => ?_, ?_, trivial⟩
        · rw [List.length_append] at g2
          rw [mu_ne _ _ (by omega), mu_ne _ _ (by omega)]
        · rw [List.length_append, Nat.zero_add, mu_ne _ _ (by omega), mu_at]
    · have hn' : c < 0 := by omega
      rw [if_pos hn'] at hrl
      obtain ⟨p, q, g1, g2⟩ := hB c (hR c (by rw [eR]; simp) hn') hn'
      refine ⟨by omega, ?_⟩
      rw [g2, nx]
      have e2 : sf σ (R1 ++ [c]) = sf σ R1 ++ (σ c).map fg := by unfold sf; rw [sb_app, sb_cons, if_pos hn', sb_nil, List.append_nil]
      refine c_await hp hD hb g1 (hs c hn') hW (by rw [List.length_append]; omega) (fun m' w1 w2 => ⟨hp, ?_⟩)
      refine ih (R1 ++ [c]) m' (by rw [eR]; simp) (DN_fr hD (w2 _ _ (by omega) (by decide)) (fun k => w2 _ _ (by omega) (by decide)) (fun k => w2 _ _ (by omega) (by decide))) (fun c' h1 h2 => ?_) (RM_fr hM (fun k => w2 _ _ (by omega) (by omega)) (fun k => w2 _ _ (by omega) (by omega))) (by rw [e2, ← List.append_assoc]; exact w1) (fun a k h1 h2 => (w2 a k h1 h2).trans (hf a k h1 h2))
      obtain ⟨p', q', f1, f2⟩ := hB c' h1 h2
      exact ⟨p', q', f1, by rw [w2 _ _ (by omega) (by decide)]; exact f2⟩
theorem c_contract_48 {L R : List Int} (hp : PP P) (ko : am_kd an_K o = some (.inl 8)) (ho : 59 ≤ o) {m0 : Mi} (hs : tv (ayw ar) σ) (hR : ∀ c, c ∈ R → c < 0 → c ∈ L) (hD0 : DN (ayw ar) m0 dn) (hB0 : BD m0 σ dn L) (hM0 : RM o L R m0) {g : Nat} {T : Int} (hT : 0 ≤ T ∧ T ≤ 1000) {post : Int → Mi → Mj → Mp → Prop} (kg : 200 < T + (sb σ R).length → ∀ m', (∀ a k, ¬ (a = 28 ∧ k = 6) → m' a k = m0 a k) → post (-2) m' J P) (k : T + (sb σ R).length ≤ 200 → ∀ m', m' 28 6 = T + (sb σ R).length → (∀ a k, ¬ (a = 28 ∧ k = 6) → m' a k = m0 a k) → Rn X (d + 1) 71 120 [some (.ref 28), some (.ref o), some (.int (iz (g : Int))), some (.int (iz (L.length : Int))), none] [] (SS m' J P) (QI post)) : ∀ (R2 R1 : List Int) (m : Mi), R = R1 ++ R2 → m 28 6 = T + (sb σ R1).length → (∀ a k, ¬ (a = 28 ∧ k = 6) → m a k = m0 a k) → Rn X (d + 1) 71 48 [some (.ref 28), some (.ref o), some (.int (iz (g : Int))), some (.int (iz ((L.length + R1.length : Nat) : Int))), none] [] (SS m J P) (QI post) := by
  have e40 := hM0.2.2.2.1
  have big : ∀ l : List Int, (∀ c, c ∈ l → c < 0 → c ∈ L) → (sb σ l).length ≤ 200 * l.length := by
    intro l
    induction l with
    | nil => intro _; exact Nat.le_refl _
    | cons c l ih =>
      intro h
      have := ih fun c' h1 h2 => h c' (List.mem_cons_of_mem _ h1) h2
      rw [sb_cons, List.length_append, List.length_cons]
      split
      · rename_i hn
        obtain ⟨p, q, g1, _⟩ := hB0 c (h c List.mem_cons_self hn) hn
        have gl := congrArg List.length g1
        rw [List.length_append, List.length_append] at gl
        have := hD0.1
        omega
      · rw [List.length_singleton]; omega
  intro R2
  induction R2 with
  | nil =>
    intro R1 m eR hW hf
    rw [List.append_nil] at eR
    subst eR
    have hM := RM_fr (m' := m) hM0 (fun k => hf _ _ (by omega)) (fun k => hf _ _ (by omega))
    have hbig := big R hR
    refine b_Reducer_contract_48 o _ _ ko m J P hp post ⟨by constructor <;> omega, by rw [hM.2.1]; constructor <;> omega, fun _ => ⟨by rw [hW]; constructor <;> omega, fun h => ?_, fun h => kg (by rw [hW] at h; omega) m hf⟩, fun h => absurd (by rw [hM.2.1]; exact Int.le_refl _) h⟩
    rw [hM.1]
    exact k (by rw [hW] at h; exact h) m hW hf
  | cons c R2 ih =>
    intro R1 m eR hW hf
    have hM := RM_fr (m' := m) hM0 (fun k => hf _ _ (by omega)) (fun k => hf _ _ (by omega))
    have hlen := congrArg List.length eR
    rw [List.length_append, List.length_cons] at hlen
    have hc := Ro_mem (p := L ++ R1) (c := c) (q := R2) hM.2.2.1 (by rw [eR]; simp only [List.append_assoc])
    rw [Nat.zero_add, List.length_append] at hc
    have hcb := hM.2.2.2.2 c (by rw [eR]; simp)
    have ei : ((L.length + R1.length : Nat) : Int).toNat = L.length + R1.length := by omega
    have nx : ((L.length + R1.length : Nat) : Int) + 1 = ((L.length + (R1 ++ [c]).length : Nat) : Int) := by rw [List.length_append, List.length_singleton]; omega
    have e2 : sb σ (R1 ++ [c]) = sb σ R1 ++ (if c < 0 then σ c else [c]) := by rw [sb_app, sb_cons, sb_nil, List.append_nil]
    refine b_Reducer_contract_48 o _ _ ko m J P hp post ⟨by constructor <;> omega, by rw [hM.2.1]; constructor <;> omega, fun h => absurd h (by rw [hM.2.1]; omega), fun _ => ⟨by omega, ?_⟩⟩
    rw [ei, hc, nx, hW]
    refine ⟨by constructor <;> omega, fun hn => ?_, fun hn => ?_⟩
    · obtain ⟨p, q, g1, g2⟩ := hB0 c (hR c (by rw [eR]; simp) hn) hn
      obtain ⟨s1, s2, s3, s4⟩ := DN_sz hD0 g1 (hs c hn)
      rw [hf 33 _ (by omega), g2]
      refine ⟨by omega, by omega, ?_⟩
      rw [show ((200 - dn.length + p.length : Nat) : Int).toNat = 200 - dn.length + p.length by omega, hf 31 _ (by omega), s1]
      refine ih (R1 ++ [c]) _ (by rw [eR]; simp) ?_ (fun a k h => (mu_ne _ _ (by omega)).trans (hf a k h))
      rw [mu_at, e2, if_pos hn, List.length_append]; omega
    · refine ih (R1 ++ [c]) _ (by rw [eR]; simp) ?_ (fun a k h => (mu_ne _ _ (by omega)).trans (hf a k h))
      rw [mu_at, e2, if_neg hn, List.length_append, List.length_singleton]; omega
/-- contract(): one STEP -/
theorem c_contract {L R wb y : List Int} {st : Int} (hp : PP P) (ko : am_kd an_K o = some (.inl 8)) (ho : 59 ≤ o) (hb : ∀ c, c ∈ dn → -10000 ≤ c ∧ c < 16) (hs : tv (ayw ar) σ) (hR : ∀ c, c ∈ R → c < 0 → c ∈ L) (hL : ctt (ayw ar) L = some 1) (hD : DN (ayw ar) m dn) (hB : BD m σ dn L) (hM : RM o L R m) (hW : WW m wb) (e : dn = sb σ L ++ y) (h5 : m 28 5 = st ∧ 0 ≤ st ∧ st ≤ 1000) (h6 : m 28 6 = ((wb.length + dn.length : Nat) : Int)) (h200 : wb.length + dn.length ≤ 200) {post : Int → Mi → Mj → Mp → Prop} (kt : st = 1000 → post (-3) m J P) (kg : st < 1000 → 200 < wb.length + (sb σ R).length + y.length → ∀ m', (∀ a k, ¬ (a = 28 ∧ 5 ≤ k ∧ k ≤ 6) → a ≠ 29 → m' a k = m a k) → post (-2) m' J P) (k : st < 1000 → wb.length + (sb σ R).length + y.length ≤ 200 → ∀ m', DN (ayw ar) m' y → WW m' (wb ++ sf σ R) → m' 28 5 = st + 1 → m' 28 6 = (((wb ++ sf σ R).length + y.length : Nat) : Int) → (∀ a k, ¬ (a = 28 ∧ 1 ≤ k ∧ k ≤ 6) → a ≠ 29 → m' a k = m a k) → post 0 m' J P) : Ci X (d + 1) 71 [.ref 28, .ref o] m J P post := by
  have hlen := congrArg List.length e
  rw [List.length_append] at hlen
  have ht : ctt (ayw ar) (sb σ L) = some 1 := ct_sb ayw_v hs hL
  obtain ⟨s1, s2, s3, s4⟩ := DN_sz hD (p := []) (t := sb σ L) (z := y) e ht
  rw [List.length_nil, Nat.add_zero] at s1
  refine Ci.of rfl rfl rfl (b_Reducer_contract_0 o ko m J P hp post ⟨by rw [h5.1]; constructor <;> omega, fun h => ?_, fun h => kt (by rw [h5.1] at h; omega)⟩)
  rw [h5.1] at h ⊢
  have e1 : mu m 28 5 (st + 1) 28 4 = 200 - (dn.length : Int) := (mu_ne _ _ (by omega)).trans hD.2.1
  have e2 : (200 - (dn.length : Int)).toNat = 200 - dn.length := by omega
  have e3 : mu m 28 5 (st + 1) 31 (200 - dn.length) = ((sb σ L).length : Int) := (mu_ne _ _ (by omega)).trans s1
  have e4 : mu m 28 5 (st + 1) 28 6 = ((wb.length + dn.length : Nat) : Int) := (mu_ne _ _ (by omega)).trans h6
  rw [e1, e2, e3, e4]
  have e5 : mu (mu m 28 5 (st + 1)) 28 6 (((wb.length + dn.length : Nat) : Int) - ((sb σ L).length : Int)) o 5 = ((L.length + ([] : List Int).length : Nat) : Int) := by rw [mu_ne _ _ (by omega), mu_ne _ _ (by omega), hM.1]; simp
  rw [e5]
  have f0 : ∀ a k, ¬ (a = 28 ∧ (k = 5 ∨ k = 6)) → mu (mu m 28 5 (st + 1)) 28 6 (((wb.length + dn.length : Nat) : Int) - ((sb σ L).length : Int)) a k = m a k := fun a k h => by rw [mu_ne _ _ (by omega), mu_ne _ _ (by omega)]
  have hD0 := DN_fr hD (f0 _ _ (by omega)) (fun k => f0 _ k (by omega)) (fun k => f0 _ k (by omega))
  have hB0 : BD (mu (mu m 28 5 (st + 1)) 28 6 (((wb.length + dn.length : Nat) : Int) - ((sb σ L).length : Int))) σ dn L := fun c h1 h2 => by
    obtain ⟨p, q, g1, g2⟩ := hB c h1 h2
    exact ⟨p, q, g1, (f0 _ _ (by omega)).trans g2⟩
  have hM0 := RM_fr hM (fun k => f0 _ k (by omega)) (fun k => f0 _ k (by omega))
  refine ⟨by omega, c_contract_48 (T := ((wb.length + y.length : Nat) : Int)) hp ko ho hs hR hD0 hB0 hM0 (by omega) (fun h2 m' w1 => kg h (by omega) m' (fun a k g1 g2 => (w1 a k (by omega)).trans (f0 a k (by omega)))) (fun h2 m' w1 w2 => ?_) R [] _ rfl (by rw [mu_at, sb_nil, List.length_nil]; omega) (fun _ _ _ => rfl)⟩
  have hD1 := DN_fr hD0 (w2 _ _ (by omega)) (fun k => w2 _ k (by omega)) (fun k => w2 _ k (by omega))
  have hB1 : BD m' σ dn L := fun c h1 h2 => by
    obtain ⟨p, q, g1, g2⟩ := hB0 c h1 h2
    exact ⟨p, q, g1, (w2 _ _ (by omega)).trans g2⟩
  refine c_contract_120 (wb := wb) (m0 := m') hp ko ho hb hs hR (by omega) (fun m2 v1 v2 v3 => ?_) R [] m' rfl hD1 hB1 (RM_fr hM0 (fun k => w2 _ k (by omega)) (fun k => w2 _ k (by omega))) ?_ (fun _ _ _ _ => rfl)
  · have F : ∀ a k, ¬ (a = 28 ∧ 1 ≤ k ∧ k ≤ 6) → a ≠ 29 → m2 a k = m a k := fun a k g1 g2 => (v3 a k (by omega) g2).trans ((w2 a k (by omega)).trans (f0 a k (by omega)))
    refine k h (by omega) m2 (DN_suf (x := sb σ L) (by rw [← e]; exact hD) (by rw [v2]; omega) (fun k => F _ k (by omega) (by decide)) (fun k => F _ k (by omega) (by decide))) v1 ?_ ?_ F
    · rw [v3 _ _ (by omega) (by decide), w2 _ _ (by omega), mu_ne _ _ (by omega), mu_at]
    · rw [v3 _ _ (by omega) (by decide), w1, List.length_append, sf_len]; omega
  · show WW m' (wb ++ sf σ [])
    have e6 : sf σ [] = [] := rfl
    rw [e6, List.append_nil]
    exact ⟨hW.1, ((w2 _ _ (by omega)).trans (f0 _ _ (by omega))).trans hW.2.1, Ro_fr hW.2.2 fun k _ _ => (w2 _ _ (by omega)).trans (f0 _ _ (by omega))⟩
end RDC
