/-! PAIRS: what is kept of them, pure; keep() of the class -/
section PKP
variable {X : aX} {d : Nat} {P : Mp} {J : Mj} {m m' : Mi} {ar : Nat → Int} {sc N b : Nat} {Lf Rf Lm Rm : Nat → List Int}
/-- what two TERMS of a PAIR come to -/
noncomputable def pjn (ay : Int → Nat) (N : Nat) (Lm Rm : Nat → List Int) : Option (List Int) → Option (List Int) → Int
  | some w1, some w2 => jnf ay N Lm Rm (nbr [] w1).1 (nbr (nbr [] w1).2 w2).1
  | _, _ => 2
/-- whether two RULES overlap at a place, and whether what comes of it joins -/
noncomputable def pst (ay : Int → Nat) (N : Nat) (Lm Rm Lf Rf : Nat → List Int) (i p j : Nat) : Option Int :=
  if i = j ∧ p = 0 then none
  else if cl (Lf i) p = cl (Lf j) 0 then
    match ovl ay (Lf i) (Rf i) (Lf j) (Rf j) p with
    | none => none
    | some R => some (pjn ay N Lm Rm (pw1 ay (Lf i) (Rf i) (Lf j) (Rf j) p R) (pw2 ay (Lf i) (Rf i) (Lf j) (Rf j) p R))
  else none
/-- how many there are, and what is kept -/
abbrev PKs := Nat × List (Nat × Nat × Nat × Int)
noncomputable def pkst (ay : Int → Nat) (N : Nat) (Lm Rm Lf Rf : Nat → List Int) (i p j : Nat) (s : PKs) : PKs :=
  match pst ay N Lm Rm Lf Rf i p j with
  | none => s
  | some z => (s.1 + 1, if s.1 < 200 then s.2 ++ [(i, p, j, z)] else s.2)
noncomputable def pkJ (ay : Int → Nat) (N : Nat) (Lm Rm Lf Rf : Nat → List Int) (i p : Nat) : Nat → Nat → PKs → PKs
  | 0, _, s => s
  | q + 1, j, s => pkJ ay N Lm Rm Lf Rf i p q (j + 1) (pkst ay N Lm Rm Lf Rf i p j s)
noncomputable def pkP (ay : Int → Nat) (N : Nat) (Lm Rm Lf Rf : Nat → List Int) (i : Nat) : Nat → Nat → PKs → PKs
  | 0, _, s => s
  | q + 1, p, s => pkP ay N Lm Rm Lf Rf i q (p + 1) (pkJ ay N Lm Rm Lf Rf i p N 0 s)
noncomputable def pkI (ay : Int → Nat) (N : Nat) (Lm Rm Lf Rf : Nat → List Int) : Nat → Nat → PKs → PKs
  | 0, _, s => s
  | q + 1, i, s => pkI ay N Lm Rm Lf Rf q (i + 1) (pkP ay N Lm Rm Lf Rf i (Lf i).length 0 s)
/-- how many of a kind -/
def pcn (v : Int) : List (Nat × Nat × Nat × Int) → Nat
  | [] => 0
  | e :: K => (if e.2.2.2 = v then 1 else 0) + pcn v K
theorem pcn_snoc {v : Int} {e : Nat × Nat × Nat × Int} : ∀ {K : List (Nat × Nat × Nat × Int)}, pcn v (K ++ [e]) = pcn v K + if e.2.2.2 = v then 1 else 0
  | [] => by
    rw [List.nil_append]
    show (if e.2.2.2 = v then 1 else 0) + 0 = 0 + (if e.2.2.2 = v then 1 else 0)
    omega
  | a :: K => by rw [List.cons_append, pcn, pcn, pcn_snoc, Nat.add_assoc]
theorem pcn_le {v : Int} : ∀ {K : List (Nat × Nat × Nat × Int)}, pcn v K ≤ K.length
  | [] => Nat.le_refl _
  | a :: K => by
    rw [pcn, List.length_cons]
    have := pcn_le (v := v) (K := K)
    split <;> omega
def pkok (s : PKs) : Prop := s.2.length = (if s.1 < 200 then s.1 else 200)
theorem pkok_st {ay : Int → Nat} {i p j : Nat} {s : PKs} (h : pkok s) : pkok (pkst ay N Lm Rm Lf Rf i p j s) ∧ (pkst ay N Lm Rm Lf Rf i p j s).1 ≤ s.1 + 1 ∧ s.1 ≤ (pkst ay N Lm Rm Lf Rf i p j s).1 := by
  unfold pkst
  cases pst ay N Lm Rm Lf Rf i p j with
  | none => exact ⟨h, Nat.le_succ _, Nat.le_refl _⟩
  | some z =>
    unfold pkok at h ⊢
    dsimp only
    refine ⟨?_, Nat.le_refl _, Nat.le_succ _⟩
    by_cases g : s.1 < 200
    · rw [if_pos g] at h ⊢
      rw [List.length_append, List.length_singleton]
      split <;> omega
    · rw [if_neg g] at h ⊢
      rw [if_neg (by omega)]
      exact h
/-- rows of what is kept, in the class -/
def PKr (m : Mi) : Nat → List (Nat × Nat × Nat × Int) → Prop
  | _, [] => True
  | k, e :: K => (m 37 (4 * k) = (e.1 : Int) ∧ m 37 (4 * k + 1) = (e.2.1 : Int) ∧ m 37 (4 * k + 2) = (e.2.2.1 : Int) ∧ m 37 (4 * k + 3) = e.2.2.2) ∧ PKr m (k + 1) K
theorem PKr_fr : ∀ {K : List (Nat × Nat × Nat × Int)} {k : Nat}, PKr m k K → (∀ i, i < 4 * (k + K.length) → m' 37 i = m 37 i) → PKr m' k K
  | [], _, _, _ => trivial
  | e :: K, k, h, f => by
    rw [List.length_cons] at f
    obtain ⟨⟨a, b, c, e1⟩, h2⟩ := h
    exact ⟨⟨(f _ (by omega)).trans a, (f _ (by omega)).trans b, (f _ (by omega)).trans c, (f _ (by omega)).trans e1⟩, PKr_fr h2 fun i hi => f i (by omega)⟩
theorem PKr_snoc {e : Nat × Nat × Nat × Int} : ∀ {K : List (Nat × Nat × Nat × Int)} {k : Nat}, PKr m k K → (m 37 (4 * (k + K.length)) = (e.1 : Int) ∧ m 37 (4 * (k + K.length) + 1) = (e.2.1 : Int) ∧ m 37 (4 * (k + K.length) + 2) = (e.2.2.1 : Int) ∧ m 37 (4 * (k + K.length) + 3) = e.2.2.2) → PKr m k (K ++ [e])
  | [], k, _, h => ⟨h, trivial⟩
  | a :: K, k, h, f => by
    rw [List.length_cons, show k + (K.length + 1) = k + 1 + K.length by omega] at f
    exact ⟨h.1, PKr_snoc h.2 f⟩
def PKh (t : Nat) (K : List (Nat × Nat × Nat × Int)) (m : Mi) : Prop := (m 36 3 = (t : Int) ∧ m 36 4 = (pcn 1 K : Int) ∧ m 36 5 = (pcn 2 K : Int)) ∧ PKr m 0 K
/-- the SYSTEM as the class's PAIRS see it -/
def BKC (b sc : Nat) (ar : Nat → Int) (N : Nat) (Lm Rm Lf Rf : Nat → List Int) (m : Mi) : Prop := BA b sc ar m ∧ BkM b N Lm Rm m ∧ ∀ u, u < N → RB (b + 5 + 6 * u) (ayw ar) (Lf u) (Rf u) m
theorem BKC_fr (hb : b = 54 ∨ b = 155) (har : arK sc ar) (h : BKC b sc ar N Lm Rm Lf Rf m) (f : ∀ a k, 54 ≤ a → m' a k = m a k) : BKC b sc ar N Lm Rm Lf Rf m' := ⟨BA_fr h.1 har.1 fun k _ => f _ _ (by omega), BkM_fr h.2.1 fun a k g _ => f _ _ (by omega), fun u hu => RB_fr (h.2.2 u hu) fun a k g _ => f _ _ (by omega)⟩
theorem pjn_r {ay : Int → Nat} {o1 o2 : Option (List Int)} : pjn ay N Lm Rm o1 o2 = 0 ∨ pjn ay N Lm Rm o1 o2 = 1 ∨ pjn ay N Lm Rm o1 o2 = 2 := by
  cases o1 with
  | none => exact Or.inr (Or.inr rfl)
  | some w1 =>
    cases o2 with
    | none => exact Or.inr (Or.inr rfl)
    | some w2 =>
      unfold pjn jnf
      dsimp only
      split
      · exact Or.inr (Or.inr rfl)
      · split
        · exact Or.inr (Or.inr rfl)
        · split
          · exact Or.inr (Or.inl rfl)
          · exact Or.inl rfl
theorem c_keep {i p j t : Nat} {K : List (Nat × Nat × Nat × Int)} {R rt T : Nat → Nat} {B : Nat} {col : Nat → Int} (hp : PP P) (hb : b = 54 ∨ b = 155) (har : arK sc ar) (hX : BKC b sc ar N Lm Rm Lf Rf m) (hRg : Rg (ayw ar) N Lm Rm) (hgR : ∀ u, u < N → ∀ c, c ∈ Rm u → gp sc c) (hZ : ∀ u, u < N → ZK sc ar (Lf u) (Rf u)) (hi : i < N) (hj : j < N) (hpl : p < (Lf i).length) (hR : ovl (ayw ar) (Lf i) (Rf i) (Lf j) (Rf j) p = some R) (hC : CI 8 R rt T B col m) (hB : B ≤ 1000) (hGC : GC 8 (cl (pgr (Lf i) (Rf i) (Lf j) (Rf j))) (nl (ayw ar) (pgr (Lf i) (Rf i) (Lf j) (Rf j))) (pgr (Lf i) (Rf i) (Lf j) (Rf j)).length m) (hcells : m 8 2 = ((Lf i ++ Rf i).length : Int)) (hvars : m 8 3 = vmx (Lf i ++ Rf i)) (hK : PKh t K m) (hKl : K.length = t) (ht : t < 200) {post : Mi → Mj → Mp → Prop} (k : ∀ m', PKh t (K ++ [(i, p, j, pjn (ayw ar) N Lm Rm (pw1 (ayw ar) (Lf i) (Rf i) (Lf j) (Rf j) p R) (pw2 (ayw ar) (Lf i) (Rf i) (Lf j) (Rf j) p R))]) m' → ATT 8 m' → m' 8 8 = m 8 8 → (∀ a k, ¬ (8 ≤ a ∧ a ≤ 17) → ¬ (28 ≤ a ∧ a ≤ 37) → m' a k = m a k) → post m' J P) : Cv X (d + 4) 58 [.ref 36, .int (iz (i : Int)), .int (iz (p : Int)), .int (iz (j : Int)), .ref b] m J P post := by
  have kb := kd_book hb
  have hN := hX.2.1.1
  have h1 := hZ i hi
  have h2 := hZ j hj
  obtain ⟨⟨t1, t2, t3⟩, hKr⟩ := hK
  have e0 : ((t : Int) * 4).toNat = 4 * t := by omega
  have e1 : ((t : Int) * 4 + 1).toNat = 4 * t + 1 := by omega
  have e2 : ((t : Int) * 4 + 2).toNat = 4 * t + 2 := by omega
  have e3 : ((t : Int) * 4 + 3).toNat = 4 * t + 3 := by omega
  have hc1 := pcn_le (v := 1) (K := K)
  have hc2 := pcn_le (v := 2) (K := K)
  -- at the end
  have fin : ∀ (z : Int) (m4 m5 : Mi), z = pjn (ayw ar) N Lm Rm (pw1 (ayw ar) (Lf i) (Rf i) (Lf j) (Rf j) p R) (pw2 (ayw ar) (Lf i) (Rf i) (Lf j) (Rf j) p R) → ATT 8 m4 → m4 8 8 = m 8 8 → (∀ a k, ¬ (8 ≤ a ∧ a ≤ 17) → ¬ (28 ≤ a ∧ a ≤ 35) → ¬ (a = 36 ∧ k = 6) → m4 a k = mu (mu (mu m 37 (4 * t) (i : Int)) 37 (4 * t + 1) (p : Int)) 37 (4 * t + 2) (j : Int) a k) → m5 37 (4 * t + 3) = z → m5 36 4 = m4 36 4 + (if z = 1 then 1 else 0) → m5 36 5 = m4 36 5 + (if z = 2 then 1 else 0) → (∀ a k, ¬ (a = 37 ∧ k = 4 * t + 3) → ¬ (a = 36 ∧ (k = 4 ∨ k = 5)) → m5 a k = m4 a k) → post m5 J P := by
    intro z m4 m5 ez w1 w2 w3 w4 w5 w6 w7
    refine k m5 ⟨⟨?_, ?_, ?_⟩, ?_⟩ ?_ ?_ ?_
    · rw [w7 _ _ (by omega) (by omega), w3 _ _ (by decide) (by decide) (by decide), mu_ne _ _ (by omega), mu_ne _ _ (by omega), mu_ne _ _ (by omega)]
      exact t1
    · rw [w5, w3 _ _ (by decide) (by decide) (by decide), mu_ne _ _ (by omega), mu_ne _ _ (by omega), mu_ne _ _ (by omega), t2, pcn_snoc, ← ez]
      dsimp only
      split <;> omega
    · rw [w6, w3 _ _ (by decide) (by decide) (by decide), mu_ne _ _ (by omega), mu_ne _ _ (by omega), mu_ne _ _ (by omega), t3, pcn_snoc, ← ez]
      dsimp only
      split <;> omega
    · refine PKr_snoc (PKr_fr hKr fun q hq => ?_) ?_
      · rw [Nat.zero_add, hKl] at hq
        rw [w7 _ _ (by omega) (by omega), w3 _ _ (by decide) (by decide) (by omega), mu_ne _ _ (by omega), mu_ne _ _ (by omega), mu_ne _ _ (by omega)]
      · rw [Nat.zero_add, hKl]
        refine ⟨?_, ?_, ?_, w4.trans ez⟩
        · rw [w7 _ _ (by omega) (by omega), w3 _ _ (by decide) (by decide) (by omega), mu_ne _ _ (by omega), mu_ne _ _ (by omega), mu_at]
        · rw [w7 _ _ (by omega) (by omega), w3 _ _ (by decide) (by decide) (by omega), mu_ne _ _ (by omega), mu_at]
        · rw [w7 _ _ (by omega) (by omega), w3 _ _ (by decide) (by decide) (by omega), mu_at]
    · have ea : m5 8 8 = m4 8 8 := w7 _ _ (by omega) (by omega)
      refine ⟨by rw [ea]; exact w1.1, fun z hz => ?_⟩
      rw [ea, w7 _ _ (by omega) (by omega)]
      exact w1.2 z hz
    · rw [w7 _ _ (by omega) (by omega)]
      exact w2
    · intro a q g1 g2
      rw [w7 a q (by omega) (by omega), w3 a q g1 (by omega) (by omega), mu_ne _ _ (by omega), mu_ne _ _ (by omega), mu_ne _ _ (by omega)]
  refine Cv.of rfl rfl rfl (b_Pairs_keep_0 i p j b kb m J P hp post ?_)
  rw [t1, e0, e1, e2, e3]
  refine ⟨by omega, by omega, by omega, ?_⟩
  have fr : ∀ a k, a ≠ 37 → mu (mu (mu m 37 (4 * t) (i : Int)) 37 (4 * t + 1) (p : Int)) 37 (4 * t + 2) (j : Int) a k = m a k := fun a q g => by rw [mu_ne _ _ (by omega), mu_ne _ _ (by omega), mu_ne _ _ (by omega)]
  have hX3 := BKC_fr (m' := mu (mu (mu m 37 (4 * t) (i : Int)) 37 (4 * t + 1) (p : Int)) 37 (4 * t + 2) (j : Int)) hb har hX fun a k g => fr a k (by omega)
  refine c_pwrite hp hb har (by omega) (by omega) hpl h1 h2 (hX3.2.2 i hi) (hX3.2.2 j hj) hR (CI_fr hC (fr _ _ (by decide)) (fun a k _ _ => fr _ _ (by omega))) hB (GC_fr hGC (fun k => fr _ _ (by decide)) (fun k => fr _ _ (by decide))) ((fr _ _ (by decide)).trans hcells) ((fr _ _ (by decide)).trans hvars) (fun w1 w2 hw1 hw2 m4 v1 v2 v3 v4 v5 => ⟨hp, zr1, fun g => absurd g (by decide), fun _ => ?_⟩) (fun hn m4 v3 v4 v5 => ⟨hp, zr0, fun _ => ⟨by omega, ?_⟩, fun g => absurd rfl g⟩)
  · have hl1 := h1.2.2
    have hl2 := h2.2.2
    have n4 : 0 < (Rf i).length := ct_ne h1.1.2
    have hlenG := pgr_len (l1 := Lf i) (r1 := Rf i) (l2 := Lf j) (r2 := Rf j)
    have ok1 := pw_ok har h1 h2 hpl hR (by omega) hw1
    have ok2 := pw_ok har h1 h2 hpl hR (by omega) hw2
    have el : (nbr [] (w1 ++ w2)).1 = (nbr [] w1).1 ++ (nbr (nbr [] w1).2 w2).1 := by rw [nbr_app]
    rw [el] at v1
    have ll : (nbr [] w1).1.length = w1.length := nbr_len
    have lr : (nbr (nbr [] w1).2 w2).1.length = w2.length := nbr_len
    have hsn := nbr_seen (l := w1) (seen := ([] : List Int))
    rw [List.length_nil] at hsn
    have hs := har.1
    have g1 : ∀ c, c ∈ (nbr [] w1).1 ++ (nbr (nbr [] w1).2 w2).1 → gp sc c := fun c hc => by
      rcases List.mem_append.mp hc with q | q
      · rcases nbr_mem q with ⟨q1, q2⟩ | ⟨q1, q2⟩
        · have := (ok1.2 c q2).1 q1
          exact ⟨by omega, by omega, fun _ => this⟩
        · rw [List.length_nil] at q2
          have := ok1.1.2
          exact ⟨by omega, by omega, fun _ => by omega⟩
      · rcases nbr_mem q with ⟨q1, q2⟩ | ⟨q1, q2⟩
        · have := (ok2.2 c q2).1 q1
          exact ⟨by omega, by omega, fun _ => this⟩
        · have := ok1.1.2
          have := ok2.1.2
          exact ⟨by omega, by omega, fun _ => by omega⟩
    have F4 : ∀ a k, 54 ≤ a → m4 a k = m a k := fun a q g => (v5 a q (by omega) (by omega)).trans (fr a q (by omega))
    have hX4 := BKC_fr hb har hX F4
    have hsz := v1.2.1
    have ok11 := ok1.1.2
    have ok21 := ok2.1.2
    rw [v2, hsz, ← ll]
    refine c_joins (x1 := 16) (n1 := 800) (l := (nbr [] w1).1) (r := (nbr (nbr [] w1).2 w2).1) hp (by decide +kernel) (by decide) (Or.inl (by decide)) hb har.1 hRg hgR hX4.1 hX4.2.1 (by omega) (by omega) (by omega) g1 (by rw [ct_cong (nbr_ay ayw_v)]; exact ok1.1.1) (by rw [ct_cong (nbr_ay ayw_v)]; exact ok2.1.1) (by rw [List.length_append]) v1.2.2 (fun m5 u1 u2 => ⟨hp, by omega, ?_⟩)
    have ez : jnf (ayw ar) N Lm Rm (nbr [] w1).1 (nbr (nbr [] w1).2 w2).1 = pjn (ayw ar) N Lm Rm (pw1 (ayw ar) (Lf i) (Rf i) (Lf j) (Rf j) p R) (pw2 (ayw ar) (Lf i) (Rf i) (Lf j) (Rf j) p R) := by rw [hw1, hw2]; rfl
    have hr := pjn_r (ay := ayw ar) (N := N) (Lm := Lm) (Rm := Rm) (o1 := pw1 (ayw ar) (Lf i) (Rf i) (Lf j) (Rf j) p R) (o2 := pw2 (ayw ar) (Lf i) (Rf i) (Lf j) (Rf j) p R)
    rw [← ez] at hr
    generalize jnf (ayw ar) N Lm Rm (nbr [] w1).1 (nbr (nbr [] w1).2 w2).1 = z at *
    have zz : Zr z := by constructor <;> omega
    have A5 : ATT 8 m5 := by
      have ea : m5 8 8 = m4 8 8 := u1 _ _ (by decide)
      refine ⟨by rw [ea]; exact v3.1, fun q hq => ?_⟩
      rw [ea, u1 _ _ (by decide)]
      exact v3.2 q hq
    have a5 : m5 8 8 = m 8 8 := by
      rw [u1 _ _ (by decide), v4]
      exact fr _ _ (by decide)
    have F5 : ∀ a k, ¬ (8 ≤ a ∧ a ≤ 17) → ¬ (28 ≤ a ∧ a ≤ 35) → ¬ (a = 36 ∧ k = 6) → m5 a k = mu (mu (mu m 37 (4 * t) (i : Int)) 37 (4 * t + 1) (p : Int)) 37 (4 * t + 2) (j : Int) a k := fun a q g1 g2 g3 => (u1 a q g2).trans (v5 a q g1 g3)
    refine ⟨zz, fun n1 => ⟨zz, fun n2 => ?_, fun n2 => ?_⟩, fun n1 => ⟨zz, fun n2 => ?_, fun n2 => ?_⟩⟩
    · refine b_Pairs_keep_124 i p j b _ z kb _ J P hp post (fin z m5 _ ez A5 a5 F5 (mu_at _ _ _ _) ?_ ?_ (fun a q g1 g2 => mu_ne _ _ g1))
      · rw [mu_ne _ _ (by omega), if_neg n1, Int.add_zero]
      · rw [mu_ne _ _ (by omega), if_neg n2, Int.add_zero]
    · have e : z = 2 := Classical.not_not.mp n2
      refine b_Pairs_keep_124 i p j b _ z kb _ J P hp post (fin z m5 _ ez A5 a5 F5 ?_ ?_ ?_ (fun a q g1 g2 => ?_))
      · rw [mu_ne _ _ (by omega), mu_at]
      · rw [mu_ne _ _ (by omega), mu_ne _ _ (by omega), if_neg n1, Int.add_zero]
      · rw [mu_at, mu_ne _ _ (by omega), if_pos e]
      · rw [mu_ne _ _ (by omega), mu_ne _ _ g1]
    · have e : z = 1 := Classical.not_not.mp n1
      refine b_Pairs_keep_124 i p j b _ z kb _ J P hp post (fin z m5 _ ez A5 a5 F5 ?_ ?_ ?_ (fun a q g1 g2 => ?_))
      · rw [mu_ne _ _ (by omega), mu_at]
      · rw [mu_at, mu_ne _ _ (by omega), if_pos e]
      · rw [mu_ne _ _ (by omega), mu_ne _ _ (by omega), if_neg n2, Int.add_zero]
      · rw [mu_ne _ _ (by omega), mu_ne _ _ g1]
    · exact absurd (show z = 1 from Classical.not_not.mp n1) (by have := Classical.not_not.mp n2; omega)
  · have ez : (2 : Int) = pjn (ayw ar) N Lm Rm (pw1 (ayw ar) (Lf i) (Rf i) (Lf j) (Rf j) p R) (pw2 (ayw ar) (Lf i) (Rf i) (Lf j) (Rf j) p R) := by
      rcases hn with h | h
      · rw [h]; rfl
      · rw [h]; cases pw1 (ayw ar) (Lf i) (Rf i) (Lf j) (Rf j) p R <;> rfl
    refine b_Pairs_keep_124 i p j b _ 2 kb _ J P hp post (fin 2 m4 _ ez v3 (v4.trans (fr _ _ (by decide))) (fun a q g1 g2 g3 => v5 a q g1 g3) ?_ ?_ ?_ (fun a q g1 g2 => ?_))
    · rw [mu_ne _ _ (by omega), mu_at]
    · rw [mu_ne _ _ (by omega), mu_ne _ _ (by omega), if_neg (by decide), Int.add_zero]
    · rw [mu_at, mu_ne _ _ (by omega), if_pos rfl]
    · rw [mu_ne _ _ (by omega), mu_ne _ _ g1]
end PKP
