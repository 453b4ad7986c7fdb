/-! OUT: TERMS, pure and in the class -/
section OTM
variable {X : aX} {d : Nat} {P : Mp} {J J' : Mj} {m m' : Mi} {Sn : Nat → Nat} {sc b : Nat} {ar : Nat → Int}
/-- what closes behind an ARGUMENT, and what stays open -/
def ends : List Nat → List Int × List Nat
  | [] => ([], [])
  | q :: s => if 1 < q then ([44], (q - 1) :: s) else (41 :: (ends s).1, (ends s).2)
def wtm (ay : Int → Nat) (Sn : Nat → Nat) : List Int → List Nat → Ws → Ws
  | [], _, s => s
  | c :: r, st, s => if 0 < ay c then wtm ay Sn r (ay c :: st) ((whd Sn c s).1 ++ [40], (whd Sn c s).2.1, (whd Sn c s).2.2) else wtm ay Sn r (ends st).2 ((whd Sn c s).1 ++ (ends st).1, (whd Sn c s).2.1, (whd Sn c s).2.2)
/-- how many TERMS are still to come -/
def tots : List Nat → Nat
  | [] => 0
  | q :: s => q - 1 + tots s
def need : List Nat → Nat
  | [] => 1
  | q :: s => q + tots s
def okst (st : List Nat) : Prop := ∀ q, q ∈ st → 0 < q ∧ q ≤ 4
theorem ends_ok : ∀ {st : List Nat}, okst st → okst (ends st).2 ∧ (ends st).2.length ≤ st.length ∧ (ends st).1.length ≤ st.length ∧ (if (ends st).2 = [] then 0 else need (ends st).2) = tots st
  | [], h => ⟨h, Nat.le_refl _, Nat.le_refl _, rfl⟩
  | q :: s, h => by
    have h1 := h q List.mem_cons_self
    unfold ends
    by_cases g : 1 < q
    · rw [if_pos g]
      refine ⟨fun r hr => ?_, Nat.le_refl _, by show 1 ≤ _; rw [List.length_cons]; omega, ?_⟩
      · rcases List.mem_cons.mp hr with e | e
        · omega
        · exact h r (List.mem_cons_of_mem _ e)
      · rw [if_neg (by simp)]
        show q - 1 + tots s = q - 1 + tots s
        rfl
    · rw [if_neg g]
      obtain ⟨e1, e2, e3, e4⟩ := ends_ok (st := s) fun r hr => h r (List.mem_cons_of_mem _ hr)
      refine ⟨e1, by rw [List.length_cons]; exact Nat.le_succ_of_le e2, by show (41 :: (ends s).1).length ≤ _; rw [List.length_cons, List.length_cons]; omega, ?_⟩
      show (if (ends s).2 = [] then 0 else need (ends s).2) = q - 1 + tots s
      rw [e4, show q - 1 = 0 by omega, Nat.zero_add]
theorem need_tots {st : List Nat} (h : okst st) : need st = if st = [] then 1 else tots st + 1 := by
  cases st with
  | nil => rfl
  | cons q s =>
    have h1 := h q List.mem_cons_self
    rw [if_neg (by simp)]
    show q + tots s = q - 1 + tots s + 1
    omega
/-- the open ones, as a row holds them: the innermost last -/
def SKr (x : Nat) (m : Mi) : List Nat → Prop
  | [] => True
  | q :: s => m x s.length = (q : Int) ∧ SKr x m s
theorem SKr_fr {x : Nat} : ∀ {st : List Nat}, SKr x m st → (∀ k, k < st.length → m' x k = m x k) → SKr x m' st
  | [], _, _ => trivial
  | q :: s, h, f => ⟨(f _ (by rw [List.length_cons]; omega)).trans h.1, SKr_fr h.2 fun k hk => f k (by rw [List.length_cons]; omega)⟩
theorem c_ends {x1 : Int} (hp : PP P) {m0 : Mi} {J : Mj} {post : Int → Mi → Mj → Mp → Prop} : ∀ (st : List Nat) (l : List Int) (m : Mi), okst st → st.length ≤ 200 → SKr 53 m st → OC l m → l.length + st.length < 1000000 → (∀ m', OC (l ++ (ends st).1) m' → SKr 53 m' (ends st).2 → (∀ a k, a ≠ 51 → a ≠ 53 → ¬ (a = 50 ∧ k = 1) → m' a k = m a k) → post ((ends st).2.length : Int) m' J P) → Rn X (d + 1) 89 2 [some (.ref 50), some (.int (iz x1)), some (.int (iz (st.length : Int)))] [] (SS m J P) (QI post) := by
  intro st
  induction st with
  | nil =>
    intro l m _ _ _ h1 _ k
    refine b_Page_writeEnds_2 x1 _ m J P hp post ⟨by decide, fun _ => ?_, fun g => absurd (by decide) g⟩
    exact k m (by rw [show (ends []).1 = ([] : List Int) from rfl, List.append_nil]; exact h1) trivial fun _ _ _ _ _ => rfl
  | cons q s ih =>
    intro l m hok hl hS h1 h2 k
    have hq := hok q List.mem_cons_self
    rw [List.length_cons] at hl h2 ⊢
    have e1 : ((s.length + 1 : Nat) : Int) - 1 = (s.length : Int) := by omega
    have e2 : ((s.length + 1 : Nat) : Int) + (-1) = (s.length : Int) := by omega
    refine b_Page_writeEnds_2 x1 _ m J P hp post ?_
    rw [e1, e2, Int.toNat_natCast, mu_at, hS.1]
    have f0 : ∀ a k, ¬ (a = 53 ∧ k = s.length) → mu m 53 s.length ((q : Int) - 1) a k = m a k := fun a k g => mu_ne _ _ (by omega)
    have h1' : OC l (mu m 53 s.length ((q : Int) - 1)) := OC_fr h1 (f0 _ _ (by omega)) (fun q => f0 _ _ (by omega))
    have hS' : SKr 53 (mu m 53 s.length ((q : Int) - 1)) s := SKr_fr hS.2 fun k hk => f0 _ _ (by omega)
    refine ⟨by constructor <;> omega, fun g => absurd g (by omega), fun _ => ⟨by omega, by omega, by omega, by constructor <;> omega, fun g => ?_, fun g => ?_⟩⟩
    · have ee : ends (q :: s) = (41 :: (ends s).1, (ends s).2) := by rw [ends, if_neg (by omega)]
      rw [ee] at k
      refine c_write hp h1' (by omega) fun m1 w1 w2 => ⟨hp, ?_⟩
      refine ih _ m1 (fun r hr => hok r (List.mem_cons_of_mem _ hr)) (by omega) (SKr_fr hS' fun k hk => w2 _ _ (by decide) (by omega)) w1 (by rw [List.length_append, List.length_singleton]; omega) fun m2 v1 v2 v3 => ?_
      rw [List.append_assoc] at v1
      exact k m2 v1 v2 fun a k g1 g2 g3 => (v3 a k g1 g2 g3).trans ((w2 a k g1 g3).trans (f0 a k (by omega)))
    · have ee : ends (q :: s) = ([44], (q - 1) :: s) := by rw [ends, if_pos (by omega)]
      rw [ee] at k
      refine c_write hp h1' (by omega) fun m1 w1 w2 => ⟨hp, ?_⟩
      have := k m1 w1 ⟨?_, SKr_fr hS' fun k hk => w2 _ _ (by decide) (by omega)⟩ fun a k g1 g2 g3 => (w2 a k g1 g3).trans (f0 a k (by omega))
      · rw [List.length_cons] at this
        exact this
      · rw [w2 _ _ (by decide) (by omega), mu_at]
        omega
/-- cells of a row, and plain ones -/
def RC (x f : Nat) (l : List Int) (m : Mi) : Prop := ∀ i, i < l.length → plC (cl l i) (m x (f + i))
theorem RC_fr {x f : Nat} {l : List Int} (h : RC x f l m) (g : ∀ i, i < l.length → m' x (f + i) = m x (f + i)) : RC x f l m' := fun i hi => by rw [g i hi]; exact h i hi
def gq (sc : Nat) (c : Int) : Prop := -800 ≤ c ∧ c < sc
theorem c_writeTerm {x nx f n : Nat} {l : List Int} {s : Ws} (hp : PP P) (hb : b = 54 ∨ b = 155) (hB : BN b Sn sc m J) (hA : BA b sc ar m) (kx : am_kd an_K x = some (.inr (0, nx))) (bx : nx ≤ 100000) (hx : x < 50 ∨ 53 < x) (hxb : x < b ∨ b + 5 ≤ x) (hf : f + l.length ≤ nx) (hl : l.length ≤ 200) (hg : ∀ c, c ∈ l → gq sc c) (hct : ctt (ayw ar) l = some 1) (hR : RC x f l m) (h : WC s m J) (hw : Wb n s) (hn : n + l.length ≤ 3000) {post : Int → Mi → Mj → Mp → Prop} (k : ∀ m' J', WC (wtm (ayw ar) Sn l [] s) m' J' → Wb (n + l.length) (wtm (ayw ar) Sn l [] s) → wcF m J m' J' → post ((f + l.length : Nat) : Int) m' J' P) : Ci X (d + 3) 84 [.ref 50, .ref x, .int (iz (f : Int)), .ref b] m J P post := by
  have kb := kd_book hb
  have hs16 := hB.1.2
  have hpos := ct_ne hct
  have loop : ∀ (r p : List Int) (st : List Nat) (s1 : Ws) (m1 : Mi) (J1 : Mj), l = p ++ r → r ≠ [] → okst st → st.length ≤ p.length → ctt (ayw ar) r = some (need st) → SKr 53 m1 st → WC s1 m1 J1 → Wb (n + p.length) s1 → wcF m J m1 J1 → wtm (ayw ar) Sn l [] s = wtm (ayw ar) Sn r st s1 → Rn X (d + 3) 84 6 [some (.ref 50), some (.ref x), some (.int (iz (f : Int))), some (.ref b), some (.int (iz (st.length : Int))), some (.int (iz ((f + p.length : Nat) : Int))), none] [] (SS m1 J1 P) (QI post) := by
    intro r
    induction r with
    | nil => intro p st s1 m1 J1 _ hne; exact absurd rfl hne
    | cons c r ih =>
      intro p st s1 m1 J1 el _ hok hst hcr hSK h1 hw1 hF e
      have ll : l.length = p.length + (r.length + 1) := by rw [el, List.length_append, List.length_cons]
      have hi : p.length < l.length := by omega
      have ec : cl l p.length = c := cl_of el
      have hcm : c ∈ l := by rw [el]; exact List.mem_append_right _ List.mem_cons_self
      have hgc := hg c hcm
      have hpl := hR p.length hi
      rw [ec] at hpl
      have fr1 : ∀ k, m1 x k = m x k := fun k => hF.1 _ _ (by omega) (by omega) (by omega)
      have hB1 : BN b Sn sc m1 J1 := ⟨⟨(hF.1 _ _ (by omega) (by omega) (by omega)).trans hB.1.1, hB.1.2⟩, fun i hi => ⟨(hF.2 _ _ (by omega)).trans (hB.2 i hi).1, (hB.2 i hi).2⟩⟩
      refine b_Page_writeTerm_6 x nx f b _ _ kx bx kb m1 J1 P hp post ?_
      rw [Int.toNat_natCast, fr1]
      generalize hz : m x (f + p.length) = z at hpl ⊢
      have hay : ayw ar z = ayw ar c := by
        unfold ayw
        by_cases g : c < 0
        · rw [hpl.1 g]
        · obtain ⟨z1, z2⟩ := hpl.2 (by omega)
          have := hgc.2
          rw [if_neg g, if_neg (by omega), z2, show c % 32 = c by omega]
      have hgz : gd sc z := by
        have := hgc.1
        have := hgc.2
        by_cases g : c < 0
        · have := hpl.1 g
          exact ⟨by omega, by omega, fun _ => by omega⟩
        · obtain ⟨z1, z2⟩ := hpl.2 (by omega)
          exact ⟨by omega, by omega, fun _ => by omega⟩
      refine ⟨by constructor <;> omega, by constructor <;> omega, fun g => absurd g (by omega), fun _ => ⟨by omega, ?_⟩⟩
      refine c_writeHead hp hb hB1 hgc hpl h1 hw1 fun m2 J2 w1 w2 => ⟨hp, by omega, ?_⟩
      have hF2 := wcF_trans hF (hcF_wc w2)
      have hb1 := Wb_hd (Sn := Sn) (c := c) hw1 (by omega)
      rw [hF2.1 _ _ (by omega) (by omega) (by omega), hz]
      have hA2 : BA b sc ar m2 := BA_fr hA hs16 fun k _ => hF2.1 _ _ (by omega) (by omega) (by omega)
      have hay4 : ayw ar c ≤ 4 := by
        unfold ayw
        split
        · omega
        · rename_i g
          have g2 := hgc.2
          have := hA (c % 32).toNat (by omega)
          omega
      refine c_args hp kb hA2 hs16 hgz ⟨hp, by constructor <;> omega, ?_⟩
      rw [hay]
      obtain ⟨j, j1, j2, j3⟩ := ct_cons.mp hcr
      have hSK2 : ∀ m3 : Mi, (∀ k, k < st.length → m3 53 k = m1 53 k) → SKr 53 m3 st := fun m3 g => SKr_fr hSK g
      have hw53 : ∀ k, m2 53 k = m1 53 k := fun k => w2.1 _ _ (by omega) (by omega)
      have nx1 : ((f + p.length : Nat) : Int) + 1 = ((f + (p ++ [c]).length : Nat) : Int) := by rw [List.length_append, List.length_singleton]; omega
      have lp : (p ++ [c]).length = p.length + 1 := by rw [List.length_append, List.length_singleton]
      have hnt := need_tots hok
      refine ⟨fun g => ?_, fun g => ⟨by constructor <;> omega, fun g2 => absurd g2 (by omega), fun _ => ?_⟩⟩
      · have g0 : ayw ar c = 0 := by omega
        have ew : wtm (ayw ar) Sn (c :: r) st s1 = wtm (ayw ar) Sn r (ends st).2 ((whd Sn c s1).1 ++ (ends st).1, (whd Sn c s1).2.1, (whd Sn c s1).2.2) := by rw [wtm, if_neg (by omega)]
        obtain ⟨o1, o2, o3, o4⟩ := ends_ok hok
        refine Ci.of rfl rfl rfl (b_Page_writeEnds_0 _ m2 J2 P hp _ (c_ends hp (m0 := m2) st _ m2 hok (by omega) (hSK2 m2 fun k _ => hw53 k) w1.1 (by have := hw1.1; omega) fun m3 v1 v2 v3 => ?_))
        have hW3 : WC ((whd Sn c s1).1 ++ (ends st).1, (whd Sn c s1).2.1, (whd Sn c s1).2.2) m3 J2 := ⟨v1, (v3 _ _ (by decide) (by decide) (by decide)).trans w1.2.1, w1.2.2⟩
        have hWb3 : Wb (n + (p ++ [c]).length) ((whd Sn c s1).1 ++ (ends st).1, (whd Sn c s1).2.1, (whd Sn c s1).2.2) := by
          have := hw1.1
          refine ⟨⟨?_, ?_, by omega⟩, hb1.2.2⟩
          · show ((whd Sn c s1).1 ++ (ends st).1).length ≤ _
            rw [List.length_append]; omega
          · show (whd Sn c s1).2.2 ≤ _
            omega
        have hF3 : wcF m J m3 J2 := wcF_trans hF2 ⟨fun a k g1 g2 g3 => v3 a k g1 g2 (by omega), fun _ _ _ => rfl⟩
        refine ⟨hp, by constructor <;> omega, fun g3 => ?_, fun g3 => ?_⟩
        · have hne : (ends st).2 ≠ [] := fun q => g3 (by rw [q]; rfl)
          rw [if_neg hne] at o4
          have hjn : j = need (ends st).2 := by
            rw [o4]
            by_cases q : st = []
            · rw [q] at hne; exact absurd rfl hne
            · rw [if_neg q] at hnt; omega
          rw [nx1]
          refine ih (p ++ [c]) _ _ m3 J2 (by rw [el, List.append_assoc]; rfl) (fun q => ?_) o1 (by omega) (by rw [j1, hjn]) v2 hW3 hWb3 hF3 (by rw [e, ew])
          rw [q] at j1
          have := ct_nil.mp j1
          have hp0 : 0 < need (ends st).2 := by
            rw [need_tots o1]
            split <;> omega
          omega
        · have hee : (ends st).2 = [] := List.eq_nil_of_length_eq_zero (by omega)
          rw [hee, if_pos rfl] at o4
          have hj0 : j = 0 := by
            by_cases q : st = []
            · rw [if_pos q] at hnt; omega
            · rw [if_neg q] at hnt; omega
          rw [hj0] at j1
          have hr : r = [] := by
            cases r with
            | nil => rfl
            | cons c' r' => obtain ⟨j', _, _, q⟩ := ct_cons.mp j1; omega
          have el2 : l.length = p.length + 1 := by rw [ll, hr]; rfl
          rw [ew, hr] at e
          rw [show ((f + p.length : Nat) : Int) + 1 = ((f + l.length : Nat) : Int) by omega]
          refine k m3 J2 ?_ ?_ hF3
          · rw [e]; exact hW3
          · rw [e, el2, ← lp]; exact hWb3
      · have ew : wtm (ayw ar) Sn (c :: r) st s1 = wtm (ayw ar) Sn r (ayw ar c :: st) ((whd Sn c s1).1 ++ [40], (whd Sn c s1).2.1, (whd Sn c s1).2.2) := by rw [wtm, if_pos (by omega)]
        refine c_write hp w1.1 (by have := hw1.1; omega) fun m3 v1 v2 => ⟨hp, by omega, by constructor <;> omega, fun _ => ?_, fun g3 => absurd (by omega) g3⟩
        have f0 : ∀ a k, ¬ (a = 53 ∧ k = st.length) → mu m3 53 ((st.length : Nat) : Int).toNat (ayw ar c : Int) a k = m3 a k := fun a k g => mu_ne _ _ (by omega)
        have f1 : mu m3 53 ((st.length : Nat) : Int).toNat (ayw ar c : Int) 53 st.length = (ayw ar c : Int) := mu_at _ _ _ _
        generalize mu m3 53 ((st.length : Nat) : Int).toNat (ayw ar c : Int) = m4 at *
        rw [nx1, show ((st.length : Nat) : Int) + 1 = (((ayw ar c :: st).length : Nat) : Int) by rw [List.length_cons]; omega]
        refine ih (p ++ [c]) (ayw ar c :: st) ((whd Sn c s1).1 ++ [40], (whd Sn c s1).2.1, (whd Sn c s1).2.2) m4 J2 (by rw [el, List.append_assoc]; rfl) (fun q => ?_) (fun q hq => ?_) (by rw [List.length_cons]; omega) ?_ ⟨f1, hSK2 m4 fun k hk => (f0 _ _ (by omega)).trans ((v2 _ _ (by decide) (by omega)).trans (hw53 k))⟩ ⟨OC_fr v1 (f0 _ _ (by omega)) (fun q => f0 _ _ (by omega)), (f0 _ _ (by omega)).trans ((v2 _ _ (by decide) (by decide)).trans w1.2.1), w1.2.2⟩ ?_ (wcF_trans hF2 ⟨fun a k g1 g2 g3 => (f0 a k (by omega)).trans (v2 a k g1 (by omega)), fun _ _ _ => rfl⟩) (by rw [e, ew])
        · rw [q] at j1
          have := ct_nil.mp j1
          omega
        · rcases List.mem_cons.mp hq with q | q
          · omega
          · exact hok _ q
        · rw [j1]
          congr 1
          show j = ayw ar c + tots st
          by_cases q : st = []
          · rw [if_pos q] at hnt
            rw [q]
            show j = ayw ar c + 0
            omega
          · rw [if_neg q] at hnt
            omega
        · have := hw1.1
          refine ⟨⟨?_, ?_, by omega⟩, hb1.2.2⟩
          · show ((whd Sn c s1).1 ++ [40]).length ≤ _
            rw [List.length_append, List.length_singleton]; omega
          · show (whd Sn c s1).2.2 ≤ _
            omega
  refine Ci.of rfl rfl rfl (b_Page_writeTerm_0 x nx f b kx bx kb m J P hp post ?_)
  exact loop l [] [] s m J rfl (fun q => by rw [q] at hpos; exact absurd hpos (Nat.lt_irrefl _)) (fun q hq => absurd hq List.not_mem_nil) (Nat.le_refl _) hct trivial h hw ⟨fun _ _ _ _ _ => rfl, fun _ _ _ => rfl⟩ rfl
end OTM
