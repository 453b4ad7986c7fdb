/-! OUT: TERMS in the reference -/
section OTR
variable {X : aX} {d : Nat} {P : Mp} {J J' : Mj} {m m' : Mi} {Sn : Nat → Nat} {sc : Nat} {ar : Nat → Int}
theorem r_shut {x nx : Nat} {x2 x3 x5 x6 : Int} (hp : PP P) (kx : am_kd an_K x = some (.inr (0, nx))) (bx : nx ≤ 100000) {post : Mi → Mj → Mp → Prop} : ∀ (st : List Nat) (l : List Int) (m : Mi), okst st → st.length ≤ 200 → SKr 299 m st → OR l m → l.length + st.length < 1000000 → (∀ m', OR (l ++ (ends st).1) m' → SKr 299 m' (ends st).2 → (∀ a k, a ≠ 347 → a ≠ 299 → ¬ (a = 262 ∧ k = 136) → m' a k = m a k) → Rn X (d + 3) 189 198 [some (.ref 262), some (.ref x), some (.int (iz x2)), some (.int (iz x3)), some (.int (iz ((ends st).2.length : Int))), some (.int (iz x5)), some (.int (iz x6)), none] [] (SS m' J P) (QV post)) → Rn X (d + 3) 189 117 [some (.ref 262), some (.ref x), some (.int (iz x2)), some (.int (iz x3)), some (.int (iz (st.length : Int))), some (.int (iz x5)), some (.int (iz x6)), some (.int (iz (if st = [] then 0 else 1)))] [] (SS m J P) (QV post) := by
  intro st
  induction st with
  | nil =>
    intro l m _ _ _ h1 _ k
    refine b_Mdl_showRow_117 x nx x2 x3 _ x5 x6 _ kx bx m J P hp post ⟨by decide, fun _ => ?_, fun g => absurd (by decide) g⟩
    exact k m (by rw [show (ends []).1 = ([] : List Int) from rfl, List.append_nil]; exact h1) trivial fun _ _ _ _ _ => rfl
  | cons q s ih =>
    intro l m hok hl hS h1 h2 k
    have hq := hok q List.mem_cons_self
    rw [List.length_cons] at hl h2 ⊢
    have e1 : ((s.length + 1 : Nat) : Int) - 1 = (s.length : Int) := by omega
    have e2 : ((s.length + 1 : Nat) : Int) + (-1) = (s.length : Int) := by omega
    rw [if_neg (by simp)]
    refine b_Mdl_showRow_117 x nx x2 x3 _ x5 x6 _ kx bx m J P hp post ?_
    rw [e1, e2, Int.toNat_natCast, mu_at, hS.1]
    have f0 : ∀ a k, ¬ (a = 299 ∧ k = s.length) → mu m 299 s.length ((q : Int) - 1) a k = m a k := fun a k g => mu_ne _ _ (by omega)
    have h1' : OR l (mu m 299 s.length ((q : Int) - 1)) := OR_fr h1 (f0 _ _ (by omega)) (fun q => f0 _ _ (by omega))
    have hS' : SKr 299 (mu m 299 s.length ((q : Int) - 1)) s := SKr_fr hS.2 fun k hk => f0 _ _ (by omega)
    refine ⟨by decide, fun g => absurd g (by decide), fun _ => ⟨by omega, by omega, by omega, by constructor <;> omega, fun g => ?_, fun g => ?_⟩⟩
    · have ee : ends (q :: s) = ([44], (q - 1) :: s) := by rw [ends, if_pos (by omega)]
      rw [ee] at k
      refine r_put hp h1' (by omega) (by decide) fun m1 w1 w2 => ⟨hp, ?_⟩
      have := k m1 w1 ⟨?_, SKr_fr hS' fun k hk => w2 _ _ (by decide) (by omega)⟩ fun a k g1 g2 g3 => (w2 a k g1 g3).trans (f0 a k (by omega))
      · refine b_Mdl_showRow_178 x nx x2 x3 _ x5 x6 _ kx bx m1 J P hp post ⟨by decide, fun _ => ?_, fun g => absurd rfl g⟩
        refine b_Mdl_showRow_117 x nx x2 x3 _ x5 x6 _ kx bx m1 J P hp post ⟨by decide, fun _ => ?_, fun g => absurd (by decide) g⟩
        exact this
      · rw [w2 _ _ (by decide) (by omega), mu_at]
        omega
    · have ee : ends (q :: s) = (41 :: (ends s).1, (ends s).2) := by rw [ends, if_neg (by omega)]
      rw [ee] at k
      refine r_put hp h1' (by omega) (by decide) fun m1 w1 w2 => ⟨hp, ?_⟩
      have nx1 := ih _ m1 (fun r hr => hok r (List.mem_cons_of_mem _ hr)) (by omega) (SKr_fr hS' fun k hk => w2 _ _ (by decide) (by omega)) w1 (by rw [List.length_append, List.length_singleton]; omega) fun m2 v1 v2 v3 => by
        rw [List.append_assoc] at v1
        exact k m2 v1 v2 fun a k g1 g2 g3 => (v3 a k g1 g2 g3).trans ((w2 a k g1 g3).trans (f0 a k (by omega)))
      refine b_Mdl_showRow_178 x nx x2 x3 _ x5 x6 _ kx bx m1 J P hp post ⟨by decide, fun g => absurd g (by decide), fun _ => ⟨by constructor <;> omega, fun g3 => ?_, fun g3 => ?_⟩⟩
      · rw [if_pos (List.eq_nil_of_length_eq_zero (by omega))] at nx1
        exact nx1
      · rw [if_neg (fun q => g3 (by rw [q]; decide))] at nx1
        exact nx1
/-- cells of a row of the reference, and plain ones -/
def RD (x f : Nat) (l : List Int) (m : Mi) : Prop := ∀ i, i < l.length → plR (cl l i) (m x (f + i))
theorem RD_fr {x f : Nat} {l : List Int} (h : RD x f l m) (g : ∀ i, i < l.length → m' x (f + i) = m x (f + i)) : RD x f l m' := fun i hi => by rw [g i hi]; exact h i hi
theorem r_showRow {x nx f n : Nat} {l : List Int} {s : Ws} (hp : PP P) (hK : RK sc Sn ar m J) (kx : am_kd an_K x = some (.inr (0, nx))) (bx : nx ≤ 100000) (hx : (x < 262 ∨ (280 < x ∧ x < 299)) ∨ (299 < x ∧ x < 347)) (hf : f + l.length ≤ nx) (hl : l.length ≤ 200) (hg : ∀ c, c ∈ l → gq sc c) (hct : ctt (ayw ar) l = some 1) (hR : RD x f l m) (h : WR s m J) (hw : Wb n s) (hn : n + l.length ≤ 3000) {post : Mi → Mj → Mp → Prop} (k : ∀ m', WR (wtm (ayw ar) Sn l [] s) m' J → Wb (n + l.length) (wtm (ayw ar) Sn l [] s) → wrF_ m J m' J → post m' J P) : Cv X (d + 3) 189 [.ref 262, .ref x, .int (iz (f : Int)), .int (iz (l.length : Int))] m J P post := by
  have hs16 := hK.1.2
  have hpos := ct_ne hct
  have loop : ∀ (r p : List Int) (st : List Nat) (s1 : Ws) (m1 : Mi), l = p ++ r → (if r = [] then st = [] else ctt (ayw ar) r = some (need st)) → okst st → st.length ≤ p.length → SKr 299 m1 st → WR s1 m1 J → Wb (n + p.length) s1 → wrF_ m J m1 J → wtm (ayw ar) Sn l [] s = wtm (ayw ar) Sn r st s1 → Rn X (d + 3) 189 6 [some (.ref 262), some (.ref x), some (.int (iz (f : Int))), some (.int (iz (l.length : Int))), some (.int (iz (st.length : Int))), some (.int (iz ((f + p.length : Nat) : Int))), none, none] [] (SS m1 J P) (QV post) := by
    intro r
    induction r with
    | nil =>
      intro p st s1 m1 el hne hok hst hSK h1 hw1 hF e
      have ll : l.length = p.length := by rw [el, List.append_nil]
      refine b_Mdl_showRow_6 x nx f _ _ _ kx bx m1 J P hp post ⟨by constructor <;> omega, by constructor <;> omega, fun _ => ?_, fun g => absurd (by omega) g⟩
      refine k m1 ?_ ?_ hF
      · rw [e]; exact h1
      · rw [e, ll]; exact hw1
    | cons c r ih =>
      intro p st s1 m1 el hcr hok hst hSK h1 hw1 hF e
      rw [if_neg (by simp)] at hcr
      have ll : l.length = p.length + (r.length + 1) := by rw [el, List.length_append, List.length_cons]
      have hi : p.length < l.length := by omega
      have ec : cl l p.length = c := cl_of el
      have hcm : c ∈ l := by rw [el]; exact List.mem_append_right _ List.mem_cons_self
      have hgc := hg c hcm
      have hg1 := hgc.1
      have hg2 := hgc.2
      have hpl := hR p.length hi
      rw [ec] at hpl
      have fr1 : ∀ k, m1 x k = m x k := fun k => hF.1 _ _ (by omega) (by omega) (by omega) (by omega)
      have hK1 : ∀ i : Nat, i < sc → m1 280 i = ar i ∧ 0 ≤ ar i ∧ ar i ≤ 4 := fun i hi => ⟨(hF.1 _ _ (by decide) (by decide) (by decide) (by omega)).trans (hK.2.2 i hi).1, (hK.2.2 i hi).2⟩
      have hb1 := Wb_hd (Sn := Sn) (c := c) hw1 (by omega)
      obtain ⟨j, j1, j2, j3⟩ := ct_cons.mp hcr
      have nx1 : ((f + p.length : Nat) : Int) + 1 = ((f + (p ++ [c]).length : Nat) : Int) := by rw [List.length_append, List.length_singleton]; omega
      have lp : (p ++ [c]).length = p.length + 1 := by rw [List.length_append, List.length_singleton]
      have hnt := need_tots hok
      -- behind a head without ARGUMENTS
      have leaf : ∀ (m2 : Mi) (x6 : Int), ayw ar c = 0 → WR (whd Sn c s1) m2 J → (∀ a k, a ≠ 347 → a ≠ 349 → ¬ (a = 262 ∧ (k = 136 ∨ k = 139)) → m2 a k = m1 a k) → Rn X (d + 3) 189 105 [some (.ref 262), some (.ref x), some (.int (iz (f : Int))), some (.int (iz (l.length : Int))), some (.int (iz (st.length : Int))), some (.int (iz ((f + p.length : Nat) : Int))), some (.int (iz x6)), none] [] (SS m2 J P) (QV post) := by
        intro m2 x6 g0 w1 w2
        have ew : wtm (ayw ar) Sn (c :: r) st s1 = wtm (ayw ar) Sn r (ends st).2 ((whd Sn c s1).1 ++ (ends st).1, (whd Sn c s1).2.1, (whd Sn c s1).2.2) := by rw [wtm, if_neg (by omega)]
        obtain ⟨o1, o2, o3, o4⟩ := ends_ok hok
        have sh := r_shut (X := X) (d := d) (J := J) (x2 := (f : Int)) (x3 := (l.length : Int)) (x5 := ((f + p.length : Nat) : Int)) (x6 := x6) hp kx bx (post := post) st _ m2 hok (by omega) (SKr_fr hSK fun k _ => w2 _ _ (by decide) (by decide) (by omega)) w1.1 (by have := hw1.1; omega) fun m3 v1 v2 v3 => by
          have hW3 : WR ((whd Sn c s1).1 ++ (ends st).1, (whd Sn c s1).2.1, (whd Sn c s1).2.2) m3 J := ⟨v1, (v3 _ _ (by decide) (by decide) (by decide)).trans w1.2.1, fun v hv => ⟨(w1.2.2 v hv).1, (v3 _ _ (by decide) (by decide) (by omega)).trans (w1.2.2 v hv).2⟩⟩
          have hWb3 : Wb (n + (p ++ [c]).length) ((whd Sn c s1).1 ++ (ends st).1, (whd Sn c s1).2.1, (whd Sn c s1).2.2) := by
            have := hw1.1
            refine ⟨⟨?_, ?_, by omega⟩, hb1.2.2⟩
            · show ((whd Sn c s1).1 ++ (ends st).1).length ≤ _
              rw [List.length_append]; omega
            · show (whd Sn c s1).2.2 ≤ _
              omega
          have hF3 : wrF_ m J m3 J := wrF__trans hF ⟨fun a k g1 g2 g3 g4 => (v3 a k g1 g2 (by omega)).trans (w2 a k g1 g3 g4), fun _ _ _ => rfl⟩
          refine b_Mdl_showRow_198 x nx f _ _ _ x6 kx bx m3 J P hp post ?_
          rw [nx1]
          refine ih (p ++ [c]) _ _ m3 (by rw [el, List.append_assoc]; rfl) ?_ o1 (by omega) v2 hW3 hWb3 hF3 (by rw [e, ew])
          by_cases q : st = []
          · rw [if_pos q] at hnt
            have hr : r = [] := by
              cases r with
              | nil => rfl
              | cons c' r' => obtain ⟨j', _, _, q⟩ := ct_cons.mp j1; omega
            rw [if_pos hr, q]
            rfl
          · rw [if_neg q] at hnt
            by_cases q2 : (ends st).2 = []
            · rw [if_pos q2] at o4
              have hr : r = [] := by
                cases r with
                | nil => rfl
                | cons c' r' => obtain ⟨j', _, _, q⟩ := ct_cons.mp j1; omega
              rw [if_pos hr]
              exact q2
            · rw [if_neg q2] at o4
              have hjn : j = need (ends st).2 := by omega
              have hp0 : 0 < need (ends st).2 := by
                rw [need_tots o1]
                split <;> omega
              have hr : r ≠ [] := fun q => by
                rw [q] at j1
                have := ct_nil.mp j1
                omega
              rw [if_neg hr, j1, hjn]
        refine b_Mdl_showRow_105 x nx f _ _ _ x6 kx bx m2 J P hp post ⟨by constructor <;> omega, fun g => ?_, fun g => ?_⟩
        · rw [if_pos (List.eq_nil_of_length_eq_zero (by omega))] at sh
          exact sh
        · rw [if_neg (fun q => g (by rw [q]; decide))] at sh
          exact sh
      refine b_Mdl_showRow_6 x nx f _ _ _ kx bx m1 J P hp post ?_
      rw [Int.toNat_natCast, fr1]
      generalize hz : m x (f + p.length) = z at hpl ⊢
      refine ⟨by constructor <;> omega, by constructor <;> omega, fun g => absurd g (by omega), fun _ => ⟨by omega, ?_⟩⟩
      by_cases g : c < 0
      · have ez := hpl.1 g
        subst ez
        obtain ⟨v, hv⟩ : ∃ v : Nat, (-1) - z = (v : Int) := ⟨(-1 - z).toNat, by omega⟩
        have ev : whd Sn z s1 = whv v s1 := by
          unfold whd
          rw [if_neg (by omega), show (-1 - z).toNat = v by omega]
        refine ⟨by constructor <;> omega, fun g2 => absurd g2 (by omega), fun _ => ⟨by omega, by constructor <;> omega, fun g2 => absurd g2 (by omega), fun _ => ?_⟩⟩
        rw [hv]
        refine r_putVariable hp (by omega) h1 hw1 fun m2 w1 w2 => ⟨hp, by constructor <;> omega, fun _ => ?_, fun g2 => absurd g g2⟩
        refine leaf m2 z (by unfold ayw; rw [if_pos g]) (by rw [ev]; exact w1) w2
      · obtain ⟨z1, z2⟩ := hpl.2 (by omega)
        have er : zrem z 64 = c := by rw [(zrem_64 z1).1, z2]
        rw [er]
        have ej : J 279 c.toNat = rN (Sn c.toNat) := (hK.2.1 c.toNat (by omega)).1
        have ei : isN (Sn c.toNat) := (hK.2.1 c.toNat (by omega)).2
        have ea := hK1 c.toNat (by omega)
        have hay : (ayw ar c : Int) = ar c.toNat := by
          unfold ayw
          rw [if_neg g, show c % 32 = c by omega]
          omega
        have ew1 : whd Sn c s1 = (s1.1 ++ nbs (Sn c.toNat), s1.2.1, s1.2.2) := by
          unfold whd
          rw [if_pos (by omega)]
        refine ⟨by constructor <;> omega, fun _ => ⟨by omega, by constructor <;> omega, fun _ => ⟨by omega, ?_⟩, fun g2 => absurd (by omega) g2⟩, fun g2 => absurd z1.1 g2⟩
        rw [ej]
        refine r_putName hp ei h1.1 (by have := hw1.1; omega) fun m2 w1 w2 => ⟨hp, by constructor <;> omega, fun g2 => absurd g2 g, fun _ => ⟨by omega, ?_⟩⟩
        have ea2 : m2 280 c.toNat = ar c.toNat := (w2 _ _ (by decide) (by omega)).trans ea.1
        have hW2 : WR (whd Sn c s1) m2 J := by rw [ew1]; exact WR_or h1 w1 w2
        rw [ea2]
        refine ⟨by constructor <;> omega, fun g2 => ?_, fun g2 => ?_⟩
        · exact leaf m2 c (by omega) hW2 fun a k g1 g3 g4 => w2 a k g1 (by omega)
        · have ew : wtm (ayw ar) Sn (c :: r) st s1 = wtm (ayw ar) Sn r (ayw ar c :: st) ((whd Sn c s1).1 ++ [40], (whd Sn c s1).2.1, (whd Sn c s1).2.2) := by rw [wtm, if_pos (by omega)]
          refine r_put hp hW2.1 (by have := hw1.1; omega) (by decide) fun m3 v1 v2 => ⟨hp, by omega, by omega, ?_⟩
          have ea3 : m3 280 c.toNat = (ayw ar c : Int) := ((v2 _ _ (by decide) (by omega)).trans ea2).trans hay.symm
          rw [ea3]
          have f0 : ∀ a k, ¬ (a = 299 ∧ k = st.length) → mu m3 299 ((st.length : Nat) : Int).toNat (ayw ar c : Int) a k = m3 a k := fun a k g => mu_ne _ _ (by omega)
          have f1 : mu m3 299 ((st.length : Nat) : Int).toNat (ayw ar c : Int) 299 st.length = (ayw ar c : Int) := mu_at _ _ _ _
          generalize mu m3 299 ((st.length : Nat) : Int).toNat (ayw ar c : Int) = m4 at *
          refine b_Mdl_showRow_198 x nx f _ _ _ c kx bx m4 J P hp post ?_
          rw [nx1, show ((st.length : Nat) : Int) + 1 = (((ayw ar c :: st).length : Nat) : Int) by rw [List.length_cons]; omega]
          have hr : r ≠ [] := fun q => by
            rw [q] at j1
            have := ct_nil.mp j1
            omega
          refine ih (p ++ [c]) (ayw ar c :: st) ((whd Sn c s1).1 ++ [40], (whd Sn c s1).2.1, (whd Sn c s1).2.2) m4 (by rw [el, List.append_assoc]; rfl) ?_ (fun q hq => ?_) (by rw [List.length_cons]; omega) ⟨f1, SKr_fr hSK fun k hk => (f0 _ _ (by omega)).trans ((v2 _ _ (by decide) (by omega)).trans (w2 _ _ (by decide) (by omega)))⟩ ⟨OR_fr v1 (f0 _ _ (by omega)) (fun q => f0 _ _ (by omega)), (f0 _ _ (by omega)).trans ((v2 _ _ (by decide) (by decide)).trans hW2.2.1), fun v hv => ⟨(hW2.2.2 v hv).1, (f0 _ _ (by omega)).trans ((v2 _ _ (by decide) (by omega)).trans (hW2.2.2 v hv).2)⟩⟩ ?_ (wrF__trans hF ⟨fun a k g1 g2 g3 g4 => (f0 a k (by omega)).trans ((v2 a k g1 (by omega)).trans (w2 a k g1 (by omega))), fun _ _ _ => rfl⟩) (by rw [e, ew])
          · rw [if_neg hr, j1]
            congr 1
            show j = ayw ar c + tots st
            by_cases q : st = []
            · rw [if_pos q] at hnt
              rw [q]
              show j = ayw ar c + 0
              omega
            · rw [if_neg q] at hnt
              omega
          · rcases List.mem_cons.mp hq with q | q
            · omega
            · exact hok _ q
          · have := hw1.1
            refine ⟨⟨?_, ?_, by omega⟩, hb1.2.2⟩
            · show ((whd Sn c s1).1 ++ [40]).length ≤ _
              rw [List.length_append, List.length_singleton]; omega
            · show (whd Sn c s1).2.2 ≤ _
              omega
  refine Cv.of rfl rfl rfl (b_Mdl_showRow_0 x nx f _ kx bx m J P hp post ?_)
  exact loop l [] [] s m rfl (by rw [if_neg (fun q => by rw [q] at hpos; exact absurd hpos (Nat.lt_irrefl _))]; exact hct) (fun q hq => absurd hq List.not_mem_nil) (Nat.le_refl _) trivial h hw ⟨fun _ _ _ _ _ _ => rfl, fun _ _ _ => rfl⟩ rfl
end OTR
