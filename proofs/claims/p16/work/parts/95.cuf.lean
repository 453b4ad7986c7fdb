/-! the class's Bench: unifies(), isFinite(), whole -/
section CUF
variable {X : aX} {d : Nat} {P : Mp} {J : Mj} {m m' : Mi} {x0 : Nat} {cd : Nat → Int} {nx : Nat → Nat} {ay : Int → Nat} {n : Nat} {R rt T : Nat → Nat} {B : Nat} {col : Nat → Int}
/-- what looking for classes may change -/
def bnF (x0 : Nat) (m m' : Mi) : Prop := ∀ b k, ¬ (x0 + 3 ≤ b ∧ b ≤ x0 + 7) → m' b k = m b k
theorem bnF_trans {m'' : Mi} (h : bnF x0 m m') (h2 : bnF x0 m' m'') : bnF x0 m m'' := fun b k g => (h2 b k g).trans (h b k g)
theorem bnF_sub (h : ∀ b k, ¬ (x0 + 3 ≤ b ∧ b ≤ x0 + 6) → m' b k = m b k) : bnF x0 m m' := fun b k g => h b k (by omega)
theorem rep_var (R : Nat → Nat) (p q z : Nat) : rep R p q z = if R z = p ∨ R z = q then q else R z := by
  unfold rep
  by_cases g : R z = p
  · rw [if_pos g, if_pos (Or.inl g)]
  · rw [if_neg g]
    by_cases g2 : R z = q
    · rw [if_pos (Or.inr g2), g2]
    · rw [if_neg (fun h => h.elim g g2)]
theorem zand_syc {c : Nat} (h0 : 0 ≤ cd c) (h1 : cd c < 64) : zand (cd c) 31 = syc cd c := zand_31 ⟨h0, by omega⟩
/-- the loop of unifies() -/
theorem c_uni_29 {a0 b0 : Nat} {x2 : Int} (hp : PP P) (kx : am_kd an_K x0 = some (.inl 4)) (hG : Gok ay cd nx n) (h32 : ay32 ay) {m0 : Mi} {post : Int → Mi → Mj → Mp → Prop} (kn : un ay cd nx (Amt ay cd n (fun z => z) + 1) (fun z => z) [(a0, b0)] = none → ∀ m', bnF x0 m0 m' → ATT x0 m' → post 0 m' J P) (ks : ∀ R', un ay cd nx (Amt ay cd n (fun z => z) + 1) (fun z => z) [(a0, b0)] = some R' → ∀ m' rt' T' B', CI x0 R' rt' T' B' (fun _ => 0) m' → B' ≤ 1000 → UIv cd n R' → GC x0 cd nx n m' → bnF x0 m0 m' → Ci X (d + 1) 56 [.ref x0, .int (iz (a0 : Int))] m' J P (fun z m2 J2 P2 => PP P2 ∧ (z = 0 ∨ z = 1) ∧ post z m2 J2 P2)) : ∀ (f h : Nat) (R rt T : Nat → Nat) (B : Nat) (st : List (Nat × Nat)) (m : Mi), un ay cd nx f R st = un ay cd nx (Amt ay cd n (fun z => z) + 1) (fun z => z) [(a0, b0)] → f = Amt ay cd n R + st.length → f ≤ 881 → h + f ≤ 881 → B ≤ h → (∀ e, e ∈ st → e.1 < n ∧ e.2 < n) → UIv cd n R → CI x0 R rt T B (fun _ => 0) m → GC x0 cd nx n m → STK x0 m st → bnF x0 m0 m → Rn X (d + 2) 53 29 [some (.ref x0), some (.int (iz (a0 : Int))), some (.int (iz x2)), some (.int (iz ((2 * st.length : Nat) : Int))), some (.int (iz (h : Int))), none, none, none, none] [] (SS m J P) (QI post) := by
  have h880 := hG.1
  intro f
  induction f with
  | zero =>
    intro h R rt T B st m hW hf hf1 hh hB hst hU hC hM hS hF
    have e0 : st = [] := List.length_eq_zero_iff.mp (by omega)
    subst e0
    rw [un] at hW
    have fin := ks R hW.symm m rt T B hC (by omega) hU hM hF
    exact b_Bench_unifies_29 x0 a0 x2 _ h kx m J P hp post ⟨by constructor <;> omega, fun _ => fin, fun _ => ⟨by constructor <;> decide, fun _ => fin, fun g => absurd (by decide) g⟩⟩
  | succ f ih =>
    intro h R rt T B st m hW hf hf1 hh hB hst hU hC hM hS hF
    cases st with
    | nil =>
      rw [un] at hW
      have fin := ks R hW.symm m rt T B hC (by omega) hU hM hF
      exact b_Bench_unifies_29 x0 a0 x2 _ h kx m J P hp post ⟨by constructor <;> omega, fun _ => fin, fun _ => ⟨by constructor <;> decide, fun _ => fin, fun g => absurd (by decide) g⟩⟩
    | cons e st =>
      obtain ⟨a, b⟩ := e
      have hab : a < n ∧ b < n := hst (a, b) List.mem_cons_self
      have hst' : ∀ e, e ∈ st → e.1 < n ∧ e.2 < n := fun e he => hst e (List.mem_cons_of_mem _ he)
      rw [List.length_cons] at hf
      obtain ⟨⟨s1, s2⟩, s3⟩ := hS
      have va := vp_pt hG hab.1
      have vb := vp_pt hG hab.2
      have la := (vp_lt hG va).1
      have lb := (vp_lt hG vb).1
      have ua := hU _ va
      have ub := hU _ vb
      have e1 : ((2 * (st.length + 1) : Nat) : Int) + (-2) = ((2 * st.length : Nat) : Int) := by omega
      have e2 : ((2 * st.length : Nat) : Int).toNat = 2 * st.length := by omega
      have e3 : (((2 * st.length : Nat) : Int) + 1).toNat = 2 * st.length + 1 := by omega
      have e4 : ((h : Nat) : Int) + 1 = ((h + 1 : Nat) : Int) := by omega
      refine b_Bench_unifies_29 x0 a0 x2 _ h kx m J P hp post ⟨by constructor <;> omega, fun g => absurd g (by omega), fun _ => ⟨by rw [List.length_cons]; constructor <;> omega, fun g => absurd g (by rw [List.length_cons]; omega), fun _ => ⟨by rw [List.length_cons]; omega, ?_⟩⟩⟩
      rw [List.length_cons, e1, e2, e3, s1]
      refine c_classOf hp kx hG hM hC (by omega) hab.1 (fun m1 w1 w2 w3 w4 => ⟨hp, by omega, ?_⟩)
      rw [w4 _ _ (by omega), s2]
      have hM1 : GC x0 cd nx n m1 := GC_fr hM (fun k => w4 _ _ (by omega)) (fun k => w4 _ _ (by omega))
      refine c_classOf hp kx hG hM1 w1 (by omega) hab.2 (fun m2 v1 v2 v3 v4 => ⟨hp, ?_⟩)
      have hM2 : GC x0 cd nx n m2 := GC_fr hM1 (fun k => v4 _ _ (by omega)) (fun k => v4 _ _ (by omega))
      have hF2 : bnF x0 m0 m2 := bnF_trans hF (bnF_trans (bnF_sub w4) (bnF_sub v4))
      have hS2 : STK x0 m2 st := STK_fr s3 fun k _ => (v4 _ _ (by omega)).trans (w4 _ _ (by omega))
      have tx : tch x0 m2 (rt (ptc cd a)) := v3 _ w2
      have ty := v2
      obtain ⟨⟨ga1, ga2, _⟩, _, _, ga3, ga4, _⟩ := v1.2.1 _ la
      obtain ⟨⟨gb1, gb2, _⟩, _, _, gb3, gb4, _⟩ := v1.2.1 _ lb
      rw [vhr_t tx] at ga3
      rw [vhr_t ty] at gb3
      have hrr := v1.2.2 _ _ la lb
      have ex : ((rt (ptc cd a) : Nat) : Int).toNat = rt (ptc cd a) := by omega
      have ey : ((rt (ptc cd b) : Nat) : Int).toNat = rt (ptc cd b) := by omega
      rw [ex, ey]
      have nxt : ∀ {m3 : Mi} {R3 : Nat → Nat} {rt3 T3 : Nat → Nat} {B3 : Nat} {st3 : List (Nat × Nat)}, un ay cd nx f R3 st3 = un ay cd nx (Amt ay cd n (fun z => z) + 1) (fun z => z) [(a0, b0)] → f = Amt ay cd n R3 + st3.length → B3 ≤ h + 1 → (∀ e, e ∈ st3 → e.1 < n ∧ e.2 < n) → UIv cd n R3 → CI x0 R3 rt3 T3 B3 (fun _ => 0) m3 → GC x0 cd nx n m3 → STK x0 m3 st3 → bnF x0 m0 m3 → ∀ x5 x6 : Int, Rn X (d + 2) 53 172 [some (.ref x0), some (.int (iz (a0 : Int))), some (.int (iz x2)), some (.int (iz ((2 * st3.length : Nat) : Int))), some (.int (iz (h : Int))), some (.int (iz x5)), some (.int (iz x6)), none, none] [] (SS m3 J P) (QI post) := by
        intro m3 R3 rt3 T3 B3 st3 q1 q2 q3 q4 q5 q6 q7 q8 q9 x5 x6
        refine b_Bench_unifies_172 x0 a0 x2 _ h x5 x6 kx m3 J P hp post ?_
        rw [e4]
        exact ih (h + 1) R3 rt3 T3 B3 st3 m3 q1 q2 (by omega) (by omega) q3 q4 q5 q6 q7 q8 q9
      have z1 : Zr ((rt (ptc cd a) : Nat) : Int) := by constructor <;> omega
      have z2 : Zr ((rt (ptc cd b) : Nat) : Int) := by constructor <;> omega
      have zp : Zr (m2 (x0 + 4) (rt (ptc cd a))) := by rw [ga3]; split <;> (constructor <;> omega)
      have zq : Zr (m2 (x0 + 4) (rt (ptc cd b))) := by rw [gb3]; split <;> (constructor <;> omega)
      rw [un] at hW
      refine ⟨z1, z2, fun hne => ⟨by omega, by omega, by omega, zq, ?_, ?_⟩, fun heq => ?_⟩
      · -- the other class has a SYMBOL
        intro ht
        have hxy : rt (ptc cd a) ≠ rt (ptc cd b) := fun e => hne (by omega)
        have hRn : R (ptc cd a) ≠ R (ptc cd b) := fun e => hxy (hrr.mpr e)
        rw [if_neg hRn] at hW
        have q8 : R (ptc cd b) < 880 := Classical.byContradiction fun g => ht (by rw [gb3, if_neg g])
        rw [if_pos q8] at gb3
        have nq := (vp_lt hG ub.1).2 q8
        have U1 : ∀ {st3 : List (Nat × Nat)} (m3 : Mi), (∀ o k, o ≠ x0 + 7 → m3 o k = mu m2 (x0 + 3) (rt (ptc cd a)) (rt (ptc cd b) : Int) o k) → CI x0 (rep R (R (ptc cd a)) (R (ptc cd b))) (rep rt (rt (ptc cd a)) (rt (ptc cd b))) (fun w => if w = rt (ptc cd b) then B + 1 else T w) (B + 1) (fun _ => 0) m3 ∧ GC x0 cd nx n m3 ∧ bnF x0 m0 m3 := by
          intro _ m3 hm3
          refine ⟨CI_union (m' := m3) v1 la lb hxy tx ty (fun z => rep_var _ _ _ _) gb2 (fun _ => rfl) (Or.inr rfl) (hv := (R (ptc cd b) : Int)) (by rw [if_pos q8]) ?_ ?_ (fun k hk => ?_) ?_ (fun k hk => ?_) (fun k => ?_) (fun k => ?_), GC_fr hM2 (fun k => ?_) (fun k => ?_), bnF_trans hF2 fun b k g => ?_⟩
          · rw [hm3 _ _ (by omega), mu_ne _ _ (by omega)]
          · rw [hm3 _ _ (by omega), mu_at]
          · rw [hm3 _ _ (by omega), mu_ne _ _ (by omega)]
          · rw [hm3 _ _ (by omega), mu_ne _ _ (by omega)]; exact gb3
          · rw [hm3 _ _ (by omega), mu_ne _ _ (by omega)]
          · rw [hm3 _ _ (by omega), mu_ne _ _ (by omega)]
          · rw [hm3 _ _ (by omega), mu_ne _ _ (by omega)]
          · rw [hm3 _ _ (by omega), mu_ne _ _ (by omega)]
          · rw [hm3 _ _ (by omega), mu_ne _ _ (by omega)]
          · rw [hm3 _ _ (by omega), mu_ne _ _ (by omega)]
        refine ⟨zp, fun hs => ?_, fun hs => ⟨zq, fun _ => ?_, fun g => absurd ht g⟩⟩
        · have p8 : 880 ≤ R (ptc cd a) := Classical.byContradiction fun g => by
            rw [ga3, if_pos (by omega)] at hs; omega
          rw [if_pos p8] at hW
          obtain ⟨u1, u2, u3⟩ := U1 (st3 := st) (mu m2 (x0 + 3) (rt (ptc cd a)) (rt (ptc cd b) : Int)) (fun _ _ _ => rfl)
          exact nxt hW (by rw [Amt_var hG hU p8]; omega) (by omega) hst' (UIv_rep hU ua.2.1 ub.2.1 hRn ub.1 (fun q => absurd q (by omega))) u1 u2 (STK_fr hS2 fun k _ => mu_ne _ _ (by omega)) u3 _ _
        · have p8 : R (ptc cd a) < 880 := Classical.byContradiction fun g => hs (by rw [ga3, if_neg g])
          rw [if_pos p8] at ga3
          rw [if_neg (by omega), if_neg (by omega)] at hW
          have np := (vp_lt hG ua.1).2 p8
          obtain ⟨_, _, bp1, bp2⟩ := hG.2.2 _ np.1
          obtain ⟨_, _, bq1, bq2⟩ := hG.2.2 _ nq.1
          have cp : mu m2 (x0 + 3) (rt (ptc cd a)) (rt (ptc cd b) : Int) (x0 + 1) (R (ptc cd a)) = cd (R (ptc cd a)) := (mu_ne _ _ (by omega)).trans (hM2 _ np.1).1
          have cq : mu m2 (x0 + 3) (rt (ptc cd a)) (rt (ptc cd b) : Int) (x0 + 1) (R (ptc cd b)) = cd (R (ptc cd b)) := (mu_ne _ _ (by omega)).trans (hM2 _ nq.1).1
          have ip : ((R (ptc cd a) : Nat) : Int).toNat = R (ptc cd a) := by omega
          have iq : ((R (ptc cd b) : Nat) : Int).toNat = R (ptc cd b) := by omega
          rw [ga3, gb3, ip, iq, cp, cq, zand_syc np.2 bp2, zand_syc nq.2 bq2]
          have zs : ∀ c, Zr (syc cd c) := fun c => by unfold syc; constructor <;> omega
          refine ⟨by omega, by omega, zs _, zs _, fun he => ?_, fun he => ?_⟩
          · rw [if_neg (fun g => g he)] at hW
            have eay := h32 _ _ np.2 nq.2 he
            have hAm := Amt_sym (ay := ay) (n := n) (cd := cd) ua.2.1 ub.2.1 hRn np.1 np.2
            have hM3 : GC x0 cd nx n (mu m2 (x0 + 3) (rt (ptc cd a)) (rt (ptc cd b) : Int)) := GC_fr hM2 (fun k => mu_ne _ _ (by omega)) (fun k => mu_ne _ _ (by omega))
            refine c_pushArgs hp kx hG hM3 np.1 nq.1 eay (STK_fr hS2 fun k _ => mu_ne _ _ (by omega)) (by omega) (fun m3 t1 t2 => ⟨hp, ?_⟩)
            obtain ⟨u1, u2, u3⟩ := U1 (st3 := st) m3 t2
            refine nxt hW (by rw [List.length_append, prs_len]; omega) (by omega) (fun e he2 => ?_) (UIv_rep hU ua.2.1 ub.2.1 hRn ub.1 (fun _ => q8)) u1 u2 t1 u3 _ _
            rcases List.mem_append.mp he2 with he2 | he2
            · obtain ⟨i, i1, i2⟩ := prs_mem he2
              rw [i2]
              exact ⟨(G_kid hG np.1 i1).2.1, (G_kid hG nq.1 (by rw [← eay]; exact i1)).2.1⟩
            · exact hst' e he2
          · rw [if_pos he] at hW
            obtain ⟨u1, u2, u3⟩ := U1 (st3 := st) (mu m2 (x0 + 3) (rt (ptc cd a)) (rt (ptc cd b) : Int)) (fun _ _ _ => rfl)
            exact kn hW.symm _ u3 u1.1
      · -- the other class is of VARIABLES
        intro ht
        have hxy : rt (ptc cd a) ≠ rt (ptc cd b) := fun e => hne (by omega)
        have hRn : R (ptc cd a) ≠ R (ptc cd b) := fun e => hxy (hrr.mpr e)
        rw [if_neg hRn] at hW
        have q8 : 880 ≤ R (ptc cd b) := Classical.byContradiction fun g => ht (by rw [gb3, if_pos (by omega)]; omega)
        rw [if_neg (by omega)] at gb3
        refine ⟨by omega, zp, ?_, ?_⟩
        · intro hs
          have p8 : 880 ≤ R (ptc cd a) := Classical.byContradiction fun g => by
            rw [ga3, if_pos (by omega)] at hs; omega
          rw [if_pos p8] at hW
          have hu : CI x0 (rep R (R (ptc cd a)) (R (ptc cd b))) (rep rt (rt (ptc cd a)) (rt (ptc cd b))) (fun w => if w = rt (ptc cd b) then B + 1 else T w) (B + 1) (fun _ => 0) (mu (mu m2 (x0 + 3) (rt (ptc cd a)) (rt (ptc cd b) : Int)) (x0 + 4) (rt (ptc cd b)) (m2 (x0 + 4) (rt (ptc cd a)))) := by
            refine CI_union v1 la lb hxy tx ty (fun z => rep_var _ _ _ _) gb2 (fun _ => rfl) (Or.inr rfl) (hv := -1) (by rw [if_neg (by omega)]) ?_ ?_ (fun k hk => ?_) ?_ (fun k hk => ?_) (fun k => ?_) (fun k => ?_)
            · rw [mu_ne _ _ (by omega), mu_ne _ _ (by omega)]
            · rw [mu_ne _ _ (by omega), mu_at]
            · rw [mu_ne _ _ (by omega), mu_ne _ _ (by omega)]
            · rw [mu_at, hs]
            · rw [mu_ne _ _ (by omega), mu_ne _ _ (by omega)]
            · rw [mu_ne _ _ (by omega), mu_ne _ _ (by omega)]
            · rw [mu_ne _ _ (by omega), mu_ne _ _ (by omega)]
          exact nxt hW (by rw [Amt_var hG hU p8]; omega) (by omega) hst' (UIv_rep hU ua.2.1 ub.2.1 hRn ub.1 (fun q => absurd q (by omega))) hu (GC_fr hM2 (fun k => by rw [mu_ne _ _ (by omega), mu_ne _ _ (by omega)]) (fun k => by rw [mu_ne _ _ (by omega), mu_ne _ _ (by omega)])) (STK_fr hS2 fun k _ => by rw [mu_ne _ _ (by omega), mu_ne _ _ (by omega)]) (bnF_trans hF2 fun b k g => by rw [mu_ne _ _ (by omega), mu_ne _ _ (by omega)]) _ _
        · intro hs
          have p8 : R (ptc cd a) < 880 := Classical.byContradiction fun g => hs (by rw [ga3, if_neg g])
          rw [if_pos p8] at ga3
          rw [if_neg (by omega), if_pos q8] at hW
          have hu : CI x0 (rep R (R (ptc cd b)) (R (ptc cd a))) (rep rt (rt (ptc cd a)) (rt (ptc cd b))) (fun w => if w = rt (ptc cd b) then B + 1 else T w) (B + 1) (fun _ => 0) (mu (mu m2 (x0 + 3) (rt (ptc cd a)) (rt (ptc cd b) : Int)) (x0 + 4) (rt (ptc cd b)) (m2 (x0 + 4) (rt (ptc cd a)))) := by
            refine CI_union v1 la lb hxy tx ty (r := R (ptc cd a)) (fun z => ?_) ga2 (fun g => absurd g (by omega)) (Or.inl rfl) (hv := (R (ptc cd a) : Int)) (by rw [if_pos p8]) ?_ ?_ (fun k hk => ?_) ?_ (fun k hk => ?_) (fun k => ?_) (fun k => ?_)
            · rw [rep_var]
              by_cases g : R z = R (ptc cd a) ∨ R z = R (ptc cd b)
              · rw [if_pos g, if_pos g.symm]
              · rw [if_neg g, if_neg (fun g2 => g g2.symm)]
            · rw [mu_ne _ _ (by omega), mu_ne _ _ (by omega)]
            · rw [mu_ne _ _ (by omega), mu_at]
            · rw [mu_ne _ _ (by omega), mu_ne _ _ (by omega)]
            · rw [mu_at, ga3]
            · rw [mu_ne _ _ (by omega), mu_ne _ _ (by omega)]
            · rw [mu_ne _ _ (by omega), mu_ne _ _ (by omega)]
            · rw [mu_ne _ _ (by omega), mu_ne _ _ (by omega)]
          refine ⟨zq, fun g => absurd g ht, fun _ => ?_⟩
          exact nxt hW (by rw [Amt_var hG hU q8]; omega) (by omega) hst' (UIv_rep hU ub.2.1 ua.2.1 (fun e => hRn e.symm) ua.1 (fun q => absurd q (by omega))) hu (GC_fr hM2 (fun k => by rw [mu_ne _ _ (by omega), mu_ne _ _ (by omega)]) (fun k => by rw [mu_ne _ _ (by omega), mu_ne _ _ (by omega)])) (STK_fr hS2 fun k _ => by rw [mu_ne _ _ (by omega), mu_ne _ _ (by omega)]) (bnF_trans hF2 fun b k g => by rw [mu_ne _ _ (by omega), mu_ne _ _ (by omega)]) _ _
      · -- one class already
        have hxy : rt (ptc cd a) = rt (ptc cd b) := by omega
        rw [if_pos (hrr.mp hxy)] at hW
        exact nxt hW (by omega) (by omega) hst' hU v1 hM2 hS2 hF2 _ _
/-- pushClass() of a class with a SYMBOL -/
theorem c_pushClass {r h top : Nat} (hp : PP P) (kx : am_kd an_K x0 = some (.inl 4)) (hr : r < 1688) (hh : m (x0 + 4) r = (h : Int)) (h8 : h < 880) (ht : top + 2 ≤ 2048) {post : Int → Mi → Mj → Mp → Prop} (k : post ((top + 2 : Nat) : Int) (mu (mu (mu m (x0 + 5) r 1) (x0 + 7) top (h : Int)) (x0 + 7) (top + 1) ((h : Int) + 1)) J P) : Ci X d 57 [.ref x0, .int (iz (r : Int)), .int (iz (top : Int))] m J P post := by
  have e1 : ((r : Nat) : Int).toNat = r := by omega
  have e2 : ((top : Nat) : Int).toNat = top := by omega
  have e3 : (((top : Nat) : Int) + 1).toNat = top + 1 := by omega
  have e4 : ((top : Nat) : Int) + 2 = ((top + 2 : Nat) : Int) := by omega
  refine Ci.of rfl rfl rfl (b_Bench_pushClass_0 x0 r top kx m J P hp post ⟨by omega, ?_⟩)
  rw [e1, hh, e2, e3, e4]
  exact ⟨by constructor <;> omega, fun g => absurd g (by omega), fun _ => ⟨by constructor <;> omega, fun _ => ⟨by omega, by omega, by omega, k⟩, fun g => absurd (by omega) g⟩⟩
theorem c_pushClassV {r top : Nat} (hp : PP P) (kx : am_kd an_K x0 = some (.inl 4)) (hr : r < 1688) (hh : m (x0 + 4) r = -1) {post : Int → Mi → Mj → Mp → Prop} (k : post (top : Int) m J P) : Ci X d 57 [.ref x0, .int (iz (r : Int)), .int (iz (top : Int))] m J P post := by
  have e1 : ((r : Nat) : Int).toNat = r := by omega
  refine Ci.of rfl rfl rfl (b_Bench_pushClass_0 x0 r top kx m J P hp post ⟨by omega, ?_⟩)
  rw [e1, hh]
  exact ⟨zrm, fun _ => k, fun g => absurd rfl g⟩
/-- the search's stack -/
def STF (x0 : Nat) (nx : Nat → Nat) (m : Mi) : List (Nat × Nat) → Prop
  | [] => True
  | (c, i) :: st => (m (x0 + 7) (2 * st.length) = (c : Int) ∧ m (x0 + 7) (2 * st.length + 1) = (kid nx (c + 1) i : Int)) ∧ STF x0 nx m st
theorem STF_fr : ∀ {st : List (Nat × Nat)}, STF x0 nx m st → (∀ k, k < 2 * st.length → m' (x0 + 7) k = m (x0 + 7) k) → STF x0 nx m' st
  | [], _, _ => trivial
  | (a, b) :: st, h, f => by
    rw [List.length_cons] at f
    exact ⟨⟨(f _ (by omega)).trans h.1.1, (f _ (by omega)).trans h.1.2⟩, STF_fr h.2 fun k hk => f k (by omega)⟩
theorem c_fin_13 {a0 : Nat} (hp : PP P) (kx : am_kd an_K x0 = some (.inl 4)) (hG : Gok ay cd nx n) (hU : UIv cd n R) (hB : B ≤ 1000) {m0 : Mi} {W : Bool} {post : Int → Mi → Mj → Mp → Prop} (k : ∀ m' col', CI x0 R rt T B col' m' → GC x0 cd nx n m' → bnF x0 m0 m' → post (if W = true then 1 else 0) m' J P) : ∀ (f h : Nat) (col : Nat → Int) (st : List (Nat × Nat)) (m : Mi), df ay cd nx R f col st = W → Dmt ay cd n col st ≤ f → h + f ≤ 10000 → st.length + Wht n col ≤ n → (∀ z, (col z = 0 ∨ col z = 1 ∨ col z = 2) ∧ (col z ≠ 0 → z < 880)) → (∀ e, e ∈ st → e.1 < n ∧ 0 ≤ cd e.1 ∧ R e.1 = e.1 ∧ col e.1 ≠ 0 ∧ e.2 ≤ ay (cd e.1)) → CI x0 R rt T B col m → GC x0 cd nx n m → STF x0 nx m st → bnF x0 m0 m → Rn X (d + 1) 56 13 [some (.ref x0), some (.int (iz (a0 : Int))), some (.int (iz ((2 * st.length : Nat) : Int))), some (.int (iz (h : Int))), none, none, none] [] (SS m J P) (QI post) := by
  have h880 := hG.1
  intro f
  induction f with
  | zero =>
    intro h col st m hW hf hh hw hcv hst hC hM hS hF
    cases st with
    | cons e st => obtain ⟨c, i⟩ := e; rw [Dmt] at hf; omega
    | nil =>
      rw [df] at hW
      have fin := k m col hC hM hF
      rw [← hW] at fin
      exact b_Bench_isFinite_13 x0 a0 _ h kx m J P hp post ⟨by constructor <;> omega, fun _ => fin, fun _ => ⟨by constructor <;> decide, fun _ => fin, fun g => absurd (by decide) g⟩⟩
  | succ f ih =>
    intro h col st m hW hf hh hw hcv hst hC hM hS hF
    cases st with
    | nil =>
      rw [df] at hW
      have fin := k m col hC hM hF
      rw [← hW] at fin
      exact b_Bench_isFinite_13 x0 a0 _ h kx m J P hp post ⟨by constructor <;> omega, fun _ => fin, fun _ => ⟨by constructor <;> decide, fun _ => fin, fun g => absurd (by decide) g⟩⟩
    | cons e st =>
      obtain ⟨c, i⟩ := e
      obtain ⟨g1, g2, g3, g4, g5⟩ := hst (c, i) List.mem_cons_self
      change c < n at g1
      change 0 ≤ cd c at g2
      change R c = c at g3
      change col c ≠ 0 at g4
      change i ≤ ay (cd c) at g5
      have hst' : ∀ e, e ∈ st → e.1 < n ∧ 0 ≤ cd e.1 ∧ R e.1 = e.1 ∧ col e.1 ≠ 0 ∧ e.2 ≤ ay (cd e.1) := fun e he => hst e (List.mem_cons_of_mem _ he)
      obtain ⟨⟨s1, s2⟩, s3⟩ := hS
      rw [List.length_cons] at hw
      rw [Dmt] at hf
      have h4 := (hG.2.2 c g1).2.1
      have e1 : ((2 * (st.length + 1) : Nat) : Int) - 2 = ((2 * st.length : Nat) : Int) := by omega
      have e1' : ((2 * (st.length + 1) : Nat) : Int) - 1 = ((2 * st.length + 1 : Nat) : Int) := by omega
      have e2 : ((2 * st.length : Nat) : Int).toNat = 2 * st.length := by omega
      have e3 : ((2 * st.length + 1 : Nat) : Int).toNat = 2 * st.length + 1 := by omega
      have e4 : ((h : Nat) : Int) + 1 = ((h + 1 : Nat) : Int) := by omega
      have ec : ((c : Nat) : Int).toNat = c := by omega
      have hkb : kid nx (c + 1) i ≤ nx c := by
        by_cases g : i = ay (cd c)
        · rw [g, G_end hG g1]; exact Nat.le_refl _
        · have := G_kid hG g1 (i := i) (by omega); omega
      have hnb := (hG.2.2 c g1).1.2.1
      refine b_Bench_isFinite_13 x0 a0 _ h kx m J P hp post ⟨by constructor <;> omega, fun g => absurd g (by omega), fun _ => ⟨by rw [List.length_cons]; constructor <;> omega, fun g => absurd g (by rw [List.length_cons]; omega), fun _ => ⟨by rw [List.length_cons]; omega, by rw [List.length_cons]; omega, ?_⟩⟩⟩
      rw [List.length_cons, e1, e1', e2, e3, s1, s2, ec, (hM c g1).2]
      rw [df] at hW
      refine ⟨by omega, by constructor <;> omega, by constructor <;> omega, fun hlt => ?_, fun hge => ?_⟩
      · -- the next ARGUMENT
        have hi : i < ay (cd c) := Classical.byContradiction fun g => by
          have : i = ay (cd c) := by omega
          rw [this, G_end hG g1] at hlt
          omega
        rw [if_neg (by omega)] at hW
        have gk := G_kid hG g1 hi
        have ek : ((kid nx (c + 1) i : Nat) : Int).toNat = kid nx (c + 1) i := by omega
        rw [ek, (hM _ gk.2.1).2]
        have hM1 : GC x0 cd nx n (mu m (x0 + 7) (2 * st.length + 1) (nx (kid nx (c + 1) i) : Int)) := GC_fr hM (fun k => mu_ne _ _ (by omega)) (fun k => mu_ne _ _ (by omega))
        have hC1 : CI x0 R rt T B col (mu m (x0 + 7) (2 * st.length + 1) (nx (kid nx (c + 1) i) : Int)) := CI_fr hC (mu_ne _ _ (by omega)) (fun a k _ _ => mu_ne _ _ (by omega))
        have hv := vp_pt hG gk.2.1
        have hl := (vp_lt hG hv).1
        have hq := hU _ hv
        refine ⟨by omega, by omega, c_classOf hp kx hG hM1 hC1 (by omega) gk.2.1 (fun m2 w1 w2 w3 w4 => ⟨hp, ?_⟩)⟩
        have hM2 : GC x0 cd nx n m2 := GC_fr hM1 (fun k => w4 _ _ (by omega)) (fun k => w4 _ _ (by omega))
        have hF2 : bnF x0 m0 m2 := bnF_trans hF (bnF_trans (fun b k g => mu_ne _ _ (by omega)) (bnF_sub w4))
        have hS2 : STF x0 nx m2 ((c, i + 1) :: st) := by
          refine ⟨⟨?_, ?_⟩, STF_fr s3 fun k hk => ?_⟩
          · rw [w4 _ _ (by omega), mu_ne _ _ (by omega)]; exact s1
          · rw [w4 _ _ (by omega), mu_at]; rfl
          · rw [w4 _ _ (by omega), mu_ne _ _ (by omega)]
        obtain ⟨⟨b1, b2, _⟩, _, _, b5, b6, b7⟩ := w1.2.1 _ hl
        rw [vsh_t w2] at b7
        rw [vhr_t w2] at b5
        have er : ((rt (ptc cd (kid nx (c + 1) i)) : Nat) : Int).toNat = rt (ptc cd (kid nx (c + 1) i)) := by omega
        have hst2 : ∀ e, e ∈ (c, i + 1) :: st → e.1 < n ∧ 0 ≤ cd e.1 ∧ R e.1 = e.1 ∧ col e.1 ≠ 0 ∧ e.2 ≤ ay (cd e.1) := fun e he => by
          rcases List.mem_cons.mp he with rfl | he
          · exact ⟨g1, g2, g3, g4, hi⟩
          · exact hst' e he
        have eD : Dmt ay cd n col ((c, i + 1) :: st) + 1 = (ay (cd c) - i + 1) + Dmt ay cd n col st := by rw [Dmt]; omega
        have e5 : ((2 * (st.length + 1) : Nat) : Int) = ((2 * ((c, i + 1) :: st).length : Nat) : Int) := by rw [List.length_cons]
        rw [er, b7]
        have zc : Zr (col (R (ptc cd (kid nx (c + 1) i)))) := by rcases (hcv (R (ptc cd (kid nx (c + 1) i)))).1 with g | g | g <;> (rw [g]; constructor <;> decide)
        refine ⟨by omega, zc, fun hne1 => ⟨by omega, zc, fun hne0 => ?_, fun he0 => ?_⟩, fun he1 => ?_⟩
        · -- searched before
          rw [e5, e4]
          refine ih (h + 1) col ((c, i + 1) :: st) m2 ?_ (by omega) (by omega) (by rw [List.length_cons]; exact hw) hcv hst2 w1 hM2 hS2 hF2
          by_cases q8 : R (ptc cd (kid nx (c + 1) i)) < 880
          · rw [if_pos q8, if_neg hne1, if_neg hne0] at hW; exact hW
          · rw [if_neg q8] at hW; exact hW
        · have he0' : col (R (ptc cd (kid nx (c + 1) i))) = 0 := Classical.not_not.mp he0
          by_cases q8 : R (ptc cd (kid nx (c + 1) i)) < 880
          · rw [if_pos q8, if_neg hne1, if_pos he0'] at hW
            rw [if_pos q8] at b5
            have nq := (vp_lt hG hq.1).2 q8
            have hWn := Wht_new (n := n) nq.1 he0'
            have hDn := Dmt_new (ay := ay) (cd := cd) nq.1 he0' (st := (c, i + 1) :: st)
            have e6 : ((2 * (st.length + 1) : Nat) : Int) = ((2 * st.length + 2 : Nat) : Int) := by omega
            rw [e6]
            refine c_pushClass (h := R (ptc cd (kid nx (c + 1) i))) (top := 2 * st.length + 2) hp kx b1 b5 q8 (by omega) ⟨hp, ?_⟩
            have e7 : ((2 * st.length + 2 + 2 : Nat) : Int) = ((2 * ((R (ptc cd (kid nx (c + 1) i)), 0) :: (c, i + 1) :: st).length : Nat) : Int) := by simp; omega
            rw [e7, e4]
            have hC3 := CI_shade (v := 1) w1 hl w2
            refine ih (h + 1) (cset col (R (ptc cd (kid nx (c + 1) i))) 1) ((R (ptc cd (kid nx (c + 1) i)), 0) :: (c, i + 1) :: st) _ hW ?_ (by omega) ?_ (fun z => ?_) (fun e he => ?_) (CI_fr hC3 ?_ (fun a k g1 g2 => ?_)) (GC_fr hM2 (fun k => ?_) (fun k => ?_)) ?_ (bnF_trans hF2 fun b k g => ?_)
            · rw [Dmt, Nat.sub_zero]; omega
            · rw [List.length_cons, List.length_cons]; omega
            · unfold cset
              split
              · exact ⟨Or.inr (Or.inl rfl), fun _ => by omega⟩
              · exact hcv z
            · rcases List.mem_cons.mp he with rfl | he
              · exact ⟨nq.1, nq.2, hq.2.1, by rw [cset_at]; decide, Nat.zero_le _⟩
              · have := hst2 e he
                refine ⟨this.1, this.2.1, this.2.2.1, ?_, this.2.2.2.2⟩
                rw [cset_ne _ _ (fun q => by rw [q] at this; exact this.2.2.2.1 he0')]
                exact this.2.2.2.1
            · rw [mu_ne _ _ (by omega), mu_ne _ _ (by omega)]
            · rw [mu_ne _ _ (by omega), mu_ne _ _ (by omega)]
            · rw [mu_ne _ _ (by omega), mu_ne _ _ (by omega), mu_ne _ _ (by omega)]
            · rw [mu_ne _ _ (by omega), mu_ne _ _ (by omega), mu_ne _ _ (by omega)]
            · refine ⟨⟨?_, ?_⟩, STF_fr hS2 fun k hk => ?_⟩
              · rw [List.length_cons, mu_ne _ _ (by omega), show 2 * (st.length + 1) = 2 * st.length + 2 by omega, mu_at]
              · rw [List.length_cons, show 2 * (st.length + 1) + 1 = 2 * st.length + 2 + 1 by omega, mu_at, kid]
                omega
              · rw [List.length_cons] at hk
                rw [mu_ne _ _ (by omega), mu_ne _ _ (by omega), mu_ne _ _ (by omega)]
            · rw [mu_ne _ _ (by omega), mu_ne _ _ (by omega), mu_ne _ _ (by omega)]
          · rw [if_neg q8] at hW
            rw [if_neg q8] at b5
            refine c_pushClassV hp kx b1 b5 ⟨hp, ?_⟩
            rw [e5, e4]
            exact ih (h + 1) col ((c, i + 1) :: st) m2 hW (by omega) (by omega) (by rw [List.length_cons]; exact hw) hcv hst2 w1 hM2 hS2 hF2
        · -- it lies in itself
          have he1' : col (R (ptc cd (kid nx (c + 1) i))) = 1 := Classical.not_not.mp he1
          have q8 : R (ptc cd (kid nx (c + 1) i)) < 880 := (hcv _).2 (by rw [he1']; decide)
          rw [if_pos q8, if_pos he1'] at hW
          have fin := k m2 col w1 hM2 hF2
          rw [← hW] at fin
          exact fin
      · -- through
        have hi : i = ay (cd c) := Classical.byContradiction fun g => by
          have := G_kid hG g1 (i := i) (by omega)
          omega
        rw [if_pos (by omega)] at hW
        have hpc : ptc cd c = c := by unfold ptc; rw [if_neg (by omega)]
        have hl : c < 1688 := by omega
        have hc1 : col c ≠ 0 := g4
        refine c_classOf hp kx hG hM hC (by omega) g1 (fun m2 w1 w2 w3 w4 => ⟨hp, ?_⟩)
        rw [hpc] at w2 ⊢
        have b1 := (w1.2.1 c hl).1.1
        have er : ((rt c : Nat) : Int).toNat = rt c := by omega
        have e6 : ((2 * (st.length + 1) : Nat) : Int) + (-2) = ((2 * st.length : Nat) : Int) := by omega
        rw [er, e6, e4]
        have hC3 := CI_shade (v := 2) w1 hl w2
        rw [g3] at hC3
        refine ⟨by omega, ih (h + 1) (cset col c 2) st _ hW ?_ (by omega) ?_ (fun z => ?_) (fun e he => ?_) hC3 (GC_fr hM (fun k => ?_) (fun k => ?_)) (STF_fr s3 fun k hk => ?_) (bnF_trans hF fun b k g => ?_)⟩
        · rw [Dmt_col hc1 (by decide)]; omega
        · rw [Wht_col hc1 (by decide)]; omega
        · unfold cset
          split
          · exact ⟨Or.inr (Or.inr rfl), fun _ => by omega⟩
          · exact hcv z
        · have := hst' e he
          refine ⟨this.1, this.2.1, this.2.2.1, ?_, this.2.2.2.2⟩
          unfold cset
          split
          · decide
          · exact this.2.2.2.1
        · rw [mu_ne _ _ (by omega)]; exact w4 _ _ (by omega)
        · rw [mu_ne _ _ (by omega)]; exact w4 _ _ (by omega)
        · rw [mu_ne _ _ (by omega)]; exact w4 _ _ (by omega)
        · rw [mu_ne _ _ (by omega)]; exact w4 _ _ (by omega)
/-- isFinite() -/
theorem c_isFinite {a0 : Nat} (hp : PP P) (kx : am_kd an_K x0 = some (.inl 4)) (hG : Gok ay cd nx n) (hU : UIv cd n R) (hB : B ≤ 1000) (hC : CI x0 R rt T B (fun _ => 0) m) (hM : GC x0 cd nx n m) (ha : a0 < n) {post : Int → Mi → Mj → Mp → Prop} (k : ∀ m' col', CI x0 R rt T B col' m' → bnF x0 m m' → post (if fin ay cd nx n R a0 = true then 1 else 0) m' J P) : Ci X (d + 1) 56 [.ref x0, .int (iz (a0 : Int))] m J P post := by
  have h880 := hG.1
  have hv := vp_pt hG ha
  have hl := (vp_lt hG hv).1
  have hq := hU _ hv
  refine Ci.of rfl rfl rfl (b_Bench_isFinite_0 x0 a0 kx m J P hp post ?_)
  refine c_classOf hp kx hG hM hC (by omega) ha (fun m1 w1 w2 w3 w4 => ⟨hp, ?_⟩)
  have hM1 : GC x0 cd nx n m1 := GC_fr hM (fun k => w4 _ _ (by omega)) (fun k => w4 _ _ (by omega))
  have hF1 : bnF x0 m m1 := bnF_sub w4
  obtain ⟨⟨b1, b2, _⟩, _, _, b5, b6, b7⟩ := w1.2.1 _ hl
  rw [vhr_t w2] at b5
  have e0 : (0 : Int) = ((0 : Nat) : Int) := rfl
  by_cases q8 : R (ptc cd a0) < 880
  · rw [if_pos q8] at b5
    have nq := (vp_lt hG hq.1).2 q8
    refine c_pushClass (h := R (ptc cd a0)) (top := 0) hp kx b1 b5 q8 (by omega) ⟨hp, ?_⟩
    have hC3 := CI_shade (v := 1) w1 hl w2
    have hW0 : Wht n (fun _ => 0) ≤ n := by
      unfold Wht
      have : sumn (fun _ => wh 0 1) n = n := by
        have := sumn_const (c := wh 0 1) (k := n)
        rw [this, wh_0]; omega
      exact Nat.le_of_eq this
    have hWn := Wht_new (n := n) (col := fun _ => 0) nq.1 rfl
    have efin : fin ay cd nx n R a0 = df ay cd nx R (Dmt ay cd n (cset (fun _ => 0) (R (ptc cd a0)) 1) [(R (ptc cd a0), 0)]) (cset (fun _ => 0) (R (ptc cd a0)) 1) [(R (ptc cd a0), 0)] := by unfold fin; rw [if_neg (by omega)]
    have hD : Dmt ay cd n (cset (fun _ => 0) (R (ptc cd a0)) 1) [(R (ptc cd a0), 0)] ≤ 6000 := by
      rw [Dmt, Dmt]
      have := sumn_wh (col := cset (fun _ => 0) (R (ptc cd a0)) 1) (fun c => ay (cd c) + 2) (k := n) (fun i hi => by have := (hG.2.2 i hi).2.1; omega)
      have := (hG.2.2 _ nq.1).2.1
      omega
    have e1 : ((0 + 2 : Nat) : Int) = ((2 * [(R (ptc cd a0), 0)].length : Nat) : Int) := rfl
    rw [e1]
    have := c_fin_13 (X := X) (d := d) (J := J) (a0 := a0) (m0 := m) (W := fin ay cd nx n R a0) (post := post) hp kx hG hU hB (fun m' col' v1 v2 v3 => k m' col' v1 v3) _ 0 _ [(R (ptc cd a0), 0)] (mu (mu (mu m1 (x0 + 5) (rt (ptc cd a0)) 1) (x0 + 7) 0 (R (ptc cd a0) : Int)) (x0 + 7) (0 + 1) ((R (ptc cd a0) : Int) + 1)) efin.symm (Nat.le_refl _) (by omega) (by rw [List.length_singleton]; omega) (fun z => ?_) (fun e he => ?_) (CI_fr hC3 ?_ (fun a k g1 g2 => ?_)) (GC_fr hM1 (fun k => ?_) (fun k => ?_)) ⟨⟨?_, ?_⟩, trivial⟩ (bnF_trans hF1 fun b k g => ?_)
    · exact this
    · unfold cset
      split
      · exact ⟨Or.inr (Or.inl rfl), fun _ => by omega⟩
      · exact ⟨Or.inl rfl, fun g => absurd rfl g⟩
    · rw [List.mem_singleton.mp he]
      exact ⟨nq.1, nq.2, hq.2.1, by rw [cset_at]; decide, Nat.zero_le _⟩
    · rw [mu_ne _ _ (by omega), mu_ne _ _ (by omega)]
    · rw [mu_ne _ _ (by omega), mu_ne _ _ (by omega)]
    · rw [mu_ne _ _ (by omega), mu_ne _ _ (by omega), mu_ne _ _ (by omega)]
    · rw [mu_ne _ _ (by omega), mu_ne _ _ (by omega), mu_ne _ _ (by omega)]
    · show mu (mu (mu m1 (x0 + 5) (rt (ptc cd a0)) 1) (x0 + 7) 0 (R (ptc cd a0) : Int)) (x0 + 7) (0 + 1) ((R (ptc cd a0) : Int) + 1) (x0 + 7) (2 * 0) = (R (ptc cd a0) : Int)
      rw [mu_ne _ _ (by omega), mu_at]
    · show mu (mu (mu m1 (x0 + 5) (rt (ptc cd a0)) 1) (x0 + 7) 0 (R (ptc cd a0) : Int)) (x0 + 7) (0 + 1) ((R (ptc cd a0) : Int) + 1) (x0 + 7) (2 * 0 + 1) = _
      rw [show 2 * 0 + 1 = 0 + 1 by rfl, mu_at, kid]
      omega
    · rw [mu_ne _ _ (by omega), mu_ne _ _ (by omega), mu_ne _ _ (by omega)]
  · rw [if_neg q8] at b5
    have efin : fin ay cd nx n R a0 = true := by unfold fin; rw [if_pos (by omega)]
    have done := k m1 _ w1 hF1
    rw [efin, if_pos rfl] at done
    rw [show iz 0 = iz ((0 : Nat) : Int) from rfl]
    refine c_pushClassV (top := 0) hp kx b1 b5 ⟨hp, ?_⟩
    exact b_Bench_isFinite_13 x0 a0 _ _ kx m1 J P hp post ⟨zr0, fun _ => done, fun _ => ⟨zr0, fun _ => done, fun g => absurd (by decide) g⟩⟩
/-- unifies() -/
theorem c_unifies {a0 b0 : Nat} (hp : PP P) (kx : am_kd an_K x0 = some (.inl 4)) (hG : Gok ay cd nx n) (h32 : ay32 ay) (hAm : Amt ay cd n (fun z => z) ≤ 880) (hM : GC x0 cd nx n m) (hA : ATT x0 m) (hA2 : m x0 8 < 2147483647) (ha : a0 < n) (hb : b0 < n) {post : Int → Mi → Mj → Mp → Prop} (k1 : ∀ R, uni ay cd nx n a0 b0 = some R → ∀ m' rt T B col, CI x0 R rt T B col m' → B ≤ 1000 → UIv cd n R → m' x0 8 = m x0 8 + 1 → (∀ b k, ¬ (x0 + 3 ≤ b ∧ b ≤ x0 + 7) → ¬ (b = x0 ∧ k = 8) → m' b k = m b k) → post 1 m' J P) (k0 : uni ay cd nx n a0 b0 = none → ∀ m', ATT x0 m' → m' x0 8 = m x0 8 + 1 → (∀ b k, ¬ (x0 + 3 ≤ b ∧ b ≤ x0 + 7) → ¬ (b = x0 ∧ k = 8) → m' b k = m b k) → post 0 m' J P) : Ci X (d + 2) 53 [.ref x0, .int (iz (a0 : Int)), .int (iz (b0 : Int))] m J P post := by
  have h880 := hG.1
  refine Ci.of rfl rfl rfl (b_Bench_unifies_0 x0 a0 b0 kx m J P hp post ⟨by decide, by decide, ?_⟩)
  generalize hm1 : mu (mu (mu m x0 8 (m x0 8 + 1)) (x0 + 7) (0 : Int).toNat (a0 : Int)) (x0 + 7) (1 : Int).toNat (b0 : Int) = m1
  have f1 : ∀ b k, b ≠ x0 + 7 → ¬ (b = x0 ∧ k = 8) → m1 b k = m b k := fun b k g1 g2 => by rw [← hm1, mu_ne _ _ (by omega), mu_ne _ _ (by omega), mu_ne _ _ (by omega)]
  have f8 : m1 x0 8 = m x0 8 + 1 := by rw [← hm1, mu_ne _ _ (by omega), mu_ne _ _ (by omega), mu_at]
  have hA1 := hA.1
  have hM1 : GC x0 cd nx n m1 := GC_fr hM (fun k => f1 _ _ (by omega) (by omega)) (fun k => f1 _ _ (by omega) (by omega))
  have nt : ∀ z, z < 1688 → ¬ tch x0 m1 z := fun z hz g => by
    unfold tch at g
    rw [f8, f1 _ _ (by omega) (by omega)] at g
    have := (hA.2 z hz).2
    omega
  have hA' : ATT x0 m1 := ⟨by rw [f8]; omega, fun z hz => by
    rw [f8, f1 _ _ (by omega) (by omega)]
    have := hA.2 z hz
    omega⟩
  have hC1 : CI x0 (fun z => z) (fun z => z) (fun _ => 0) 0 (fun _ => 0) m1 := by
    refine ⟨hA', fun z hz => ⟨⟨hz, hz, Nat.le_refl _⟩, ⟨z, vlk_n (nt z hz), hz, rfl, fun g => absurd rfl g, fun _ => rfl, fun g => g⟩, vlk_n (nt z hz), vhr_n (nt z hz), fun _ => rfl, vsh_n (nt z hz)⟩, fun _ _ _ _ => Iff.rfl⟩
  have G1 : ∀ {m'}, bnF x0 m1 m' → m' x0 8 = m x0 8 + 1 ∧ ∀ b k, ¬ (x0 + 3 ≤ b ∧ b ≤ x0 + 7) → ¬ (b = x0 ∧ k = 8) → m' b k = m b k := fun h => ⟨(h _ _ (by omega)).trans f8, fun b k g1 g2 => (h b k g1).trans (f1 b k (by omega) g2)⟩
  have e1 : (2 : Int) = ((2 * [(a0, b0)].length : Nat) : Int) := rfl
  have e0 : (0 : Int) = ((0 : Nat) : Int) := rfl
  have := c_uni_29 (X := X) (d := d) (J := J) (x2 := b0) (a0 := a0) (b0 := b0) (m0 := m1) (post := post) hp kx hG h32 (fun hn m' w1 w2 => k0 (by unfold uni; rw [hn]) m' w2 (G1 w1).1 (G1 w1).2) (fun R' hs m' rt' T' B' w1 w2 w3 w4 w5 => ?_) (Amt ay cd n (fun z => z) + 1) 0 (fun z => z) (fun z => z) (fun _ => 0) 0 [(a0, b0)] m1 rfl rfl (by omega) (by omega) (Nat.le_refl _) (fun e he => by rw [List.mem_singleton.mp he]; exact ⟨ha, hb⟩) UIv_id hC1 hM1 ⟨⟨?_, ?_⟩, trivial⟩ (fun _ _ _ => rfl)
  · exact this
  · refine c_isFinite hp kx hG w3 w2 w1 w4 ha (fun m2 col2 v1 v2 => ?_)
    have g := G1 (bnF_trans w5 v2)
    by_cases hf : fin ay cd nx n R' a0 = true
    · rw [if_pos hf]
      exact ⟨hp, Or.inr rfl, k1 R' (by unfold uni; rw [hs]; dsimp only; rw [if_pos hf]) m2 rt' T' B' col2 v1 w2 w3 g.1 g.2⟩
    · rw [if_neg hf]
      exact ⟨hp, Or.inl rfl, k0 (by unfold uni; rw [hs]; dsimp only; rw [if_neg hf]) m2 v1.1 g.1 g.2⟩
  · show m1 (x0 + 7) (2 * 0) = (a0 : Int)
    rw [← hm1, mu_ne _ _ (by simp)]
    exact mu_at _ _ _ _
  · show m1 (x0 + 7) (2 * 0 + 1) = (b0 : Int)
    rw [← hm1]
    exact mu_at _ _ _ _
end CUF
