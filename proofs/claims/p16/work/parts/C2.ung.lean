/-! the GOAL as a graph; takeGoal(); unify() in the class -/
section UNG
variable {X : aX} {d : Nat} {P : Mp} {J J' : Mj} {m m' : Mi} {Sn : Nat → Nat} {sc b s o g N : Nat} {ar : Nat → Int} {R : Nat → Mi} {n : Int} {t : Int → Int} {Z : Mi}
/-- VALUES of the first NODE -/
def sgs : Nat → List (List Int)
  | 0 => []
  | v + 1 => sgs v ++ [[-1 - (v : Int)]]
theorem sgs_len : ∀ {v : Nat}, (sgs v).length = v
  | 0 => rfl
  | v + 1 => by rw [sgs, List.length_append, sgs_len]; rfl
theorem sgs_mem : ∀ {v : Nat} {w : List Int}, w ∈ sgs v → ∃ u : Nat, u < v ∧ w = [-1 - (u : Int)]
  | 0, w, h => absurd h List.not_mem_nil
  | v + 1, w, h => by
    rw [sgs] at h
    rcases List.mem_append.mp h with h | h
    · obtain ⟨u, h1, h2⟩ := sgs_mem h
      exact ⟨u, by omega, h2⟩
    · exact ⟨v, by omega, List.mem_singleton.mp h⟩
theorem sgs_flat : ∀ {v : Nat}, (sgs v).flatten.length = v
  | 0 => rfl
  | v + 1 => by rw [sgs, List.flatten_append, List.length_append, sgs_flat]; rfl
theorem sgs_get : ∀ {v i : Nat} (h : i < v), cl (sgs v).flatten i = -1 - (i : Int)
  | v + 1, i, h => by
    rw [sgs, List.flatten_append]
    by_cases g : i < v
    · rw [cl_app (by rw [sgs_flat]; exact g)]
      exact sgs_get g
    · have e : i = (sgs v).flatten.length + 0 := by rw [sgs_flat]; omega
      rw [e, cl_shift, sgs_flat]
      show -1 - (v : Int) = _
      omega
theorem sgs_take : ∀ {v i : Nat}, i ≤ v → ((sgs v).take i).flatten.length = i
  | 0, i, h => by rw [show i = 0 by omega]; rfl
  | v + 1, i, h => by
    rw [sgs]
    by_cases g : i ≤ v
    · rw [List.take_append_of_le_length (by rw [sgs_len]; exact g)]
      exact sgs_take g
    · rw [List.take_of_length_le (by rw [List.length_append, sgs_len, List.length_singleton]; omega), List.flatten_append, List.length_append, sgs_flat]
      show v + 1 = i
      omega
theorem qG_0 {ar : Nat → Int} (h : (qA Sn sc ar t n (qG t n)).1 = 0) : qG t n 0 5 = 0 ∧ (jN Sn sc ar (qG t n) (qG t n 0 3).toNat 0).1 = 0 := by
  have h5 : qG t n 0 5 = 0 := by
    apply Classical.byContradiction
    intro q
    unfold qA at h
    rw [if_pos q] at h
    exact q h
  refine ⟨h5, ?_⟩
  unfold qA at h
  rw [if_neg (fun q => q h5)] at h
  by_cases g : tK t n (qG t n 0 0) ≠ 0
  · rw [if_pos g] at h
    have := ft_bd t n (qG t n 0 0)
    exfalso
    revert h
    show ft t n (qG t n 0 0) = 0 → False
    omega
  · rw [if_neg g] at h
    exact h
/-- every VARIABLE of a GOAL stands in it -/
theorem qG_V (hT : Tx t n) (h5 : qG t n 0 5 = 0) : ∀ v : Nat, (v : Int) < qG t n 0 4 → ∃ c : Nat, (c : Int) < qG t n 0 3 ∧ qG t n 1 c = v := by
  have hp := tA_bd (t := t) hT.2.2.1
  have hA := yA_I (most := 6) hT hp (by decide)
  have hft := ft_bd t n (yA t n 6 (tA t n 0) 0 0)
  have hV := yrn_V (most := 6) hT (by decide) (n + 1).toNat _ (y0_I hp (by decide)) (show yV (y0 (tA t n 0)) from fun v hv => absurd hv (by simp [y0, mu]))
  have hA5 : yA t n 6 (tA t n 0) 0 5 = 0 := Classical.byContradiction fun h => by
    unfold qG at h5
    rw [yTwo, if_pos h] at h5
    exact h h5
  have hg : tK t n (yA t n 6 (tA t n 0) 0 0) = 8 := Classical.byContradiction fun h => by
    unfold qG at h5
    rw [yTwo, if_neg (fun g => g hA5), if_pos h] at h5
    have e2 : yBad (yA t n 6 (tA t n 0)) (ft t n (yA t n 6 (tA t n 0) 0 0)) (yA t n 6 (tA t n 0) 0 0) 0 5 = ft t n (yA t n 6 (tA t n 0) 0 0) := by simp [yBad, mu]
    rw [e2] at h5
    omega
  have eT : qG t n = yrn t n 6 (yA t n 6 (tA t n 0) 0 3) (n + 1).toNat (y2 (yA t n 6 (tA t n 0)) (nxp t n (yA t n 6 (tA t n 0) 0 0))) := by
    unfold qG
    rw [yTwo, if_neg (fun g => g hA5), if_neg (fun g => g hg)]
  have hI := yB_I (most := 6) hT hp (by decide) hA5
  have h03 : 0 ≤ yA t n 6 (tA t n 0) 0 3 := hA.1.2.2.2.1.1
  rw [eT]
  refine yrn_V (most := 6) hT h03 (n + 1).toNat _ hI fun v hv => ?_
  have e4 : y2 (yA t n 6 (tA t n 0)) (nxp t n (yA t n 6 (tA t n 0) 0 0)) 0 4 = yA t n 6 (tA t n 0) 0 4 := by simp [y2, mu]
  have e3 : y2 (yA t n 6 (tA t n 0)) (nxp t n (yA t n 6 (tA t n 0) 0 0)) 0 3 = yA t n 6 (tA t n 0) 0 3 := by simp [y2, mu]
  rw [e4] at hv
  obtain ⟨c, c1, c2⟩ := hV v hv
  refine ⟨c, by rw [e3]; exact c1, ?_⟩
  have e1 : y2 (yA t n 6 (tA t n 0)) (nxp t n (yA t n 6 (tA t n 0) 0 0)) 1 c = yA t n 6 (tA t n 0) 1 c := by simp [y2, mu]
  rw [e1]
  exact c2
/-- what is good about a GOAL without a FAULT -/
theorem qG_ok (hT : Tx t n) (hs : sc ≤ 16) (h : (qA Sn sc ar t n (qG t n)).1 = 0) : (ctt (ayw ar) (ZL Sn sc (qG t n)) = some 1 ∧ ctt (ayw ar) (ZR Sn sc (qG t n)) = some 1) ∧ (((ZL Sn sc (qG t n)).length ≤ 40 ∧ (ZR Sn sc (qG t n)).length ≤ 40) ∧ ((ZL Sn sc (qG t n)).length : Int) = qG t n 0 7 ∧ ((ZL Sn sc (qG t n)).length + (ZR Sn sc (qG t n)).length : Int) = qG t n 0 3) ∧ (∀ c, c ∈ ZL Sn sc (qG t n) ++ ZR Sn sc (qG t n) → gp sc c ∧ -6 ≤ c) ∧ (∀ c, c < (qG t n 0 3).toNat → qG t n 1 c < 0 → 0 ≤ sfi Sn (qG t n 2 c).toNat 0 sc) ∧ (0 ≤ qG t n 0 4 ∧ qG t n 0 4 ≤ 6) ∧ (∀ v : Nat, (v : Int) < qG t n 0 4 → isN (qG t n 7 v).toNat ∧ 0 < qG t n 7 v) ∧ ∀ v : Nat, (v : Int) < qG t n 0 4 → -1 - (v : Int) ∈ ZL Sn sc (qG t n) ++ ZR Sn sc (qG t n) := by
  have hA0 := tA_bd (t := t) hT.2.2.1
  obtain ⟨h5, hj⟩ := qG_0 h
  have hV := qG_V hT h5
  have hZ : yZ n 6 (qG t n) := yTwo_Z hT hA0 (by decide) h5
  have hU := yZ_U hZ
  have hZ1 := hZ.1
  have hTm := hZ.2.1
  generalize qG t n = Z at *
  have hy : ∀ c, c < (Z 0 3).toNat → ayw ar (cdZ Sn sc Z c) = ptY Z c := fun c hc => (ask_cd hU hs hj hc).1
  have c1 := ct_Tm (cd := cdZ Sn sc Z) (ay := ayw ar) hTm.1 fun c _ hc => hy c (by omega)
  have c2 := ct_Tm (cd := cdZ Sn sc Z) (ay := ayw ar) hTm.2 fun c _ hc => hy c hc
  rw [Nat.sub_zero] at c1
  have l1 : (ZL Sn sc Z).length = (Z 0 7).toNat := sgl_len
  have l2 : (ZR Sn sc Z).length = (Z 0 3).toNat - (Z 0 7).toNat := sgl_len
  have eall : ZL Sn sc Z ++ ZR Sn sc Z = sgl (cdZ Sn sc Z) 0 (Z 0 3).toNat := by
    unfold ZL ZR
    have := sgl_app (cd := cdZ Sn sc Z) (i := (Z 0 7).toNat) (j := (Z 0 3).toNat - (Z 0 7).toNat) (a := 0)
    rw [Nat.zero_add] at this
    rw [← this]
    congr 1; omega
  refine ⟨⟨c1, c2⟩, ⟨⟨by omega, by omega⟩, by omega, by omega⟩, fun c hc => ?_, fun c hc => (ask_cd hU hs hj hc).2.2, ⟨by omega, by omega⟩, fun v hv => ?_, fun v hv => ?_⟩
  · rw [eall] at hc
    obtain ⟨i, _, i2, i3⟩ := sgl_mem hc
    rw [i3]
    exact (ask_cd hU hs hj (by omega)).2.1
  · have q1 := hU.2.2.2 v hv
    have q2 := isN_pos q1.2
    exact ⟨q1.2, by omega⟩
  · obtain ⟨c, q1, q2⟩ := hV v hv
    rw [eall]
    have e : cdZ Sn sc Z c = -1 - (v : Int) := by
      unfold cdZ
      rw [q2, if_pos (by omega)]
    rw [← e]
    exact sgl_in (Nat.zero_le _) (by omega)
/-- marked, as the class marks -/
def mkc (c : Int) : Int := if c < 0 then c else c % 32 + 32
/-- the GOAL as a NODE's graph, plain -/
theorem ug_ok (hT : Tx t n) (hs : sc ≤ 16) (h : (qA Sn sc ar t n (qG t n)).1 = 0) : okN sc ar (ZL Sn sc (qG t n)) (ZR Sn sc (qG t n)) (sgs (qG t n 0 4).toNat) := by
  obtain ⟨a1, ⟨a2, a3, a4⟩, a5, a6, a7, a8⟩ := qG_ok hT hs h
  refine ⟨a1, ⟨by omega, by omega, by rw [sgs_len]; omega⟩, fun w hw => ?_, fun c hc => ?_⟩
  · obtain ⟨u, u1, u2⟩ := sgs_mem hw
    rw [u2]
    refine ⟨ct_one (by rw [ayw_v _ (by omega)]; exact ct_nil.mpr rfl), (show 1 ≤ 100 by decide), fun c hc => ?_⟩
    rw [List.mem_singleton.mp hc]
    exact ⟨by omega, by omega⟩
  · have := a5 c hc
    exact ⟨gd_gp hs this.1, by omega⟩
theorem zor_0 {x : Int} (h : 0 ≤ x ∧ x < 64) : zor x 0 = x := by
  have g : ((List.range 64).all fun k => decide (zor ((k : Nat) : Int) 0 = ((k : Nat) : Int))) = true := by decide +kernel
  have := of_decide_eq_true (List.all_eq_true.mp g x.toNat (List.mem_range.mpr (by omega)))
  rw [show ((x.toNat : Nat) : Int) = x by omega] at this
  exact this
theorem sgs_succ {v : Nat} : (sgs (v + 1)).flatten = (sgs v).flatten ++ [-1 - (v : Int)] := by
  rw [sgs, List.flatten_append]
  rfl
/-- takeGoal(): the GOAL with its VALUES; f: how SYMBOLS are marked -/
theorem c_takeGoal {x0 vm : Nat} {mg : Int} {L : List Int} {f : Int → Int} (hp : PP P) (hx0 : x0 = 8 ∨ x0 = 18) (ko : am_kd an_K o = some (.inl 8)) (ho : 39 ≤ o) (hf : ∀ c, c ∈ L → (c < 0 → f c = c) ∧ (0 ≤ c → f c = zor c mg)) (hg : ∀ c, c ∈ L → -10000 ≤ c ∧ c < 16) (hl : L.length ≤ 80) (hvm : vm ≤ 6) (hsz : m o 6 = (L.length : Int)) (hv : m o 7 = (vm : Int)) (hrow : Ro m (o + 1) 0 L) {post : Mi → Mj → Mp → Prop} (k : ∀ m', MD x0 m' (L.map f ++ (sgs vm).flatten) → (∀ b k, b ≠ x0 + 8 → ¬ (b = x0 ∧ k = 12) → m' b k = m b k) → post m' J P) : Cv X (d + 1) 92 [.ref x0, .ref o, .int (iz mg)] m J P post := by
  have kx := kd_bench hx0
  have tail : ∀ (q v : Nat) (m1 : Mi), v + q = vm → MD x0 m1 (L.map f ++ (sgs v).flatten) → (∀ b k, b ≠ x0 + 8 → ¬ (b = x0 ∧ k = 12) → m1 b k = m b k) → Rn X (d + 1) 92 53 [some (.ref x0), some (.ref o), some (.int (iz mg)), some (.int (iz (v : Int)))] [] (SS m1 J P) (QV post) := by
    intro q
    induction q with
    | zero =>
      intro v m1 h1 h2 h3
      refine b_Bench_takeGoal_53 x0 o mg v kx ko m1 J P hp post ?_
      rw [h3 _ _ (by omega) (by omega), hv]
      refine ⟨by constructor <;> omega, by constructor <;> omega, fun _ => ?_, fun g => absurd (by omega) g⟩
      rw [show v = vm by omega] at h2
      exact k m1 h2 h3
    | succ q ih =>
      intro v m1 h1 h2 h3
      refine b_Bench_takeGoal_53 x0 o mg v kx ko m1 J P hp post ?_
      rw [h3 _ _ (by omega) (by omega), hv]
      refine ⟨by constructor <;> omega, by constructor <;> omega, fun g => absurd g (by omega), fun _ => ?_⟩
      refine c_bwrite hp kx h2 (by rw [List.length_append, List.length_map, sgs_flat]; omega) fun m2 w1 w2 => ⟨hp, ?_⟩
      rw [show (v : Int) + 1 = ((v + 1 : Nat) : Int) from rfl]
      refine ih (v + 1) m2 (by omega) ?_ (fun b k g1 g2 => (w2 b k g1 g2).trans (h3 b k g1 g2))
      rw [sgs_succ, ← List.append_assoc]
      exact w1
  have head : ∀ (r p : List Int) (m1 : Mi), L = p ++ r → MD x0 m1 (p.map f) → (∀ b k, b ≠ x0 + 8 → ¬ (b = x0 ∧ k = 12) → m1 b k = m b k) → Rn X (d + 1) 92 7 [some (.ref x0), some (.ref o), some (.int (iz mg)), some (.int (iz (p.length : Int)))] [] (SS m1 J P) (QV post) := by
    intro r
    induction r with
    | nil =>
      intro p m1 h1 h2 h3
      rw [List.append_nil] at h1
      have ll : L.length = p.length := by rw [h1]
      refine b_Bench_takeGoal_7 x0 o mg _ kx ko m1 J P hp post ?_
      rw [h3 _ _ (by omega) (by omega), hsz]
      refine ⟨by constructor <;> omega, by constructor <;> omega, fun _ => ?_, fun g => absurd (by omega) g⟩
      refine tail vm 0 m1 (by omega) ?_ h3
      rw [h1, show (sgs 0).flatten = ([] : List Int) from rfl, List.append_nil]
      exact h2
    | cons c r ih =>
      intro p m1 h1 h2 h3
      have ll : L.length = p.length + (r.length + 1) := by rw [h1, List.length_append, List.length_cons]
      have hc : c ∈ L := by rw [h1]; exact List.mem_append_right _ List.mem_cons_self
      have hgc := hg c hc
      have hfc := hf c hc
      have er : m1 (o + 1) p.length = c := by
        rw [h3 _ _ (by omega) (by omega)]
        have := Ro_mem hrow h1
        rw [Nat.zero_add] at this
        exact this
      have nx1 : ∀ m2, MD x0 m2 (p.map f ++ [f c]) → (∀ b k, b ≠ x0 + 8 → ¬ (b = x0 ∧ k = 12) → m2 b k = m1 b k) → Rn X (d + 1) 92 7 [some (.ref x0), some (.ref o), some (.int (iz mg)), some (.int (iz ((p.length : Int) + 1)))] [] (SS m2 J P) (QV post) := fun m2 w1 w2 => by
        have := ih (p ++ [c]) m2 (by rw [h1, List.append_assoc]; rfl) (by rw [List.map_append]; exact w1) (fun b k g1 g2 => (w2 b k g1 g2).trans (h3 b k g1 g2))
        rw [List.length_append, List.length_singleton] at this
        exact this
      refine b_Bench_takeGoal_7 x0 o mg _ kx ko m1 J P hp post ?_
      rw [h3 _ _ (by omega) (by omega), hsz, Int.toNat_natCast, er]
      refine ⟨by constructor <;> omega, by constructor <;> omega, fun g => absurd g (by omega), fun _ => ⟨by omega, by constructor <;> omega, fun g => ⟨by omega, ?_⟩, fun g => ⟨by omega, ?_⟩⟩⟩
      · rw [← hfc.2 g]
        exact c_bwrite hp kx h2 (by rw [List.length_map]; omega) fun m2 w1 w2 => ⟨hp, nx1 m2 w1 w2⟩
      · rw [← hfc.1 (by omega)]
        have e : f (f c) = f c := by rw [hfc.1 (by omega), hfc.1 (by omega)]
        refine c_bwrite hp kx h2 (by rw [List.length_map]; omega) fun m2 w1 w2 => ⟨hp, nx1 m2 w1 w2⟩
  refine Cv.of rfl rfl rfl (b_Bench_takeGoal_0 x0 o mg kx ko m J P hp post ?_)
  refine head L [] _ rfl ⟨Nat.zero_le _, ?_, trivial⟩ fun b k g1 g2 => mu_ne _ _ (by omega)
  rw [mu_at]
  rfl
end UNG
