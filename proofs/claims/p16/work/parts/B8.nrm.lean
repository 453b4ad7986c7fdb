/-! normal(), in class and reference -/
section NML
variable {X : aX} {d : Nat} {P : Mp} {J J' : Mj} {m m' : Mi} {Sn : Nat → Nat} {sc b s o g N : Nat} {ar : Nat → Int} {R : Nat → Mi} {n : Int} {t : Int → Int} {Z : Mi}
/-- what every cell of a SYSTEM's forms is like -/
theorem nr_all {ay : Int → Nat} {Lm Rm : Nat → List Int} {p : Int → Prop} (hR : ∀ u, u < N → (∀ c, c ∈ Rm u → 0 ≤ c → p c) ∧ ∀ c, c ∈ Rm u → c < 0 → c ∈ Lm u) : ∀ (k : Nat) (wr dn : List Int), (∀ c, c ∈ wr → p c) → (∀ c, c ∈ dn → p c) → ∀ c, c ∈ (nr ay N Lm Rm k wr dn).2.1 → p c := by
  have hsn : ∀ (wr dn : List Int), (∀ c, c ∈ wr → p c) → (∀ c, c ∈ dn → p c) → ∀ w x y, sn ay N Lm Rm wr dn = some (w, x, y) → (∀ c, c ∈ w → p c) ∧ (∀ c, c ∈ x → p c) ∧ ∀ c, c ∈ y → p c := by
    intro wr
    induction wr with
    | nil => intro dn _ _ w x y h; cases h
    | cons c wr ih =>
      intro dn h1 h2 w x y h
      rw [sn] at h
      cases hr : rlx ay Lm Rm N 0 (c :: dn) with
      | none =>
        rw [hr] at h
        exact ih (c :: dn) (fun c' hc' => h1 c' (List.mem_cons_of_mem _ hc')) (fun c' hc' => by
          rcases List.mem_cons.mp hc' with e | e
          · rw [e]; exact h1 c List.mem_cons_self
          · exact h2 c' e) w x y h
      | some q =>
        rw [hr] at h
        cases h
        obtain ⟨v, σ, hv, _, hs, e1, e2⟩ := rlx_of hr
        have hall : ∀ c', c' ∈ c :: dn → p c' := fun c' hc' => by
          rcases List.mem_cons.mp hc' with e | e
          · rw [e]; exact h1 c List.mem_cons_self
          · exact h2 c' e
        refine ⟨fun c' hc' => h1 c' (List.mem_cons_of_mem _ hc'), fun c' hc' => ?_, fun c' hc' => hall c' (by rw [e1]; exact List.mem_append_right _ hc')⟩
        dsimp only at e1 e2
        rw [e2] at hc'
        obtain ⟨r1, r2⟩ := hR v (by omega)
        refine sb_all (Q := p) (σ := σ) r1 (fun w hw hn z hz => ?_) c' hc'
        obtain ⟨a, b, hab⟩ := sb_mem (σ := σ) (r2 w hw hn) hn
        exact hall z (by rw [e1, hab]; exact List.mem_append_left _ (List.mem_append_left _ (List.mem_append_right _ hz)))
  intro k
  induction k with
  | zero =>
    intro wr dn h1 h2 c hc
    rw [nr] at hc
    cases h : sn ay N Lm Rm wr dn with
    | none =>
      rw [h] at hc
      rcases List.mem_append.mp hc with e | e
      · exact h1 c (List.mem_reverse.mp e)
      · exact h2 c e
    | some q =>
      rw [h] at hc
      exact absurd hc List.not_mem_nil
  | succ k ih =>
    intro wr dn h1 h2 c hc
    rw [nr] at hc
    cases h : sn ay N Lm Rm wr dn with
    | none =>
      rw [h] at hc
      rcases List.mem_append.mp hc with e | e
      · exact h1 c (List.mem_reverse.mp e)
      · exact h2 c e
    | some q =>
      obtain ⟨w, x, y⟩ := q
      rw [h] at hc
      obtain ⟨a1, a2, a3⟩ := hsn wr dn h1 h2 w x y h
      dsimp only at hc
      by_cases g : 200 < w.length + x.length + y.length
      · rw [if_pos g] at hc
        exact absurd hc List.not_mem_nil
      · rw [if_neg g] at hc
        exact ih _ _ (fun c' hc' => by
          rcases List.mem_append.mp hc' with e | e
          · exact a2 c' (List.mem_reverse.mp e)
          · exact a1 c' e) a3 c hc
theorem isN_pos {v : Nat} (h : isN v) : 0 < v := by
  obtain ⟨k, k0, k8, _, k1, _⟩ := isN_dig h
  have : 0 < (64 : Nat) ^ (k - 1) := Nat.pow_pos (by decide)
  omega
/-- what was asked for without a FAULT: its cells -/
theorem ask_cd (hU : yU n 6 Z) (hs : sc ≤ 16) (hj : (jN Sn sc ar Z (Z 0 3).toNat 0).1 = 0) {c : Nat} (hc : c < (Z 0 3).toNat) : ayw ar (cdZ Sn sc Z c) = ptY Z c ∧ (gp sc (cdZ Sn sc Z c) ∧ -6 ≤ cdZ Sn sc Z c) ∧ (Z 1 c < 0 → 0 ≤ sfi Sn (Z 2 c).toNat 0 sc) := by
  have h1 := hU.1
  obtain ⟨⟨u1, u2⟩, u3, u4, _⟩ := hU.2.2.1 c (by omega)
  by_cases g : 0 ≤ Z 1 c
  · have e : cdZ Sn sc Z c = -1 - Z 1 c := by unfold cdZ; rw [if_pos g]
    have hp : ptY Z c = 0 := by unfold ptY; rw [u3 g]; rfl
    rw [e]
    refine ⟨?_, ⟨⟨by omega, by omega, fun _ => by omega⟩, by omega⟩, fun _ => by omega⟩
    rw [hp]
    exact ayw_v _ (by omega)
  · have e : cdZ Sn sc Z c = sfi Sn (Z 2 c).toNat 0 sc := by unfold cdZ; rw [if_neg g]
    obtain ⟨q1, q2⟩ := jN_ok _ 0 hj c (Nat.zero_le _) (by omega) (by omega)
    have q3 := sfi_bd Sn (Z 2 c).toNat sc 0
    rw [e]
    refine ⟨?_, ⟨⟨by omega, by omega, fun _ => by omega⟩, by omega⟩, fun _ => q1⟩
    refine ayw_cd (fun h => by omega) fun _ => ⟨by omega, ?_⟩
    unfold ptY
    rw [q2]
    omega
theorem qA_bd {ar : Nat → Int} (h5 : 0 ≤ Z 0 5 ∧ Z 0 5 ≤ 3) : 0 ≤ (qA Sn sc ar t n Z).1 ∧ (qA Sn sc ar t n Z).1 ≤ 9 := by
  unfold qA
  (repeat' split)
  · exact ⟨h5.1, by show Z 0 5 ≤ 9; omega⟩
  · have := ft_bd t n (Z 0 0)
    exact ⟨by show 0 ≤ ft t n (Z 0 0); omega, by show ft t n (Z 0 0) ≤ 9; omega⟩
  · have := jN_bd (Sn := Sn) (sc := sc) ar Z (Z 0 3).toNat 0
    omega
theorem qU_5 (hT : Tx t n) : 0 ≤ qU t n 0 5 ∧ qU t n 0 5 ≤ 3 := by
  have hI := yA_I (most := 6) hT (tA_bd (t := t) hT.2.2.1) (by decide)
  have i9 := hI.1.2.2.2.2.2.2.2.2
  have e0 : yA t n 6 (tA t n 0) = qU t n := rfl
  rw [e0] at i9
  omega
theorem qG_5 (hT : Tx t n) : 0 ≤ qG t n 0 5 ∧ qG t n 0 5 ≤ 3 := (yTwo_bd (sign := 8) (most := 6) hT (tA_bd (t := t) hT.2.2.1) (by decide)).2
/-- the TERM that was read -/
def TLt (Sn : Nat → Nat) (sc : Nat) (Z : Mi) : List Int := sgl (cdZ Sn sc Z) 0 (Z 0 3).toNat
theorem TLt_ok (hT : Tx t n) (hs : sc ≤ 16) (h : (qA Sn sc ar t n (qU t n)).1 = 0) : ctt (ayw ar) (TLt Sn sc (qU t n)) = some 1 ∧ ((TLt Sn sc (qU t n)).length ≤ 40 ∧ ((TLt Sn sc (qU t n)).length : Int) = qU t n 0 3) ∧ (∀ c, c ∈ TLt Sn sc (qU t n) → gp sc c ∧ -6 ≤ c) ∧ (∀ c, c < (qU t n 0 3).toNat → qU t n 1 c < 0 → 0 ≤ sfi Sn (qU t n 2 c).toNat 0 sc) ∧ (0 ≤ qU t n 0 4 ∧ qU t n 0 4 ≤ 6) ∧ ∀ v : Nat, (v : Int) < qU t n 0 4 → isN (qU t n 7 v).toNat ∧ 0 < qU t n 7 v := by
  have hA0 := tA_bd (t := t) hT.2.2.1
  have h5 : qU t n 0 5 = 0 := by
    apply Classical.byContradiction
    intro q
    unfold qA at h
    rw [if_pos q] at h
    exact q h
  have hj : (jN Sn sc ar (qU t n) (qU t n 0 3).toNat 0).1 = 0 := by
    unfold qA at h
    rw [if_neg (fun q => q h5)] at h
    by_cases g : tK t n (qU t n 0 0) ≠ 0
    · rw [if_pos g] at h
      have := ft_bd t n (qU t n 0 0)
      exfalso
      revert h
      show ft t n (qU t n 0 0) = 0 → False
      omega
    · rw [if_neg g] at h
      exact h
  obtain ⟨hU, hTm⟩ := yA_U (most := 6) hT hA0 (by decide) h5
  have hI := yA_I (most := 6) hT hA0 (by decide)
  have h40 := hI.1.2.2.2.1
  have e0 : yA t n 6 (tA t n 0) = qU t n := rfl
  rw [e0] at hU hTm h40
  have hct := ct_Tm (cd := cdZ Sn sc (qU t n)) (ay := ayw ar) hTm fun c _ hc => (ask_cd hU hs hj hc).1
  rw [Nat.sub_zero] at hct
  have hU1 := hU.1
  refine ⟨hct, ⟨?_, ?_⟩, fun c hc => ?_, fun c hc => (ask_cd hU hs hj hc).2.2, ⟨by omega, by omega⟩, fun v hv => ?_⟩
  · unfold TLt
    rw [sgl_len]
    omega
  · unfold TLt
    rw [sgl_len]
    omega
  · obtain ⟨i, _, i2, i3⟩ := sgl_mem hc
    rw [i3]
    exact (ask_cd hU hs hj (by omega)).2.1
  · have q1 := hU.2.2.2 v hv
    have q2 := isN_pos q1.2
    exact ⟨q1.2, by omega⟩
theorem Ro_RC {x f : Nat} {l : List Int} (h : Ro m x f l) (hg : ∀ c, c ∈ l → c < 32) : RC x f l m := fun i hi => by
  have e : m x (f + i) = cl l i := by rw [Ro_get h hi, cl_get hi]
  have := hg _ (cl_mem hi)
  rw [e]
  exact ⟨fun _ => rfl, fun h0 => ⟨⟨h0, by omega⟩, by omega⟩⟩
theorem Ro_RD {x f : Nat} {l : List Int} (h : Ro m x f l) (hg : ∀ c, c ∈ l → c < 64) : RD x f l m := fun i hi => by
  have e : m x (f + i) = cl l i := by rw [Ro_get h hi, cl_get hi]
  have := hg _ (cl_mem hi)
  rw [e]
  exact ⟨fun _ => rfl, fun h0 => ⟨⟨h0, by omega⟩, by omega⟩⟩
/-- which Equation is which -/
def SPt (P : Mp) (o g : Nat) : Prop := P 1 10 = some o ∧ P 38 2 = some g ∧ ((o = 39 ∧ g = 256) ∨ (o = 256 ∧ g = 39))
theorem SP_kd {o : Nat} (h : o = 39 ∨ o = 256) : am_kd an_K o = some (.inl 8) ∧ am_kd an_K (o + 1) = some (.inr (0, 80)) := by
  rcases h with rfl | rfl
  · constructor <;> decide +kernel
  · constructor <;> decide +kernel
/-- the normal form that normal() tells of -/
noncomputable def nfm (sc : Nat) (Sn : Nat → Nat) (ar : Nat → Int) (N : Nat) (R : Nat → Mi) (l : List Int) : Int × List Int × Nat := nf (ayw ar) N (SL Sn sc ar R) (SR Sn sc ar R) l
theorem nfm_ok (hS : Sq sc Sn ar N R) {l : List Int} (hct : ctt (ayw ar) l = some 1) (hl : ∀ c, c ∈ l → gp sc c ∧ -6 ≤ c) : ∀ c, c ∈ (nfm sc Sn ar N R l).2.1 → gq sc c := by
  refine nr_all (p := fun c => gq sc c) (fun u hu => ⟨fun c hc h0 => ?_, ?_⟩) _ _ _ (fun c hc => ?_) (fun c hc => absurd hc List.not_mem_nil)
  · have := Sq_SR hS u hu c hc
    exact ⟨by omega, by have := this.2.2 h0; omega⟩
  · exact ((Sq_Rg hS).2 u hu).2.2.1
  · have := hl c ((mi_mem hct c).mp (List.mem_reverse.mp hc))
    have h2 := this.2
    by_cases h0 : 0 ≤ c
    · exact ⟨by omega, by have := this.1.2.2 h0; omega⟩
    · exact ⟨by omega, by omega⟩
/-- what normal() may change in the class -/
def cnF (o : Nat) (m : Mi) (J : Mj) (m' : Mi) (J' : Mj) : Prop := (∀ a k, a ≠ 2 → a ≠ 4 → a ≠ 7 → (a < o ∨ o + 3 < a) → ¬ (28 ≤ a ∧ a ≤ 35) → a ≠ 26 → a ≠ 50 → a ≠ 51 → a ≠ 53 → m' a k = m a k) ∧ m' 2 1 = 0 ∧ (∀ a k, a ≠ 2 → a ≠ o + 5 → a ≠ 52 → J' a k = J a k)
theorem aF_cn (h : aF o m J m' J') : cnF o m J m' J' := ⟨fun a k g1 g2 g3 g4 _ _ _ _ _ => h.1 a k g1 g2 g3 g4, h.2.1, fun a k g1 g2 _ => h.2.2 a k g1 g2⟩
theorem c_normal {rl : Int} (hp : PP P) (hbp : BP P b s) (hsp : SPt P o g) (hm : Tp m) (hz : Zr n) (h2 : 0 ≤ m 2 1 ∧ m 2 1 ≤ 1600) (hrl : m 1 11 = rl) (hr01 : rl = 0 ∨ rl = 1) (hS : Sq sc Sn ar N R) (hC : CSy b sc Sn ar N R m J) {post : Int → Mi → Mj → Mp → Prop} (k0 : rl = 0 ∨ n < 0 ∨ m 2 1 < n → post (-1) m J P) (kf : rl = 1 → 0 ≤ n ∧ n ≤ m 2 1 → (qA Sn sc ar (txC m n) n (qU (txC m n) n)).1 ≠ 0 → ∀ m' J', m' 4 3 = (qA Sn sc ar (txC m n) n (qU (txC m n) n)).1 → m' 4 4 = (qA Sn sc ar (txC m n) n (qU (txC m n) n)).2 → m' 50 1 = m 50 1 → (∀ k, m' 51 k = m 51 k) → cnF o m J m' J' → post (-4) m' J' P) (kn : rl = 1 → 0 ≤ n ∧ n ≤ m 2 1 → (qA Sn sc ar (txC m n) n (qU (txC m n) n)).1 = 0 → (nfm sc Sn ar N R (TLt Sn sc (qU (txC m n) n))).1 ≠ 0 → ∀ m' J', m' 4 3 = 0 → m' 4 4 = -1 → m' 50 1 = m 50 1 → (∀ k, m' 51 k = m 51 k) → cnF o m J m' J' → post (nfm sc Sn ar N R (TLt Sn sc (qU (txC m n) n))).1 m' J' P) (k1 : rl = 1 → 0 ≤ n ∧ n ≤ m 2 1 → (qA Sn sc ar (txC m n) n (qU (txC m n) n)).1 = 0 → (nfm sc Sn ar N R (TLt Sn sc (qU (txC m n) n))).1 = 0 → ∀ m' J', m' 4 3 = 0 → m' 4 4 = -1 → OC (wtm (ayw ar) Sn (mi (ayw ar) (nfm sc Sn ar N R (TLt Sn sc (qU (txC m n) n))).2.1) [] ([], nmL (qU (txC m n) n 7) (qU (txC m n) n 0 4).toNat, 0)).1 m' → cnF o m J m' J' → post (1000 - ((nfm sc Sn ar N R (TLt Sn sc (qU (txC m n) n))).2.2 : Int)) m' J' P) : Ci X (d + 6) 79 [.ref 1, .int (iz n)] m J P post := by
  have hbs := BP_kd hbp
  have hb := hbs.1
  have kb := kd_book hb
  have hs16 := hS.1.1
  have ho : o = 39 ∨ o = 256 := by rcases hsp.2.2 with h | h <;> omega
  obtain ⟨ko, ko1⟩ := SP_kd ho
  have zr : Zr rl := by rcases hr01 with h | h <;> rw [h] <;> constructor <;> decide
  have zh : Zr (m 2 1) := by constructor <;> omega
  refine Ci.of rfl rfl rfl (b_Nh_normal_0 n m J P hp post ?_)
  rw [hrl]
  refine ⟨zr, fun g => k0 (Or.inl g), fun g => ?_⟩
  have hr1 : rl = 1 := by omega
  refine c_lacks hp hz zh (fun g => ⟨hp, zr1, fun e => absurd e (by decide), fun _ => k0 (Or.inr g)⟩) (fun hg => ⟨hp, zr0, fun _ => ⟨b, hbp.1, kb, o, hsp.1, ko, ?_⟩, fun e => absurd rfl e⟩)
  have hn : 0 ≤ n ∧ n ≤ 1600 := by omega
  have hT := txC_T hm hn
  have hEB : EB o b := by unfold EB; omega
  refine c_readTerm hp kb ko hEB hs16 hm hn hC.1 hC.2.1 (fun e m1 J1 v1 v2 v3 v4 => ⟨hp, zr0, fun _ => ?_, fun g => absurd rfl g⟩) (fun e m1 J1 v1 v2 v3 => ⟨hp, ?_, fun g => absurd g e, fun _ => kf hr1 hg e m1 J1 v1 v2 (v3.1 _ _ (by decide) (by decide) (by decide) (by omega)) (fun k => v3.1 _ _ (by decide) (by decide) (by decide) (by omega)) (aF_cn v3)⟩)
  · obtain ⟨t1, ⟨t2, t2'⟩, t3, t4, t5, t6⟩ := TLt_ok hT hs16 e
    have hgq := nfm_ok hS t1 t3
    have kn' := kn hr1 hg e
    have k1' := k1 hr1 hg e
    clear kf kn k1 k0
    have hrow : Ro m1 (o + 1) 0 (TLt Sn sc (qU (txC m n) n)) := Ro_sgl fun i hi => by
      rw [Nat.zero_add, (v3.2.1 i (by omega)).1]
      unfold ce cdZ
      by_cases q : 0 ≤ qU (txC m n) n 1 i
      · rw [if_pos q, if_pos q]
      · rw [if_neg q, if_neg q]
        unfold sy
        rw [if_neg (by have := t4 i hi (by omega); omega)]
    have hC1 : CSy b sc Sn ar N R m1 J1 := CSy_fr hs16 hC (fun a k g1 g2 => v4.1 a k (by omega) (by omega) (by omega) (by omega)) (fun a k g1 g2 => v4.2.2 a k (by omega) (by omega))
    have hsz : m1 o 6 = ((TLt Sn sc (qU (txC m n) n)).length : Int) := by rw [v3.1]; exact t2'.symm
    have hvar := v3.2.2.1
    have hnam := v3.2.2.2
    generalize hl : TLt Sn sc (qU (txC m n) n) = l at *
    generalize qU (txC m n) n = Z at *
    refine ⟨o, hsp.1, ko, o, hsp.1, ko, b, hbp.1, kb, ?_⟩
    rw [hsz]
    have hnl := nr_left (ay := ayw ar) (N := N) (Lm := SL Sn sc ar R) (Rm := SR Sn sc ar R) 1000 (mi (ayw ar) l).reverse []
    have hnr := nr_range (ay := ayw ar) (N := N) (Lm := SL Sn sc ar R) (Rm := SR Sn sc ar R) 1000 (mi (ayw ar) l).reverse []
    refine c_reduce (d := d + 3) (from_ := 0) hp ko1 (by decide) (by omega) hb hs16 (Sq_Rg hS) (Sq_SR hS) hC1.2.1 hC1.2.2.1 (by omega) (by omega) (fun c hc => (t3 c hc).1) t1 hrow (fun e0 m2 w1 w2 w3 w4 => ⟨hp, ?_, fun _ => ⟨b, hbp.1, kb, ?_⟩, fun g => absurd ?_ g⟩) (fun e0 m2 w1 => ⟨hp, ?_, fun g => absurd g ?_, fun _ => ?_⟩)
    · have : (nf (ayw ar) N (SL Sn sc ar R) (SR Sn sc ar R) l).2.2 ≤ 1000 := hnl
      constructor <;> omega
    · have hA2 : BA b sc ar m2 := BA_fr hC1.2.1 hs16 fun k _ => w4 _ _ (by omega) (by omega)
      refine c_takeForm (d := d + 3) hp (by decide +kernel) (by decide) (by decide) (by decide : 200 ≤ 800) hb hs16 hA2 w1 w2 w3 (fun m3 u1 u2 => ⟨hp, ?_⟩)
      refine c_beginPage hp fun m4 J4 y1 y2 => ⟨hp, o, hsp.1, ko, ?_⟩
      have F41 : ∀ a k, ¬ (28 ≤ a ∧ a ≤ 35) → a ≠ 26 → a ≠ 50 → a ≠ 51 → a ≠ 53 → m4 a k = m1 a k := fun a k g1 g2 g3 g4 g5 => (y2.1 a k g4 g5 (by omega)).trans ((u2 a k (by omega) (by omega) g2).trans (w4 a k (by omega) (by omega)))
      have hv4 : m4 o 7 = ((Z 0 4).toNat : Int) := by
        rw [F41 _ _ (by omega) (by omega) (by omega) (by omega) (by omega), hvar]
        omega
      refine c_nameAll (nm := Z 7) (vm := (Z 0 4).toNat) hp ko (by omega) y1 hv4 (by omega) (fun v hv => ⟨(y2.2 _ _ (by omega)).trans (hnam v (by omega)), (t6 v (by omega)).2⟩) (fun J5 z1 z2 => ⟨hp, b, hbp.1, kb, ?_⟩)
      have hgf : ∀ c, c ∈ mi (ayw ar) (nf (ayw ar) N (SL Sn sc ar R) (SR Sn sc ar R) l).2.1 → gq sc c := fun c hc => hgq c ((mi_mem w3 c).mp hc)
      have hB5 : BN b Sn sc m4 J5 := ⟨⟨(F41 _ _ (by omega) (by omega) (by omega) (by omega) (by omega)).trans hC1.1.1.1, hC1.1.1.2⟩, fun i hi => ⟨(z2 _ _ (by omega)).trans ((y2.2 _ _ (by omega)).trans (hC1.1.2 i hi).1), (hC1.1.2 i hi).2⟩⟩
      have hA5 : BA b sc ar m4 := BA_fr hC1.2.1 hs16 fun k _ => F41 _ _ (by omega) (by omega) (by omega) (by omega) (by omega)
      have hml := mi_len w3
      have hdl := w1.1
      refine c_writeTerm (d := d + 2) (n := 0) (f := 0) (x := 26) (nx := 800) hp hb hB5 hA5 (by decide +kernel) (by decide) (by decide) (by omega) (by omega) (by omega) hgf (ct_mi w3) (Ro_RC (Ro_fr u1 fun k _ _ => y2.1 _ _ (by decide) (by decide) (by omega)) fun c hc => by have := (hgf c hc).2; omega) z1 (Wb_nm fun v hv => t6 v (by omega)) (by omega) (fun m6 J6 q1 q2 q3 => ⟨hp, ?_⟩)
      refine k1' e0 m6 J6 ?_ ?_ q1.1 ⟨fun a k g1 g2 g3 g4 g5 g6 g7 g8 g9 => ?_, ?_, fun a k g1 g2 g3 => ?_⟩
      · rw [q3.1 _ _ (by decide) (by decide) (by decide), F41 _ _ (by decide) (by decide) (by decide) (by decide) (by decide)]; exact v1
      · rw [q3.1 _ _ (by decide) (by decide) (by decide), F41 _ _ (by decide) (by decide) (by decide) (by decide) (by decide)]; exact v2
      · rw [q3.1 _ _ g8 g9 (by omega), F41 _ _ g5 g6 g7 g8 g9, v4.1 _ _ g1 g2 g3 g4]
      · rw [q3.1 _ _ (by decide) (by decide) (by decide), F41 _ _ (by decide) (by decide) (by decide) (by decide) (by decide)]; exact v4.2.1
      · rw [q3.2 _ _ g3, z2 _ _ g3, y2.2 _ _ g3, v4.2.2 _ _ g1 g2]
    · have : (nf (ayw ar) N (SL Sn sc ar R) (SR Sn sc ar R) l).2.2 ≤ 1000 := hnl
      omega
    · have : (nf (ayw ar) N (SL Sn sc ar R) (SR Sn sc ar R) l).1 = 0 ∨ (nf (ayw ar) N (SL Sn sc ar R) (SR Sn sc ar R) l).1 = -2 ∨ (nf (ayw ar) N (SL Sn sc ar R) (SR Sn sc ar R) l).1 = -3 := hnr
      constructor <;> omega
    · have : (nf (ayw ar) N (SL Sn sc ar R) (SR Sn sc ar R) l).1 = 0 ∨ (nf (ayw ar) N (SL Sn sc ar R) (SR Sn sc ar R) l).1 = -2 ∨ (nf (ayw ar) N (SL Sn sc ar R) (SR Sn sc ar R) l).1 = -3 := hnr
      omega
    · refine kn' e0 m2 J1 ?_ ?_ ?_ ?_ ⟨fun a k g1 g2 g3 g4 g5 g6 g7 g8 g9 => ?_, ?_, fun a k g1 g2 g3 => v4.2.2 _ _ g1 g2⟩
      · rw [w1 _ _ (by decide) (by decide)]; exact v1
      · rw [w1 _ _ (by decide) (by decide)]; exact v2
      · rw [w1 _ _ (by decide) (by decide)]; exact v4.1 _ _ (by decide) (by decide) (by decide) (by omega)
      · intro k
        rw [w1 _ _ (by omega) (by omega)]; exact v4.1 _ _ (by decide) (by decide) (by decide) (by omega)
      · rw [w1 _ _ (by omega) (by omega), v4.1 _ _ g1 g2 g3 g4]
      · rw [w1 _ _ (by decide) (by decide)]; exact v4.2.1
  · have := qA_bd (Sn := Sn) (sc := sc) (ar := ar) (t := txC m n) (n := n) (qU_5 hT)
    constructor <;> omega
end NML
