/-! normal() in the reference -/
section RNM
variable {X : aX} {d x y : Nat} {P : Mp} {J J' : Mj} {m m' : Mi} {Sn : Nat → Nat} {sc N : Nat} {ar : Nat → Int} {R : Nat → Mi} {n : Int} {t : Int → Int} {Z : Mi}
/-- what normal() may change in the reference -/
def rnF (m : Mi) (J : Mj) (m' : Mi) (J' : Mj) : Prop := (∀ a k, ¬ (a = 262 ∧ ((1 ≤ k ∧ k ≤ 13) ∨ k = 16 ∨ k = 17 ∨ k = 129 ∨ k = 130 ∨ k = 61 ∨ k = 62 ∨ k = 67 ∨ k = 136 ∨ k = 139)) → ¬ (269 ≤ a ∧ a ≤ 278) → ¬ (296 ≤ a ∧ a ≤ 301) → a ≠ 341 → a ≠ 342 → a ≠ 347 → a ≠ 349 → m' a k = m a k) ∧ (∀ a k, ¬ (a = 262 ∧ k = 7) → a ≠ 265 → a ≠ 266 → a ≠ 348 → J' a k = J a k)
theorem kF_rn (h : kF m J m' J') : rnF m J m' J' := ⟨fun a k g1 g2 g3 g4 g5 g6 g7 => h.1 a k (by omega) g2 g4 g5, fun a k g1 g2 g3 g4 => h.2.1 a k g1 g2 g3⟩
theorem rnF_trans {m'' : Mi} {J'' : Mj} (h : rnF m J m' J') (h2 : rnF m' J' m'' J'') : rnF m J m'' J'' := ⟨fun a k g1 g2 g3 g4 g5 g6 g7 => (h2.1 a k g1 g2 g3 g4 g5 g6 g7).trans (h.1 a k g1 g2 g3 g4 g5 g6 g7), fun a k g1 g2 g3 g4 => (h2.2 a k g1 g2 g3 g4).trans (h.2 a k g1 g2 g3 g4)⟩
theorem nzF_rn (h : nzF m m') : rnF m J m' J := ⟨fun a k g1 g2 g3 g4 g5 g6 g7 => h a k g3 (by omega), fun _ _ _ _ _ _ => rfl⟩
theorem wrF_rn (h : wrF_ m J m' J') : rnF m J m' J' := ⟨fun a k g1 g2 g3 g4 g5 g6 g7 => h.1 a k g6 (by omega) g7 (by omega), fun a k g1 g2 g3 g4 => h.2 a k g4⟩
theorem r_normal {rl : Int} (hp : PP P) (hTP : TP P x y) (hz : Zr n) (h2 : 0 ≤ m 262 1 ∧ m 262 1 ≤ 1600) (hw : wds J) (hrl : m 262 33 = rl) (hr01 : rl = 0 ∨ rl = 1) (hS : Sq sc Sn ar N R) (hSN : SqN sc Sn N R) (hC : RSy sc Sn ar N R m J) {post : Int → Mi → Mj → Mp → Prop} (k0 : rl = 0 ∨ n < 0 ∨ m 262 1 < n → post (-1) m J P) (kf : rl = 1 → 0 ≤ n ∧ n ≤ m 262 1 → (qA Sn sc ar (txR m n) n (qU (txR m n) n)).1 ≠ 0 → ∀ m' J', m' 262 12 = (qA Sn sc ar (txR m n) n (qU (txR m n) n)).1 → m' 262 13 = (qA Sn sc ar (txR m n) n (qU (txR m n) n)).2 → m' 262 136 = m 262 136 → (∀ k, m' 347 k = m 347 k) → m' 262 1 = 0 → rnF m J m' J' → post (-4) m' J' P) (kn : rl = 1 → 0 ≤ n ∧ n ≤ m 262 1 → (qA Sn sc ar (txR m n) n (qU (txR m n) n)).1 = 0 → (nfm sc Sn ar N R (TLt Sn sc (qU (txR m n) n))).1 ≠ 0 → ∀ m' J' P' x' y', PP P' → TP P' x' y' → PF P P' → m' 262 12 = 0 → m' 262 13 = -1 → m' 262 136 = m 262 136 → (∀ k, m' 347 k = m 347 k) → m' 262 1 = 0 → rnF m J m' J' → post (nfm sc Sn ar N R (TLt Sn sc (qU (txR m n) n))).1 m' J' P') (k1 : rl = 1 → 0 ≤ n ∧ n ≤ m 262 1 → (qA Sn sc ar (txR m n) n (qU (txR m n) n)).1 = 0 → (nfm sc Sn ar N R (TLt Sn sc (qU (txR m n) n))).1 = 0 → ∀ m' J' P' x' y', PP P' → TP P' x' y' → PF P P' → m' 262 12 = 0 → m' 262 13 = -1 → OR (wtm (ayw ar) Sn (mi (ayw ar) (nfm sc Sn ar N R (TLt Sn sc (qU (txR m n) n))).2.1) [] ([], nmL (qU (txR m n) n 7) (qU (txR m n) n 0 4).toNat, 0)).1 m' → m' 262 1 = 0 → rnF m J m' J' → post (1000 - ((nfm sc Sn ar N R (TLt Sn sc (qU (txR m n) n))).2.2 : Int)) m' J' P') : Ci X (d + 5) 184 [.ref 262, .int (iz n)] m J P post := by
  have zr : Zr rl := by rcases hr01 with h | h <;> rw [h] <;> constructor <;> decide
  have zt : Zr (m 262 1) := by constructor <;> omega
  have hs16 := hS.1.1
  by_cases hr1 : rl = 0
  · refine Ci.of rfl rfl rfl (b_Mdl_normal_0 n m J P hp post ?_)
    rw [hrl]
    exact ⟨zr, fun _ => k0 (Or.inl hr1), fun g => absurd hr1 g⟩
  by_cases hg : ¬ (0 ≤ n ∧ n ≤ m 262 1)
  · refine Ci.of rfl rfl rfl (b_Mdl_normal_0 n m J P hp post ?_)
    rw [hrl]
    exact ⟨zr, fun g => absurd g hr1, fun _ => ⟨hz, fun g => k0 (Or.inr (Or.inl g)), fun g => ⟨hz, zt, fun g2 => absurd ⟨by omega, g2⟩ hg, fun g2 => k0 (Or.inr (Or.inr (by omega)))⟩⟩⟩
  have hg := Classical.not_not.mp hg
  have hr : rl = 1 := by omega
  have kf' := kf hr hg
  have kn' := kn hr hg
  have k1' := k1 hr hg
  clear kf kn k1 k0
  refine Ci.zr 262 6 ?_
  have h6 := iz_Zr (m 262 6)
  have e0 : ∀ a k, ¬ (a = 262 ∧ k = 6) → mu m 262 6 (iz (m 262 6)).toInt a k = m a k := fun a k g => mu_ne _ _ (by omega)
  have e6 : mu m 262 6 (iz (m 262 6)).toInt 262 6 = (iz (m 262 6)).toInt := mu_at _ _ _ _
  rw [← e6] at h6
  have etx : txR (mu m 262 6 (iz (m 262 6)).toInt) n = txR m n := by
    funext z
    unfold txR
    rw [e0 _ _ (by omega)]
  generalize mu m 262 6 (iz (m 262 6)).toInt = m0 at *
  have E0 : rnF m J m0 J := ⟨fun a k g1 _ _ _ _ _ _ => e0 a k (by omega), fun _ _ _ _ _ _ => rfl⟩
  have eh : m0 262 33 = rl := (e0 _ _ (by decide)).trans hrl
  have et : m0 262 1 = m 262 1 := e0 _ _ (by decide)
  have hC0 : RSy sc Sn ar N R m0 J := RSy_fr hC (fun k g => e0 _ _ (by omega)) (fun a k g1 g2 => e0 _ _ (by omega)) (fun _ _ _ _ => rfl)
  have hn : 0 ≤ n ∧ n ≤ 1600 := by omega
  have hT := txR_T (m := m0) hn
  refine Ci.of rfl rfl rfl (b_Mdl_normal_0 n m0 J P hp post ?_)
  rw [eh, et]
  refine ⟨zr, fun g => absurd g hr1, fun _ => ⟨hz, fun g => absurd g (by omega), fun _ => ⟨hz, zt, fun _ => ?_, fun g => absurd hg.2 g⟩⟩⟩
  rw [etx] at hT
  refine r_askTerm hp hn h6 hw hC0.1 (fun e m1 J1 v1 v2 v3 v4 v5 => ⟨hp, zr1, fun _ => ?_, fun g => absurd (by decide) g⟩) (fun e m1 J1 v1 v2 v3 v4 => ⟨hp, zr0, fun g => absurd rfl g, fun _ => ?_⟩)
  · rw [etx] at e v4
    obtain ⟨t1, ⟨t2, t2'⟩, t3, t4, t5, t6⟩ := TLt_ok hT hs16 e
    have hgq := nfm_ok hS t1 t3
    have kn2 := kn' e
    have k12 := k1' e
    clear kf' kn' k1'
    have F1 := rnF_trans E0 (kF_rn v5)
    have hC1 : RSy sc Sn ar N R m1 J1 := RSy_fr hC (fun k g => F1.1 _ _ (by omega) (by decide) (by decide) (by decide) (by decide) (by decide) (by decide)) (fun a k g1 g2 => F1.1 _ _ (by omega) (by omega) (by omega) (by omega) (by omega) (by omega) (by omega)) (fun a k g1 g2 => F1.2 _ _ (by omega) (by omega) (by omega) (by omega))
    have hrow : Ro m1 341 0 (TLt Sn sc (qU (txR m n) n)) := Ro_sgl fun i hi => by
      rw [Nat.zero_add]
      exact v4.2.1 i (by omega)
    have hsz : m1 262 129 = ((TLt Sn sc (qU (txR m n) n)).length : Int) := v4.1.1.trans t2'.symm
    have hvar := v4.2.2.2.1
    have hnam := v4.2.2.2.2
    have ht0 : m1 262 1 = 0 := v5.2.2
    have ho1 : m1 262 136 = m 262 136 := (v5.1 _ _ (by decide) (by decide) (by decide) (by decide)).trans (e0 _ _ (by decide))
    have ho2 : ∀ k, m1 347 k = m 347 k := fun k => (v5.1 _ _ (by omega) (by decide) (by decide) (by decide)).trans (e0 _ _ (by omega))
    have hl : ∀ l, TLt Sn sc (qU (txR m n) n) = l → TLt Sn sc (qU (txR m n) n) = l := fun _ h => h
    generalize TLt Sn sc (qU (txR m n) n) = l at *
    generalize qU (txR m n) n = Z at *
    rw [hsz]
    have hTPx : (x = 296 ∧ y = 297) ∨ (x = 297 ∧ y = 296) := hTP.2.2
    refine r_take (n1 := 40) hp hTP (by decide +kernel) (by decide) (by omega) (by omega) (by omega) hrow (fun m2 w1 w2 w3 => ⟨hp, ?_⟩)
    have F2 : rnF m1 J1 m2 J1 := ⟨fun a k g1 g2 g3 g4 g5 g6 g7 => w3 a k (by omega) (by omega), fun _ _ _ _ _ _ => rfl⟩
    have F12 := rnF_trans F1 F2
    have hC2 : RSy sc Sn ar N R m2 J1 := RSy_fr hC1 (fun k g => w3 _ _ (by omega) (by omega)) (fun a k g1 g2 => w3 _ _ (by omega) (by omega)) (fun _ _ _ _ => rfl)
    have hnr := nr_range (ay := ayw ar) (N := N) (Lm := SL Sn sc ar R) (Rm := SR Sn sc ar R) 1000 (mi (ayw ar) l).reverse []
    have keep : ∀ m3, nzF m2 m3 → (m3 262 12 = 0 ∧ m3 262 13 = -1 ∧ m3 262 1 = 0 ∧ m3 262 136 = m 262 136 ∧ ∀ k, m3 347 k = m 347 k) := fun m3 u => by
      have q : ∀ k, k ≠ 61 → k ≠ 62 → k ≠ 67 → m3 262 k = m1 262 k := fun k g1 g2 g3 => (u _ _ (by decide) (by omega)).trans (w3 _ _ (by omega) (by omega))
      exact ⟨(q _ (by decide) (by decide) (by decide)).trans v1, (q _ (by decide) (by decide) (by decide)).trans v2, (q _ (by decide) (by decide) (by decide)).trans ht0, (q _ (by decide) (by decide) (by decide)).trans ho1, fun k => ((u _ _ (by omega) (by omega)).trans (w3 _ _ (by omega) (by omega))).trans (ho2 k)⟩
    refine r_normalize (N := N) (Lf := ZLs Sn sc R) (Rf := ZRs Sn sc R) hp hTP (Sq_Rf hS) (by omega) (fun c hc => (t3 c hc).1) t1 ⟨RSy_RA hC2, RSy_Ry hS hSN hC2, w1, w2⟩ (fun e0' m3 P3 x3 y3 T3 u1 u2 u3 u4 u5 u6 u7 u8 u9 u10 => ⟨u1, zr0, fun _ => ?_, fun g => absurd rfl g⟩) ?_
    · obtain ⟨q1, q2, q3, q4, q5⟩ := keep m3 u10
      have F3 := rnF_trans F12 (nzF_rn (J := J1) u10)
      have eT : T3 = mi (ayw ar) (nfm sc Sn ar N R l).2.1 := by
        have : mi (ayw ar) T3 = (nfm sc Sn ar N R l).2.1 := u5
        rw [← this, mi_mi u6]
      have hgT : ∀ c, c ∈ T3 → gq sc c := fun c hc => hgq c (by
        have : mi (ayw ar) T3 = (nfm sc Sn ar N R l).2.1 := u5
        rw [← this]
        exact (mi_mem u6 c).mpr hc)
      refine r_beginOut u1 fun m4 J4 y1 y2 => ⟨u1, ?_⟩
      have hv4 : m4 262 17 = Z 0 4 := (y2.1 _ _ (by decide) (by decide) (by decide) (by decide)).trans ((u10 _ _ (by decide) (by decide)).trans ((w3 _ _ (by omega) (by omega)).trans hvar))
      have loop : ∀ (q i : Nat) (J5 : Mj), (i : Int) + q = Z 0 4 → (∀ v : Nat, v < i → J5 348 v = rN (Z 7 v).toNat) → (∀ v, i ≤ v → J5 348 v = J4 348 v) → (∀ a k, a ≠ 348 → J5 a k = J4 a k) → Rn X (d + 5) 184 73 [some (.ref 262), some (.int (iz n)), some (.int (iz 0)), some (.int (iz (i : Int)))] [] (SS m4 J5 P3) (QI post) := by
        intro q
        induction q with
        | zero =>
          intro i J5 hi h1 h2 h3
          refine b_Mdl_normal_73 n 0 i m4 J5 P3 u1 post ?_
          rw [hv4]
          refine ⟨by constructor <;> omega, by constructor <;> omega, fun _ => ⟨x3, u2.1, (TP_kd u2).1, ?_⟩, fun g => absurd (by omega) g⟩
          have hWR : WR ([], nmL (Z 7) (Z 0 4).toNat, 0) m4 J5 := ⟨y1.1, y1.2.1, fun v hv => by
            show J5 348 v = (if 0 < nmL (Z 7) (Z 0 4).toNat v then rN (nmL (Z 7) (Z 0 4).toNat v).toNat else 0) ∧ m4 349 v = if nmL (Z 7) (Z 0 4).toNat v < 0 then -(nmL (Z 7) (Z 0 4).toNat v) else 0
            have q0 := y1.2.2 v hv
            unfold nmL
            by_cases g : v < (Z 0 4).toNat
            · have t6v := (t6 v (by omega)).2
              rw [if_pos g, if_pos t6v, if_neg (by omega), h1 v (by omega)]
              exact ⟨rfl, q0.2⟩
            · rw [if_neg g, if_neg (by decide), if_neg (by decide), h2 v (by omega)]
              exact ⟨q0.1, q0.2⟩⟩
          have esz : m4 262 61 = (T3.length : Int) := (y2.1 _ _ (by decide) (by decide) (by decide) (by decide)).trans u4.2.2.2
          have hK5 : RK sc Sn ar m4 J5 := ⟨⟨(y2.1 _ _ (by decide) (by decide) (by decide) (by decide)).trans ((F3.1 _ _ (by decide) (by decide) (by decide) (by decide) (by decide) (by decide) (by decide)).trans hC.1.1.1), hC.1.1.2⟩, fun i hi => ⟨(h3 _ _ (by decide)).trans ((y2.2 _ _ (by decide)).trans ((F3.2 _ _ (by omega) (by decide) (by decide) (by decide)).trans (hC.1.2.1 i hi).1)), (hC.1.2.1 i hi).2⟩, fun i hi => ⟨(y2.1 _ _ (by decide) (by decide) (by decide) (by omega)).trans ((F3.1 _ _ (by omega) (by decide) (by decide) (by decide) (by decide) (by decide) (by decide)).trans (hC.1.2.2 i hi).1), (hC.1.2.2 i hi).2⟩⟩
          have hx3 : x3 = 296 ∨ x3 = 297 := by rcases u2.2.2 with h | h <;> omega
          rw [esz]
          refine r_showRow (d := d + 1) (n := 0) (f := 0) u1 hK5 (TP_kd u2).1 (by decide) (by omega) (by omega) u7 hgT u6 (Ro_RD (Ro_fr u4.2.2.1 fun k _ _ => y2.1 _ _ (by omega) (by omega) (by omega) (by omega)) fun c hc => by have := (hgT c hc).2; omega) hWR (Wb_nm fun v hv => t6 v (by omega)) (by omega) (fun m6 z1 z2 z3 => ⟨u1, ?_⟩)
          have ed : m6 262 62 = 1000 - ((nfm sc Sn ar N R l).2.2 : Int) := (z3.1 _ _ (by decide) (by decide) (by decide) (by decide)).trans ((y2.1 _ _ (by decide) (by decide) (by decide) (by decide)).trans u9)
          rw [ed]
          rw [eT] at z1
          have z1' := z1.1
          have Y6 : ∀ k, k ≠ 136 → k ≠ 139 → m6 262 k = m3 262 k := fun k g1 g2 => (z3.1 _ _ (by decide) (by decide) (by decide) (by omega)).trans (y2.1 _ _ (by decide) (by decide) (by decide) (by omega))
          refine k12 e0' m6 J5 P3 x3 y3 u1 u2 u3 ((Y6 _ (by decide) (by decide)).trans q1) ((Y6 _ (by decide) (by decide)).trans q2) z1' ((Y6 _ (by decide) (by decide)).trans q3) (rnF_trans F3 (rnF_trans (wrF_rn y2) (rnF_trans (J' := J5) ⟨fun _ _ _ _ _ _ _ _ _ => rfl, fun a k _ _ _ g => h3 a k g⟩ (wrF_rn z3))))
        | succ q ih =>
          intro i J5 hi h1 h2 h3
          refine b_Mdl_normal_73 n 0 i m4 J5 P3 u1 post ?_
          rw [hv4]
          refine ⟨by constructor <;> omega, by constructor <;> omega, fun g => absurd g (by omega), fun _ => ⟨by omega, by omega, ?_⟩⟩
          rw [Int.toNat_natCast, show (i : Int) + 1 = ((i + 1 : Nat) : Int) from rfl]
          refine ih (i + 1) _ (by omega) (fun v hv => ?_) (fun v hv => (mju_ne _ _ (by omega)).trans (h2 v (by omega))) (fun a k g => (mju_ne _ _ (by omega)).trans (h3 a k g))
          by_cases e : v = i
          · rw [e, mju_at, h3 _ _ (by decide), y2.2 _ _ (by decide)]
            exact hnam i (by omega)
          · rw [mju_ne _ _ (by omega)]; exact h1 v (by omega)
      exact loop (Z 0 4).toNat 0 J4 (by omega) (fun v hv => absurd hv (Nat.not_lt_zero _)) (fun _ _ => rfl) fun _ _ _ => rfl
    · intro e1 m3 P3 x3 y3 u1 u2 u3 u10
      obtain ⟨q1, q2, q3, q4, q5⟩ := keep m3 u10
      have F3 := rnF_trans F12 (nzF_rn (J := J1) u10)
      have e2 : (nfm sc Sn ar N R l).1 ≠ 0 := e1
      have := kn2 e2 m3 J1 P3 x3 y3 u1 u2 u3 q1 q2 q4 q5 q3 F3
      have e3 : (nfm sc Sn ar N R l).1 = -2 ∨ (nfm sc Sn ar N R l).1 = -3 := by
        rcases hnr with h | h | h
        · exact absurd h e1
        · exact Or.inl h
        · exact Or.inr h
      rcases e3 with e3 | e3
      · rw [e3] at this
        have ev : (if (nf (ayw ar) N (Lmi ar (ZLs Sn sc R)) (Lmi ar (ZRs Sn sc R)) l).1 = -2 then (1 : Int) else 2) = 1 := if_pos e3
        rw [ev]
        exact ⟨u1, zr1, fun g => absurd g (by decide), fun _ => ⟨zr1, fun g => absurd rfl g, fun _ => this⟩⟩
      · rw [e3] at this
        have ev : (if (nf (ayw ar) N (Lmi ar (ZLs Sn sc R)) (Lmi ar (ZRs Sn sc R)) l).1 = -2 then (1 : Int) else 2) = 2 := if_neg (fun h => by have h2 : (nfm sc Sn ar N R l).1 = -2 := h; omega)
        rw [ev]
        exact ⟨u1, by decide, fun g => absurd g (by decide), fun _ => ⟨by decide, fun _ => this, fun g => absurd (by decide) g⟩⟩
  · rw [etx] at e v1 v2
    exact kf' e m1 J1 v1 v2 ((v4.1 _ _ (by decide) (by decide) (by decide) (by decide)).trans (e0 _ _ (by decide))) (fun k => (v4.1 _ _ (by omega) (by decide) (by decide) (by decide)).trans (e0 _ _ (by omega))) v4.2.2 (rnF_trans E0 (kF_rn v4))
end RNM
