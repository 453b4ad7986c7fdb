/-! unify() in the reference, whole -/
section RUW
variable {X : aX} {d x y : Nat} {P : Mp} {J J' : Mj} {m m' : Mi} {Sn : Nat → Nat} {sc N : Nat} {ar : Nat → Int} {R : Nat → Mi} {n : Int} {t : Int → Int} {Z : Mi}
/-- what was asked, as rows -/
theorem kQ_rows (hT : Tx t n) (hs : sc ≤ 16) (h : (qA Sn sc ar t n (qG t n)).1 = 0) (hQ : kQ (qG t n 0 7) Sn sc (qG t n) m J) : (m 262 129 = ((ZL Sn sc (qG t n)).length : Int) ∧ m 262 130 = ((ZR Sn sc (qG t n)).length : Int)) ∧ (Ro m 341 0 (ZL Sn sc (qG t n)) ∧ Ro m 342 0 (ZR Sn sc (qG t n))) ∧ m 262 17 = ((qG t n 0 4).toNat : Int) ∧ ∀ v : Nat, v < (qG t n 0 4).toNat → J 266 v = rN (qG t n 7 v).toNat := by
  obtain ⟨_, ⟨_, a3, a4⟩, _, _, a7, _, _⟩ := qG_ok hT hs h
  obtain ⟨⟨b1, b2⟩, b3, b4, b5, b6⟩ := hQ
  refine ⟨⟨by rw [b1]; omega, by rw [b2]; omega⟩, ⟨?_, ?_⟩, by rw [b5]; omega, fun v hv => b6 v (by omega)⟩
  · refine Ro_sgl fun i hi => ?_
    rw [Nat.zero_add]
    exact b3 i (by omega)
  · refine Ro_sgl fun i hi => ?_
    rw [Nat.zero_add]
    exact b4 i (by omega)
/-- an int's slot may be taken as the int that it is: the number that was read last -/
theorem num_fr (m : Mi) : ∃ m0 : Mi, (∀ a k, ¬ (a = 262 ∧ k = 6) → m0 a k = m a k) ∧ (-2147483648 ≤ m0 262 6 ∧ m0 262 6 ≤ 2147483647) ∧ (∀ z, txR m0 z = txR m z) ∧ m0 = mu m 262 6 (iz (m 262 6)).toInt := by
  refine ⟨mu m 262 6 (iz (m 262 6)).toInt, fun a k g => mu_ne _ _ (by omega), ?_, fun z => ?_, rfl⟩
  · rw [mu_at]
    exact iz_Zr _
  · funext q
    unfold txR
    rw [mu_ne _ _ (by omega)]
theorem r_unify {rl : Int} (hp : PP P) (hz : Zr n) (h2 : 0 ≤ m 262 1 ∧ m 262 1 ≤ 1600) (hw : wds J) (hrl : m 262 33 = rl) (hr01 : rl = 0 ∨ rl = 1) (hS : Sq sc Sn ar N R) (hC : RSy sc Sn ar N R m J) {post : Int → Mi → Mj → Mp → Prop} (k0 : rl = 0 ∨ n < 0 ∨ m 262 1 < n → post (-1) m J P) (kf : rl = 1 → 0 ≤ n ∧ n ≤ m 262 1 → (qA Sn sc ar (txR m n) n (qG (txR m n) n)).1 ≠ 0 → ∀ m' J', m' 262 12 = (qA Sn sc ar (txR m n) n (qG (txR m n) n)).1 → m' 262 13 = (qA Sn sc ar (txR m n) n (qG (txR m n) n)).2 → m' 262 136 = m 262 136 → (∀ k, m' 347 k = m 347 k) → m' 262 1 = 0 → m' 262 101 = m 262 101 → ruF m J m' J' → post (-4) m' J' P) (k1 : rl = 1 → 0 ≤ n ∧ n ≤ m 262 1 → (qA Sn sc ar (txR m n) n (qG (txR m n) n)).1 = 0 → ∀ l r vs nm, l = ZL Sn sc (qG (txR m n) n) → r = ZR Sn sc (qG (txR m n) n) → vs = sgs (qG (txR m n) n 0 4).toNat → nm = qG (txR m n) n 7 → ∀ m' J', m' 262 12 = 0 → m' 262 13 = -1 → m' 262 1 = 0 → m' 262 101 = m 262 101 → ruF m J m' J' → (nuni (ayw ar) l r vs = none → m' 262 136 = m 262 136 → (∀ k, m' 347 k = m 347 k) → post 0 m' J' P) ∧ ∀ Q, nuni (ayw ar) l r vs = some Q → (nval (ayw ar) l r vs Q = none → m' 262 136 = m 262 136 → (∀ k, m' 347 k = m 347 k) → post 2 m' J' P) ∧ ∀ ls, nval (ayw ar) l r vs Q = some ls → OR (ushow (ayw ar) Sn nm ls).1 m' → post 1 m' J' P) : Ci X (d + 6) 194 [.ref 262, .int (iz n)] m J P post := by
  have zr : Zr rl := by rcases hr01 with h | h <;> rw [h] <;> constructor <;> decide
  have zt : Zr (m 262 1) := by constructor <;> omega
  have hs16 := hS.1.1
  have har := Sq_ar hS
  by_cases hr1 : rl = 0
  · refine Ci.of rfl rfl rfl (b_Mdl_unify_0 (d := d + 1) n m J P hp post ?_)
    rw [hrl]
    exact ⟨zr, fun _ => k0 (Or.inl hr1), fun g => absurd hr1 g⟩
  by_cases hg : ¬ (0 ≤ n ∧ n ≤ m 262 1)
  · refine Ci.of rfl rfl rfl (b_Mdl_unify_0 (d := d + 1) n m J P hp post ?_)
    rw [hrl]
    exact ⟨zr, fun g => absurd g hr1, fun _ => ⟨hz, fun g => k0 (Or.inr (Or.inl g)), fun g => ⟨hz, zt, fun g2 => absurd ⟨by omega, g2⟩ hg, fun g2 => k0 (Or.inr (Or.inr (by omega)))⟩⟩⟩
  have hg := Classical.not_not.mp hg
  have hr : rl = 1 := by omega
  have kf' := kf hr hg
  have k1' := k1 hr hg
  clear kf k1 k0
  refine Ci.zr 262 6 ?_
  obtain ⟨m0, e0, h6, etx, em0⟩ := num_fr m
  rw [← em0]
  have E0 : ruF m J m0 J := ⟨fun a k g1 _ _ _ _ _ _ _ _ _ _ => e0 a k (by omega), fun _ _ _ _ _ _ => rfl⟩
  have eh : m0 262 33 = rl := (e0 _ _ (by omega)).trans hrl
  have et : m0 262 1 = m 262 1 := e0 _ _ (by omega)
  have hC0 : RSy sc Sn ar N R m0 J := RSy_fr hC (fun k g => e0 _ _ (by omega)) (fun a k g1 g2 => e0 _ _ (by omega)) (fun _ _ _ _ => rfl)
  have hn : 0 ≤ n ∧ n ≤ 1600 := by omega
  have hT := txR_T (m := m0) hn
  refine Ci.of rfl rfl rfl (b_Mdl_unify_0 (d := d + 1) n m0 J P hp post ?_)
  rw [eh, et]
  refine ⟨zr, fun g => absurd g hr1, fun _ => ⟨hz, fun g => absurd g (by omega), fun _ => ⟨hz, zt, fun _ => ?_, fun g => absurd hg.2 g⟩⟩⟩
  rw [etx] at hT
  refine r_askGoal (d := d + 1) hp hn h6 hw hC0.1 (fun e m1 J1 v1 v2 v3 v4 v5 => ⟨hp, zr1, fun _ => ?_, fun g => absurd (by omega) g⟩) (fun e m1 J1 v1 v2 v3 v4 => ⟨hp, zr0, fun g => absurd rfl g, fun _ => ?_⟩)
  · rw [etx] at e v4
    have hK := qG_gK hT hs16 e
    have hok := ug_ok hT hs16 e
    obtain ⟨_, _, _, _, _, a8, _⟩ := qG_ok hT hs16 e
    obtain ⟨⟨q1, q2⟩, ⟨q3, q4⟩, q5, q6⟩ := kQ_rows hT hs16 e v4
    have k12 := k1' e _ _ _ _ rfl rfl rfl rfl
    clear kf' k1'
    have F1 := ruF_trans E0 (kF_ru v5)
    have hK1 : RK sc Sn ar m1 J1 := RK_fr hC.1 (F1.1 _ _ (by omega) (by omega) (by omega) (by omega) (by omega) (by omega) (by omega) (by omega) (by omega) (by omega) (by omega)) (fun k => F1.1 _ _ (by omega) (by omega) (by omega) (by omega) (by omega) (by omega) (by omega) (by omega) (by omega) (by omega) (by omega)) (fun k => F1.2 _ _ (by omega) (by omega) (by omega) (by omega))
    have hRA : RAr sc ar m1 := ⟨hK1.1.2, hK1.2.2⟩
    have ht0 : m1 262 1 = 0 := v5.2.2
    have ho1 : m1 262 136 = m 262 136 := (v5.1 _ _ (by omega) (by omega) (by omega) (by omega)).trans (e0 _ _ (by omega))
    have ho2 : ∀ k, m1 347 k = m 347 k := fun k => (v5.1 _ _ (by omega) (by omega) (by omega) (by omega)).trans (e0 _ _ (by omega))
    have hgv1 : m1 262 101 = m 262 101 := (v5.1 _ _ (by omega) (by omega) (by omega) (by omega)).trans (e0 _ _ (by omega))
    generalize ZL Sn sc (qG (txR m n) n) = l at *
    generalize ZR Sn sc (qG (txR m n) n) = r at *
    generalize qG (txR m n) n = Z at *
    obtain ⟨vm, hvm⟩ : ∃ vm, vm = (Z 0 4).toNat := ⟨_, rfl⟩
    rw [← hvm] at hok hK q5 q6 k12
    have a8' : ∀ v : Nat, v < vm → isN (Z 7 v).toNat ∧ 0 < Z 7 v := fun v hv => a8 v (by omega)
    generalize Z 7 = nm at *
    have h6v := hK.2.2.2.1
    obtain ⟨hG, hAm⟩ := ng_G har hok
    have n1 := ct_ne hok.1.1
    have n2 := ct_ne hok.1.2
    have hln := ng_len (l := l) (r := r) (vs := sgs vm)
    have hsf : (sgs vm).flatten.length = vm := sgs_flat
    have h40 := hK.2.1
    have hcl : ∀ v, v < vm → cl (ngr l r (sgs vm)) (l.length + r.length + v) = -1 - (v : Int) := fun v hv => by
      have : ngr l r (sgs vm) = (l ++ r) ++ (sgs vm).flatten := by unfold ngr; rw [List.append_assoc]
      rw [this, ← List.length_append, cl_shift]
      exact sgs_get hv
    refine r_loadAsk (d := d + 1) hp har hRA hok h40 hK.2.2.1 hK.2.2.2.2.2 q1 q2 q3 q4 (fun np K m2 w1 w2 w3 w4 w5 => ?_)
    have F2 := ruF_trans F1 (poF_ru (J := J1) w5)
    have hKn := w1.1.1
    refine r_one (d := d + 3) (a0 := 0) (b0 := l.length) hp hG ayw_32 hAm w1 w2 w3 (by omega) (by omega) (fun Q hQ m3 rn T B y1 y2 y3 y4 => ⟨hp, zr1, fun _ => ?_, fun g => absurd (by omega) g⟩) (fun hQ m3 y4 => ⟨hp, zr0, fun g => absurd rfl g, fun _ => ?_⟩)
    · have hQ' : nuni (ayw ar) l r (sgs vm) = some Q := hQ
      obtain ⟨⟨u1, u2, u3⟩, u4⟩ := uni_ok hG ayw_32 (by omega) (by omega) hQ
      have P3 : poF m1 m3 := poF_trans w5 (onF_po y4)
      refine r_clearNumbers (cd := cl (ngr l r (sgs vm))) (n := (ngr l r (sgs vm)).length) (np := np) (K := K) hp ((mu_ne _ _ (by omega)).trans y2.1.2) (by omega) (fun z hz => (RGr_sym hG y2 hz).1) (fun m4 z1 z2 => ⟨hp, ?_⟩)
      have g4 : ∀ a k, a ≠ 306 → ¬ (a = 262 ∧ (k = 86 ∨ k = 87)) → m4 a k = m3 a k := fun a k h1 h2 => (z2 a k h1 (by omega)).trans (mu_ne _ _ (by omega))
      have P4 : poF m1 m4 := poF_trans P3 fun a k h1 h2 => g4 a k (by omega) (by omega)
      have am4 : m4 262 87 = 0 := (z2 _ _ (by omega) (by omega)).trans (mu_at _ _ _ _)
      have egv : (mu m4 262 122 0) 262 101 = m 262 101 := (mu_ne _ _ (by omega)).trans ((P4 _ _ (by omega) (by omega)).trans hgv1)
      have erv : (mu m4 262 122 0) 262 17 = (vm : Int) := (mu_ne _ _ (by omega)).trans ((P4 _ _ (by omega) (by omega)).trans q5)
      rw [egv, erv]
      generalize hM5 : mu (mu m4 262 122 0) 262 101 (vm : Int) = m5
      have f5 : ∀ a k, ¬ (a = 262 ∧ (k = 122 ∨ k = 101)) → m5 a k = m4 a k := fun a k h => by rw [← hM5, mu_ne _ _ (by omega), mu_ne _ _ (by omega)]
      have e5a : m5 262 101 = (vm : Int) := by rw [← hM5, mu_at]
      have e5b : m5 262 122 = ((0 : Nat) : Int) := by rw [← hM5, mu_ne _ _ (by omega), mu_at]; rfl
      -- roots of VALUES
      have loop : ∀ (q u : Nat) (m6 : Mi), u + q = vm → (∀ v, v < u → m6 339 v = (np (880 + v) : Int)) → (∀ a k, a ≠ 339 → m6 a k = m5 a k) → Rn X (d + 6) 194 117 [some (.ref 262), some (.int (iz n)), some (.int (iz (np (ptc (cl (ngr l r (sgs vm))) 0) : Nat))), some (.int (iz (np (ptc (cl (ngr l r (sgs vm))) l.length) : Nat))), some (.int (iz (m 262 101))), some (.int (iz (u : Int)))] [] (SS m6 J1 P) (QI post) := by
        intro q
        induction q with
        | zero =>
          intro u m6 hu h1 h2
          have er6 : m6 262 17 = (vm : Int) := (h2 _ _ (by omega)).trans ((f5 _ _ (by omega)).trans ((P4 _ _ (by omega) (by omega)).trans q5))
          refine b_Mdl_unify_117 (d := d + 1) n _ _ _ (u : Int) m6 J1 P hp post ?_
          rw [er6]
          refine ⟨by constructor <;> omega, by constructor <;> omega, fun _ => ?_, fun g => absurd (by omega) g⟩
          have g6 : ∀ a k, a ≠ 339 → a ≠ 306 → ¬ (a = 262 ∧ (k = 86 ∨ k = 87 ∨ k = 122 ∨ k = 101)) → m6 a k = m3 a k := fun a k h3 h4 h5 => (h2 a k h3).trans ((f5 a k (by omega)).trans (g4 a k h4 (by omega)))
          have F6 : ruF m J m6 J1 := ruF_trans F2 ⟨fun a k h3 h4 h5 h6 h7 h8 h9 h10 h11 h12 h13 => (g6 a k (by omega) (by omega) (by omega)).trans (y4 a k (by omega) (by omega) (by omega) (by omega) (by omega) (by omega)), fun _ _ _ _ _ _ => rfl⟩
          have W6 : GW (ayw ar) (cl (ngr l r (sgs vm))) (nl (ayw ar) (ngr l r (sgs vm))) Q np rn T (ngr l r (sgs vm)).length B K (fun _ => 0) 0 m6 := ⟨RLk_fr y1 fun k => g6 _ _ (by omega) (by omega) (by omega), RGr_fr y2 (g6 _ _ (by omega) (by omega) (by omega)) (fun k => g6 _ _ (by omega) (by omega) (by omega)) (fun k => g6 _ _ (by omega) (by omega) (by omega)) (fun k => g6 _ _ (by omega) (by omega) (by omega)), (fun c hc h0 => ⟨(w3 c hc h0).1, by rw [g6 _ _ (by omega) (by omega) (by omega), y4 _ _ (by omega) (by omega) (by omega) (by omega) (by omega) (by omega)]; exact (w3 c hc h0).2⟩), (h2 _ _ (by omega)).trans ((f5 _ _ (by omega)).trans am4)⟩
          have kM : am_kd an_K 337 = some (.inr (0, 800)) := by decide +kernel
          have kV : am_kd an_K 338 = some (.inr (0, 6)) := by decide +kernel
          have kN : am_kd an_K 266 = some (.inr (3, 8)) := by decide +kernel
          have P6 : ∀ k, k ≠ 86 → k ≠ 87 → k ≠ 122 → k ≠ 101 → k ≠ 74 → m6 262 k = m1 262 k := fun k h3 h4 h5 h6 h7 => (g6 _ _ (by omega) (by omega) (by omega)).trans (P3 _ _ (by omega) (by omega))
          refine r_writesValues (d := d + 3) (a := l.length + r.length) (G := vm) (s0 := 0) (seen0 := []) (am := 0) (mk := fun _ => 0) (V := fun c => l.length + r.length ≤ c) hp hG ayw_32 u1 u2 u3 (Or.inl rfl) (fun c => by omega) (by omega) (fun c hc hv h0 i hi => ng_V har hok hc hv hi) (fun i hi => ng_st hok (by rw [sgs_len]; exact hi)) (by omega) (by omega) (by rw [List.length_nil]; omega) ((h2 _ _ (by omega)).trans e5a) ((h2 _ _ (by omega)).trans e5b) (fun i hi => by
            rw [h1 i (by omega), ng_kid hok (by rw [sgs_len]; omega), sgs_take (by omega)]
            have := hcl i hi
            unfold ptc
            rw [this, if_pos (by omega), show (879 - (-1 - (i : Int))).toNat = 880 + i by omega]) W6 (NBM_fr z1 ((h2 _ _ (by omega)).trans (f5 _ _ (by omega))) fun k => (h2 _ _ (by omega)).trans (f5 _ _ (by omega))) (fun ls hls m7 x1 x2 x3 x4 => ⟨hp, zr1, fun _ => ?_, fun g => absurd (by omega) g⟩) (fun hls m7 x4 => ⟨hp, zr0, fun g => absurd rfl g, fun _ => ?_⟩)
          · have hls' : nval (ayw ar) l r (sgs vm) Q = some ls := by unfold nval; rw [sgs_len]; exact hls
            obtain ⟨o1, o2⟩ := nval_ok har hok hQ' hls'
            rw [sgs_len] at o1
            have fl := flat_len (B := 100) (vs := ls) fun w hw => (o2 w hw).2.1
            have F7 : ruF m J (mu m7 262 101 (m 262 101)) J1 := ruF_trans F6 (ruF_trans (wvF_ru (J := J1) x4) ⟨fun a k h3 _ _ _ _ _ _ _ _ _ _ => mu_ne _ _ (by omega), fun _ _ _ _ _ _ => rfl⟩)
            have g7 : ∀ k, k ≠ 86 → k ≠ 87 → k ≠ 122 → k ≠ 101 → k ≠ 74 → mu m7 262 101 (m 262 101) 262 k = m1 262 k := fun k h3 h4 h5 h6 h7 => (mu_ne _ _ (by omega)).trans ((x4 _ _ (by omega) (by omega) (by omega) (by omega) (by omega) (by omega)).trans (P6 k h3 h4 h5 h6 h7))
            refine r_beginOut hp (fun m8 J8 c1 c2 => ⟨hp, ?_⟩)
            have g8 : ∀ k, k ≠ 136 → k ≠ 139 → m8 262 k = mu m7 262 101 (m 262 101) 262 k := fun k h3 h4 => c2.1 _ _ (by omega) (by omega) (by omega) (by omega)
            rw [show m8 262 17 = (vm : Int) from (g8 _ (by omega) (by omega)).trans ((g7 _ (by omega) (by omega) (by omega) (by omega) (by omega)).trans q5)]
            have F8 := ruF_trans F7 (wrF_ru c2)
            have K8 : RK sc Sn ar m8 J8 := RK_fr hC.1 (F8.1 _ _ (by omega) (by omega) (by omega) (by omega) (by omega) (by omega) (by omega) (by omega) (by omega) (by omega) (by omega)) (fun k => F8.1 _ _ (by omega) (by omega) (by omega) (by omega) (by omega) (by omega) (by omega) (by omega) (by omega) (by omega) (by omega)) (fun k => F8.2 _ _ (by omega) (by omega) (by omega) (by omega))
            have okk := nbl_okw o2 (by omega)
            have tl : tln (nbl [] ls) = ls.flatten.length := by rw [tln_flat, nbl_flat, nbr_len]
            have hro : RDl 337 m8 0 (nbl [] ls) := Ro_RDl (Ro_fr x1 fun k _ _ => (c2.1 _ _ (by omega) (by omega) (by omega) (by omega)).trans (mu_a _ (by omega))) fun w hw c hc => by have := ((okk w hw).2.2 c hc).2; omega
            refine r_showValues (d := d + 1) (x := 337) (nx := 800) (y := 338) (ny := 6) (z := 266) (nz := 8) (f := 0) (g0 := 0) (N := vm) (vs := nbl [] ls) (nm := nm) hp K8 kM (by omega) (by omega) kV (by omega) (by omega) kN (by omega) (by omega) (by omega) (by omega) (by omega) (fun v hv => ?_) (fun v hv => ?_) a8' (by rw [nbl_len, o1]) (by omega) okk hro c1 (by omega) (fun m9 J9 c3 c4 => ⟨hp, ?_⟩)
            · have hv2 : v < ls.length := by have := hv; rw [nbl_len] at this; exact this
              rw [Nat.zero_add, c2.1 _ _ (by omega) (by omega) (by omega) (by omega), mu_a _ (by omega), x2 v hv2]
              exact congrArg _ (nbl_get (seen := []) hv2).symm
            · rw [c2.2 _ _ (by omega)]
              exact q6 v hv
            · have g9 : ∀ k, k ≠ 136 → k ≠ 139 → m9 262 k = mu m7 262 101 (m 262 101) 262 k := fun k h3 h4 => (c4.1 _ _ (by omega) (by omega) (by omega) (by omega)).trans (g8 k h3 h4)
              refine ((k12 m9 J9 ?_ ?_ ?_ ?_ (ruF_trans F8 (wrF_ru c4))).2 Q hQ').2 ls hls' c3.1
              · rw [g9 _ (by omega) (by omega), g7 _ (by omega) (by omega) (by omega) (by omega) (by omega)]; exact v1
              · rw [g9 _ (by omega) (by omega), g7 _ (by omega) (by omega) (by omega) (by omega) (by omega)]; exact v2
              · rw [g9 _ (by omega) (by omega), g7 _ (by omega) (by omega) (by omega) (by omega) (by omega)]; exact ht0
              · rw [g9 _ (by omega) (by omega), mu_at]
          · have hls' : nval (ayw ar) l r (sgs vm) Q = none := by unfold nval; rw [sgs_len]; exact hls
            have F7 : ruF m J (mu m7 262 101 (m 262 101)) J1 := ruF_trans F6 (ruF_trans (wvF_ru (J := J1) x4) ⟨fun a k h3 _ _ _ _ _ _ _ _ _ _ => mu_ne _ _ (by omega), fun _ _ _ _ _ _ => rfl⟩)
            have g7 : ∀ k, k ≠ 86 → k ≠ 87 → k ≠ 122 → k ≠ 101 → k ≠ 74 → mu m7 262 101 (m 262 101) 262 k = m1 262 k := fun k h3 h4 h5 h6 h7 => (mu_ne _ _ (by omega)).trans ((x4 _ _ (by omega) (by omega) (by omega) (by omega) (by omega) (by omega)).trans (P6 k h3 h4 h5 h6 h7))
            refine ((k12 _ J1 ?_ ?_ ?_ ?_ F7).2 Q hQ').1 hls' ?_ fun k => ?_
            · rw [g7 _ (by omega) (by omega) (by omega) (by omega) (by omega)]; exact v1
            · rw [g7 _ (by omega) (by omega) (by omega) (by omega) (by omega)]; exact v2
            · rw [g7 _ (by omega) (by omega) (by omega) (by omega) (by omega)]; exact ht0
            · rw [mu_at]
            · rw [g7 _ (by omega) (by omega) (by omega) (by omega) (by omega)]; exact ho1
            · rw [mu_a _ (by omega), x4 _ _ (by omega) (by omega) (by omega) (by omega) (by omega) (by omega), g6 _ _ (by omega) (by omega) (by omega), P3 _ _ (by omega) (by omega)]
              exact ho2 k
        | succ q ih =>
          intro u m6 hu h1 h2
          have er6 : m6 262 17 = (vm : Int) := (h2 _ _ (by omega)).trans ((f5 _ _ (by omega)).trans ((P4 _ _ (by omega) (by omega)).trans q5))
          refine b_Mdl_unify_117 (d := d + 1) n _ _ _ (u : Int) m6 J1 P hp post ?_
          rw [er6, Int.toNat_natCast]
          refine ⟨by constructor <;> omega, by constructor <;> omega, fun g => absurd g (by omega), fun _ => ⟨by omega, by omega, ?_⟩⟩
          rw [show (u : Int) + 1 = ((u + 1 : Nat) : Int) by omega]
          refine ih (u + 1) _ (by omega) (fun v hv => ?_) fun a k h => (mu_a _ h).trans (h2 a k h)
          by_cases hvu : v = u
          · subst hvu
            rw [mu_at, h2 _ _ (by omega), f5 _ _ (by omega), g4 _ _ (by omega) (by omega), y4 _ _ (by omega) (by omega) (by omega) (by omega) (by omega) (by omega)]
            exact w4 v (by omega)
          · rw [mu_ne _ _ (by omega)]
            exact h1 v (by omega)
      exact loop vm 0 m5 (by omega) (fun v hv => absurd hv (Nat.not_lt_zero _)) fun _ _ _ => rfl
    · have hQ' : nuni (ayw ar) l r (sgs vm) = none := hQ
      have P3 : poF m1 m3 := poF_trans w5 (onF_po y4)
      refine (k12 m3 J1 ?_ ?_ ?_ ?_ (ruF_trans F1 (poF_ru P3))).1 hQ' ?_ fun k => ?_
      · rw [P3 _ _ (by omega) (by omega)]; exact v1
      · rw [P3 _ _ (by omega) (by omega)]; exact v2
      · rw [P3 _ _ (by omega) (by omega)]; exact ht0
      · rw [P3 _ _ (by omega) (by omega)]; exact hgv1
      · rw [P3 _ _ (by omega) (by omega)]; exact ho1
      · rw [P3 _ _ (by omega) (by omega)]; exact ho2 k
  · rw [etx] at e v1 v2
    exact kf' e m1 J1 v1 v2 ((v4.1 _ _ (by omega) (by omega) (by omega) (by omega)).trans (e0 _ _ (by omega))) (fun k => (v4.1 _ _ (by omega) (by omega) (by omega) (by omega)).trans (e0 _ _ (by omega))) v4.2.2 ((v4.1 _ _ (by omega) (by omega) (by omega) (by omega)).trans (e0 _ _ (by omega))) (ruF_trans E0 (kF_ru v4))
end RUW
