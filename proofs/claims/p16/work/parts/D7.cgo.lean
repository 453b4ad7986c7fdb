/-! goal() in the class -/
section CGO
variable {X : aX} {d : Nat} {P : Mp} {J J' : Mj} {m m' m0 : Mi} {Sn : Nat → Nat} {sc b s o g N : Nat} {ar : Nat → Int} {R : Nat → Mi} {n : Int} {t : Int → Int} {Z : Mi}
/-- the first NODE -/
def nd0 (l r : List Int) (vm : Nat) : Nd := ((-1, -1, -1, 0), 0, (l.map mkc, r.map mkc, sgs vm), -1)
/-- a new TREE -/
noncomputable def tPlant (ay : Int → Nat) (l r : List Int) (vm : Nat) : Ts := (tLook ay [] (nd0 l r vm) [] (ngr (l.map mkc) (r.map mkc) (sgs vm)).length 0 0 false).1
/-- the GOAL as its Equation holds it -/
def GQ (o : Nat) (l r : List Int) (vm : Nat) (nm : Nat → Int) (m : Mi) (J : Mj) : Prop := (m o 5 = (l.length : Int) ∧ m o 6 = ((l.length + r.length : Nat) : Int) ∧ m o 7 = (vm : Int)) ∧ Ro m (o + 1) 0 (l ++ r) ∧ ∀ v, v < vm → J (o + 5) v = cN (nm v).toNat
theorem GQ_fr {l r : List Int} {vm : Nat} {nm : Nat → Int} (h : GQ o l r vm nm m J) (f : ∀ a k, o ≤ a → a ≤ o + 1 → m' a k = m a k) (f2 : ∀ k, J' (o + 5) k = J (o + 5) k) : GQ o l r vm nm m' J' := ⟨⟨(f _ _ (Nat.le_refl _) (by omega)).trans h.1.1, (f _ _ (Nat.le_refl _) (by omega)).trans h.1.2.1, (f _ _ (Nat.le_refl _) (by omega)).trans h.1.2.2⟩, Ro_fr h.2.1 fun k _ _ => f _ _ (by omega) (Nat.le_refl _), fun v hv => (f2 v).trans (h.2.2 v hv)⟩
/-- what is good about a GOAL -/
def gK (sc : Nat) (ar : Nat → Int) (l r : List Int) (vm : Nat) : Prop := (ctt (ayw ar) l = some 1 ∧ ctt (ayw ar) r = some 1) ∧ (l.length ≤ 40 ∧ r.length ≤ 40) ∧ (∀ c, c ∈ l ++ r → gp sc c ∧ -6 ≤ c) ∧ vm ≤ 6 ∧ (∀ c, c ∈ l ++ r → -1 - c < vm) ∧ ∀ v : Nat, v < vm → -1 - (v : Int) ∈ l ++ r
theorem mkc_ay {c : Int} : ayw ar (mkc c) = ayw ar c := by
  unfold mkc
  split
  · rfl
  · exact ayw_32 _ _ (by omega) (by omega) (by omega)
theorem nd0_ok {l r : List Int} {vm : Nat} (har : arK sc ar) (h : gK sc ar l r vm) : okN sc ar (l.map mkc) (r.map mkc) (sgs vm) ∧ ∀ c, c ∈ l.map mkc ++ r.map mkc → 0 ≤ c → 32 ≤ c := by
  have hs := har.1
  have mem : ∀ c, c ∈ l.map mkc ++ r.map mkc → ∃ c', c' ∈ l ++ r ∧ c = mkc c' := fun c hc => by
    rw [← List.map_append] at hc
    obtain ⟨c', h1, h2⟩ := List.mem_map.mp hc
    exact ⟨c', h1, h2.symm⟩
  refine ⟨⟨⟨ct_map (fun c _ => mkc_ay) h.1.1, ct_map (fun c _ => mkc_ay) h.1.2⟩, ⟨by rw [List.length_map]; have := h.2.1.1; omega, by rw [List.length_map]; have := h.2.1.2; omega, by rw [sgs_len]; exact h.2.2.2.1⟩, fun w hw => ?_, fun c hc => ?_⟩, fun c hc h0 => ?_⟩
  · obtain ⟨u, hu, rfl⟩ := sgs_mem hw
    have h6 := h.2.2.2.1
    refine ⟨ct_one (by rw [ayw_v _ (by omega)]; exact ct_nil.mpr rfl), ?_, fun c hc => ?_⟩
    · simp
    · rw [List.mem_singleton.mp hc]
      constructor <;> omega
  · obtain ⟨c', h1, rfl⟩ := mem c hc
    obtain ⟨⟨g1, g2, g3⟩, g4⟩ := h.2.2.1 c' h1
    unfold mkc
    split
    · exact ⟨⟨by omega, by omega, fun q => by omega⟩, by omega⟩
    · have := g3 (by omega)
      exact ⟨⟨by omega, by omega, fun q => by omega⟩, by omega⟩
  · obtain ⟨c', h1, rfl⟩ := mem c hc
    unfold mkc at h0 ⊢
    split <;> rename_i q
    · rw [if_pos q] at h0; omega
    · omega
theorem TV_0 {G mg : Nat} (hG : G ≤ 6) (hm : mg = 1 ∨ mg = 2) : TV sc ar G mg ([], [], 0, 0, 0, false) := ⟨⟨by simp, by simp, by simp [tcl]⟩, ⟨hG, hm⟩, fun e h => absurd h List.not_mem_nil, fun e h => absurd h List.not_mem_nil⟩
theorem tPl_TV {l r : List Int} {vm mg : Nat} (har : arK sc ar) (h : gK sc ar l r vm) (hm : mg = 1 ∨ mg = 2) : TV sc ar vm mg (([] : List Nd) ++ [nd0 l r vm], ([] : List An), (ngr (l.map mkc) (r.map mkc) (sgs vm)).length, 0, 0, false) := by
  obtain ⟨h1, h2⟩ := nd0_ok har h
  have h800 := ng_800 h1
  refine ⟨⟨?_, ?_, ?_⟩, ⟨h.2.2.2.1, hm⟩, fun x hx => ?_, fun x hx => absurd hx List.not_mem_nil⟩
  · simp
  · simp
  · simp only [tcl, List.nil_append, List.length_cons, List.length_nil]
    omega
  · rw [List.nil_append] at hx
    rw [List.mem_singleton.mp hx]
    exact ⟨h1, sgs_len, by show 0 + (ngr (l.map mkc) (r.map mkc) (sgs vm)).length ≤ (ngr (l.map mkc) (r.map mkc) (sgs vm)).length; omega, fun _ => h2⟩
theorem tPlant_TV {l r : List Int} {vm mg : Nat} (har : arK sc ar) (h : gK sc ar l r vm) (hm : mg = 1 ∨ mg = 2) : TV sc ar vm mg (tPlant (ayw ar) l r vm) ∧ (tPlant (ayw ar) l r vm).2.2.2.1 = 0 := by
  have := tLook_TV har (tPl_TV har h hm)
  exact ⟨this.1, this.2.2.2.1⟩
/-- how SYMBOLS are MARKED: 1 BASIC, 2 FULL -/
def mgO (x : Int) : Nat := if x = 0 then 1 else 2
/-- what plant() may change in the class -/
def cpF (m m' : Mi) : Prop := ∀ a k, ¬ (8 ≤ a ∧ a ≤ 27) → ¬ (45 ≤ a ∧ a ≤ 48) → ¬ (a = 38 ∧ 8 ≤ k) → m' a k = m a k
/-- plant() -/
theorem c_plant {x1 : Int} {l r : List Int} {vm : Nat} {nm : Nat → Int} (hp : PP P) (hb : b = 54 ∨ b = 155) (har : arK sc ar) (hA : BA b sc ar m) (hg : P 38 2 = some g) (hgo : g = 39 ∨ g = 256) (hQ : GQ g l r vm nm m J) (hK : gK sc ar l r vm) (hz : x1 = 0 ∨ x1 = 1) (hAT8 : ATT 8 m) (hAT : ATT 18 m) (hA0 : m 18 8 < 2147483647) {post : Mi → Mj → Mp → Prop} (k : ∀ m', TCm (tPlant (ayw ar) l r vm) m' → m' 38 8 = 1 → m' 38 10 = (mgO x1 : Int) → ATT 8 m' → m' 8 8 = m 8 8 → ATT 18 m' → m' 18 8 = m 18 8 + 1 → cpF m m' → post m' J P) : Cv X (d + 4) 98 [.ref 38, .int (iz x1), .ref b] m J P post := by
  have kb := kd_book hb
  have kg := (SP_kd hgo).1
  have hm12 : mgO x1 = 1 ∨ mgO x1 = 2 := by unfold mgO; split <;> omega
  have h6 := hK.2.2.2.1
  have elr : (l ++ r).length = l.length + r.length := List.length_append
  have hl40 := hK.2.1
  obtain ⟨hok, _⟩ := nd0_ok har hK
  have h800 := ng_800 hok
  have main : ∀ m1 : Mi, (∀ a k, ¬ (a = 38 ∧ 8 ≤ k) → m1 a k = m a k) → m1 38 8 = 1 → m1 38 10 = (mgO x1 : Int) → TCm ([], [], 0, 0, 0, false) m1 → Cv X (d + 3) 92 [.ref 8, .ref g, .int (iz 32)] m1 J P (fun m3 J4 P5 => PP P5 ∧ (∃ q8, P5 38 2 = some q8 ∧ am_kd an_K q8 = some (.inl 8) ∧ (∃ q9, P5 38 2 = some q9 ∧ am_kd an_K q9 = some (.inl 8) ∧ (∃ q10, P5 38 2 = some q10 ∧ am_kd an_K q10 = some (.inl 8) ∧ Ci X (d + 3) 99 [.ref 38, .int (iz (m3 q8 5)), .int (iz ((m3 q9 6) - (m3 q10 5))), .int (iz ((-1)))] m3 J4 P5 (fun z14 m11 J12 P13 => PP P13 ∧ Cv X (d + 3) 101 [.ref 38, .int (iz 0), .int (iz ((-1))), .int (iz ((-1)))] m11 J12 P13 (fun m16 J17 P18 => PP P18 ∧ Ci X (d + 3) 102 [.ref 38, .int (iz 0), .ref b] m16 J17 P18 (fun z24 m21 J22 P23 => PP P23 ∧ post m21 J22 P23))))))) := fun m1 f1 hs1 hk1 hT1 => by
    refine c_takeGoal (d := d + 2) (x0 := 8) (vm := vm) (L := l ++ r) (mg := 32) (f := mkc) hp (Or.inl rfl) kg (by omega) (fun c hc => ⟨fun h => by unfold mkc; rw [if_pos h], fun h0 => by have := (hK.2.2.1 c hc).1; unfold mkc; rw [if_neg (by omega), zor_32 ⟨h0, by have := this.2.1; omega⟩]⟩) (fun c hc => by have := (hK.2.2.1 c hc).1; exact ⟨this.1, this.2.1⟩) (by omega) h6 ((f1 _ _ (by omega)).trans (by rw [hQ.1.2.1, elr])) ((f1 _ _ (by omega)).trans hQ.1.2.2) (Ro_fr hQ.2.1 fun k _ _ => f1 _ _ (by omega)) (fun m2 w1 w2 => ⟨hp, g, hg, kg, g, hg, kg, g, hg, kg, ?_⟩)
    have f2 : ∀ a k, ¬ (a = 38 ∧ 8 ≤ k) → a ≠ 16 → ¬ (a = 8 ∧ k = 12) → m2 a k = m a k := fun a k h1 h2 h3 => (w2 a k (by omega) (by omega)).trans (f1 a k h1)
    rw [f2 g _ (by omega) (by omega) (by omega), f2 g _ (by omega) (by omega) (by omega), hQ.1.1, hQ.1.2.1, show (((l.length + r.length : Nat) : Int)) - (l.length : Int) = (r.length : Int) by omega]
    rw [List.map_append, List.append_assoc] at w1
    have w1' : MD 8 m2 (ngr (l.map mkc) (r.map mkc) (sgs vm)) := w1
    have T2 : TCm ([], [], 0, 0, 0, false) m2 := TCm_fr hT1 (fun k _ => w2 _ _ (by omega) (by omega)) fun a k g1 g2 => w2 _ _ (by omega) (by omega)
    have el : (l.length : Int) = ((l.map mkc).length : Int) := by rw [List.length_map]
    have er : (r.length : Int) = ((r.map mkc).length : Int) := by rw [List.length_map]
    rw [el, er]
    have hV := tPl_TV (mg := mgO x1) har hK hm12
    refine c_addNode (d := d + 1) (sc := sc) (ar := ar) (G := vm) (mg := mgO x1) (S := ([], [], 0, 0, 0, false)) (l := l.map mkc) (r := r.map mkc) (vs := sgs vm) (par := -1) (D := 0) (pn := 0) hp (TV_0 h6 hm12) T2 w1' (by simp) (by simp only [Nat.zero_add]; omega) (Or.inl ⟨rfl, rfl⟩) (fun m3 v1 v2 => ⟨hp, ?_⟩)
    refine c_tellOrigin (d := d + 3) (nds := []) (p := -1) (u := -1) hp v1 (by simp) (fun m4 v3 v4 => ⟨hp, ?_⟩)
    have F4 : ∀ a k, ¬ (a = 38 ∧ 8 ≤ k) → a ≠ 16 → ¬ (a = 8 ∧ k = 12) → ¬ (45 ≤ a ∧ a ≤ 48) → m4 a k = m a k := fun a k h1 h2 h3 h4 => (v4 a k (by omega)).trans ((v2 a k (by omega) (by omega) (by omega)).trans (f2 a k h1 h2 h3))
    have F4' : ∀ k, k = 8 ∨ k = 10 → m4 38 k = m1 38 k := fun k hk => (v4 _ _ (by omega)).trans ((v2 _ _ (by omega) (by omega) (by omega)).trans (w2 _ _ (by omega) (by omega)))
    have v3' : TCm (([] : List Nd) ++ [nd0 l r vm], [], (ngr (l.map mkc) (r.map mkc) (sgs vm)).length, 0, 0, false) m4 := by
      have := v3
      rw [show (0 : Nat) + (ngr (l.map mkc) (r.map mkc) (sgs vm)).length = (ngr (l.map mkc) (r.map mkc) (sgs vm)).length by omega] at this
      exact this
    refine c_lookAt (d := d) (G := vm) (mg := mgO x1) (g := g) (nds := []) (e := nd0 l r vm) hp hb har (BA_fr hA har.1 fun k _ => F4 _ _ (by omega) (by omega) (by omega) (by omega)) hg hgo ((F4 _ _ (by omega) (by omega) (by omega) (by omega)).trans hQ.1.2.2) (ATT_fr hAT (F4 _ _ (by omega) (by omega) (by omega) (by omega)) fun z => F4 _ _ (by omega) (by omega) (by omega) (by omega)) (by rw [F4 _ _ (by omega) (by omega) (by omega) (by omega)]; exact hA0) hV v3' (fun m5 t1 t2 t3 t4 => ⟨hp, ?_⟩)
    refine k m5 t1 ((t4 _ _ (by omega) (by omega) (by omega)).trans ((F4' _ (Or.inl rfl)).trans hs1)) ((t4 _ _ (by omega) (by omega) (by omega)).trans ((F4' _ (Or.inr rfl)).trans hk1)) (ATT_fr hAT8 ((t4 _ _ (by omega) (by omega) (by omega)).trans (F4 _ _ (by omega) (by omega) (by omega) (by omega))) fun z => (t4 _ _ (by omega) (by omega) (by omega)).trans (F4 _ _ (by omega) (by omega) (by omega) (by omega))) ((t4 _ _ (by omega) (by omega) (by omega)).trans (F4 _ _ (by omega) (by omega) (by omega) (by omega))) t2 (by rw [t3, F4 _ _ (by omega) (by omega) (by omega) (by omega)]) fun a k g1 g2 g3 => (t4 a k (by omega) g2 (by omega)).trans (F4 a k g3 (by omega) (by omega) g2)
  have z0 : ∀ v : Int, (∀ a k, ¬ (a = 38 ∧ 8 ≤ k) → (mu (mu (mu (mu (mu (mu (mu (mu m 38 8 1) 38 9 0) 38 10 v) 38 11 0) 38 12 0) 38 13 0) 38 14 0) 38 15 0) a k = m a k) ∧ (mu (mu (mu (mu (mu (mu (mu (mu m 38 8 1) 38 9 0) 38 10 v) 38 11 0) 38 12 0) 38 13 0) 38 14 0) 38 15 0) 38 8 = 1 ∧ (mu (mu (mu (mu (mu (mu (mu (mu m 38 8 1) 38 9 0) 38 10 v) 38 11 0) 38 12 0) 38 13 0) 38 14 0) 38 15 0) 38 10 = v ∧ TCm ([], [], 0, 0, 0, false) (mu (mu (mu (mu (mu (mu (mu (mu m 38 8 1) 38 9 0) 38 10 v) 38 11 0) 38 12 0) 38 13 0) 38 14 0) 38 15 0) := fun v => by
    refine ⟨fun a k h => ?_, ?_, ?_, ⟨⟨?_, ?_, ?_, ?_, ?_, ?_⟩, fun i e h => (by cases h), fun i e h => (by cases h)⟩⟩
    · rw [mu_ne _ _ (by omega), mu_ne _ _ (by omega), mu_ne _ _ (by omega), mu_ne _ _ (by omega), mu_ne _ _ (by omega), mu_ne _ _ (by omega), mu_ne _ _ (by omega), mu_ne _ _ (by omega)]
    all_goals simp [mu, i2b]
  refine Cv.of rfl rfl rfl (b_Tree_plant_0 x1 b kb m J P hp post ⟨by rcases hz with h | h <;> rw [h] <;> constructor <;> decide, fun h => ⟨g, hg, kg, ?_⟩, fun h => ⟨g, hg, kg, ?_⟩⟩)
  · obtain ⟨y1, y2, y3, y4⟩ := z0 1
    refine main _ y1 y2 ?_ y4
    unfold mgO
    rw [if_pos h]
    exact y3
  · obtain ⟨y1, y2, y3, y4⟩ := z0 2
    refine main _ y1 y2 ?_ y4
    unfold mgO
    rw [if_neg h]
    exact y3
end CGO
