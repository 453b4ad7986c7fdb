/-! the class's Pairs: overlap(), write() -/
section POV
variable {X : aX} {d : Nat} {P : Mp} {J : Mj} {m m' : Mi} {ar : Nat → Int} {sc b : Nat}
theorem ct_cong {ay : Int → Nat} : ∀ {L M : List Int}, L.map ay = M.map ay → ctt ay L = ctt ay M
  | [], [], _ => rfl
  | c :: L, e :: M, h => by
    rw [List.map_cons, List.map_cons, List.cons.injEq] at h
    rw [ctt, ctt, ct_cong h.2, h.1]
/-- what is good about a RULE's sides -/
def ZK (sc : Nat) (ar : Nat → Int) (l r : List Int) : Prop := (ctt (ayw ar) l = some 1 ∧ ctt (ayw ar) r = some 1) ∧ (∀ c, c ∈ l ++ r → gp sc c ∧ -8 ≤ c) ∧ (l.length ≤ 40 ∧ r.length ≤ 40)
def arK (sc : Nat) (ar : Nat → Int) : Prop := sc ≤ 16 ∧ ∀ i, i < sc → 0 ≤ ar i ∧ ar i ≤ 4
theorem ayw_32 : ay32 (ayw ar) := fun c e hc he h => by
  unfold ayw
  rw [if_neg (by omega), if_neg (by omega), h]
theorem ayw_le {c : Int} (har : arK sc ar) (h : gd sc c) : ayw ar c ≤ 4 := by
  obtain ⟨g1, g2, g3⟩ := h
  unfold ayw
  split
  · omega
  · have := har.2 (c % 32).toNat (by have := g3 (by omega); omega)
    omega
theorem adl_mem {vv : Int} {l r : List Int} (hs : sc ≤ 16) (hZ : ∀ c, c ∈ l ++ r → gp sc c ∧ -8 ≤ c) {c : Int} (h : c ∈ adl vv l r) (h0 : 0 ≤ vv) (h1 : vv ≤ 800) : gd sc c ∧ -808 ≤ c := by
  unfold adl at h
  have hs1 : ∀ e, e ∈ l ++ r → gd sc (shf vv e) ∧ -808 ≤ shf vv e := fun e he => by
    obtain ⟨⟨g1, g2, g3⟩, g4⟩ := hZ e he
    unfold shf gd
    split
    · exact ⟨⟨by omega, by omega, fun q => by omega⟩, by omega⟩
    · have := g3 (by omega)
      exact ⟨⟨by omega, by omega, fun q => by omega⟩, by omega⟩
  have hs2 : ∀ e, e ∈ l ++ r → gd sc (shm vv e) ∧ -808 ≤ shm vv e := fun e he => by
    obtain ⟨⟨g1, g2, g3⟩, g4⟩ := hZ e he
    unfold shm gd
    split
    · exact ⟨⟨by omega, by omega, fun q => by omega⟩, by omega⟩
    · have := g3 (by omega)
      exact ⟨⟨by omega, by omega, fun q => by omega⟩, by omega⟩
  rcases List.mem_append.mp h with h | h
  · obtain ⟨e, he, q⟩ := List.mem_map.mp h
    rw [← q]
    exact hs1 e (List.mem_append_left _ he)
  · obtain ⟨e, he, q⟩ := List.mem_map.mp h
    rw [← q]
    exact hs2 e (List.mem_append_right _ he)
theorem GokA {L l r : List Int} {k0 : Nat} (har : arK sc ar) (hL : ctt (ayw ar) L = some k0) (hl : L.length ≤ 800) (hg : ∀ c, c ∈ L → gd sc c ∧ -800 ≤ c) (hZ : ZK sc ar l r) : Gok (ayw ar) (cl (L ++ adl (vmx L) l r)) (nl (ayw ar) (L ++ adl (vmx L) l r)) (L ++ adl (vmx L) l r).length ∧ Amt (ayw ar) (cl (L ++ adl (vmx L) l r)) (L ++ adl (vmx L) l r).length (fun z => z) ≤ 880 := by
  have hv0 := vmx_0 (L := L)
  have hv1 : vmx L ≤ 800 := vmx_le (by decide) fun c hc => by have := (hg c hc).2; omega
  have hct : ctt (ayw ar) (adl (vmx L) l r) = some (1 + 1) := by
    rw [ct_cong (adl_ay hv0)]
    exact ct_app hZ.1.2 hZ.1.1
  have hlen : (L ++ adl (vmx L) l r).length ≤ 880 := by
    rw [List.length_append, adl_len]
    have := hZ.2.2
    omega
  have hG := ct_app hct hL
  refine ⟨Gok_list hG hlen ayw_v fun c hc => ?_, Nat.le_trans (Amt_list hG) hlen⟩
  have hgc : gd sc c ∧ -808 ≤ c := by
    rcases List.mem_append.mp hc with h | h
    · exact ⟨(hg c h).1, by have := (hg c h).2; omega⟩
    · exact adl_mem har.1 hZ.2.1 h hv0 hv1
  exact ⟨ayw_le har hgc.1, hgc.2, hgc.1.2.1⟩
/-- a RULE as its row holds it -/
def RB (o : Nat) (ay : Int → Nat) (l r : List Int) (m : Mi) : Prop := (m o 5 = (l.length : Int) ∧ m o 6 = ((l.length + r.length : Nat) : Int)) ∧ Ro m (o + 1) 0 (l ++ r) ∧ ∀ c, c < l.length + r.length → m (o + 2) c = (nl ay (l ++ r) c : Int)
theorem RB_fr {o : Nat} {ay : Int → Nat} {l r : List Int} (h : RB o ay l r m) (f : ∀ a k, o ≤ a → a ≤ o + 2 → m' a k = m a k) : RB o ay l r m' :=
  ⟨⟨(f _ _ (by omega) (by omega)).trans h.1.1, (f _ _ (by omega) (by omega)).trans h.1.2⟩, Ro_fr h.2.1 fun k _ _ => f _ _ (by omega) (by omega), fun c hc => (f _ _ (by omega) (by omega)).trans (h.2.2 c hc)⟩
/-- the graph of two RULES -/
def pgr (l1 r1 l2 r2 : List Int) : List Int := (l1 ++ r1) ++ adl (vmx (l1 ++ r1)) l2 r2
noncomputable def ovl (ay : Int → Nat) (l1 r1 l2 r2 : List Int) (p : Nat) : Option (Nat → Nat) := uni ay (cl (pgr l1 r1 l2 r2)) (nl ay (pgr l1 r1 l2 r2)) (pgr l1 r1 l2 r2).length p (l1 ++ r1).length
theorem GokP {l1 r1 l2 r2 : List Int} (har : arK sc ar) (h1 : ZK sc ar l1 r1) (h2 : ZK sc ar l2 r2) : Gok (ayw ar) (cl (pgr l1 r1 l2 r2)) (nl (ayw ar) (pgr l1 r1 l2 r2)) (pgr l1 r1 l2 r2).length ∧ Amt (ayw ar) (cl (pgr l1 r1 l2 r2)) (pgr l1 r1 l2 r2).length (fun z => z) ≤ 880 := by
  have h3 := h1.2.2
  exact GokA har (ct_app h1.1.2 h1.1.1) (by rw [List.length_append]; omega) (fun c hc => ⟨gd_gp har.1 (h1.2.1 c hc).1, by have := (h1.2.1 c hc).2; omega⟩) h2
theorem kd_bench {x0 : Nat} (hx : x0 = 8 ∨ x0 = 18) : am_kd an_K x0 = some (.inl 4) := by
  rcases hx with rfl | rfl <;> decide +kernel
/-- what the bench alone may change -/
def bcF (x0 : Nat) (m m' : Mi) : Prop := ∀ a k, ¬ (x0 ≤ a ∧ a ≤ x0 + 9) → m' a k = m a k
theorem bcF_trans {x0 : Nat} {m'' : Mi} (h : bcF x0 m m') (h2 : bcF x0 m' m'') : bcF x0 m m'' := fun a k g => (h2 a k g).trans (h a k g)
theorem c_overlap {i p j : Nat} {l1 r1 l2 r2 : List Int} (hp : PP P) (hb : b = 54 ∨ b = 155) (har : arK sc ar) (hA : BA b sc ar m) (hi : i < 16) (hj : j < 16) (hpl : p < l1.length) (h1 : ZK sc ar l1 r1) (h2 : ZK sc ar l2 r2) (hR1 : RB (b + 5 + 6 * i) (ayw ar) l1 r1 m) (hR2 : RB (b + 5 + 6 * j) (ayw ar) l2 r2 m) (hAT : ATT 8 m) (hAt : m 8 8 < 2147483647) {post : Int → Mi → Mj → Mp → Prop} (k1 : cl l1 p = cl l2 0 → ∀ R, ovl (ayw ar) l1 r1 l2 r2 p = some R → ∀ m' rt T B col, CI 8 R rt T B col m' → B ≤ 1000 → UIv (cl (pgr l1 r1 l2 r2)) (pgr l1 r1 l2 r2).length R → GC 8 (cl (pgr l1 r1 l2 r2)) (nl (ayw ar) (pgr l1 r1 l2 r2)) (pgr l1 r1 l2 r2).length m' → m' 8 2 = ((l1 ++ r1).length : Int) → m' 8 3 = vmx (l1 ++ r1) → m' 8 8 ≤ m 8 8 + 1 → bcF 8 m m' → post 1 m' J P) (k0 : (cl l1 p = cl l2 0 → ovl (ayw ar) l1 r1 l2 r2 p = none) → ∀ m', ATT 8 m' → m' 8 8 ≤ m 8 8 + 1 → bcF 8 m m' → post 0 m' J P) : Ci X (d + 3) 50 [.ref 36, .int (iz (i : Int)), .int (iz (p : Int)), .int (iz (j : Int)), .ref b] m J P post := by
  have kx := kd_bench (x0 := 8) (Or.inl rfl)
  have kb := kd_book hb
  have hl1 := h1.2.2
  have hl2 := h2.2.2
  have n2 : 0 < l2.length := ct_ne h2.1.1
  have hc1 : m (b + 5 + 6 * i + 1) p = cl l1 p := by
    have := Ro_get hR1.2.1 (i := p) (by rw [List.length_append]; omega)
    rw [Nat.zero_add, ← cl_get, cl_app hpl] at this
    exact this
  have hc2 : m (b + 5 + 6 * j + 1) 0 = cl l2 0 := by
    have := Ro_get hR2.2.1 (i := 0) (by rw [List.length_append]; omega)
    rw [Nat.zero_add, ← cl_get, cl_app n2] at this
    exact this
  have z1 := h1.2.1 _ (List.mem_append_left r1 (cl_mem hpl))
  have z2 := h2.2.1 _ (List.mem_append_left r2 (cl_mem n2))
  have z11 := z1.1.2.1
  have z21 := z2.1.2.1
  have ei : ((i : Nat) : Int).toNat = i := by omega
  have ej : ((j : Nat) : Int).toNat = j := by omega
  have ep : ((p : Nat) : Int).toNat = p := by omega
  have e0 : (0 : Int).toNat = 0 := rfl
  obtain ⟨hGP, hAm⟩ := GokP (l1 := l1) (r1 := r1) (l2 := l2) (r2 := r2) har h1 h2
  have hlen1 : (l1 ++ r1).length = l1.length + r1.length := List.length_append
  have hlenG : (pgr l1 r1 l2 r2).length = l1.length + r1.length + (l2.length + r2.length) := by unfold pgr; rw [List.length_append, adl_len, hlen1]
  refine Ci.of rfl rfl rfl (b_Pairs_overlap_0 i p j b kb m J P hp post ⟨by omega, by omega, by omega, by decide, ?_⟩)
  rw [ei, ej, ep, e0, hc1, hc2, hR1.1.2, ← hlen1]
  refine ⟨by constructor <;> omega, by constructor <;> omega, fun g => ?_, fun g => k0 (fun q => absurd q g) m hAT (by omega) (fun _ _ _ => rfl)⟩
  refine c_load (x1 := b + 5 + 6 * i + 1) (n1 := 80) (from_ := 0) (L := l1 ++ r1) hp (Or.inl rfl) kx (kd_rule_arr hb hi (by omega) (by omega)) (by omega) (by omega) hb kb har.1 hA (ct_app h1.1.2 h1.1.1) (by omega) (by omega) (fun c hc => ⟨gd_gp har.1 (h1.2.1 c hc).1, by have := (h1.2.1 c hc).2; omega⟩) hR1.2.1 (fun m1 u1 u2 u3 u4 => ⟨hp, ?_⟩)
  have F1 : bcF 8 m m1 := fun a k g => u4 a k (by omega) (by omega) (by omega)
  have hR2' : RB (b + 5 + 6 * j) (ayw ar) l2 r2 m1 := RB_fr hR2 fun a k g1 g2 => F1 a k (by omega)
  refine c_badd (L := l1 ++ r1) (l := l2) (r := r2) (vv := vmx (l1 ++ r1)) hp (Or.inl rfl) kx (kd_rule hb hj) (by omega) (ct_app h1.1.2 h1.1.1) (by omega) (by omega) u1 u2 u3 vmx_0 hR2'.1.1 hR2'.1.2 hR2'.2.1 hR2'.2.2 (fun c hc => (h2.2.1 c hc).1) (fun m2 v1 v2 => ⟨hp, ?_⟩)
  have F2 : bcF 8 m m2 := fun a k g => (v2 a k (by omega) (by omega)).trans (F1 a k g)
  rw [v2 _ _ (by decide) (by decide), u2]
  have at2 : m2 8 8 = m 8 8 := (v2 _ _ (by decide) (by decide)).trans (u4 _ _ (by decide) (by decide) (by decide))
  have hAT2 : ATT 8 m2 := by
    refine ⟨by rw [at2]; exact hAT.1, fun z hz => ?_⟩
    rw [at2, v2 _ _ (by decide) (by decide), u4 _ _ (by decide) (by decide) (by omega)]
    exact hAT.2 z hz
  refine c_unifies (a0 := p) (b0 := (l1 ++ r1).length) hp kx hGP ayw_32 hAm v1 hAT2 (by rw [at2]; exact hAt) (by omega) (by omega) (fun R hR m3 rt T B col w1 w2 w3 w4 w5 => ⟨hp, Or.inr rfl, ?_⟩) (fun hn m3 w1 w2 w3 => ⟨hp, Or.inl rfl, ?_⟩)
  · refine k1 g R hR m3 rt T B col w1 w2 w3 (GC_fr v1 (fun k => w5 _ _ (by omega) (by omega)) (fun k => w5 _ _ (by omega) (by omega))) ((w5 _ _ (by decide) (by decide)).trans ((v2 _ _ (by decide) (by decide)).trans u2)) ((w5 _ _ (by decide) (by decide)).trans ((v2 _ _ (by decide) (by decide)).trans u3)) (by rw [w4, at2]; exact Int.le_refl _) (fun a k q => (w5 a k (by omega) (by omega)).trans (F2 a k q))
  · exact k0 (fun _ => hn) m3 w1 (by rw [w2, at2]; exact Int.le_refl _) (fun a k q => (w3 a k (by omega) (by omega)).trans (F2 a k q))
end POV
