/-! the class's Bench: load(), add(), begin() -/
section CLD
variable {X : aX} {d : Nat} {P : Mp} {J : Mj} {m m' : Mi} {x0 : Nat} {ar : Nat → Int} {sc b : Nat}
/-- the greatest number of a VARIABLE, and one -/
def vmx : List Int → Int
  | [] => 0
  | c :: L => if vmx L < -c then -c else vmx L
theorem vmx_0 : ∀ {L : List Int}, 0 ≤ vmx L
  | [] => Int.le_refl 0
  | c :: L => by
    rw [vmx]
    have := vmx_0 (L := L)
    split <;> omega
theorem vmx_mem : ∀ {L : List Int} {c : Int}, c ∈ L → -c ≤ vmx L
  | e :: L, c, h => by
    rw [vmx]
    rcases List.mem_cons.mp h with h | h
    · rw [h]; split <;> omega
    · have := vmx_mem h
      split <;> omega
theorem vmx_le {B : Int} (hB : 0 ≤ B) : ∀ {L : List Int}, (∀ c, c ∈ L → -c ≤ B) → vmx L ≤ B
  | [], _ => hB
  | c :: L, h => by
    rw [vmx]
    have := vmx_le hB fun d hd => h d (List.mem_cons_of_mem _ hd)
    have := h c List.mem_cons_self
    split <;> omega
/-- what load() may change -/
def ldC (x0 : Nat) (m m' : Mi) : Prop := ∀ b k, b ≠ x0 + 1 → b ≠ x0 + 2 → ¬ (b = x0 ∧ (k = 2 ∨ k = 3)) → m' b k = m b k
theorem c_load {x1 n1 from_ k0 : Nat} {L : List Int} (hp : PP P) (hx0 : x0 = 8 ∨ x0 = 18) (kx : am_kd an_K x0 = some (.inl 4)) (k1 : am_kd an_K x1 = some (.inr (0, n1))) (b1 : n1 ≤ 100000) (hx1 : 28 < x1 ∨ x1 = 26) (hb : b = 54 ∨ b = 155) (kb : am_kd an_K b = some (.inl 10)) (hs : sc ≤ 16) (hA : BA b sc ar m) (hL : ctt (ayw ar) L = some k0) (hl : L.length ≤ 800) (hf : from_ + L.length ≤ n1) (hg : ∀ c, c ∈ L → gd sc c ∧ -808 ≤ c) (hrow : Ro m x1 from_ L) {post : Mi → Mj → Mp → Prop} (k : ∀ m', GC x0 (cl L) (nl (ayw ar) L) L.length m' → m' x0 2 = (L.length : Int) → m' x0 3 = vmx L → ldC x0 m m' → post m' J P) : Cv X (d + 1) 51 [.ref x0, .ref x1, .int (iz (from_ : Int)), .int (iz (L.length : Int)), .ref b] m J P post := by
  refine Cv.of rfl rfl rfl (b_Bench_load_0 x0 x1 n1 from_ _ b kx k1 b1 kb m J P hp post ⟨by constructor <;> omega, fun g => absurd g (by omega), fun _ => ⟨by constructor <;> omega, fun g => absurd g (by omega), fun _ => ⟨by constructor <;> omega, fun g => absurd g (by omega), fun _ => ⟨by constructor <;> omega, by constructor <;> omega, fun _ => ?_, fun g => absurd (by omega) g⟩⟩⟩⟩)
  have loop : ∀ (c : Nat) (m1 : Mi), c ≤ L.length → (∀ q, c ≤ q → q < L.length → m1 (x0 + 1) q = cl L q ∧ m1 (x0 + 2) q = (nl (ayw ar) L q : Int)) → m1 x0 3 = vmx (L.drop c) → m1 x0 2 = (L.length : Int) → ldC x0 m m1 → Rn X (d + 1) 51 44 [some (.ref x0), some (.ref x1), some (.int (iz (from_ : Int))), some (.int (iz (L.length : Int))), some (.ref b), some (.int (iz ((c : Int) - 1))), none, none] [] (SS m1 J P) (QV post) := by
    intro c
    induction c with
    | zero =>
      intro m1 hc hG hv hcl hF
      exact b_Bench_load_44 x0 x1 n1 from_ _ b _ kx k1 b1 kb m1 J P hp post ⟨by constructor <;> omega, fun _ => k m1 (fun q hq => hG q (Nat.zero_le _) hq) hcl hv hF, fun g => absurd (by omega) g⟩
    | succ c ih =>
      intro m1 hc hG hv hcl hF
      obtain ⟨p, x, l, z, e, e1, e2⟩ := L_split hL (c := c) (by omega)
      have hx : cl L c = x := by rw [← e1]; exact cl_of (q := l ++ z) (by rw [e]; simp)
      have hn := nl_of (p := p) (t := x :: l) (z := z) e (ct_one e2)
      rw [e1, List.length_cons] at hn
      have hlen : L.length = c + (l.length + 1 + z.length) := by rw [e, ← e1]; simp; omega
      have hch := ch_list (L := L) (p := p ++ [x]) (q := l) (z := z) (by rw [e]; simp) e2
      rw [List.length_append, List.length_singleton, e1] at hch
      have hgx := hg x (by rw [e]; simp)
      have hgx1 := hgx.1
      have hvx : vmx (L.drop c) = (if vmx (L.drop (c + 1)) < -x then -x else vmx (L.drop (c + 1))) := by
        have := List.drop_eq_getElem_cons (l := L) (i := c) (by omega)
        rw [this, vmx, ← cl_get (by omega), hx]
      have hvb : 0 ≤ vmx (L.drop (c + 1)) ∧ vmx (L.drop (c + 1)) ≤ 808 := ⟨vmx_0, vmx_le (by decide) fun a ha => by have := (hg a (List.mem_of_mem_drop ha)).2; omega⟩
      have ec : ((c + 1 : Nat) : Int) - 1 = (c : Int) := by omega
      have en : ((c : Nat) : Int).toNat = c := by omega
      have ef : ((from_ : Int) + (c : Int)).toNat = from_ + c := by omega
      have hcell : m1 x1 (from_ + c) = x := by
        rw [hF _ _ (by omega) (by omega) (by omega), ← e1]
        exact Ro_mem hrow e
      have z1 : Zr (-x) := by unfold gd at hgx1; constructor <;> omega
      rw [ec]
      refine b_Bench_load_44 x0 x1 n1 from_ _ b _ kx k1 b1 kb m1 J P hp post ⟨by constructor <;> omega, fun g => absurd g (by omega), fun _ => ⟨by omega, by omega, by omega, ?_⟩⟩
      rw [en, ef, hcell, mu_at, mu_ne _ _ (by omega), hv]
      refine ⟨by constructor <;> omega, z1, by omega, ?_⟩
      rw [← hvx, mu_ne _ _ (by omega), mu_at]
      generalize hm2 : mu (mu m1 (x0 + 1) c x) x0 3 (vmx (L.drop c)) = m2
      have f1 : m2 (x0 + 1) c = x := by rw [← hm2, mu_ne _ _ (by omega), mu_at]
      have f2 : ∀ b k, ¬ (b = x0 + 1 ∧ k = c) → ¬ (b = x0 ∧ k = 3) → m2 b k = m1 b k := fun b k g1 g2 => by rw [← hm2, mu_ne _ _ g2, mu_ne _ _ g1]
      have f3 : m2 x0 3 = vmx (L.drop c) := by rw [← hm2, mu_at]
      have F2 : ldC x0 m m2 := fun b k g1 g2 g3 => (f2 b k (by omega) (by omega)).trans (hF b k g1 g2 g3)
      have hA2 : BA b sc ar m2 := BA_fr hA hs fun k _ => F2 _ _ (by omega) (by omega) (by omega)
      refine c_args hp kb hA2 hs hgx1 ⟨hp, ?_⟩
      have hG2 : ∀ q, c + 1 ≤ q → q < L.length → m2 (x0 + 1) q = cl L q ∧ m2 (x0 + 2) q = (nl (ayw ar) L q : Int) := fun q h1 h2 => by
        rw [f2 _ _ (by omega) (by omega), f2 _ _ (by omega) (by omega)]
        exact hG q h1 h2
      -- the ARGUMENTS
      have inner : ∀ (i a : Nat), c < a → ch (nl (ayw ar) L) (c + 1 + l.length) i a → Rn X (d + 1) 51 101 [some (.ref x0), some (.ref x1), some (.int (iz (from_ : Int))), some (.int (iz (L.length : Int))), some (.ref b), some (.int (iz (c : Int))), some (.int (iz (a : Int))), some (.int (iz (i : Int)))] [] (SS m2 J P) (QV post) := by
        intro i
        induction i with
        | zero =>
          intro a ha hca
          unfold ch at hca
          have ec2 : ((c : Nat) : Int) + (-1) = (c : Int) - 1 := by omega
          have := ih (mu m2 (x0 + 2) c (a : Int)) (by omega) (fun q h1 h2 => by
            by_cases g : q = c
            · rw [g, mu_ne _ _ (by omega), mu_at, f1, hx, hn, hca]
              exact ⟨rfl, by congr 1; omega⟩
            · rw [mu_ne _ _ (by omega), mu_ne _ _ (by omega)]
              exact hG2 q (by omega) h2) ((mu_ne _ _ (by omega)).trans f3) ((mu_ne _ _ (by omega)).trans ((f2 _ _ (by omega) (by omega)).trans hcl)) (fun b k g1 g2 g3 => (mu_ne _ _ (by omega)).trans (F2 b k g1 g2 g3))
          refine b_Bench_load_101 x0 x1 n1 from_ _ b c a _ kx k1 b1 kb m2 J P hp post ⟨zr0, fun _ => ⟨by omega, ?_⟩, fun g => absurd (Int.le_refl _) g⟩
          rw [en, ec2]
          exact this
        | succ i ihi =>
          intro a ha hca
          unfold ch at hca
          obtain ⟨c1, c2, c3⟩ := hca
          have ea : ((a : Nat) : Int).toNat = a := by omega
          have ei : ((i + 1 : Nat) : Int) + (-1) = (i : Int) := by omega
          have hi4 : i + 1 ≤ 10 ∨ True := Or.inr trivial
          have hi := ch_le c3
          refine b_Bench_load_101 x0 x1 n1 from_ _ b c a _ kx k1 b1 kb m2 J P hp post ⟨by constructor <;> omega, fun g => absurd g (by omega), fun _ => ⟨by constructor <;> omega, by constructor <;> omega, fun g => absurd g (by omega), fun _ => ⟨by omega, ?_⟩⟩⟩
          rw [ea, ei, (hG2 a (by omega) (by omega)).2]
          exact ihi (nl (ayw ar) L a) (by omega) c3
      have := inner (ayw ar x) (c + 1) (by omega) hch
      rw [show ((c + 1 : Nat) : Int) = (c : Int) + 1 by omega] at this
      exact this
  exact loop L.length _ (Nat.le_refl _) (fun q h1 h2 => absurd h2 (by omega)) (by rw [List.drop_length, mu_ne _ _ (by omega), mu_at]; rfl) (mu_at _ _ _ _) (fun b k g1 g2 g3 => by rw [mu_ne _ _ (by omega), mu_ne _ _ (by omega), mu_ne _ _ (by omega)])
/-- begin() -/
theorem c_bbegin {hv pv : Int} (hp : PP P) (kx : am_kd an_K x0 = some (.inl 4)) {post : Mi → Mj → Mp → Prop} (k : ∀ m', MD x0 m' [] → m' x0 13 = hv → m' x0 14 = pv → (∀ b k, ¬ (b = x0 ∧ (k = 12 ∨ k = 13 ∨ k = 14)) → m' b k = m b k) → post m' J P) : Cv X d 60 [.ref x0, .int (iz hv), .int (iz pv)] m J P post := by
  refine Cv.of rfl rfl rfl (b_Bench_begin_0 x0 hv pv kx m J P hp post (k _ ⟨Nat.zero_le _, ?_, trivial⟩ ?_ (mu_at _ _ _ _) (fun b k g => ?_)))
  · rw [mu_ne _ _ (by omega), mu_ne _ _ (by omega), mu_at]; rfl
  · rw [mu_ne _ _ (by omega), mu_at]
  · rw [mu_ne _ _ (by omega), mu_ne _ _ (by omega), mu_ne _ _ (by omega)]
theorem tk_cong {ay : Int → Nat} : ∀ {L M : List Int} {k : Nat}, L.map ay = M.map ay → tk ay L k = tk ay M k
  | [], [], _, _ => rfl
  | c :: L, e :: M, 0, _ => rfl
  | c :: L, e :: M, k + 1, h => by
    rw [List.map_cons, List.map_cons, List.cons.injEq] at h
    rw [tk, tk, h.1, tk_cong h.2]
theorem nl_cong {ay : Int → Nat} {L M : List Int} {c : Nat} (h : L.map ay = M.map ay) : nl ay L c = nl ay M c := by
  unfold nl
  have e : (L.drop c).map ay = (M.drop c).map ay := by rw [List.map_drop, List.map_drop, h]
  rw [tk_cong e]
/-- a RULE's cells behind a row -/
def shf (vv : Int) (c : Int) : Int := if c < 0 then c - vv else c
def shm (vv : Int) (c : Int) : Int := if c < 0 then c - vv else c % 32 + 32
def adl (vv : Int) (l r : List Int) : List Int := l.map (shf vv) ++ r.map (shm vv)
theorem adl_len {vv : Int} {l r : List Int} : (adl vv l r).length = l.length + r.length := by unfold adl; rw [List.length_append, List.length_map, List.length_map]
theorem adl_ay {vv : Int} {l r : List Int} (hv : 0 ≤ vv) : (adl vv l r).map (ayw ar) = (l ++ r).map (ayw ar) := by
  have h1 : ∀ c, ayw ar (shf vv c) = ayw ar c := fun c => by
    unfold shf
    split
    · rw [ayw_v _ (by omega), ayw_v _ (by omega)]
    · rfl
  have h2 : ∀ c, ayw ar (shm vv c) = ayw ar c := fun c => by
    unfold shm
    split
    · rw [ayw_v _ (by omega), ayw_v _ (by omega)]
    · unfold ayw
      rw [if_neg (by omega), if_neg (by omega), show (c % 32 + 32) % 32 = c % 32 by omega]
  unfold adl
  rw [List.map_append, List.map_append, List.map_map, List.map_map]
  congr 1
  · exact List.map_congr_left fun c _ => h1 c
  · exact List.map_congr_left fun c _ => h2 c
theorem cl_map {f : Int → Int} : ∀ {L : List Int} {c : Nat}, c < L.length → cl (L.map f) c = f (cl L c)
  | x :: L, 0, _ => rfl
  | x :: L, c + 1, h => by
    rw [List.length_cons] at h
    rw [List.map_cons, cl, cl, cl_map (by omega)]
theorem adl_cl {vv : Int} {l r : List Int} {c : Nat} (hc : c < l.length + r.length) : cl (adl vv l r) c = if c < l.length then shf vv (cl (l ++ r) c) else shm vv (cl (l ++ r) c) := by
  unfold adl
  by_cases g : c < l.length
  · rw [if_pos g, cl_app (by rw [List.length_map]; exact g), cl_map g, cl_app g]
  · rw [if_neg g]
    have e1 : c = (l.map (shf vv)).length + (c - l.length) := by rw [List.length_map]; omega
    have e2 : c = l.length + (c - l.length) := by omega
    have h1 : cl (l.map (shf vv) ++ r.map (shm vv)) c = cl (r.map (shm vv)) (c - l.length) := by
      have := cl_shift (L := l.map (shf vv)) (M := r.map (shm vv)) (c := c - l.length)
      rw [← e1] at this
      exact this
    have h2 : cl (l ++ r) c = cl r (c - l.length) := by
      have := cl_shift (L := l) (M := r) (c := c - l.length)
      rw [← e2] at this
      exact this
    rw [h1, h2, cl_map (by omega)]
theorem c_badd {o k0 : Nat} {L l r : List Int} {vv : Int} (hp : PP P) (hx0 : x0 = 8 ∨ x0 = 18) (kx : am_kd an_K x0 = some (.inl 4)) (ko : am_kd an_K o = some (.inl 8)) (ho : 39 ≤ o) (hL : ctt (ayw ar) L = some k0) (hl : L.length ≤ 800) (hlr : l.length + r.length ≤ 80) (hG : GC x0 (cl L) (nl (ayw ar) L) L.length m) (hcl : m x0 2 = (L.length : Int)) (hvv : m x0 3 = vv) (hv0 : 0 ≤ vv) (h5 : m o 5 = (l.length : Int)) (h6 : m o 6 = ((l.length + r.length : Nat) : Int)) (hrow : Ro m (o + 1) 0 (l ++ r)) (hnx : ∀ c, c < l.length + r.length → m (o + 2) c = (nl (ayw ar) (l ++ r) c : Int)) (hg : ∀ c, c ∈ l ++ r → gp sc c) {post : Mi → Mj → Mp → Prop} (k : ∀ m', GC x0 (cl (L ++ adl vv l r)) (nl (ayw ar) (L ++ adl vv l r)) (L ++ adl vv l r).length m' → (∀ b k, b ≠ x0 + 1 → b ≠ x0 + 2 → m' b k = m b k) → post m' J P) : Cv X d 52 [.ref x0, .ref o] m J P post := by
  refine Cv.of rfl rfl rfl (b_Bench_add_0 x0 o kx ko m J P hp post ?_)
  have hM : ∀ q, nl (ayw ar) (L ++ adl vv l r) (L.length + q) = L.length + nl (ayw ar) (l ++ r) q := fun q => by rw [nl_shift, nl_cong (adl_ay hv0)]
  have loop : ∀ (q c : Nat) (m1 : Mi), c + q = l.length + r.length → (∀ i, i < c → m1 (x0 + 1) (L.length + i) = cl (adl vv l r) i ∧ m1 (x0 + 2) (L.length + i) = (nl (ayw ar) (L ++ adl vv l r) (L.length + i) : Int)) → (∀ i, i < L.length → m1 (x0 + 1) i = m (x0 + 1) i ∧ m1 (x0 + 2) i = m (x0 + 2) i) → (∀ b k, b ≠ x0 + 1 → b ≠ x0 + 2 → m1 b k = m b k) → Rn X d 52 2 [some (.ref x0), some (.ref o), some (.int (iz (c : Int))), none] [] (SS m1 J P) (QV post) := by
    intro q
    induction q with
    | zero =>
      intro c m1 hc h1 h2 hF
      have hs : m1 o 6 = ((l.length + r.length : Nat) : Int) := (hF _ _ (by omega) (by omega)).trans h6
      refine b_Bench_add_2 x0 o c kx ko m1 J P hp post ⟨by constructor <;> omega, by rw [hs]; constructor <;> omega, fun _ => k m1 (fun a ha => ?_) hF, fun g => absurd (by rw [hs]; omega) g⟩
      rw [List.length_append, adl_len] at ha
      by_cases g : a < L.length
      · rw [cl_app g, nl_app hL g, (h2 a g).1, (h2 a g).2]
        exact hG a g
      · have e : a = L.length + (a - L.length) := by omega
        rw [e, cl_shift]
        exact h1 (a - L.length) (by omega)
    | succ q ih =>
      intro c m1 hc h1 h2 hF
      have hs : m1 o 6 = ((l.length + r.length : Nat) : Int) := (hF _ _ (by omega) (by omega)).trans h6
      have hs5 : m1 o 5 = (l.length : Int) := (hF _ _ (by omega) (by omega)).trans h5
      have hs2 : m1 x0 2 = (L.length : Int) := (hF _ _ (by omega) (by omega)).trans hcl
      have hs3 : m1 x0 3 = vv := (hF _ _ (by omega) (by omega)).trans hvv
      have en : ((c : Nat) : Int).toNat = c := by omega
      have ec : ((c : Nat) : Int) + 1 = ((c + 1 : Nat) : Int) := by omega
      have eL : ((L.length : Int) + (c : Int)).toNat = L.length + c := by omega
      have hlt : c < (l ++ r).length := by rw [List.length_append]; omega
      have hcell : m1 (o + 1) c = cl (l ++ r) c := by
        rw [hF _ _ (by omega) (by omega), cl_get hlt, ← Ro_get hrow hlt, Nat.zero_add]
      have hnxt : m1 (o + 2) c = (nl (ayw ar) (l ++ r) c : Int) := by
        rw [hF _ _ (by omega) (by omega)]
        exact hnx c (by omega)
      have hgc := hg _ (cl_mem hlt)
      unfold gp at hgc
      -- behind one cell
      have next : ∀ (w : Int), w = cl (adl vv l r) c → Rn X d 52 2 [some (.ref x0), some (.ref o), some (.int (iz ((c : Int) + 1))), none] [] (SS (mu (mu m1 (x0 + 1) (L.length + c) w) (x0 + 2) (L.length + c) ((L.length : Int) + (nl (ayw ar) (l ++ r) c : Int))) J P) (QV post) := by
        intro w hw
        rw [ec]
        refine ih (c + 1) _ (by omega) (fun i hi => ?_) (fun i hi => ?_) (fun b k g1 g2 => ?_)
        · by_cases g : i = c
          · rw [g, mu_ne _ _ (by omega), mu_at, mu_at, hM, hw]
            exact ⟨rfl, by omega⟩
          · rw [mu_ne _ _ (by omega), mu_ne _ _ (by omega), mu_ne _ _ (by omega), mu_ne _ _ (by omega)]
            exact h1 i (by omega)
        · rw [mu_ne _ _ (by omega), mu_ne _ _ (by omega), mu_ne _ _ (by omega), mu_ne _ _ (by omega)]
          exact h2 i hi
        · rw [mu_ne _ _ (by omega), mu_ne _ _ (by omega)]
          exact hF b k g1 g2
      have hadl := adl_cl (vv := vv) (l := l) (r := r) (c := c) (by omega)
      refine b_Bench_add_2 x0 o c kx ko m1 J P hp post ⟨by constructor <;> omega, by rw [hs]; constructor <;> omega, fun g => absurd g (by rw [hs]; omega), fun _ => ⟨by rw [hs2]; constructor <;> omega, fun g => absurd g (by rw [hs2]; omega), fun _ => ⟨by omega, ?_⟩⟩⟩
      rw [en, hcell, hs2, eL]
      refine ⟨by constructor <;> omega, fun g0 => ⟨by constructor <;> omega, by rw [hs5]; constructor <;> omega, fun g => ?_, fun g => ?_⟩, fun g0 => ?_⟩
      · rw [hs5] at g
        rw [if_neg (by omega)] at hadl
        rw [mu_ne _ _ (by omega), hs2, eL, mu_ne _ _ (by omega), hnxt]
        exact ⟨by omega, by omega, by omega, next _ (by rw [hadl, shm, if_neg (by omega), zor_32 (by omega)])⟩
      · rw [hs5] at g
        rw [if_pos (by omega)] at hadl
        rw [mu_ne _ _ (by omega), hs2, eL, mu_ne _ _ (by omega), hnxt]
        exact ⟨by omega, by omega, by omega, next _ (by rw [hadl, shf, if_neg (by omega)])⟩
      · rw [mu_ne _ _ (by omega), hs2, eL, mu_ne _ _ (by omega), hnxt, hs3]
        refine ⟨by omega, by omega, by omega, next _ ?_⟩
        by_cases g : c < l.length
        · rw [if_pos g] at hadl
          rw [hadl, shf, if_pos (by omega)]
        · rw [if_neg g] at hadl
          rw [hadl, shm, if_pos (by omega)]
  exact loop (l.length + r.length) 0 m (by omega) (fun i hi => absurd hi (Nat.not_lt_zero _)) (fun i hi => ⟨rfl, rfl⟩) (fun _ _ _ _ => rfl)
end CLD
