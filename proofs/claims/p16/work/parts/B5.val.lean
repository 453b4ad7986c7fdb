/-! OUT: what begins a page, and VALUES; class and reference -/
section OVL
variable {X : aX} {d : Nat} {P : Mp} {J J' : Mj} {m m' : Mi} {Sn : Nat → Nat} {sc b : Nat} {ar : Nat → Int} {nm : Nat → Int}
def W0 : Ws := ([], fun _ => 0, 0)
theorem Wb_0 : Wb 0 W0 := ⟨⟨Nat.le_refl _, Nat.le_refl _, by decide⟩, fun v => ⟨fun g => absurd g (Int.lt_irrefl 0), Int.le_refl 0⟩⟩
theorem lbC_z {z : Int} (h : 0 ≤ z) (hN : 0 < z → isN z.toNat) : zcmp (lbC z) (Int64.ofNat 0) = 0 ↔ z = 0 := by
  rw [zcmp_0]
  unfold lbC
  constructor
  · intro e
    have g4 := congrArg Int64.toInt e
    rw [i64_z] at g4
    by_cases g5 : 0 < z
    · rw [if_pos g5] at g4
      have := cN_pos (hN g5)
      omega
    · omega
  · intro e
    rw [e]
    rfl
theorem rnz_z {z : Int} (h : 0 ≤ z) (hN : 0 < z → isN z.toNat) : zcmp (if 0 < z then rN z.toNat else 0) (Int64.ofNat 0) = 0 ↔ z = 0 := by
  rw [zcmp_0]
  constructor
  · intro e
    have g4 := congrArg Int64.toInt e
    rw [i64_z] at g4
    by_cases g5 : 0 < z
    · rw [if_pos g5] at g4
      have := rN_pos (hN g5)
      omega
    · omega
  · intro e
    rw [e]
    rfl
theorem c_beginPage (hp : PP P) {post : Mi → Mj → Mp → Prop} (k : ∀ m' J', WC W0 m' J' → wcF m J m' J' → post m' J' P) : Cv X d 82 [.ref 50] m J P post := by
  have loop : ∀ (q i : Nat) (J1 : Mj), i + q = 808 → (∀ v, v < i → J1 52 v = Int64.ofNat 0) → (∀ a k, a ≠ 52 → J1 a k = J a k) → Rn X d 82 12 [some (.ref 50), some (.int (iz (i : Int)))] [] (SS (mu (mu m 50 1 0) 50 3 0) J1 P) (QV post) := by
    intro q
    induction q with
    | zero =>
      intro i J1 hi h1 h2
      refine b_Page_begin_12 i _ J1 P hp post ⟨by constructor <;> omega, fun _ => ?_, fun g => absurd (by omega) g⟩
      refine k _ J1 ⟨⟨?_, fun k hk => absurd hk (Nat.not_lt_zero _)⟩, mu_at _ _ _ _, fun v hv => ?_⟩ ⟨fun a k g1 g2 g3 => by rw [mu_ne _ _ (by omega), mu_ne _ _ (by omega)], h2⟩
      · rw [mu_ne _ _ (by omega), mu_at]; rfl
      · rw [h1 v (by omega)]; rfl
    | succ q ih =>
      intro i J1 hi h1 h2
      refine b_Page_begin_12 i _ J1 P hp post ⟨by constructor <;> omega, fun g => absurd g (by omega), fun _ => ⟨by omega, ?_⟩⟩
      rw [Int.toNat_natCast, show (i : Int) + 1 = ((i + 1 : Nat) : Int) from rfl]
      refine ih (i + 1) _ (by omega) (fun v hv => ?_) (fun a k g => (mju_ne _ _ (by omega)).trans (h2 a k g))
      by_cases e : v = i
      · rw [e, mju_at]
      · rw [mju_ne _ _ (by omega)]; exact h1 v (by omega)
  exact Cv.of rfl rfl rfl (b_Page_begin_0 m J P hp post (loop 808 0 J rfl (fun v hv => absurd hv (Nat.not_lt_zero _)) fun _ _ _ => rfl))
theorem r_beginOut (hp : PP P) {post : Mi → Mj → Mp → Prop} (k : ∀ m' J', WR W0 m' J' → wrF_ m J m' J' → post m' J' P) : Cv X d 188 [.ref 262] m J P post := by
  have loop : ∀ (q i : Nat) (m1 : Mi) (J1 : Mj), i + q = 800 → (∀ v, v < i → J1 348 v = Int64.ofNat 0 ∧ m1 349 v = 0) → m1 262 136 = 0 → m1 262 139 = 0 → wrF_ m J m1 J1 → Rn X d 188 12 [some (.ref 262), some (.int (iz (i : Int)))] [] (SS m1 J1 P) (QV post) := by
    intro q
    induction q with
    | zero =>
      intro i m1 J1 hi h1 h2 h3 h4
      refine b_Mdl_beginOut_12 i m1 J1 P hp post ⟨by constructor <;> omega, fun _ => ?_, fun g => absurd (by omega) g⟩
      refine k m1 J1 ⟨⟨h2, fun k hk => absurd hk (Nat.not_lt_zero _)⟩, h3, fun v hv => ?_⟩ h4
      exact ⟨(h1 v (by omega)).1, (h1 v (by omega)).2⟩
    | succ q ih =>
      intro i m1 J1 hi h1 h2 h3 h4
      refine b_Mdl_beginOut_12 i m1 J1 P hp post ⟨by constructor <;> omega, fun g => absurd g (by omega), fun _ => ⟨by omega, by omega, ?_⟩⟩
      rw [Int.toNat_natCast, show (i : Int) + 1 = ((i + 1 : Nat) : Int) from rfl]
      refine ih (i + 1) _ _ (by omega) (fun v hv => ?_) ((mu_ne _ _ (by omega)).trans h2) ((mu_ne _ _ (by omega)).trans h3) (wrF__trans h4 ⟨fun a k g1 g2 g3 g4 => mu_ne _ _ (by omega), fun a k g => mju_ne _ _ (by omega)⟩)
      by_cases e : v = i
      · rw [e, mju_at, mu_at]; exact ⟨rfl, rfl⟩
      · rw [mju_ne _ _ (by omega), mu_ne _ _ (by omega)]; exact h1 v (by omega)
  refine Cv.of rfl rfl rfl (b_Mdl_beginOut_0 m J P hp post ?_)
  exact loop 800 0 _ J rfl (fun v hv => absurd hv (Nat.not_lt_zero _)) (by rw [mu_ne _ _ (by omega), mu_at]) (mu_at _ _ _ _) ⟨fun a k g1 g2 g3 g4 => by rw [mu_ne _ _ (by omega), mu_ne _ _ (by omega)], fun _ _ _ => rfl⟩
/-- the NAMES of all VARIABLES of an Equation -/
def nmL (nm : Nat → Int) (vm : Nat) : Nat → Int := fun v => if v < vm then nm v else 0
theorem c_nameAll {o vm : Nat} (hp : PP P) (ko : am_kd an_K o = some (.inl 8)) (ho : o + 5 ≠ 52) (h : WC W0 m J) (hv : m o 7 = (vm : Int)) (hvm : vm ≤ 8) (hJ : ∀ v, v < vm → J (o + 5) v = cN (nm v).toNat ∧ 0 < nm v) {post : Mi → Mj → Mp → Prop} (k : ∀ J', WC ([], nmL nm vm, 0) m J' → (∀ a k, a ≠ 52 → J' a k = J a k) → post m J' P) : Cv X d 83 [.ref 50, .ref o] m J P post := by
  have loop : ∀ (q i : Nat) (J1 : Mj), i + q = vm → (∀ v, v < i → J1 52 v = cN (nm v).toNat) → (∀ v, i ≤ v → J1 52 v = J 52 v) → (∀ a k, a ≠ 52 → J1 a k = J a k) → Rn X d 83 2 [some (.ref 50), some (.ref o), some (.int (iz (i : Int)))] [] (SS m J1 P) (QV post) := by
    intro q
    induction q with
    | zero =>
      intro i J1 hi h1 h2 h3
      refine b_Page_nameAll_2 o i ko m J1 P hp post ?_
      rw [hv]
      refine ⟨by constructor <;> omega, by constructor <;> omega, fun _ => ?_, fun g => absurd (by omega) g⟩
      refine k J1 ⟨h.1, h.2.1, fun v hv => ?_⟩ h3
      show J1 52 v = lbC (nmL nm vm v)
      unfold nmL
      by_cases g : v < vm
      · rw [if_pos g, h1 v (by omega)]
        unfold lbC
        rw [if_pos (hJ v g).2]
      · rw [if_neg g, h2 v (by omega)]
        exact h.2.2 v hv
    | succ q ih =>
      intro i J1 hi h1 h2 h3
      refine b_Page_nameAll_2 o i ko m J1 P hp post ?_
      rw [hv]
      refine ⟨by constructor <;> omega, by constructor <;> omega, fun g => absurd g (by omega), fun _ => ⟨by omega, by omega, ?_⟩⟩
      rw [Int.toNat_natCast, show (i : Int) + 1 = ((i + 1 : Nat) : Int) from rfl]
      refine ih (i + 1) _ (by omega) (fun v hv => ?_) (fun v hv => (mju_ne _ _ (by omega)).trans (h2 v (by omega))) (fun a k g => (mju_ne _ _ (by omega)).trans (h3 a k g))
      by_cases e : v = i
      · rw [e, mju_at, h3 _ _ ho, (hJ i (by omega)).1]
      · rw [mju_ne _ _ (by omega)]; exact h1 v (by omega)
  exact Cv.of rfl rfl rfl (b_Page_nameAll_0 o ko m J P hp post (loop vm 0 J (by omega) (fun v hv => absurd hv (Nat.not_lt_zero _)) (fun _ _ => rfl) fun _ _ _ => rfl))
theorem Wb_nm {vm : Nat} (hJ : ∀ v, v < vm → isN (nm v).toNat ∧ 0 < nm v) : Wb 0 ([], nmL nm vm, 0) := ⟨⟨Nat.le_refl _, Nat.le_refl _, by decide⟩, fun v => by
  show (0 < nmL nm vm v → isN (nmL nm vm v).toNat) ∧ -((0 : Nat) : Int) ≤ nmL nm vm v
  unfold nmL
  split
  · rename_i g
    have := hJ v g
    exact ⟨fun _ => this.1, by omega⟩
  · exact ⟨fun g => absurd g (Int.lt_irrefl 0), Int.le_refl 0⟩⟩
/-- VALUES, one behind the other -/
def RCl (x : Nat) (m : Mi) : Nat → List (List Int) → Prop
  | _, [] => True
  | f, w :: vs => RC x f w m ∧ RCl x m (f + w.length) vs
def RDl (x : Nat) (m : Mi) : Nat → List (List Int) → Prop
  | _, [] => True
  | f, w :: vs => RD x f w m ∧ RDl x m (f + w.length) vs
def tln : List (List Int) → Nat
  | [] => 0
  | w :: vs => w.length + tln vs
theorem RCl_fr {x : Nat} : ∀ {vs : List (List Int)} {f : Nat}, RCl x m f vs → (∀ k, m' x k = m x k) → RCl x m' f vs
  | [], _, _, _ => trivial
  | w :: vs, _, h, g => ⟨RC_fr h.1 fun _ _ => g _, RCl_fr h.2 g⟩
theorem RDl_fr {x : Nat} : ∀ {vs : List (List Int)} {f : Nat}, RDl x m f vs → (∀ k, m' x k = m x k) → RDl x m' f vs
  | [], _, _, _ => trivial
  | w :: vs, _, h, g => ⟨RD_fr h.1 fun _ _ => g _, RDl_fr h.2 g⟩
def okw (sc : Nat) (ar : Nat → Int) (w : List Int) : Prop := ctt (ayw ar) w = some 1 ∧ w.length ≤ 200 ∧ ∀ c, c ∈ w → gq sc c
def nvL (nm : Nat → Int) : List (List Int) → Nat → (Nat → Int) → Nat → Int
  | [], _, L => L
  | w :: vs, v, L => nvL nm vs (v + 1) (if cl w 0 < 0 ∧ L (-1 - cl w 0).toNat = 0 then lup L (-1 - cl w 0).toNat (nm v) else L)
def shV (nm : Nat → Int) (ay : Int → Nat) (Sn : Nat → Nat) : List (List Int) → Nat → Ws → Ws
  | [], _, s => s
  | w :: vs, v, s => shV nm ay Sn vs (v + 1) (wtm ay Sn w [] (s.1 ++ ((if v = 0 then [] else [44]) ++ (nbs (nm v).toNat ++ [61])), s.2.1, s.2.2))
theorem cl_0 {w : List Int} (h : 0 < w.length) : cl w 0 ∈ w := cl_mem h
theorem c_behind {x nx f : Nat} {w : List Int} (hp : PP P) (kb : am_kd an_K b = some (.inl 10)) (hA : BA b sc ar m) (hs : sc ≤ 16) (kx : am_kd an_K x = some (.inr (0, nx))) (bx : nx ≤ 100000) (hf : f + w.length ≤ nx) (hg : ∀ c, c ∈ w → gq sc c) (hct : ctt (ayw ar) w = some 1) (hR : RC x f w m) {post : Int → Mi → Mj → Mp → Prop} (k : post ((f + w.length : Nat) : Int) m J P) : Ci X (d + 1) 96 [.ref b, .ref x, .int (iz (f : Int))] m J P post := by
  have loop : ∀ (r u : List Int) (q : Nat), w = u ++ r → ctt (ayw ar) r = some q → Rn X (d + 1) 96 5 [some (.ref b), some (.ref x), some (.int (iz (f : Int))), some (.int (iz ((f + u.length : Nat) : Int))), some (.int (iz (q : Int)))] [] (SS m J P) (QI post) := by
    intro r
    induction r with
    | nil =>
      intro u q e hq
      have q0 := ct_nil.mp hq
      rw [List.append_nil] at e
      subst q0
      rw [← e]
      exact b_Book_behind_5 b x nx f _ _ kb kx bx m J P hp post ⟨by decide, fun _ => k, fun g => absurd (by decide) g⟩
    | cons c r ih =>
      intro u q e hq
      obtain ⟨j, j1, j2, j3⟩ := ct_cons.mp hq
      have ll : w.length = u.length + (r.length + 1) := by rw [e, List.length_append, List.length_cons]
      have hpl := hR u.length (by omega)
      rw [cl_of e] at hpl
      have hgc := hg c (by rw [e]; exact List.mem_append_right _ List.mem_cons_self)
      have hg1 := hgc.1
      have hg2 := hgc.2
      have hjl := ct_le j1
      refine b_Book_behind_5 b x nx f _ _ kb kx bx m J P hp post ⟨by constructor <;> omega, fun g => absurd g (by omega), fun _ => ⟨by constructor <;> omega, by constructor <;> omega, fun g => absurd g (by omega), fun _ => ⟨by omega, ?_⟩⟩⟩
      rw [Int.toNat_natCast]
      generalize hz : m x (f + u.length) = z at hpl ⊢
      have hay : ayw ar z = ayw ar c := by
        unfold ayw
        by_cases g : c < 0
        · rw [hpl.1 g]
        · obtain ⟨z1, z2⟩ := hpl.2 (by omega)
          rw [if_neg g, if_neg (by omega), z2, show c % 32 = c by omega]
      have hgz : gd sc z := by
        by_cases g : c < 0
        · have := hpl.1 g
          exact ⟨by omega, by omega, fun _ => by omega⟩
        · obtain ⟨z1, z2⟩ := hpl.2 (by omega)
          exact ⟨by omega, by omega, fun _ => by omega⟩
      refine c_args hp kb hA hs hgz ⟨hp, ?_⟩
      rw [hay]
      have := ih (u ++ [c]) j (by rw [e, List.append_assoc]; rfl) j1
      rw [List.length_append, List.length_singleton] at this
      rw [show ((f + u.length : Nat) : Int) + 1 = ((f + (u.length + 1) : Nat) : Int) by omega, show (q : Int) + ((ayw ar c : Int) - 1) = (j : Int) by omega]
      exact this
  refine Ci.of rfl rfl rfl (b_Book_behind_0 b x nx f kb kx bx m J P hp post ?_)
  exact loop w [] 1 rfl hct
end OVL
