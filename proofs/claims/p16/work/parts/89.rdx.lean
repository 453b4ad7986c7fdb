/-! the reference: redex() -/
section RDX
variable {ay : Int → Nat}
/-- what stands about a part: SYMBOLS, innermost first, each with its ARGUMENTS ahead and behind -/
def fpre : List (Int × List Int × List Int) → List Int
  | [] => []
  | (s, A, _) :: F => fpre F ++ (s :: A)
def fpos : List (Int × List Int × List Int) → List Int
  | [] => []
  | (_, _, B) :: F => B ++ fpos F
def mpre (ay : Int → Nat) : List (Int × List Int × List Int) → List Int
  | [] => []
  | (s, _, B) :: F => mpre ay F ++ (s :: mi ay B)
def mpos (ay : Int → Nat) : List (Int × List Int × List Int) → List Int
  | [] => []
  | (_, A, _) :: F => mi ay A ++ mpos ay F
def fok (ay : Int → Nat) : List (Int × List Int × List Int) → Prop
  | [] => True
  | (s, A, B) :: F => (0 ≤ s ∧ ∃ a b, ctt ay A = some a ∧ ctt ay B = some b ∧ ay s = a + 1 + b) ∧ fok ay F
theorem ct_mid {t A B : List Int} {a b : Nat} (hA : ctt ay A = some a) (ht : ctt ay t = some 1) (hB : ctt ay B = some b) : ctt ay (A ++ (t ++ B)) = some (a + 1 + b) := by
  rw [ct_app (ct_app hB ht) hA]; congr 1; omega
theorem f_fill {t : List Int} (ht : ctt ay t = some 1) : ∀ {F : List (Int × List Int × List Int)}, fok ay F → ctt ay (fpre F ++ (t ++ fpos F)) = some 1 ∧ mi ay (fpre F ++ (t ++ fpos F)) = mpre ay F ++ (mi ay t ++ mpos ay F)
  | [], _ => by
    rw [show fpre ([] : List (Int × List Int × List Int)) = [] from rfl, show fpos ([] : List (Int × List Int × List Int)) = [] from rfl, show mpre ay [] = [] from rfl, show mpos ay [] = [] from rfl, List.append_nil, List.append_nil]
    exact ⟨ht, rfl⟩
  | (s, A, B) :: F, h => by
    obtain ⟨⟨_, a, b, hA, hB, hs⟩, hF⟩ := h
    have h1 : ctt ay (A ++ (t ++ B)) = some (ay s) := by rw [ct_mid hA ht hB, hs]
    obtain ⟨g1, g2⟩ := f_fill (t := s :: (A ++ (t ++ B))) (ct_one h1) hF
    have e1 : fpre ((s, A, B) :: F) ++ (t ++ fpos ((s, A, B) :: F)) = fpre F ++ ((s :: (A ++ (t ++ B))) ++ fpos F) := by
      rw [fpre, fpos]; simp
    rw [e1, g2]
    refine ⟨g1, ?_⟩
    rw [mi_one h1, mi_app hA, mi_app ht, mpre, mpos]
    simp
variable {X : aX} {d : Nat} {P : Mp} {J : Mj} {m : Mi} {sc N : Nat} {ar : Nat → Int} {Lf Rf : Nat → List Int} {x y : Nat} {T : List Int}
/-- RULES turned round -/
def Lmi (ar : Nat → Int) (Lf : Nat → List Int) (u : Nat) : List Int := mi (ayw ar) (Lf u)
theorem rlx_pre (hO : Rf_ok sc ar N Lf Rf) {t z z' : List Int} (ht : ctt (ayw ar) t = some 1) {w : Nat} (hw : w < N) : Mtc (ayw ar) (Lf w) (t ++ z) ↔ Mtc (ayw ar) (Lmi ar Lf w) (mi (ayw ar) t ++ z') := by
  have hL := (hO w hw).1
  constructor
  · intro h
    exact Mtc_ext ((Mtc_mi ayw_v hL ht).mpr (Mtc_loc ayw_v hL ht h))
  · intro h
    exact Mtc_ext ((Mtc_mi ayw_v hL ht).mp (Mtc_loc ayw_v (ct_mi hL) (ct_mi ht) h))
/-- what redex() may change -/
def rxF (m m' : Mi) : Prop := ∀ a k, a ≠ 298 → a ≠ 299 → a ≠ 300 → a ≠ 301 → ¬ (a = 262 ∧ k = 67) → m' a k = m a k
theorem rxF_trans {m m' m'' : Mi} (h : rxF m m') (h2 : rxF m' m'') : rxF m m'' := fun a k g1 g2 g3 g4 g5 => (h2 a k g1 g2 g3 g4 g5).trans (h a k g1 g2 g3 g4 g5)
/-- what was found: at the part t about which F stands, by the RULE u -/
def Fnd (ar : Nat → Int) (N : Nat) (Lf Rf : Nat → List Int) (T : List Int) (Q : Option (List Int × List Int × List Int)) (p : Int) (m' : Mi) : Prop := ∃ F t u σ z, fok (ayw ar) F ∧ ctt (ayw ar) t = some 1 ∧ T = fpre F ++ (t ++ fpos F) ∧ p = ((fpre F).length : Int) ∧ u < N ∧ m' 262 67 = (u : Int) ∧ tv (ayw ar) σ ∧ t ++ fpos F = sb σ (Lf u) ++ z ∧ BR m' σ T (Lf u) ∧ Q = some ((mpre (ayw ar) F).reverse, sb (fun c => mi (ayw ar) (σ c)) (mi (ayw ar) (Rf u)), mpos (ayw ar) F) ∧ t = sb σ (Lf u) ∧ z = fpos F
/-- the state of redex(): rows and RULES stand -/
def Rst (sc : Nat) (ar : Nat → Int) (N : Nat) (Lf Rf : Nat → List Int) (x : Nat) (T : List Int) (m : Mi) : Prop := RAr sc ar m ∧ RyM N Lf Rf m ∧ Ro m x 0 T ∧ m 262 61 = (T.length : Int)
theorem Rst_fr {m' : Mi} (hx : x = 296 ∨ x = 297) (h : Rst sc ar N Lf Rf x T m) (f : rxF m m') : Rst sc ar N Lf Rf x T m' := by
  obtain ⟨h1, h2, h3, h4⟩ := h
  refine ⟨RAr_fr h1 fun k => f _ _ (by decide) (by decide) (by decide) (by decide) (by omega), RyM_fr h2 (f _ _ (by decide) (by decide) (by decide) (by decide) (by omega)) (fun a k g => f _ _ (by omega) (by omega) (by omega) (by omega) (by omega)), Ro_fr h3 fun k _ _ => f _ _ (by omega) (by omega) (by omega) (by omega) (by omega), (f _ _ (by decide) (by decide) (by decide) (by decide) (by omega)).trans h4⟩
/-- a SYMBOL (or VARIABLE) is closed: t at F, o SYMBOLS stand open about it -/
theorem r_close {s1 : Nat} {Q : Option (List Int × List Int × List Int)} (hp : PP P) (hTP : TP P x y) (hO : Rf_ok sc ar N Lf Rf) (hl : T.length ≤ 200) (hg : ∀ c, c ∈ T → gp sc c) (h1000 : s1 ≤ 1000) {F : List (Int × List Int × List Int)} {t : List Int} (hF : fok (ayw ar) F) (ht : ctt (ayw ar) t = some 1) (eT : T = fpre F ++ (t ++ fpos F)) (hS : Rst sc ar N Lf Rf x T m) {o : Nat} (ho : o ≤ (fpre F).length) (hst : m 298 o = ((fpre F).length : Int)) (hlf : m 299 o = 0) (hop : 0 < o → 1 ≤ m 299 (o - 1) ∧ m 299 (o - 1) ≤ 4) {c0 : Int} {a0 : List Int} (et : t = c0 :: a0) (hQ : s1 ≤ (fpre F).length + t.length - 1 → sn (ayw ar) N (Lmi ar Lf) (Lmi ar Rf) (c0 :: (mpre (ayw ar) F).reverse) (mi (ayw ar) a0 ++ mpos (ayw ar) F) = Q) {post : Int → Mi → Mj → Mp → Prop} (kf : ∀ p m', Fnd ar N Lf Rf T Q p m' → rxF m m' → post p m' J P) (kn : (s1 ≤ (fpre F).length + t.length - 1 → sn (ayw ar) N (Lmi ar Lf) (Lmi ar Rf) (mpre (ayw ar) F).reverse (mi (ayw ar) t ++ mpos (ayw ar) F) = Q) → ∀ m', (∀ j, j < o → m' 298 j = m 298 j) → (∀ j, j + 1 < o → m' 299 j = m 299 j) → (0 < o → m' 299 (o - 1) = m 299 (o - 1) - 1) → rxF m m' → Rn X (d + 3) 176 55 [some (.ref 262), some (.int (iz (s1 : Int))), some (.int (iz (o : Int))), some (.int (iz (((fpre F).length + t.length - 1 : Nat) : Int))), some (.int (iz 1)), none] [] (SS m' J P) (QI post)) : Rn X (d + 3) 176 55 [some (.ref 262), some (.int (iz (s1 : Int))), some (.int (iz ((o + 1 : Nat) : Int))), some (.int (iz (((fpre F).length + t.length - 1 : Nat) : Int))), some (.int (iz 1)), none] [] (SS m J P) (QI post) := by
  obtain ⟨kx, ky⟩ := TP_kd hTP
  have hxx : x = 296 ∨ x = 297 := by have := hTP.2.2; omega
  have hTl := congrArg List.length eT
  rw [List.length_append, List.length_append] at hTl
  have htp := ct_ne ht
  have e1 : (((o + 1 : Nat) : Int) - 1).toNat = o := by omega
  have e1' : (((o + 1 : Nat) : Int) + (-1)).toNat = o := by omega
  have e1i : ((o + 1 : Nat) : Int) + (-1) = (o : Int) := by omega
  have ep : (((fpre F).length : Nat) : Int).toNat = (fpre F).length := by omega
  obtain ⟨hA, hK, hrow, hsz⟩ := hS
  have hc0 := Ro_mem (p := fpre F) (c := c0) (q := a0 ++ fpos F) hrow (by rw [eT, et]; rfl)
  rw [Nat.zero_add] at hc0
  have hgt : gp sc c0 := hg c0 (by rw [eT, et]; simp)
  have b1 := hgt.1
  have b2 := hgt.2.1
  -- on to the SYMBOL about it
  have up : ∀ (m2 : Mi), rxF m m2 → (∀ j, j < o → m2 298 j = m 298 j) → (∀ j, j < o → m2 299 j = m 299 j) → (s1 ≤ (fpre F).length + t.length - 1 → sn (ayw ar) N (Lmi ar Lf) (Lmi ar Rf) (mpre (ayw ar) F).reverse (mi (ayw ar) t ++ mpos (ayw ar) F) = Q) → Rn X (d + 3) 176 136 [some (.ref 262), some (.int (iz (s1 : Int))), some (.int (iz (o : Int))), some (.int (iz (((fpre F).length + t.length - 1 : Nat) : Int))), some (.int (iz 1)), some (.int (iz ((fpre F).length : Int)))] [] (SS m2 J P) (QI post) := by
    intro m2 f2 f3 f4 hQ2
    by_cases h0 : o = 0
    · subst h0
      exact b_Mdl_redex_136 s1 _ _ 1 _ m2 J P hp post ⟨by constructor <;> omega, fun _ => kn hQ2 m2 f3 (fun j hj => f4 j (by omega)) (fun h => absurd h (by omega)) f2, fun h => absurd (by omega) h⟩
    · have e2 : ((o : Nat) : Int) - 1 = ((o - 1 : Nat) : Int) := by omega
      have e3 : ((o - 1 : Nat) : Int).toNat = o - 1 := by omega
      refine b_Mdl_redex_136 s1 _ _ 1 _ m2 J P hp post ⟨by constructor <;> omega, fun h => absurd h (by omega), fun _ => ⟨by omega, by omega, ?_⟩⟩
      rw [e2, e3, f4 (o - 1) (by omega)]
      exact kn hQ2 _ (fun j hj => (mu_ne _ _ (by omega)).trans (f3 j hj)) (fun j hj => (mu_ne _ _ (by omega)).trans (f4 j (by omega))) (fun _ => mu_at _ _ _ _) (rxF_trans f2 fun a k g1 g2 g3 g4 g5 => mu_ne _ _ (by omega))
  -- no RULE
  have mv : (rlx (ayw ar) (Lmi ar Lf) (Lmi ar Rf) N 0 (c0 :: (mi (ayw ar) a0 ++ mpos (ayw ar) F)) = none) → mi (ayw ar) t = c0 :: mi (ayw ar) a0 → (s1 ≤ (fpre F).length + t.length - 1 → sn (ayw ar) N (Lmi ar Lf) (Lmi ar Rf) (mpre (ayw ar) F).reverse (mi (ayw ar) t ++ mpos (ayw ar) F) = Q) := fun hn em h => by
    have := hQ h
    rw [sn, hn] at this
    rw [em]
    exact this
  have em : mi (ayw ar) t = c0 :: mi (ayw ar) a0 := by
    rw [et] at ht ⊢
    obtain ⟨j, g1, g2, g3⟩ := ct_cons.mp ht
    exact mi_one (by rw [g1]; congr 1; omega)
  refine b_Mdl_redex_55 s1 _ _ 1 m J P hp post ⟨zr1, fun h => absurd h (by decide), fun _ => ⟨by constructor <;> omega, fun h => absurd h (by omega), fun _ => ⟨by omega, ?_⟩⟩⟩
  rw [e1, e1', e1i, hlf, hst]
  refine ⟨zr0, fun h => absurd rfl h, fun _ => ⟨by omega, by constructor <;> omega, by constructor <;> omega, fun hlt => ?_, fun hge => ⟨x, hTP.1, kx, by omega, ?_⟩⟩⟩
  · exact up m (fun _ _ _ _ _ _ _ => rfl) (fun _ _ => rfl) (fun _ _ => rfl) (fun h => absurd h (by omega))
  · rw [ep, hc0]
    have hs1 : s1 ≤ (fpre F).length + t.length - 1 := by omega
    refine ⟨by constructor <;> omega, fun hn => ?_, fun hn => ?_⟩
    · refine up m (fun _ _ _ _ _ _ _ => rfl) (fun _ _ => rfl) (fun _ _ => rfl) (mv ?_ em)
      rw [rlx_none_iff]
      intro v _ h2 ⟨τ, z, g1, g2⟩
      obtain ⟨s, l, e, hs⟩ := (hO v (by omega)).2.2.2.1
      have : ctt (ayw ar) l = some (ayw ar s) := by
        have := (hO v (by omega)).1
        rw [e] at this
        obtain ⟨j, q1, q2, q3⟩ := ct_cons.mp this
        rw [q1]; congr 1; omega
      rw [Lmi, e, mi_one this, sb_cons, if_neg (by omega)] at g2
      injection g2 with g3
      omega
    · refine r_ruleAt (t := t) (z0 := fpos F) hp hTP hA hK hO hl hg eT rfl ht hrow (fun u σ z m2 w1 w2 w3 w4 w5 w6 => ⟨hp, ?_⟩) (fun w2 m2 w6 => ⟨hp, ?_⟩)
      · -- found
        have hN16 := hK.1.1
        refine ⟨by rw [mu_at]; constructor <;> omega, fun h => absurd h (by rw [mu_at]; omega), fun _ => ?_⟩
        have hL := (hO u w1).1
        obtain ⟨e5, e6⟩ := ct_pf ht (ct_sb ayw_v w3 hL) w4
        refine kf _ _ ⟨F, t, u, σ, z, hF, ht, eT, rfl, w1, mu_at _ _ _ _, w3, w4, fun c h1 h2 => ?_, ?_, e5, e6.symm⟩ (fun a k g1 g2 g3 g4 g5 => by rw [mu_ne _ _ g5]; exact w6 a k g3 g4)
        · obtain ⟨p, q, q1, q2, q3⟩ := w5 c h1 h2
          exact ⟨p, q, q1, by rw [mu_ne _ _ (by omega)]; exact q2, by rw [mu_ne _ _ (by omega)]; exact q3⟩
        · rw [← hQ hs1, sn]
          have hx : rlx (ayw ar) (Lmi ar Lf) (Lmi ar Rf) N 0 (c0 :: (mi (ayw ar) a0 ++ mpos (ayw ar) F)) = some (sb (fun c => mi (ayw ar) (σ c)) (mi (ayw ar) (Rf u)), mpos (ayw ar) F) := by
            have e7 : c0 :: (mi (ayw ar) a0 ++ mpos (ayw ar) F) = mi (ayw ar) t ++ mpos (ayw ar) F := by rw [em]; rfl
            have e8 : mi (ayw ar) t = sb (fun c => mi (ayw ar) (σ c)) (Lmi ar Lf u) := by rw [e5]; exact mi_sb ayw_v w3 hL
            have hM : Mtc (ayw ar) (Lmi ar Lf u) (mi (ayw ar) t ++ mpos (ayw ar) F) := ⟨_, _, tv_mi w3, by rw [e8]⟩
            rw [e7, rlx_at (v := u) (Nat.zero_le _) (by omega) (fun w _ h g => w2 w h ((rlx_pre hO ht (by omega)).mpr g)) hM]
            exact Mr_some (tv_mi w3) (by rw [e8]) (fun c hc hn' => (mi_mem hL c).mpr ((hO u w1).2.2.1 c ((mi_mem (hO u w1).2.1 c).mp hc) hn'))
          rw [hx]
      · refine ⟨by rw [mu_at]; exact zrm, fun _ => ?_, fun h => absurd (by rw [mu_at]; decide) h⟩
        refine up _ (fun a k g1 g2 g3 g4 g5 => by rw [mu_ne _ _ g5]; exact w6 a k g3 g4) (fun j hj => by rw [mu_ne _ _ (by omega)]; exact w6 _ _ (by decide) (by decide)) (fun j hj => by rw [mu_ne _ _ (by omega)]; exact w6 _ _ (by decide) (by decide)) (mv ?_ em)
        rw [rlx_none_iff]
        intro v _ h2 g
        have e7 : c0 :: (mi (ayw ar) a0 ++ mpos (ayw ar) F) = mi (ayw ar) t ++ mpos (ayw ar) F := by rw [em]; rfl
        rw [e7] at g
        exact w2 v (by omega) ((rlx_pre hO ht (by omega)).mpr g)
/-- into a part and through it; q TERMS under the SYMBOL that is open last -/
theorem r_scan {s1 : Nat} {Q : Option (List Int × List Int × List Int)} (hp : PP P) (hTP : TP P x y) (hO : Rf_ok sc ar N Lf Rf) (hl : T.length ≤ 200) (hg : ∀ c, c ∈ T → gp sc c) (h1000 : s1 ≤ 1000) {post : Int → Mi → Mj → Mp → Prop} : ∀ (n : Nat) (F : List (Int × List Int × List Int)) (t : List Int) (o : Nat) (m : Mi), t.length ≤ n → fok (ayw ar) F → ctt (ayw ar) t = some 1 → T = fpre F ++ (t ++ fpos F) → Rst sc ar N Lf Rf x T m → o ≤ (fpre F).length → (0 < o → 1 ≤ m 299 (o - 1) ∧ m 299 (o - 1) ≤ 4) → (s1 ≤ (fpre F).length ∨ (fpre F).length + t.length ≤ s1) → (s1 ≤ (fpre F).length → sn (ayw ar) N (Lmi ar Lf) (Lmi ar Rf) ((mi (ayw ar) t).reverse ++ (mpre (ayw ar) F).reverse) (mpos (ayw ar) F) = Q) → (∀ p m', Fnd ar N Lf Rf T Q p m' → rxF m m' → post p m' J P) → ((s1 ≤ (fpre F).length → sn (ayw ar) N (Lmi ar Lf) (Lmi ar Rf) (mpre (ayw ar) F).reverse (mi (ayw ar) t ++ mpos (ayw ar) F) = Q) → ∀ m', (∀ j, j < o → m' 298 j = m 298 j) → (∀ j, j + 1 < o → m' 299 j = m 299 j) → (0 < o → m' 299 (o - 1) = m 299 (o - 1) - 1) → rxF m m' → Rn X (d + 3) 176 55 [some (.ref 262), some (.int (iz (s1 : Int))), some (.int (iz (o : Int))), some (.int (iz (((fpre F).length + t.length - 1 : Nat) : Int))), some (.int (iz 1)), none] [] (SS m' J P) (QI post)) → Rn X (d + 3) 176 4 [some (.ref 262), some (.int (iz (s1 : Int))), some (.int (iz (o : Int))), some (.int (iz ((fpre F).length : Int))), none, none] [] (SS m J P) (QI post) := by
  obtain ⟨kx, ky⟩ := TP_kd hTP
  have hxx : x = 296 ∨ x = 297 := by have := hTP.2.2; omega
  intro n
  induction n with
  | zero =>
    intro F t o m h _ ht
    have := ct_ne ht
    omega
  | succ n ih =>
    intro F t o m hn hF ht eT hS ho hop hmode hQ kf kn
    cases t with
    | nil => exact absurd (ct_nil.mp ht) (by decide)
    | cons c a =>
      have ha : ctt (ayw ar) a = some (ayw ar c) := by
        obtain ⟨j, g1, g2, g3⟩ := ct_cons.mp ht
        rw [g1]; congr 1; omega
      have hTl := congrArg List.length eT
      rw [List.length_append, List.length_append, List.length_cons] at hTl
      rw [List.length_cons] at hn
      obtain ⟨hA, hK, hrow, hsz⟩ := hS
      have hc0 := Ro_mem (p := fpre F) (c := c) (q := a ++ fpos F) hrow (by rw [eT]; rfl)
      rw [Nat.zero_add] at hc0
      have hgc : gp sc c := hg c (by rw [eT]; simp)
      have b1 := hgc.1
      have b2 := hgc.2.1
      have h4 := ayw_RA hA hgc
      have eo : ((o : Nat) : Int).toNat = o := by omega
      have ep : (((fpre F).length : Nat) : Int).toNat = (fpre F).length := by omega
      have eo1 : ((o : Nat) : Int) + 1 = ((o + 1 : Nat) : Int) := by omega
      have em : mi (ayw ar) (c :: a) = c :: mi (ayw ar) a := mi_one ha
      -- with the SYMBOL laid on the open ones
      have go : ∀ (v : Int), v = ((ayw ar c : Nat) : Int) → Rn X (d + 3) 176 55 [some (.ref 262), some (.int (iz (s1 : Int))), some (.int (iz ((o + 1 : Nat) : Int))), some (.int (iz ((fpre F).length : Int))), some (.int (iz 1)), none] [] (SS (mu (mu m 298 o ((fpre F).length : Int)) 299 o v) J P) (QI post) := by
        intro v hv
        have F0 : rxF m (mu (mu m 298 o ((fpre F).length : Int)) 299 o v) := fun a' k g1 g2 g3 g4 g5 => by rw [mu_ne _ _ (by omega), mu_ne _ _ (by omega)]
        have hS0 := Rst_fr hxx ⟨hA, hK, hrow, hsz⟩ F0
        -- the ARGUMENTS from B on, A being through
        have seq : ∀ (j : Nat) (A B : List Int) (m2 : Mi), a = A ++ B → ctt (ayw ar) B = some j → ctt (ayw ar) A = some (ayw ar c - j) → j ≤ ayw ar c → rxF m m2 → (∀ i, i ≤ o → m2 298 i = mu (mu m 298 o ((fpre F).length : Int)) 299 o v 298 i) → (∀ i, i < o → m2 299 i = m 299 i) → m2 299 o = (j : Int) → (s1 ≤ (fpre F).length → sn (ayw ar) N (Lmi ar Lf) (Lmi ar Rf) ((mi (ayw ar) B).reverse ++ (c :: (mpre (ayw ar) F).reverse)) (mi (ayw ar) A ++ mpos (ayw ar) F) = Q) → Rn X (d + 3) 176 55 [some (.ref 262), some (.int (iz (s1 : Int))), some (.int (iz ((o + 1 : Nat) : Int))), some (.int (iz (((fpre F).length + A.length : Nat) : Int))), some (.int (iz 1)), none] [] (SS m2 J P) (QI post) := by
          intro j
          induction j with
          | zero =>
            intro A B m2 e hB hA2 _ f2 f3 f4 f5 hQ2
            have := ct_zero hB
            subst this
            rw [List.append_nil] at e
            subst e
            have hS2 := Rst_fr hxx ⟨hA, hK, hrow, hsz⟩ f2
            have ek : (fpre F).length + a.length = (fpre F).length + (c :: a).length - 1 := by rw [List.length_cons]; omega
            rw [ek]
            have hst : m2 298 o = ((fpre F).length : Int) := by rw [f3 o (Nat.le_refl _), mu_ne _ _ (by omega), mu_at]
            refine r_close (F := F) (t := c :: a) (m := m2) (c0 := c) (a0 := a) hp hTP hO hl hg h1000 hF ht eT hS2 ho hst f5 (fun h => by rw [f4 _ (by omega)]; exact hop h) rfl (fun h => hQ2 ?_) (fun p m' w1 w2 => kf p m' w1 (rxF_trans f2 w2)) (fun w0 m' w1 w2 w3 w4 => kn (fun h => w0 (by rw [List.length_cons]; omega)) m' (fun i hi => ?_) (fun i hi => ?_) (fun h => ?_) (rxF_trans f2 w4))
            · rw [List.length_cons] at h
              rcases hmode with hm | hm
              · exact hm
              · rw [List.length_cons] at hm; omega
            · rw [w1 i hi, f3 i (by omega), mu_ne _ _ (by omega), mu_ne _ _ (by omega)]
            · rw [w2 i hi, f4 i (by omega)]
            · rw [w3 h, f4 _ (by omega)]
          | succ j jh =>
            intro A B m2 e hB hA2 hj f2 f3 f4 f5 hQ2
            obtain ⟨t1, B2, eB, ht1, hB2⟩ := ct_first hB
            subst eB
            have ht1p := ct_ne ht1
            have hal := congrArg List.length e
            rw [List.length_append, List.length_append] at hal
            have e1 : (((o + 1 : Nat) : Int) - 1).toNat = o := by omega
            have hcs : 0 ≤ c := Classical.byContradiction fun h => by
              have := ayw_v (ar := ar) c (by omega)
              omega
            -- nothing to close: the next place
            refine b_Mdl_redex_55 s1 _ _ 1 m2 J P hp post ⟨zr1, fun h => absurd h (by decide), fun _ => ⟨by constructor <;> omega, fun h => absurd h (by omega), fun _ => ⟨by omega, ?_⟩⟩⟩
            rw [e1, f5]
            refine ⟨by constructor <;> omega, fun _ => ?_, fun h => absurd (by omega) h⟩
            refine b_Mdl_redex_55 s1 _ _ 0 m2 J P hp post ⟨zr0, fun _ => ?_, fun h => absurd rfl h⟩
            have ek : (((fpre F).length + A.length : Nat) : Int) + 1 = ((fpre ((c, A, B2) :: F)).length : Int) := by rw [fpre, List.length_append, List.length_cons]; omega
            have ekn : (fpre ((c, A, B2) :: F)).length = (fpre F).length + A.length + 1 := by rw [fpre, List.length_append, List.length_cons]; omega
            rw [ek]
            refine ih ((c, A, B2) :: F) t1 (o + 1) m2 (by omega) ⟨⟨hcs, _, _, hA2, hB2, by omega⟩, hF⟩ ht1 (by rw [eT, e, fpre, fpos]; simp) (Rst_fr hxx ⟨hA, hK, hrow, hsz⟩ f2) (by omega) (fun _ => by rw [show o + 1 - 1 = o by omega, f5]; omega) ?_ (fun h => ?_) (fun p m' w1 w2 => kf p m' w1 (rxF_trans f2 w2)) (fun w0 m' w1 w2 w3 w4 => ?_)
            · rw [ekn]
              rcases hmode with hm | hm
              · left; omega
              · right; rw [List.length_cons] at hm; omega
            · have hm : s1 ≤ (fpre F).length := by
                rcases hmode with hm | hm
                · exact hm
                · rw [List.length_cons] at hm; omega
              rw [← hQ2 hm, mi_app ht1, mpre, mpos]
              simp
            · have ek2 : (fpre ((c, A, B2) :: F)).length + t1.length - 1 = (fpre F).length + (A ++ t1).length := by rw [ekn, List.length_append]; omega
              rw [ek2]
              refine jh (A ++ t1) B2 m' (by rw [e]; simp) hB2 (by rw [ct_app ht1 hA2]; congr 1; omega) (by omega) (rxF_trans f2 w4) (fun i hi => (w1 i (by omega)).trans (f3 i hi)) (fun i hi => (w2 i (by omega)).trans (f4 i hi)) ?_ (fun h => ?_)
              · have := w3 (by omega)
                rw [show o + 1 - 1 = o by omega] at this
                rw [this, f5]; omega
              · rw [← w0 (by omega), mi_app hA2, mpre, mpos]
                simp
        have := seq (ayw ar c) [] a _ rfl ha (by rw [Nat.sub_self]; rfl) (Nat.le_refl _) F0 (fun _ _ => rfl) (fun i hi => by rw [mu_ne _ _ (by omega), mu_ne _ _ (by omega)]) (by rw [mu_at, hv]) (fun h => by rw [← hQ h, em, mi_nil]; simp)
        rw [List.length_nil, Nat.add_zero] at this
        exact this
      refine b_Mdl_redex_4 s1 _ _ m J P hp post ⟨by constructor <;> omega, by rw [hsz]; constructor <;> omega, fun h => absurd h (by rw [hsz]; omega), fun _ => ⟨by omega, x, hTP.1, kx, by omega, ?_⟩⟩
      rw [eo, ep]
      have hx1 : mu m 298 o ((fpre F).length : Int) x (fpre F).length = c := (mu_ne _ _ (by omega)).trans hc0
      rw [hx1]
      refine ⟨by constructor <;> omega, fun h => ⟨x, hTP.1, kx, by omega, ?_⟩, fun h => ⟨by omega, ?_⟩⟩
      · rw [hx1]
        refine ⟨by omega, by omega, ?_⟩
        rw [eo1, mu_ne _ _ (by omega)]
        obtain ⟨a1, a2⟩ := ayw_gp (ar := ar) hA.1 hgc h
        have a3 := hA.2 c.toNat a2
        exact go _ (by rw [a3.1]; omega)
      · rw [eo1]
        exact go 0 (by rw [ayw_v c (by omega)]; rfl)
end RDX
