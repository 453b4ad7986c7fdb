/-! the reference: redex() whole, replace(), normalize() -/
section RNZ
variable {X : aX} {d : Nat} {P : Mp} {J : Mj} {m : Mi} {sc N : Nat} {ar : Nat → Int} {Lf Rf : Nat → List Int} {x y : Nat} {T : List Int}
theorem Ro_snoc {l : List Int} {c : Int} (h : Ro m x 0 l) : Ro (mu m x l.length c) x 0 (l ++ [c]) := by
  refine Ro_app.mpr ⟨Ro_fr h fun k _ hk => mu_ne _ _ (by omega), ?_, trivial⟩
  rw [Nat.zero_add, mu_at]
/-- some TERMS under the SYMBOL c that is open last -/
theorem r_seq {s1 : Nat} {Q : Option (List Int × List Int × List Int)} (hp : PP P) (hTP : TP P x y) (hO : Rf_ok sc ar N Lf Rf) (hl : T.length ≤ 200) (hg : ∀ c, c ∈ T → gp sc c) (h1000 : s1 ≤ 1000) {F : List (Int × List Int × List Int)} {c : Int} {D : List Int} {jd o : Nat} (hc : 0 ≤ c) (hc4 : ayw ar c ≤ 4) (hF : fok (ayw ar) F) (hD : ctt (ayw ar) D = some jd) (ho : o ≤ (fpre F).length) {m0 : Mi} {M : Prop} {post : Int → Mi → Mj → Mp → Prop} (kf : ∀ p m', Fnd ar N Lf Rf T Q p m' → rxF m0 m' → Rst sc ar N Lf Rf x T m' → post p m' J P) : ∀ (j : Nat) (A B : List Int) (ja : Nat) (m : Mi), rxF m0 m → T = fpre F ++ ((c :: (A ++ (B ++ D))) ++ fpos F) → ctt (ayw ar) B = some j → ctt (ayw ar) A = some ja → ayw ar c = ja + j + jd → Rst sc ar N Lf Rf x T m → m 299 o = ((j + jd : Nat) : Int) → ((M ∧ s1 ≤ (fpre F).length + 1 + A.length) ∨ (¬ M ∧ (fpre F).length + 1 + A.length + B.length ≤ s1)) → (M → sn (ayw ar) N (Lmi ar Lf) (Lmi ar Rf) ((mi (ayw ar) B).reverse ++ ((mi (ayw ar) D).reverse ++ (c :: (mpre (ayw ar) F).reverse))) (mi (ayw ar) A ++ mpos (ayw ar) F) = Q) → (∀ m', (∀ i, i ≤ o → m' 298 i = m 298 i) → (∀ i, i < o → m' 299 i = m 299 i) → m' 299 o = (jd : Int) → rxF m m' → (M → sn (ayw ar) N (Lmi ar Lf) (Lmi ar Rf) ((mi (ayw ar) D).reverse ++ (c :: (mpre (ayw ar) F).reverse)) (mi (ayw ar) (A ++ B) ++ mpos (ayw ar) F) = Q) → Rn X (d + 3) 176 55 [some (.ref 262), some (.int (iz (s1 : Int))), some (.int (iz ((o + 1 : Nat) : Int))), some (.int (iz (((fpre F).length + (A ++ B).length : Nat) : Int))), some (.int (iz 1)), none] [] (SS m' J P) (QI post)) → Rn X (d + 3) 176 55 [some (.ref 262), some (.int (iz (s1 : Int))), some (.int (iz ((o + 1 : Nat) : Int))), some (.int (iz (((fpre F).length + A.length : Nat) : Int))), some (.int (iz 1)), none] [] (SS m J P) (QI post) := by
  have hxx : x = 296 ∨ x = 297 := by have := hTP.2.2; omega
  intro j
  induction j with
  | zero =>
    intro A B ja m hf eT hB hA hay hS hlf hmode hQ kn
    have := ct_zero hB
    subst this
    have := kn m (fun _ _ => rfl) (fun _ _ => rfl) (by rw [hlf]; congr 1; omega) (fun _ _ _ _ _ _ _ => rfl) (fun h => by rw [List.append_nil]; exact hQ h)
    rw [List.append_nil] at this
    exact this
  | succ j jh =>
    intro A B ja m hf eT hB hA hay hS hlf hmode hQ kn
    obtain ⟨t1, B2, eB, ht1, hB2⟩ := ct_first hB
    subst eB
    have ht1p := ct_ne ht1
    have hTl := congrArg List.length eT
    simp only [List.length_append, List.length_cons] at hTl hmode
    have e1 : (((o + 1 : Nat) : Int) - 1).toNat = o := by omega
    refine b_Mdl_redex_55 s1 _ _ 1 m J P hp post ⟨zr1, fun h => absurd h (by decide), fun _ => ⟨by constructor <;> omega, fun h => absurd h (by omega), fun _ => ⟨by omega, ?_⟩⟩⟩
    rw [e1, hlf]
    refine ⟨by constructor <;> omega, fun _ => ?_, fun h => absurd (by omega) h⟩
    refine b_Mdl_redex_55 s1 _ _ 0 m J P hp post ⟨zr0, fun _ => ?_, fun h => absurd rfl h⟩
    have ekn : (fpre ((c, A, B2 ++ D) :: F)).length = (fpre F).length + A.length + 1 := by rw [fpre, List.length_append, List.length_cons]; omega
    have ek : (((fpre F).length + A.length : Nat) : Int) + 1 = ((fpre ((c, A, B2 ++ D) :: F)).length : Int) := by rw [ekn]; omega
    rw [ek]
    have hBD : ctt (ayw ar) (B2 ++ D) = some (j + jd) := ct_app hD hB2
    refine r_scan hp hTP hO hl hg h1000 t1.length ((c, A, B2 ++ D) :: F) t1 (o + 1) m (Nat.le_refl _) ⟨⟨hc, ja, j + jd, hA, hBD, by omega⟩, hF⟩ ht1 (by rw [eT, fpre, fpos]; simp) hS (by omega) (fun _ => by rw [show o + 1 - 1 = o by omega, hlf]; omega) ?_ (fun h => ?_) (fun p m' w1 w2 => kf p m' w1 (rxF_trans hf w2) (Rst_fr hxx hS w2)) (fun w0 m' w1 w2 w3 w4 => ?_)
    · rw [ekn]
      rcases hmode with hm | hm
      · left; omega
      · right; omega
    · have hm : M := by
        rcases hmode with hm | hm
        · exact hm.1
        · omega
      rw [← hQ hm, mi_app ht1, mpre, mpos, mi_app hB2]
      simp
    · have ek2 : (fpre ((c, A, B2 ++ D) :: F)).length + t1.length - 1 = (fpre F).length + (A ++ t1).length := by rw [ekn, List.length_append]; omega
      rw [ek2]
      have hS' := Rst_fr hxx hS w4
      refine jh (A ++ t1) B2 (ja + 1) m' (rxF_trans hf w4) (by rw [eT]; simp) hB2 (by rw [ct_app ht1 hA]) (by omega) hS' ?_ ?_ (fun h => ?_) (fun m2 v1 v2 v3 v4 v5 => ?_)
      · have := w3 (by omega)
        rw [show o + 1 - 1 = o by omega] at this
        rw [this, hlf]; omega
      · rw [List.length_append]
        rcases hmode with hm | hm
        · exact Or.inl ⟨hm.1, by omega⟩
        · exact Or.inr ⟨hm.1, by omega⟩
      · have hm : s1 ≤ (fpre F).length + 1 + A.length := by
          rcases hmode with hm | hm
          · exact hm.2
          · exact absurd h hm.1
        rw [← w0 (by omega), mi_app hA, mpre, mpos, mi_app hB2]
        simp
      · have := kn m2 (fun i hi => (v1 i hi).trans (w1 i (by omega))) (fun i hi => (v2 i hi).trans (w2 i (by omega))) v3 (rxF_trans w4 v4) (fun h => by
          have := v5 h
          rw [List.append_assoc] at this
          exact this)
        rw [show A ++ t1 ++ B2 = A ++ (t1 ++ B2) by simp]
        exact this
/-- filled about: the outermost SYMBOL first -/
def fil : List (Int × List Int × List Int) → List Int → List Int
  | [], t => t
  | (s, A, B) :: K, t => s :: (A ++ (fil K t ++ B))
theorem fil_ct {ay : Int → Nat} {t : List Int} (ht : ctt ay t = some 1) : ∀ {K : List (Int × List Int × List Int)}, fok ay K → ctt ay (fil K t) = some 1
  | [], _ => ht
  | (s, A, B) :: K, h => by
    obtain ⟨⟨_, a, b, hA, hB, hs⟩, hK⟩ := h
    exact ct_one (by rw [ct_mid hA (fil_ct ht hK) hB, hs])
theorem fil_T {t : List Int} : ∀ {K H : List (Int × List Int × List Int)}, fpre H ++ (fil K t ++ fpos H) = fpre (K.reverse ++ H) ++ (t ++ fpos (K.reverse ++ H))
  | [], H => rfl
  | (s, A, B) :: K, H => by
    rw [List.reverse_cons, List.append_assoc, List.singleton_append, ← fil_T, fil, fpre, fpos]
    simp
theorem fok_app {ay : Int → Nat} : ∀ {G H : List (Int × List Int × List Int)}, fok ay (G ++ H) ↔ fok ay G ∧ fok ay H
  | [], H => ⟨fun h => ⟨trivial, h⟩, fun h => h.2⟩
  | (s, A, B) :: G, H => by
    rw [List.cons_append, fok, fok, fok_app]
    exact ⟨fun h => ⟨⟨h.1, h.2.1⟩, h.2.2⟩, fun h => ⟨h.1.1, h.1.2, h.2⟩⟩
theorem fok_rev {ay : Int → Nat} : ∀ {G : List (Int × List Int × List Int)}, fok ay G → fok ay G.reverse
  | [], h => h
  | (s, A, B) :: G, h => by
    rw [List.reverse_cons]
    exact fok_app.mpr ⟨fok_rev h.2, h.1, trivial⟩
theorem fpre_len {K H : List (Int × List Int × List Int)} : (fpre H).length ≤ (fpre (K ++ H)).length := by
  induction K with
  | nil => exact Nat.le_refl _
  | cons q K ih =>
    obtain ⟨s, A, B⟩ := q
    rw [List.cons_append, fpre, List.length_append]
    omega
theorem fpos_len {K H : List (Int × List Int × List Int)} : (fpos H).length ≤ (fpos (K ++ H)).length := by
  induction K with
  | nil => exact Nat.le_refl _
  | cons q K ih =>
    obtain ⟨s, A, B⟩ := q
    rw [List.cons_append, fpos, List.length_append]
    omega
/-- down to the part t0 at which the search begins -/
theorem r_down {s1 : Nat} {Q : Option (List Int × List Int × List Int)} (hp : PP P) (hTP : TP P x y) (hO : Rf_ok sc ar N Lf Rf) (hl : T.length ≤ 200) (hg : ∀ c, c ∈ T → gp sc c) (h1000 : s1 ≤ 1000) {t0 : List Int} (ht0 : ctt (ayw ar) t0 = some 1) {m0 : Mi} {post : Int → Mi → Mj → Mp → Prop} (kf : ∀ p m', Fnd ar N Lf Rf T Q p m' → rxF m0 m' → Rst sc ar N Lf Rf x T m' → post p m' J P) : ∀ (K H : List (Int × List Int × List Int)) (o : Nat) (m : Mi), rxF m0 m → fok (ayw ar) H → fok (ayw ar) K → T = fpre H ++ (fil K t0 ++ fpos H) → s1 = (fpre (K.reverse ++ H)).length → Rst sc ar N Lf Rf x T m → o ≤ (fpre H).length → (0 < o → 1 ≤ m 299 (o - 1) ∧ m 299 (o - 1) ≤ 4) → sn (ayw ar) N (Lmi ar Lf) (Lmi ar Rf) ((mi (ayw ar) t0).reverse ++ (mpre (ayw ar) (K.reverse ++ H)).reverse) (mpos (ayw ar) (K.reverse ++ H)) = Q → (sn (ayw ar) N (Lmi ar Lf) (Lmi ar Rf) (mpre (ayw ar) H).reverse (mi (ayw ar) (fil K t0) ++ mpos (ayw ar) H) = Q → ∀ m', (∀ j, j < o → m' 298 j = m 298 j) → (∀ j, j + 1 < o → m' 299 j = m 299 j) → (0 < o → m' 299 (o - 1) = m 299 (o - 1) - 1) → rxF m m' → Rn X (d + 3) 176 55 [some (.ref 262), some (.int (iz (s1 : Int))), some (.int (iz (o : Int))), some (.int (iz (((fpre H).length + (fil K t0).length - 1 : Nat) : Int))), some (.int (iz 1)), none] [] (SS m' J P) (QI post)) → Rn X (d + 3) 176 4 [some (.ref 262), some (.int (iz (s1 : Int))), some (.int (iz (o : Int))), some (.int (iz ((fpre H).length : Int))), none, none] [] (SS m J P) (QI post) := by
  obtain ⟨kx, ky⟩ := TP_kd hTP
  have hxx : x = 296 ∨ x = 297 := by have := hTP.2.2; omega
  intro K
  induction K with
  | nil =>
    intro H o m hf hH _ eT hs1 hS ho hop hQ kn
    rw [List.reverse_nil, List.nil_append] at hs1 hQ
    refine r_scan hp hTP hO hl hg h1000 t0.length H t0 o m (Nat.le_refl _) hH ht0 eT hS ho hop (Or.inl (by omega)) (fun _ => hQ) (fun p m' w1 w2 => kf p m' w1 (rxF_trans hf w2) (Rst_fr hxx hS w2)) (fun w0 m' w1 w2 w3 w4 => kn (w0 (by omega)) m' w1 w2 w3 w4)
  | cons q K ih =>
    intro H o m hf hH hK eT hs1 hS ho hop hQ kn
    obtain ⟨c, A, B⟩ := q
    obtain ⟨⟨hc0', a, b, hA, hB, hay⟩, hK'⟩ := hK
    have hmid := fil_ct ht0 hK'
    rw [List.reverse_cons, List.append_assoc, List.singleton_append] at hs1 hQ
    have hs1' : (fpre H).length + 1 + A.length ≤ s1 := by
      have := fpre_len (K := K.reverse) (H := (c, A, B) :: H)
      rw [fpre, List.length_append, List.length_cons] at this
      omega
    have hs1'' : s1 + t0.length ≤ (fpre H).length + 1 + A.length + (fil K t0).length := by
      have e := congrArg List.length (fil_T (t := t0) (K := K) (H := (c, A, B) :: H))
      simp only [List.length_append] at e
      have e2 : (fpre ((c, A, B) :: H)).length = (fpre H).length + (A.length + 1) := by rw [fpre, List.length_append, List.length_cons]
      have e3 := fpos_len (K := K.reverse) (H := (c, A, B) :: H)
      omega
    rw [fil] at eT
    have hTl := congrArg List.length eT
    simp only [List.length_append, List.length_cons] at hTl
    obtain ⟨hAr, hKy, hrow, hsz⟩ := hS
    have hcell := Ro_mem (p := fpre H) (c := c) (q := (A ++ (fil K t0 ++ B)) ++ fpos H) hrow (by rw [eT]; rfl)
    rw [Nat.zero_add] at hcell
    have hgc : gp sc c := hg c (by rw [eT]; simp)
    have b1 := hgc.1
    have b2 := hgc.2.1
    have h4 := ayw_RA hAr hgc
    have eo : ((o : Nat) : Int).toNat = o := by omega
    have ep : (((fpre H).length : Nat) : Int).toNat = (fpre H).length := by omega
    have eo1 : ((o : Nat) : Int) + 1 = ((o + 1 : Nat) : Int) := by omega
    obtain ⟨a1, a2⟩ := ayw_gp (ar := ar) hAr.1 hgc hc0'
    have a3 := hAr.2 c.toNat a2
    have htp := ct_ne ht0
    refine b_Mdl_redex_4 s1 _ _ m J P hp post ⟨by constructor <;> omega, by rw [hsz]; constructor <;> omega, fun h => absurd h (by rw [hsz]; omega), fun _ => ⟨by omega, x, hTP.1, kx, by omega, ?_⟩⟩
    rw [eo, ep]
    have hx1 : mu m 298 o ((fpre H).length : Int) x (fpre H).length = c := (mu_ne _ _ (by omega)).trans hcell
    rw [hx1]
    refine ⟨by constructor <;> omega, fun _ => ⟨x, hTP.1, kx, by omega, ?_⟩, fun h => absurd hc0' h⟩
    rw [hx1]
    refine ⟨by omega, by omega, ?_⟩
    rw [eo1, mu_ne _ _ (by omega), a3.1]
    have F0 : rxF m (mu (mu m 298 o ((fpre H).length : Int)) 299 o (ar c.toNat)) := fun a' k g1 g2 g3 g4 g5 => by rw [mu_ne _ _ (by omega), mu_ne _ _ (by omega)]
    have hS0 := Rst_fr hxx ⟨hAr, hKy, hrow, hsz⟩ F0
    have e0 : (((fpre H).length : Nat) : Int) = (((fpre H).length + ([] : List Int).length : Nat) : Int) := by simp
    -- the ARGUMENTS ahead
    have step1 : Rn X (d + 3) 176 55 [some (.ref 262), some (.int (iz (s1 : Int))), some (.int (iz ((o + 1 : Nat) : Int))), some (.int (iz (((fpre H).length + ([] : List Int).length : Nat) : Int))), some (.int (iz 1)), none] [] (SS (mu (mu m 298 o ((fpre H).length : Int)) 299 o (ar c.toNat)) J P) (QI post) := by
      refine r_seq (F := H) (c := c) (D := fil K t0 ++ B) (jd := 1 + b) (Q := Q) (M := False) (m0 := m0) hp hTP hO hl hg h1000 hc0' h4 hH (by rw [ct_app hB hmid]) ho kf a [] A 0 _ (rxF_trans hf F0) (by rw [eT]; simp) hA rfl (by omega) hS0 (by rw [mu_at]; omega) (Or.inr ⟨id, by rw [List.length_nil]; omega⟩) (fun h => h.elim) (fun m2 w1 w2 w3 w4 w5 => ?_)
      · rw [List.nil_append]
        have hS2 := Rst_fr hxx hS0 w4
        -- the part itself
        have e1 : (((o + 1 : Nat) : Int) - 1).toNat = o := by omega
        refine b_Mdl_redex_55 s1 _ _ 1 m2 J P hp post ⟨zr1, fun h => absurd h (by decide), fun _ => ⟨by constructor <;> omega, fun h => absurd h (by omega), fun _ => ⟨by omega, ?_⟩⟩⟩
        rw [e1, w3]
        refine ⟨by constructor <;> omega, fun _ => ?_, fun h => absurd (by omega) h⟩
        refine b_Mdl_redex_55 s1 _ _ 0 m2 J P hp post ⟨zr0, fun _ => ?_, fun h => absurd rfl h⟩
        have ekn : (fpre ((c, A, B) :: H)).length = (fpre H).length + A.length + 1 := by rw [fpre, List.length_append, List.length_cons]; omega
        have ek : (((fpre H).length + A.length : Nat) : Int) + 1 = ((fpre ((c, A, B) :: H)).length : Int) := by rw [ekn]; omega
        rw [ek]
        refine ih ((c, A, B) :: H) (o + 1) m2 (rxF_trans hf (rxF_trans F0 w4)) ⟨⟨hc0', a, b, hA, hB, hay⟩, hH⟩ hK' (by rw [eT, fpre, fpos]; simp) hs1 hS2 (by omega) (fun _ => by rw [show o + 1 - 1 = o by omega, w3]; omega) hQ (fun v0 m3 v1 v2 v3 v4 => ?_)
        have hS3 := Rst_fr hxx hS2 v4
        have hl3 : m3 299 o = (b : Int) := by
          have := v3 (by omega)
          rw [show o + 1 - 1 = o by omega] at this
          rw [this, w3]; omega
        have hmp := ct_ne hmid
        have ek2 : (fpre ((c, A, B) :: H)).length + (fil K t0).length - 1 = (fpre H).length + (A ++ fil K t0).length := by rw [ekn, List.length_append]; omega
        rw [ek2]
        -- the ARGUMENTS behind
        refine r_seq (F := H) (c := c) (D := []) (jd := 0) (Q := Q) (M := True) (m0 := m0) hp hTP hO hl hg h1000 hc0' h4 hH rfl ho kf b (A ++ fil K t0) B (a + 1) m3 (rxF_trans hf (rxF_trans F0 (rxF_trans w4 v4))) (by rw [eT]; simp) hB (by rw [ct_app hmid hA]) (by omega) hS3 (by rw [hl3]; rfl) (Or.inl ⟨trivial, by rw [List.length_append]; omega⟩) (fun h => ?_) (fun m4 u1 u2 u3 u4 u5 => ?_)
        · rw [← v0, mpre, mpos, mi_app hA, mi_nil]
          simp
        · have hS4 := Rst_fr hxx hS3 u4
          have eT' : T = fpre H ++ ((c :: (A ++ (fil K t0 ++ B))) ++ fpos H) := eT
          have htt : ctt (ayw ar) (c :: (A ++ (fil K t0 ++ B))) = some 1 := ct_one (by rw [ct_mid hA hmid hB, hay])
          have f4 : rxF m m4 := rxF_trans F0 (rxF_trans w4 (rxF_trans v4 u4))
          have ek3 : (fpre H).length + (A ++ fil K t0 ++ B).length = (fpre H).length + (c :: (A ++ (fil K t0 ++ B))).length - 1 := by simp
          rw [ek3]
          have hst : m4 298 o = ((fpre H).length : Int) := by
            rw [u1 o (Nat.le_refl _), v1 o (by omega), w1 o (Nat.le_refl _), mu_ne _ _ (by omega), mu_at]
          refine r_close (F := H) (t := c :: (A ++ (fil K t0 ++ B))) (m := m4) (c0 := c) (a0 := A ++ (fil K t0 ++ B)) hp hTP hO hl hg h1000 hH htt eT' hS4 ho hst u3 (fun h => ?_) rfl (fun h => ?_) (fun p m' w1' w2' => kf p m' w1' (rxF_trans hf (rxF_trans f4 w2')) (Rst_fr hxx hS4 w2')) (fun z0 m5 z1 z2 z3 z4 => ?_)
          · rw [u2 _ (by omega), v2 _ (by omega), w2 _ (by omega), mu_ne _ _ (by omega), mu_ne _ _ (by omega)]
            exact hop h
          · rw [← u5 trivial, mi_nil]
            simp
          · refine kn (z0 (by rw [List.length_cons, List.length_append, List.length_append]; omega)) m5 (fun i hi => ?_) (fun i hi => ?_) (fun h => ?_) (rxF_trans f4 z4)
            · rw [z1 i hi, u1 i (by omega), v1 i (by omega), w1 i (by omega), mu_ne _ _ (by omega), mu_ne _ _ (by omega)]
            · rw [z2 i hi, u2 i (by omega), v2 i (by omega), w2 i (by omega), mu_ne _ _ (by omega), mu_ne _ _ (by omega)]
            · rw [z3 h, u2 _ (by omega), v2 _ (by omega), w2 _ (by omega), mu_ne _ _ (by omega), mu_ne _ _ (by omega)]
    rw [← e0] at step1
    exact step1
/-- redex() from the part t0 on -/
theorem r_redex {F0 : List (Int × List Int × List Int)} {t0 : List Int} (hp : PP P) (hTP : TP P x y) (hO : Rf_ok sc ar N Lf Rf) (hl : T.length ≤ 200) (hg : ∀ c, c ∈ T → gp sc c) (ht0 : ctt (ayw ar) t0 = some 1) (hF0 : fok (ayw ar) F0) (eT : T = fpre F0 ++ (t0 ++ fpos F0)) (hS : Rst sc ar N Lf Rf x T m) {post : Int → Mi → Mj → Mp → Prop} (kf : ∀ p m', Fnd ar N Lf Rf T (sn (ayw ar) N (Lmi ar Lf) (Lmi ar Rf) ((mi (ayw ar) t0).reverse ++ (mpre (ayw ar) F0).reverse) (mpos (ayw ar) F0)) p m' → Rst sc ar N Lf Rf x T m' → rxF m m' → post p m' J P) (kn : sn (ayw ar) N (Lmi ar Lf) (Lmi ar Rf) ((mi (ayw ar) t0).reverse ++ (mpre (ayw ar) F0).reverse) (mpos (ayw ar) F0) = none → ∀ m', Rst sc ar N Lf Rf x T m' → rxF m m' → post (-1) m' J P) : Ci X (d + 3) 176 [.ref 262, .int (iz ((fpre F0).length : Int))] m J P post := by
  have hxx : x = 296 ∨ x = 297 := by have := hTP.2.2; omega
  have hTl := congrArg List.length eT
  rw [List.length_append] at hTl
  have e2 := fil_T (t := t0) (K := F0.reverse) (H := [])
  rw [List.reverse_reverse, List.append_nil] at e2
  have e3 : fpre [] ++ (fil F0.reverse t0 ++ fpos []) = fil F0.reverse t0 := by rw [fpre, fpos]; simp
  rw [e3] at e2
  refine Ci.of rfl rfl rfl (b_Mdl_redex_0 _ m J P hp post ?_)
  have e0 : (0 : Int) = (((fpre []).length : Nat) : Int) := rfl
  have e00 : (0 : Int) = ((0 : Nat) : Int) := rfl
  refine r_down (T := T) (m0 := m) hp hTP hO hl hg (s1 := (fpre F0).length) (by omega) ht0 (fun p m' w1 w2 w3 => kf p m' w1 w3 w2) F0.reverse [] 0 m (fun _ _ _ _ _ _ _ => rfl) trivial (fok_rev hF0) (by rw [e3, eT, e2]) (by rw [List.reverse_reverse, List.append_nil]) hS (Nat.zero_le _) (fun h => absurd h (Nat.lt_irrefl _)) (by rw [List.reverse_reverse, List.append_nil]) (fun w0 m' w1 w2 w3 w4 => ?_)
  have hS' := Rst_fr hxx hS w4
  have hTl2 : (fpre []).length + (fil F0.reverse t0).length - 1 = T.length - 1 := by rw [eT, ← e2]; simp [fpre]
  rw [hTl2]
  have htp := ct_ne ht0
  refine b_Mdl_redex_55 _ _ _ 1 m' J P hp post ⟨zr1, fun h => absurd h (by decide), fun _ => ⟨zr0, fun _ => ?_, fun h => absurd (by decide) h⟩⟩
  refine b_Mdl_redex_55 _ _ _ 0 m' J P hp post ⟨zr0, fun _ => ?_, fun h => absurd rfl h⟩
  refine b_Mdl_redex_4 _ _ _ m' J P hp post ⟨by constructor <;> omega, by rw [hS'.2.2.2]; constructor <;> omega, fun _ => kn ?_ m' hS' w4, fun h => absurd (by rw [hS'.2.2.2]; omega) h⟩
  rw [← w0]
  rfl
end RNZ
