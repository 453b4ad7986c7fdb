/-! the reference: looksAtPair() -/
section RLP
variable {X : aX} {d x y : Nat} {P : Mp} {J : Mj} {m m' : Mi} {ar : Nat → Int} {sc N : Nat} {Lf Rf : Nat → List Int}
/-- rows of what is kept, in the reference -/
def QKr (m : Mi) : Nat → List (Nat × Nat × Nat × Int) → Prop
  | _, [] => True
  | k, e :: K => (m 287 k = (e.1 : Int) ∧ m 288 k = (e.2.1 : Int) ∧ m 289 k = (e.2.2.1 : Int) ∧ m 290 k = e.2.2.2) ∧ QKr m (k + 1) K
theorem QKr_fr : ∀ {K : List (Nat × Nat × Nat × Int)} {k : Nat}, QKr m k K → (∀ a i, 287 ≤ a → a ≤ 290 → i < k + K.length → m' a i = m a i) → QKr m' k K
  | [], _, _, _ => trivial
  | e :: K, k, h, f => by
    rw [List.length_cons] at f
    obtain ⟨⟨a, b, c, e1⟩, h2⟩ := h
    exact ⟨⟨(f _ _ (by decide) (by decide) (by omega)).trans a, (f _ _ (by decide) (by decide) (by omega)).trans b, (f _ _ (by decide) (by decide) (by omega)).trans c, (f _ _ (by decide) (by decide) (by omega)).trans e1⟩, QKr_fr h2 fun a i g1 g2 hi => f a i g1 g2 (by omega)⟩
theorem QKr_snoc {e : Nat × Nat × Nat × Int} : ∀ {K : List (Nat × Nat × Nat × Int)} {k : Nat}, QKr m k K → (m 287 (k + K.length) = (e.1 : Int) ∧ m 288 (k + K.length) = (e.2.1 : Int) ∧ m 289 (k + K.length) = (e.2.2.1 : Int) ∧ m 290 (k + K.length) = e.2.2.2) → QKr m k (K ++ [e])
  | [], k, _, h => ⟨h, trivial⟩
  | a :: K, k, h, f => by
    rw [List.length_cons, show k + (K.length + 1) = k + 1 + K.length by omega] at f
    exact ⟨h.1, QKr_snoc h.2 f⟩
def QKh (t : Nat) (K : List (Nat × Nat × Nat × Int)) (m : Mi) : Prop := (m 262 44 = (t : Int) ∧ m 262 45 = (K.length : Int) ∧ m 262 46 = (pcn 1 K : Int) ∧ m 262 47 = (pcn 2 K : Int)) ∧ QKr m 0 K
/-- what looksAtPair() may change -/
def lpF (m m' : Mi) : Prop := ∀ a k, ¬ (302 ≤ a ∧ a ≤ 320) → ¬ (296 ≤ a ∧ a ≤ 301) → a ≠ 321 → ¬ (287 ≤ a ∧ a ≤ 290) → ¬ (a = 262 ∧ (k = 74 ∨ k = 87 ∨ k = 86 ∨ k = 90 ∨ k = 91 ∨ k = 61 ∨ k = 62 ∨ k = 67 ∨ k = 44 ∨ k = 45 ∨ k = 46 ∨ k = 47)) → m' a k = m a k
theorem lpF_trans {m'' : Mi} (h : lpF m m') (h2 : lpF m' m'') : lpF m m'' := fun a k g1 g2 g3 g4 g5 => (h2 a k g1 g2 g3 g4 g5).trans (h a k g1 g2 g3 g4 g5)
theorem mpF_lp (h : mpF m m') : lpF m m' := fun a k g1 g2 g3 g4 g5 => h a k g1 (by omega)
theorem a1F_lp (h : a1F m m') : lpF m m' := fun a k g1 g2 g3 g4 g5 => h a k g2 g3 (by omega)
theorem lpF_RyM (h : RyM N Lf Rf m) (f : lpF m m') : RyM N Lf Rf m' := RyM_fr h (f _ _ (by decide) (by decide) (by decide) (by decide) (by decide)) (fun a k g => f _ _ (by omega) (by omega) (by omega) (by omega) (by omega))
theorem lpF_RAr (h : RAr sc ar m) (f : lpF m m') : RAr sc ar m' := RAr_fr h fun k => f _ _ (by decide) (by decide) (by decide) (by decide) (by omega)
theorem QKh_mp {t : Nat} {K : List (Nat × Nat × Nat × Int)} (h : QKh t K m) (f : mpF m m') : QKh t K m' := ⟨⟨(f _ _ (by decide) (by decide)).trans h.1.1, (f _ _ (by decide) (by decide)).trans h.1.2.1, (f _ _ (by decide) (by decide)).trans h.1.2.2.1, (f _ _ (by decide) (by decide)).trans h.1.2.2.2⟩, QKr_fr h.2 fun a i g1 g2 _ => f a i (by omega) (by omega)⟩
/-- what two TERMS of a PAIR come to, in the reference -/
theorem r_areTwo {o1 o2 : Option (List Int)} (hp : PP P) (hTP : TP P x y) (hO : Rf_ok sc ar N Lf Rf) (hA : RAr sc ar m) (hK : RyM N Lf Rf m) (f0 : o1 = none → m 262 90 = -1) (f1 : ∀ w1, o1 = some w1 → m 262 90 = (w1.length : Int) ∧ (o2 = none → m 262 91 = -1) ∧ ∀ w2, o2 = some w2 → m 262 91 = (w2.length : Int) ∧ Ro m 319 0 (nbr [] w1).1 ∧ Ro m 320 0 (nbr (nbr [] w1).2 w2).1) (ok : ∀ w, o1 = some w ∨ o2 = some w → ctt (ayw ar) w = some 1 ∧ w.length ≤ 200 ∧ ∀ c, c ∈ w → 0 ≤ c → c < sc) {post : Int → Mi → Mj → Mp → Prop} (k : ∀ m' P' x' y', PP P' → TP P' x' y' → PF P P' → a1F m m' → post (pjn (ayw ar) N (Lmi ar Lf) (Lmi ar Rf) o1 o2) m' J P') : Ci X (d + 5) 173 [.ref 262, .ref 319, .int (iz (m 262 90)), .ref 320, .int (iz (m 262 91))] m J P post := by
  have kf : am_kd an_K 319 = some (.inr (0, 200)) := by decide +kernel
  have ks : am_kd an_K 320 = some (.inr (0, 200)) := by decide +kernel
  cases o1 with
  | none =>
    rw [f0 rfl]
    refine Ci.of rfl rfl rfl (b_Mdl_areOne_0 319 200 (-1) 320 200 _ kf (by decide) ks (by decide) m J P hp post ⟨by constructor <;> omega, fun _ => ?_, fun g => absurd (by decide) g⟩)
    exact k m P x y hp hTP (fun _ _ _ => rfl) (fun _ _ _ _ _ => rfl)
  | some w1 =>
    obtain ⟨e1, e2, e3⟩ := f1 w1 rfl
    obtain ⟨o1a, o1b, o1c⟩ := ok w1 (Or.inl rfl)
    cases o2 with
    | none =>
      rw [e1, e2 rfl]
      refine Ci.of rfl rfl rfl (b_Mdl_areOne_0 319 200 (w1.length : Int) 320 200 (-1) kf (by decide) ks (by decide) m J P hp post ⟨by constructor <;> omega, fun g => absurd g (by omega), fun _ => ⟨by constructor <;> omega, fun g => absurd g (by decide), fun _ => ?_⟩⟩)
      exact k m P x y hp hTP (fun _ _ _ => rfl) (fun _ _ _ _ _ => rfl)
    | some w2 =>
      obtain ⟨e4, e5, e6⟩ := e3 w2 rfl
      obtain ⟨o2a, o2b, o2c⟩ := ok w2 (Or.inr rfl)
      have ll : (nbr [] w1).1.length = w1.length := nbr_len
      have lr : (nbr (nbr [] w1).2 w2).1.length = w2.length := nbr_len
      have hsn := nbr_seen (l := w1) (seen := ([] : List Int))
      rw [List.length_nil] at hsn
      have hs := hA.1
      rw [e1, e4, ← ll, ← lr]
      refine r_areOne (n1 := 200) (n3 := 200) hp hTP kf (by decide) ks (by decide) (by omega) (by omega) (Or.inr (by decide)) (Or.inr (by decide)) hO hA hK (by omega) (by omega) (fun c hc => ?_) (fun c hc => ?_) ?_ ?_ e5 e6 k
      · rcases nbr_mem hc with ⟨q1, q2⟩ | ⟨q1, q2⟩
        · have := o1c c q2 q1
          exact ⟨by omega, by omega, fun _ => this⟩
        · rw [List.length_nil] at q2
          exact ⟨by omega, by omega, fun _ => by omega⟩
      · rcases nbr_mem hc with ⟨q1, q2⟩ | ⟨q1, q2⟩
        · have := o2c c q2 q1
          exact ⟨by omega, by omega, fun _ => this⟩
        · exact ⟨by omega, by omega, fun _ => by omega⟩
      · rw [ct_cong (nbr_ay ayw_v)]; exact o1a
      · rw [ct_cong (nbr_ay ayw_v)]; exact o2a
theorem r_looksAtPair {i p j : Nat} {s : PKs} (hp : PP P) (hTP : TP P x y) (har : arK sc ar) (hRA : RAr sc ar m) (hK : RyM N Lf Rf m) (hO : Rf_ok sc ar N Lf Rf) (hZ : ∀ u, u < N → ZK sc ar (Lf u) (Rf u)) (hi : i < N) (hj : j < N) (hpl : p < (Lf i).length) (hs : QKh s.1 s.2 m) (hok : pkok s) (ht : s.1 < 100000) {post : Mi → Mj → Mp → Prop} (k : ∀ m' P' x' y', PP P' → TP P' x' y' → PF P P' → QKh (pkst (ayw ar) N (Lmi ar Lf) (Lmi ar Rf) Lf Rf i p j s).1 (pkst (ayw ar) N (Lmi ar Lf) (Lmi ar Rf) Lf Rf i p j s).2 m' → lpF m m' → post m' J P') : Cv X (d + 6) 162 [.ref 262, .int (iz (i : Int)), .int (iz (p : Int)), .int (iz (j : Int))] m J P post := by
  have hN := hK.1.1
  have h1 := hZ i hi
  have h2 := hZ j hj
  obtain ⟨_, ⟨i3, i4⟩, _⟩ := hK.2 i hi
  obtain ⟨_, ⟨j3, j4⟩, _⟩ := hK.2 j hj
  have hl1 := h1.2.2
  have hl2 := h2.2.2
  have n3 : 0 < (Lf j).length := ct_ne h2.1.1
  have ec : m 281 (40 * i + p) = cl (Lf i) p := by rw [cl_get hpl]; exact Ro_get i3 hpl
  have ej : m 281 (40 * j) = cl (Lf j) 0 := by rw [cl_get n3]; exact Ro_get (i := 0) j3 n3
  have ejp : 0 ≤ cl (Lf j) 0 := by
    obtain ⟨z, l, e, h0⟩ := (hO j hj).2.2.2.1
    rw [e]; exact h0
  have t1 : (40 * (i : Int) + (p : Int)).toNat = 40 * i + p := by omega
  have t2 : (40 * (j : Int)).toNat = 40 * j := by omega
  have zc : Zr (cl (Lf i) p) := by
    have := (h1.2.1 _ (List.mem_append_left _ (cl_mem hpl))).1
    have g1 := this.1
    have g2 := this.2.1
    constructor <;> omega
  have zj : Zr (cl (Lf j) 0) := by
    have := (h2.2.1 _ (List.mem_append_left _ (cl_mem n3))).1
    have g1 := this.1
    have g2 := this.2.1
    constructor <;> omega
  have no : pst (ayw ar) N (Lmi ar Lf) (Lmi ar Rf) Lf Rf i p j = none → post m J P := fun e => by
    have es : pkst (ayw ar) N (Lmi ar Lf) (Lmi ar Rf) Lf Rf i p j s = s := by
      unfold pkst
      rw [e]
    rw [es] at k
    exact k m P x y hp hTP (fun _ _ _ => rfl) hs (fun _ _ _ _ _ _ _ => rfl)
  refine Cv.of rfl rfl rfl (b_Mdl_looksAtPair_0 i p j m J P hp post ?_)
  rw [t1, t2, ec, ej]
  refine ⟨by omega, zc, fun g => no ?_, fun g0 => ⟨by omega, zc, zj, fun g => no ?_, fun gh => ⟨by constructor <;> omega, by constructor <;> omega, fun gi => ?_, fun gi => ⟨by constructor <;> omega, fun g2 => ?_, fun g2 => no ?_⟩⟩⟩⟩
  · unfold pst
    split
    · rfl
    · rw [if_neg (by omega)]
  · unfold pst
    split
    · rfl
    · first | rfl | rw [if_neg g]
  rotate_left 2
  · unfold pst
    rw [if_pos (by constructor <;> omega)]
  all_goals (
    have hij : ¬ (i = j ∧ p = 0) := by omega
    have hq : cl (Lf i) p = cl (Lf j) 0 := Classical.not_not.mp gh
    refine r_makesPair (d := d + 2) hp har hRA hK hZ hi hj hpl (by omega) (fun R hR m1 w0 w1 F1 => ⟨hp, zr1, fun _ => ?_, fun g => absurd (by decide) g⟩) (fun hn m1 F1 => ⟨hp, zr0, fun g => absurd rfl g, fun _ => ?_⟩)
    · have ev : pst (ayw ar) N (Lmi ar Lf) (Lmi ar Rf) Lf Rf i p j = some (pjn (ayw ar) N (Lmi ar Lf) (Lmi ar Rf) (pw1 (ayw ar) (Lf i) (Rf i) (Lf j) (Rf j) p R) (pw2 (ayw ar) (Lf i) (Rf i) (Lf j) (Rf j) p R)) := by
        unfold pst
        rw [if_neg hij, if_pos hq, hR]
      have es : pkst (ayw ar) N (Lmi ar Lf) (Lmi ar Rf) Lf Rf i p j s = (s.1 + 1, if s.1 < 200 then s.2 ++ [(i, p, j, pjn (ayw ar) N (Lmi ar Lf) (Lmi ar Rf) (pw1 (ayw ar) (Lf i) (Rf i) (Lf j) (Rf j) p R) (pw2 (ayw ar) (Lf i) (Rf i) (Lf j) (Rf j) p R))] else s.2) := by
        unfold pkst
        rw [ev]
      rw [es] at k
      dsimp only at k
      have hs1 := QKh_mp hs F1
      have G1 := mpF_lp F1
      obtain ⟨⟨q1, q2, q3, q4⟩, q5⟩ := hs1
      unfold pkok at hok
      have e45 : ∀ v, mu m1 262 44 v 262 45 = (s.2.length : Int) := fun v => (mu_ne _ _ (by omega)).trans q2
      simp only [e45]
      rw [q1, Int.toNat_natCast]
      have hc1 := pcn_le (v := 1) (K := s.2)
      have hc2 := pcn_le (v := 2) (K := s.2)
      refine ⟨by constructor <;> split at hok <;> omega, fun g => ?_, fun g => ?_⟩
      · have hlt : s.1 < 200 := by split at hok <;> omega
        rw [if_pos hlt] at hok k
        have ok1 := fun w1 (hw : pw1 (ayw ar) (Lf i) (Rf i) (Lf j) (Rf j) p R = some w1) => pw_ok har h1 h2 hpl hR (by rw [pgr_len]; have := ct_ne h1.1.2; omega) hw
        have ok2 := fun w2 (hw : pw2 (ayw ar) (Lf i) (Rf i) (Lf j) (Rf j) p R = some w2) => pw_ok har h1 h2 hpl hR (by rw [pgr_len]; omega) hw
        refine ⟨by omega, by omega, by omega, ?_⟩
        generalize hm5 : mu (mu (mu (mu (mu m1 262 44 ((s.1 : Int) + 1)) 262 45 ((s.2.length : Int) + 1)) 287 s.2.length (i : Int)) 288 s.2.length (p : Int)) 289 s.2.length (j : Int) = m5
        have F5 : lpF m1 m5 := fun a q g1 g2 g3 g4 g5 => by rw [← hm5, mu_ne _ _ (by omega), mu_ne _ _ (by omega), mu_ne _ _ (by omega), mu_ne _ _ (by omega), mu_ne _ _ (by omega)]
        have o5 : ∀ a k, ¬ (287 ≤ a ∧ a ≤ 290) → ¬ (a = 262 ∧ (k = 44 ∨ k = 45)) → m5 a k = m1 a k := fun a q g1 g2 => by rw [← hm5, mu_ne _ _ (by omega), mu_ne _ _ (by omega), mu_ne _ _ (by omega), mu_ne _ _ (by omega), mu_ne _ _ (by omega)]
        have G5 := lpF_trans G1 F5
        have hA5 := lpF_RAr hRA G5
        have hK5 := lpF_RyM hK G5
        refine r_areTwo (o1 := pw1 (ayw ar) (Lf i) (Rf i) (Lf j) (Rf j) p R) (o2 := pw2 (ayw ar) (Lf i) (Rf i) (Lf j) (Rf j) p R) hp hTP hO hA5 hK5 (fun e => (o5 _ _ (by decide) (by decide)).trans (w0 e)) (fun v1 hv1 => ?_) (fun w hw => ?_) (fun m8 P8 x8 y8 p1 p2 p3 F8 => ⟨p1, by omega, by omega, ?_⟩)
        · obtain ⟨u1, u2, u3⟩ := w1 v1 hv1
          refine ⟨(o5 _ _ (by decide) (by decide)).trans u1, fun e => (o5 _ _ (by decide) (by decide)).trans (u2 e), fun v2 hv2 => ?_⟩
          obtain ⟨u4, u5, u6⟩ := u3 v2 hv2
          exact ⟨(o5 _ _ (by decide) (by decide)).trans u4, Ro_fr u5 fun k _ _ => o5 _ _ (by decide) (by omega), Ro_fr u6 fun k _ _ => o5 _ _ (by decide) (by omega)⟩
        · rcases hw with hw | hw
          · exact ⟨(ok1 w hw).1.1, (ok1 w hw).1.2, fun c hc h0 => ((ok1 w hw).2 c hc).1 h0⟩
          · exact ⟨(ok2 w hw).1.1, (ok2 w hw).1.2, fun c hc h0 => ((ok2 w hw).2 c hc).1 h0⟩
        · have hr := pjn_r (ay := ayw ar) (N := N) (Lm := Lmi ar Lf) (Rm := Lmi ar Rf) (o1 := pw1 (ayw ar) (Lf i) (Rf i) (Lf j) (Rf j) p R) (o2 := pw2 (ayw ar) (Lf i) (Rf i) (Lf j) (Rf j) p R)
          generalize pjn (ayw ar) N (Lmi ar Lf) (Lmi ar Rf) (pw1 (ayw ar) (Lf i) (Rf i) (Lf j) (Rf j) p R) (pw2 (ayw ar) (Lf i) (Rf i) (Lf j) (Rf j) p R) = z at *
          have zz : Zr z := by constructor <;> omega
          have G8 := lpF_trans G5 (a1F_lp F8)
          have f46 : m8 262 46 = (pcn 1 s.2 : Int) := (F8 _ _ (by decide) (by decide) (by decide)).trans ((o5 _ _ (by decide) (by decide)).trans q3)
          have f47 : m8 262 47 = (pcn 2 s.2 : Int) := (F8 _ _ (by decide) (by decide) (by decide)).trans ((o5 _ _ (by decide) (by decide)).trans q4)
          have e46 : mu m8 290 s.2.length z 262 46 = (pcn 1 s.2 : Int) := (mu_ne _ _ (by omega)).trans f46
          have e47 : ∀ v, mu (mu m8 290 s.2.length z) 262 46 v 262 47 = (pcn 2 s.2 : Int) := fun v => (mu_ne _ _ (by omega)).trans ((mu_ne _ _ (by omega)).trans f47)
          have e29 : ∀ v, mu (mu m8 290 s.2.length z) 262 46 v 290 s.2.length = z := fun v => (mu_ne _ _ (by omega)).trans (mu_at _ _ _ _)
          have fin : ∀ a b : Int, a = (pcn 1 (s.2 ++ [(i, p, j, z)]) : Int) → b = (pcn 2 (s.2 ++ [(i, p, j, z)]) : Int) → post (mu (mu (mu m8 290 s.2.length z) 262 46 a) 262 47 b) J P8 := fun a b ea eb => by
            have F9 : ∀ a' k', ¬ (a' = 290 ∧ k' = s.2.length) → ¬ (a' = 262 ∧ (k' = 46 ∨ k' = 47)) → mu (mu (mu m8 290 s.2.length z) 262 46 a) 262 47 b a' k' = m8 a' k' := fun a' k' g1 g2 => by rw [mu_ne _ _ (by omega), mu_ne _ _ (by omega), mu_ne _ _ (by omega)]
            refine k _ P8 x8 y8 p1 p2 p3 ⟨⟨?_, ?_, ?_, ?_⟩, ?_⟩ (lpF_trans G8 fun a' k' g1 g2 g3 g4 g5 => F9 a' k' (by omega) (by omega))
            · rw [F9 _ _ (by omega) (by omega), F8 _ _ (by decide) (by decide) (by decide), ← hm5, mu_ne _ _ (by omega), mu_ne _ _ (by omega), mu_ne _ _ (by omega), mu_ne _ _ (by omega), mu_at]
              omega
            · rw [F9 _ _ (by omega) (by omega), F8 _ _ (by decide) (by decide) (by decide), ← hm5, mu_ne _ _ (by omega), mu_ne _ _ (by omega), mu_ne _ _ (by omega), mu_at, List.length_append, List.length_singleton]
              omega
            · rw [mu_ne _ _ (by omega), mu_at]
              exact ea
            · rw [mu_at]
              exact eb
            · refine QKr_snoc (QKr_fr q5 fun a' k' g1 g2 g3 => ?_) ?_
              · rw [Nat.zero_add] at g3
                rw [F9 _ _ (by omega) (by omega), F8 _ _ (by omega) (by omega) (by omega), ← hm5, mu_ne _ _ (by omega), mu_ne _ _ (by omega), mu_ne _ _ (by omega), mu_ne _ _ (by omega), mu_ne _ _ (by omega)]
              · rw [Nat.zero_add]
                refine ⟨?_, ?_, ?_, ?_⟩
                · rw [F9 _ _ (by omega) (by omega), F8 _ _ (by decide) (by decide) (by omega), ← hm5, mu_ne _ _ (by omega), mu_ne _ _ (by omega), mu_at]
                · rw [F9 _ _ (by omega) (by omega), F8 _ _ (by decide) (by decide) (by omega), ← hm5, mu_ne _ _ (by omega), mu_at]
                · rw [F9 _ _ (by omega) (by omega), F8 _ _ (by decide) (by decide) (by omega), ← hm5, mu_at]
                · rw [mu_ne _ _ (by omega), mu_ne _ _ (by omega), mu_at]
          have s1 := pcn_snoc (v := 1) (e := (i, p, j, z)) (K := s.2)
          have s2 := pcn_snoc (v := 2) (e := (i, p, j, z)) (K := s.2)
          dsimp only at s1 s2
          simp only [mu_at, e46, e47, e29]
          refine ⟨zz, fun n1 => ⟨by omega, zz, fun n2 => fin _ _ ?_ ?_, fun n2 => fin _ _ ?_ ?_⟩, fun n1 => ⟨by omega, zz, fun n2 => fin _ _ ?_ ?_, fun n2 => fin _ _ ?_ ?_⟩⟩
          all_goals first | (rw [s1]; split <;> omega) | (rw [s2]; split <;> omega)
      · rw [if_neg (by split at hok <;> omega)] at k
        refine k _ P x y hp hTP (fun _ _ _ => rfl) ⟨⟨?_, ?_, ?_, ?_⟩, ?_⟩ (lpF_trans G1 fun a q g1 g2 g3 g4 g5 => mu_ne _ _ (by omega))
        · rw [mu_at]
          omega
        · rw [mu_ne _ _ (by omega)]
          exact q2
        · rw [mu_ne _ _ (by omega)]
          exact q3
        · rw [mu_ne _ _ (by omega)]
          exact q4
        · exact QKr_fr q5 fun a q g1 g2 _ => mu_ne _ _ (by omega)
    · have ev : pst (ayw ar) N (Lmi ar Lf) (Lmi ar Rf) Lf Rf i p j = none := by
        unfold pst
        rw [if_neg hij, if_pos hq, hn]
      have es : pkst (ayw ar) N (Lmi ar Lf) (Lmi ar Rf) Lf Rf i p j s = s := by
        unfold pkst
        rw [ev]
      rw [es] at k
      exact k m1 P x y hp hTP (fun _ _ _ => rfl) (QKh_mp hs F1) (mpF_lp F1))
end RLP
