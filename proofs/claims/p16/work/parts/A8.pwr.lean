/-! the class's Pairs: write() -/
section PWR
variable {X : aX} {d : Nat} {P : Mp} {J : Mj} {m m' : Mi} {ar : Nat → Int} {sc b : Nat}
theorem gvb {L l r : List Int} (hZ : ∀ c, c ∈ l ++ r → -8 ≤ c) : ∀ c, c ∈ L ++ adl (vmx L) l r → -c ≤ vmx L + 8 := by
  intro c hc
  have h0 := vmx_0 (L := L)
  rcases List.mem_append.mp hc with h | h
  · have := vmx_mem h
    omega
  · unfold adl at h
    rcases List.mem_append.mp h with h | h
    · obtain ⟨e, he, q⟩ := List.mem_map.mp h
      have := hZ e (List.mem_append_left _ he)
      rw [← q]
      unfold shf
      split <;> omega
    · obtain ⟨e, he, q⟩ := List.mem_map.mp h
      have := hZ e (List.mem_append_right _ he)
      rw [← q]
      unfold shm
      split <;> omega
/-- a VARIABLE that stands somewhere -/
theorem ocr_b {L : List Int} {B : Int} {z : Nat} (hb : ∀ c, c ∈ L → -c ≤ B) (h : Ocr (cl L) L.length z) (h8 : 880 ≤ z) (hl : L.length ≤ 880) : (z : Int) ≤ 879 + B := by
  obtain ⟨c, hc, e⟩ := h
  unfold ptc at e
  by_cases g : cl L c < 0
  · rw [if_pos g] at e
    have := hb _ (cl_mem hc)
    omega
  · rw [if_neg g] at e
    omega
/-- the two TERMS of a PAIR, as they are written at first -/
def pw1 (ay : Int → Nat) (l1 r1 l2 r2 : List Int) (p : Nat) (R : Nat → Nat) : Option (List Int) := pt ay (cl (pgr l1 r1 l2 r2)) (nl ay (pgr l1 r1 l2 r2)) R (emc (cl (pgr l1 r1 l2 r2)) 0) p ((l1 ++ r1).length + l2.length) 200 [(l1.length, false)]
def pw2 (ay : Int → Nat) (l1 r1 l2 r2 : List Int) (p : Nat) (R : Nat → Nat) : Option (List Int) := pt ay (cl (pgr l1 r1 l2 r2)) (nl ay (pgr l1 r1 l2 r2)) R (emc (cl (pgr l1 r1 l2 r2)) 0) p ((l1 ++ r1).length + l2.length) 200 [(0, false)]
theorem emc_0 {cd : Nat → Int} {c : Nat} {w : Bool} : emc cd 0 c w = cd c % 32 := by
  unfold emc
  rw [if_neg (by decide), if_pos (Or.inr rfl)]
theorem pw_ok {l1 r1 l2 r2 : List Int} {p : Nat} {R : Nat → Nat} (har : arK sc ar) (h1 : ZK sc ar l1 r1) (h2 : ZK sc ar l2 r2) (hpl : p < l1.length) (hR : ovl (ayw ar) l1 r1 l2 r2 p = some R) {a : Nat} {l : List Int} (ha : a < (pgr l1 r1 l2 r2).length) (h : pt (ayw ar) (cl (pgr l1 r1 l2 r2)) (nl (ayw ar) (pgr l1 r1 l2 r2)) R (emc (cl (pgr l1 r1 l2 r2)) 0) p ((l1 ++ r1).length + l2.length) 200 [(a, false)] = some l) : (ctt (ayw ar) l = some 1 ∧ l.length ≤ 200) ∧ ∀ v, v ∈ l → (0 ≤ v → v < sc) ∧ (v < 0 → -1 - v < vmx (l1 ++ r1) + 8) := by
  obtain ⟨hGP, hAm⟩ := GokP (l1 := l1) (r1 := r1) (l2 := l2) (r2 := r2) har h1 h2
  have hlen1 : (l1 ++ r1).length = l1.length + r1.length := List.length_append
  have hlenG : (pgr l1 r1 l2 r2).length = l1.length + r1.length + (l2.length + r2.length) := by unfold pgr; rw [List.length_append, adl_len, hlen1]
  have n2 : 0 < r2.length := ct_ne h2.1.2
  have n3 : 0 < l2.length := ct_ne h2.1.1
  have hu := uni_ok hGP ayw_32 (by omega) (by omega) hR
  obtain ⟨i1, i2⟩ := pt_ok hGP hu.2 (em := emc (cl (pgr l1 r1 l2 r2)) 0) (fun c w hc h0 => by
    rw [emc_0]
    exact ayw_32 _ _ (by omega) h0 (by omega)) (by omega) 200 [(a, false)] l h (fun e he => by rw [List.mem_singleton.mp he]; exact ha)
  refine ⟨⟨i1, pt_len h⟩, fun v hv => ?_⟩
  rcases i2 v hv with ⟨c, w, hc, hc0, e⟩ | ⟨z, hz, hz8, e⟩
  · rw [emc_0] at e
    have hm := cl_mem hc
    have hgd : gd sc (cl (pgr l1 r1 l2 r2) c) := by
      have hv1 : vmx (l1 ++ r1) ≤ 800 := vmx_le (by decide) fun c hc => by have := (h1.2.1 c hc).2; omega
      rcases List.mem_append.mp hm with q | q
      · exact gd_gp har.1 (h1.2.1 _ q).1
      · exact (adl_mem har.1 h2.2.1 q vmx_0 hv1).1
    have := hgd.2.2 hc0
    exact ⟨fun _ => by omega, fun _ => by omega⟩
  · have := ocr_b (gvb fun c hc => (h2.2.1 c hc).2) hz hz8 hGP.1
    exact ⟨fun _ => by omega, fun _ => by omega⟩
theorem c_pwrite {i p j : Nat} {l1 r1 l2 r2 : List Int} {R rt T : Nat → Nat} {B : Nat} {col : Nat → Int} (hp : PP P) (hb : b = 54 ∨ b = 155) (har : arK sc ar) (hi : i < 16) (hj : j < 16) (hpl : p < l1.length) (h1 : ZK sc ar l1 r1) (h2 : ZK sc ar l2 r2) (hR1 : RB (b + 5 + 6 * i) (ayw ar) l1 r1 m) (hR2 : RB (b + 5 + 6 * j) (ayw ar) l2 r2 m) (hR : ovl (ayw ar) l1 r1 l2 r2 p = some R) (hC : CI 8 R rt T B col m) (hB : B ≤ 1000) (hGC : GC 8 (cl (pgr l1 r1 l2 r2)) (nl (ayw ar) (pgr l1 r1 l2 r2)) (pgr l1 r1 l2 r2).length m) (hcells : m 8 2 = ((l1 ++ r1).length : Int)) (hvars : m 8 3 = vmx (l1 ++ r1)) {post : Int → Mi → Mj → Mp → Prop} (k1 : ∀ w1 w2, pw1 (ayw ar) l1 r1 l2 r2 p R = some w1 → pw2 (ayw ar) l1 r1 l2 r2 p R = some w2 → ∀ m', MD 8 m' (nbr [] (w1 ++ w2)).1 → m' 36 6 = (w1.length : Int) → ATT 8 m' → m' 8 8 = m 8 8 → (∀ a k, ¬ (8 ≤ a ∧ a ≤ 17) → ¬ (a = 36 ∧ k = 6) → m' a k = m a k) → post 1 m' J P) (k0 : pw1 (ayw ar) l1 r1 l2 r2 p R = none ∨ pw2 (ayw ar) l1 r1 l2 r2 p R = none → ∀ m', ATT 8 m' → m' 8 8 = m 8 8 → (∀ a k, ¬ (8 ≤ a ∧ a ≤ 17) → ¬ (a = 36 ∧ k = 6) → m' a k = m a k) → post 0 m' J P) : Ci X (d + 2) 59 [.ref 36, .int (iz (i : Int)), .int (iz (p : Int)), .int (iz (j : Int)), .ref b] m J P post := by
  have kx := kd_bench (x0 := 8) (Or.inl rfl)
  have kb := kd_book hb
  have hl1 := h1.2.2
  have hl2 := h2.2.2
  have n2 : 0 < r2.length := ct_ne h2.1.2
  have n3 : 0 < l2.length := ct_ne h2.1.1
  have n4 : 0 < r1.length := ct_ne h1.1.2
  have ei : ((i : Nat) : Int).toNat = i := by omega
  have ej : ((j : Nat) : Int).toNat = j := by omega
  obtain ⟨hGP, hAm⟩ := GokP (l1 := l1) (r1 := r1) (l2 := l2) (r2 := r2) har h1 h2
  have hlen1 : (l1 ++ r1).length = l1.length + r1.length := List.length_append
  have hlenG : (pgr l1 r1 l2 r2).length = l1.length + r1.length + (l2.length + r2.length) := by unfold pgr; rw [List.length_append, adl_len, hlen1]
  have hu := uni_ok hGP ayw_32 (by omega) (by omega) hR
  have hv1 : vmx (l1 ++ r1) ≤ 8 := vmx_le (by decide) fun c hc => by have := (h1.2.1 c hc).2; omega
  have hhole : ∀ a, a < (pgr l1 r1 l2 r2).length → ((a : Int) = (p : Int) ↔ a = p) := fun a _ => by omega
  have hpatch : p < (pgr l1 r1 l2 r2).length → (l1 ++ r1).length + l2.length < (pgr l1 r1 l2 r2).length ∧ (((l1 ++ r1).length : Int) + (l2.length : Int)) = (((l1 ++ r1).length + l2.length : Nat) : Int) := fun _ => ⟨by omega, by omega⟩
  have zp : Zr (p : Int) := by constructor <;> omega
  refine Ci.of rfl rfl rfl (b_Pairs_write_0 i p j b kb m J P hp post ⟨by omega, ?_⟩)
  rw [ej, hcells, hR2.1.1]
  refine c_bbegin (hv := (p : Int)) (pv := ((l1 ++ r1).length : Int) + (l2.length : Int)) hp kx (fun m1 u1 u2 u3 u4 => ⟨hp, by omega, ?_⟩)
  rw [ei, u4 _ _ (by omega), hR1.1.1]
  have C1 : CI 8 R rt T B col m1 := CI_fr hC (u4 _ _ (by decide)) (fun a k _ _ => u4 _ _ (by omega))
  have G1 := GC_fr (m' := m1) hGC (fun k => u4 _ _ (by omega)) (fun k => u4 _ _ (by omega))
  have z200 : (200 : Int) = ((200 : Nat) : Int) := rfl
  rw [z200]
  refine c_put (lim := 200) (made := []) (mg := 0) (hole := p) (patch := (l1 ++ r1).length + l2.length) hp kx hGP hu.1.1 hB (Or.inl rfl) hhole zp hpatch (by decide) (Nat.le_refl _) (by omega) u1 C1 G1 u2 u3 (fun w1 hw1 m2 v1 v2 v3 v4 => ⟨hp, ?_⟩) (fun hn m2 v1 v2 => ⟨hp, ?_⟩)
  · have okw := pw_ok har h1 h2 hpl hR (by omega) hw1
    have hwl := okw.1.2
    rw [mu_at]
    have F2 : ∀ a k, ¬ (8 ≤ a ∧ a ≤ 17) → ¬ (a = 36 ∧ k = 6) → mu m2 36 6 (w1.length : Int) a k = m a k := fun a k g1 g2 => by
      rw [mu_ne _ _ g2, v4 a k (by omega) (by omega), u4 a k (by omega)]
    refine ⟨by constructor <;> omega, fun g => absurd g (by omega), fun _ => ?_⟩
    have M2 : MD 8 (mu m2 36 6 (w1.length : Int)) w1 := MD_fr v1 (mu_ne _ _ (by decide)) (fun k => mu_ne _ _ (by omega))
    have z0 : (0 : Int) = ((0 : Nat) : Int) := rfl
    have C2 : CI 8 R rt T B col (mu m2 36 6 (w1.length : Int)) := CI_fr v2 (mu_ne _ _ (by decide)) (fun a k _ _ => mu_ne _ _ (by omega))
    have h2h : mu m2 36 6 (w1.length : Int) 8 13 = (p : Int) := (mu_ne _ _ (by decide)).trans ((v4 _ _ (by decide) (by decide)).trans u2)
    have h2p : mu m2 36 6 (w1.length : Int) 8 14 = ((l1 ++ r1).length : Int) + (l2.length : Int) := (mu_ne _ _ (by decide)).trans ((v4 _ _ (by decide) (by decide)).trans u3)
    have at2 : mu m2 36 6 (w1.length : Int) 8 8 = m 8 8 := (mu_ne _ _ (by decide)).trans ((v4 _ _ (by decide) (by decide)).trans (u4 _ _ (by decide)))
    have vr2 : mu m2 36 6 (w1.length : Int) 8 3 = vmx (l1 ++ r1) := (mu_ne _ _ (by decide)).trans ((v4 _ _ (by decide) (by decide)).trans ((u4 _ _ (by decide)).trans hvars))
    refine c_put (a0 := 0) (lim := 200) (made := w1) (mg := 0) (hole := p) (patch := (l1 ++ r1).length + l2.length) hp kx hGP hu.1.1 hB (Or.inl rfl) hhole zp hpatch (by omega) (Nat.le_refl _) (by omega) M2 C2 (GC_fr v3 (fun k => mu_ne _ _ (by omega)) (fun k => mu_ne _ _ (by omega))) h2h h2p (fun w2 hw2 m3 t1 t2 t3 t4 => ⟨hp, ?_⟩) (fun hn m3 t1 t2 => ⟨hp, ?_⟩)
    · have okw2 := pw_ok har h1 h2 hpl hR (by omega) hw2
      have hwl2 := okw2.1.2
      have bnd : ∀ v, v ∈ w1 ++ w2 → (0 ≤ v → v < sc) ∧ (v < 0 → -1 - v < vmx (l1 ++ r1) + 8) := fun v hv => by
        rcases List.mem_append.mp hv with q | q
        · exact okw.2 v q
        · exact okw2.2 v q
      have hs := har.1
      refine ⟨by constructor <;> omega, fun _ => ?_, fun g => absurd (show ¬ ((w2.length : Nat) : Int) = -1 by omega) g⟩
      refine c_rename hp kx t1 ((t4 _ _ (by decide) (by decide)).trans vr2) ⟨vmx_0, by omega⟩ (fun v hv h0 => (bnd v hv).2 h0) (fun v hv => by
        by_cases q : 0 ≤ v
        · have := (bnd v hv).1 q; omega
        · omega) (fun m4 s1 s2 => ⟨hp, ?_⟩)
      refine k1 w1 w2 hw1 hw2 m4 s1 ?_ ?_ ?_ (fun a k g1 g2 => ?_)
      · rw [s2 _ _ (by decide) (by decide), t4 _ _ (by decide) (by decide), mu_at]
      · have e1 : m4 8 8 = m3 8 8 := s2 _ _ (by decide) (by decide)
        refine ⟨by rw [e1]; exact t2.1.1, fun z hz => ?_⟩
        rw [e1, s2 _ _ (by decide) (by decide)]
        exact t2.1.2 z hz
      · rw [s2 _ _ (by decide) (by decide), t4 _ _ (by decide) (by decide)]
        exact at2
      · rw [s2 a k (by omega) (by omega), t4 a k (by omega) (by omega)]
        exact F2 a k g1 g2
    · refine ⟨zrm, fun g => absurd rfl g, fun _ => k0 (Or.inr hn) m3 t1.1 ((t2 _ _ (by decide) (by decide)).trans at2) (fun a k g1 g2 => ?_)⟩
      rw [t2 a k (by omega) (by omega)]
      exact F2 a k g1 g2
  · rw [mu_at]
    refine ⟨zrm, fun _ => k0 (Or.inl hn) _ ?_ ?_ (fun a k g1 g2 => ?_), fun g => absurd rfl g⟩
    · have e1 : mu m2 36 6 (-1) 8 8 = m2 8 8 := mu_ne _ _ (by decide)
      refine ⟨by rw [e1]; exact v1.1.1, fun z hz => ?_⟩
      rw [e1, mu_ne _ _ (by omega)]
      exact v1.1.2 z hz
    · rw [mu_ne _ _ (by decide), v2 _ _ (by decide) (by decide), u4 _ _ (by decide)]
    · rw [mu_ne _ _ g2, v2 a k (by omega) (by omega), u4 a k (by omega)]
end PWR
