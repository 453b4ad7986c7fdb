/-! unify() in the reference -/
section RUN_
variable {X : aX} {d x y : Nat} {P : Mp} {J J' : Mj} {m m' : Mi} {Sn : Nat → Nat} {sc N : Nat} {ar : Nat → Int} {R : Nat → Mi} {n : Int} {t : Int → Int} {Z : Mi}
/-- what unify() may change in the reference -/
def ruF (m : Mi) (J : Mj) (m' : Mi) (J' : Mj) : Prop := (∀ a k, ¬ (a = 262 ∧ ((1 ≤ k ∧ k ≤ 13) ∨ k = 16 ∨ k = 17 ∨ k = 129 ∨ k = 130 ∨ k = 74 ∨ k = 87 ∨ k = 86 ∨ k = 122 ∨ k = 101 ∨ k = 136 ∨ k = 139)) → ¬ (269 ≤ a ∧ a ≤ 278) → ¬ (302 ≤ a ∧ a ≤ 320) → a ≠ 341 → a ≠ 342 → a ≠ 337 → a ≠ 338 → a ≠ 339 → a ≠ 347 → a ≠ 299 → a ≠ 349 → m' a k = m a k) ∧ (∀ a k, ¬ (a = 262 ∧ k = 7) → a ≠ 265 → a ≠ 266 → a ≠ 348 → J' a k = J a k)
theorem ruF_trans {m'' : Mi} {J'' : Mj} (h : ruF m J m' J') (h2 : ruF m' J' m'' J'') : ruF m J m'' J'' := ⟨fun a k g1 g2 g3 g4 g5 g6 g7 g8 g9 g10 g11 => (h2.1 a k g1 g2 g3 g4 g5 g6 g7 g8 g9 g10 g11).trans (h.1 a k g1 g2 g3 g4 g5 g6 g7 g8 g9 g10 g11), fun a k g1 g2 g3 g4 => (h2.2 a k g1 g2 g3 g4).trans (h.2 a k g1 g2 g3 g4)⟩
theorem kF_ru (h : kF m J m' J') : ruF m J m' J' := ⟨fun a k g1 g2 g3 g4 g5 g6 g7 g8 g9 g10 g11 => h.1 a k (by omega) g2 g4 g5, fun a k g1 g2 g3 g4 => h.2.1 a k g1 g2 g3⟩
/-- the pool's part of it -/
def poF (m m' : Mi) : Prop := ∀ a k, ¬ (302 ≤ a ∧ a ≤ 320) → ¬ (a = 262 ∧ (k = 74 ∨ k = 87 ∨ k = 86)) → m' a k = m a k
theorem poF_trans {m'' : Mi} (h : poF m m') (h2 : poF m' m'') : poF m m'' := fun a k g1 g2 => (h2 a k g1 g2).trans (h a k g1 g2)
theorem poF_ru (h : poF m m') : ruF m J m' J := ⟨fun a k g1 g2 g3 g4 g5 g6 g7 g8 g9 g10 g11 => h a k g3 (by omega), fun _ _ _ _ _ _ => rfl⟩
theorem ldF_po {tb : Nat} (htb : tb = 308 ∨ tb = 309) (h : ldF tb m m') : poF m m' := fun a k g1 g2 => h a k (by omega) (by omega) (by omega) (by omega)
theorem onF_po (h : onF m m') : poF m m' := fun a k g1 g2 => h a k (by omega) (by omega) (by omega) (by omega) (by omega) (by omega)
theorem wvF_ru {s0 : Nat} (h : wvF s0 m m') : ruF m J m' J := ⟨fun a k g1 g2 g3 g4 g5 g6 g7 g8 g9 g10 g11 => h a k (by omega) (by omega) (by omega) (by omega) (by omega) (by omega), fun _ _ _ _ _ _ => rfl⟩
theorem wrF_ru (h : wrF_ m J m' J') : ruF m J m' J' := ⟨fun a k g1 g2 g3 g4 g5 g6 g7 g8 g9 g10 g11 => h.1 a k g9 g10 g11 (by omega), fun a k g1 g2 g3 g4 => h.2 a k g4⟩
/-- VARIABLES that are there already are loaded -/
theorem LDI_vars {ay : Int → Nat} {cd : Nat → Int} {nx np : Nat → Nat} {mk : Nat → Int} {p K : Nat} {D : Nat → Prop} : ∀ (q : Nat), LDI ay cd nx mk np p K D m → (∀ c, p ≤ c → c < p + q → cd c < 0 ∧ ∃ c0, c0 < p ∧ cd c0 = cd c) → LDI ay cd nx mk np (p + q) K D m
  | 0, h, _ => h
  | q + 1, h, g => by
    have h1 := LDI_vars q h fun c h1 h2 => g c h1 (by omega)
    obtain ⟨g1, c0, g2, g3⟩ := g (p + q) (by omega) (by omega)
    show LDI ay cd nx mk np (p + q + 1) K D m
    exact LDI_old h1 (c0 := c0) (by omega) (by unfold ptc; rw [g3]; rw [if_pos g1, if_pos g1]) g1 (by omega) rfl (fun _ => ⟨rfl, rfl, rfl⟩) fun _ _ _ _ _ => rfl
/-- both sides of what was asked are loaded, and its VARIABLES -/
theorem r_loadAsk {l r : List Int} {vm : Nat} (hp : PP P) (har : arK sc ar) (hRA : RAr sc ar m) (hok : okN sc ar l r (sgs vm)) (hl : l.length ≤ 40 ∧ r.length ≤ 40) (hg : ∀ c, c ∈ l ++ r → gp sc c ∧ -6 ≤ c) (hV : ∀ v : Nat, v < vm → -1 - (v : Int) ∈ l ++ r) (h1 : m 262 129 = (l.length : Int)) (h2 : m 262 130 = (r.length : Int)) (hr1 : Ro m 341 0 l) (hr2 : Ro m 342 0 r) {post : Int → Int → Mi → Mj → Mp → Prop} (k : ∀ (np : Nat → Nat) (K : Nat) (m' : Mi), RGr (ayw ar) (cl (ngr l r (sgs vm))) (nl (ayw ar) (ngr l r (sgs vm))) (fun _ => 0) np (ngr l r (sgs vm)).length K m' → (∀ k, k < K → m' 303 k = -1) → ARr (ayw ar) (cl (ngr l r (sgs vm))) (ngr l r (sgs vm)).length m' → (∀ v, v < vm → m' 308 v = (np (880 + v) : Int)) → poF m m' → post (np (ptc (cl (ngr l r (sgs vm))) 0) : Nat) (np (ptc (cl (ngr l r (sgs vm))) l.length) : Nat) m' J P) : Cv X (d + 4) 164 [.ref 262] m J P (fun m11 J12 P13 => PP P13 ∧ Ci X (d + 4) 166 [.ref 262, .ref 341, .int (iz 0), .int (iz (m11 262 129)), .ref 308, .int (iz 0)] m11 J12 P13 (fun z19 m16 J17 P18 => PP P18 ∧ Ci X (d + 4) 166 [.ref 262, .ref 342, .int (iz 0), .int (iz (m16 262 130)), .ref 308, .int (iz 0)] m16 J17 P18 (fun z24 m21 J22 P23 => PP P23 ∧ post z19 z24 m21 J22 P23))) := by
  obtain ⟨hG, hAm⟩ := ng_G har hok
  have hln := ng_len (l := l) (r := r) (vs := sgs vm)
  have hs := har.1
  have n1 := ct_ne hok.1.1
  have n2 := ct_ne hok.1.2
  have kL : am_kd an_K 341 = some (.inr (0, 40)) := by decide +kernel
  have kR : am_kd an_K 342 = some (.inr (0, 40)) := by decide +kernel
  have kT : am_kd an_K 308 = some (.inr (0, 800)) := by decide +kernel
  have elr : (l ++ r).length = l.length + r.length := List.length_append
  have e1 : ngr l r (sgs vm) = [] ++ (l ++ (r ++ (sgs vm).flatten)) := rfl
  have e2 : ngr l r (sgs vm) = l ++ (r ++ (sgs vm).flatten) := rfl
  have hsf : (sgs vm).flatten.length = vm := sgs_flat
  have hclv : ∀ v, v < vm → cl (ngr l r (sgs vm)) (l.length + r.length + v) = -1 - (v : Int) := fun v hv => by
    have : ngr l r (sgs vm) = (l ++ r) ++ (sgs vm).flatten := by unfold ngr; rw [List.append_assoc]
    rw [this, ← elr, cl_shift]
    exact sgs_get hv
  have hcll : ∀ c, c < l.length + r.length → cl (ngr l r (sgs vm)) c = cl (l ++ r) c := fun c hc => by
    have : ngr l r (sgs vm) = (l ++ r) ++ (sgs vm).flatten := by unfold ngr; rw [List.append_assoc]
    rw [this, cl_app (by omega)]
  have hA : ∀ {m2}, poF m m2 → ARr (ayw ar) (cl (ngr l r (sgs vm))) (ngr l r (sgs vm)).length m2 := fun h => ARr_K har (RAr_fr hRA fun k => h _ _ (by decide) (by omega)) fun c hc => (ng_gd hs hok c hc).1
  have hrel : ∀ {B : List Int} (n0 : Nat), (∀ c, c ∈ B → c ∈ l ++ r) → ∀ q, q < B.length → (0 ≤ cl B q → (0 ≤ cl B q ∧ cl B q < 128) ∧ cl B q % 64 = cl B q % 32 ∧ (fun _ => (0 : Int)) (n0 + q) = if (0 : Int) ≤ 0 then 0 else cl B q / 64) ∧ (cl B q < 0 → ∃ v : Nat, v < 800 ∧ cl B q = -1 - (v : Int) ∧ (879 - cl B q).toNat = 880 + 0 + v) := fun n0 h => rel_0 (n := n0) hs fun c hc => by
    have := hg c (h c hc)
    exact ⟨this.1, by omega⟩
  refine r_clearPool hp (fun m1 a1 a2 a3 a4 => ⟨hp, ?_⟩)
  have F1 : poF m m1 := fun a k g1 g2 => a4 a k (by omega) (by omega) (by omega)
  rw [F1 _ _ (by decide) (by decide), h1]
  refine r_loadL (d := d + 3) (from_ := 0) (A := []) (B := l) (w := l) (np := fun _ => 0) (mk := fun _ => 0) (base := 0) (lim := 800) (K := 0) (D := fun _ => False) hp kL (by decide) kT (by decide) (Or.inl rfl) (by decide) (by decide) zr0 (Nat.le_refl _) hG e1 hok.1.1 (by omega) rfl (by omega) (by omega) (hrel ([] : List Int).length fun c hc => List.mem_append_left _ hc) (LDI_0 a1) (VTB_new (fun v hv => a2 v hv) (fun v hv h => by obtain ⟨c, hc, _⟩ := h; exact absurd hc (Nat.not_lt_zero _))) (fun c hc => hc.elim) (Ro_fr hr1 fun k _ _ => F1 _ _ (by decide) (by omega)) (hA F1) (fun np1 K1 m7 b1 b2 b3 b4 b5 b6 => ⟨hp, ?_⟩)
  have F7 : poF m m7 := poF_trans F1 (ldF_po (Or.inl rfl) b6)
  rw [F7 _ _ (by decide) (by decide), h2]
  have z0 : ([] : List Int).length + l.length = l.length := Nat.zero_add _
  rw [z0] at b1 b2 b3
  refine r_loadL (d := d + 3) (from_ := 0) (A := l) (B := r) (w := r) (np := np1) (mk := fun _ => 0) (base := 0) (lim := 800) hp kR (by decide) kT (by decide) (Or.inl rfl) (by decide) (by decide) zr0 (Nat.le_refl _) hG e2 hok.1.2 (by omega) rfl (by omega) (by omega) (hrel l.length fun c hc => List.mem_append_right _ hc) b1 b2 b3 (Ro_fr hr2 fun k _ _ => F7 _ _ (by decide) (by omega)) (hA F7) (fun np2 K2 m14 d1 d2 d3 d4 d5 d6 => ⟨hp, ?_⟩)
  have F14 : poF m m14 := poF_trans F7 (ldF_po (Or.inl rfl) d6)
  have occ : ∀ v, v < vm → ∃ c0, c0 < l.length + r.length ∧ cl (ngr l r (sgs vm)) c0 = -1 - (v : Int) := fun v hv => by
    obtain ⟨i, hi, e⟩ := List.mem_iff_getElem.mp (hV v hv)
    exact ⟨i, by omega, by rw [hcll i (by omega), cl_get hi, e]⟩
  have L2 := LDI_vars vm d1 fun c c1 c2 => by
    have := hclv (c - (l.length + r.length)) (by omega)
    rw [show l.length + r.length + (c - (l.length + r.length)) = c by omega] at this
    rw [this]
    exact ⟨by omega, occ _ (by omega)⟩
  have hn : l.length + r.length + vm = (ngr l r (sgs vm)).length := by omega
  rw [hn] at L2
  have L3 := LDI_D (D' := fun c => c < (ngr l r (sgs vm)).length) L2 fun c hc => ⟨hc, fun h0 j hj => by
    by_cases g : c < l.length + r.length
    · exact (L2.2.2.2.2.2.1 c (by simp only [Dor, List.length_nil]; omega)).2 h0 j hj
    · have := hclv (c - (l.length + r.length)) (by omega)
      rw [show l.length + r.length + (c - (l.length + r.length)) = c by omega] at this
      omega⟩
  have fin := k np2 K2 m14 (RGr_of L3 fun c hc => hc) L3.2.2.2.2.2.2 (hA F14) (fun v hv => ?_) F14
  · rw [d4 0 (by omega)] at fin
    exact fin
  · obtain ⟨c0, q1, q2⟩ := occ v hv
    rcases d2 v (by have := hok.2.1.2.2; rw [sgs_len] at this; omega) with h | h
    · rw [Nat.add_zero] at h
      exact h.2
    · exact absurd (ocr_mk (c := c0) (z := 880 + 0 + v) (by omega) (by unfold ptc; rw [q2, if_pos (by omega)]; omega)) h.1
end RUN_
