/-! unify() in the class -/
section CUN
variable {X : aX} {d : Nat} {P : Mp} {J J' : Mj} {m m' : Mi} {Sn : Nat → Nat} {sc b s o g N : Nat} {ar : Nat → Int} {R : Nat → Mi} {n : Int} {t : Int → Int} {Z : Mi}
noncomputable def nuni (ay : Int → Nat) (l r : List Int) (vs : List (List Int)) : Option (Nat → Nat) := uni ay (cl (ngr l r vs)) (nl ay (ngr l r vs)) (ngr l r vs).length 0 l.length
def nval (ay : Int → Nat) (l r : List Int) (vs : List (List Int)) (R : Nat → Nat) : Option (List (List Int)) := pvs ay (cl (ngr l r vs)) (nl ay (ngr l r vs)) R (emc (cl (ngr l r vs)) 0) 100000 0 vs.length (l.length + r.length)
theorem flat_take {vs : List (List Int)} {i : Nat} : (vs.take i).flatten.length ≤ vs.flatten.length := by
  have : vs.flatten.length = (vs.take i).flatten.length + (vs.drop i).flatten.length := by
    conv => lhs; rw [← List.take_append_drop i vs]
    rw [List.flatten_append, List.length_append]
  omega
theorem flat_take_lt {ay : Int → Nat} {vs : List (List Int)} {i : Nat} (h : ∀ w, w ∈ vs → ctt ay w = some 1) (hi : i < vs.length) : (vs.take i).flatten.length < vs.flatten.length := by
  have e1 : vs = vs.take i ++ (vs[i] :: vs.drop (i + 1)) := by rw [← List.drop_eq_getElem_cons hi, List.take_append_drop]
  have e2 : vs.flatten.length = (vs.take i).flatten.length + (vs[i].length + (vs.drop (i + 1)).flatten.length) := by
    conv => lhs; rw [e1]
    rw [List.flatten_append, List.flatten_cons, List.length_append, List.length_append]
  have := ct_ne (h _ (List.getElem_mem hi))
  omega
/-- where the VALUES of a NODE stand -/
theorem ng_kid {l r : List Int} {vs : List (List Int)} (h : okN sc ar l r vs) {i : Nat} (hi : i ≤ vs.length) : kid (nl (ayw ar) (ngr l r vs)) (l.length + r.length) i = l.length + r.length + (vs.take i).flatten.length := by
  have := kid_flat (ay := ayw ar) (A := l ++ r) (E := []) (vs := vs) (fun w hw => (h.2.2.1 w hw).1) hi
  rw [List.append_nil, List.append_assoc, List.length_append] at this
  exact this
theorem ng_st {l r : List Int} {vs : List (List Int)} (h : okN sc ar l r vs) {i : Nat} (hi : i < vs.length) : kid (nl (ayw ar) (ngr l r vs)) (l.length + r.length) i < (ngr l r vs).length ∧ l.length + r.length ≤ kid (nl (ayw ar) (ngr l r vs)) (l.length + r.length) i := by
  have := flat_take_lt (fun w hw => (h.2.2.1 w hw).1) hi
  rw [ng_kid h (by omega), ng_len]
  omega
theorem ng_V {l r : List Int} {vs : List (List Int)} (har : arK sc ar) (h : okN sc ar l r vs) {c : Nat} (hc : c < (ngr l r vs).length) (hV : l.length + r.length ≤ c) {i : Nat} (hi : i < ayw ar (cl (ngr l r vs) c)) : l.length + r.length ≤ kid (nl (ayw ar) (ngr l r vs)) (c + 1) i := by
  have := G_kid (ng_G har h).1 hc hi
  omega
theorem nval_ok {l r : List Int} {vs ls : List (List Int)} {Q : Nat → Nat} (har : arK sc ar) (h : okN sc ar l r vs) (hu : nuni (ayw ar) l r vs = some Q) (hv : nval (ayw ar) l r vs Q = some ls) : ls.length = vs.length ∧ okV sc ar (vmx (ngr l r vs)) ls := by
  obtain ⟨hG, _⟩ := ng_G har h
  have n1 := ct_ne h.1.1
  have n2 := ct_ne h.1.2
  have hl := ng_len (l := l) (r := r) (vs := vs)
  obtain ⟨_, hO⟩ := uni_ok hG ayw_32 (by omega) (by omega) hu
  exact pvs_ok har hG hO (fun c hc h0 => (ng_gd har.1 h _ (cl_mem hc)).1.2.2 h0) (fun z hz h8 => by have := ocr_b (fun c hc => vmx_mem hc) hz h8 hG.1; omega) (Or.inl (by omega)) hv fun i hi => (ng_st h hi).1
/-- what unify() writes -/
noncomputable def ushow (ay : Int → Nat) (Sn : Nat → Nat) (nm : Nat → Int) (ls : List (List Int)) : Ws := shV nm ay Sn (nbl [] ls) 0 ([], nvL nm (nbl [] ls) 0 (fun _ => 0), 0)
theorem MD_flat {x0 : Nat} {l : List Int} (h : MD x0 m l) : Ro m (x0 + 8) 0 l := h.2.2
theorem Ro_RCl {x : Nat} : ∀ {vs : List (List Int)} {f : Nat}, Ro m x f vs.flatten → (∀ w, w ∈ vs → ∀ c, c ∈ w → c < 32) → RCl x m f vs
  | [], _, _, _ => trivial
  | w :: vs, f, h, g => by
    rw [List.flatten_cons] at h
    obtain ⟨h1, h2⟩ := Ro_app.mp h
    exact ⟨Ro_RC h1 (g w List.mem_cons_self), Ro_RCl h2 fun w' hw => g w' (List.mem_cons_of_mem _ hw)⟩
theorem Ro_RDl {x : Nat} : ∀ {vs : List (List Int)} {f : Nat}, Ro m x f vs.flatten → (∀ w, w ∈ vs → ∀ c, c ∈ w → c < 64) → RDl x m f vs
  | [], _, _, _ => trivial
  | w :: vs, f, h, g => by
    rw [List.flatten_cons] at h
    obtain ⟨h1, h2⟩ := Ro_app.mp h
    exact ⟨Ro_RD h1 (g w List.mem_cons_self), Ro_RDl h2 fun w' hw => g w' (List.mem_cons_of_mem _ hw)⟩
theorem nbl_okw {B : Int} {ls : List (List Int)} (h : okV sc ar B ls) (hl : ls.flatten.length ≤ 800) : ∀ w, w ∈ nbl [] ls → okw sc ar w := fun w hw => by
  obtain ⟨a1, a2, a3⟩ := nbl_ok (seen := []) h (by rw [List.length_nil]; omega) w hw
  exact ⟨a1, by omega, a3⟩
/-- what unify() may change in the class -/
def cuF (o : Nat) (m : Mi) (J : Mj) (m' : Mi) (J' : Mj) : Prop := (∀ a k, a ≠ 2 → a ≠ 4 → a ≠ 7 → (a < o ∨ o + 3 < a) → ¬ (18 ≤ a ∧ a ≤ 27) → a ≠ 50 → a ≠ 51 → a ≠ 53 → m' a k = m a k) ∧ m' 2 1 = 0 ∧ (∀ a k, a ≠ 2 → a ≠ o + 5 → a ≠ 52 → J' a k = J a k)
theorem aF_cu (h : aF o m J m' J') : cuF o m J m' J' := ⟨fun a k g1 g2 g3 g4 _ _ _ _ => h.1 a k g1 g2 g3 g4, h.2.1, fun a k g1 g2 _ => h.2.2 a k g1 g2⟩
theorem ATT_fr {x0 : Nat} (h : ATT x0 m) (f1 : m' x0 8 = m x0 8) (f2 : ∀ z, m' (x0 + 6) z = m (x0 + 6) z) : ATT x0 m' := by
  refine ⟨by rw [f1]; exact h.1, fun z hz => ?_⟩
  rw [f1, f2]
  exact h.2 z hz
theorem c_unify {rl : Int} (hp : PP P) (hbp : BP P b s) (hsp : SPt P o g) (hm : Tp m) (hz : Zr n) (h2 : 0 ≤ m 2 1 ∧ m 2 1 ≤ 1600) (hrl : m 1 11 = rl) (hr01 : rl = 0 ∨ rl = 1) (hS : Sq sc Sn ar N R) (hC : CSy b sc Sn ar N R m J) (hAT : ATT 18 m) (hA0 : m 18 8 < 2147483647) {post : Int → Mi → Mj → Mp → Prop} (k0 : rl = 0 ∨ n < 0 ∨ m 2 1 < n → post (-1) m J P) (kf : rl = 1 → 0 ≤ n ∧ n ≤ m 2 1 → (qA Sn sc ar (txC m n) n (qG (txC m n) n)).1 ≠ 0 → ∀ m' J', m' 4 3 = (qA Sn sc ar (txC m n) n (qG (txC m n) n)).1 → m' 4 4 = (qA Sn sc ar (txC m n) n (qG (txC m n) n)).2 → m' 50 1 = m 50 1 → (∀ k, m' 51 k = m 51 k) → ATT 18 m' → m' 18 8 = m 18 8 → cuF o m J m' J' → post (-4) m' J' P) (k1 : rl = 1 → 0 ≤ n ∧ n ≤ m 2 1 → (qA Sn sc ar (txC m n) n (qG (txC m n) n)).1 = 0 → ∀ l r vs nm, l = ZL Sn sc (qG (txC m n) n) → r = ZR Sn sc (qG (txC m n) n) → vs = sgs (qG (txC m n) n 0 4).toNat → nm = qG (txC m n) n 7 → ∀ m' J', m' 4 3 = 0 → m' 4 4 = -1 → ATT 18 m' → m' 18 8 = m 18 8 + 1 → cuF o m J m' J' → (nuni (ayw ar) l r vs = none → m' 50 1 = m 50 1 → (∀ k, m' 51 k = m 51 k) → post 0 m' J' P) ∧ ∀ Q, nuni (ayw ar) l r vs = some Q → (nval (ayw ar) l r vs Q = none → m' 50 1 = m 50 1 → (∀ k, m' 51 k = m 51 k) → post 2 m' J' P) ∧ ∀ ls, nval (ayw ar) l r vs Q = some ls → OC (ushow (ayw ar) Sn nm ls).1 m' → post 1 m' J' P) : Ci X (d + 7) 90 [.ref 1, .int (iz n)] m J P post := by
  have hbs := BP_kd hbp
  have hb := hbs.1
  have kb := kd_book hb
  have hs16 := hS.1.1
  have har := Sq_ar hS
  have ho : o = 39 ∨ o = 256 := by rcases hsp.2.2 with h | h <;> omega
  obtain ⟨ko, ko1⟩ := SP_kd ho
  have zr : Zr rl := by rcases hr01 with h | h <;> rw [h] <;> constructor <;> decide
  have zh : Zr (m 2 1) := by constructor <;> omega
  have kx : am_kd an_K 18 = some (.inl 4) := kd_bench (Or.inr rfl)
  have kM : am_kd an_K 26 = some (.inr (0, 800)) := by decide +kernel
  refine Ci.of rfl rfl rfl (b_Nh_unify_0 n m J P hp post ?_)
  rw [hrl]
  refine ⟨zr, fun g => k0 (Or.inl g), fun g => ?_⟩
  have hr1 : rl = 1 := by omega
  refine c_lacks hp hz zh (fun g => ⟨hp, zr1, fun e => absurd e (by decide), fun _ => k0 (Or.inr g)⟩) (fun hg => ⟨hp, zr0, fun _ => ⟨b, hbp.1, kb, o, hsp.1, ko, ?_⟩, fun e => absurd rfl e⟩)
  have hn : 0 ≤ n ∧ n ≤ 1600 := by omega
  have hT := txC_T hm hn
  have hEB : EB o b := by unfold EB; omega
  refine c_readGoal hp kb ko hEB hs16 hm hn hC.1 hC.2.1 (fun e m1 J1 v1 v2 v3 v4 => ⟨hp, zr0, fun _ => ?_, fun g => absurd rfl g⟩) (fun e m1 J1 v1 v2 v3 => ⟨hp, ?_, fun g => absurd g e, fun _ => kf hr1 hg e m1 J1 v1 v2 (v3.1 _ _ (by decide) (by decide) (by decide) (by omega)) (fun k => v3.1 _ _ (by decide) (by decide) (by decide) (by omega)) (ATT_fr hAT (v3.1 _ _ (by decide) (by decide) (by decide) (by omega)) fun z => v3.1 _ _ (by decide) (by decide) (by decide) (by omega)) (v3.1 _ _ (by decide) (by decide) (by decide) (by omega)) (aF_cu v3)⟩)
  · obtain ⟨a1, ⟨a2, a3, a4⟩, a5, a6, a7, a8, _⟩ := qG_ok hT hs16 e
    have hok := ug_ok hT hs16 e
    have k1' := k1 hr1 hg e _ _ _ _ rfl rfl rfl rfl
    clear k1 kf k0
    have hrow : Ro m1 (o + 1) 0 (ZL Sn sc (qG (txC m n) n) ++ ZR Sn sc (qG (txC m n) n)) := by
      have eall : ZL Sn sc (qG (txC m n) n) ++ ZR Sn sc (qG (txC m n) n) = sgl (cdZ Sn sc (qG (txC m n) n)) 0 (qG (txC m n) n 0 3).toNat := by
        unfold ZL ZR
        have := sgl_app (cd := cdZ Sn sc (qG (txC m n) n)) (i := (qG (txC m n) n 0 7).toNat) (j := (qG (txC m n) n 0 3).toNat - (qG (txC m n) n 0 7).toNat) (a := 0)
        rw [Nat.zero_add] at this
        rw [← this]
        congr 1; omega
      rw [eall]
      refine Ro_sgl fun i hi => ?_
      rw [Nat.zero_add, (v3.1.2.1 i (by omega)).1]
      unfold ce cdZ
      by_cases q : 0 ≤ qG (txC m n) n 1 i
      · rw [if_pos q, if_pos q]
      · rw [if_neg q, if_neg q]
        unfold sy
        rw [if_neg (by have := a6 i hi (by omega); omega)]
    have hC1 : CSy b sc Sn ar N R m1 J1 := CSy_fr hs16 hC (fun a k g1 g2 => v4.1 a k (by omega) (by omega) (by omega) (by omega)) (fun a k g1 g2 => v4.2.2 a k (by omega) (by omega))
    have hsz := v3.1.1
    have hvar := v3.1.2.2.1
    have hnam := v3.1.2.2.2
    have hlft := v3.2.1
    have hAT1 : ATT 18 m1 := ATT_fr hAT (v4.1 _ _ (by decide) (by decide) (by decide) (by omega)) fun z => v4.1 _ _ (by decide) (by decide) (by decide) (by omega)
    have hA1 : m1 18 8 = m 18 8 := v4.1 _ _ (by decide) (by decide) (by decide) (by omega)
    generalize ZL Sn sc (qG (txC m n) n) = l at *
    generalize ZR Sn sc (qG (txC m n) n) = r at *
    generalize qG (txC m n) n = Z at *
    have elr : (l ++ r).length = l.length + r.length := List.length_append
    have hsz' : m1 o 6 = ((l ++ r).length : Int) := by rw [hsz]; omega
    have hvar' : m1 o 7 = ((Z 0 4).toNat : Int) := by rw [hvar]; omega
    have hlft' : m1 o 5 = (l.length : Int) := by rw [hlft]; omega
    obtain ⟨vm, hvm⟩ : ∃ vm, vm = (Z 0 4).toNat := ⟨_, rfl⟩
    rw [← hvm] at hvar' k1' hok
    refine ⟨o, hsp.1, ko, ?_⟩
    refine c_takeGoal (d := d + 5) (x0 := 18) (vm := vm) (L := l ++ r) (f := fun c => c) hp (Or.inr rfl) ko (by omega) (fun c hc => ⟨fun _ => rfl, fun h0 => (zor_0 ⟨h0, by have := (a5 c hc).1.2.1; omega⟩).symm⟩) (fun c hc => ⟨(a5 c hc).1.1, (a5 c hc).1.2.1⟩) (by omega) (by omega) hsz' hvar' hrow (fun m2 w1 w2 => ⟨hp, b, hbp.1, kb, ?_⟩)
    rw [show (l ++ r).map (fun c => c) = l ++ r by simp, List.append_assoc] at w1
    have w1' : MD 18 m2 (ngr l r (sgs vm)) := w1
    have hsl : (sgs vm).length = vm := sgs_len
    generalize sgs vm = vs at *
    have h800 := ng_800 hok
    have hct := ng_ct hok
    have hgd := ng_gd hs16 hok
    obtain ⟨hG, hAm⟩ := ng_G har hok
    have n1 := ct_ne hok.1.1
    have n2 := ct_ne hok.1.2
    have hln := ng_len (l := l) (r := r) (vs := vs)
    rw [w1'.2.1]
    have hA2 : BA b sc ar m2 := BA_fr hC1.2.1 hs16 fun k _ => w2 _ _ (by omega) (by omega)
    refine c_load (d := d + 5) (x0 := 18) (x1 := 26) (n1 := 800) (from_ := 0) (L := ngr l r vs) hp (Or.inr rfl) kx kM (by decide) (Or.inr rfl) hb kb hs16 hA2 hct h800.1 (by omega) (fun c hc => ⟨(hgd c hc).1, by have := (hgd c hc).2; omega⟩) w1'.2.2 (fun m3 u1 u2 u3 u4 => ⟨hp, o, hsp.1, ko, ?_⟩)
    have F3 : ∀ a k, ¬ (18 ≤ a ∧ a ≤ 27) → m3 a k = m1 a k := fun a k q => (u4 a k (by omega) (by omega) (by omega)).trans (w2 a k (by omega) (by omega))
    have e5 : m3 o 5 = (l.length : Int) := (F3 _ _ (by omega)).trans hlft'
    have A3 : ATT 18 m3 := ATT_fr hAT1 ((u4 _ _ (by decide) (by decide) (by decide)).trans (w2 _ _ (by decide) (by decide))) fun z => (u4 _ _ (by decide) (by decide) (by omega)).trans (w2 _ _ (by decide) (by omega))
    have A3' : m3 18 8 = m 18 8 := ((u4 _ _ (by decide) (by decide) (by decide)).trans (w2 _ _ (by decide) (by decide))).trans hA1
    rw [e5, show (0 : Int) = ((0 : Nat) : Int) from rfl]
    have FF : ∀ m4 : Mi, (∀ a k, ¬ (18 ≤ a ∧ a ≤ 27) → m4 a k = m3 a k) → cuF o m J m4 J1 ∧ m4 4 3 = 0 ∧ m4 4 4 = -1 ∧ m4 50 1 = m 50 1 ∧ ∀ k, m4 51 k = m 51 k := fun m4 f => by
      have q : ∀ a k, ¬ (18 ≤ a ∧ a ≤ 27) → m4 a k = m1 a k := fun a k q => (f a k q).trans (F3 a k q)
      exact ⟨⟨fun a k g1 g2 g3 g4 g5 _ _ _ => (q a k g5).trans (v4.1 a k g1 g2 g3 g4), (q _ _ (by decide)).trans v4.2.1, fun a k g1 g2 _ => v4.2.2 a k g1 g2⟩, (q _ _ (by decide)).trans v1, (q _ _ (by decide)).trans v2, (q _ _ (by decide)).trans (v4.1 _ _ (by decide) (by decide) (by decide) (by omega)), fun k => (q _ _ (by decide)).trans (v4.1 _ _ (by decide) (by decide) (by decide) (by omega))⟩
    refine c_unifies (d := d + 4) (x0 := 18) hp kx hG ayw_32 hAm u1 A3 (by rw [A3']; exact hA0) (by omega) (by omega) (fun Q hQ m4 rt T B col y1 y2 y3 y4 y5 => ⟨hp, zr1, fun _ => ?_, fun g => absurd (by decide) g⟩) (fun hQ m4 y1 y2 y3 => ⟨hp, zr0, fun g => absurd rfl g, fun _ => ?_⟩)
    · have hQ' : nuni (ayw ar) l r vs = some Q := hQ
      have hu := uni_ok hG ayw_32 (by omega) (by omega) hQ
      refine c_bbegin hp kx (fun m5 z1 z2 z3 z4 => ⟨hp, o, hsp.1, ko, o, hsp.1, ko, ?_⟩)
      have F5 : ∀ a k, ¬ (18 ≤ a ∧ a ≤ 27) → m5 a k = m3 a k := fun a k q => (z4 a k (by omega)).trans (y5 a k (by omega) (by omega))
      have e6 : m5 o 6 = ((l.length + r.length : Nat) : Int) := ((F5 _ _ (by omega)).trans (F3 _ _ (by omega))).trans (hsz'.trans (by omega))
      have e7 : m5 o 7 = (vs.length : Int) := ((F5 _ _ (by omega)).trans (F3 _ _ (by omega))).trans (hvar'.trans (by omega))
      rw [e6, e7]
      have GC5 : GC 18 (cl (ngr l r vs)) (nl (ayw ar) (ngr l r vs)) (ngr l r vs).length m5 := fun c hc => by
        rw [z4 _ _ (by omega), z4 _ _ (by omega), y5 _ _ (by omega) (by omega), y5 _ _ (by omega) (by omega)]
        exact u1 c hc
      have CI5 : CI 18 Q rt T B col m5 := CI_fr y1 (z4 _ _ (by omega)) fun a k _ _ => z4 _ _ (by omega)
      have c5 : m5 18 2 = ((ngr l r vs).length : Int) := (z4 _ _ (by omega)).trans ((y5 _ _ (by omega) (by omega)).trans u2)
      have v5 : m5 18 3 = vmx (ngr l r vs) := (z4 _ _ (by omega)).trans ((y5 _ _ (by omega) (by omega)).trans u3)
      have hvl := hok.2.1
      refine c_putValues (d := d + 4) (x0 := 18) (from_ := l.length + r.length) (count := vs.length) (cells := (ngr l r vs).length) (hole := 100000) (patch := 0) hp kx hG y3 y2 (fun a ha => ⟨fun q => absurd q (by omega), fun q => absurd q (by omega)⟩) zrm (fun q => absurd q (by omega)) (made := []) (by rw [List.length_nil]; omega) (by omega) (Nat.le_refl _) (fun i hi => (ng_st hok hi).1) (by rw [ng_kid hok (Nat.le_refl _), List.take_length]; omega) z1 CI5 GC5 z2 z3 c5 (fun ls hls m6 x1 x2 x3 x4 => ⟨hp, zr1, fun _ => ?_, fun g => absurd (by decide) g⟩) (fun hls m6 x2 x4 => ⟨hp, zr0, fun g => absurd rfl g, fun _ => ?_⟩)
      · have hls' : nval (ayw ar) l r vs Q = some ls := hls
        obtain ⟨o1, o2⟩ := nval_ok har hok hQ' hls'
        have fl := flat_len (B := 100) (vs := ls) fun w hw => (o2 w hw).2.1
        rw [List.nil_append] at x1
        have hvx : vmx (ngr l r vs) ≤ 800 := vmx_le (by decide) fun c hc => by have := (hgd c hc).2; omega
        refine c_rename (x0 := 18) hp kx x1 ((x4 _ _ (by omega) (by omega)).trans v5) ⟨vmx_0, hvx⟩ (fun v hv h0 => ?_) (fun v hv => ?_) (fun m7 x5 x6 => ⟨hp, o, hsp.1, ko, ?_⟩)
        · obtain ⟨w, hw, hvw⟩ := List.mem_flatten.mp hv
          have := ((o2 w hw).2.2 v hvw).2 h0
          omega
        · obtain ⟨w, hw, hvw⟩ := List.mem_flatten.mp hv
          by_cases h0 : 0 ≤ v
          · have := ((o2 w hw).2.2 v hvw).1 h0
            omega
          · omega
        · have F7 : ∀ a k, ¬ (18 ≤ a ∧ a ≤ 27) → m7 a k = m3 a k := fun a k q => (x6 a k (by omega) (by omega)).trans ((x4 a k (by omega) (by omega)).trans (F5 a k q))
          have F71 : ∀ a k, ¬ (18 ≤ a ∧ a ≤ 27) → m7 a k = m1 a k := fun a k q => (F7 a k q).trans (F3 a k q)
          have hB7 : BN b Sn sc m7 J1 := ⟨⟨(F71 _ _ (by omega)).trans hC1.1.1.1, hC1.1.1.2⟩, hC1.1.2⟩
          have hA7 : BA b sc ar m7 := BA_fr hC1.2.1 hs16 fun k _ => F71 _ _ (by omega)
          have okk := nbl_okw o2 (by omega)
          have tl : tln (nbl [] ls) = ls.flatten.length := by rw [tln_flat, nbl_flat, nbr_len]
          have hro : RCl 26 m7 0 (nbl [] ls) := Ro_RCl (by rw [nbl_flat]; exact x5.2.2) fun w hw c hc => by have := ((okk w hw).2.2 c hc).2; omega
          refine c_showValues (d := d + 2) (x := 26) (nx := 800) (f := 0) (o := o) (N := vs.length) (vs := nbl [] ls) (nm := Z 7) hp hb hbp.1 hB7 hA7 kM (by decide) (by decide) (by omega) ko (by omega) (by omega) ((F71 _ _ (by omega)).trans (hvar'.trans (by omega))) (fun v hv => hnam v (by omega)) (fun v hv => a8 v (by omega)) (by rw [nbl_len, o1]) (by omega) okk hro (by omega) (fun m8 J8 p1 p2 => ⟨hp, ?_⟩)
          obtain ⟨q1, q2, q3, q4, q5⟩ := FF m7 F7
          have A8 : ATT 18 m8 := ATT_fr x2.1 ((p2.1 _ _ (by decide) (by decide) (by decide)).trans (x6 _ _ (by omega) (by omega))) fun z => (p2.1 _ _ (by decide) (by decide) (by omega)).trans (x6 _ _ (by omega) (by omega))
          have A8' : m8 18 8 = m 18 8 + 1 := by
            rw [p2.1 _ _ (by decide) (by decide) (by decide), x6 _ _ (by omega) (by omega), x4 _ _ (by omega) (by omega), z4 _ _ (by omega), y4, A3']
          refine ((k1' m8 J8 ((p2.1 _ _ (by decide) (by decide) (by decide)).trans q2) ((p2.1 _ _ (by decide) (by decide) (by decide)).trans q3) A8 A8' ⟨fun a k g1 g2 g3 g4 g5 g6 g7 g8 => ?_, ?_, fun a k g1 g2 g3 => ?_⟩).2 Q hQ').2 ls hls' p1.1
          · rw [p2.1 _ _ g7 g8 (by omega)]
            exact q1.1 a k g1 g2 g3 g4 g5 g6 g7 g8
          · rw [p2.1 _ _ (by decide) (by decide) (by decide)]
            exact q1.2.1
          · rw [p2.2 _ _ g3]
            exact q1.2.2 a k g1 g2 g3
      · have hls' : nval (ayw ar) l r vs Q = none := hls
        obtain ⟨q1, q2, q3, q4, q5⟩ := FF m6 fun a k q => (x4 a k (by omega) (by omega)).trans (F5 a k q)
        refine ((k1' m6 J1 q2 q3 x2.1 ?_ q1).2 Q hQ').1 hls' q4 q5
        rw [x4 _ _ (by omega) (by omega), z4 _ _ (by omega), y4, A3']
    · have hQ' : nuni (ayw ar) l r vs = none := hQ
      obtain ⟨q1, q2, q3, q4, q5⟩ := FF m4 fun a k q => y3 a k (by omega) (by omega)
      exact (k1' m4 J1 q2 q3 y1 (by rw [y2, A3']) q1).1 hQ' q4 q5
  · have := qA_bd (Sn := Sn) (sc := sc) (ar := ar) (t := txC m n) (n := n) (qG_5 hT)
    constructor <;> omega
end CUN
