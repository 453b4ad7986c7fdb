/-! what holds between two calls -/
section INV
variable {X : aX} {d x y : Nat} {P P' : Mp} {J J' : Mj} {m m' m0 : Mi} {Sn : Nat → Nat} {ar : Nat → Int} {sc mg b s o g N vm t h : Nat} {R : Nat → Mi} {nm : Nat → Int} {l r : List Int} {S : Ts} {st rl q qa z A : Int} {T : Nat → Int} {L : Nat → Int} {K : List (Nat × Nat × Nat × Int)}
/-- the class: the tape, the last FAULT -/
def iB (h : Nat) (T : Nat → Int) (q qa : Int) (m : Mi) : Prop := Tp m ∧ (m 2 1 = (h : Int) ∧ m 4 3 = q ∧ m 4 4 = qa) ∧ ∀ k, (k < h ∨ k = 0) → m 3 k = T k
theorem iB_fr (H : iB h T q qa m) (f : ∀ a k, ((a = 2 ∧ k = 1) ∨ a = 3 ∨ a = 4) → m' a k = m a k) : iB h T q qa m' := ⟨fun k hk => by rw [f _ _ (by omega)]; exact H.1 k hk, ⟨(f _ _ (by omega)).trans H.2.1.1, (f _ _ (by omega)).trans H.2.1.2.1, (f _ _ (by omega)).trans H.2.1.2.2⟩, fun k hk => (f _ _ (by omega)).trans (H.2.2 k hk)⟩
/-- attempts -/
def iA (A : Int) (m : Mi) : Prop := (ATT 8 m ∧ m 8 8 ≤ A) ∧ ATT 18 m ∧ m 18 8 ≤ A
theorem iA_fr (H : iA A m) (f : ∀ a k, (((a = 8 ∨ a = 18) ∧ k = 8) ∨ a = 14 ∨ a = 24) → m' a k = m a k) : iA A m' := ⟨⟨ATT_fr H.1.1 (f _ _ (by omega)) fun z => f _ _ (by omega), by rw [f _ _ (by omega)]; exact H.1.2⟩, ATT_fr H.2.1 (f _ _ (by omega)) fun z => f _ _ (by omega), by rw [f _ _ (by omega)]; exact H.2.2⟩
theorem iA_up {A' : Int} (H : iA A m) (g : A ≤ A') : iA A' m := ⟨⟨H.1.1, Int.le_trans H.1.2 g⟩, H.2.1, Int.le_trans H.2.2 g⟩
/-- the class: the SYSTEM, its PAIRS -/
def iS (b sc : Nat) (Sn : Nat → Nat) (ar : Nat → Int) (N : Nat) (R : Nat → Mi) (t : Nat) (K : List (Nat × Nat × Nat × Int)) (rl : Int) (m : Mi) (J : Mj) : Prop := CSy b sc Sn ar N R m J ∧ PKh t K m ∧ m 1 11 = rl
theorem iS_fr (hs : sc ≤ 16) (H : iS b sc Sn ar N R t K rl m J) (f : ∀ a k, ((b ≤ a ∧ a ≤ b + 100) ∨ (a = 36 ∧ (k = 3 ∨ k = 4 ∨ k = 5)) ∨ a = 37 ∨ (a = 1 ∧ k = 11)) → m' a k = m a k) (f2 : ∀ a k, b ≤ a → a ≤ b + 100 → J' a k = J a k) : iS b sc Sn ar N R t K rl m' J' := ⟨CSy_fr hs H.1 (fun a k g1 g2 => f a k (by omega)) f2, ⟨⟨(f _ _ (by omega)).trans H.2.1.1.1, (f _ _ (by omega)).trans H.2.1.1.2.1, (f _ _ (by omega)).trans H.2.1.1.2.2⟩, PKr_fr H.2.1.2 fun k _ => f _ _ (by omega)⟩, (f _ _ (by omega)).trans H.2.2⟩
/-- the class: the TREE -/
def iT (g : Nat) (l r : List Int) (vm mg : Nat) (nm : Nat → Int) (S : Ts) (st : Int) (m : Mi) (J : Mj) : Prop := m 38 8 = st ∧ (Zr (m 38 11) ∧ Zr (m 38 12)) ∧ (st = 1 → GQ g l r vm nm m J ∧ TCm S m ∧ m 38 10 = (mg : Int))
theorem iT_fr (H : iT g l r vm mg nm S st m J) (f : ∀ a k, ((a = 38 ∧ 8 ≤ k) ∨ (45 ≤ a ∧ a ≤ 48) ∨ (g ≤ a ∧ a ≤ g + 1)) → m' a k = m a k) (f2 : ∀ k, J' (g + 5) k = J (g + 5) k) : iT g l r vm mg nm S st m' J' := ⟨(f _ _ (by omega)).trans H.1, ⟨by rw [f _ _ (by omega)]; exact H.2.1.1, by rw [f _ _ (by omega)]; exact H.2.1.2⟩, fun h1 => ⟨GQ_fr (H.2.2 h1).1 (fun a k g1 g2 => f a k (by omega)) f2, TCm_fr (H.2.2 h1).2.1 (fun k gk => f _ _ (by omega)) (fun a k g1 g2 => f a k (by omega)), (f _ _ (by omega)).trans (H.2.2 h1).2.2⟩⟩
/-- the class: OUT -/
def iO (z : Int) (L : Nat → Int) (m : Mi) : Prop := (0 ≤ z ∨ Zr z) ∧ m 50 1 = z ∧ ∀ k : Nat, k < 1000 → (k : Int) < z → m 51 k = L k
theorem iO_fr (H : iO z L m) (f : ∀ a k, ((a = 50 ∧ k = 1) ∨ a = 51) → m' a k = m a k) : iO z L m' := ⟨H.1, (f _ _ (by omega)).trans H.2.1, fun k h1 h2 => (f _ _ (by omega)).trans (H.2.2 k h1 h2)⟩
theorem OC_iO {lo : List Int} (H : OC lo m) : iO (lo.length : Int) (cl lo) m := ⟨Or.inl (Int.natCast_nonneg _), H.1, fun k h1 h2 => H.2 k (by omega) h1⟩
/-- the reference -/
def ujB (h : Nat) (T : Nat → Int) (q qa : Int) (m : Mi) (J : Mj) : Prop := wds J ∧ (m 262 1 = (h : Int) ∧ m 262 12 = q ∧ m 262 13 = qa) ∧ ∀ k, (k < h ∨ k = 0) → zand (m 263 k) 255 = T k
theorem ujB_fr (H : ujB h T q qa m J) (f : ∀ a k, ((a = 262 ∧ (k = 1 ∨ k = 12 ∨ k = 13)) ∨ a = 263) → m' a k = m a k) (f2 : ∀ k, k = 8 ∨ k = 9 → J' 262 k = J 262 k) : ujB h T q qa m' J' := ⟨⟨(f2 _ (by omega)).trans H.1.1, (f2 _ (by omega)).trans H.1.2⟩, ⟨(f _ _ (by omega)).trans H.2.1.1, (f _ _ (by omega)).trans H.2.1.2.1, (f _ _ (by omega)).trans H.2.1.2.2⟩, fun k hk => by rw [f _ _ (by omega)]; exact H.2.2 k hk⟩
def ujS (sc : Nat) (Sn : Nat → Nat) (ar : Nat → Int) (N : Nat) (R : Nat → Mi) (t : Nat) (K : List (Nat × Nat × Nat × Int)) (rl : Int) (m : Mi) (J : Mj) : Prop := RSy sc Sn ar N R m J ∧ QKh t K m ∧ m 262 33 = rl
theorem ujS_fr (H : ujS sc Sn ar N R t K rl m J) (f : ∀ a k, ((a = 262 ∧ (k = 34 ∨ k = 35 ∨ k = 44 ∨ k = 45 ∨ k = 46 ∨ k = 47 ∨ k = 33)) ∨ (280 ≤ a ∧ a ≤ 285) ∨ (287 ≤ a ∧ a ≤ 290)) → m' a k = m a k) (f2 : ∀ a k, 279 ≤ a → a ≤ 286 → J' a k = J a k) : ujS sc Sn ar N R t K rl m' J' := ⟨RSy_fr H.1 (fun k gk => f _ _ (by omega)) (fun a k g1 g2 => f a k (by omega)) f2, ⟨⟨(f _ _ (by omega)).trans H.2.1.1.1, (f _ _ (by omega)).trans H.2.1.1.2.1, (f _ _ (by omega)).trans H.2.1.1.2.2.1, (f _ _ (by omega)).trans H.2.1.1.2.2.2⟩, QKr_fr H.2.1.2 fun a i g1 g2 _ => f a i (by omega)⟩, (f _ _ (by omega)).trans H.2.2⟩
def ujT (vm mg : Nat) (nm : Nat → Int) (S : Ts) (st : Int) (m : Mi) (J : Mj) : Prop := m 262 93 = st ∧ (Zr (m 262 96) ∧ Zr (m 262 98)) ∧ (st = 1 → (m 262 101 = (vm : Int) ∧ ∀ v, v < vm → J 322 v = rN (nm v).toNat) ∧ TR S m ∧ m 262 94 = amg mg)
theorem ujT_fr (H : ujT vm mg nm S st m J) (f : ∀ a k, ((a = 262 ∧ (k = 93 ∨ k = 94 ∨ k = 101 ∨ k = 96 ∨ k = 98 ∨ k = 102 ∨ k = 97 ∨ k = 99 ∨ k = 95 ∨ k = 100)) ∨ (323 ≤ a ∧ a ≤ 336)) → m' a k = m a k) (f2 : ∀ k, J' 322 k = J 322 k) : ujT vm mg nm S st m' J' := by
  refine ⟨(f _ _ (by omega)).trans H.1, ⟨by rw [f _ _ (by omega)]; exact H.2.1.1, by rw [f _ _ (by omega)]; exact H.2.1.2⟩, fun h1 => ?_⟩
  obtain ⟨⟨a1, a2⟩, ⟨⟨b1, b2, b3, b4, b5, b6, b7⟩, b8, b9⟩, a3⟩ := H.2.2 h1
  have gg : ∀ a k, 323 ≤ a → a ≤ 336 → m' a k = m a k := fun a k g1 g2 => f a k (by omega)
  exact ⟨⟨(f _ _ (by omega)).trans a1, fun v hv => (f2 v).trans (a2 v hv)⟩, ⟨⟨(f _ _ (by omega)).trans b1, (f _ _ (by omega)).trans b2, (f _ _ (by omega)).trans b3, (f _ _ (by omega)).trans b4, (f _ _ (by omega)).trans b5, (f _ _ (by omega)).trans b6, (f _ _ (by omega)).trans b7⟩, fun i e k => NR_fr (b8 i e k) gg, fun i e k => AR_fr (b9 i e k) gg⟩, (f _ _ (by omega)).trans a3⟩
def ujO (z : Int) (L : Nat → Int) (m : Mi) : Prop := (0 ≤ z ∨ Zr z) ∧ m 262 136 = z ∧ ∀ k : Nat, k < 1000 → (k : Int) < z → m 347 k = L k
theorem ujO_fr (H : ujO z L m) (f : ∀ a k, ((a = 262 ∧ k = 136) ∨ a = 347) → m' a k = m a k) : ujO z L m' := ⟨H.1, (f _ _ (by omega)).trans H.2.1, fun k h1 h2 => (f _ _ (by omega)).trans (H.2.2 k h1 h2)⟩
theorem OR_jO {lo : List Int} (H : OR lo m) : ujO (lo.length : Int) (cl lo) m := ⟨Or.inl (Int.natCast_nonneg _), H.1, fun k h1 h2 => H.2 k (by omega) h1⟩
/-- which references stand where -/
def iP (b s o g x y : Nat) (P : Mp) : Prop := PP P ∧ BP P b s ∧ SPt P o g ∧ TP P x y
/-- what is true of what both hold -/
def pI (sc : Nat) (Sn : Nat → Nat) (ar : Nat → Int) (N : Nat) (R : Nat → Mi) (t : Nat) (K : List (Nat × Nat × Nat × Int)) (rl : Int) : Prop := Sq sc Sn ar N R ∧ SqN sc Sn N R ∧ (pkok (t, K) ∧ t < 100000 ∧ ∀ e, e ∈ K → pkG (ayw ar) N (ZLs Sn sc R) (ZRs Sn sc R) e) ∧ (rl = 0 ∨ rl = 1)
def pT (sc : Nat) (ar : Nat → Int) (l r : List Int) (vm mg : Nat) (nm : Nat → Int) (S : Ts) (st rl : Int) : Prop := (st = 0 ∨ st = 1) ∧ (st = 1 → rl = 1) ∧ (st = 1 → TV sc ar vm mg S ∧ gK sc ar l r vm ∧ (∀ v, v < vm → isN (nm v).toNat ∧ 0 < nm v) ∧ nG l r S ∧ S.2.2.2.1 ≤ S.1.length)
/-- the class's half, the reference's half -/
def cH (A : Int) (b g h : Nat) (T : Nat → Int) (q qa z : Int) (L : Nat → Int) (sc : Nat) (Sn : Nat → Nat) (ar : Nat → Int) (N : Nat) (R : Nat → Mi) (t : Nat) (K : List (Nat × Nat × Nat × Int)) (rl : Int) (l r : List Int) (vm mg : Nat) (nm : Nat → Int) (S : Ts) (st : Int) (m : Mi) (J : Mj) : Prop := iB h T q qa m ∧ iA A m ∧ iO z L m ∧ iS b sc Sn ar N R t K rl m J ∧ iT g l r vm mg nm S st m J
def rH (h : Nat) (T : Nat → Int) (q qa z : Int) (L : Nat → Int) (sc : Nat) (Sn : Nat → Nat) (ar : Nat → Int) (N : Nat) (R : Nat → Mi) (t : Nat) (K : List (Nat × Nat × Nat × Int)) (rl : Int) (vm mg : Nat) (nm : Nat → Int) (S : Ts) (st : Int) (m : Mi) (J : Mj) : Prop := ujB h T q qa m J ∧ ujO z L m ∧ ujS sc Sn ar N R t K rl m J ∧ ujT vm mg nm S st m J
theorem cH_fr (hs : sc ≤ 16) (hb : b = 54 ∨ b = 155) (hg : g = 39 ∨ g = 256) (H : cH A b g h T q qa z L sc Sn ar N R t K rl l r vm mg nm S st m J) (f : ∀ a k, a < 262 → m' a k = m a k) (f2 : ∀ a k, a < 262 → J' a k = J a k) : cH A b g h T q qa z L sc Sn ar N R t K rl l r vm mg nm S st m' J' := ⟨iB_fr H.1 fun a k _ => f a k (by omega), iA_fr H.2.1 fun a k _ => f a k (by omega), iO_fr H.2.2.1 fun a k _ => f a k (by omega), iS_fr hs H.2.2.2.1 (fun a k _ => f a k (by omega)) fun a k _ _ => f2 a k (by omega), iT_fr H.2.2.2.2 (fun a k _ => f a k (by omega)) fun k => f2 _ k (by omega)⟩
theorem rH_fr (H : rH h T q qa z L sc Sn ar N R t K rl vm mg nm S st m J) (f : ∀ a k, 262 ≤ a → m' a k = m a k) (f2 : ∀ a k, 262 ≤ a → J' a k = J a k) : rH h T q qa z L sc Sn ar N R t K rl vm mg nm S st m' J' := ⟨ujB_fr H.1 (fun a k _ => f a k (by omega)) fun k _ => f2 _ k (by omega), ujO_fr H.2.1 fun a k _ => f a k (by omega), ujS_fr H.2.2.1 (fun a k _ => f a k (by omega)) fun a k _ _ => f2 a k (by omega), ujT_fr H.2.2.2 (fun a k _ => f a k (by omega)) fun k => f2 _ k (by omega)⟩
/-- what holds between two calls, of so many attempts at most -/
def IV (A : Int) (m : Mi) (J : Mj) (P : Mp) : Prop := ∃ b s o g x y, iP b s o g x y P ∧ ∃ h T q qa z L, h ≤ 1600 ∧ ∃ sc Sn ar N R t K rl, pI sc Sn ar N R t K rl ∧ ∃ l r vm mg nm S st, pT sc ar l r vm mg nm S st rl ∧ cH A b g h T q qa z L sc Sn ar N R t K rl l r vm mg nm S st m J ∧ rH h T q qa z L sc Sn ar N R t K rl vm mg nm S st m J
theorem IV_PP (H : IV A m J P) : PP P := by
  obtain ⟨b, s, o, g, x, y, h, _⟩ := H
  exact h.1
/-- one call of both, the answers told as they come -/
theorem Pr.mk' {c1 c2 : Nat} {as : List Value} {K : Mi → Mj → Mp → Prop} (h : Ci X d c1 (.ref 1 :: as) m J P fun z1 m1 J1 P1 => PP P1 ∧ Ci X d c2 (.ref 262 :: as) m1 J1 P1 fun z2 m2 J2 P2 => PP P2 ∧ z1 = z2 ∧ K m2 J2 P2) : Pr X d c1 c2 as m J P K := by
  refine Ci.rz (Ci.weak h fun z1 m1 J1 P1 ⟨h1, h2⟩ z1' e1 r1 => ⟨h1, Ci.rz (h2.weak fun z2 m2 J2 P2 ⟨g1, g2, g3⟩ z2' e2 r2 => ⟨g1, r1, r2, ?_, g3⟩)⟩)
  have : iz z1' = iz z2' := by rw [e1, e2, g2]
  rw [← iz_to r1, ← iz_to r2, this]
end INV
