/-! wanted TOKENS -/
section TKS
variable {X : aX} {d : Nat} {P : Mp} {m : Mi} {J : Mj} {t : Int → Int} {n p : Int}
/-- the FAULT of a TOKEN that may not stand here -/
def ft (t : Int → Int) (n p : Int) : Int := if tK t n p = 12 then 1 else 2
theorem tK_bd (t : Int → Int) (n p : Int) : 0 ≤ tK t n p ∧ tK t n p ≤ 12 := by
  have := kd_bd (t p)
  unfold tK
  (repeat' split) <;> omega
theorem tS_bd (hT : Tx t n) : 0 ≤ tS t n p ∧ tS t n p ≤ 7 := by
  rw [(tok_rel hT.1).1]
  unfold k2s
  (repeat' split) <;> omega
theorem tS_5 (hT : Tx t n) : tS t n p = 5 ↔ tK t n p = 12 := by
  rw [(tok_rel hT.1).1]
  have := tK_bd t n p
  unfold k2s
  (repeat' split) <;> omega
theorem tS_k (hT : Tx t n) : tS t n p = k2s (tK t n p) := (tok_rel hT.1).1
theorem is_iff (hT : Tx t n) {K : Int} (hK : 4 ≤ K ∧ K ≤ 9) : (tS t n p = 4 ∧ k2n (tK t n p) = k2n K) ↔ tK t n p = K := by
  rw [tS_k hT]
  have := tK_bd t n p
  constructor
  · rintro ⟨h1, h2⟩
    revert h1 h2
    unfold k2s k2n
    (repeat' split) <;> omega
  · intro e
    rw [e]
    refine ⟨?_, rfl⟩
    unfold k2s
    (repeat' split) <;> omega
theorem c_refuse {a b : Int} (hp : PP P) {post : Int → Mi → Mj → Mp → Prop} (k : post 0 (mu (mu m 4 3 a) 4 4 b) J P) : Ci X d 26 [.ref 4, .int (iz a), .int (iz b)] m J P post :=
  Ci.of rfl rfl rfl (b_Reader_refuse_0 a b m J P hp post k)
theorem c_isLast {K : Int} (hp : PP P) (h : cC t n p m J) (hK : Zr K) {post : Int → Mi → Mj → Mp → Prop} (k1 : tK t n p = K → post 1 m J P) (k2 : tK t n p ≠ K → post 0 (mu (mu m 4 3 (ft t n p)) 4 4 p) J P) : Ci X (d + 1) 25 [.ref 4, .int (iz K)] m J P post := by
  obtain ⟨⟨s1, s2, s3, _⟩, _⟩ := h
  have hb := tK_bd t n p
  refine Ci.of rfl rfl rfl (b_Reader_isLast_0 K m J P hp post ⟨by rw [s3]; constructor <;> omega, hK, fun g => ⟨by rw [s3]; constructor <;> omega, fun g2 => ?_, fun g2 => ?_⟩, fun g => ?_⟩)
  · rw [s3] at g g2
    refine c_refuse hp ⟨hp, Or.inl rfl, ?_⟩
    have := k2 g
    rw [ft, if_neg g2] at this
    rw [s1]; exact this
  · rw [s3] at g g2
    refine c_refuse hp ⟨hp, Or.inl rfl, ?_⟩
    have := k2 g
    rw [ft, if_pos (Classical.not_not.mp g2)] at this
    rw [s1]; exact this
  · rw [s3] at g
    exact k1 (Classical.not_not.mp g)
theorem c_take {K : Int} (hp : PP P) (hT : Tx t n) (hb : 0 ≤ p ∧ p ≤ n) (h : cC t n p m J) (hK : Zr K) {post : Int → Mi → Mj → Mp → Prop} (k1 : tK t n p = K → ∀ m' J', cC t n (nxp t n p) m' J' → cF m J m' J' → post 1 m' J' P) (k2 : tK t n p ≠ K → post 0 (mu (mu m 4 3 (ft t n p)) 4 4 p) J P) : Ci X (d + 3) 24 [.ref 4, .int (iz K)] m J P post := by
  refine Ci.of rfl rfl rfl (b_Reader_take_0 K m J P hp post ?_)
  refine c_isLast hp h hK (fun g => ⟨hp, zr1, fun _ => c_adv hp hT hb h fun m' J' h1 h2 => ⟨hp, k1 g m' J' h1 h2⟩, fun g2 => absurd (by decide) g2⟩) (fun g => ⟨hp, zr0, fun g2 => absurd rfl g2, fun _ => k2 g⟩)
theorem r_isK {K : Int} (hp : PP P) (hT : Tx t n) (h : rC t n p m J) (hK : 4 ≤ K ∧ K ≤ 9) {post : Int → Mi → Mj → Mp → Prop} (k : post (if tK t n p = K then 1 else 0) m J P) : Ci X d 144 [.ref 262, .int (iz (k2n K))] m J P post := by
  obtain ⟨⟨s1, s2, s3, s4, s5⟩, s6, s7, s8, s9, s10⟩ := h
  have hb := tS_bd (p := p) hT
  have hk : Zr (k2n K) := by
    unfold k2n
    (repeat' split) <;> (constructor <;> decide)
  refine r_is hp hk (by rw [s3]; constructor <;> omega) (by constructor <;> omega) ?_
  have e : (m 262 3 = 4 ∧ m 262 6 = k2n K) ↔ tK t n p = K := by
    constructor
    · rintro ⟨h1, h2⟩
      exact (is_iff hT hK).mp ⟨by rw [← s3]; exact h1, by rw [← s7 h1]; exact h2⟩
    · intro g
      have := (is_iff hT hK).mpr g
      have h1 : m 262 3 = 4 := by rw [s3]; exact this.1
      exact ⟨h1, by rw [s7 h1]; exact this.2⟩
  by_cases g : tK t n p = K
  · rw [if_pos g] at k
    rw [if_pos (e.mpr g)]; exact k
  · rw [if_neg g] at k
    rw [if_neg (fun h => g (e.mp h))]; exact k
/-- wrong() where no FAULT was told yet, and where one was -/
theorem r_wrongT (hp : PP P) (hT : Tx t n) (h : rC t n p m J) (hz : Zr (m 262 10)) {post : Mi → Mj → Mp → Prop} (k : post (rf m (ft t n p) p) J P) : Cv X (d + 1) 142 [.ref 262] m J P post := by
  obtain ⟨⟨s1, s2, s3, s4, s5⟩, _⟩ := h
  have hb := tS_bd (p := p) hT
  refine r_wrong hp hz (by rw [s3]; constructor <;> omega) ?_
  unfold rw_
  rw [s1, s3]
  have e : (if tS t n p = 5 then (1 : Int) else 2) = ft t n p := by
    unfold ft
    by_cases g : tS t n p = 5
    · rw [if_pos g, if_pos ((tS_5 hT).mp g)]
    · rw [if_neg g, if_neg (fun h => g ((tS_5 hT).mpr h))]
  rw [e]; exact k
end TKS
