/-! the reference: makesPair() -/
section RPL
variable {X : aX} {d : Nat} {P : Mp} {J : Mj} {m m' : Mi} {ar : Nat → Int} {sc : Nat} {ay : Int → Nat} {np : Nat → Nat} {mk : Nat → Int} {K : Nat} {D : Nat → Prop}
/-- a TERM of a row is loaded -/
theorem r_loadL {x1 n1 tb nt from_ base lim : Nat} {x5 x3 : Int} {G A B C w : List Int} (hp : PP P) (k1 : am_kd an_K x1 = some (.inr (0, n1))) (b1 : n1 ≤ 100000) (kt : am_kd an_K tb = some (.inr (0, nt))) (bt : nt ≤ 100000) (htb : tb = 308 ∨ tb = 309) (hx1 : ¬ (302 ≤ x1 ∧ x1 ≤ 312)) (hx1' : x1 ≠ 262) (h5 : Zr x5) (hlim : lim ≤ nt) (hG : Gok ay (cl G) (nl ay G) G.length) (e : G = A ++ (B ++ C)) (hB : ctt ay B = some 1) (hB2 : B.length ≤ 200) (hw : w.length = B.length) (hx3 : x3 = ((from_ + B.length : Nat) : Int)) (hn1 : from_ + B.length ≤ n1) (hrel : ∀ q, q < B.length → (0 ≤ cl B q → (0 ≤ cl w q ∧ cl w q < 128) ∧ cl w q % 64 = cl B q % 32 ∧ mk (A.length + q) = if 0 ≤ x5 then x5 else cl w q / 64) ∧ (cl B q < 0 → ∃ v : Nat, v < lim ∧ cl w q = -1 - (v : Int) ∧ (879 - cl B q).toNat = 880 + base + v)) (hL : LDI ay (cl G) (nl ay G) mk np A.length K D m) (hV : VTB (cl G) tb base lim np A.length m) (hD : DK ay (cl G) (nl ay G) D A.length) (hrow : Ro m x1 from_ w) (hAR : ARr ay (cl G) G.length m) {post : Int → Mi → Mj → Mp → Prop} (k : ∀ np' K' m', LDI ay (cl G) (nl ay G) mk np' (A.length + B.length) K' (Dor D A.length (A.length + B.length)) m' → VTB (cl G) tb base lim np' (A.length + B.length) m' → DK ay (cl G) (nl ay G) (Dor D A.length (A.length + B.length)) (A.length + B.length) → (∀ q, q < A.length → np' (ptc (cl G) q) = np (ptc (cl G) q)) → (∀ q, q < B.length → m' 312 q = (np' (ptc (cl G) (A.length + q)) : Int)) → ldF tb m m' → post (np' (ptc (cl G) A.length) : Nat) m' J P) : Ci X (d + 1) 166 [.ref 262, .ref x1, .int (iz (from_ : Int)), .int (iz x3), .ref tb, .int (iz x5)] m J P post := by
  have hlen : G.length = A.length + (B.length + C.length) := by rw [e, List.length_append, List.length_append]
  have hb0 := ct_ne hB
  have hE : nl ay G A.length = A.length + B.length := nl_of e hB
  have hcl : ∀ q, q < B.length → cl G (A.length + q) = cl B q := fun q hq => by rw [e, cl_shift, cl_app hq]
  refine r_load (E := A.length + B.length) (rw_ := fun q => cl w (q - A.length)) hp k1 b1 kt bt htb hx1 hx1' h5 hlim hG (by omega) hE (by omega) (by rw [hx3]; congr 2; omega) (by omega) (fun q g1 g2 => ?_) hL hV hD (fun q g1 g2 => ?_) hAR (fun np' K' m' w1 w2 w3 w4 w5 w6 => k np' K' m' w1 w2 w3 w4 (fun q hq => ?_) w6)
  · obtain ⟨r1, r2⟩ := hrel (q - A.length) (by omega)
    have ec := hcl (q - A.length) (by omega)
    rw [show A.length + (q - A.length) = q by omega] at ec r1
    refine ⟨fun h0 => ?_, fun h0 => ?_⟩
    · obtain ⟨s1, s2, s3⟩ := r1 (by rw [← ec]; exact h0)
      refine ⟨s1, ?_, s3⟩
      unfold syc
      rw [ec]
      exact s2
    · obtain ⟨v, v1, v2, v3⟩ := r2 (by rw [← ec]; exact h0)
      refine ⟨v, v1, v2, ?_⟩
      unfold ptc
      rw [if_pos h0, ec]
      exact v3
  · have := Ro_get hrow (i := q - A.length) (by omega)
    rw [this, cl_get (by omega)]
  · have := w5 (A.length + q) (by omega) (by omega)
    rw [show A.length + q - A.length = q by omega] at this
    exact this
theorem ARr_K {L : List Int} (har : arK sc ar) (hRA : RAr sc ar m) (hg : ∀ c, c ∈ L → gd sc c) : ARr (ayw ar) (cl L) L.length m := by
  intro c hc h0
  have := hg _ (cl_mem hc)
  have h2 := this.2.2 h0
  have hs := har.1
  unfold syc
  refine ⟨by omega, ?_⟩
  have h3 := hRA.2 (cl L c % 32).toNat (by omega)
  rw [h3.1]
  unfold ayw
  rw [if_neg (by omega)]
  omega
end RPL
