/-! from the reference's number of a name to the class's -/
section NCV
/-- the sign of a code -/
def lt_ (c : Nat) : Nat := if c < 27 then 96 + c else if c < 53 then 38 + c else c - 5
theorem lt_cd {c : Int} (h : 0 < cd c) (hc : 0 ≤ c) : lt_ (cd c).toNat = c.toNat := by
  revert h
  unfold lt_ cd
  (repeat' split) <;> omega
def cv : Nat → Nat → Nat
  | 0, _ => 0
  | k + 1, v => 256 * cv k (v / 64) + (if v % 64 = 0 then 0 else lt_ (v % 64))
theorem cv_0 : ∀ k, cv k 0 = 0
  | 0 => rfl
  | k + 1 => by rw [cv, Nat.zero_div, cv_0 k]; rfl
theorem vC_cv {t : Int → Int} (bt : ∀ x, 0 ≤ t x ∧ t x ≤ 255) (p : Int) : ∀ k f, k ≤ f → (∀ i : Nat, i < k → 0 < cd (t (p + i))) → vC t p k = cv f (vR t p k)
  | 0, f, _, _ => by rw [vC, vR, cv_0]
  | k + 1, 0, h, _ => absurd h (by omega)
  | k + 1, f + 1, h, hw => by
    have h1 := hw k (by omega)
    have b := cd_bd (t (p + k))
    have bt' := bt (p + k)
    rw [vC, vR, cv, vC_cv bt p k f (by omega) (fun i g => hw i (by omega))]
    have e1 : (64 * vR t p k + (cd (t (p + k))).toNat) / 64 = vR t p k := by omega
    have e2 : (64 * vR t p k + (cd (t (p + k))).toNat) % 64 = (cd (t (p + k))).toNat := by omega
    rw [e1, e2, if_neg (by omega), lt_cd h1 bt'.1]
/-- the class's long of a name -/
def cN (v : Nat) : Int64 := Int64.ofNat (cv 8 v)
/-- the reference's long of a name -/
def rN (v : Nat) : Int64 := Int64.ofNat v
theorem nmR_rN (t : Int → Int) (p : Int) (k : Nat) : nmR t p k = rN (vR t p k) := nmR_v t p k
theorem nmC_cN {t : Int → Int} (bt : ∀ x, 0 ≤ t x ∧ t x ≤ 255) {p : Int} {k : Nat} (hk : k ≤ 8) (hw : ∀ i : Nat, i < k → 0 < cd (t (p + i))) : nmC t p k = cN (vR t p k) := by
  rw [nmC_v bt p k hk, cN, vC_cv bt p k 8 hk hw]
/-- a number of a name: of some word of at most eight signs -/
def isN (v : Nat) : Prop := ∃ (t : Int → Int) (p : Int) (k : Nat), (∀ x, 0 ≤ t x ∧ t x ≤ 255) ∧ (0 < k ∧ k ≤ 8) ∧ (∀ i : Nat, i < k → 0 < cd (t (p + i))) ∧ v = vR t p k
theorem rN_inj {v w : Nat} (hv : isN v) (hw : isN w) : rN v = rN w ↔ v = w := by
  refine ⟨fun h => ?_, fun h => by rw [h]⟩
  obtain ⟨t, p, k, _, ⟨_, hk⟩, _, rfl⟩ := hv
  obtain ⟨u, q, j, _, ⟨_, hj⟩, _, rfl⟩ := hw
  have q8 : (64 : Nat) ^ 8 ≤ 2 ^ 64 := by decide
  have r1 := Nat.lt_of_lt_of_le (vR_lt t p k) (Nat.pow_le_pow_right (by decide) hk)
  have r2 := Nat.lt_of_lt_of_le (vR_lt u q j) (Nat.pow_le_pow_right (by decide) hj)
  exact ofNat_inj64 (Nat.lt_of_lt_of_le r1 q8) (Nat.lt_of_lt_of_le r2 q8) h
theorem cN_inj {v w : Nat} (hv : isN v) (hw : isN w) : cN v = cN w ↔ v = w := by
  refine ⟨fun h => ?_, fun h => by rw [h]⟩
  have hv' := hv
  have hw' := hw
  obtain ⟨t, p, k, bt, ⟨_, hk⟩, ht, rfl⟩ := hv
  obtain ⟨u, q, j, bu, ⟨_, hj⟩, hu, rfl⟩ := hw
  rw [← nmC_cN bt hk ht, ← nmC_cN bu hj hu, nm_iff bt bu hk hj ht hu, nmR_rN, nmR_rN] at h
  exact (rN_inj hv' hw').mp h
end NCV
