/-! a new pair of objects: one call of each kind -/
section FRE
theorem mu_at (m : Mi) (a k : Nat) (v : Int) : mu m a k v a k = v := by simp [mu]
theorem mu_ne (m : Mi) {a k x y : Nat} (v : Int) (h : ¬ (x = a ∧ y = k)) : mu m a k v x y = m x y := by simp only [mu, if_neg h]
/-- one byte more at the end of the class's tape -/
def ap1 (m : Mi) (v : Int) : Mi := mu (mu m 3 (m 2 1).toNat v) 2 1 (m 2 1 + 1)
def ly1 (m : Mi) (v : Int) : Mi := mu (mu m 263 (m 262 1).toNat v) 262 1 (m 262 1 + 1)
theorem ap1_n (m : Mi) (v : Int) : ap1 m v 2 1 = m 2 1 + 1 := mu_at _ _ _ _
theorem ly1_n (m : Mi) (v : Int) : ly1 m v 262 1 = m 262 1 + 1 := mu_at _ _ _ _
theorem ap1_o (m : Mi) (v : Int) {a k : Nat} (h3 : a ≠ 3) (h2 : ¬ (a = 2 ∧ k = 1)) : ap1 m v a k = m a k := by rw [ap1, mu_ne _ _ h2, mu_ne _ _ (fun h => h3 h.1)]
theorem ly1_o (m : Mi) (v : Int) {a k : Nat} (h3 : a ≠ 263) (h2 : ¬ (a = 262 ∧ k = 1)) : ly1 m v a k = m a k := by rw [ly1, mu_ne _ _ h2, mu_ne _ _ (fun h => h3 h.1)]
theorem ap1_b (m : Mi) (v : Int) (k : Nat) : ap1 m v 3 k = if k = (m 2 1).toNat then v else m 3 k := by
  rw [ap1, mu_ne _ _ (fun h => by cases h.1)]
  simp [mu]
theorem ly1_b (m : Mi) (v : Int) (k : Nat) : ly1 m v 263 k = if k = (m 262 1).toNat then v else m 263 k := by
  rw [ly1, mu_ne _ _ (fun h => by cases h.1)]
  simp [mu]
def ab (x s : Int) : Int := zand (zushr x s) 255
def lb (x s : Int) : Int := zi2b (zshr x (8 * s))
def ap4 (m : Mi) (x : Int) : Mi := ap1 (ap1 (ap1 (ap1 m (ab x 24)) (ab x 16)) (ab x 8)) (ab x 0)
def ly4 (m : Mi) (x : Int) : Mi := ly1 (ly1 (ly1 (ly1 m (lb x 3)) (lb x 2)) (lb x 1)) (lb x 0)
theorem ap4_n (m : Mi) (x : Int) : ap4 m x 2 1 = m 2 1 + 4 := by simp only [ap4, ap1_n]; omega
theorem ly4_n (m : Mi) (x : Int) : ly4 m x 262 1 = m 262 1 + 4 := by simp only [ly4, ly1_n]; omega
theorem ap4_o (m : Mi) (x : Int) {a k : Nat} (h3 : a ≠ 3) (h2 : ¬ (a = 2 ∧ k = 1)) : ap4 m x a k = m a k := by simp only [ap4, ap1_o _ _ h3 h2]
theorem ly4_o (m : Mi) (x : Int) {a k : Nat} (h3 : a ≠ 263) (h2 : ¬ (a = 262 ∧ k = 1)) : ly4 m x a k = m a k := by simp only [ly4, ly1_o _ _ h3 h2]
variable {X : aX} {d : Nat} {m : Mi} {J : Mj} {P : Mp}
theorem zi2b_zi2b (x : Int) : zi2b (zi2b x) = zi2b x := by
  unfold zi2b
  rw [iz_of]
  simp
theorem ap_step {x s : Int} (hp : PP P) (hs : 0 ≤ s ∧ s ≤ 24) (hm : 0 ≤ m 2 1 ∧ m 2 1 < 1600) {post : Mi → Mj → Mp → Prop} (k : Rn X d 13 3 [some (.ref 2), some (.int (iz x)), some (.int (iz (s + (-8))))] [] (SS (ap1 m (ab x s)) J P) (QV post)) : Rn X d 13 3 [some (.ref 2), some (.int (iz x)), some (.int (iz s))] [] (SS m J P) (QV post) := by
  refine b_Text_append_3 x s m J P hp post ⟨by constructor <;> omega, fun h => absurd h (by omega), fun _ => ⟨by constructor <;> omega, fun h => absurd h (by omega), fun _ => ⟨⟨hm.1, hm.2⟩, ?_⟩⟩⟩
  exact k
theorem ap_end {x s : Int} (hp : PP P) (hs : s = -8) {post : Mi → Mj → Mp → Prop} (k : post m J P) : Rn X d 13 3 [some (.ref 2), some (.int (iz x)), some (.int (iz s))] [] (SS m J P) (QV post) := 
  b_Text_append_3 x s m J P hp post ⟨by constructor <;> omega, fun _ => k, fun h => absurd (by omega) h⟩
theorem c_append {x : Int} (hp : PP P) (hm : 0 ≤ m 2 1 ∧ m 2 1 + 4 ≤ 1600) {post : Mi → Mj → Mp → Prop} (k : post (ap4 m x) J P) : Cv X d 13 [.ref 2, .int (iz x)] m J P post := by
  refine Cv.of rfl rfl rfl (b_Text_append_0 x m J P hp post ?_)
  refine ap_step hp (by omega) (by omega) ?_
  refine ap_step hp (by omega) (by rw [ap1_n]; omega) ?_
  refine ap_step hp (by omega) (by rw [ap1_n, ap1_n]; omega) ?_
  refine ap_step hp (by omega) (by rw [ap1_n, ap1_n, ap1_n]; omega) ?_
  exact ap_end hp (by omega) k
theorem ly_step {x s : Int} (hp : PP P) (hs : 0 ≤ s ∧ s ≤ 3) (hm : 0 ≤ m 262 1 ∧ m 262 1 < 1600) {post : Mi → Mj → Mp → Prop} (k : Rn X d 135 2 [some (.ref 262), some (.int (iz x)), some (.int (iz (s + (-1))))] [] (SS (ly1 m (lb x s)) J P) (QV post)) : Rn X d 135 2 [some (.ref 262), some (.int (iz x)), some (.int (iz s))] [] (SS m J P) (QV post) := by
  refine b_Mdl_lay_2 x s m J P hp post ⟨by constructor <;> omega, fun h => absurd h (by omega), fun _ => ⟨⟨hm.1, hm.2⟩, ⟨zi2b_zi2b _, iz_zr _⟩, ?_⟩⟩
  exact k
theorem ly_end {x s : Int} (hp : PP P) (hs : s = -1) {post : Mi → Mj → Mp → Prop} (k : post m J P) : Rn X d 135 2 [some (.ref 262), some (.int (iz x)), some (.int (iz s))] [] (SS m J P) (QV post) := 
  b_Mdl_lay_2 x s m J P hp post ⟨by constructor <;> omega, fun _ => k, fun h => absurd (by omega) h⟩
theorem c_lay {x : Int} (hp : PP P) (hm : 0 ≤ m 262 1 ∧ m 262 1 + 4 ≤ 1600) {post : Mi → Mj → Mp → Prop} (k : post (ly4 m x) J P) : Cv X d 135 [.ref 262, .int (iz x)] m J P post := by
  refine Cv.of rfl rfl rfl (b_Mdl_lay_0 x m J P hp post ?_)
  refine ly_step hp (by omega) (by omega) ?_
  refine ly_step hp (by omega) (by rw [ly1_n]; omega) ?_
  refine ly_step hp (by omega) (by rw [ly1_n, ly1_n]; omega) ?_
  refine ly_step hp (by omega) (by rw [ly1_n, ly1_n, ly1_n]; omega) ?_
  exact ly_end hp (by omega) k
def ap20 (m : Mi) (a b c e f : Int) : Mi := ap4 (ap4 (ap4 (ap4 (ap4 m a) b) c) e) f
def ly20 (m : Mi) (a b c e f : Int) : Mi := ly4 (ly4 (ly4 (ly4 (ly4 m a) b) c) e) f
theorem ap20_n (m : Mi) (a b c e f : Int) : ap20 m a b c e f 2 1 = m 2 1 + 20 := by simp only [ap20, ap4_n]; omega
theorem ly20_n (m : Mi) (a b c e f : Int) : ly20 m a b c e f 262 1 = m 262 1 + 20 := by simp only [ly20, ly4_n]; omega
theorem ap20_o (m : Mi) (x1 x2 x3 x4 x5 : Int) {a k : Nat} (h3 : a ≠ 3) (h2 : ¬ (a = 2 ∧ k = 1)) : ap20 m x1 x2 x3 x4 x5 a k = m a k := by simp only [ap20, ap4_o _ _ h3 h2]
theorem ly20_o (m : Mi) (x1 x2 x3 x4 x5 : Int) {a k : Nat} (h3 : a ≠ 263) (h2 : ¬ (a = 262 ∧ k = 1)) : ly20 m x1 x2 x3 x4 x5 a k = m a k := by simp only [ly20, ly4_o _ _ h3 h2]
/-- feed of the class -/
theorem c_feed {x1 x2 x3 x4 x5 : Int} (hp : PP P) (hm : 0 ≤ m 2 1 ∧ m 2 1 ≤ 1600) {post : Int → Mi → Mj → Mp → Prop} (k1 : m 2 1 ≤ 1580 → post (m 2 1 + 20) (ap20 m x1 x2 x3 x4 x5) J P) (k2 : 1580 < m 2 1 → post (-1) m J P) : Ci X (d + 1) 12 [.ref 1, .int (iz x1), .int (iz x2), .int (iz x3), .int (iz x4), .int (iz x5)] m J P post := by
  refine Ci.of rfl rfl rfl (b_Nh_feed_0 x1 x2 x3 x4 x5 m J P hp post ⟨by constructor <;> omega, fun h => ?_, fun h => k2 (by omega)⟩)
  refine c_append hp (by omega) ⟨hp, ?_⟩
  refine c_append hp (by rw [ap4_n]; omega) ⟨hp, ?_⟩
  refine c_append hp (by rw [ap4_n, ap4_n]; omega) ⟨hp, ?_⟩
  refine c_append hp (by rw [ap4_n, ap4_n, ap4_n]; omega) ⟨hp, ?_⟩
  refine c_append hp (by rw [ap4_n, ap4_n, ap4_n, ap4_n]; omega) ⟨hp, ?_⟩
  have e : (ap4 (ap4 (ap4 (ap4 (ap4 m x1) x2) x3) x4) x5) 2 1 = m 2 1 + 20 := ap20_n m x1 x2 x3 x4 x5
  rw [e]
  exact k1 (by omega)
/-- feed of the reference -/
theorem r_feed {x1 x2 x3 x4 x5 : Int} (hp : PP P) (hm : 0 ≤ m 262 1 ∧ m 262 1 ≤ 1600) {post : Int → Mi → Mj → Mp → Prop} (k1 : m 262 1 ≤ 1580 → post (m 262 1 + 20) (ly20 m x1 x2 x3 x4 x5) J P) (k2 : 1580 < m 262 1 → post (-1) m J P) : Ci X (d + 1) 134 [.ref 262, .int (iz x1), .int (iz x2), .int (iz x3), .int (iz x4), .int (iz x5)] m J P post := by
  refine Ci.of rfl rfl rfl (b_Mdl_feed_0 x1 x2 x3 x4 x5 m J P hp post ⟨by constructor <;> omega, fun h => ?_, fun h => k2 (by omega)⟩)
  refine c_lay hp (by omega) ⟨hp, ?_⟩
  refine c_lay hp (by rw [ly4_n]; omega) ⟨hp, ?_⟩
  refine c_lay hp (by rw [ly4_n, ly4_n]; omega) ⟨hp, ?_⟩
  refine c_lay hp (by rw [ly4_n, ly4_n, ly4_n]; omega) ⟨hp, ?_⟩
  refine c_lay hp (by rw [ly4_n, ly4_n, ly4_n, ly4_n]; omega) ⟨hp, ?_⟩
  have e : (ly4 (ly4 (ly4 (ly4 (ly4 m x1) x2) x3) x4) x5) 262 1 = m 262 1 + 20 := ly20_n m x1 x2 x3 x4 x5
  rw [e]
  exact k1 (by omega)
/-- the class's small questions -/
theorem c_lacks {x : Int} (hp : PP P) (hx : Zr x) (hm : Zr (m 2 1)) {post : Int → Mi → Mj → Mp → Prop} (k1 : x < 0 ∨ m 2 1 < x → post 1 m J P) (k2 : 0 ≤ x ∧ x ≤ m 2 1 → post 0 m J P) : Ci X d 15 [.ref 2, .int (iz x)] m J P post :=
  Ci.of rfl rfl rfl (b_Text_lacks_0 x m J P hp post ⟨hx, fun h => k1 (Or.inl h), fun h => ⟨hx, hm, fun h2 => k2 ⟨by omega, h2⟩, fun h2 => k1 (Or.inr (by omega))⟩⟩)
theorem c_holds {x : Int} (hp : PP P) (hx : Zr x) (hm : Zr (m 36 3)) {post : Int → Mi → Mj → Mp → Prop} (k1 : x < 0 ∨ 200 ≤ x ∨ m 36 3 ≤ x → post 0 m J P) (k2 : 0 ≤ x ∧ x < 200 ∧ x < m 36 3 → post 1 m J P) : Ci X d 78 [.ref 36, .int (iz x)] m J P post :=
  Ci.of rfl rfl rfl (b_Pairs_holds_0 x m J P hp post ⟨hx, fun h => k1 (Or.inl h), fun h => ⟨hx, fun h2 => k1 (Or.inr (Or.inl h2)), fun h2 => ⟨hx, hm, fun h3 => k1 (Or.inr (Or.inr h3)), fun h3 => k2 (by omega)⟩⟩⟩)
theorem c_hasNode {x : Int} (hp : PP P) (hx : Zr x) (h0 : Zr (m 38 8)) (hm : Zr (m 38 11)) {post : Int → Mi → Mj → Mp → Prop} (k1 : m 38 8 = 0 ∨ x < 0 ∨ m 38 11 ≤ x → post 0 m J P) (k2 : m 38 8 ≠ 0 ∧ 0 ≤ x ∧ x < m 38 11 → post 1 m J P) : Ci X d 114 [.ref 38, .int (iz x)] m J P post :=
  Ci.of rfl rfl rfl (b_Tree_hasNode_0 x m J P hp post ⟨h0, fun h => k1 (Or.inl h), fun h0 => ⟨hx, fun h => k1 (Or.inr (Or.inl h)), fun h => ⟨hx, hm, fun h2 => k1 (Or.inr (Or.inr h2)), fun h2 => k2 ⟨h0, by omega, by omega⟩⟩⟩⟩)
theorem c_hasAnswer {x : Int} (hp : PP P) (hx : Zr x) (h0 : Zr (m 38 8)) (hm : Zr (m 38 12)) {post : Int → Mi → Mj → Mp → Prop} (k1 : m 38 8 = 0 ∨ x < 0 ∨ m 38 12 ≤ x → post 0 m J P) (k2 : m 38 8 ≠ 0 ∧ 0 ≤ x ∧ x < m 38 12 → post 1 m J P) : Ci X d 119 [.ref 38, .int (iz x)] m J P post :=
  Ci.of rfl rfl rfl (b_Tree_hasAnswer_0 x m J P hp post ⟨h0, fun h => k1 (Or.inl h), fun h0 => ⟨hx, fun h => k1 (Or.inr (Or.inl h)), fun h => ⟨hx, hm, fun h2 => k1 (Or.inr (Or.inr h2)), fun h2 => k2 ⟨h0, by omega, by omega⟩⟩⟩⟩)
theorem r_isNode {x : Int} (hp : PP P) (hx : Zr x) (h0 : Zr (m 262 93)) (hm : Zr (m 262 96)) {post : Int → Mi → Mj → Mp → Prop} (k1 : m 262 93 = 0 ∨ x < 0 ∨ m 262 96 ≤ x → post 0 m J P) (k2 : m 262 93 ≠ 0 ∧ 0 ≤ x ∧ x < m 262 96 → post 1 m J P) : Ci X d 208 [.ref 262, .int (iz x)] m J P post :=
  Ci.of rfl rfl rfl (b_Mdl_isNode_0 x m J P hp post ⟨h0, fun h => k1 (Or.inl h), fun h0 => ⟨hx, fun h => k1 (Or.inr (Or.inl h)), fun h => ⟨hx, hm, fun h2 => k1 (Or.inr (Or.inr h2)), fun h2 => k2 ⟨h0, by omega, by omega⟩⟩⟩⟩)
theorem r_isAnswer {x : Int} (hp : PP P) (hx : Zr x) (h0 : Zr (m 262 93)) (hm : Zr (m 262 98)) {post : Int → Mi → Mj → Mp → Prop} (k1 : m 262 93 = 0 ∨ x < 0 ∨ m 262 98 ≤ x → post 0 m J P) (k2 : m 262 93 ≠ 0 ∧ 0 ≤ x ∧ x < m 262 98 → post 1 m J P) : Ci X d 210 [.ref 262, .int (iz x)] m J P post :=
  Ci.of rfl rfl rfl (b_Mdl_isAnswer_0 x m J P hp post ⟨h0, fun h => k1 (Or.inl h), fun h0 => ⟨hx, fun h => k1 (Or.inr (Or.inl h)), fun h => ⟨hx, hm, fun h2 => k1 (Or.inr (Or.inr h2)), fun h2 => k2 ⟨h0, by omega, by omega⟩⟩⟩⟩)
theorem c_kept {z : Int} (hp : PP P) (hz : Zr (m 50 1)) {post : Int → Mi → Mj → Mp → Prop} (e : (if 1000 < m 50 1 then 1000 else m 50 1) = z) (k : post z m J P) : Ci X (d + 1) 75 [.ref 50] m J P post := by
  subst e
  exact Ci.of rfl rfl rfl (b_Page_kept_0 m J P hp post ⟨hz, k⟩)
end FRE
