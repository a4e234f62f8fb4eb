/-! wires, inputs, one value of a wire on either side -/
theorem sw_nb (b : Bool) : narrow .boolean (.int (sw_i b)) = .int (sw_i b) := by cases b <;> rfl
theorem sw_3 (x : Int32) {n : Nat} (hn : n < 2 ^ 31) : (x < 0 ∨ nI n ≤ x) ∨ ∃ j : Nat, j < n ∧ x = nI j := by
  rcases pk_ix x hn with h | h | h
  · exact Or.inl (Or.inl h)
  · exact Or.inl (Or.inr h)
  · exact Or.inr h
theorem sw_isX_n {n : Int32} {a : Nat → Int64} {x : Int32} {post : Int32 → Prop} (h : x < 0 ∨ n ≤ x) (p : post 0) : wpX_isWire post (n, a) x := by
  rcases h with h | h
  · exact br_t h p
  · exact br_c (fun _ => p) (fun _ => br_t h p)
theorem sw_isX_y {n j : Nat} {a : Nat → Int64} {post : Int32 → Prop} (hn : n ≤ 40) (h : j < n) (p : post 1) : wpX_isWire post (nI n, a) (nI j) := br_f (nI_pos (by omega)) (br_f (nI_ge h (by omega)) p)
theorem sw_isY_n {n : Int32} {a : Nat → Int32} {x : Int32} {post : Int32 → Prop} (h : x < 0 ∨ n ≤ x) (p : post 0) : wpY_is post (n, a) x := by
  rcases h with h | h
  · exact br_t h p
  · exact br_c (fun _ => p) (fun _ => br_t h p)
theorem sw_isY_y {n j : Nat} {a : Nat → Int32} {post : Int32 → Prop} (hn : n ≤ 40) (h : j < n) (p : post 1) : wpY_is post (nI n, a) (nI j) := br_f (nI_pos (by omega)) (br_f (nI_ge h (by omega)) p)
theorem sw_in_n {x : Int32} {post : Int32 → Prop} (h : x < 0 ∨ nI 8 ≤ x) (p : post 0) : wpX_isInput post x := by
  rcases h with h | h
  · exact br_t h p
  · exact br_c (fun _ => p) (fun _ => br_t h p)
theorem sw_in_y {j : Nat} {post : Int32 → Prop} (h : j < 8) (p : post 1) : wpX_isInput post (nI j) := br_f (nI_pos (by omega)) (br_f (nI_ge (b := 8) h (by decide)) p)
theorem sw_1n0 : ¬ (1 : Int32) = 0 := by decide
theorem sw_bitOf {n : Int32} {a : Nat → Int64} {p x : Nat} {post : Int32 → Prop} (hp : p < 40) (hx : x < 256) (h : post (sw_i (sw_T a p x))) : wpX_bitOf post (n, a) (nI p) (nI x) := by
  have e : nI p * 4 + (nI x >>> ((6 : Int32) &&& 31)) = nI (p * 4 + x / 64) := by rw [sw_x6 hx, sw_ix]
  unfold wpX_bitOf
  dsimp only
  rw [e, sw_x63 hx, nI_clamp (by omega), sw_bit _ (by omega)]
  exact ⟨vp_in_nI (by omega) (by omega), h⟩
/-- Y's table holds the picture P for the wires below n -/
def sw_H (n : Nat) (t : Nat → Int32) (P : Nat → Nat → Bool) : Prop := ∀ p x, p < n → x < 256 → t (256 * p + x) = sw_i (P p x)
theorem sw_at {n : Int32} {t : Nat → Int32} {p x : Nat} {post : Int32 → Prop} (b : Bool) (hp : p < 40) (hx : x < 256) (ht : t (256 * p + x) = sw_i b) (h : post (sw_i b)) : wpY_at post (n, t) (nI p) (nI x) := by
  unfold wpY_at
  dsimp only
  rw [sw_iy, nI_clamp (by omega), ht]
  exact ⟨vp_in_nI (by omega) (by omega), sw_nb b, h⟩
theorem sw_le {k : Nat} (c : Nat) (h : c ≤ k) (hk : k < 2 ^ 31) : nI c ≤ nI k := nI_le h hk
theorem sw_nle {k : Nat} (c : Nat) (h : k < c) (hc : c < 2 ^ 31) : ¬ nI c ≤ nI k := nI_ge h hc
