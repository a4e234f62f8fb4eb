/-! indices, stores, closed tables over the eight inputs -/
theorem sw_ix (p k : Nat) : nI p * 4 + nI k = nI (p * 4 + k) := by rw [show (4 : Int32) = nI 4 from rfl, pk_mul, nI_add]
theorem sw_iy (p x : Nat) : 256 * nI p + nI x = nI (256 * p + x) := by rw [show (256 : Int32) = nI 256 from rfl, pk_mul, nI_add]
theorem sw_x6 {x : Nat} (hx : x < 256) : nI x >>> ((6 : Int32) &&& 31) = nI (x / 64) := pk_shrN (by omega) _ 6 (by decide)
theorem sw_x63 {x : Nat} (hx : x < 256) : nI x &&& 63 = nI (x % 64) := pk_andN (by omega) 6 (by decide)
def sw_putL (a : Nat → Int64) (m : Nat) (f : Nat → Int64) (k : Nat) : Nat → Int64 := fun j => if m * 4 ≤ j ∧ j < m * 4 + k then f (j - m * 4) else a j
theorem sw_putL_0 (a : Nat → Int64) (m : Nat) (f : Nat → Int64) : sw_putL a m f 0 = a := funext fun j => if_neg (by omega)
theorem sw_putL_s (a : Nat → Int64) (m : Nat) (f : Nat → Int64) (k : Nat) : vp_updL (sw_putL a m f k) (m * 4 + k) (f k) = sw_putL a m f (k + 1) := by
  funext j
  unfold vp_updL sw_putL
  by_cases e : j = m * 4 + k
  · rw [if_pos e, if_pos (by omega), show j - m * 4 = k by omega]
  · rw [if_neg e]
    by_cases h : m * 4 ≤ j ∧ j < m * 4 + k
    · rw [if_pos h, if_pos (by omega)]
    · rw [if_neg h, if_neg (by omega)]
theorem sw_putL_lo (a : Nat → Int64) {m p : Nat} (f : Nat → Int64) (k : Nat) {i : Nat} (hp : p < m) (hi : i < 4) : sw_putL a m f k (p * 4 + i) = a (p * 4 + i) := if_neg (by omega)
theorem sw_putL_hi (a : Nat → Int64) (m : Nat) (f : Nat → Int64) {k i : Nat} (hi : i < k) : sw_putL a m f k (m * 4 + i) = f i := (if_pos (by omega)).trans (by rw [Nat.add_sub_cancel_left])
def sw_putI (a : Nat → Int32) (m : Nat) (f : Nat → Int32) (k : Nat) : Nat → Int32 := fun j => if 256 * m ≤ j ∧ j < 256 * m + k then f (j - 256 * m) else a j
theorem sw_putI_0 (a : Nat → Int32) (m : Nat) (f : Nat → Int32) : sw_putI a m f 0 = a := funext fun j => if_neg (by omega)
theorem sw_putI_s (a : Nat → Int32) (m : Nat) (f : Nat → Int32) (k : Nat) : upd (sw_putI a m f k) (256 * m + k) (f k) = sw_putI a m f (k + 1) := by
  funext j
  unfold upd sw_putI
  by_cases e : j = 256 * m + k
  · rw [if_pos e, if_pos (by omega), show j - 256 * m = k by omega]
  · rw [if_neg e]
    by_cases h : 256 * m ≤ j ∧ j < 256 * m + k
    · rw [if_pos h, if_pos (by omega)]
    · rw [if_neg h, if_neg (by omega)]
theorem sw_putI_lo (a : Nat → Int32) {m p : Nat} (f : Nat → Int32) (k : Nat) {i : Nat} (hp : p < m) (hi : i < 256) : sw_putI a m f k (256 * p + i) = a (256 * p + i) := if_neg (by omega)
theorem sw_putI_hi (a : Nat → Int32) (m : Nat) (f : Nat → Int32) {k i : Nat} (hi : i < k) : sw_putI a m f k (256 * m + i) = f i := (if_pos (by omega)).trans (by rw [Nat.add_sub_cancel_left])
def sw_lo (x i : Nat) : Nat := if x.testBit i = true then x - 2 ^ i else x
def sw_hi (x i : Nat) : Nat := if x.testBit i = true then x else x + 2 ^ i
def sw_ex (x i j : Nat) : Nat := if x.testBit i = x.testBit j then x else (x ^^^ 2 ^ i) ^^^ 2 ^ j
theorem sw_t_shr : ∀ i, i < 8 → ∀ x, x < 256 → (nI x >>> (nI i &&& 31)) &&& 1 = sw_i (x.testBit i) := by decide +kernel
theorem sw_t_lo : ∀ i, i < 8 → ∀ x, x < 256 → nI x &&& (((1 : Int32) <<< (nI i &&& 31)) ^^^ (-1)) = nI (sw_lo x i) := by decide +kernel
theorem sw_t_hi : ∀ i, i < 8 → ∀ x, x < 256 → nI x ||| ((1 : Int32) <<< (nI i &&& 31)) = nI (sw_hi x i) := by decide +kernel
theorem sw_lo_lt : ∀ i, i < 8 → ∀ x, x < 256 → sw_lo x i < 256 ∧ sw_hi x i < 256 := by decide +kernel
theorem sw_lo_b : ∀ i, i < 8 → ∀ x, x < 256 → (sw_lo x i).testBit i = false ∧ sw_hi (sw_lo x i) i = sw_hi x i := by decide +kernel
theorem sw_lo_t : ∀ i, i < 8 → ∀ x, x < 256 → x.testBit i = true → sw_lo x i < x := by decide +kernel
theorem sw_ex_lt : ∀ i, i < 8 → ∀ j, j < 8 → ∀ x, x < 256 → sw_ex x i j < 256 := by decide +kernel
theorem sw_t_ex : ∀ i, i < 8 → ∀ j, j < 8 → ∀ x, x < 256 → x.testBit i ≠ x.testBit j → (nI x ^^^ ((1 : Int32) <<< (nI i &&& 31))) ^^^ ((1 : Int32) <<< (nI j &&& 31)) = nI (sw_ex x i j) := by decide +kernel
/-! what a rise of input i does: 1 a rise, 2 a fall -/
def sw_c (P : Nat → Bool) (i x : Nat) : Int32 := if P x = P (sw_hi x i) then 0 else if P (sw_hi x i) = true then 1 else 2
def sw_ch (P : Nat → Bool) (i : Nat) : Nat → Nat → Int32 → Int32
  | 0, _, s => s
  | d + 1, x, s => sw_ch P i d (x + 1) (if x.testBit i = true then s else s ||| sw_c P i x)
theorem sw_ch_t (P : Nat → Bool) {i d x : Nat} (s : Int32) (h : x.testBit i = true) : sw_ch P i (d + 1) x s = sw_ch P i d (x + 1) s := congrArg (sw_ch P i d (x + 1)) (if_pos h)
theorem sw_ch_f (P : Nat → Bool) {i d x : Nat} (s : Int32) (h : x.testBit i = false) : sw_ch P i (d + 1) x s = sw_ch P i d (x + 1) (s ||| sw_c P i x) := congrArg (sw_ch P i d (x + 1)) (if_neg (by rw [h]; decide))
def sw_seen (P : Nat → Bool) (i x : Nat) (s : Int32) : Prop := ∀ y, y < x → y.testBit i = false → s ||| sw_c P i y = s
theorem sw_seen_t {P : Nat → Bool} {i x : Nat} {s : Int32} (h : sw_seen P i x s) (hb : x.testBit i = true) : sw_seen P i (x + 1) s := by
  intro y hy e
  rcases Nat.lt_or_ge y x with z | z
  · exact h y z e
  · have q : y = x := by omega
    rw [q, hb] at e
    exact absurd e (by decide)
theorem sw_seen_f {P : Nat → Bool} {i x : Nat} {s : Int32} (h : sw_seen P i x s) : sw_seen P i (x + 1) (s ||| sw_c P i x) := by
  intro y hy e
  rcases Nat.lt_or_ge y x with z | z
  · rw [Int32.or_assoc, Int32.or_comm (sw_c P i x), ← Int32.or_assoc, h y z e]
  · have q : y = x := by omega
    rw [q, Int32.or_assoc, Int32.or_self]
theorem sw_t_yex : ∀ i, i < 8 → ∀ j, j < 8 → ∀ x, x < 256 → (((nI x &&& (((1 : Int32) <<< (nI i &&& 31)) ^^^ (-1))) &&& (((1 : Int32) <<< (nI j &&& 31)) ^^^ (-1))) ||| (sw_i (x.testBit j) <<< (nI i &&& 31))) ||| (sw_i (x.testBit i) <<< (nI j &&& 31)) = nI (sw_ex x i j) := by decide +kernel
