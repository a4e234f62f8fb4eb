/-! bits of a long; the picture of a wire; scans -/
def sw_b (w : Int64) (j : Nat) : Bool := w.toBitVec.getLsbD j
def sw_i (b : Bool) : Int32 := if b = true then 1 else 0
theorem sw_i_t {b : Bool} (h : b = true) : sw_i b = 1 := if_pos h
theorem sw_i_f {b : Bool} (h : b = false) : sw_i b = 0 := by rw [h]; rfl
theorem sw_i_1 (b : Bool) : sw_i b = 1 ↔ b = true := by cases b <;> decide
theorem sw_i_0 (b : Bool) : sw_i b = 0 ↔ b = false := by cases b <;> decide
theorem sw_i_e (a b : Bool) : sw_i a = sw_i b ↔ a = b := by cases a <;> cases b <;> decide
theorem sw_ext {x y : Int64} (h : ∀ j, j < 64 → sw_b x j = sw_b y j) : x = y := Int64.toBitVec_inj.mp (BitVec.eq_of_getLsbD_eq (fun i hi => h i hi))
theorem sw_b_or (x y : Int64) (j : Nat) : sw_b (x ||| y) j = (sw_b x j || sw_b y j) := by unfold sw_b; rw [Int64.toBitVec_or, BitVec.getLsbD_or]
theorem sw_b_and (x y : Int64) (j : Nat) : sw_b (x &&& y) j = (sw_b x j && sw_b y j) := by unfold sw_b; rw [Int64.toBitVec_and, BitVec.getLsbD_and]
theorem sw_b_xor (x y : Int64) (j : Nat) : sw_b (x ^^^ y) j = (sw_b x j ^^ sw_b y j) := by unfold sw_b; rw [Int64.toBitVec_xor, BitVec.getLsbD_xor]
theorem sw_b_m1 : ∀ j, j < 64 → sw_b (-1) j = true := by decide +kernel
theorem sw_b_0 (j : Nat) : sw_b 0 j = false := BitVec.getLsbD_zero
theorem sw_b_not (x : Int64) {j : Nat} (hj : j < 64) : sw_b (x ^^^ (-1)) j = !sw_b x j := by rw [sw_b_xor, sw_b_m1 j hj, Bool.xor_true]
theorem sw_bit (w : Int64) {k : Nat} (hk : k < 64) : ((w.toUInt64 >>> ((nI k).toInt64.toUInt64 &&& Int64.toUInt64 63)).toInt64).toInt32 &&& 1 = sw_i (sw_b w k) := by
  have e : ((w.toUInt64 >>> ((nI k).toInt64.toUInt64 &&& Int64.toUInt64 63)).toInt64).toBitVec = w.toBitVec >>> k := by
    rw [wb_cu k hk]
    apply BitVec.eq_of_toNat_eq
    show (w.toUInt64 >>> UInt64.ofNat k).toNat = _
    rw [UInt64.toNat_shiftRight, u_tn (by omega), Nat.mod_eq_of_lt hk, BitVec.toNat_ushiftRight]
    rfl
  apply Int32.toBitVec_inj.mp
  rw [Int32.toBitVec_and, Int64.toBitVec_toInt32, e]
  show (BitVec.signExtend 32 (w.toBitVec >>> k)) &&& 1#32 = _
  rw [BitVec.and_one_eq_setWidth_ofBool_getLsbD, BitVec.getLsbD_signExtend, if_pos (by decide), BitVec.getLsbD_ushiftRight, Nat.add_zero, decide_eq_true (by decide), Bool.true_and]
  unfold sw_b
  cases w.toBitVec.getLsbD k <;> decide
theorem sw_eqw (x y : Int64) : x = y ↔ ∀ j, j < 64 → sw_b x j = sw_b y j := ⟨fun h _ _ => by rw [h], sw_ext⟩
theorem sw_opw (x y : Int64) : x = y ^^^ (-1) ↔ ∀ j, j < 64 → (sw_b x j = !sw_b y j) :=
  ⟨fun h j hj => by rw [h, sw_b_not _ hj], fun h => sw_ext fun j hj => by rw [h j hj, sw_b_not _ hj]⟩
theorem sw_imw (x y : Int64) : x &&& (y ^^^ (-1)) = 0 ↔ ∀ j, j < 64 → ((!sw_b x j || sw_b y j) = true) := by
  rw [sw_eqw]
  constructor
  · intro h j hj
    have := h j hj
    rw [sw_b_and, sw_b_not _ hj, sw_b_0] at this
    revert this
    cases sw_b x j <;> cases sw_b y j <;> decide
  · intro h j hj
    have := h j hj
    rw [sw_b_and, sw_b_not _ hj, sw_b_0]
    revert this
    cases sw_b x j <;> cases sw_b y j <;> decide
/-- the value of wire w for assignment x -/
def sw_T (a : Nat → Int64) (w x : Nat) : Bool := sw_b (a (w * 4 + x / 64)) (x % 64)
theorem sw_w4 (R : Int64 → Int64 → Prop) (r : Bool → Bool → Prop) (hR : ∀ x y, R x y ↔ ∀ j, j < 64 → r (sw_b x j) (sw_b y j)) (a : Nat → Int64) (p q : Nat) : (∀ k, k < 4 → R (a (p * 4 + k)) (a (q * 4 + k))) ↔ ∀ x, x < 256 → r (sw_T a p x) (sw_T a q x) := by
  constructor
  · intro h x hx
    exact (hR _ _).mp (h (x / 64) (by omega)) (x % 64) (by omega)
  · intro h k hk
    rw [hR]
    intro j hj
    have t := h (64 * k + j) (by omega)
    unfold sw_T at t
    rw [show (64 * k + j) / 64 = k by omega, show (64 * k + j) % 64 = j by omega] at t
    exact t
/-- the first x at or after the start with p, or the end -/
def sw_find (p : Nat → Bool) : Nat → Nat → Nat
  | 0, x => x
  | d + 1, x => if p x = true then x else sw_find p d (x + 1)
theorem sw_find_t {p : Nat → Bool} {d x : Nat} (h : p x = true) : sw_find p (d + 1) x = x := if_pos h
theorem sw_find_f {p : Nat → Bool} {d x : Nat} (h : p x = false) : sw_find p (d + 1) x = sw_find p d (x + 1) := if_neg (by rw [h]; decide)
theorem sw_find_le (p : Nat → Bool) : ∀ d x, x ≤ sw_find p d x ∧ sw_find p d x ≤ x + d := by
  intro d
  induction d with
  | zero => intro x; exact ⟨Nat.le_refl _, Nat.le_refl _⟩
  | succ d ih =>
    intro x
    cases h : p x with
    | true => rw [sw_find_t h]; omega
    | false => rw [sw_find_f h]; have := ih (x + 1); omega
def sw_all (p : Nat → Bool) : Nat → Nat → Bool
  | 0, _ => true
  | d + 1, x => if p x = true then sw_all p d (x + 1) else false
theorem sw_all_t {p : Nat → Bool} {d x : Nat} (h : p x = true) : sw_all p (d + 1) x = sw_all p d (x + 1) := if_pos h
theorem sw_all_f {p : Nat → Bool} {d x : Nat} (h : p x = false) : sw_all p (d + 1) x = false := if_neg (by rw [h]; decide)
theorem sw_all_i (p : Nat → Bool) : ∀ d x, sw_all p d x = true ↔ ∀ y, x ≤ y → y < x + d → p y = true := by
  intro d
  induction d with
  | zero => intro x; exact ⟨fun _ y h1 h2 => by omega, fun _ => rfl⟩
  | succ d ih =>
    intro x
    cases h : p x with
    | true =>
      rw [sw_all_t h, ih]
      constructor
      · intro g y h1 h2
        rcases Nat.eq_or_lt_of_le h1 with e | e
        · rw [← e]; exact h
        · exact g y e (by omega)
      · intro g y h1 h2
        exact g y (by omega) (by omega)
    | false =>
      rw [sw_all_f h]
      constructor
      · intro z; exact absurd z (by decide)
      · intro g
        rw [g x (Nat.le_refl x) (by omega)] at h
        exact absurd h (by decide)
theorem sw_all_0 (p : Nat → Bool) (d : Nat) : sw_all p d 0 = true ↔ ∀ y, y < d → p y = true := by
  rw [sw_all_i]
  exact ⟨fun h y hy => h y (Nat.zero_le y) (by omega), fun h y _ hy => h y (by omega)⟩
/-- four words against 256 values -/
theorem sw_w4b (f : Nat → Bool) (R : Int64 → Int64 → Prop) (g : Bool → Bool → Bool) (hR : ∀ x y, R x y ↔ ∀ j, j < 64 → g (sw_b x j) (sw_b y j) = true) (a : Nat → Int64) (p q : Nat) (hf : ∀ k, k < 4 → (f k = true ↔ R (a (p * 4 + k)) (a (q * 4 + k)))) : sw_all f 4 0 = sw_all (fun x => g (sw_T a p x) (sw_T a q x)) 256 0 := by
  rw [Bool.eq_iff_iff, sw_all_0, sw_all_0]
  have h := sw_w4 R (fun x y => g x y = true) hR a p q
  exact ⟨fun z => h.mp fun k hk => (hf k hk).mp (z k hk), fun z k hk => (hf k hk).mpr (h.mpr z k hk)⟩
/-- whether two wires hold the same -/
def sw_E (P : Nat → Nat → Bool) (p q : Nat) : Bool := sw_all (fun x => P p x == P q x) 256 0
theorem sw_E_r (P : Nat → Nat → Bool) (p : Nat) : sw_E P p p = true := (sw_all_0 _ _).mpr fun y _ => beq_self_eq_true _
theorem sw_E_s (P : Nat → Nat → Bool) (p q : Nat) : sw_E P p q = sw_E P q p := by
  rw [Bool.eq_iff_iff]
  unfold sw_E
  rw [sw_all_0, sw_all_0]
  constructor
  · intro h y hy
    have := h y hy
    rw [beq_iff_eq] at this ⊢
    exact this.symm
  · intro h y hy
    have := h y hy
    rw [beq_iff_eq] at this ⊢
    exact this.symm
theorem sw_E_f (P : Nat → Nat → Bool) (p q : Nat) : ∀ d x, x + d = 256 → (sw_find (fun x => P p x != P q x) d x = 256 ↔ sw_all (fun x => P p x == P q x) d x = true) := by
  intro d
  induction d with
  | zero => intro x hx; exact ⟨fun _ => rfl, fun _ => by show x = 256; omega⟩
  | succ d ih =>
    intro x hx
    cases h : (P p x == P q x) with
    | true =>
      have h2 : (fun x => P p x != P q x) x = false := by show (!(P p x == P q x)) = false; rw [h]; rfl
      rw [sw_find_f h2, sw_all_t (p := fun x => P p x == P q x) h]
      exact ih (x + 1) (by omega)
    | false =>
      have h2 : (fun x => P p x != P q x) x = true := by show (!(P p x == P q x)) = true; rw [h]; rfl
      rw [sw_find_t h2, sw_all_f (p := fun x => P p x == P q x) h]
      exact ⟨fun z => by omega, fun z => absurd z (by decide)⟩
theorem sw_E_256 (P : Nat → Nat → Bool) (p q : Nat) : sw_find (fun x => P p x != P q x) 256 0 = 256 ↔ sw_E P p q = true := sw_E_f P p q 256 0 rfl
/-- counting -/
def sw_cnt (p : Nat → Bool) : Nat → Nat → Nat → Nat
  | 0, _, s => s
  | d + 1, x, s => sw_cnt p d (x + 1) (if p x = true then s + 1 else s)
theorem sw_cnt_t {p : Nat → Bool} {d x s : Nat} (h : p x = true) : sw_cnt p (d + 1) x s = sw_cnt p d (x + 1) (s + 1) := congrArg (sw_cnt p d (x + 1)) (if_pos h)
theorem sw_cnt_f {p : Nat → Bool} {d x s : Nat} (h : p x = false) : sw_cnt p (d + 1) x s = sw_cnt p d (x + 1) s := congrArg (sw_cnt p d (x + 1)) (if_neg (by rw [h]; decide))
/-! gates -/
def sw_gw (kind : Nat) (a b c : Int64) : Int64 :=
  match kind with
  | 0 => a &&& b
  | 1 => a ||| b
  | 2 => a ^^^ b
  | 3 => (a &&& b) ^^^ (-1)
  | 4 => (a ||| b) ^^^ (-1)
  | 5 => (a ^^^ b) ^^^ (-1)
  | 6 => (a ^^^ (-1)) ||| b
  | 7 => (a &&& b) ||| ((a ^^^ (-1)) &&& c)
  | 8 => ((a &&& b) ||| (a &&& c)) ||| (b &&& c)
  | _ => (a ^^^ b) ^^^ c
def sw_gb (kind : Nat) (a b c : Bool) : Bool :=
  match kind with
  | 0 => a && b
  | 1 => a || b
  | 2 => a ^^ b
  | 3 => !(a && b)
  | 4 => !(a || b)
  | 5 => !(a ^^ b)
  | 6 => !a || b
  | 7 => (a && b) || (!a && c)
  | 8 => ((a && b) || (a && c)) || (b && c)
  | _ => (a ^^ b) ^^ c
theorem sw_gw_b (kind : Nat) (a b c : Int64) {j : Nat} (hj : j < 64) : sw_b (sw_gw kind a b c) j = sw_gb kind (sw_b a j) (sw_b b j) (sw_b c j) := by
  match kind with
  | 0 => exact sw_b_and a b j
  | 1 => exact sw_b_or a b j
  | 2 => exact sw_b_xor a b j
  | 3 => exact (sw_b_not _ hj).trans (congrArg _ (sw_b_and a b j))
  | 4 => exact (sw_b_not _ hj).trans (congrArg _ (sw_b_or a b j))
  | 5 => exact (sw_b_not _ hj).trans (congrArg _ (sw_b_xor a b j))
  | 6 => show sw_b ((a ^^^ (-1)) ||| b) j = (!sw_b a j || sw_b b j); rw [sw_b_or, sw_b_not _ hj]
  | 7 => show sw_b ((a &&& b) ||| ((a ^^^ (-1)) &&& c)) j = ((sw_b a j && sw_b b j) || (!sw_b a j && sw_b c j)); rw [sw_b_or, sw_b_and, sw_b_and, sw_b_not _ hj]
  | 8 => show sw_b (((a &&& b) ||| (a &&& c)) ||| (b &&& c)) j = (((sw_b a j && sw_b b j) || (sw_b a j && sw_b c j)) || (sw_b b j && sw_b c j)); rw [sw_b_or, sw_b_or, sw_b_and, sw_b_and, sw_b_and]
  | k + 9 => show sw_b ((a ^^^ b) ^^^ c) j = ((sw_b a j ^^ sw_b b j) ^^ sw_b c j); rw [sw_b_xor, sw_b_xor]
