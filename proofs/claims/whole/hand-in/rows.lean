section
theorem pk_us {f : Nat → Int32} {k : Nat} {x : Int32} : upd f k x k = x := if_pos rfl
theorem pk_un {f : Nat → Int32} {k j : Nat} {x : Int32} (h : j ≠ k) : upd f k x j = f j := if_neg h
theorem pk_uLs {f : Nat → Int64} {k : Nat} {x : Int64} : vp_updL f k x k = x := if_pos rfl
theorem pk_uLn {f : Nat → Int64} {k j : Nat} {x : Int64} (h : j ≠ k) : vp_updL f k x j = f j := if_neg h
theorem pk_sub {a b : Nat} (h : b ≤ a) : nI a - nI b = nI (a - b) := by
  obtain ⟨c, rfl⟩ : ∃ c, a = c + b := ⟨a - b, by omega⟩
  rw [← nI_add, Int32.add_sub_cancel, Nat.add_sub_cancel]
theorem pk_mul (a b : Nat) : nI a * nI b = nI (a * b) := (Int32.ofNat_mul a b).symm
theorem pk_div {a d : Nat} (ha : a < 2 ^ 31) (h0 : 0 < d) (hd : d < 2 ^ 31) : nI a / nI d = nI (a / d) := by
  apply Int32.toInt_inj.mp
  rw [lg_idiv_nonneg (by rw [nI_toInt ha]; omega) (by rw [nI_toInt hd]; omega), nI_toInt ha, nI_toInt hd, nI_toInt (Nat.lt_of_le_of_lt (Nat.div_le_self a d) ha)]
  first | rfl | exact (Int.natCast_ediv _ _).symm
theorem pk_rem {a d : Nat} (ha : a < 2 ^ 31) (h0 : 0 < d) (hd : d < 2 ^ 31) : nI a - nI a / nI d * nI d = nI (a % d) := by
  rw [pk_div ha h0 hd, pk_mul, pk_sub (Nat.div_mul_le_self a d)]
  exact congrArg nI (by have := Nat.div_add_mod' a d; omega)
theorem pk_ix (x : Int32) {n : Nat} (hn : n < 2 ^ 31) : x < 0 ∨ nI n ≤ x ∨ ∃ j : Nat, j < n ∧ x = nI j := by
  by_cases h : x < 0
  · exact Or.inl h
  · obtain ⟨j, hj, rfl⟩ := nI_of h
    by_cases h2 : j < n
    · exact Or.inr (Or.inr ⟨j, h2, rfl⟩)
    · exact Or.inr (Or.inl (nI_le (by omega) hj))
theorem pk_le {x y : Int32} {A B : Prop} (a b : Nat) (f : a ≤ b → A) (g : b < a → B) (hx : x = nI a := by rfl) (hy : y = nI b := by rfl) (ha : a < 2 ^ 31 := by omega) (hb : b < 2 ^ 31 := by omega) : (x ≤ y → A) ∧ (¬ x ≤ y → B) := by
  subst hx hy
  rw [nI_leI ha hb]
  exact ⟨f, fun z => g (by omega)⟩
theorem pk_lt {x y : Int32} {A B : Prop} (a b : Nat) (f : a < b → A) (g : b ≤ a → B) (hx : x = nI a := by rfl) (hy : y = nI b := by rfl) (ha : a < 2 ^ 31 := by omega) (hb : b < 2 ^ 31 := by omega) : (x < y → A) ∧ (¬ x < y → B) := by
  subst hx hy
  rw [nI_ltI ha hb]
  exact ⟨f, fun z => g (by omega)⟩
theorem pk_eq {x y : Int32} {A B : Prop} (a b : Nat) (f : a = b → A) (g : a ≠ b → B) (hx : x = nI a := by rfl) (hy : y = nI b := by rfl) (ha : a < 2 ^ 31 := by omega) (hb : b < 2 ^ 31 := by omega) : (x = y → A) ∧ (¬ x = y → B) := by
  subst hx hy
  rw [nI_eq ha hb]
  exact ⟨f, g⟩
theorem pk_in {x : Int32} (n N : Nat) (h : n < N) (hx : x = nI n := by rfl) (hN : N < 2 ^ 31 := by omega) : vp_in x N := by
  subst hx
  exact vp_in_nI h hN
theorem pk_cl {x : Int32} (n : Nat) (hx : x = nI n := by rfl) (h : n < 2 ^ 31 := by omega) : x.toNatClampNeg = n := by
  subst hx
  exact nI_clamp h
theorem pk_tn {n : Nat} (h : n < 2 ^ 32) : (nI n).toBitVec.toNat = n := Nat.mod_eq_of_lt h
theorem pk_and (x : Int32) {m : Int32} (k : Nat) (hm : m.toBitVec.toNat = 2 ^ k - 1) : x &&& m = nI (x.toBitVec.toNat % 2 ^ k) := by
  apply Int32.toBitVec_inj.mp
  apply BitVec.eq_of_toNat_eq
  rw [Int32.toBitVec_and, BitVec.toNat_and, hm, Nat.and_two_pow_sub_one_eq_mod]
  show _ = (BitVec.ofNat 32 _).toNat
  rw [BitVec.toNat_ofNat]
  exact (Nat.mod_eq_of_lt (Nat.lt_of_le_of_lt (Nat.mod_le _ _) x.toBitVec.isLt)).symm
theorem pk_andN {n : Nat} (h : n < 2 ^ 32) {m : Int32} (k : Nat) (hm : m.toBitVec.toNat = 2 ^ k - 1) : nI n &&& m = nI (n % 2 ^ k) := by
  rw [pk_and _ k hm, pk_tn h]
theorem pk_shr (a s : Int32) (k : Nat) (hs : (s.toBitVec.smod 32).toNat = k) : (a >>> s).toInt = a.toInt >>> k := by
  show (a.toBitVec.sshiftRight (s.toBitVec.smod 32).toNat).toInt = _
  rw [hs, BitVec.toInt_sshiftRight]
  rfl
theorem pk_shrN {n : Nat} (h : n < 2 ^ 31) (s : Int32) (k : Nat) (hs : (s.toBitVec.smod 32).toNat = k) : nI n >>> s = nI (n / 2 ^ k) := by
  apply Int32.toInt_inj.mp
  have h2 : n / 2 ^ k ≤ n := Nat.div_le_self _ _
  rw [pk_shr _ _ k hs, nI_toInt h, nI_toInt (by omega), Int.shiftRight_eq_div_pow]
  rfl
theorem s_l : ∀ n, n < 32 → ((nI n &&& 31).toBitVec.smod 32).toNat = n := by decide +kernel
theorem wb_tb (n : Nat) : (lN n).toBitVec = BitVec.ofNat 64 n := rfl
theorem wb_inj {a b : Int64} (h : a.toBitVec = b.toBitVec) : a = b := Int64.toBitVec_inj.mp h
theorem wb_c : ∀ k, k < 64 → ((nI k).toInt64 &&& 63) = lN k := by decide +kernel
theorem wb_cu : ∀ k, k < 64 → ((nI k).toInt64.toUInt64 &&& Int64.toUInt64 63) = UInt64.ofNat k := by decide +kernel
theorem wb_sm : ∀ k, k < 64 → (BitVec.ofNat 64 k).smod 64 = BitVec.ofNat 64 k := by decide +kernel
theorem wb_shl (n : Nat) {k : Nat} (hk : k < 64) : lN n <<< ((nI k).toInt64 &&& 63) = lN (n * 2 ^ k) := by
  rw [wb_c k hk]
  apply wb_inj
  rw [Int64.toBitVec_shiftLeft, wb_tb, wb_tb, wb_tb, wb_sm k hk]
  apply BitVec.eq_of_toNat_eq
  rw [BitVec.shiftLeft_eq', BitVec.toNat_shiftLeft, BitVec.toNat_ofNat, BitVec.toNat_ofNat, BitVec.toNat_ofNat, Nat.mod_eq_of_lt (show k < 2 ^ 64 by omega), Nat.shiftLeft_eq, Nat.mul_mod, Nat.mod_mod, ← Nat.mul_mod]
theorem u_tn {n : Nat} (h : n < 2 ^ 64) : (UInt64.ofNat n).toNat = n := Nat.mod_eq_of_lt h
end
section
/-! bits of a long; the picture of a wire; scans -/
def sw_b (w : Int64) (j : Nat) : Bool := w.toBitVec.getLsbD j
def sw_i (b : Bool) : Int32 := if b = true then 1 else 0
theorem sw_i_t {b : Bool} (h : b = true) : sw_i b = 1 := if_pos h
theorem sw_i_f {b : Bool} (h : b = false) : sw_i b = 0 := by rw [h]; rfl
theorem sw_i_1 (b : Bool) : sw_i b = 1 ↔ b = true := by cases b <;> decide
theorem sw_i_0 (b : Bool) : sw_i b = 0 ↔ b = false := by cases b <;> decide
theorem sw_i_e (a b : Bool) : sw_i a = sw_i b ↔ a = b := by cases a <;> cases b <;> decide
theorem sw_ext {x y : Int64} (h : ∀ j, j < 64 → sw_b x j = sw_b y j) : x = y := Int64.toBitVec_inj.mp (BitVec.eq_of_getLsbD_eq (fun i hi => h i hi))
theorem sw_b_or (x y : Int64) (j : Nat) : sw_b (x ||| y) j = (sw_b x j || sw_b y j) := by unfold sw_b; rw [Int64.toBitVec_or, BitVec.getLsbD_or]
theorem sw_b_and (x y : Int64) (j : Nat) : sw_b (x &&& y) j = (sw_b x j && sw_b y j) := by unfold sw_b; rw [Int64.toBitVec_and, BitVec.getLsbD_and]
theorem sw_b_xor (x y : Int64) (j : Nat) : sw_b (x ^^^ y) j = (sw_b x j ^^ sw_b y j) := by unfold sw_b; rw [Int64.toBitVec_xor, BitVec.getLsbD_xor]
theorem sw_b_m1 : ∀ j, j < 64 → sw_b (-1) j = true := by decide +kernel
theorem sw_b_0 (j : Nat) : sw_b 0 j = false := BitVec.getLsbD_zero
theorem sw_b_not (x : Int64) {j : Nat} (hj : j < 64) : sw_b (x ^^^ (-1)) j = !sw_b x j := by rw [sw_b_xor, sw_b_m1 j hj, Bool.xor_true]
theorem sw_bit (w : Int64) {k : Nat} (hk : k < 64) : ((w.toUInt64 >>> ((nI k).toInt64.toUInt64 &&& Int64.toUInt64 63)).toInt64).toInt32 &&& 1 = sw_i (sw_b w k) := by
  have e : ((w.toUInt64 >>> ((nI k).toInt64.toUInt64 &&& Int64.toUInt64 63)).toInt64).toBitVec = w.toBitVec >>> k := by
    rw [wb_cu k hk]
    apply BitVec.eq_of_toNat_eq
    show (w.toUInt64 >>> UInt64.ofNat k).toNat = _
    rw [UInt64.toNat_shiftRight, u_tn (by omega), Nat.mod_eq_of_lt hk, BitVec.toNat_ushiftRight]
    rfl
  apply Int32.toBitVec_inj.mp
  rw [Int32.toBitVec_and, Int64.toBitVec_toInt32, e]
  show (BitVec.signExtend 32 (w.toBitVec >>> k)) &&& 1#32 = _
  rw [BitVec.and_one_eq_setWidth_ofBool_getLsbD, BitVec.getLsbD_signExtend, if_pos (by decide), BitVec.getLsbD_ushiftRight, Nat.add_zero, decide_eq_true (by decide), Bool.true_and]
  unfold sw_b
  cases w.toBitVec.getLsbD k <;> decide
theorem sw_eqw (x y : Int64) : x = y ↔ ∀ j, j < 64 → sw_b x j = sw_b y j := ⟨fun h _ _ => by rw [h], sw_ext⟩
theorem sw_opw (x y : Int64) : x = y ^^^ (-1) ↔ ∀ j, j < 64 → (sw_b x j = !sw_b y j) :=
  ⟨fun h j hj => by rw [h, sw_b_not _ hj], fun h => sw_ext fun j hj => by rw [h j hj, sw_b_not _ hj]⟩
theorem sw_imw (x y : Int64) : x &&& (y ^^^ (-1)) = 0 ↔ ∀ j, j < 64 → ((!sw_b x j || sw_b y j) = true) := by
  rw [sw_eqw]
  constructor
  · intro h j hj
    have := h j hj
    rw [sw_b_and, sw_b_not _ hj, sw_b_0] at this
    revert this
    cases sw_b x j <;> cases sw_b y j <;> decide
  · intro h j hj
    have := h j hj
    rw [sw_b_and, sw_b_not _ hj, sw_b_0]
    revert this
    cases sw_b x j <;> cases sw_b y j <;> decide
/-- the value of wire w for assignment x -/
def sw_T (a : Nat → Int64) (w x : Nat) : Bool := sw_b (a (w * 4 + x / 64)) (x % 64)
theorem sw_w4 (R : Int64 → Int64 → Prop) (r : Bool → Bool → Prop) (hR : ∀ x y, R x y ↔ ∀ j, j < 64 → r (sw_b x j) (sw_b y j)) (a : Nat → Int64) (p q : Nat) : (∀ k, k < 4 → R (a (p * 4 + k)) (a (q * 4 + k))) ↔ ∀ x, x < 256 → r (sw_T a p x) (sw_T a q x) := by
  constructor
  · intro h x hx
    exact (hR _ _).mp (h (x / 64) (by omega)) (x % 64) (by omega)
  · intro h k hk
    rw [hR]
    intro j hj
    have t := h (64 * k + j) (by omega)
    unfold sw_T at t
    rw [show (64 * k + j) / 64 = k by omega, show (64 * k + j) % 64 = j by omega] at t
    exact t
/-- the first x at or after the start with p, or the end -/
def sw_find (p : Nat → Bool) : Nat → Nat → Nat
  | 0, x => x
  | d + 1, x => if p x = true then x else sw_find p d (x + 1)
theorem sw_find_t {p : Nat → Bool} {d x : Nat} (h : p x = true) : sw_find p (d + 1) x = x := if_pos h
theorem sw_find_f {p : Nat → Bool} {d x : Nat} (h : p x = false) : sw_find p (d + 1) x = sw_find p d (x + 1) := if_neg (by rw [h]; decide)
theorem sw_find_le (p : Nat → Bool) : ∀ d x, x ≤ sw_find p d x ∧ sw_find p d x ≤ x + d := by
  intro d
  induction d with
  | zero => intro x; exact ⟨Nat.le_refl _, Nat.le_refl _⟩
  | succ d ih =>
    intro x
    cases h : p x with
    | true => rw [sw_find_t h]; omega
    | false => rw [sw_find_f h]; have := ih (x + 1); omega
def sw_all (p : Nat → Bool) : Nat → Nat → Bool
  | 0, _ => true
  | d + 1, x => if p x = true then sw_all p d (x + 1) else false
theorem sw_all_t {p : Nat → Bool} {d x : Nat} (h : p x = true) : sw_all p (d + 1) x = sw_all p d (x + 1) := if_pos h
theorem sw_all_f {p : Nat → Bool} {d x : Nat} (h : p x = false) : sw_all p (d + 1) x = false := if_neg (by rw [h]; decide)
theorem sw_all_i (p : Nat → Bool) : ∀ d x, sw_all p d x = true ↔ ∀ y, x ≤ y → y < x + d → p y = true := by
  intro d
  induction d with
  | zero => intro x; exact ⟨fun _ y h1 h2 => by omega, fun _ => rfl⟩
  | succ d ih =>
    intro x
    cases h : p x with
    | true =>
      rw [sw_all_t h, ih]
      constructor
      · intro g y h1 h2
        rcases Nat.eq_or_lt_of_le h1 with e | e
        · rw [← e]; exact h
        · exact g y e (by omega)
      · intro g y h1 h2
        exact g y (by omega) (by omega)
    | false =>
      rw [sw_all_f h]
      constructor
      · intro z; exact absurd z (by decide)
      · intro g
        rw [g x (Nat.le_refl x) (by omega)] at h
        exact absurd h (by decide)
theorem sw_all_0 (p : Nat → Bool) (d : Nat) : sw_all p d 0 = true ↔ ∀ y, y < d → p y = true := by
  rw [sw_all_i]
  exact ⟨fun h y hy => h y (Nat.zero_le y) (by omega), fun h y _ hy => h y (by omega)⟩
/-- four words against 256 values -/
theorem sw_w4b (f : Nat → Bool) (R : Int64 → Int64 → Prop) (g : Bool → Bool → Bool) (hR : ∀ x y, R x y ↔ ∀ j, j < 64 → g (sw_b x j) (sw_b y j) = true) (a : Nat → Int64) (p q : Nat) (hf : ∀ k, k < 4 → (f k = true ↔ R (a (p * 4 + k)) (a (q * 4 + k)))) : sw_all f 4 0 = sw_all (fun x => g (sw_T a p x) (sw_T a q x)) 256 0 := by
  rw [Bool.eq_iff_iff, sw_all_0, sw_all_0]
  have h := sw_w4 R (fun x y => g x y = true) hR a p q
  exact ⟨fun z => h.mp fun k hk => (hf k hk).mp (z k hk), fun z k hk => (hf k hk).mpr (h.mpr z k hk)⟩
/-- whether two wires hold the same -/
def sw_E (P : Nat → Nat → Bool) (p q : Nat) : Bool := sw_all (fun x => P p x == P q x) 256 0
theorem sw_E_r (P : Nat → Nat → Bool) (p : Nat) : sw_E P p p = true := (sw_all_0 _ _).mpr fun y _ => beq_self_eq_true _
theorem sw_E_s (P : Nat → Nat → Bool) (p q : Nat) : sw_E P p q = sw_E P q p := by
  rw [Bool.eq_iff_iff]
  unfold sw_E
  rw [sw_all_0, sw_all_0]
  constructor
  · intro h y hy
    have := h y hy
    rw [beq_iff_eq] at this ⊢
    exact this.symm
  · intro h y hy
    have := h y hy
    rw [beq_iff_eq] at this ⊢
    exact this.symm
theorem sw_E_f (P : Nat → Nat → Bool) (p q : Nat) : ∀ d x, x + d = 256 → (sw_find (fun x => P p x != P q x) d x = 256 ↔ sw_all (fun x => P p x == P q x) d x = true) := by
  intro d
  induction d with
  | zero => intro x hx; exact ⟨fun _ => rfl, fun _ => by show x = 256; omega⟩
  | succ d ih =>
    intro x hx
    cases h : (P p x == P q x) with
    | true =>
      have h2 : (fun x => P p x != P q x) x = false := by show (!(P p x == P q x)) = false; rw [h]; rfl
      rw [sw_find_f h2, sw_all_t (p := fun x => P p x == P q x) h]
      exact ih (x + 1) (by omega)
    | false =>
      have h2 : (fun x => P p x != P q x) x = true := by show (!(P p x == P q x)) = true; rw [h]; rfl
      rw [sw_find_t h2, sw_all_f (p := fun x => P p x == P q x) h]
      exact ⟨fun z => by omega, fun z => absurd z (by decide)⟩
theorem sw_E_256 (P : Nat → Nat → Bool) (p q : Nat) : sw_find (fun x => P p x != P q x) 256 0 = 256 ↔ sw_E P p q = true := sw_E_f P p q 256 0 rfl
/-- counting -/
def sw_cnt (p : Nat → Bool) : Nat → Nat → Nat → Nat
  | 0, _, s => s
  | d + 1, x, s => sw_cnt p d (x + 1) (if p x = true then s + 1 else s)
theorem sw_cnt_t {p : Nat → Bool} {d x s : Nat} (h : p x = true) : sw_cnt p (d + 1) x s = sw_cnt p d (x + 1) (s + 1) := congrArg (sw_cnt p d (x + 1)) (if_pos h)
theorem sw_cnt_f {p : Nat → Bool} {d x s : Nat} (h : p x = false) : sw_cnt p (d + 1) x s = sw_cnt p d (x + 1) s := congrArg (sw_cnt p d (x + 1)) (if_neg (by rw [h]; decide))
/-! gates -/
def sw_gw (kind : Nat) (a b c : Int64) : Int64 :=
  match kind with
  | 0 => a &&& b
  | 1 => a ||| b
  | 2 => a ^^^ b
  | 3 => (a &&& b) ^^^ (-1)
  | 4 => (a ||| b) ^^^ (-1)
  | 5 => (a ^^^ b) ^^^ (-1)
  | 6 => (a ^^^ (-1)) ||| b
  | 7 => (a &&& b) ||| ((a ^^^ (-1)) &&& c)
  | 8 => ((a &&& b) ||| (a &&& c)) ||| (b &&& c)
  | _ => (a ^^^ b) ^^^ c
def sw_gb (kind : Nat) (a b c : Bool) : Bool :=
  match kind with
  | 0 => a && b
  | 1 => a || b
  | 2 => a ^^ b
  | 3 => !(a && b)
  | 4 => !(a || b)
  | 5 => !(a ^^ b)
  | 6 => !a || b
  | 7 => (a && b) || (!a && c)
  | 8 => ((a && b) || (a && c)) || (b && c)
  | _ => (a ^^ b) ^^ c
theorem sw_gw_b (kind : Nat) (a b c : Int64) {j : Nat} (hj : j < 64) : sw_b (sw_gw kind a b c) j = sw_gb kind (sw_b a j) (sw_b b j) (sw_b c j) := by
  match kind with
  | 0 => exact sw_b_and a b j
  | 1 => exact sw_b_or a b j
  | 2 => exact sw_b_xor a b j
  | 3 => exact (sw_b_not _ hj).trans (congrArg _ (sw_b_and a b j))
  | 4 => exact (sw_b_not _ hj).trans (congrArg _ (sw_b_or a b j))
  | 5 => exact (sw_b_not _ hj).trans (congrArg _ (sw_b_xor a b j))
  | 6 => show sw_b ((a ^^^ (-1)) ||| b) j = (!sw_b a j || sw_b b j); rw [sw_b_or, sw_b_not _ hj]
  | 7 => show sw_b ((a &&& b) ||| ((a ^^^ (-1)) &&& c)) j = ((sw_b a j && sw_b b j) || (!sw_b a j && sw_b c j)); rw [sw_b_or, sw_b_and, sw_b_and, sw_b_not _ hj]
  | 8 => show sw_b (((a &&& b) ||| (a &&& c)) ||| (b &&& c)) j = (((sw_b a j && sw_b b j) || (sw_b a j && sw_b c j)) || (sw_b b j && sw_b c j)); rw [sw_b_or, sw_b_or, sw_b_and, sw_b_and, sw_b_and]
  | k + 9 => show sw_b ((a ^^^ b) ^^^ c) j = ((sw_b a j ^^ sw_b b j) ^^ sw_b c j); rw [sw_b_xor, sw_b_xor]
end
section
/-! indices, stores, closed tables over the eight inputs -/
theorem sw_ix (p k : Nat) : nI p * 4 + nI k = nI (p * 4 + k) := by rw [show (4 : Int32) = nI 4 from rfl, pk_mul, nI_add]
theorem sw_iy (p x : Nat) : 256 * nI p + nI x = nI (256 * p + x) := by rw [show (256 : Int32) = nI 256 from rfl, pk_mul, nI_add]
theorem sw_x6 {x : Nat} (hx : x < 256) : nI x >>> ((6 : Int32) &&& 31) = nI (x / 64) := pk_shrN (by omega) _ 6 (by decide)
theorem sw_x63 {x : Nat} (hx : x < 256) : nI x &&& 63 = nI (x % 64) := pk_andN (by omega) 6 (by decide)
def sw_putL (a : Nat → Int64) (m : Nat) (f : Nat → Int64) (k : Nat) : Nat → Int64 := fun j => if m * 4 ≤ j ∧ j < m * 4 + k then f (j - m * 4) else a j
theorem sw_putL_0 (a : Nat → Int64) (m : Nat) (f : Nat → Int64) : sw_putL a m f 0 = a := funext fun j => if_neg (by omega)
theorem sw_putL_s (a : Nat → Int64) (m : Nat) (f : Nat → Int64) (k : Nat) : vp_updL (sw_putL a m f k) (m * 4 + k) (f k) = sw_putL a m f (k + 1) := by
  funext j
  unfold vp_updL sw_putL
  by_cases e : j = m * 4 + k
  · rw [if_pos e, if_pos (by omega), show j - m * 4 = k by omega]
  · rw [if_neg e]
    by_cases h : m * 4 ≤ j ∧ j < m * 4 + k
    · rw [if_pos h, if_pos (by omega)]
    · rw [if_neg h, if_neg (by omega)]
theorem sw_putL_lo (a : Nat → Int64) {m p : Nat} (f : Nat → Int64) (k : Nat) {i : Nat} (hp : p < m) (hi : i < 4) : sw_putL a m f k (p * 4 + i) = a (p * 4 + i) := if_neg (by omega)
theorem sw_putL_hi (a : Nat → Int64) (m : Nat) (f : Nat → Int64) {k i : Nat} (hi : i < k) : sw_putL a m f k (m * 4 + i) = f i := (if_pos (by omega)).trans (by rw [Nat.add_sub_cancel_left])
def sw_putI (a : Nat → Int32) (m : Nat) (f : Nat → Int32) (k : Nat) : Nat → Int32 := fun j => if 256 * m ≤ j ∧ j < 256 * m + k then f (j - 256 * m) else a j
theorem sw_putI_0 (a : Nat → Int32) (m : Nat) (f : Nat → Int32) : sw_putI a m f 0 = a := funext fun j => if_neg (by omega)
theorem sw_putI_s (a : Nat → Int32) (m : Nat) (f : Nat → Int32) (k : Nat) : upd (sw_putI a m f k) (256 * m + k) (f k) = sw_putI a m f (k + 1) := by
  funext j
  unfold upd sw_putI
  by_cases e : j = 256 * m + k
  · rw [if_pos e, if_pos (by omega), show j - 256 * m = k by omega]
  · rw [if_neg e]
    by_cases h : 256 * m ≤ j ∧ j < 256 * m + k
    · rw [if_pos h, if_pos (by omega)]
    · rw [if_neg h, if_neg (by omega)]
theorem sw_putI_lo (a : Nat → Int32) {m p : Nat} (f : Nat → Int32) (k : Nat) {i : Nat} (hp : p < m) (hi : i < 256) : sw_putI a m f k (256 * p + i) = a (256 * p + i) := if_neg (by omega)
theorem sw_putI_hi (a : Nat → Int32) (m : Nat) (f : Nat → Int32) {k i : Nat} (hi : i < k) : sw_putI a m f k (256 * m + i) = f i := (if_pos (by omega)).trans (by rw [Nat.add_sub_cancel_left])
def sw_lo (x i : Nat) : Nat := if x.testBit i = true then x - 2 ^ i else x
def sw_hi (x i : Nat) : Nat := if x.testBit i = true then x else x + 2 ^ i
def sw_ex (x i j : Nat) : Nat := if x.testBit i = x.testBit j then x else (x ^^^ 2 ^ i) ^^^ 2 ^ j
theorem sw_t_shr : ∀ i, i < 8 → ∀ x, x < 256 → (nI x >>> (nI i &&& 31)) &&& 1 = sw_i (x.testBit i) := by decide +kernel
theorem sw_t_lo : ∀ i, i < 8 → ∀ x, x < 256 → nI x &&& (((1 : Int32) <<< (nI i &&& 31)) ^^^ (-1)) = nI (sw_lo x i) := by decide +kernel
theorem sw_t_hi : ∀ i, i < 8 → ∀ x, x < 256 → nI x ||| ((1 : Int32) <<< (nI i &&& 31)) = nI (sw_hi x i) := by decide +kernel
theorem sw_lo_lt : ∀ i, i < 8 → ∀ x, x < 256 → sw_lo x i < 256 ∧ sw_hi x i < 256 := by decide +kernel
theorem sw_lo_b : ∀ i, i < 8 → ∀ x, x < 256 → (sw_lo x i).testBit i = false ∧ sw_hi (sw_lo x i) i = sw_hi x i := by decide +kernel
theorem sw_lo_t : ∀ i, i < 8 → ∀ x, x < 256 → x.testBit i = true → sw_lo x i < x := by decide +kernel
theorem sw_ex_lt : ∀ i, i < 8 → ∀ j, j < 8 → ∀ x, x < 256 → sw_ex x i j < 256 := by decide +kernel
theorem sw_t_ex : ∀ i, i < 8 → ∀ j, j < 8 → ∀ x, x < 256 → x.testBit i ≠ x.testBit j → (nI x ^^^ ((1 : Int32) <<< (nI i &&& 31))) ^^^ ((1 : Int32) <<< (nI j &&& 31)) = nI (sw_ex x i j) := by decide +kernel
/-! what a rise of input i does: 1 a rise, 2 a fall -/
def sw_c (P : Nat → Bool) (i x : Nat) : Int32 := if P x = P (sw_hi x i) then 0 else if P (sw_hi x i) = true then 1 else 2
def sw_ch (P : Nat → Bool) (i : Nat) : Nat → Nat → Int32 → Int32
  | 0, _, s => s
  | d + 1, x, s => sw_ch P i d (x + 1) (if x.testBit i = true then s else s ||| sw_c P i x)
theorem sw_ch_t (P : Nat → Bool) {i d x : Nat} (s : Int32) (h : x.testBit i = true) : sw_ch P i (d + 1) x s = sw_ch P i d (x + 1) s := congrArg (sw_ch P i d (x + 1)) (if_pos h)
theorem sw_ch_f (P : Nat → Bool) {i d x : Nat} (s : Int32) (h : x.testBit i = false) : sw_ch P i (d + 1) x s = sw_ch P i d (x + 1) (s ||| sw_c P i x) := congrArg (sw_ch P i d (x + 1)) (if_neg (by rw [h]; decide))
def sw_seen (P : Nat → Bool) (i x : Nat) (s : Int32) : Prop := ∀ y, y < x → y.testBit i = false → s ||| sw_c P i y = s
theorem sw_seen_t {P : Nat → Bool} {i x : Nat} {s : Int32} (h : sw_seen P i x s) (hb : x.testBit i = true) : sw_seen P i (x + 1) s := by
  intro y hy e
  rcases Nat.lt_or_ge y x with z | z
  · exact h y z e
  · have q : y = x := by omega
    rw [q, hb] at e
    exact absurd e (by decide)
theorem sw_seen_f {P : Nat → Bool} {i x : Nat} {s : Int32} (h : sw_seen P i x s) : sw_seen P i (x + 1) (s ||| sw_c P i x) := by
  intro y hy e
  rcases Nat.lt_or_ge y x with z | z
  · rw [Int32.or_assoc, Int32.or_comm (sw_c P i x), ← Int32.or_assoc, h y z e]
  · have q : y = x := by omega
    rw [q, Int32.or_assoc, Int32.or_self]
theorem sw_t_yex : ∀ i, i < 8 → ∀ j, j < 8 → ∀ x, x < 256 → (((nI x &&& (((1 : Int32) <<< (nI i &&& 31)) ^^^ (-1))) &&& (((1 : Int32) <<< (nI j &&& 31)) ^^^ (-1))) ||| (sw_i (x.testBit j) <<< (nI i &&& 31))) ||| (sw_i (x.testBit i) <<< (nI j &&& 31)) = nI (sw_ex x i j) := by decide +kernel
end
section
/-! the start: inputs written bit by bit -/
theorem sw_t_one : ∀ k, k < 64 → ∀ j, j < 64 → sw_b ((1 : Int64) <<< ((nI k).toInt64 &&& 63)) j = decide (j = k) := by decide +kernel
theorem sw_t_zero : ∀ k, k < 64 → (0 : Int64) <<< ((nI k).toInt64 &&& 63) = 0 := by decide +kernel
theorem sw_ini_or (w : Int64) (v : Bool) {k j : Nat} (hk : k < 64) (hj : j < 64) : sw_b (w ||| ((sw_i v).toInt64 <<< ((nI k).toInt64 &&& 63))) j = (sw_b w j || (v && decide (j = k))) := by
  rw [sw_b_or]
  cases v with
  | true => rw [show (sw_i true).toInt64 = 1 from by decide, sw_t_one k hk j hj, Bool.true_and]
  | false => rw [show (sw_i false).toInt64 = 0 from by decide, sw_t_zero k hk, sw_b_0, Bool.false_and]
def sw_I (i x : Nat) (a : Nat → Int64) : Prop := ∀ w y, w < 8 → y < 256 → sw_T a w y = (decide (w < i ∨ (w = i ∧ y < x)) && y.testBit w)
theorem sw_I_0 : sw_I 0 0 (fun _ => 0) := by
  intro w y hw hy
  rw [decide_eq_false (by omega), Bool.false_and]
  exact sw_b_0 _
theorem sw_I_n {i : Nat} {a : Nat → Int64} (h : sw_I i 256 a) : sw_I (i + 1) 0 a := by
  intro w y hw hy
  rw [h w y hw hy]
  congr 1
  exact decide_eq_decide.mpr (by omega)
theorem sw_I_s {i x : Nat} {a : Nat → Int64} (hi : i < 8) (hx : x < 256) (h : sw_I i x a) : sw_I i (x + 1) (vp_updL a (i * 4 + x / 64) (a (i * 4 + x / 64) ||| ((sw_i (x.testBit i)).toInt64 <<< ((nI (x % 64)).toInt64 &&& 63)))) := by
  intro w y hw hy
  by_cases e : w * 4 + y / 64 = i * 4 + x / 64
  · have e1 : w = i := by omega
    have e2 : y / 64 = x / 64 := by omega
    subst e1
    unfold sw_T
    rw [e2, pk_uLs, sw_ini_or _ _ (by omega) (by omega)]
    have t := h w y hw hy
    unfold sw_T at t
    rw [e2] at t
    rw [t]
    by_cases q : y = x
    · subst q
      rw [decide_eq_false (by omega), decide_eq_true (by omega), decide_eq_true (by omega), Bool.false_and, Bool.false_or, Bool.and_true, Bool.true_and]
    · rw [decide_eq_false (show ¬ y % 64 = x % 64 by omega), Bool.and_false, Bool.or_false]
      congr 1
      exact decide_eq_decide.mpr (by omega)
  · have t : sw_T (vp_updL a (i * 4 + x / 64) (a (i * 4 + x / 64) ||| ((sw_i (x.testBit i)).toInt64 <<< ((nI (x % 64)).toInt64 &&& 63)))) w y = sw_T a w y := by
      unfold sw_T
      rw [pk_uLn e]
    rw [t, h w y hw hy]
    congr 1
    exact decide_eq_decide.mpr (by omega)
end
section
/-! wires, inputs, one value of a wire on either side -/
theorem sw_nb (b : Bool) : narrow .boolean (.int (sw_i b)) = .int (sw_i b) := by cases b <;> rfl
theorem sw_3 (x : Int32) {n : Nat} (hn : n < 2 ^ 31) : (x < 0 ∨ nI n ≤ x) ∨ ∃ j : Nat, j < n ∧ x = nI j := by
  rcases pk_ix x hn with h | h | h
  · exact Or.inl (Or.inl h)
  · exact Or.inl (Or.inr h)
  · exact Or.inr h
theorem sw_isX_n {n : Int32} {a : Nat → Int64} {x : Int32} {post : Int32 → Prop} (h : x < 0 ∨ n ≤ x) (p : post 0) : wpX_isWire post (n, a) x := by
  rcases h with h | h
  · exact br_t h p
  · exact br_c (fun _ => p) (fun _ => br_t h p)
theorem sw_isX_y {n j : Nat} {a : Nat → Int64} {post : Int32 → Prop} (hn : n ≤ 40) (h : j < n) (p : post 1) : wpX_isWire post (nI n, a) (nI j) := br_f (nI_pos (by omega)) (br_f (nI_ge h (by omega)) p)
theorem sw_isY_n {n : Int32} {a : Nat → Int32} {x : Int32} {post : Int32 → Prop} (h : x < 0 ∨ n ≤ x) (p : post 0) : wpY_is post (n, a) x := by
  rcases h with h | h
  · exact br_t h p
  · exact br_c (fun _ => p) (fun _ => br_t h p)
theorem sw_isY_y {n j : Nat} {a : Nat → Int32} {post : Int32 → Prop} (hn : n ≤ 40) (h : j < n) (p : post 1) : wpY_is post (nI n, a) (nI j) := br_f (nI_pos (by omega)) (br_f (nI_ge h (by omega)) p)
theorem sw_in_n {x : Int32} {post : Int32 → Prop} (h : x < 0 ∨ nI 8 ≤ x) (p : post 0) : wpX_isInput post x := by
  rcases h with h | h
  · exact br_t h p
  · exact br_c (fun _ => p) (fun _ => br_t h p)
theorem sw_in_y {j : Nat} {post : Int32 → Prop} (h : j < 8) (p : post 1) : wpX_isInput post (nI j) := br_f (nI_pos (by omega)) (br_f (nI_ge (b := 8) h (by decide)) p)
theorem sw_1n0 : ¬ (1 : Int32) = 0 := by decide
theorem sw_bitOf {n : Int32} {a : Nat → Int64} {p x : Nat} {post : Int32 → Prop} (hp : p < 40) (hx : x < 256) (h : post (sw_i (sw_T a p x))) : wpX_bitOf post (n, a) (nI p) (nI x) := by
  have e : nI p * 4 + (nI x >>> ((6 : Int32) &&& 31)) = nI (p * 4 + x / 64) := by rw [sw_x6 hx, sw_ix]
  unfold wpX_bitOf
  dsimp only
  rw [e, sw_x63 hx, nI_clamp (by omega), sw_bit _ (by omega)]
  exact ⟨vp_in_nI (by omega) (by omega), h⟩
/-- Y's table holds the picture P for the wires below n -/
def sw_H (n : Nat) (t : Nat → Int32) (P : Nat → Nat → Bool) : Prop := ∀ p x, p < n → x < 256 → t (256 * p + x) = sw_i (P p x)
theorem sw_at {n : Int32} {t : Nat → Int32} {p x : Nat} {post : Int32 → Prop} (b : Bool) (hp : p < 40) (hx : x < 256) (ht : t (256 * p + x) = sw_i b) (h : post (sw_i b)) : wpY_at post (n, t) (nI p) (nI x) := by
  unfold wpY_at
  dsimp only
  rw [sw_iy, nI_clamp (by omega), ht]
  exact ⟨vp_in_nI (by omega) (by omega), sw_nb b, h⟩
theorem sw_le {k : Nat} (c : Nat) (h : c ≤ k) (hk : k < 2 ^ 31) : nI c ≤ nI k := nI_le h hk
theorem sw_nle {k : Nat} (c : Nat) (h : k < c) (hc : c < 2 ^ 31) : ¬ nI c ≤ nI k := nI_ge h hc
end
section
/-! the loops of the component, each against the picture -/
theorem sw_same_l {n : Int32} {a : Nat → Int64} {p q : Nat} {post : Int32 → Prop} (hp : p < 40) (hq : q < 40) : ∀ d k, k + d = 4 → post (sw_i (sw_all (fun k => decide (a (p * 4 + k) = a (q * 4 + k))) d k)) → wX_sameWords_2 post (nI p) (nI q) n a (d + 1) (nI k) := by
  intro d
  induction d with
  | zero =>
    intro k hk h
    exact br_t (sw_le 4 (by omega) (by omega)) h
  | succ d ih =>
    intro k hk h
    refine br_f (sw_nle 4 (by omega) (by decide)) ⟨pk_in (p * 4 + k) 160 (by omega) (sw_ix p k), pk_in (q * 4 + k) 160 (by omega) (sw_ix q k), ?_⟩
    rw [sw_ix, sw_ix, nI_clamp (by omega), nI_clamp (by omega)]
    by_cases e : a (p * 4 + k) = a (q * 4 + k)
    · rw [sw_all_t (decide_eq_true e)] at h
      exact br_t e (nm_r (nI_1 k) (ih (k + 1) (by omega) h))
    · rw [sw_all_f (decide_eq_false e)] at h
      exact br_f e h
theorem sw_same_e (a : Nat → Int64) (p q : Nat) : sw_all (fun k => decide (a (p * 4 + k) = a (q * 4 + k))) 4 0 = sw_all (fun x => sw_T a p x == sw_T a q x) 256 0 :=
  sw_w4b (fun k => decide (a (p * 4 + k) = a (q * 4 + k))) (fun A B => A = B) (fun A B => A == B) (by
    intro x y
    rw [sw_eqw]
    constructor
    · intro h j hj
      have z := h j hj
      revert z
      cases sw_b x j <;> cases sw_b y j <;> decide
    · intro h j hj
      have z := h j hj
      revert z
      cases sw_b x j <;> cases sw_b y j <;> decide) a p q (fun k _ => decide_eq_true_iff)
theorem sw_opp_l {n : Int32} {a : Nat → Int64} {p q : Nat} {post : Int32 → Prop} (hp : p < 40) (hq : q < 40) : ∀ d k, k + d = 4 → post (sw_i (sw_all (fun k => decide (a (p * 4 + k) = a (q * 4 + k) ^^^ (-1))) d k)) → wX_opposite_20 post (nI p) (nI q) n a (d + 1) (nI k) := by
  intro d
  induction d with
  | zero =>
    intro k hk h
    exact br_t (sw_le 4 (by omega) (by omega)) h
  | succ d ih =>
    intro k hk h
    refine br_f (sw_nle 4 (by omega) (by decide)) ⟨pk_in (p * 4 + k) 160 (by omega) (sw_ix p k), pk_in (q * 4 + k) 160 (by omega) (sw_ix q k), ?_⟩
    rw [sw_ix, sw_ix, nI_clamp (by omega), nI_clamp (by omega)]
    by_cases e : a (p * 4 + k) = a (q * 4 + k) ^^^ (-1)
    · rw [sw_all_t (decide_eq_true e)] at h
      exact br_t e (nm_r (nI_1 k) (ih (k + 1) (by omega) h))
    · rw [sw_all_f (decide_eq_false e)] at h
      exact br_f e h
theorem sw_opp_e (a : Nat → Int64) (p q : Nat) : sw_all (fun k => decide (a (p * 4 + k) = a (q * 4 + k) ^^^ (-1))) 4 0 = sw_all (fun x => sw_T a p x != sw_T a q x) 256 0 :=
  sw_w4b (fun k => decide (a (p * 4 + k) = a (q * 4 + k) ^^^ (-1))) (fun A B => A = B ^^^ (-1)) (fun A B => A != B) (by
    intro x y
    rw [sw_opw]
    constructor
    · intro h j hj
      have z := h j hj
      revert z
      cases sw_b x j <;> cases sw_b y j <;> decide
    · intro h j hj
      have z := h j hj
      revert z
      cases sw_b x j <;> cases sw_b y j <;> decide) a p q (fun k _ => decide_eq_true_iff)
theorem sw_imp_l {n : Int32} {a : Nat → Int64} {p q : Nat} {post : Int32 → Prop} (hp : p < 40) (hq : q < 40) : ∀ d k, k + d = 4 → post (sw_i (sw_all (fun k => decide (a (p * 4 + k) &&& (a (q * 4 + k) ^^^ (-1)) = 0)) d k)) → wX_implies_20 post (nI p) (nI q) n a (d + 1) (nI k) := by
  intro d
  induction d with
  | zero =>
    intro k hk h
    exact br_t (sw_le 4 (by omega) (by omega)) h
  | succ d ih =>
    intro k hk h
    refine br_f (sw_nle 4 (by omega) (by decide)) ⟨pk_in (p * 4 + k) 160 (by omega) (sw_ix p k), pk_in (q * 4 + k) 160 (by omega) (sw_ix q k), ?_⟩
    rw [sw_ix, sw_ix, nI_clamp (by omega), nI_clamp (by omega)]
    by_cases e : a (p * 4 + k) &&& (a (q * 4 + k) ^^^ (-1)) = 0
    · rw [sw_all_t (decide_eq_true e)] at h
      exact br_t e (nm_r (nI_1 k) (ih (k + 1) (by omega) h))
    · rw [sw_all_f (decide_eq_false e)] at h
      exact br_f e h
theorem sw_imp_e (a : Nat → Int64) (p q : Nat) : sw_all (fun k => decide (a (p * 4 + k) &&& (a (q * 4 + k) ^^^ (-1)) = 0)) 4 0 = sw_all (fun x => !sw_T a p x || sw_T a q x) 256 0 :=
  sw_w4b (fun k => decide (a (p * 4 + k) &&& (a (q * 4 + k) ^^^ (-1)) = 0)) (fun A B => A &&& (B ^^^ (-1)) = 0) (fun A B => !A || B) sw_imw a p q (fun k _ => decide_eq_true_iff)
theorem sw_same {n : Int32} {a : Nat → Int64} {p q : Nat} {post : Int32 → Prop} (hp : p < 40) (hq : q < 40) (h : post (sw_i (sw_E (sw_T a) p q))) : wpX_sameWords post (n, a) (nI p) (nI q) :=
  ⟨5, sw_same_l hp hq 4 0 rfl (by rw [sw_same_e]; exact h)⟩
theorem sw_ones_l {n : Int32} {a : Nat → Int64} {p : Nat} {post : Int32 → Prop} (hp : p < 40) : ∀ d x s, x + d = 256 → post (nI (sw_cnt (sw_T a p) d x s)) → wX_onesOf_4 post (nI p) n a (d + 1) (nI s) (nI x) := by
  intro d
  induction d with
  | zero =>
    intro x s hx h
    exact br_t (sw_le 256 (by omega) (by omega)) h
  | succ d ih =>
    intro x s hx h
    refine br_f (sw_nle 256 (by omega) (by decide)) (sw_bitOf hp (by omega) ?_)
    cases e : sw_T a p x with
    | true =>
      rw [sw_cnt_t e] at h
      exact nm_r (nI_1 s) (nm_r (nI_1 x) (ih (x + 1) (s + 1) (by omega) h))
    | false =>
      rw [sw_cnt_f e] at h
      exact nm_r (nI_add s 0) (nm_r (nI_1 x) (ih (x + 1) s (by omega) h))
theorem sw_ones {n : Int32} {a : Nat → Int64} {p : Nat} {post : Int32 → Prop} (hp : p < 40) (h : post (nI (sw_cnt (sw_T a p) 256 0 0))) : wpX_onesOf post (n, a) (nI p) := ⟨257, sw_ones_l hp 256 0 0 rfl h⟩
/-- a scan's answer: the place, or NONE -/
def sw_or3 (x : Nat) : Int32 := if x < 256 then nI x else -3
theorem sw_or3_t {x : Nat} (h : x < 256) : sw_or3 x = nI x := if_pos h
theorem sw_wit_l {n : Int32} {a : Nat → Int64} {p : Nat} {post : Int32 → Prop} (hp : p < 40) : ∀ d x, x + d = 256 → post (sw_or3 (sw_find (sw_T a p) d x)) → wX_witness_12 post (nI p) n a (d + 1) (nI x) := by
  intro d
  induction d with
  | zero =>
    intro x hx h
    have e : sw_or3 (sw_find (sw_T a p) 0 x) = -3 := if_neg (by show ¬ x < 256; omega)
    rw [e] at h
    exact br_t (sw_le 256 (by omega) (by omega)) h
  | succ d ih =>
    intro x hx h
    refine br_f (sw_nle 256 (by omega) (by decide)) (sw_bitOf hp (by omega) ?_)
    cases e : sw_T a p x with
    | true =>
      rw [sw_find_t e, sw_or3_t (by omega)] at h
      exact br_t rfl h
    | false =>
      rw [sw_find_f e] at h
      exact br_f (by decide) (nm_r (nI_1 x) (ih (x + 1) (by omega) h))
theorem sw_dif_l {n : Int32} {a : Nat → Int64} {p q : Nat} {post : Int32 → Prop} (hp : p < 40) (hq : q < 40) : ∀ d x, x + d = 256 → post (sw_or3 (sw_find (fun x => sw_T a p x != sw_T a q x) d x)) → wX_differ_20 post (nI p) (nI q) n a (d + 1) (nI x) := by
  intro d
  induction d with
  | zero =>
    intro x hx h
    have e : sw_or3 (sw_find (fun x => sw_T a p x != sw_T a q x) 0 x) = -3 := if_neg (by show ¬ x < 256; omega)
    rw [e] at h
    exact br_t (sw_le 256 (by omega) (by omega)) h
  | succ d ih =>
    intro x hx h
    refine br_f (sw_nle 256 (by omega) (by decide)) (sw_bitOf hp (by omega) (sw_bitOf hq (by omega) ?_))
    by_cases e : sw_T a p x = sw_T a q x
    · rw [sw_find_f (by show (sw_T a p x != sw_T a q x) = false; rw [e]; exact bne_self_eq_false _)] at h
      exact br_t (by rw [e]) (nm_r (nI_1 x) (ih (x + 1) (by omega) h))
    · rw [sw_find_t (by show (sw_T a p x != sw_T a q x) = true; exact bne_iff_ne.mpr e), sw_or3_t (by omega)] at h
      exact br_f (fun z => e ((sw_i_e _ _).mp z)) h
theorem sw_chg_l {n : Int32} {a : Nat → Int64} {p i : Nat} {post : Int32 → Prop} (hp : p < 40) (hi : i < 8) : ∀ d x s, x + d = 256 → post (sw_ch (sw_T a p) i d x s) → wX_changesBy_5 post (nI p) (nI i) n a (d + 1) s (nI x) := by
  intro d
  induction d with
  | zero =>
    intro x s hx h
    exact br_t (sw_le 256 (by omega) (by omega)) h
  | succ d ih =>
    intro x s hx h
    refine br_f (sw_nle 256 (by omega) (by decide)) ?_
    cases e : x.testBit i with
    | true =>
      rw [sw_ch_t _ _ e] at h
      refine br_f ?_ (nm_r (nI_1 x) (ih (x + 1) s (by omega) h))
      rw [sw_t_shr i hi x (by omega), e]
      decide
    | false =>
      rw [sw_ch_f _ _ e] at h
      refine br_t ?_ (sw_bitOf hp (by omega) ?_)
      · rw [sw_t_shr i hi x (by omega), e]
        decide
      · rw [sw_t_hi i hi x (by omega)]
        refine sw_bitOf hp (sw_lo_lt i hi x (by omega)).2 ?_
        unfold sw_c at h
        cases e1 : sw_T a p x <;> cases e2 : sw_T a p (sw_hi x i) <;> rw [e1, e2] at h
        · rw [if_pos rfl, Int32.or_zero] at h
          exact br_t (by decide) (br_t (by decide) (nm_r (nI_1 x) (ih (x + 1) s (by omega) h)))
        · rw [if_neg (by decide), if_pos rfl] at h
          exact br_f (by decide) (nm_e (nm_r (nI_1 x) (ih (x + 1) _ (by omega) h)))
        · rw [if_neg (by decide), if_neg (by decide)] at h
          exact br_t (by decide) (br_f (by decide) (nm_e (nm_r (nI_1 x) (ih (x + 1) _ (by omega) h))))
        · rw [if_pos rfl, Int32.or_zero] at h
          exact br_t (by decide) (br_t (by decide) (nm_r (nI_1 x) (ih (x + 1) s (by omega) h)))
theorem sw_chg {n : Int32} {a : Nat → Int64} {p i : Nat} {post : Int32 → Prop} (hp : p < 40) (hi : i < 8) (h : post (sw_ch (sw_T a p) i 256 0 0)) : wpX_changesBy post (n, a) (nI p) (nI i) := ⟨257, sw_chg_l hp hi 256 0 0 rfl h⟩
/-- the inputs on which a wire depends -/
def sw_dep (P : Nat → Bool) : Nat → Nat → Int32 → Int32
  | 0, _, s => s
  | d + 1, i, s => sw_dep P d (i + 1) (if sw_ch P i 256 0 0 = 0 then s else s ||| ((1 : Int32) <<< (nI i &&& 31)))
theorem sw_dep_t (P : Nat → Bool) {d i : Nat} {s : Int32} (h : sw_ch P i 256 0 0 = 0) : sw_dep P (d + 1) i s = sw_dep P d (i + 1) s := congrArg (sw_dep P d (i + 1)) (if_pos h)
theorem sw_dep_f (P : Nat → Bool) {d i : Nat} {s : Int32} (h : ¬ sw_ch P i 256 0 0 = 0) : sw_dep P (d + 1) i s = sw_dep P d (i + 1) (s ||| ((1 : Int32) <<< (nI i &&& 31))) := congrArg (sw_dep P d (i + 1)) (if_neg h)
theorem sw_dep_l {n : Int32} {a : Nat → Int64} {p : Nat} {post : Int32 → Prop} (hp : p < 40) : ∀ d i s, i + d = 8 → post (sw_dep (sw_T a p) d i s) → wX_depends_14 post (nI p) n a (d + 1) s (nI i) := by
  intro d
  induction d with
  | zero =>
    intro i s hi h
    exact br_t (sw_le 8 (by omega) (by omega)) h
  | succ d ih =>
    intro i s hi h
    refine br_f (sw_nle 8 (by omega) (by decide)) (sw_chg hp (by omega) ?_)
    by_cases e : sw_ch (sw_T a p) i 256 0 0 = 0
    · rw [sw_dep_t _ e] at h
      exact br_t e (nm_r (nI_1 i) (ih (i + 1) s (by omega) h))
    · rw [sw_dep_f _ e] at h
      exact br_f e (nm_e (nm_r (nI_1 i) (ih (i + 1) _ (by omega) h)))
/-- the least wire that holds the same -/
def sw_L (P : Nat → Nat → Bool) (p : Nat) : Nat := sw_find (fun w => sw_E P w p) p 0
theorem sw_lea_l {n : Int32} {a : Nat → Int64} {p : Nat} {post : Int32 → Prop} (hp : p < 40) : ∀ d w, w + d = p → post (nI (sw_find (fun w => sw_E (sw_T a) w p) d w)) → wX_leastEqual_2 post (nI p) n a (d + 1) (nI w) := by
  intro d
  induction d with
  | zero =>
    intro w hw h
    have q : w = p := by omega
    subst q
    exact br_t (sw_le w (by omega) (by omega)) h
  | succ d ih =>
    intro w hw h
    refine br_f (sw_nle p (by omega) (by omega)) (sw_same (by omega) hp ?_)
    cases e : sw_E (sw_T a) w p with
    | true =>
      rw [sw_find_t (p := fun w => sw_E (sw_T a) w p) e] at h
      exact br_f sw_1n0 h
    | false =>
      rw [sw_find_f (p := fun w => sw_E (sw_T a) w p) e] at h
      exact br_t rfl (nm_r (nI_1 w) (ih (w + 1) (by omega) h))
theorem sw_lea {n : Int32} {a : Nat → Int64} {p : Nat} {post : Int32 → Prop} (hp : p < 40) (h : post (nI (sw_L (sw_T a) p))) : wpX_leastEqual post (n, a) (nI p) := ⟨p + 1, sw_lea_l hp p 0 (by omega) h⟩
theorem sw_L_le (P : Nat → Nat → Bool) (p : Nat) : sw_L P p ≤ p := by
  have h := (sw_find_le (fun w => sw_E P w p) p 0).2
  unfold sw_L
  omega
theorem sw_grp_l {n : Nat} {a : Nat → Int64} {post : Int32 → Prop} (hn : n ≤ 40) : ∀ d w s, w + d = n → post (nI (sw_cnt (fun w => decide (sw_L (sw_T a) w = w)) d w s)) → wX_groups_4 post (nI n) a (d + 1) (nI s) (nI w) := by
  intro d
  induction d with
  | zero =>
    intro w s hw h
    exact br_t (sw_le n (by omega) (by omega)) h
  | succ d ih =>
    intro w s hw h
    refine br_f (sw_nle n (by omega) (by omega)) (sw_lea (by omega) ?_)
    have hL := sw_L_le (sw_T a) w
    by_cases e : sw_L (sw_T a) w = w
    · rw [sw_cnt_t (p := fun w => decide (sw_L (sw_T a) w = w)) (decide_eq_true e)] at h
      exact br_t (by rw [e]) (nm_r (nI_1 s) (nm_r (nI_1 w) (ih (w + 1) (s + 1) (by omega) h)))
    · rw [sw_cnt_f (p := fun w => decide (sw_L (sw_T a) w = w)) (decide_eq_false e)] at h
      exact br_f (fun z => e ((nI_eq (by omega) (by omega)).mp z)) (nm_r (nI_1 w) (ih (w + 1) s (by omega) h))
theorem sw_ex_e {x i j : Nat} (h : x.testBit i = x.testBit j) : sw_ex x i j = x := if_pos h
theorem sw_sym_l {n : Int32} {a : Nat → Int64} {p i j : Nat} {post : Int32 → Prop} (hp : p < 40) (hi : i < 8) (hj : j < 8) : ∀ d x, x + d = 256 → post (sw_i (sw_all (fun x => sw_T a p x == sw_T a p (sw_ex x i j)) d x)) → wX_symmetric_27 post (nI p) (nI i) (nI j) n a (d + 1) (nI x) := by
  intro d
  induction d with
  | zero =>
    intro x hx h
    exact br_t (sw_le 256 (by omega) (by omega)) h
  | succ d ih =>
    intro x hx h
    refine br_f (sw_nle 256 (by omega) (by decide)) ?_
    rw [sw_t_shr i hi x (by omega), sw_t_shr j hj x (by omega)]
    by_cases e : x.testBit i = x.testBit j
    · rw [sw_all_t (by show (sw_T a p x == sw_T a p (sw_ex x i j)) = true; rw [sw_ex_e e]; exact beq_self_eq_true _)] at h
      exact br_t (by rw [e]) (br_t rfl (nm_r (nI_1 x) (ih (x + 1) (by omega) h)))
    · refine br_f (fun z => e ((sw_i_e _ _).mp z)) (br_f sw_1n0 (sw_bitOf hp (by omega) ?_))
      rw [sw_t_ex i hi j hj x (by omega) e]
      refine sw_bitOf hp (sw_ex_lt i hi j hj x (by omega)) ?_
      by_cases q : sw_T a p x = sw_T a p (sw_ex x i j)
      · rw [sw_all_t (by show (sw_T a p x == sw_T a p (sw_ex x i j)) = true; exact beq_iff_eq.mpr q)] at h
        exact br_t (by rw [q]) (nm_r (nI_1 x) (ih (x + 1) (by omega) h))
      · rw [sw_all_f (by show (sw_T a p x == sw_T a p (sw_ex x i j)) = false; exact beq_eq_false_iff_ne.mpr q)] at h
        exact br_f (fun z => q ((sw_i_e _ _).mp z)) h
end
section
/-! the loops of the reference, each against the picture P -/
theorem sw_apt_l {n p q : Nat} {t : Nat → Int32} {P : Nat → Nat → Bool} {post : Int32 → Prop} (hn : n ≤ 40) (H : sw_H n t P) (hp : p < n) (hq : q < n) : ∀ d x, x + d = 256 → post (nI (sw_find (fun x => P p x != P q x) d x)) → wY_apart_2 post (nI p) (nI q) (nI n) t (d + 1) (nI x) := by
  intro d
  induction d with
  | zero =>
    intro x hx h
    exact br_t (sw_le 256 (by omega) (by omega)) h
  | succ d ih =>
    intro x hx h
    refine br_f (sw_nle 256 (by omega) (by decide)) (sw_at _ (by omega) (by omega) (H p x hp (by omega)) (sw_at _ (by omega) (by omega) (H q x hq (by omega)) ?_))
    by_cases e : P p x = P q x
    · rw [sw_find_f (by show (P p x != P q x) = false; rw [e]; exact bne_self_eq_false _)] at h
      exact br_t (by rw [e]) (nm_r (nI_1 x) (ih (x + 1) (by omega) h))
    · rw [sw_find_t (by show (P p x != P q x) = true; exact bne_iff_ne.mpr e)] at h
      exact br_f (fun z => e ((sw_i_e _ _).mp z)) h
theorem sw_apt {n p q : Nat} {t : Nat → Int32} {P : Nat → Nat → Bool} {post : Int32 → Prop} (hn : n ≤ 40) (H : sw_H n t P) (hp : p < n) (hq : q < n) (h : post (nI (sw_find (fun x => P p x != P q x) 256 0))) : wpY_apart post (nI n, t) (nI p) (nI q) := ⟨257, sw_apt_l hn H hp hq 256 0 rfl h⟩
/-- apart's answer is 256 just where the wires hold the same -/
theorem sw_apt_256 {n p q : Nat} {t : Nat → Int32} {P : Nat → Nat → Bool} {A B : Prop} (hn : n ≤ 40) (H : sw_H n t P) (hp : p < n) (hq : q < n) (f : sw_E P p q = true → A) (g : sw_E P p q = false → B) : wpY_apart (fun r => (r = 256 → A) ∧ (¬ r = 256 → B)) (nI n, t) (nI p) (nI q) := by
  refine sw_apt hn H hp hq ?_
  have hle := (sw_find_le (fun x => P p x != P q x) 256 0).2
  cases e : sw_E P p q with
  | true =>
    refine br_t ?_ (f e)
    rw [(sw_E_256 P p q).mpr e]
    rfl
  | false =>
    refine br_f (fun z => ?_) (g e)
    have z2 : sw_find (fun x => P p x != P q x) 256 0 = 256 := (nI_eq (b := 256) (by omega) (by decide)).mp z
    rw [(sw_E_256 P p q).mp z2] at e
    exact absurd e (by decide)
theorem sw_yopp_0 {p q n : Int32} {t : Nat → Int32} {post : Int32 → Prop} (m : Nat) (x : Int32) (h : post 0) : wY_opposite_25 post p q n t (m + 1) 0 x := br_c (fun _ => ⟨sw_nb false, h⟩) (fun _ => br_t rfl ⟨sw_nb false, h⟩)
theorem sw_yopp_l {n p q : Nat} {t : Nat → Int32} {P : Nat → Nat → Bool} {post : Int32 → Prop} (hn : n ≤ 40) (H : sw_H n t P) (hp : p < n) (hq : q < n) : ∀ d x, x + d = 256 → post (sw_i (sw_all (fun x => P p x != P q x) d x)) → wY_opposite_25 post (nI p) (nI q) (nI n) t (d + 1) 1 (nI x) := by
  intro d
  induction d with
  | zero =>
    intro x hx h
    exact br_t (sw_le 256 (by omega) (by omega)) ⟨sw_nb true, h⟩
  | succ d ih =>
    intro x hx h
    refine br_f (sw_nle 256 (by omega) (by decide)) (br_f sw_1n0 (sw_at _ (by omega) (by omega) (H p x hp (by omega)) (sw_at _ (by omega) (by omega) (H q x hq (by omega)) ?_)))
    by_cases e : P p x = P q x
    · rw [sw_all_f (by show (P p x != P q x) = false; rw [e]; exact bne_self_eq_false _)] at h
      exact br_t (by rw [e]) (nm_r (nI_1 x) (sw_yopp_0 d _ h))
    · rw [sw_all_t (by show (P p x != P q x) = true; exact bne_iff_ne.mpr e)] at h
      exact br_f (fun z => e ((sw_i_e _ _).mp z)) (nm_r (nI_1 x) (ih (x + 1) (by omega) h))
theorem sw_yimp_0 {p q n : Int32} {t : Nat → Int32} {post : Int32 → Prop} (m : Nat) (x : Int32) (h : post 0) : wY_implies_25 post p q n t (m + 1) 0 x := br_c (fun _ => ⟨sw_nb false, h⟩) (fun _ => br_t rfl ⟨sw_nb false, h⟩)
theorem sw_yimp_l {n p q : Nat} {t : Nat → Int32} {P : Nat → Nat → Bool} {post : Int32 → Prop} (hn : n ≤ 40) (H : sw_H n t P) (hp : p < n) (hq : q < n) : ∀ d x, x + d = 256 → post (sw_i (sw_all (fun x => !P p x || P q x) d x)) → wY_implies_25 post (nI p) (nI q) (nI n) t (d + 1) 1 (nI x) := by
  intro d
  induction d with
  | zero =>
    intro x hx h
    exact br_t (sw_le 256 (by omega) (by omega)) ⟨sw_nb true, h⟩
  | succ d ih =>
    intro x hx h
    refine br_f (sw_nle 256 (by omega) (by decide)) (br_f sw_1n0 (sw_at _ (by omega) (by omega) (H p x hp (by omega)) ?_))
    cases e1 : P p x with
    | false =>
      rw [sw_all_t (by show (!P p x || P q x) = true; rw [e1]; rfl)] at h
      exact br_t rfl (nm_r (nI_1 x) (ih (x + 1) (by omega) h))
    | true =>
      refine br_f sw_1n0 (sw_at _ (by omega) (by omega) (H q x hq (by omega)) ?_)
      cases e2 : P q x with
      | false =>
        rw [sw_all_f (by show (!P p x || P q x) = false; rw [e1, e2]; rfl)] at h
        exact br_t rfl (nm_r (nI_1 x) (sw_yimp_0 d _ h))
      | true =>
        rw [sw_all_t (by show (!P p x || P q x) = true; rw [e1, e2]; rfl)] at h
        exact br_f sw_1n0 (nm_r (nI_1 x) (ih (x + 1) (by omega) h))
theorem sw_yone_l {n p : Nat} {t : Nat → Int32} {P : Nat → Nat → Bool} {post : Int32 → Prop} (hn : n ≤ 40) (H : sw_H n t P) (hp : p < n) : ∀ d x s, x + d = 256 → post (nI (sw_cnt (P p) d x s)) → wY_ones_4 post (nI p) (nI n) t (d + 1) (nI s) (nI x) := by
  intro d
  induction d with
  | zero =>
    intro x s hx h
    exact br_t (sw_le 256 (by omega) (by omega)) h
  | succ d ih =>
    intro x s hx h
    refine br_f (sw_nle 256 (by omega) (by decide)) (sw_at _ (by omega) (by omega) (H p x hp (by omega)) ?_)
    cases e : P p x with
    | true =>
      rw [sw_cnt_t e] at h
      exact br_f sw_1n0 (nm_r (nI_1 s) (nm_r (nI_1 x) (ih (x + 1) (s + 1) (by omega) h)))
    | false =>
      rw [sw_cnt_f e] at h
      exact br_t rfl (nm_r (nI_1 x) (ih (x + 1) s (by omega) h))
theorem sw_yone {n p : Nat} {t : Nat → Int32} {P : Nat → Nat → Bool} {post : Int32 → Prop} (hn : n ≤ 40) (H : sw_H n t P) (hp : p < n) (h : post (nI (sw_cnt (P p) 256 0 0))) : wpY_ones post (nI n, t) (nI p) := ⟨257, sw_yone_l hn H hp 256 0 0 rfl h⟩
theorem sw_ywit_l {n p : Nat} {t : Nat → Int32} {P : Nat → Nat → Bool} {post : Int32 → Prop} (hn : n ≤ 40) (H : sw_H n t P) (hp : p < n) : ∀ d x, x + d = 256 → post (sw_or3 (sw_find (P p) d x)) → wY_witness_2 post (nI p) (nI n) t (d + 1) (nI x) := by
  intro d
  induction d with
  | zero =>
    intro x hx h
    have e : sw_or3 (sw_find (P p) 0 x) = -3 := if_neg (by show ¬ x < 256; omega)
    rw [e] at h
    exact br_t (sw_le 256 (by omega) (by omega)) (sw_isY_y hn hp (br_f sw_1n0 h))
  | succ d ih =>
    intro x hx h
    refine br_f (sw_nle 256 (by omega) (by decide)) (sw_isY_y hn hp (br_f sw_1n0 (sw_at _ (by omega) (by omega) (H p x hp (by omega)) ?_)))
    cases e : P p x with
    | true =>
      rw [sw_find_t e, sw_or3_t (by omega)] at h
      exact br_f sw_1n0 h
    | false =>
      rw [sw_find_f e] at h
      exact br_t rfl (nm_r (nI_1 x) (ih (x + 1) (by omega) h))
theorem sw_yfol_l {n p i : Nat} {t : Nat → Int32} {P : Nat → Nat → Bool} {post : Int32 → Prop} (hn : n ≤ 40) (H : sw_H n t P) (hp : p < n) (hi : i < 8) : ∀ d x s, x + d = 256 → sw_seen (P p) i x s → post (sw_ch (P p) i d x s) → wY_follows_25 post (nI p) (nI i) (nI n) t (d + 1) s (nI x) := by
  intro d
  induction d with
  | zero =>
    intro x s hx hs h
    exact br_t (sw_le 256 (by omega) (by omega)) h
  | succ d ih =>
    intro x s hx hs h
    have hx2 : x < 256 := by omega
    have hl := sw_lo_lt i hi x hx2
    have hb := sw_lo_b i hi x hx2
    refine br_f (sw_nle 256 (by omega) (by decide)) ?_
    rw [sw_t_lo i hi x hx2, sw_t_hi i hi x hx2]
    refine sw_at _ (by omega) hl.1 (H p _ hp hl.1) (sw_at _ (by omega) hl.2 (H p _ hp hl.2) ?_)
    have key : ∃ s', s' = s ||| sw_c (P p) i (sw_lo x i) ∧ sw_seen (P p) i (x + 1) s' ∧ post (sw_ch (P p) i d (x + 1) s') := by
      refine ⟨_, rfl, ?_⟩
      cases e : x.testBit i with
      | true =>
        rw [hs _ (sw_lo_t i hi x hx2 e) hb.1]
        rw [sw_ch_t _ _ e] at h
        exact ⟨sw_seen_t hs e, h⟩
      | false =>
        have q : sw_lo x i = x := if_neg (by rw [e]; decide)
        rw [sw_ch_f _ _ e] at h
        rw [q]
        exact ⟨sw_seen_f hs, h⟩
    obtain ⟨s', es, k1, k2⟩ := key
    unfold sw_c at es
    rw [hb.2] at es
    cases e1 : P p (sw_lo x i) <;> cases e2 : P p (sw_hi x i) <;> rw [e1, e2] at es
    · rw [if_pos rfl, Int32.or_zero] at es
      subst es
      exact br_t rfl (nm_r (nI_1 x) (ih (x + 1) s' (by omega) k1 k2))
    · rw [if_neg (by decide), if_pos rfl] at es
      exact br_f (by decide) (br_f sw_1n0 (nm_r es.symm (nm_r (nI_1 x) (ih (x + 1) s' (by omega) k1 k2))))
    · rw [if_neg (by decide), if_neg (by decide)] at es
      exact br_f (by decide) (br_t rfl (nm_r es.symm (nm_r (nI_1 x) (ih (x + 1) s' (by omega) k1 k2))))
    · rw [if_pos rfl, Int32.or_zero] at es
      subst es
      exact br_t rfl (nm_r (nI_1 x) (ih (x + 1) s' (by omega) k1 k2))
theorem sw_yfol {n p i : Nat} {t : Nat → Int32} {P : Nat → Nat → Bool} {post : Int32 → Prop} (hn : n ≤ 40) (H : sw_H n t P) (hp : p < n) (hi : i < 8) (h : post (sw_ch (P p) i 256 0 0)) : wpY_follows post (nI n, t) (nI p) (nI i) := by
  unfold wpY_follows
  exact sw_isY_y hn hp (br_f sw_1n0 (br_f (nI_pos (by omega)) (br_t (nI_le (b := 7) (by omega) (by decide)) ⟨257, sw_yfol_l hn H hp hi 256 0 0 rfl (fun y hy _ => absurd hy (Nat.not_lt_zero y)) h⟩)))
theorem sw_ydep_l {n p : Nat} {t : Nat → Int32} {P : Nat → Nat → Bool} {post : Int32 → Prop} (hn : n ≤ 40) (H : sw_H n t P) (hp : p < n) : ∀ d i s, i + d = 8 → post (sw_dep (P p) d i s) → wY_depends_4 post (nI p) (nI n) t (d + 1) s (nI i) := by
  intro d
  induction d with
  | zero =>
    intro i s hi h
    exact br_t (sw_le 8 (by omega) (by omega)) (sw_isY_y hn hp (br_f sw_1n0 h))
  | succ d ih =>
    intro i s hi h
    refine br_f (sw_nle 8 (by omega) (by decide)) (sw_isY_y hn hp (br_f sw_1n0 (sw_yfol hn H hp (by omega) ?_)))
    by_cases e : sw_ch (P p) i 256 0 0 = 0
    · rw [sw_dep_t _ e] at h
      exact br_t e (nm_r (nI_1 i) (ih (i + 1) s (by omega) h))
    · rw [sw_dep_f _ e] at h
      exact br_f e (nm_e (nm_r (nI_1 i) (ih (i + 1) _ (by omega) h)))
theorem sw_yfst_l {n p : Nat} {t : Nat → Int32} {P : Nat → Nat → Bool} {post : Int32 → Prop} (hn : n ≤ 40) (H : sw_H n t P) (hp : p < n) : ∀ d w, w + d = p → post (nI (sw_find (fun w => sw_E P w p) d w)) → wY_first_2 post (nI p) (nI n) t (d + 1) (nI w) := by
  intro d
  induction d with
  | zero =>
    intro w hw h
    have q : w = p := by omega
    subst q
    refine br_f (sw_nle n hp (by omega)) (sw_isY_y hn hp (br_f sw_1n0 (sw_apt_256 hn H hp hp (fun _ => h) (fun e => ?_))))
    rw [sw_E_r] at e
    exact absurd e (by decide)
  | succ d ih =>
    intro w hw h
    refine br_f (sw_nle n (by omega) (by omega)) (sw_isY_y hn hp (br_f sw_1n0 (sw_apt_256 hn H hp (by omega) (fun e => ?_) (fun e => ?_))))
    · rw [sw_E_s] at e
      rw [sw_find_t (p := fun w => sw_E P w p) e] at h
      exact h
    · rw [sw_E_s] at e
      rw [sw_find_f (p := fun w => sw_E P w p) e] at h
      exact nm_r (nI_1 w) (ih (w + 1) (by omega) h)
theorem sw_yfst {n p : Nat} {t : Nat → Int32} {P : Nat → Nat → Bool} {post : Int32 → Prop} (hn : n ≤ 40) (H : sw_H n t P) (hp : p < n) (h : post (nI (sw_L P p))) : wpY_first post (nI n, t) (nI p) := ⟨p + 1, sw_yfst_l hn H hp p 0 (by omega) h⟩
theorem sw_ygrp_l {n : Nat} {t : Nat → Int32} {P : Nat → Nat → Bool} {post : Int32 → Prop} (hn : n ≤ 40) (H : sw_H n t P) : ∀ d w s, w + d = n → post (nI (sw_cnt (fun w => decide (sw_L P w = w)) d w s)) → wY_groups_4 post (nI n) t (d + 1) (nI s) (nI w) := by
  intro d
  induction d with
  | zero =>
    intro w s hw h
    exact br_t (sw_le n (by omega) (by omega)) h
  | succ d ih =>
    intro w s hw h
    refine br_f (sw_nle n (by omega) (by omega)) (sw_yfst hn H (by omega) ?_)
    have hL := sw_L_le P w
    by_cases e : sw_L P w = w
    · rw [sw_cnt_t (p := fun w => decide (sw_L P w = w)) (decide_eq_true e)] at h
      exact br_t (by rw [e]) (nm_r (nI_1 s) (nm_r (nI_1 w) (ih (w + 1) (s + 1) (by omega) h)))
    · rw [sw_cnt_f (p := fun w => decide (sw_L P w = w)) (decide_eq_false e)] at h
      exact br_f (fun z => e ((nI_eq (by omega) (by omega)).mp z)) (nm_r (nI_1 w) (ih (w + 1) s (by omega) h))
theorem sw_ysym_0 {n p i j : Int32} {t : Nat → Int32} {post : Int32 → Prop} (h : post 0) : ∀ d x, x + d = 256 → wY_symmetric_36 post p i j n t (d + 1) 0 (nI x) := by
  intro d
  induction d with
  | zero =>
    intro x hx
    exact br_t (sw_le 256 (by omega) (by omega)) ⟨sw_nb false, h⟩
  | succ d ih =>
    intro x hx
    exact br_f (sw_nle 256 (by omega) (by decide)) (nm_e (nm_e (nm_e (br_t rfl (nm_r (nI_1 x) (ih (x + 1) (by omega)))))))
theorem sw_ysym_l {n p i j : Nat} {t : Nat → Int32} {P : Nat → Nat → Bool} {post : Int32 → Prop} (hn : n ≤ 40) (H : sw_H n t P) (hp : p < n) (hi : i < 8) (hj : j < 8) : ∀ d x, x + d = 256 → post (sw_i (sw_all (fun x => P p x == P p (sw_ex x i j)) d x)) → wY_symmetric_36 post (nI p) (nI i) (nI j) (nI n) t (d + 1) 1 (nI x) := by
  intro d
  induction d with
  | zero =>
    intro x hx h
    exact br_t (sw_le 256 (by omega) (by omega)) ⟨sw_nb true, h⟩
  | succ d ih =>
    intro x hx h
    have hx2 : x < 256 := by omega
    have hy := sw_ex_lt i hi j hj x hx2
    have fin : (sw_i (P p x) = sw_i (P p (sw_ex x i j)) → ∀ y : Int32, y = nI x + 1 → wY_symmetric_36 post (nI p) (nI i) (nI j) (nI n) t (d + 1) 1 y) ∧ (¬ sw_i (P p x) = sw_i (P p (sw_ex x i j)) → ∀ y : Int32, y = nI x + 1 → wY_symmetric_36 post (nI p) (nI i) (nI j) (nI n) t (d + 1) 0 y) := by
      by_cases q : P p x = P p (sw_ex x i j)
      · rw [sw_all_t (by show (P p x == P p (sw_ex x i j)) = true; exact beq_iff_eq.mpr q)] at h
        exact br_t (by rw [← q]) (nm_r (nI_1 x) (ih (x + 1) (by omega) h))
      · rw [sw_all_f (by show (P p x == P p (sw_ex x i j)) = false; exact beq_eq_false_iff_ne.mpr q)] at h
        exact br_f (fun z => q ((sw_i_e _ _).mp z)) (nm_r (nI_1 x) (sw_ysym_0 h d (x + 1) (by omega)))
    refine br_f (sw_nle 256 (by omega) (by decide)) (nm_r (sw_t_shr i hi x hx2) (nm_r (sw_t_shr j hj x hx2) (nm_r (sw_t_yex i hi j hj x hx2) (br_f sw_1n0 (sw_at _ (by omega) hx2 (H p x hp hx2) ?_)))))
    by_cases e : i = j
    · subst e
      have q : sw_ex x i i = x := sw_ex_e rfl
      rw [q] at fin
      exact br_t rfl (sw_at _ (by omega) hx2 (H p x hp hx2) fin)
    · exact br_f (fun z => e ((nI_eq (by omega) (by omega)).mp z)) (sw_at _ (by omega) hy (H p _ hp hy) fin)
end
section
/-! gates: X word by word, Y value by value -/
theorem sw_gwd {kk : Nat} (hk : kk < 10) (a b c : Int64) {post : Int64 → Prop} (h : post (sw_gw kk a b c)) : wpX_gateWord post (nI kk) a b c := by
  match kk, hk, h with
  | 0, _, h => exact br_f (nI_pos (by decide)) (br_f (by decide) (br_t (by decide) h))
  | 1, _, h => exact br_f (nI_pos (by decide)) (br_f (by decide) (br_f (by decide) (br_t (by decide) h)))
  | 2, _, h => exact br_f (nI_pos (by decide)) (br_f (by decide) (br_f (by decide) (br_f (by decide) (br_t (by decide) h))))
  | 3, _, h => exact br_f (nI_pos (by decide)) (br_f (by decide) (br_f (by decide) (br_f (by decide) (br_f (by decide) (br_t (by decide) h)))))
  | 4, _, h => exact br_f (nI_pos (by decide)) (br_f (by decide) (br_f (by decide) (br_f (by decide) (br_f (by decide) (br_f (by decide) (br_t (by decide) h))))))
  | 5, _, h => exact br_f (nI_pos (by decide)) (br_f (by decide) (br_f (by decide) (br_f (by decide) (br_f (by decide) (br_f (by decide) (br_f (by decide) (br_t (by decide) h)))))))
  | 6, _, h => exact br_f (nI_pos (by decide)) (br_f (by decide) (br_f (by decide) (br_f (by decide) (br_f (by decide) (br_f (by decide) (br_f (by decide) (br_f (by decide) (br_t (by decide) h))))))))
  | 7, _, h => exact br_f (nI_pos (by decide)) (br_f (by decide) (br_f (by decide) (br_f (by decide) (br_f (by decide) (br_f (by decide) (br_f (by decide) (br_f (by decide) (br_f (by decide) (br_t (by decide) h)))))))))
  | 8, _, h => exact br_f (nI_pos (by decide)) (br_f (by decide) (br_f (by decide) (br_f (by decide) (br_f (by decide) (br_f (by decide) (br_f (by decide) (br_f (by decide) (br_f (by decide) (br_f (by decide) (br_t (by decide) h))))))))))
  | 9, _, h => exact br_f (nI_pos (by decide)) (br_t (by decide) h)
  | k + 10, hk, _ => omega
theorem sw_made_0 (b1 b2 b3 : Bool) {n : Int32} {t : Nat → Int32} {post : Int32 → Prop} (h : post (sw_i (sw_gb 0 b1 b2 b3))) : wpY_made post (n, t) (nI 0) (sw_i b1) (sw_i b2) (sw_i b3) := by
  cases b1 <;> cases b2 <;> cases b3 <;> (repeat (first | exact h | refine br_t (by decide) ?_ | refine br_f (by decide) ?_ | refine nm_e ?_ | refine ⟨sw_nb _, ?_⟩ | refine ⟨by decide, ?_⟩))
theorem sw_made_1 (b1 b2 b3 : Bool) {n : Int32} {t : Nat → Int32} {post : Int32 → Prop} (h : post (sw_i (sw_gb 1 b1 b2 b3))) : wpY_made post (n, t) (nI 1) (sw_i b1) (sw_i b2) (sw_i b3) := by
  cases b1 <;> cases b2 <;> cases b3 <;> (repeat (first | exact h | refine br_t (by decide) ?_ | refine br_f (by decide) ?_ | refine nm_e ?_ | refine ⟨sw_nb _, ?_⟩ | refine ⟨by decide, ?_⟩))
theorem sw_made_2 (b1 b2 b3 : Bool) {n : Int32} {t : Nat → Int32} {post : Int32 → Prop} (h : post (sw_i (sw_gb 2 b1 b2 b3))) : wpY_made post (n, t) (nI 2) (sw_i b1) (sw_i b2) (sw_i b3) := by
  cases b1 <;> cases b2 <;> cases b3 <;> (repeat (first | exact h | refine br_t (by decide) ?_ | refine br_f (by decide) ?_ | refine nm_e ?_ | refine ⟨sw_nb _, ?_⟩ | refine ⟨by decide, ?_⟩))
theorem sw_made_3 (b1 b2 b3 : Bool) {n : Int32} {t : Nat → Int32} {post : Int32 → Prop} (h : post (sw_i (sw_gb 3 b1 b2 b3))) : wpY_made post (n, t) (nI 3) (sw_i b1) (sw_i b2) (sw_i b3) := by
  cases b1 <;> cases b2 <;> cases b3 <;> (repeat (first | exact h | refine br_t (by decide) ?_ | refine br_f (by decide) ?_ | refine nm_e ?_ | refine ⟨sw_nb _, ?_⟩ | refine ⟨by decide, ?_⟩))
theorem sw_made_4 (b1 b2 b3 : Bool) {n : Int32} {t : Nat → Int32} {post : Int32 → Prop} (h : post (sw_i (sw_gb 4 b1 b2 b3))) : wpY_made post (n, t) (nI 4) (sw_i b1) (sw_i b2) (sw_i b3) := by
  cases b1 <;> cases b2 <;> cases b3 <;> (repeat (first | exact h | refine br_t (by decide) ?_ | refine br_f (by decide) ?_ | refine nm_e ?_ | refine ⟨sw_nb _, ?_⟩ | refine ⟨by decide, ?_⟩))
theorem sw_made_5 (b1 b2 b3 : Bool) {n : Int32} {t : Nat → Int32} {post : Int32 → Prop} (h : post (sw_i (sw_gb 5 b1 b2 b3))) : wpY_made post (n, t) (nI 5) (sw_i b1) (sw_i b2) (sw_i b3) := by
  cases b1 <;> cases b2 <;> cases b3 <;> (repeat (first | exact h | refine br_t (by decide) ?_ | refine br_f (by decide) ?_ | refine nm_e ?_ | refine ⟨sw_nb _, ?_⟩ | refine ⟨by decide, ?_⟩))
theorem sw_made_6 (b1 b2 b3 : Bool) {n : Int32} {t : Nat → Int32} {post : Int32 → Prop} (h : post (sw_i (sw_gb 6 b1 b2 b3))) : wpY_made post (n, t) (nI 6) (sw_i b1) (sw_i b2) (sw_i b3) := by
  cases b1 <;> cases b2 <;> cases b3 <;> (repeat (first | exact h | refine br_t (by decide) ?_ | refine br_f (by decide) ?_ | refine nm_e ?_ | refine ⟨sw_nb _, ?_⟩ | refine ⟨by decide, ?_⟩))
theorem sw_made_7 (b1 b2 b3 : Bool) {n : Int32} {t : Nat → Int32} {post : Int32 → Prop} (h : post (sw_i (sw_gb 7 b1 b2 b3))) : wpY_made post (n, t) (nI 7) (sw_i b1) (sw_i b2) (sw_i b3) := by
  cases b1 <;> cases b2 <;> cases b3 <;> (repeat (first | exact h | refine br_t (by decide) ?_ | refine br_f (by decide) ?_ | refine nm_e ?_ | refine ⟨sw_nb _, ?_⟩ | refine ⟨by decide, ?_⟩))
theorem sw_made_8 (b1 b2 b3 : Bool) {n : Int32} {t : Nat → Int32} {post : Int32 → Prop} (h : post (sw_i (sw_gb 8 b1 b2 b3))) : wpY_made post (n, t) (nI 8) (sw_i b1) (sw_i b2) (sw_i b3) := by
  cases b1 <;> cases b2 <;> cases b3 <;> (repeat (first | exact h | refine br_t (by decide) ?_ | refine br_f (by decide) ?_ | refine nm_e ?_ | refine ⟨sw_nb _, ?_⟩ | refine ⟨by decide, ?_⟩))
theorem sw_made_9 (b1 b2 b3 : Bool) {n : Int32} {t : Nat → Int32} {post : Int32 → Prop} (h : post (sw_i (sw_gb 9 b1 b2 b3))) : wpY_made post (n, t) (nI 9) (sw_i b1) (sw_i b2) (sw_i b3) := by
  cases b1 <;> cases b2 <;> cases b3 <;> (repeat (first | exact h | refine br_t (by decide) ?_ | refine br_f (by decide) ?_ | refine nm_e ?_ | refine ⟨sw_nb _, ?_⟩ | refine ⟨by decide, ?_⟩))
theorem sw_made {kk : Nat} (hk : kk < 10) (b1 b2 b3 : Bool) {n : Int32} {t : Nat → Int32} {post : Int32 → Prop} (h : post (sw_i (sw_gb kk b1 b2 b3))) : wpY_made post (n, t) (nI kk) (sw_i b1) (sw_i b2) (sw_i b3) := by
  match kk, hk, h with
  | 0, _, h => exact sw_made_0 b1 b2 b3 h
  | 1, _, h => exact sw_made_1 b1 b2 b3 h
  | 2, _, h => exact sw_made_2 b1 b2 b3 h
  | 3, _, h => exact sw_made_3 b1 b2 b3 h
  | 4, _, h => exact sw_made_4 b1 b2 b3 h
  | 5, _, h => exact sw_made_5 b1 b2 b3 h
  | 6, _, h => exact sw_made_6 b1 b2 b3 h
  | 7, _, h => exact sw_made_7 b1 b2 b3 h
  | 8, _, h => exact sw_made_8 b1 b2 b3 h
  | 9, _, h => exact sw_made_9 b1 b2 b3 h
  | k + 10, hk, _ => omega
def sw_gF (kk : Nat) (a : Nat → Int64) (p q r : Nat) : Nat → Int64 := fun k => sw_gw kk (a (p * 4 + k)) (a (q * 4 + k)) (a (r * 4 + k))
theorem sw_gX_l {kk p q r m : Nat} {a : Nat → Int64} {post : Int32 → SX → Prop} (hk : kk < 10) (hp : p < m) (hq : q < m) (hr : r < m) (hm : m < 40) (h : post (nI m) (nI (m + 1), sw_putL a m (sw_gF kk a p q r) 4)) : ∀ d k, k + d = 4 → wX_gate_91 post (nI kk) (nI p) (nI q) (nI r) (nI m) (nI m) (d + 1) (nI k) (sw_putL a m (sw_gF kk a p q r) k) := by
  intro d
  induction d with
  | zero =>
    intro k hd
    have q4 : k = 4 := by omega
    subst q4
    exact br_t (sw_le 4 (by omega) (by omega)) (nm_r (nI_1 m) h)
  | succ d ih =>
    intro k hd
    have rd : ∀ w, w < m → sw_putL a m (sw_gF kk a p q r) k (nI w * 4 + nI k).toNatClampNeg = a (w * 4 + k) := by
      intro w hw
      rw [sw_ix, nI_clamp (by omega), sw_putL_lo _ _ _ hw (by omega)]
    have st : vp_updL (sw_putL a m (sw_gF kk a p q r) k) (nI m * 4 + nI k).toNatClampNeg (sw_gw kk (a (p * 4 + k)) (a (q * 4 + k)) (a (r * 4 + k))) = sw_putL a m (sw_gF kk a p q r) (k + 1) := by
      rw [sw_ix, nI_clamp (by omega)]
      exact sw_putL_s a m (sw_gF kk a p q r) k
    exact br_f (sw_nle 4 (by omega) (by decide)) ⟨pk_in (p * 4 + k) 160 (by omega) (sw_ix p k), nm_r (rd p hp) ⟨pk_in (q * 4 + k) 160 (by omega) (sw_ix q k), nm_r (rd q hq) ⟨pk_in (r * 4 + k) 160 (by omega) (sw_ix r k), nm_r (rd r hr) (sw_gwd hk _ _ _ ⟨pk_in (m * 4 + k) 160 (by omega) (sw_ix m k), nm_r st (nm_r (nI_1 k) (ih (k + 1) (by omega)))⟩)⟩⟩⟩
theorem sw_gX {kk p q r m : Nat} {a : Nat → Int64} {post : Int32 → SX → Prop} (hk : kk < 10) (hp : p < m) (hq : q < m) (hr : r < m) (hm : m < 40) (h : post (nI m) (nI (m + 1), sw_putL a m (sw_gF kk a p q r) 4)) : ∃ n, wX_gate_91 post (nI kk) (nI p) (nI q) (nI r) (nI m) (nI m) n 0 a := by
  have z := sw_gX_l hk hp hq hr hm h 4 0 rfl
  rw [sw_putL_0, nI_0] at z
  exact ⟨5, z⟩
theorem sw_vnb (b : Bool) : vp_nar .boolean (sw_i b) = sw_i b := by cases b <;> rfl
theorem sw_gY_l {kk p q m : Nat} {c : Int32} {t : Nat → Int32} {P : Nat → Nat → Bool} {R : Nat → Bool} {post : Int32 → SY → Prop} (H : sw_H m t P) (hk : kk < 10) (hp : p < m) (hq : q < m) (hm : m < 40) (hR : (kk < 7 ∧ R = fun _ => false) ∨ (7 ≤ kk ∧ ∃ r, r < m ∧ c = nI r ∧ R = P r)) (h : post (nI m) (nI (m + 1), sw_putI t m (fun x => sw_i (sw_gb kk (P p x) (P q x) (R x))) 256)) : ∀ d x, x + d = 256 → wY_gate_58 post (nI kk) (nI p) (nI q) c (nI m) (d + 1) (nI x) (sw_putI t m (fun x => sw_i (sw_gb kk (P p x) (P q x) (R x))) x) := by
  intro d
  induction d with
  | zero =>
    intro x hd
    have q4 : x = 256 := by omega
    subst q4
    refine br_t (sw_le 256 (by omega) (by omega)) (nm_r (nI_1 m) ?_)
    rw [nI_pred]
    exact h
  | succ d ih =>
    intro x hd
    have hx : x < 256 := by omega
    have rd : ∀ w, w < m → sw_putI t m (fun x => sw_i (sw_gb kk (P p x) (P q x) (R x))) x (256 * w + x) = sw_i (P w x) := by
      intro w hw
      rw [sw_putI_lo _ _ _ hw hx]
      exact H w x hw hx
    have st : upd (sw_putI t m (fun x => sw_i (sw_gb kk (P p x) (P q x) (R x))) x) (256 * nI m + nI x).toNatClampNeg (vp_nar .boolean (sw_i (sw_gb kk (P p x) (P q x) (R x)))) = sw_putI t m (fun x => sw_i (sw_gb kk (P p x) (P q x) (R x))) (x + 1) := by
      rw [sw_iy, nI_clamp (by omega), sw_vnb]
      exact sw_putI_s t m (fun x => sw_i (sw_gb kk (P p x) (P q x) (R x))) x
    have hin : vp_in (256 * nI m + nI x) 10240 := pk_in (256 * m + x) 10240 (by omega) (sw_iy m x)
    refine br_f (sw_nle 256 (by omega) (by decide)) (sw_at _ (by omega) hx (rd p hp) (sw_at _ (by omega) hx (rd q hq) ?_))
    have nx := ih (x + 1) (by omega)
    rcases hR with ⟨h7, e⟩ | ⟨h7, r, hr, ec, e⟩
    · have st2 := st
      rw [show R x = false by rw [e]] at st2
      exact br_t (nI_lt (b := 7) h7 (by decide)) (sw_made hk (P p x) (P q x) false ⟨hin, nm_r st2 (nm_r (nI_1 x) nx)⟩)
    · rw [ec]
      refine br_f (nI_nlt (b := 7) h7 (by omega)) (sw_at _ (by omega) hx (rd r hr) ?_)
      have eR : R x = P r x := by rw [e]
      rw [← ec]
      cases e3 : P r x with
      | false =>
        have st2 := st
        rw [eR.trans e3] at st2
        exact br_t rfl (sw_made hk (P p x) (P q x) false ⟨hin, nm_r st2 (nm_r (nI_1 x) nx)⟩)
      | true =>
        have st2 := st
        rw [eR.trans e3] at st2
        exact br_f sw_1n0 (sw_made hk (P p x) (P q x) true ⟨hin, nm_r st2 (nm_r (nI_1 x) nx)⟩)
theorem sw_gY {kk p q m : Nat} {c : Int32} {t : Nat → Int32} {P : Nat → Nat → Bool} {R : Nat → Bool} {post : Int32 → SY → Prop} (H : sw_H m t P) (hk : kk < 10) (hp : p < m) (hq : q < m) (hm : m < 40) (hR : (kk < 7 ∧ R = fun _ => false) ∨ (7 ≤ kk ∧ ∃ r, r < m ∧ c = nI r ∧ R = P r)) (h : post (nI m) (nI (m + 1), sw_putI t m (fun x => sw_i (sw_gb kk (P p x) (P q x) (R x))) 256)) : ∃ n, wY_gate_58 post (nI kk) (nI p) (nI q) c (nI m) n 0 t := by
  have z := sw_gY_l H hk hp hq hm hR h 256 0 rfl
  rw [sw_putI_0, nI_0] at z
  exact ⟨257, z⟩
theorem sw_gb_c {kk : Nat} (h : kk < 7) (a b c c' : Bool) : sw_gb kk a b c = sw_gb kk a b c' := by
  match kk, h with
  | 0, _ => rfl
  | 1, _ => rfl
  | 2, _ => rfl
  | 3, _ => rfl
  | 4, _ => rfl
  | 5, _ => rfl
  | 6, _ => rfl
  | k + 7, h => omega
/-- the two states after a gate hold one picture -/
theorem sw_gH {kk p q r m : Nat} {a : Nat → Int64} {t : Nat → Int32} {R : Nat → Bool} (H : sw_H m t (sw_T a)) (hR : ∀ x, x < 256 → sw_gb kk (sw_T a p x) (sw_T a q x) (R x) = sw_gb kk (sw_T a p x) (sw_T a q x) (sw_T a r x)) : sw_H (m + 1) (sw_putI t m (fun x => sw_i (sw_gb kk (sw_T a p x) (sw_T a q x) (R x))) 256) (sw_T (sw_putL a m (sw_gF kk a p q r) 4)) := by
  intro w x hw hx
  rcases Nat.lt_or_ge w m with z | z
  · have e : sw_T (sw_putL a m (sw_gF kk a p q r) 4) w x = sw_T a w x := by
      unfold sw_T
      rw [sw_putL_lo _ _ _ z (by omega)]
    rw [sw_putI_lo _ _ _ z hx, e]
    exact H w x z hx
  · have q4 : w = m := by omega
    subst q4
    rw [sw_putI_hi _ _ _ hx]
    refine congrArg sw_i ((hR x hx).trans ?_)
    unfold sw_T
    rw [sw_putL_hi _ _ _ (show x / 64 < 4 by omega)]
    exact (sw_gw_b kk _ _ _ (by omega)).symm
end
section
/-! the constructors -/
theorem sw_iX_in {i : Nat} {post : SX → Prop} {J : Int32 → (Nat → Int64) → Prop} (hi : i < 8) (hJ : ∀ a, sw_I (i + 1) 0 a → J (nI (i + 1)) a) : ∀ d x a, x + d = 256 → sw_I i x a → wX_init_29 post J (nI i) 8 (d + 1) (nI x) a := by
  intro d
  induction d with
  | zero =>
    intro x a hx h
    have q : x = 256 := by omega
    subst q
    exact br_t (sw_le 256 (by omega) (by omega)) (nm_r (nI_1 i) (hJ a (sw_I_n h)))
  | succ d ih =>
    intro x a hx h
    have hx2 : x < 256 := by omega
    have e : nI i * 4 + (nI x >>> ((6 : Int32) &&& 31)) = nI (i * 4 + x / 64) := by rw [sw_x6 hx2, sw_ix]
    have hin : vp_in (nI i * 4 + (nI x >>> ((6 : Int32) &&& 31))) 160 := pk_in (i * 4 + x / 64) 160 (by omega) e
    have st : vp_updL a (nI i * 4 + (nI x >>> ((6 : Int32) &&& 31))).toNatClampNeg ((a (nI i * 4 + (nI x >>> ((6 : Int32) &&& 31))).toNatClampNeg) ||| ((sw_i (x.testBit i)).toInt64 <<< ((nI x &&& 63).toInt64 &&& 63))) = vp_updL a (i * 4 + x / 64) (a (i * 4 + x / 64) ||| ((sw_i (x.testBit i)).toInt64 <<< ((nI (x % 64)).toInt64 &&& 63))) := by
      rw [e, nI_clamp (by omega), sw_x63 hx2]
    exact br_f (sw_nle 256 (by omega) (by decide)) (nm_r (congrArg Int32.toInt64 (sw_t_shr i hi x hx2)) ⟨hin, hin, nm_r st (nm_r (nI_1 x) (ih (x + 1) _ (by omega) (sw_I_s hi hx2 h)))⟩)
theorem sw_iX_out {post : SX → Prop} (hp : ∀ a, sw_I 8 0 a → post (8, a)) : ∀ d i a, i + d = 8 → sw_I i 0 a → wX_init_21 post 8 (d + 1) (nI i) a := by
  intro d
  induction d with
  | zero =>
    intro i a hi h
    have q : i = 8 := by omega
    subst q
    exact br_t (sw_le 8 (by omega) (by omega)) (hp a h)
  | succ d ih =>
    intro i a hi h
    exact br_f (sw_nle 8 (by omega) (by decide)) ⟨257, sw_iX_in (by omega) (fun a' h' => ih (i + 1) a' (by omega) h') 256 0 a rfl h⟩
theorem sw_iY_l {post : SY → Prop} (hp : ∀ t : Nat → Int32, (∀ c, c < 2048 → t c = sw_i ((c % 256).testBit (c / 256))) → post (8, t)) : ∀ d c t, c + d = 2048 → (∀ c', c' < c → t c' = sw_i ((c' % 256).testBit (c' / 256))) → wY_init_21 post 8 (d + 1) (nI c) t := by
  intro d
  induction d with
  | zero =>
    intro c t hc h
    have q : c = 2048 := by omega
    subst q
    exact br_t (sw_le 2048 (by omega) (by omega)) (hp t h)
  | succ d ih =>
    intro c t hc h
    have e1 : nI c - nI c / 256 * 256 = nI (c % 256) := pk_rem (d := 256) (by omega) (by decide) (by decide)
    have e2 : nI c / 256 = nI (c / 256) := pk_div (d := 256) (by omega) (by decide) (by decide)
    refine br_f (sw_nle 2048 (by omega) (by decide)) ⟨by decide, by decide, ?_⟩
    rw [e1, e2, sw_t_shr (c / 256) (by omega) (c % 256) (by omega)]
    have hin : vp_in (nI c) 10240 := vp_in_nI (by omega) (by decide)
    have nx : ∀ c', c' < c + 1 → upd t c (sw_i ((c % 256).testBit (c / 256))) c' = sw_i ((c' % 256).testBit (c' / 256)) := by
      intro c' h'
      by_cases q : c' = c
      · rw [q, pk_us]
      · rw [pk_un q]
        exact h c' (by omega)
    have go := ih (c + 1) _ (by omega) nx
    cases b : (c % 256).testBit (c / 256) with
    | true =>
      have st : upd t (nI c).toNatClampNeg (vp_nar .boolean (sw_i true)) = upd t c (sw_i ((c % 256).testBit (c / 256))) := by rw [nI_clamp (by omega), sw_vnb, b]
      exact br_t rfl ⟨hin, nm_r st (nm_r (nI_1 c) go)⟩
    | false =>
      have st : upd t (nI c).toNatClampNeg (vp_nar .boolean (sw_i false)) = upd t c (sw_i ((c % 256).testBit (c / 256))) := by rw [nI_clamp (by omega), sw_vnb, b]
      exact br_f (by decide) ⟨hin, nm_r st (nm_r (nI_1 c) go)⟩
theorem sw_start {a : Nat → Int64} {t : Nat → Int32} (hX : sw_I 8 0 a) (hY : ∀ c, c < 2048 → t c = sw_i ((c % 256).testBit (c / 256))) : sw_H 8 t (sw_T a) := by
  intro p x hp hx
  rw [hY (256 * p + x) (by omega), hX p x hp hx, show (256 * p + x) % 256 = x by omega, show (256 * p + x) / 256 = p by omega, decide_eq_true (by omega), Bool.true_and]
end
section
/-! what is owed -/
/-- one number of wires on both sides, and one picture -/
def i_Rel (k : Nat) (u : SX) (v : SY) : Prop := ∃ (n : Nat) (a : Nat → Int64) (t : Nat → Int32), u = (nI n, a) ∧ v = (nI n, t) ∧ 8 ≤ n ∧ n ≤ 40 ∧ sw_H n t (sw_T a)
theorem i_up {k : Nat} {u : SX} {v : SY} (h : i_Rel k u v) : i_Rel (k + 5) u v := h
theorem i_vc0 : wpX_init (fun u => wpY_init (fun v => i_Rel 0 u v)) :=
  ⟨9, sw_iX_out (fun a ha => ⟨2049, sw_iY_l (fun t ht => ⟨8, a, t, rfl, rfl, by decide, by decide, sw_start ha ht⟩) 2048 0 _ rfl (fun c hc => absurd hc (Nat.not_lt_zero c))⟩) 8 0 _ rfl sw_I_0⟩
theorem sw_big {v : Int32} {c : Nat} (h : nI (c + 1) ≤ v) (hc : c + 1 < 2 ^ 31) : ¬ v < 0 ∧ ¬ v < nI (c + 1) ∧ ¬ v ≤ nI c ∧ nI c < v := by
  have z : (0 : Int32).toInt = 0 := by decide
  rw [Int32.le_iff_toInt_le, nI_toInt hc] at h
  rw [Int32.lt_iff_toInt_lt, Int32.lt_iff_toInt_lt, Int32.lt_iff_toInt_lt, Int32.le_iff_toInt_le, nI_toInt hc, nI_toInt (by omega), z]
  omega
theorem i_vc_gate {k : Nat} {u : SX} {v : SY} (I : i_Rel k u v) (hk : k + 5 ≤ 2560) (v1 : Int32) (v2 : Int32) (v3 : Int32) (v4 : Int32) : wpX_gate (fun r u' => wpY_gate (fun r' v' => r' = r ∧ i_Rel (k + 5) u' v') v v1 v2 v3 v4) u v1 v2 v3 v4 := by
  obtain ⟨n, a, t, rfl, rfl, h8, h40, H⟩ := I
  have R : i_Rel (k + 5) (nI n, a) (nI n, t) := ⟨n, a, t, rfl, rfl, h8, h40, H⟩
  rcases sw_3 v1 (n := 10) (by decide) with h | ⟨kk, hkk, rfl⟩
  · rcases h with h | h
    · exact br_t h (br_t h ⟨rfl, R⟩)
    · have g := sw_big (c := 9) h (by decide)
      exact br_f g.1 (br_t g.2.2.2 (br_f g.1 (br_t g.2.2.2 ⟨rfl, R⟩)))
  · have k0 : ¬ nI kk < 0 := nI_pos (by omega)
    have k9 : ¬ (9 : Int32) < nI kk := nI_nlt (a := 9) (by omega) (by decide)
    refine br_f k0 (br_f k9 ?_)
    rcases sw_3 v2 (n := n) (by omega) with h | ⟨p, hp, rfl⟩
    · exact sw_isX_n h (br_t rfl (br_f k0 (br_f k9 (sw_isY_n h (br_t rfl ⟨rfl, R⟩)))))
    refine sw_isX_y h40 hp (br_f sw_1n0 ?_)
    rcases sw_3 v3 (n := n) (by omega) with h | ⟨q, hq, rfl⟩
    · exact sw_isX_n h (br_t rfl (br_f k0 (br_f k9 (sw_isY_y h40 hp (br_f sw_1n0 (sw_isY_n h (br_t rfl ⟨rfl, R⟩)))))))
    refine sw_isX_y h40 hq (br_f sw_1n0 ?_)
    by_cases h7 : kk < 7
    · have k7 : nI kk < 7 := nI_lt (b := 7) h7 (by decide)
      refine br_t k7 (br_t rfl ?_)
      by_cases hm : n < 40
      · have n40 : nI n < 40 := nI_lt (b := 40) hm (by decide)
        refine br_t n40 (br_t rfl (sw_gX hkk hp hq hp hm ?_))
        refine br_f k0 (br_f k9 (sw_isY_y h40 hp (br_f sw_1n0 (sw_isY_y h40 hq (br_f sw_1n0 (br_t k7 (br_t n40 (sw_gY H hkk hp hq hm (Or.inl ⟨h7, rfl⟩) ⟨rfl, ?_⟩))))))))
        exact ⟨n + 1, _, _, rfl, rfl, by omega, by omega, sw_gH H (fun x _ => sw_gb_c h7 _ _ _ _)⟩
      · have n40 : ¬ nI n < 40 := nI_nlt (b := 40) (by omega) (by omega)
        exact br_f n40 (br_f k0 (br_f k9 (sw_isY_y h40 hp (br_f sw_1n0 (sw_isY_y h40 hq (br_f sw_1n0 (br_t k7 (br_f n40 ⟨rfl, R⟩))))))))
    · have k7 : ¬ nI kk < 7 := nI_nlt (b := 7) (by omega) (by omega)
      refine br_f k7 (br_f sw_1n0 ?_)
      rcases sw_3 v4 (n := n) (by omega) with h | ⟨r, hr, rfl⟩
      · exact sw_isX_n h (br_t rfl (br_f k0 (br_f k9 (sw_isY_y h40 hp (br_f sw_1n0 (sw_isY_y h40 hq (br_f sw_1n0 (br_f k7 (sw_isY_n h (br_t rfl ⟨rfl, R⟩))))))))))
      refine sw_isX_y h40 hr (br_f sw_1n0 ?_)
      by_cases hm : n < 40
      · have n40 : nI n < 40 := nI_lt (b := 40) hm (by decide)
        refine br_t n40 (br_f sw_1n0 (sw_gX hkk hp hq hr hm ?_))
        refine br_f k0 (br_f k9 (sw_isY_y h40 hp (br_f sw_1n0 (sw_isY_y h40 hq (br_f sw_1n0 (br_f k7 (sw_isY_y h40 hr (br_f sw_1n0 (br_t n40 (sw_gY H hkk hp hq hm (Or.inr ⟨by omega, r, hr, rfl, rfl⟩) ⟨rfl, ?_⟩))))))))))
        exact ⟨n + 1, _, _, rfl, rfl, by omega, by omega, sw_gH H (fun x _ => rfl)⟩
      · have n40 : ¬ nI n < 40 := nI_nlt (b := 40) (by omega) (by omega)
        exact br_f n40 (br_f k0 (br_f k9 (sw_isY_y h40 hp (br_f sw_1n0 (sw_isY_y h40 hq (br_f sw_1n0 (br_f k7 (sw_isY_y h40 hr (br_f sw_1n0 (br_f n40 ⟨rfl, R⟩))))))))))
theorem i_vc_drop {k : Nat} {u : SX} {v : SY} (I : i_Rel k u v) (hk : k + 5 ≤ 2560) : wpX_drop (fun r u' => wpY_drop (fun r' v' => r' = r ∧ i_Rel (k + 5) u' v') v) u := by
  obtain ⟨n, a, t, rfl, rfl, h8, h40, H⟩ := I
  rcases Nat.eq_or_lt_of_le h8 with e | e
  · subst e
    exact br_f (by decide) (br_t rfl ⟨rfl, 8, a, t, rfl, rfl, by decide, by decide, H⟩)
  · obtain ⟨m, rfl⟩ : ∃ m, n = m + 1 := ⟨n - 1, by omega⟩
    have h1 : (8 : Int32) < nI (m + 1) := nI_lt (a := 8) e (by omega)
    have h2 : ¬ nI (m + 1) = 8 := fun z => by have := (nI_eq (b := 8) (by omega) (by decide)).mp z; omega
    exact br_t h1 (nm_r (nI_pred m) (br_f h2 (nm_r (nI_pred m) ⟨rfl, m, a, t, rfl, rfl, by omega, by omega, fun p x hp hx => H p x (by omega) hx⟩)))
theorem i_vc_wires {k : Nat} {u : SX} {v : SY} (I : i_Rel k u v) (hk : k + 5 ≤ 2560) : wpX_wires (fun r => wpY_wires (fun r' => r' = r ∧ i_Rel (k + 5) u v) v) u := by
  obtain ⟨n, a, t, rfl, rfl, h8, h40, H⟩ := I
  exact ⟨rfl, n, a, t, rfl, rfl, h8, h40, H⟩
theorem i_vc_value {k : Nat} {u : SX} {v : SY} (I : i_Rel k u v) (hk : k + 5 ≤ 2560) (v1 : Int32) (v2 : Int32) : wpX_value (fun r => wpY_value (fun r' => r' = r ∧ i_Rel (k + 5) u v) v v1 v2) u v1 v2 := by
  obtain ⟨n, a, t, rfl, rfl, h8, h40, H⟩ := I
  have R : i_Rel (k + 5) (nI n, a) (nI n, t) := ⟨n, a, t, rfl, rfl, h8, h40, H⟩
  unfold wpX_value wpY_value
  dsimp only
  rcases sw_3 v1 (n := n) (by omega) with h | ⟨p, hp, rfl⟩
  · exact sw_isX_n h (br_t rfl (sw_isY_n h (br_t rfl ⟨rfl, R⟩)))
  refine sw_isX_y h40 hp (br_f sw_1n0 ?_)
  rcases sw_3 v2 (n := 256) (by decide) with h | ⟨x, hx, rfl⟩
  · rcases h with h | h
    · exact br_t h (sw_isY_y h40 hp (br_f sw_1n0 (br_t h ⟨rfl, R⟩)))
    · have g := sw_big (c := 255) h (by decide)
      exact br_f g.1 (br_f g.2.1 (sw_isY_y h40 hp (br_f sw_1n0 (br_f g.1 (br_f g.2.2.1 ⟨rfl, R⟩)))))
  · have x0 : ¬ nI x < 0 := nI_pos (by omega)
    refine br_f x0 (br_t (nI_lt (b := 256) hx (by decide)) (sw_bitOf (by omega) hx (sw_isY_y h40 hp (br_f sw_1n0 (br_f x0 (br_t (nI_le (b := 255) (by omega) (by decide)) (sw_at _ (by omega) hx (H p x hp hx) ?_)))))))
    cases e : sw_T a p x with
    | false => exact br_t rfl ⟨rfl, R⟩
    | true => exact br_f sw_1n0 ⟨rfl, R⟩
theorem i_vc_equal {k : Nat} {u : SX} {v : SY} (I : i_Rel k u v) (hk : k + 5 ≤ 2560) (v1 : Int32) (v2 : Int32) : wpX_equal (fun r => wpY_equal (fun r' => r' = r ∧ i_Rel (k + 5) u v) v v1 v2) u v1 v2 := by
  obtain ⟨n, a, t, rfl, rfl, h8, h40, H⟩ := I
  have R : i_Rel (k + 5) (nI n, a) (nI n, t) := ⟨n, a, t, rfl, rfl, h8, h40, H⟩
  unfold wpX_equal wpY_equal
  dsimp only
  rcases sw_3 v1 (n := n) (by omega) with h | ⟨p, hp, rfl⟩
  · exact sw_isX_n h (br_t rfl (sw_isY_n h (br_t rfl ⟨rfl, R⟩)))
  refine sw_isX_y h40 hp (br_f sw_1n0 ?_)
  rcases sw_3 v2 (n := n) (by omega) with h | ⟨q, hq, rfl⟩
  · exact sw_isX_n h (br_t rfl (sw_isY_y h40 hp (br_f sw_1n0 (sw_isY_n h (br_t rfl ⟨rfl, R⟩)))))
  refine sw_isX_y h40 hq (br_f sw_1n0 (sw_same (by omega) (by omega) ?_))
  cases e : sw_E (sw_T a) p q with
  | false =>
    refine br_t rfl (sw_isY_y h40 hp (br_f sw_1n0 (sw_isY_y h40 hq (br_f sw_1n0 (sw_apt_256 h40 H hp hq (fun z => ?_) (fun _ => ⟨rfl, R⟩))))))
    rw [e] at z
    exact absurd z (by decide)
  | true =>
    refine br_f sw_1n0 (sw_isY_y h40 hp (br_f sw_1n0 (sw_isY_y h40 hq (br_f sw_1n0 (sw_apt_256 h40 H hp hq (fun _ => ⟨rfl, R⟩) (fun z => ?_))))))
    rw [e] at z
    exact absurd z (by decide)
theorem i_vc_opposite {k : Nat} {u : SX} {v : SY} (I : i_Rel k u v) (hk : k + 5 ≤ 2560) (v1 : Int32) (v2 : Int32) : wpX_opposite (fun r => wpY_opposite (fun r' => r' = r ∧ i_Rel (k + 5) u v) v v1 v2) u v1 v2 := by
  obtain ⟨n, a, t, rfl, rfl, h8, h40, H⟩ := I
  have R : i_Rel (k + 5) (nI n, a) (nI n, t) := ⟨n, a, t, rfl, rfl, h8, h40, H⟩
  unfold wpX_opposite wpY_opposite
  dsimp only
  rcases sw_3 v1 (n := n) (by omega) with h | ⟨p, hp, rfl⟩
  · exact sw_isX_n h (br_t rfl (sw_isY_n h (br_t rfl ⟨1, sw_yopp_0 0 _ ⟨rfl, R⟩⟩)))
  refine sw_isX_y h40 hp (br_f sw_1n0 ?_)
  rcases sw_3 v2 (n := n) (by omega) with h | ⟨q, hq, rfl⟩
  · exact sw_isX_n h (br_t rfl (sw_isY_y h40 hp (br_f sw_1n0 (sw_isY_n h (br_t rfl ⟨1, sw_yopp_0 0 _ ⟨rfl, R⟩⟩)))))
  refine sw_isX_y h40 hq (br_f sw_1n0 ⟨5, sw_opp_l (by omega) (by omega) 4 0 rfl ?_⟩)
  rw [sw_opp_e]
  exact sw_isY_y h40 hp (br_f sw_1n0 (sw_isY_y h40 hq (br_f sw_1n0 ⟨257, sw_yopp_l h40 H hp hq 256 0 rfl ⟨rfl, R⟩⟩)))
theorem i_vc_constant {k : Nat} {u : SX} {v : SY} (I : i_Rel k u v) (hk : k + 5 ≤ 2560) (v1 : Int32) : wpX_constant (fun r => wpY_constant (fun r' => r' = r ∧ i_Rel (k + 5) u v) v v1) u v1 := by
  obtain ⟨n, a, t, rfl, rfl, h8, h40, H⟩ := I
  have R : i_Rel (k + 5) (nI n, a) (nI n, t) := ⟨n, a, t, rfl, rfl, h8, h40, H⟩
  unfold wpX_constant wpY_constant
  dsimp only
  rcases sw_3 v1 (n := n) (by omega) with h | ⟨p, hp, rfl⟩
  · exact sw_isX_n h (br_t rfl (sw_isY_n h (br_t rfl ⟨rfl, R⟩)))
  refine sw_isX_y h40 hp (br_f sw_1n0 (sw_ones (by omega) ?_))
  by_cases e0 : nI (sw_cnt (sw_T a p) 256 0 0) = 0
  · exact br_t e0 (sw_isY_y h40 hp (br_f sw_1n0 (sw_yone h40 H hp (br_t e0 ⟨rfl, R⟩))))
  by_cases e1 : nI (sw_cnt (sw_T a p) 256 0 0) = 256
  · exact br_f e0 (br_t e1 (sw_isY_y h40 hp (br_f sw_1n0 (sw_yone h40 H hp (br_f e0 (br_t e1 ⟨rfl, R⟩))))))
  · exact br_f e0 (br_f e1 (sw_isY_y h40 hp (br_f sw_1n0 (sw_yone h40 H hp (br_f e0 (br_f e1 ⟨rfl, R⟩))))))
theorem i_vc_implies {k : Nat} {u : SX} {v : SY} (I : i_Rel k u v) (hk : k + 5 ≤ 2560) (v1 : Int32) (v2 : Int32) : wpX_implies (fun r => wpY_implies (fun r' => r' = r ∧ i_Rel (k + 5) u v) v v1 v2) u v1 v2 := by
  obtain ⟨n, a, t, rfl, rfl, h8, h40, H⟩ := I
  have R : i_Rel (k + 5) (nI n, a) (nI n, t) := ⟨n, a, t, rfl, rfl, h8, h40, H⟩
  unfold wpX_implies wpY_implies
  dsimp only
  rcases sw_3 v1 (n := n) (by omega) with h | ⟨p, hp, rfl⟩
  · exact sw_isX_n h (br_t rfl (sw_isY_n h (br_t rfl ⟨1, sw_yimp_0 0 _ ⟨rfl, R⟩⟩)))
  refine sw_isX_y h40 hp (br_f sw_1n0 ?_)
  rcases sw_3 v2 (n := n) (by omega) with h | ⟨q, hq, rfl⟩
  · exact sw_isX_n h (br_t rfl (sw_isY_y h40 hp (br_f sw_1n0 (sw_isY_n h (br_t rfl ⟨1, sw_yimp_0 0 _ ⟨rfl, R⟩⟩)))))
  refine sw_isX_y h40 hq (br_f sw_1n0 ⟨5, sw_imp_l (by omega) (by omega) 4 0 rfl ?_⟩)
  rw [sw_imp_e]
  exact sw_isY_y h40 hp (br_f sw_1n0 (sw_isY_y h40 hq (br_f sw_1n0 ⟨257, sw_yimp_l h40 H hp hq 256 0 rfl ⟨rfl, R⟩⟩)))
theorem i_vc_count {k : Nat} {u : SX} {v : SY} (I : i_Rel k u v) (hk : k + 5 ≤ 2560) (v1 : Int32) : wpX_count (fun r => wpY_count (fun r' => r' = r ∧ i_Rel (k + 5) u v) v v1) u v1 := by
  obtain ⟨n, a, t, rfl, rfl, h8, h40, H⟩ := I
  have R : i_Rel (k + 5) (nI n, a) (nI n, t) := ⟨n, a, t, rfl, rfl, h8, h40, H⟩
  unfold wpX_count wpY_count
  dsimp only
  rcases sw_3 v1 (n := n) (by omega) with h | ⟨p, hp, rfl⟩
  · exact sw_isX_n h (br_t rfl (sw_isY_n h (br_t rfl ⟨rfl, R⟩)))
  exact sw_isX_y h40 hp (br_f sw_1n0 (sw_ones (by omega) (sw_isY_y h40 hp (br_f sw_1n0 (sw_yone h40 H hp ⟨rfl, R⟩)))))
theorem i_vc_witness {k : Nat} {u : SX} {v : SY} (I : i_Rel k u v) (hk : k + 5 ≤ 2560) (v1 : Int32) : wpX_witness (fun r => wpY_witness (fun r' => r' = r ∧ i_Rel (k + 5) u v) v v1) u v1 := by
  obtain ⟨n, a, t, rfl, rfl, h8, h40, H⟩ := I
  have R : i_Rel (k + 5) (nI n, a) (nI n, t) := ⟨n, a, t, rfl, rfl, h8, h40, H⟩
  unfold wpX_witness wpY_witness
  dsimp only
  rcases sw_3 v1 (n := n) (by omega) with h | ⟨p, hp, rfl⟩
  · exact sw_isX_n h (br_t rfl ⟨1, br_f (by decide) (sw_isY_n h (br_t rfl (sw_isY_n h (br_t rfl ⟨rfl, R⟩))))⟩)
  exact sw_isX_y h40 hp (br_f sw_1n0 ⟨257, sw_wit_l (by omega) 256 0 rfl ⟨257, sw_ywit_l h40 H hp 256 0 rfl ⟨rfl, R⟩⟩⟩)
theorem i_vc_differ {k : Nat} {u : SX} {v : SY} (I : i_Rel k u v) (hk : k + 5 ≤ 2560) (v1 : Int32) (v2 : Int32) : wpX_differ (fun r => wpY_differ (fun r' => r' = r ∧ i_Rel (k + 5) u v) v v1 v2) u v1 v2 := by
  obtain ⟨n, a, t, rfl, rfl, h8, h40, H⟩ := I
  have R : i_Rel (k + 5) (nI n, a) (nI n, t) := ⟨n, a, t, rfl, rfl, h8, h40, H⟩
  unfold wpX_differ wpY_differ
  dsimp only
  rcases sw_3 v1 (n := n) (by omega) with h | ⟨p, hp, rfl⟩
  · exact sw_isX_n h (br_t rfl (sw_isY_n h (br_t rfl ⟨rfl, R⟩)))
  refine sw_isX_y h40 hp (br_f sw_1n0 ?_)
  rcases sw_3 v2 (n := n) (by omega) with h | ⟨q, hq, rfl⟩
  · exact sw_isX_n h (br_t rfl (sw_isY_y h40 hp (br_f sw_1n0 (sw_isY_n h (br_t rfl ⟨rfl, R⟩)))))
  refine sw_isX_y h40 hq (br_f sw_1n0 ⟨257, sw_dif_l (by omega) (by omega) 256 0 rfl ?_⟩)
  refine sw_isY_y h40 hp (br_f sw_1n0 (sw_isY_y h40 hq (br_f sw_1n0 (sw_apt h40 H hp hq ?_))))
  have hle := (sw_find_le (fun x => sw_T a p x != sw_T a q x) 256 0).2
  by_cases e : sw_find (fun x => sw_T a p x != sw_T a q x) 256 0 < 256
  · exact br_f (sw_nle 256 e (by decide)) ⟨(if_pos e).symm, R⟩
  · exact br_t (sw_le 256 (by omega) (by omega)) ⟨(if_neg e).symm, R⟩
theorem i_vc_depends {k : Nat} {u : SX} {v : SY} (I : i_Rel k u v) (hk : k + 5 ≤ 2560) (v1 : Int32) : wpX_depends (fun r => wpY_depends (fun r' => r' = r ∧ i_Rel (k + 5) u v) v v1) u v1 := by
  obtain ⟨n, a, t, rfl, rfl, h8, h40, H⟩ := I
  have R : i_Rel (k + 5) (nI n, a) (nI n, t) := ⟨n, a, t, rfl, rfl, h8, h40, H⟩
  unfold wpX_depends wpY_depends
  dsimp only
  rcases sw_3 v1 (n := n) (by omega) with h | ⟨p, hp, rfl⟩
  · exact sw_isX_n h (br_t rfl ⟨1, br_f (by decide) (sw_isY_n h (br_t rfl (sw_isY_n h (br_t rfl ⟨rfl, R⟩))))⟩)
  exact sw_isX_y h40 hp (br_f sw_1n0 ⟨9, sw_dep_l (by omega) 8 0 0 rfl ⟨9, sw_ydep_l h40 H hp 8 0 0 rfl ⟨rfl, R⟩⟩⟩)
theorem i_vc_first {k : Nat} {u : SX} {v : SY} (I : i_Rel k u v) (hk : k + 5 ≤ 2560) (v1 : Int32) : wpX_first (fun r => wpY_first (fun r' => r' = r ∧ i_Rel (k + 5) u v) v v1) u v1 := by
  obtain ⟨n, a, t, rfl, rfl, h8, h40, H⟩ := I
  have R : i_Rel (k + 5) (nI n, a) (nI n, t) := ⟨n, a, t, rfl, rfl, h8, h40, H⟩
  unfold wpX_first
  dsimp only
  rcases sw_3 v1 (n := n) (by omega) with h | ⟨p, hp, rfl⟩
  · exact sw_isX_n h (br_t rfl ⟨1, br_f (sw_nle (k := 0) n (by omega) (by omega)) (sw_isY_n h (br_t rfl ⟨rfl, R⟩))⟩)
  exact sw_isX_y h40 hp (br_f sw_1n0 (sw_lea (by omega) (sw_yfst h40 H hp ⟨rfl, R⟩)))
theorem i_vc_groups {k : Nat} {u : SX} {v : SY} (I : i_Rel k u v) (hk : k + 5 ≤ 2560) : wpX_groups (fun r => wpY_groups (fun r' => r' = r ∧ i_Rel (k + 5) u v) v) u := by
  obtain ⟨n, a, t, rfl, rfl, h8, h40, H⟩ := I
  have R : i_Rel (k + 5) (nI n, a) (nI n, t) := ⟨n, a, t, rfl, rfl, h8, h40, H⟩
  unfold wpX_groups wpY_groups
  dsimp only
  exact ⟨n + 1, sw_grp_l h40 n 0 0 (by omega) ⟨n + 1, sw_ygrp_l h40 H n 0 0 (by omega) ⟨rfl, R⟩⟩⟩
theorem i_vc_symmetric {k : Nat} {u : SX} {v : SY} (I : i_Rel k u v) (hk : k + 5 ≤ 2560) (v1 : Int32) (v2 : Int32) (v3 : Int32) : wpX_symmetric (fun r => wpY_symmetric (fun r' => r' = r ∧ i_Rel (k + 5) u v) v v1 v2 v3) u v1 v2 v3 := by
  obtain ⟨n, a, t, rfl, rfl, h8, h40, H⟩ := I
  have R : i_Rel (k + 5) (nI n, a) (nI n, t) := ⟨n, a, t, rfl, rfl, h8, h40, H⟩
  unfold wpX_symmetric wpY_symmetric
  dsimp only
  rcases sw_3 v1 (n := n) (by omega) with h | ⟨p, hp, rfl⟩
  · exact sw_isX_n h (br_t rfl (sw_isY_n h (br_t rfl ⟨rfl, R⟩)))
  refine sw_isX_y h40 hp (br_f sw_1n0 ?_)
  rcases sw_3 v2 (n := 8) (by decide) with h | ⟨i, hi, rfl⟩
  · refine sw_in_n h (br_t rfl (sw_isY_y h40 hp (br_f sw_1n0 ?_)))
    rcases h with h | h
    · exact br_t h ⟨rfl, R⟩
    · have g := sw_big (c := 7) h (by decide)
      exact br_f g.1 (br_t g.2.2.2 ⟨rfl, R⟩)
  have i0 : ¬ nI i < 0 := nI_pos (by omega)
  have i7 : ¬ (7 : Int32) < nI i := nI_nlt (a := 7) (by omega) (by decide)
  refine sw_in_y hi (br_f sw_1n0 ?_)
  rcases sw_3 v3 (n := 8) (by decide) with h | ⟨j, hj, rfl⟩
  · refine sw_in_n h (br_t rfl (sw_isY_y h40 hp (br_f sw_1n0 (br_f i0 (br_f i7 ?_)))))
    rcases h with h | h
    · exact br_t h ⟨rfl, R⟩
    · have g := sw_big (c := 7) h (by decide)
      exact br_f g.1 (br_f g.2.2.1 ⟨rfl, R⟩)
  exact sw_in_y hj (br_f sw_1n0 ⟨257, sw_sym_l (by omega) hi hj 256 0 rfl (sw_isY_y h40 hp (br_f sw_1n0 (br_f i0 (br_f i7 (br_f (nI_pos (by omega)) (br_t (nI_le (b := 7) (by omega) (by decide)) ⟨257, sw_ysym_l h40 H hp hi hj 256 0 rfl ⟨rfl, R⟩⟩))))))⟩)
theorem i_vc_follows {k : Nat} {u : SX} {v : SY} (I : i_Rel k u v) (hk : k + 5 ≤ 2560) (v1 : Int32) (v2 : Int32) : wpX_follows (fun r => wpY_follows (fun r' => r' = r ∧ i_Rel (k + 5) u v) v v1 v2) u v1 v2 := by
  obtain ⟨n, a, t, rfl, rfl, h8, h40, H⟩ := I
  have R : i_Rel (k + 5) (nI n, a) (nI n, t) := ⟨n, a, t, rfl, rfl, h8, h40, H⟩
  unfold wpX_follows
  dsimp only
  rcases sw_3 v1 (n := n) (by omega) with h | ⟨p, hp, rfl⟩
  · refine sw_isX_n h (br_t rfl ?_)
    unfold wpY_follows
    exact sw_isY_n h (br_t rfl ⟨rfl, R⟩)
  refine sw_isX_y h40 hp (br_f sw_1n0 ?_)
  rcases sw_3 v2 (n := 8) (by decide) with h | ⟨i, hi, rfl⟩
  · refine sw_in_n h (br_t rfl ?_)
    unfold wpY_follows
    refine sw_isY_y h40 hp (br_f sw_1n0 ?_)
    rcases h with h | h
    · exact br_t h ⟨rfl, R⟩
    · have g := sw_big (c := 7) h (by decide)
      exact br_f g.1 (br_f g.2.2.1 ⟨rfl, R⟩)
  exact sw_in_y hi (br_f sw_1n0 (sw_chg (by omega) hi (sw_yfol h40 H hp hi ⟨rfl, R⟩)))
end
