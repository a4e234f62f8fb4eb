section
theorem pk_us {f : Nat → Int32} {k : Nat} {x : Int32} : upd f k x k = x := if_pos rfl
theorem pk_un {f : Nat → Int32} {k j : Nat} {x : Int32} (h : j ≠ k) : upd f k x j = f j := if_neg h
theorem pk_uLs {f : Nat → Int64} {k : Nat} {x : Int64} : vp_updL f k x k = x := if_pos rfl
theorem pk_uLn {f : Nat → Int64} {k j : Nat} {x : Int64} (h : j ≠ k) : vp_updL f k x j = f j := if_neg h
theorem pk_sub {a b : Nat} (h : b ≤ a) : nI a - nI b = nI (a - b) := by
  obtain ⟨c, rfl⟩ : ∃ c, a = c + b := ⟨a - b, by omega⟩
  rw [← nI_add, Int32.add_sub_cancel, Nat.add_sub_cancel]
theorem pk_mul (a b : Nat) : nI a * nI b = nI (a * b) := (Int32.ofNat_mul a b).symm
theorem pk_div {a d : Nat} (ha : a < 2 ^ 31) (h0 : 0 < d) (hd : d < 2 ^ 31) : nI a / nI d = nI (a / d) := by
  apply Int32.toInt_inj.mp
  rw [lg_idiv_nonneg (by rw [nI_toInt ha]; omega) (by rw [nI_toInt hd]; omega), nI_toInt ha, nI_toInt hd, nI_toInt (Nat.lt_of_le_of_lt (Nat.div_le_self a d) ha)]
  first | rfl | exact (Int.natCast_ediv _ _).symm
theorem pk_rem {a d : Nat} (ha : a < 2 ^ 31) (h0 : 0 < d) (hd : d < 2 ^ 31) : nI a - nI a / nI d * nI d = nI (a % d) := by
  rw [pk_div ha h0 hd, pk_mul, pk_sub (Nat.div_mul_le_self a d)]
  exact congrArg nI (by have := Nat.div_add_mod' a d; omega)
theorem pk_ix (x : Int32) {n : Nat} (hn : n < 2 ^ 31) : x < 0 ∨ nI n ≤ x ∨ ∃ j : Nat, j < n ∧ x = nI j := by
  by_cases h : x < 0
  · exact Or.inl h
  · obtain ⟨j, hj, rfl⟩ := nI_of h
    by_cases h2 : j < n
    · exact Or.inr (Or.inr ⟨j, h2, rfl⟩)
    · exact Or.inr (Or.inl (nI_le (by omega) hj))
theorem pk_le {x y : Int32} {A B : Prop} (a b : Nat) (f : a ≤ b → A) (g : b < a → B) (hx : x = nI a := by rfl) (hy : y = nI b := by rfl) (ha : a < 2 ^ 31 := by omega) (hb : b < 2 ^ 31 := by omega) : (x ≤ y → A) ∧ (¬ x ≤ y → B) := by
  subst hx hy
  rw [nI_leI ha hb]
  exact ⟨f, fun z => g (by omega)⟩
theorem pk_lt {x y : Int32} {A B : Prop} (a b : Nat) (f : a < b → A) (g : b ≤ a → B) (hx : x = nI a := by rfl) (hy : y = nI b := by rfl) (ha : a < 2 ^ 31 := by omega) (hb : b < 2 ^ 31 := by omega) : (x < y → A) ∧ (¬ x < y → B) := by
  subst hx hy
  rw [nI_ltI ha hb]
  exact ⟨f, fun z => g (by omega)⟩
theorem pk_eq {x y : Int32} {A B : Prop} (a b : Nat) (f : a = b → A) (g : a ≠ b → B) (hx : x = nI a := by rfl) (hy : y = nI b := by rfl) (ha : a < 2 ^ 31 := by omega) (hb : b < 2 ^ 31 := by omega) : (x = y → A) ∧ (¬ x = y → B) := by
  subst hx hy
  rw [nI_eq ha hb]
  exact ⟨f, g⟩
theorem pk_in {x : Int32} (n N : Nat) (h : n < N) (hx : x = nI n := by rfl) (hN : N < 2 ^ 31 := by omega) : vp_in x N := by
  subst hx
  exact vp_in_nI h hN
theorem pk_cl {x : Int32} (n : Nat) (hx : x = nI n := by rfl) (h : n < 2 ^ 31 := by omega) : x.toNatClampNeg = n := by
  subst hx
  exact nI_clamp h
theorem pk_tn {n : Nat} (h : n < 2 ^ 32) : (nI n).toBitVec.toNat = n := Nat.mod_eq_of_lt h
theorem pk_and (x : Int32) {m : Int32} (k : Nat) (hm : m.toBitVec.toNat = 2 ^ k - 1) : x &&& m = nI (x.toBitVec.toNat % 2 ^ k) := by
  apply Int32.toBitVec_inj.mp
  apply BitVec.eq_of_toNat_eq
  rw [Int32.toBitVec_and, BitVec.toNat_and, hm, Nat.and_two_pow_sub_one_eq_mod]
  show _ = (BitVec.ofNat 32 _).toNat
  rw [BitVec.toNat_ofNat]
  exact (Nat.mod_eq_of_lt (Nat.lt_of_le_of_lt (Nat.mod_le _ _) x.toBitVec.isLt)).symm
theorem pk_andN {n : Nat} (h : n < 2 ^ 32) {m : Int32} (k : Nat) (hm : m.toBitVec.toNat = 2 ^ k - 1) : nI n &&& m = nI (n % 2 ^ k) := by
  rw [pk_and _ k hm, pk_tn h]
theorem pk_shr (a s : Int32) (k : Nat) (hs : (s.toBitVec.smod 32).toNat = k) : (a >>> s).toInt = a.toInt >>> k := by
  show (a.toBitVec.sshiftRight (s.toBitVec.smod 32).toNat).toInt = _
  rw [hs, BitVec.toInt_sshiftRight]
  rfl
theorem pk_shrN {n : Nat} (h : n < 2 ^ 31) (s : Int32) (k : Nat) (hs : (s.toBitVec.smod 32).toNat = k) : nI n >>> s = nI (n / 2 ^ k) := by
  apply Int32.toInt_inj.mp
  have h2 : n / 2 ^ k ≤ n := Nat.div_le_self _ _
  rw [pk_shr _ _ k hs, nI_toInt h, nI_toInt (by omega), Int.shiftRight_eq_div_pow]
  rfl
theorem s_l : ∀ n, n < 32 → ((nI n &&& 31).toBitVec.smod 32).toNat = n := by decide +kernel
theorem wb_tb (n : Nat) : (lN n).toBitVec = BitVec.ofNat 64 n := rfl
theorem wb_inj {a b : Int64} (h : a.toBitVec = b.toBitVec) : a = b := Int64.toBitVec_inj.mp h
theorem wb_c : ∀ k, k < 64 → ((nI k).toInt64 &&& 63) = lN k := by decide +kernel
theorem wb_cu : ∀ k, k < 64 → ((nI k).toInt64.toUInt64 &&& Int64.toUInt64 63) = UInt64.ofNat k := by decide +kernel
theorem wb_sm : ∀ k, k < 64 → (BitVec.ofNat 64 k).smod 64 = BitVec.ofNat 64 k := by decide +kernel
theorem wb_shl (n : Nat) {k : Nat} (hk : k < 64) : lN n <<< ((nI k).toInt64 &&& 63) = lN (n * 2 ^ k) := by
  rw [wb_c k hk]
  apply wb_inj
  rw [Int64.toBitVec_shiftLeft, wb_tb, wb_tb, wb_tb, wb_sm k hk]
  apply BitVec.eq_of_toNat_eq
  rw [BitVec.shiftLeft_eq', BitVec.toNat_shiftLeft, BitVec.toNat_ofNat, BitVec.toNat_ofNat, BitVec.toNat_ofNat, Nat.mod_eq_of_lt (show k < 2 ^ 64 by omega), Nat.shiftLeft_eq, Nat.mul_mod, Nat.mod_mod, ← Nat.mul_mod]
theorem u_tn {n : Nat} (h : n < 2 ^ 64) : (UInt64.ofNat n).toNat = n := Nat.mod_eq_of_lt h
end
section
/-! bits of a long; the picture of a wire; scans -/
def sw_b (w : Int64) (j : Nat) : Bool := w.toBitVec.getLsbD j
def sw_i (b : Bool) : Int32 := if b = true then 1 else 0
theorem sw_i_t {b : Bool} (h : b = true) : sw_i b = 1 := if_pos h
theorem sw_i_f {b : Bool} (h : b = false) : sw_i b = 0 := by rw [h]; rfl
theorem sw_i_1 (b : Bool) : sw_i b = 1 ↔ b = true := by cases b <;> decide
theorem sw_i_0 (b : Bool) : sw_i b = 0 ↔ b = false := by cases b <;> decide
theorem sw_i_e (a b : Bool) : sw_i a = sw_i b ↔ a = b := by cases a <;> cases b <;> decide
theorem sw_ext {x y : Int64} (h : ∀ j, j < 64 → sw_b x j = sw_b y j) : x = y := Int64.toBitVec_inj.mp (BitVec.eq_of_getLsbD_eq (fun i hi => h i hi))
theorem sw_b_or (x y : Int64) (j : Nat) : sw_b (x ||| y) j = (sw_b x j || sw_b y j) := by unfold sw_b; rw [Int64.toBitVec_or, BitVec.getLsbD_or]
theorem sw_b_and (x y : Int64) (j : Nat) : sw_b (x &&& y) j = (sw_b x j && sw_b y j) := by unfold sw_b; rw [Int64.toBitVec_and, BitVec.getLsbD_and]
theorem sw_b_xor (x y : Int64) (j : Nat) : sw_b (x ^^^ y) j = (sw_b x j ^^ sw_b y j) := by unfold sw_b; rw [Int64.toBitVec_xor, BitVec.getLsbD_xor]
theorem sw_b_m1 : ∀ j, j < 64 → sw_b (-1) j = true := by decide +kernel
theorem sw_b_0 (j : Nat) : sw_b 0 j = false := BitVec.getLsbD_zero
theorem sw_b_not (x : Int64) {j : Nat} (hj : j < 64) : sw_b (x ^^^ (-1)) j = !sw_b x j := by rw [sw_b_xor, sw_b_m1 j hj, Bool.xor_true]
theorem sw_bit (w : Int64) {k : Nat} (hk : k < 64) : ((w.toUInt64 >>> ((nI k).toInt64.toUInt64 &&& Int64.toUInt64 63)).toInt64).toInt32 &&& 1 = sw_i (sw_b w k) := by
  have e : ((w.toUInt64 >>> ((nI k).toInt64.toUInt64 &&& Int64.toUInt64 63)).toInt64).toBitVec = w.toBitVec >>> k := by
    rw [wb_cu k hk]
    apply BitVec.eq_of_toNat_eq
    show (w.toUInt64 >>> UInt64.ofNat k).toNat = _
    rw [UInt64.toNat_shiftRight, u_tn (by omega), Nat.mod_eq_of_lt hk, BitVec.toNat_ushiftRight]
    rfl
  apply Int32.toBitVec_inj.mp
  rw [Int32.toBitVec_and, Int64.toBitVec_toInt32, e]
  show (BitVec.signExtend 32 (w.toBitVec >>> k)) &&& 1#32 = _
  rw [BitVec.and_one_eq_setWidth_ofBool_getLsbD, BitVec.getLsbD_signExtend, if_pos (by decide), BitVec.getLsbD_ushiftRight, Nat.add_zero, decide_eq_true (by decide), Bool.true_and]
  unfold sw_b
  cases w.toBitVec.getLsbD k <;> decide
theorem sw_eqw (x y : Int64) : x = y ↔ ∀ j, j < 64 → sw_b x j = sw_b y j := ⟨fun h _ _ => by rw [h], sw_ext⟩
theorem sw_opw (x y : Int64) : x = y ^^^ (-1) ↔ ∀ j, j < 64 → (sw_b x j = !sw_b y j) :=
  ⟨fun h j hj => by rw [h, sw_b_not _ hj], fun h => sw_ext fun j hj => by rw [h j hj, sw_b_not _ hj]⟩
theorem sw_imw (x y : Int64) : x &&& (y ^^^ (-1)) = 0 ↔ ∀ j, j < 64 → ((!sw_b x j || sw_b y j) = true) := by
  rw [sw_eqw]
  constructor
  · intro h j hj
    have := h j hj
    rw [sw_b_and, sw_b_not _ hj, sw_b_0] at this
    revert this
    cases sw_b x j <;> cases sw_b y j <;> decide
  · intro h j hj
    have := h j hj
    rw [sw_b_and, sw_b_not _ hj, sw_b_0]
    revert this
    cases sw_b x j <;> cases sw_b y j <;> decide
/-- the value of wire w for assignment x -/
def sw_T (a : Nat → Int64) (w x : Nat) : Bool := sw_b (a (w * 4 + x / 64)) (x % 64)
theorem sw_w4 (R : Int64 → Int64 → Prop) (r : Bool → Bool → Prop) (hR : ∀ x y, R x y ↔ ∀ j, j < 64 → r (sw_b x j) (sw_b y j)) (a : Nat → Int64) (p q : Nat) : (∀ k, k < 4 → R (a (p * 4 + k)) (a (q * 4 + k))) ↔ ∀ x, x < 256 → r (sw_T a p x) (sw_T a q x) := by
  constructor
  · intro h x hx
    exact (hR _ _).mp (h (x / 64) (by omega)) (x % 64) (by omega)
  · intro h k hk
    rw [hR]
    intro j hj
    have t := h (64 * k + j) (by omega)
    unfold sw_T at t
    rw [show (64 * k + j) / 64 = k by omega, show (64 * k + j) % 64 = j by omega] at t
    exact t
/-- the first x at or after the start with p, or the end -/
def sw_find (p : Nat → Bool) : Nat → Nat → Nat
  | 0, x => x
  | d + 1, x => if p x = true then x else sw_find p d (x + 1)
theorem sw_find_t {p : Nat → Bool} {d x : Nat} (h : p x = true) : sw_find p (d + 1) x = x := if_pos h
theorem sw_find_f {p : Nat → Bool} {d x : Nat} (h : p x = false) : sw_find p (d + 1) x = sw_find p d (x + 1) := if_neg (by rw [h]; decide)
theorem sw_find_le (p : Nat → Bool) : ∀ d x, x ≤ sw_find p d x ∧ sw_find p d x ≤ x + d := by
  intro d
  induction d with
  | zero => intro x; exact ⟨Nat.le_refl _, Nat.le_refl _⟩
  | succ d ih =>
    intro x
    cases h : p x with
    | true => rw [sw_find_t h]; omega
    | false => rw [sw_find_f h]; have := ih (x + 1); omega
def sw_all (p : Nat → Bool) : Nat → Nat → Bool
  | 0, _ => true
  | d + 1, x => if p x = true then sw_all p d (x + 1) else false
theorem sw_all_t {p : Nat → Bool} {d x : Nat} (h : p x = true) : sw_all p (d + 1) x = sw_all p d (x + 1) := if_pos h
theorem sw_all_f {p : Nat → Bool} {d x : Nat} (h : p x = false) : sw_all p (d + 1) x = false := if_neg (by rw [h]; decide)
theorem sw_all_i (p : Nat → Bool) : ∀ d x, sw_all p d x = true ↔ ∀ y, x ≤ y → y < x + d → p y = true := by
  intro d
  induction d with
  | zero => intro x; exact ⟨fun _ y h1 h2 => by omega, fun _ => rfl⟩
  | succ d ih =>
    intro x
    cases h : p x with
    | true =>
      rw [sw_all_t h, ih]
      constructor
      · intro g y h1 h2
        rcases Nat.eq_or_lt_of_le h1 with e | e
        · rw [← e]; exact h
        · exact g y e (by omega)
      · intro g y h1 h2
        exact g y (by omega) (by omega)
    | false =>
      rw [sw_all_f h]
      constructor
      · intro z; exact absurd z (by decide)
      · intro g
        rw [g x (Nat.le_refl x) (by omega)] at h
        exact absurd h (by decide)
theorem sw_all_0 (p : Nat → Bool) (d : Nat) : sw_all p d 0 = true ↔ ∀ y, y < d → p y = true := by
  rw [sw_all_i]
  exact ⟨fun h y hy => h y (Nat.zero_le y) (by omega), fun h y _ hy => h y (by omega)⟩
/-- four words against 256 values -/
theorem sw_w4b (f : Nat → Bool) (R : Int64 → Int64 → Prop) (g : Bool → Bool → Bool) (hR : ∀ x y, R x y ↔ ∀ j, j < 64 → g (sw_b x j) (sw_b y j) = true) (a : Nat → Int64) (p q : Nat) (hf : ∀ k, k < 4 → (f k = true ↔ R (a (p * 4 + k)) (a (q * 4 + k)))) : sw_all f 4 0 = sw_all (fun x => g (sw_T a p x) (sw_T a q x)) 256 0 := by
  rw [Bool.eq_iff_iff, sw_all_0, sw_all_0]
  have h := sw_w4 R (fun x y => g x y = true) hR a p q
  exact ⟨fun z => h.mp fun k hk => (hf k hk).mp (z k hk), fun z k hk => (hf k hk).mpr (h.mpr z k hk)⟩
/-- whether two wires hold the same -/
def sw_E (P : Nat → Nat → Bool) (p q : Nat) : Bool := sw_all (fun x => P p x == P q x) 256 0
theorem sw_E_r (P : Nat → Nat → Bool) (p : Nat) : sw_E P p p = true := (sw_all_0 _ _).mpr fun y _ => beq_self_eq_true _
theorem sw_E_s (P : Nat → Nat → Bool) (p q : Nat) : sw_E P p q = sw_E P q p := by
  rw [Bool.eq_iff_iff]
  unfold sw_E
  rw [sw_all_0, sw_all_0]
  constructor
  · intro h y hy
    have := h y hy
    rw [beq_iff_eq] at this ⊢
    exact this.symm
  · intro h y hy
    have := h y hy
    rw [beq_iff_eq] at this ⊢
    exact this.symm
theorem sw_E_f (P : Nat → Nat → Bool) (p q : Nat) : ∀ d x, x + d = 256 → (sw_find (fun x => P p x != P q x) d x = 256 ↔ sw_all (fun x => P p x == P q x) d x = true) := by
  intro d
  induction d with
  | zero => intro x hx; exact ⟨fun _ => rfl, fun _ => by show x = 256; omega⟩
  | succ d ih =>
    intro x hx
    cases h : (P p x == P q x) with
    | true =>
      have h2 : (fun x => P p x != P q x) x = false := by show (!(P p x == P q x)) = false; rw [h]; rfl
      rw [sw_find_f h2, sw_all_t (p := fun x => P p x == P q x) h]
      exact ih (x + 1) (by omega)
    | false =>
      have h2 : (fun x => P p x != P q x) x = true := by show (!(P p x == P q x)) = true; rw [h]; rfl
      rw [sw_find_t h2, sw_all_f (p := fun x => P p x == P q x) h]
      exact ⟨fun z => by omega, fun z => absurd z (by decide)⟩
theorem sw_E_256 (P : Nat → Nat → Bool) (p q : Nat) : sw_find (fun x => P p x != P q x) 256 0 = 256 ↔ sw_E P p q = true := sw_E_f P p q 256 0 rfl
/-- counting -/
def sw_cnt (p : Nat → Bool) : Nat → Nat → Nat → Nat
  | 0, _, s => s
  | d + 1, x, s => sw_cnt p d (x + 1) (if p x = true then s + 1 else s)
theorem sw_cnt_t {p : Nat → Bool} {d x s : Nat} (h : p x = true) : sw_cnt p (d + 1) x s = sw_cnt p d (x + 1) (s + 1) := congrArg (sw_cnt p d (x + 1)) (if_pos h)
theorem sw_cnt_f {p : Nat → Bool} {d x s : Nat} (h : p x = false) : sw_cnt p (d + 1) x s = sw_cnt p d (x + 1) s := congrArg (sw_cnt p d (x + 1)) (if_neg (by rw [h]; decide))
/-! gates -/
def sw_gw (kind : Nat) (a b c : Int64) : Int64 :=
  match kind with
  | 0 => a &&& b
  | 1 => a ||| b
  | 2 => a ^^^ b
  | 3 => (a &&& b) ^^^ (-1)
  | 4 => (a ||| b) ^^^ (-1)
  | 5 => (a ^^^ b) ^^^ (-1)
  | 6 => (a ^^^ (-1)) ||| b
  | 7 => (a &&& b) ||| ((a ^^^ (-1)) &&& c)
  | 8 => ((a &&& b) ||| (a &&& c)) ||| (b &&& c)
  | _ => (a ^^^ b) ^^^ c
def sw_gb (kind : Nat) (a b c : Bool) : Bool :=
  match kind with
  | 0 => a && b
  | 1 => a || b
  | 2 => a ^^ b
  | 3 => !(a && b)
  | 4 => !(a || b)
  | 5 => !(a ^^ b)
  | 6 => !a || b
  | 7 => (a && b) || (!a && c)
  | 8 => ((a && b) || (a && c)) || (b && c)
  | _ => (a ^^ b) ^^ c
theorem sw_gw_b (kind : Nat) (a b c : Int64) {j : Nat} (hj : j < 64) : sw_b (sw_gw kind a b c) j = sw_gb kind (sw_b a j) (sw_b b j) (sw_b c j) := by
  match kind with
  | 0 => exact sw_b_and a b j
  | 1 => exact sw_b_or a b j
  | 2 => exact sw_b_xor a b j
  | 3 => exact (sw_b_not _ hj).trans (congrArg _ (sw_b_and a b j))
  | 4 => exact (sw_b_not _ hj).trans (congrArg _ (sw_b_or a b j))
  | 5 => exact (sw_b_not _ hj).trans (congrArg _ (sw_b_xor a b j))
  | 6 => show sw_b ((a ^^^ (-1)) ||| b) j = (!sw_b a j || sw_b b j); rw [sw_b_or, sw_b_not _ hj]
  | 7 => show sw_b ((a &&& b) ||| ((a ^^^ (-1)) &&& c)) j = ((sw_b a j && sw_b b j) || (!sw_b a j && sw_b c j)); rw [sw_b_or, sw_b_and, sw_b_and, sw_b_not _ hj]
  | 8 => show sw_b (((a &&& b) ||| (a &&& c)) ||| (b &&& c)) j = (((sw_b a j && sw_b b j) || (sw_b a j && sw_b c j)) || (sw_b b j && sw_b c j)); rw [sw_b_or, sw_b_or, sw_b_and, sw_b_and, sw_b_and]
  | k + 9 => show sw_b ((a ^^^ b) ^^^ c) j = ((sw_b a j ^^ sw_b b j) ^^ sw_b c j); rw [sw_b_xor, sw_b_xor]
end
section
/-! indices, stores, closed tables over the eight inputs -/
theorem sw_ix (p k : Nat) : nI p * 4 + nI k = nI (p * 4 + k) := by rw [show (4 : Int32) = nI 4 from rfl, pk_mul, nI_add]
theorem sw_iy (p x : Nat) : 256 * nI p + nI x = nI (256 * p + x) := by rw [show (256 : Int32) = nI 256 from rfl, pk_mul, nI_add]
theorem sw_x6 {x : Nat} (hx : x < 256) : nI x >>> ((6 : Int32) &&& 31) = nI (x / 64) := pk_shrN (by omega) _ 6 (by decide)
theorem sw_x63 {x : Nat} (hx : x < 256) : nI x &&& 63 = nI (x % 64) := pk_andN (by omega) 6 (by decide)
def sw_putL (a : Nat → Int64) (m : Nat) (f : Nat → Int64) (k : Nat) : Nat → Int64 := fun j => if m * 4 ≤ j ∧ j < m * 4 + k then f (j - m * 4) else a j
theorem sw_putL_0 (a : Nat → Int64) (m : Nat) (f : Nat → Int64) : sw_putL a m f 0 = a := funext fun j => if_neg (by omega)
theorem sw_putL_s (a : Nat → Int64) (m : Nat) (f : Nat → Int64) (k : Nat) : vp_updL (sw_putL a m f k) (m * 4 + k) (f k) = sw_putL a m f (k + 1) := by
  funext j
  unfold vp_updL sw_putL
  by_cases e : j = m * 4 + k
  · rw [if_pos e, if_pos (by omega), show j - m * 4 = k by omega]
  · rw [if_neg e]
    by_cases h : m * 4 ≤ j ∧ j < m * 4 + k
    · rw [if_pos h, if_pos (by omega)]
    · rw [if_neg h, if_neg (by omega)]
theorem sw_putL_lo (a : Nat → Int64) {m p : Nat} (f : Nat → Int64) (k : Nat) {i : Nat} (hp : p < m) (hi : i < 4) : sw_putL a m f k (p * 4 + i) = a (p * 4 + i) := if_neg (by omega)
theorem sw_putL_hi (a : Nat → Int64) (m : Nat) (f : Nat → Int64) {k i : Nat} (hi : i < k) : sw_putL a m f k (m * 4 + i) = f i := (if_pos (by omega)).trans (by rw [Nat.add_sub_cancel_left])
def sw_putI (a : Nat → Int32) (m : Nat) (f : Nat → Int32) (k : Nat) : Nat → Int32 := fun j => if 256 * m ≤ j ∧ j < 256 * m + k then f (j - 256 * m) else a j
theorem sw_putI_0 (a : Nat → Int32) (m : Nat) (f : Nat → Int32) : sw_putI a m f 0 = a := funext fun j => if_neg (by omega)
theorem sw_putI_s (a : Nat → Int32) (m : Nat) (f : Nat → Int32) (k : Nat) : upd (sw_putI a m f k) (256 * m + k) (f k) = sw_putI a m f (k + 1) := by
  funext j
  unfold upd sw_putI
  by_cases e : j = 256 * m + k
  · rw [if_pos e, if_pos (by omega), show j - 256 * m = k by omega]
  · rw [if_neg e]
    by_cases h : 256 * m ≤ j ∧ j < 256 * m + k
    · rw [if_pos h, if_pos (by omega)]
    · rw [if_neg h, if_neg (by omega)]
theorem sw_putI_lo (a : Nat → Int32) {m p : Nat} (f : Nat → Int32) (k : Nat) {i : Nat} (hp : p < m) (hi : i < 256) : sw_putI a m f k (256 * p + i) = a (256 * p + i) := if_neg (by omega)
theorem sw_putI_hi (a : Nat → Int32) (m : Nat) (f : Nat → Int32) {k i : Nat} (hi : i < k) : sw_putI a m f k (256 * m + i) = f i := (if_pos (by omega)).trans (by rw [Nat.add_sub_cancel_left])
def sw_lo (x i : Nat) : Nat := if x.testBit i = true then x - 2 ^ i else x
def sw_hi (x i : Nat) : Nat := if x.testBit i = true then x else x + 2 ^ i
def sw_ex (x i j : Nat) : Nat := if x.testBit i = x.testBit j then x else (x ^^^ 2 ^ i) ^^^ 2 ^ j
theorem sw_t_shr : ∀ i, i < 8 → ∀ x, x < 256 → (nI x >>> (nI i &&& 31)) &&& 1 = sw_i (x.testBit i) := by decide +kernel
theorem sw_t_lo : ∀ i, i < 8 → ∀ x, x < 256 → nI x &&& (((1 : Int32) <<< (nI i &&& 31)) ^^^ (-1)) = nI (sw_lo x i) := by decide +kernel
theorem sw_t_hi : ∀ i, i < 8 → ∀ x, x < 256 → nI x ||| ((1 : Int32) <<< (nI i &&& 31)) = nI (sw_hi x i) := by decide +kernel
theorem sw_lo_lt : ∀ i, i < 8 → ∀ x, x < 256 → sw_lo x i < 256 ∧ sw_hi x i < 256 := by decide +kernel
theorem sw_lo_b : ∀ i, i < 8 → ∀ x, x < 256 → (sw_lo x i).testBit i = false ∧ sw_hi (sw_lo x i) i = sw_hi x i := by decide +kernel
theorem sw_lo_t : ∀ i, i < 8 → ∀ x, x < 256 → x.testBit i = true → sw_lo x i < x := by decide +kernel
theorem sw_ex_lt : ∀ i, i < 8 → ∀ j, j < 8 → ∀ x, x < 256 → sw_ex x i j < 256 := by decide +kernel
theorem sw_t_ex : ∀ i, i < 8 → ∀ j, j < 8 → ∀ x, x < 256 → x.testBit i ≠ x.testBit j → (nI x ^^^ ((1 : Int32) <<< (nI i &&& 31))) ^^^ ((1 : Int32) <<< (nI j &&& 31)) = nI (sw_ex x i j) := by decide +kernel
/-! what a rise of input i does: 1 a rise, 2 a fall -/
def sw_c (P : Nat → Bool) (i x : Nat) : Int32 := if P x = P (sw_hi x i) then 0 else if P (sw_hi x i) = true then 1 else 2
def sw_ch (P : Nat → Bool) (i : Nat) : Nat → Nat → Int32 → Int32
  | 0, _, s => s
  | d + 1, x, s => sw_ch P i d (x + 1) (if x.testBit i = true then s else s ||| sw_c P i x)
theorem sw_ch_t (P : Nat → Bool) {i d x : Nat} (s : Int32) (h : x.testBit i = true) : sw_ch P i (d + 1) x s = sw_ch P i d (x + 1) s := congrArg (sw_ch P i d (x + 1)) (if_pos h)
theorem sw_ch_f (P : Nat → Bool) {i d x : Nat} (s : Int32) (h : x.testBit i = false) : sw_ch P i (d + 1) x s = sw_ch P i d (x + 1) (s ||| sw_c P i x) := congrArg (sw_ch P i d (x + 1)) (if_neg (by rw [h]; decide))
def sw_seen (P : Nat → Bool) (i x : Nat) (s : Int32) : Prop := ∀ y, y < x → y.testBit i = false → s ||| sw_c P i y = s
theorem sw_seen_t {P : Nat → Bool} {i x : Nat} {s : Int32} (h : sw_seen P i x s) (hb : x.testBit i = true) : sw_seen P i (x + 1) s := by
  intro y hy e
  rcases Nat.lt_or_ge y x with z | z
  · exact h y z e
  · have q : y = x := by omega
    rw [q, hb] at e
    exact absurd e (by decide)
theorem sw_seen_f {P : Nat → Bool} {i x : Nat} {s : Int32} (h : sw_seen P i x s) : sw_seen P i (x + 1) (s ||| sw_c P i x) := by
  intro y hy e
  rcases Nat.lt_or_ge y x with z | z
  · rw [Int32.or_assoc, Int32.or_comm (sw_c P i x), ← Int32.or_assoc, h y z e]
  · have q : y = x := by omega
    rw [q, Int32.or_assoc, Int32.or_self]
theorem sw_t_yex : ∀ i, i < 8 → ∀ j, j < 8 → ∀ x, x < 256 → (((nI x &&& (((1 : Int32) <<< (nI i &&& 31)) ^^^ (-1))) &&& (((1 : Int32) <<< (nI j &&& 31)) ^^^ (-1))) ||| (sw_i (x.testBit j) <<< (nI i &&& 31))) ||| (sw_i (x.testBit i) <<< (nI j &&& 31)) = nI (sw_ex x i j) := by decide +kernel
end
section
/-! the start: inputs written bit by bit -/
theorem sw_t_one : ∀ k, k < 64 → ∀ j, j < 64 → sw_b ((1 : Int64) <<< ((nI k).toInt64 &&& 63)) j = decide (j = k) := by decide +kernel
theorem sw_t_zero : ∀ k, k < 64 → (0 : Int64) <<< ((nI k).toInt64 &&& 63) = 0 := by decide +kernel
theorem sw_ini_or (w : Int64) (v : Bool) {k j : Nat} (hk : k < 64) (hj : j < 64) : sw_b (w ||| ((sw_i v).toInt64 <<< ((nI k).toInt64 &&& 63))) j = (sw_b w j || (v && decide (j = k))) := by
  rw [sw_b_or]
  cases v with
  | true => rw [show (sw_i true).toInt64 = 1 from by decide, sw_t_one k hk j hj, Bool.true_and]
  | false => rw [show (sw_i false).toInt64 = 0 from by decide, sw_t_zero k hk, sw_b_0, Bool.false_and]
def sw_I (i x : Nat) (a : Nat → Int64) : Prop := ∀ w y, w < 8 → y < 256 → sw_T a w y = (decide (w < i ∨ (w = i ∧ y < x)) && y.testBit w)
theorem sw_I_0 : sw_I 0 0 (fun _ => 0) := by
  intro w y hw hy
  rw [decide_eq_false (by omega), Bool.false_and]
  exact sw_b_0 _
theorem sw_I_n {i : Nat} {a : Nat → Int64} (h : sw_I i 256 a) : sw_I (i + 1) 0 a := by
  intro w y hw hy
  rw [h w y hw hy]
  congr 1
  exact decide_eq_decide.mpr (by omega)
theorem sw_I_s {i x : Nat} {a : Nat → Int64} (hi : i < 8) (hx : x < 256) (h : sw_I i x a) : sw_I i (x + 1) (vp_updL a (i * 4 + x / 64) (a (i * 4 + x / 64) ||| ((sw_i (x.testBit i)).toInt64 <<< ((nI (x % 64)).toInt64 &&& 63)))) := by
  intro w y hw hy
  by_cases e : w * 4 + y / 64 = i * 4 + x / 64
  · have e1 : w = i := by omega
    have e2 : y / 64 = x / 64 := by omega
    subst e1
    unfold sw_T
    rw [e2, pk_uLs, sw_ini_or _ _ (by omega) (by omega)]
    have t := h w y hw hy
    unfold sw_T at t
    rw [e2] at t
    rw [t]
    by_cases q : y = x
    · subst q
      rw [decide_eq_false (by omega), decide_eq_true (by omega), decide_eq_true (by omega), Bool.false_and, Bool.false_or, Bool.and_true, Bool.true_and]
    · rw [decide_eq_false (show ¬ y % 64 = x % 64 by omega), Bool.and_false, Bool.or_false]
      congr 1
      exact decide_eq_decide.mpr (by omega)
  · have t : sw_T (vp_updL a (i * 4 + x / 64) (a (i * 4 + x / 64) ||| ((sw_i (x.testBit i)).toInt64 <<< ((nI (x % 64)).toInt64 &&& 63)))) w y = sw_T a w y := by
      unfold sw_T
      rw [pk_uLn e]
    rw [t, h w y hw hy]
    congr 1
    exact decide_eq_decide.mpr (by omega)
end
section
/-! wires, inputs, one value of a wire on either side -/
theorem sw_nb (b : Bool) : narrow .boolean (.int (sw_i b)) = .int (sw_i b) := by cases b <;> rfl
theorem sw_3 (x : Int32) {n : Nat} (hn : n < 2 ^ 31) : (x < 0 ∨ nI n ≤ x) ∨ ∃ j : Nat, j < n ∧ x = nI j := by
  rcases pk_ix x hn with h | h | h
  · exact Or.inl (Or.inl h)
  · exact Or.inl (Or.inr h)
  · exact Or.inr h
theorem sw_isX_n {n : Int32} {a : Nat → Int64} {x : Int32} {post : Int32 → Prop} (h : x < 0 ∨ n ≤ x) (p : post 0) : wpX_isWire post (n, a) x := by
  rcases h with h | h
  · exact br_t h p
  · exact br_c (fun _ => p) (fun _ => br_t h p)
theorem sw_isX_y {n j : Nat} {a : Nat → Int64} {post : Int32 → Prop} (hn : n ≤ 40) (h : j < n) (p : post 1) : wpX_isWire post (nI n, a) (nI j) := br_f (nI_pos (by omega)) (br_f (nI_ge h (by omega)) p)
theorem sw_isY_n {n : Int32} {a : Nat → Int32} {x : Int32} {post : Int32 → Prop} (h : x < 0 ∨ n ≤ x) (p : post 0) : wpY_is post (n, a) x := by
  rcases h with h | h
  · exact br_t h p
  · exact br_c (fun _ => p) (fun _ => br_t h p)
theorem sw_isY_y {n j : Nat} {a : Nat → Int32} {post : Int32 → Prop} (hn : n ≤ 40) (h : j < n) (p : post 1) : wpY_is post (nI n, a) (nI j) := br_f (nI_pos (by omega)) (br_f (nI_ge h (by omega)) p)
theorem sw_in_n {x : Int32} {post : Int32 → Prop} (h : x < 0 ∨ nI 8 ≤ x) (p : post 0) : wpX_isInput post x := by
  rcases h with h | h
  · exact br_t h p
  · exact br_c (fun _ => p) (fun _ => br_t h p)
theorem sw_in_y {j : Nat} {post : Int32 → Prop} (h : j < 8) (p : post 1) : wpX_isInput post (nI j) := br_f (nI_pos (by omega)) (br_f (nI_ge (b := 8) h (by decide)) p)
theorem sw_1n0 : ¬ (1 : Int32) = 0 := by decide
theorem sw_bitOf {n : Int32} {a : Nat → Int64} {p x : Nat} {post : Int32 → Prop} (hp : p < 40) (hx : x < 256) (h : post (sw_i (sw_T a p x))) : wpX_bitOf post (n, a) (nI p) (nI x) := by
  have e : nI p * 4 + (nI x >>> ((6 : Int32) &&& 31)) = nI (p * 4 + x / 64) := by rw [sw_x6 hx, sw_ix]
  unfold wpX_bitOf
  dsimp only
  rw [e, sw_x63 hx, nI_clamp (by omega), sw_bit _ (by omega)]
  exact ⟨vp_in_nI (by omega) (by omega), h⟩
/-- Y's table holds the picture P for the wires below n -/
def sw_H (n : Nat) (t : Nat → Int32) (P : Nat → Nat → Bool) : Prop := ∀ p x, p < n → x < 256 → t (256 * p + x) = sw_i (P p x)
theorem sw_at {n : Int32} {t : Nat → Int32} {p x : Nat} {post : Int32 → Prop} (b : Bool) (hp : p < 40) (hx : x < 256) (ht : t (256 * p + x) = sw_i b) (h : post (sw_i b)) : wpY_at post (n, t) (nI p) (nI x) := by
  unfold wpY_at
  dsimp only
  rw [sw_iy, nI_clamp (by omega), ht]
  exact ⟨vp_in_nI (by omega) (by omega), sw_nb b, h⟩
theorem sw_le {k : Nat} (c : Nat) (h : c ≤ k) (hk : k < 2 ^ 31) : nI c ≤ nI k := nI_le h hk
theorem sw_nle {k : Nat} (c : Nat) (h : k < c) (hc : c < 2 ^ 31) : ¬ nI c ≤ nI k := nI_ge h hc
end
section
/-! the loops of the component, each against the picture -/
theorem sw_same_l {n : Int32} {a : Nat → Int64} {p q : Nat} {post : Int32 → Prop} (hp : p < 40) (hq : q < 40) : ∀ d k, k + d = 4 → post (sw_i (sw_all (fun k => decide (a (p * 4 + k) = a (q * 4 + k))) d k)) → wX_sameWords_2 post (nI p) (nI q) n a (d + 1) (nI k) := by
  intro d
  induction d with
  | zero =>
    intro k hk h
    exact br_t (sw_le 4 (by omega) (by omega)) h
  | succ d ih =>
    intro k hk h
    refine br_f (sw_nle 4 (by omega) (by decide)) ⟨pk_in (p * 4 + k) 160 (by omega) (sw_ix p k), pk_in (q * 4 + k) 160 (by omega) (sw_ix q k), ?_⟩
    rw [sw_ix, sw_ix, nI_clamp (by omega), nI_clamp (by omega)]
    by_cases e : a (p * 4 + k) = a (q * 4 + k)
    · rw [sw_all_t (decide_eq_true e)] at h
      exact br_t e (nm_r (nI_1 k) (ih (k + 1) (by omega) h))
    · rw [sw_all_f (decide_eq_false e)] at h
      exact br_f e h
theorem sw_same_e (a : Nat → Int64) (p q : Nat) : sw_all (fun k => decide (a (p * 4 + k) = a (q * 4 + k))) 4 0 = sw_all (fun x => sw_T a p x == sw_T a q x) 256 0 :=
  sw_w4b (fun k => decide (a (p * 4 + k) = a (q * 4 + k))) (fun A B => A = B) (fun A B => A == B) (by
    intro x y
    rw [sw_eqw]
    constructor
    · intro h j hj
      have z := h j hj
      revert z
      cases sw_b x j <;> cases sw_b y j <;> decide
    · intro h j hj
      have z := h j hj
      revert z
      cases sw_b x j <;> cases sw_b y j <;> decide) a p q (fun k _ => decide_eq_true_iff)
theorem sw_opp_l {n : Int32} {a : Nat → Int64} {p q : Nat} {post : Int32 → Prop} (hp : p < 40) (hq : q < 40) : ∀ d k, k + d = 4 → post (sw_i (sw_all (fun k => decide (a (p * 4 + k) = a (q * 4 + k) ^^^ (-1))) d k)) → wX_opposite_20 post (nI p) (nI q) n a (d + 1) (nI k) := by
  intro d
  induction d with
  | zero =>
    intro k hk h
    exact br_t (sw_le 4 (by omega) (by omega)) h
  | succ d ih =>
    intro k hk h
    refine br_f (sw_nle 4 (by omega) (by decide)) ⟨pk_in (p * 4 + k) 160 (by omega) (sw_ix p k), pk_in (q * 4 + k) 160 (by omega) (sw_ix q k), ?_⟩
    rw [sw_ix, sw_ix, nI_clamp (by omega), nI_clamp (by omega)]
    by_cases e : a (p * 4 + k) = a (q * 4 + k) ^^^ (-1)
    · rw [sw_all_t (decide_eq_true e)] at h
      exact br_t e (nm_r (nI_1 k) (ih (k + 1) (by omega) h))
    · rw [sw_all_f (decide_eq_false e)] at h
      exact br_f e h
theorem sw_opp_e (a : Nat → Int64) (p q : Nat) : sw_all (fun k => decide (a (p * 4 + k) = a (q * 4 + k) ^^^ (-1))) 4 0 = sw_all (fun x => sw_T a p x != sw_T a q x) 256 0 :=
  sw_w4b (fun k => decide (a (p * 4 + k) = a (q * 4 + k) ^^^ (-1))) (fun A B => A = B ^^^ (-1)) (fun A B => A != B) (by
    intro x y
    rw [sw_opw]
    constructor
    · intro h j hj
      have z := h j hj
      revert z
      cases sw_b x j <;> cases sw_b y j <;> decide
    · intro h j hj
      have z := h j hj
      revert z
      cases sw_b x j <;> cases sw_b y j <;> decide) a p q (fun k _ => decide_eq_true_iff)
theorem sw_imp_l {n : Int32} {a : Nat → Int64} {p q : Nat} {post : Int32 → Prop} (hp : p < 40) (hq : q < 40) : ∀ d k, k + d = 4 → post (sw_i (sw_all (fun k => decide (a (p * 4 + k) &&& (a (q * 4 + k) ^^^ (-1)) = 0)) d k)) → wX_implies_20 post (nI p) (nI q) n a (d + 1) (nI k) := by
  intro d
  induction d with
  | zero =>
    intro k hk h
    exact br_t (sw_le 4 (by omega) (by omega)) h
  | succ d ih =>
    intro k hk h
    refine br_f (sw_nle 4 (by omega) (by decide)) ⟨pk_in (p * 4 + k) 160 (by omega) (sw_ix p k), pk_in (q * 4 + k) 160 (by omega) (sw_ix q k), ?_⟩
    rw [sw_ix, sw_ix, nI_clamp (by omega), nI_clamp (by omega)]
    by_cases e : a (p * 4 + k) &&& (a (q * 4 + k) ^^^ (-1)) = 0
    · rw [sw_all_t (decide_eq_true e)] at h
      exact br_t e (nm_r (nI_1 k) (ih (k + 1) (by omega) h))
    · rw [sw_all_f (decide_eq_false e)] at h
      exact br_f e h
theorem sw_imp_e (a : Nat → Int64) (p q : Nat) : sw_all (fun k => decide (a (p * 4 + k) &&& (a (q * 4 + k) ^^^ (-1)) = 0)) 4 0 = sw_all (fun x => !sw_T a p x || sw_T a q x) 256 0 :=
  sw_w4b (fun k => decide (a (p * 4 + k) &&& (a (q * 4 + k) ^^^ (-1)) = 0)) (fun A B => A &&& (B ^^^ (-1)) = 0) (fun A B => !A || B) sw_imw a p q (fun k _ => decide_eq_true_iff)
theorem sw_same {n : Int32} {a : Nat → Int64} {p q : Nat} {post : Int32 → Prop} (hp : p < 40) (hq : q < 40) (h : post (sw_i (sw_E (sw_T a) p q))) : wpX_sameWords post (n, a) (nI p) (nI q) :=
  ⟨5, sw_same_l hp hq 4 0 rfl (by rw [sw_same_e]; exact h)⟩
theorem sw_ones_l {n : Int32} {a : Nat → Int64} {p : Nat} {post : Int32 → Prop} (hp : p < 40) : ∀ d x s, x + d = 256 → post (nI (sw_cnt (sw_T a p) d x s)) → wX_onesOf_4 post (nI p) n a (d + 1) (nI s) (nI x) := by
  intro d
  induction d with
  | zero =>
    intro x s hx h
    exact br_t (sw_le 256 (by omega) (by omega)) h
  | succ d ih =>
    intro x s hx h
    refine br_f (sw_nle 256 (by omega) (by decide)) (sw_bitOf hp (by omega) ?_)
    cases e : sw_T a p x with
    | true =>
      rw [sw_cnt_t e] at h
      exact nm_r (nI_1 s) (nm_r (nI_1 x) (ih (x + 1) (s + 1) (by omega) h))
    | false =>
      rw [sw_cnt_f e] at h
      exact nm_r (nI_add s 0) (nm_r (nI_1 x) (ih (x + 1) s (by omega) h))
theorem sw_ones {n : Int32} {a : Nat → Int64} {p : Nat} {post : Int32 → Prop} (hp : p < 40) (h : post (nI (sw_cnt (sw_T a p) 256 0 0))) : wpX_onesOf post (n, a) (nI p) := ⟨257, sw_ones_l hp 256 0 0 rfl h⟩
/-- a scan's answer: the place, or NONE -/
def sw_or3 (x : Nat) : Int32 := if x < 256 then nI x else -3
theorem sw_or3_t {x : Nat} (h : x < 256) : sw_or3 x = nI x := if_pos h
theorem sw_wit_l {n : Int32} {a : Nat → Int64} {p : Nat} {post : Int32 → Prop} (hp : p < 40) : ∀ d x, x + d = 256 → post (sw_or3 (sw_find (sw_T a p) d x)) → wX_witness_12 post (nI p) n a (d + 1) (nI x) := by
  intro d
  induction d with
  | zero =>
    intro x hx h
    have e : sw_or3 (sw_find (sw_T a p) 0 x) = -3 := if_neg (by show ¬ x < 256; omega)
    rw [e] at h
    exact br_t (sw_le 256 (by omega) (by omega)) h
  | succ d ih =>
    intro x hx h
    refine br_f (sw_nle 256 (by omega) (by decide)) (sw_bitOf hp (by omega) ?_)
    cases e : sw_T a p x with
    | true =>
      rw [sw_find_t e, sw_or3_t (by omega)] at h
      exact br_t rfl h
    | false =>
      rw [sw_find_f e] at h
      exact br_f (by decide) (nm_r (nI_1 x) (ih (x + 1) (by omega) h))
theorem sw_dif_l {n : Int32} {a : Nat → Int64} {p q : Nat} {post : Int32 → Prop} (hp : p < 40) (hq : q < 40) : ∀ d x, x + d = 256 → post (sw_or3 (sw_find (fun x => sw_T a p x != sw_T a q x) d x)) → wX_differ_20 post (nI p) (nI q) n a (d + 1) (nI x) := by
  intro d
  induction d with
  | zero =>
    intro x hx h
    have e : sw_or3 (sw_find (fun x => sw_T a p x != sw_T a q x) 0 x) = -3 := if_neg (by show ¬ x < 256; omega)
    rw [e] at h
    exact br_t (sw_le 256 (by omega) (by omega)) h
  | succ d ih =>
    intro x hx h
    refine br_f (sw_nle 256 (by omega) (by decide)) (sw_bitOf hp (by omega) (sw_bitOf hq (by omega) ?_))
    by_cases e : sw_T a p x = sw_T a q x
    · rw [sw_find_f (by show (sw_T a p x != sw_T a q x) = false; rw [e]; exact bne_self_eq_false _)] at h
      exact br_t (by rw [e]) (nm_r (nI_1 x) (ih (x + 1) (by omega) h))
    · rw [sw_find_t (by show (sw_T a p x != sw_T a q x) = true; exact bne_iff_ne.mpr e), sw_or3_t (by omega)] at h
      exact br_f (fun z => e ((sw_i_e _ _).mp z)) h
theorem sw_chg_l {n : Int32} {a : Nat → Int64} {p i : Nat} {post : Int32 → Prop} (hp : p < 40) (hi : i < 8) : ∀ d x s, x + d = 256 → post (sw_ch (sw_T a p) i d x s) → wX_changesBy_5 post (nI p) (nI i) n a (d + 1) s (nI x) := by
  intro d
  induction d with
  | zero =>
    intro x s hx h
    exact br_t (sw_le 256 (by omega) (by omega)) h
  | succ d ih =>
    intro x s hx h
    refine br_f (sw_nle 256 (by omega) (by decide)) ?_
    cases e : x.testBit i with
    | true =>
      rw [sw_ch_t _ _ e] at h
      refine br_f ?_ (nm_r (nI_1 x) (ih (x + 1) s (by omega) h))
      rw [sw_t_shr i hi x (by omega), e]
      decide
    | false =>
      rw [sw_ch_f _ _ e] at h
      refine br_t ?_ (sw_bitOf hp (by omega) ?_)
      · rw [sw_t_shr i hi x (by omega), e]
        decide
      · rw [sw_t_hi i hi x (by omega)]
        refine sw_bitOf hp (sw_lo_lt i hi x (by omega)).2 ?_
        unfold sw_c at h
        cases e1 : sw_T a p x <;> cases e2 : sw_T a p (sw_hi x i) <;> rw [e1, e2] at h
        · rw [if_pos rfl, Int32.or_zero] at h
          exact br_t (by decide) (br_t (by decide) (nm_r (nI_1 x) (ih (x + 1) s (by omega) h)))
        · rw [if_neg (by decide), if_pos rfl] at h
          exact br_f (by decide) (nm_e (nm_r (nI_1 x) (ih (x + 1) _ (by omega) h)))
        · rw [if_neg (by decide), if_neg (by decide)] at h
          exact br_t (by decide) (br_f (by decide) (nm_e (nm_r (nI_1 x) (ih (x + 1) _ (by omega) h))))
        · rw [if_pos rfl, Int32.or_zero] at h
          exact br_t (by decide) (br_t (by decide) (nm_r (nI_1 x) (ih (x + 1) s (by omega) h)))
theorem sw_chg {n : Int32} {a : Nat → Int64} {p i : Nat} {post : Int32 → Prop} (hp : p < 40) (hi : i < 8) (h : post (sw_ch (sw_T a p) i 256 0 0)) : wpX_changesBy post (n, a) (nI p) (nI i) := ⟨257, sw_chg_l hp hi 256 0 0 rfl h⟩
/-- the inputs on which a wire depends -/
def sw_dep (P : Nat → Bool) : Nat → Nat → Int32 → Int32
  | 0, _, s => s
  | d + 1, i, s => sw_dep P d (i + 1) (if sw_ch P i 256 0 0 = 0 then s else s ||| ((1 : Int32) <<< (nI i &&& 31)))
theorem sw_dep_t (P : Nat → Bool) {d i : Nat} {s : Int32} (h : sw_ch P i 256 0 0 = 0) : sw_dep P (d + 1) i s = sw_dep P d (i + 1) s := congrArg (sw_dep P d (i + 1)) (if_pos h)
theorem sw_dep_f (P : Nat → Bool) {d i : Nat} {s : Int32} (h : ¬ sw_ch P i 256 0 0 = 0) : sw_dep P (d + 1) i s = sw_dep P d (i + 1) (s ||| ((1 : Int32) <<< (nI i &&& 31))) := congrArg (sw_dep P d (i + 1)) (if_neg h)
theorem sw_dep_l {n : Int32} {a : Nat → Int64} {p : Nat} {post : Int32 → Prop} (hp : p < 40) : ∀ d i s, i + d = 8 → post (sw_dep (sw_T a p) d i s) → wX_depends_14 post (nI p) n a (d + 1) s (nI i) := by
  intro d
  induction d with
  | zero =>
    intro i s hi h
    exact br_t (sw_le 8 (by omega) (by omega)) h
  | succ d ih =>
    intro i s hi h
    refine br_f (sw_nle 8 (by omega) (by decide)) (sw_chg hp (by omega) ?_)
    by_cases e : sw_ch (sw_T a p) i 256 0 0 = 0
    · rw [sw_dep_t _ e] at h
      exact br_t e (nm_r (nI_1 i) (ih (i + 1) s (by omega) h))
    · rw [sw_dep_f _ e] at h
      exact br_f e (nm_e (nm_r (nI_1 i) (ih (i + 1) _ (by omega) h)))
/-- the least wire that holds the same -/
def sw_L (P : Nat → Nat → Bool) (p : Nat) : Nat := sw_find (fun w => sw_E P w p) p 0
theorem sw_lea_l {n : Int32} {a : Nat → Int64} {p : Nat} {post : Int32 → Prop} (hp : p < 40) : ∀ d w, w + d = p → post (nI (sw_find (fun w => sw_E (sw_T a) w p) d w)) → wX_leastEqual_2 post (nI p) n a (d + 1) (nI w) := by
  intro d
  induction d with
  | zero =>
    intro w hw h
    have q : w = p := by omega
    subst q
    exact br_t (sw_le w (by omega) (by omega)) h
  | succ d ih =>
    intro w hw h
    refine br_f (sw_nle p (by omega) (by omega)) (sw_same (by omega) hp ?_)
    cases e : sw_E (sw_T a) w p with
    | true =>
      rw [sw_find_t (p := fun w => sw_E (sw_T a) w p) e] at h
      exact br_f sw_1n0 h
    | false =>
      rw [sw_find_f (p := fun w => sw_E (sw_T a) w p) e] at h
      exact br_t rfl (nm_r (nI_1 w) (ih (w + 1) (by omega) h))
theorem sw_lea {n : Int32} {a : Nat → Int64} {p : Nat} {post : Int32 → Prop} (hp : p < 40) (h : post (nI (sw_L (sw_T a) p))) : wpX_leastEqual post (n, a) (nI p) := ⟨p + 1, sw_lea_l hp p 0 (by omega) h⟩
theorem sw_L_le (P : Nat → Nat → Bool) (p : Nat) : sw_L P p ≤ p := by
  have h := (sw_find_le (fun w => sw_E P w p) p 0).2
  unfold sw_L
  omega
theorem sw_grp_l {n : Nat} {a : Nat → Int64} {post : Int32 → Prop} (hn : n ≤ 40) : ∀ d w s, w + d = n → post (nI (sw_cnt (fun w => decide (sw_L (sw_T a) w = w)) d w s)) → wX_groups_4 post (nI n) a (d + 1) (nI s) (nI w) := by
  intro d
  induction d with
  | zero =>
    intro w s hw h
    exact br_t (sw_le n (by omega) (by omega)) h
  | succ d ih =>
    intro w s hw h
    refine br_f (sw_nle n (by omega) (by omega)) (sw_lea (by omega) ?_)
    have hL := sw_L_le (sw_T a) w
    by_cases e : sw_L (sw_T a) w = w
    · rw [sw_cnt_t (p := fun w => decide (sw_L (sw_T a) w = w)) (decide_eq_true e)] at h
      exact br_t (by rw [e]) (nm_r (nI_1 s) (nm_r (nI_1 w) (ih (w + 1) (s + 1) (by omega) h)))
    · rw [sw_cnt_f (p := fun w => decide (sw_L (sw_T a) w = w)) (decide_eq_false e)] at h
      exact br_f (fun z => e ((nI_eq (by omega) (by omega)).mp z)) (nm_r (nI_1 w) (ih (w + 1) s (by omega) h))
theorem sw_ex_e {x i j : Nat} (h : x.testBit i = x.testBit j) : sw_ex x i j = x := if_pos h
theorem sw_sym_l {n : Int32} {a : Nat → Int64} {p i j : Nat} {post : Int32 → Prop} (hp : p < 40) (hi : i < 8) (hj : j < 8) : ∀ d x, x + d = 256 → post (sw_i (sw_all (fun x => sw_T a p x == sw_T a p (sw_ex x i j)) d x)) → wX_symmetric_27 post (nI p) (nI i) (nI j) n a (d + 1) (nI x) := by
  intro d
  induction d with
  | zero =>
    intro x hx h
    exact br_t (sw_le 256 (by omega) (by omega)) h
  | succ d ih =>
    intro x hx h
    refine br_f (sw_nle 256 (by omega) (by decide)) ?_
    rw [sw_t_shr i hi x (by omega), sw_t_shr j hj x (by omega)]
    by_cases e : x.testBit i = x.testBit j
    · rw [sw_all_t (by show (sw_T a p x == sw_T a p (sw_ex x i j)) = true; rw [sw_ex_e e]; exact beq_self_eq_true _)] at h
      exact br_t (by rw [e]) (br_t rfl (nm_r (nI_1 x) (ih (x + 1) (by omega) h)))
    · refine br_f (fun z => e ((sw_i_e _ _).mp z)) (br_f sw_1n0 (sw_bitOf hp (by omega) ?_))
      rw [sw_t_ex i hi j hj x (by omega) e]
      refine sw_bitOf hp (sw_ex_lt i hi j hj x (by omega)) ?_
      by_cases q : sw_T a p x = sw_T a p (sw_ex x i j)
      · rw [sw_all_t (by show (sw_T a p x == sw_T a p (sw_ex x i j)) = true; exact beq_iff_eq.mpr q)] at h
        exact br_t (by rw [q]) (nm_r (nI_1 x) (ih (x + 1) (by omega) h))
      · rw [sw_all_f (by show (sw_T a p x == sw_T a p (sw_ex x i j)) = false; exact beq_eq_false_iff_ne.mpr q)] at h
        exact br_f (fun z => q ((sw_i_e _ _).mp z)) h
end
section
/-! the loops of the reference, each against the picture P -/
theorem sw_apt_l {n p q : Nat} {t : Nat → Int32} {P : Nat → Nat → Bool} {post : Int32 → Prop} (hn : n ≤ 40) (H : sw_H n t P) (hp : p < n) (hq : q < n) : ∀ d x, x + d = 256 → post (nI (sw_find (fun x => P p x != P q x) d x)) → wY_apart_2 post (nI p) (nI q) (nI n) t (d + 1) (nI x) := by
  intro d
  induction d with
  | zero =>
    intro x hx h
    exact br_t (sw_le 256 (by omega) (by omega)) h
  | succ d ih =>
    intro x hx h
    refine br_f (sw_nle 256 (by omega) (by decide)) (sw_at _ (by omega) (by omega) (H p x hp (by omega)) (sw_at _ (by omega) (by omega) (H q x hq (by omega)) ?_))
    by_cases e : P p x = P q x
    · rw [sw_find_f (by show (P p x != P q x) = false; rw [e]; exact bne_self_eq_false _)] at h
      exact br_t (by rw [e]) (nm_r (nI_1 x) (ih (x + 1) (by omega) h))
    · rw [sw_find_t (by show (P p x != P q x) = true; exact bne_iff_ne.mpr e)] at h
      exact br_f (fun z => e ((sw_i_e _ _).mp z)) h
theorem sw_apt {n p q : Nat} {t : Nat → Int32} {P : Nat → Nat → Bool} {post : Int32 → Prop} (hn : n ≤ 40) (H : sw_H n t P) (hp : p < n) (hq : q < n) (h : post (nI (sw_find (fun x => P p x != P q x) 256 0))) : wpY_apart post (nI n, t) (nI p) (nI q) := ⟨257, sw_apt_l hn H hp hq 256 0 rfl h⟩
/-- apart's answer is 256 just where the wires hold the same -/
theorem sw_apt_256 {n p q : Nat} {t : Nat → Int32} {P : Nat → Nat → Bool} {A B : Prop} (hn : n ≤ 40) (H : sw_H n t P) (hp : p < n) (hq : q < n) (f : sw_E P p q = true → A) (g : sw_E P p q = false → B) : wpY_apart (fun r => (r = 256 → A) ∧ (¬ r = 256 → B)) (nI n, t) (nI p) (nI q) := by
  refine sw_apt hn H hp hq ?_
  have hle := (sw_find_le (fun x => P p x != P q x) 256 0).2
  cases e : sw_E P p q with
  | true =>
    refine br_t ?_ (f e)
    rw [(sw_E_256 P p q).mpr e]
    rfl
  | false =>
    refine br_f (fun z => ?_) (g e)
    have z2 : sw_find (fun x => P p x != P q x) 256 0 = 256 := (nI_eq (b := 256) (by omega) (by decide)).mp z
    rw [(sw_E_256 P p q).mp z2] at e
    exact absurd e (by decide)
theorem sw_yopp_0 {p q n : Int32} {t : Nat → Int32} {post : Int32 → Prop} (m : Nat) (x : Int32) (h : post 0) : wY_opposite_25 post p q n t (m + 1) 0 x := br_c (fun _ => ⟨sw_nb false, h⟩) (fun _ => br_t rfl ⟨sw_nb false, h⟩)
theorem sw_yopp_l {n p q : Nat} {t : Nat → Int32} {P : Nat → Nat → Bool} {post : Int32 → Prop} (hn : n ≤ 40) (H : sw_H n t P) (hp : p < n) (hq : q < n) : ∀ d x, x + d = 256 → post (sw_i (sw_all (fun x => P p x != P q x) d x)) → wY_opposite_25 post (nI p) (nI q) (nI n) t (d + 1) 1 (nI x) := by
  intro d
  induction d with
  | zero =>
    intro x hx h
    exact br_t (sw_le 256 (by omega) (by omega)) ⟨sw_nb true, h⟩
  | succ d ih =>
    intro x hx h
    refine br_f (sw_nle 256 (by omega) (by decide)) (br_f sw_1n0 (sw_at _ (by omega) (by omega) (H p x hp (by omega)) (sw_at _ (by omega) (by omega) (H q x hq (by omega)) ?_)))
    by_cases e : P p x = P q x
    · rw [sw_all_f (by show (P p x != P q x) = false; rw [e]; exact bne_self_eq_false _)] at h
      exact br_t (by rw [e]) (nm_r (nI_1 x) (sw_yopp_0 d _ h))
    · rw [sw_all_t (by show (P p x != P q x) = true; exact bne_iff_ne.mpr e)] at h
      exact br_f (fun z => e ((sw_i_e _ _).mp z)) (nm_r (nI_1 x) (ih (x + 1) (by omega) h))
theorem sw_yimp_0 {p q n : Int32} {t : Nat → Int32} {post : Int32 → Prop} (m : Nat) (x : Int32) (h : post 0) : wY_implies_25 post p q n t (m + 1) 0 x := br_c (fun _ => ⟨sw_nb false, h⟩) (fun _ => br_t rfl ⟨sw_nb false, h⟩)
theorem sw_yimp_l {n p q : Nat} {t : Nat → Int32} {P : Nat → Nat → Bool} {post : Int32 → Prop} (hn : n ≤ 40) (H : sw_H n t P) (hp : p < n) (hq : q < n) : ∀ d x, x + d = 256 → post (sw_i (sw_all (fun x => !P p x || P q x) d x)) → wY_implies_25 post (nI p) (nI q) (nI n) t (d + 1) 1 (nI x) := by
  intro d
  induction d with
  | zero =>
    intro x hx h
    exact br_t (sw_le 256 (by omega) (by omega)) ⟨sw_nb true, h⟩
  | succ d ih =>
    intro x hx h
    refine br_f (sw_nle 256 (by omega) (by decide)) (br_f sw_1n0 (sw_at _ (by omega) (by omega) (H p x hp (by omega)) ?_))
    cases e1 : P p x with
    | false =>
      rw [sw_all_t (by show (!P p x || P q x) = true; rw [e1]; rfl)] at h
      exact br_t rfl (nm_r (nI_1 x) (ih (x + 1) (by omega) h))
    | true =>
      refine br_f sw_1n0 (sw_at _ (by omega) (by omega) (H q x hq (by omega)) ?_)
      cases e2 : P q x with
      | false =>
        rw [sw_all_f (by show (!P p x || P q x) = false; rw [e1, e2]; rfl)] at h
        exact br_t rfl (nm_r (nI_1 x) (sw_yimp_0 d _ h))
      | true =>
        rw [sw_all_t (by show (!P p x || P q x) = true; rw [e1, e2]; rfl)] at h
        exact br_f sw_1n0 (nm_r (nI_1 x) (ih (x + 1) (by omega) h))
theorem sw_yone_l {n p : Nat} {t : Nat → Int32} {P : Nat → Nat → Bool} {post : Int32 → Prop} (hn : n ≤ 40) (H : sw_H n t P) (hp : p < n) : ∀ d x s, x + d = 256 → post (nI (sw_cnt (P p) d x s)) → wY_ones_4 post (nI p) (nI n) t (d + 1) (nI s) (nI x) := by
  intro d
  induction d with
  | zero =>
    intro x s hx h
    exact br_t (sw_le 256 (by omega) (by omega)) h
  | succ d ih =>
    intro x s hx h
    refine br_f (sw_nle 256 (by omega) (by decide)) (sw_at _ (by omega) (by omega) (H p x hp (by omega)) ?_)
    cases e : P p x with
    | true =>
      rw [sw_cnt_t e] at h
      exact br_f sw_1n0 (nm_r (nI_1 s) (nm_r (nI_1 x) (ih (x + 1) (s + 1) (by omega) h)))
    | false =>
      rw [sw_cnt_f e] at h
      exact br_t rfl (nm_r (nI_1 x) (ih (x + 1) s (by omega) h))
theorem sw_yone {n p : Nat} {t : Nat → Int32} {P : Nat → Nat → Bool} {post : Int32 → Prop} (hn : n ≤ 40) (H : sw_H n t P) (hp : p < n) (h : post (nI (sw_cnt (P p) 256 0 0))) : wpY_ones post (nI n, t) (nI p) := ⟨257, sw_yone_l hn H hp 256 0 0 rfl h⟩
theorem sw_ywit_l {n p : Nat} {t : Nat → Int32} {P : Nat → Nat → Bool} {post : Int32 → Prop} (hn : n ≤ 40) (H : sw_H n t P) (hp : p < n) : ∀ d x, x + d = 256 → post (sw_or3 (sw_find (P p) d x)) → wY_witness_2 post (nI p) (nI n) t (d + 1) (nI x) := by
  intro d
  induction d with
  | zero =>
    intro x hx h
    have e : sw_or3 (sw_find (P p) 0 x) = -3 := if_neg (by show ¬ x < 256; omega)
    rw [e] at h
    exact br_t (sw_le 256 (by omega) (by omega)) (sw_isY_y hn hp (br_f sw_1n0 h))
  | succ d ih =>
    intro x hx h
    refine br_f (sw_nle 256 (by omega) (by decide)) (sw_isY_y hn hp (br_f sw_1n0 (sw_at _ (by omega) (by omega) (H p x hp (by omega)) ?_)))
    cases e : P p x with
    | true =>
      rw [sw_find_t e, sw_or3_t (by omega)] at h
      exact br_f sw_1n0 h
    | false =>
      rw [sw_find_f e] at h
      exact br_t rfl (nm_r (nI_1 x) (ih (x + 1) (by omega) h))
theorem sw_yfol_l {n p i : Nat} {t : Nat → Int32} {P : Nat → Nat → Bool} {post : Int32 → Prop} (hn : n ≤ 40) (H : sw_H n t P) (hp : p < n) (hi : i < 8) : ∀ d x s, x + d = 256 → sw_seen (P p) i x s → post (sw_ch (P p) i d x s) → wY_follows_25 post (nI p) (nI i) (nI n) t (d + 1) s (nI x) := by
  intro d
  induction d with
  | zero =>
    intro x s hx hs h
    exact br_t (sw_le 256 (by omega) (by omega)) h
  | succ d ih =>
    intro x s hx hs h
    have hx2 : x < 256 := by omega
    have hl := sw_lo_lt i hi x hx2
    have hb := sw_lo_b i hi x hx2
    refine br_f (sw_nle 256 (by omega) (by decide)) ?_
    rw [sw_t_lo i hi x hx2, sw_t_hi i hi x hx2]
    refine sw_at _ (by omega) hl.1 (H p _ hp hl.1) (sw_at _ (by omega) hl.2 (H p _ hp hl.2) ?_)
    have key : ∃ s', s' = s ||| sw_c (P p) i (sw_lo x i) ∧ sw_seen (P p) i (x + 1) s' ∧ post (sw_ch (P p) i d (x + 1) s') := by
      refine ⟨_, rfl, ?_⟩
      cases e : x.testBit i with
      | true =>
        rw [hs _ (sw_lo_t i hi x hx2 e) hb.1]
        rw [sw_ch_t _ _ e] at h
        exact ⟨sw_seen_t hs e, h⟩
      | false =>
        have q : sw_lo x i = x := if_neg (by rw [e]; decide)
        rw [sw_ch_f _ _ e] at h
        rw [q]
        exact ⟨sw_seen_f hs, h⟩
    obtain ⟨s', es, k1, k2⟩ := key
    unfold sw_c at es
    rw [hb.2] at es
    cases e1 : P p (sw_lo x i) <;> cases e2 : P p (sw_hi x i) <;> rw [e1, e2] at es
    · rw [if_pos rfl, Int32.or_zero] at es
      subst es
      exact br_t rfl (nm_r (nI_1 x) (ih (x + 1) s' (by omega) k1 k2))
    · rw [if_neg (by decide), if_pos rfl] at es
      exact br_f (by decide) (br_f sw_1n0 (nm_r es.symm (nm_r (nI_1 x) (ih (x + 1) s' (by omega) k1 k2))))
    · rw [if_neg (by decide), if_neg (by decide)] at es
      exact br_f (by decide) (br_t rfl (nm_r es.symm (nm_r (nI_1 x) (ih (x + 1) s' (by omega) k1 k2))))
    · rw [if_pos rfl, Int32.or_zero] at es
      subst es
      exact br_t rfl (nm_r (nI_1 x) (ih (x + 1) s' (by omega) k1 k2))
theorem sw_yfol {n p i : Nat} {t : Nat → Int32} {P : Nat → Nat → Bool} {post : Int32 → Prop} (hn : n ≤ 40) (H : sw_H n t P) (hp : p < n) (hi : i < 8) (h : post (sw_ch (P p) i 256 0 0)) : wpY_follows post (nI n, t) (nI p) (nI i) :=
  sw_isY_y hn hp (br_f sw_1n0 (br_f (nI_pos (by omega)) (br_t (nI_le (b := 7) (by omega) (by decide)) ⟨257, sw_yfol_l hn H hp hi 256 0 0 rfl (fun y hy _ => absurd hy (Nat.not_lt_zero y)) h⟩)))
theorem sw_ydep_l {n p : Nat} {t : Nat → Int32} {P : Nat → Nat → Bool} {post : Int32 → Prop} (hn : n ≤ 40) (H : sw_H n t P) (hp : p < n) : ∀ d i s, i + d = 8 → post (sw_dep (P p) d i s) → wY_depends_4 post (nI p) (nI n) t (d + 1) s (nI i) := by
  intro d
  induction d with
  | zero =>
    intro i s hi h
    exact br_t (sw_le 8 (by omega) (by omega)) (sw_isY_y hn hp (br_f sw_1n0 h))
  | succ d ih =>
    intro i s hi h
    refine br_f (sw_nle 8 (by omega) (by decide)) (sw_isY_y hn hp (br_f sw_1n0 (sw_yfol hn H hp (by omega) ?_)))
    by_cases e : sw_ch (P p) i 256 0 0 = 0
    · rw [sw_dep_t _ e] at h
      exact br_t e (nm_r (nI_1 i) (ih (i + 1) s (by omega) h))
    · rw [sw_dep_f _ e] at h
      exact br_f e (nm_e (nm_r (nI_1 i) (ih (i + 1) _ (by omega) h)))
theorem sw_yfst_l {n p : Nat} {t : Nat → Int32} {P : Nat → Nat → Bool} {post : Int32 → Prop} (hn : n ≤ 40) (H : sw_H n t P) (hp : p < n) : ∀ d w, w + d = p → post (nI (sw_find (fun w => sw_E P w p) d w)) → wY_first_2 post (nI p) (nI n) t (d + 1) (nI w) := by
  intro d
  induction d with
  | zero =>
    intro w hw h
    have q : w = p := by omega
    subst q
    refine br_f (sw_nle n hp (by omega)) (sw_isY_y hn hp (br_f sw_1n0 (sw_apt_256 hn H hp hp (fun _ => h) (fun e => ?_))))
    rw [sw_E_r] at e
    exact absurd e (by decide)
  | succ d ih =>
    intro w hw h
    refine br_f (sw_nle n (by omega) (by omega)) (sw_isY_y hn hp (br_f sw_1n0 (sw_apt_256 hn H hp (by omega) (fun e => ?_) (fun e => ?_))))
    · rw [sw_E_s] at e
      rw [sw_find_t (p := fun w => sw_E P w p) e] at h
      exact h
    · rw [sw_E_s] at e
      rw [sw_find_f (p := fun w => sw_E P w p) e] at h
      exact nm_r (nI_1 w) (ih (w + 1) (by omega) h)
theorem sw_yfst {n p : Nat} {t : Nat → Int32} {P : Nat → Nat → Bool} {post : Int32 → Prop} (hn : n ≤ 40) (H : sw_H n t P) (hp : p < n) (h : post (nI (sw_L P p))) : wpY_first post (nI n, t) (nI p) := ⟨p + 1, sw_yfst_l hn H hp p 0 (by omega) h⟩
theorem sw_ygrp_l {n : Nat} {t : Nat → Int32} {P : Nat → Nat → Bool} {post : Int32 → Prop} (hn : n ≤ 40) (H : sw_H n t P) : ∀ d w s, w + d = n → post (nI (sw_cnt (fun w => decide (sw_L P w = w)) d w s)) → wY_groups_4 post (nI n) t (d + 1) (nI s) (nI w) := by
  intro d
  induction d with
  | zero =>
    intro w s hw h
    exact br_t (sw_le n (by omega) (by omega)) h
  | succ d ih =>
    intro w s hw h
    refine br_f (sw_nle n (by omega) (by omega)) (sw_yfst hn H (by omega) ?_)
    have hL := sw_L_le P w
    by_cases e : sw_L P w = w
    · rw [sw_cnt_t (p := fun w => decide (sw_L P w = w)) (decide_eq_true e)] at h
      exact br_t (by rw [e]) (nm_r (nI_1 s) (nm_r (nI_1 w) (ih (w + 1) (s + 1) (by omega) h)))
    · rw [sw_cnt_f (p := fun w => decide (sw_L P w = w)) (decide_eq_false e)] at h
      exact br_f (fun z => e ((nI_eq (by omega) (by omega)).mp z)) (nm_r (nI_1 w) (ih (w + 1) s (by omega) h))
theorem sw_ysym_0 {n p i j : Int32} {t : Nat → Int32} {post : Int32 → Prop} (h : post 0) : ∀ d x, x + d = 256 → wY_symmetric_36 post p i j n t (d + 1) 0 (nI x) := by
  intro d
  induction d with
  | zero =>
    intro x hx
    exact br_t (sw_le 256 (by omega) (by omega)) ⟨sw_nb false, h⟩
  | succ d ih =>
    intro x hx
    exact br_f (sw_nle 256 (by omega) (by decide)) (nm_e (nm_e (nm_e (br_t rfl (nm_r (nI_1 x) (ih (x + 1) (by omega)))))))
theorem sw_ysym_l {n p i j : Nat} {t : Nat → Int32} {P : Nat → Nat → Bool} {post : Int32 → Prop} (hn : n ≤ 40) (H : sw_H n t P) (hp : p < n) (hi : i < 8) (hj : j < 8) : ∀ d x, x + d = 256 → post (sw_i (sw_all (fun x => P p x == P p (sw_ex x i j)) d x)) → wY_symmetric_36 post (nI p) (nI i) (nI j) (nI n) t (d + 1) 1 (nI x) := by
  intro d
  induction d with
  | zero =>
    intro x hx h
    exact br_t (sw_le 256 (by omega) (by omega)) ⟨sw_nb true, h⟩
  | succ d ih =>
    intro x hx h
    have hx2 : x < 256 := by omega
    have hy := sw_ex_lt i hi j hj x hx2
    have fin : (sw_i (P p x) = sw_i (P p (sw_ex x i j)) → ∀ y : Int32, y = nI x + 1 → wY_symmetric_36 post (nI p) (nI i) (nI j) (nI n) t (d + 1) 1 y) ∧ (¬ sw_i (P p x) = sw_i (P p (sw_ex x i j)) → ∀ y : Int32, y = nI x + 1 → wY_symmetric_36 post (nI p) (nI i) (nI j) (nI n) t (d + 1) 0 y) := by
      by_cases q : P p x = P p (sw_ex x i j)
      · rw [sw_all_t (by show (P p x == P p (sw_ex x i j)) = true; exact beq_iff_eq.mpr q)] at h
        exact br_t (by rw [← q]) (nm_r (nI_1 x) (ih (x + 1) (by omega) h))
      · rw [sw_all_f (by show (P p x == P p (sw_ex x i j)) = false; exact beq_eq_false_iff_ne.mpr q)] at h
        exact br_f (fun z => q ((sw_i_e _ _).mp z)) (nm_r (nI_1 x) (sw_ysym_0 h d (x + 1) (by omega)))
    refine br_f (sw_nle 256 (by omega) (by decide)) (nm_r (sw_t_shr i hi x hx2) (nm_r (sw_t_shr j hj x hx2) (nm_r (sw_t_yex i hi j hj x hx2) (br_f sw_1n0 (sw_at _ (by omega) hx2 (H p x hp hx2) ?_)))))
    by_cases e : i = j
    · subst e
      have q : sw_ex x i i = x := sw_ex_e rfl
      rw [q] at fin
      exact br_t rfl (sw_at _ (by omega) hx2 (H p x hp hx2) fin)
    · exact br_f (fun z => e ((nI_eq (by omega) (by omega)).mp z)) (sw_at _ (by omega) hy (H p _ hp hy) fin)
end
