/-! the loops of the component, each against the picture -/
theorem sw_same_l {n : Int32} {a : Nat → Int64} {p q : Nat} {post : Int32 → Prop} (hp : p < 40) (hq : q < 40) : ∀ d k, k + d = 4 → post (sw_i (sw_all (fun k => decide (a (p * 4 + k) = a (q * 4 + k))) d k)) → wX_sameWords_2 post (nI p) (nI q) n a (d + 1) (nI k) := by
  intro d
  induction d with
  | zero =>
    intro k hk h
    exact br_t (sw_le 4 (by omega) (by omega)) h
  | succ d ih =>
    intro k hk h
    refine br_f (sw_nle 4 (by omega) (by decide)) ⟨pk_in (p * 4 + k) 160 (by omega) (sw_ix p k), pk_in (q * 4 + k) 160 (by omega) (sw_ix q k), ?_⟩
    rw [sw_ix, sw_ix, nI_clamp (by omega), nI_clamp (by omega)]
    by_cases e : a (p * 4 + k) = a (q * 4 + k)
    · rw [sw_all_t (decide_eq_true e)] at h
      exact br_t e (nm_r (nI_1 k) (ih (k + 1) (by omega) h))
    · rw [sw_all_f (decide_eq_false e)] at h
      exact br_f e h
theorem sw_same_e (a : Nat → Int64) (p q : Nat) : sw_all (fun k => decide (a (p * 4 + k) = a (q * 4 + k))) 4 0 = sw_all (fun x => sw_T a p x == sw_T a q x) 256 0 :=
  sw_w4b (fun k => decide (a (p * 4 + k) = a (q * 4 + k))) (fun A B => A = B) (fun A B => A == B) (by
    intro x y
    rw [sw_eqw]
    constructor
    · intro h j hj
      have z := h j hj
      revert z
      cases sw_b x j <;> cases sw_b y j <;> decide
    · intro h j hj
      have z := h j hj
      revert z
      cases sw_b x j <;> cases sw_b y j <;> decide) a p q (fun k _ => decide_eq_true_iff)
theorem sw_opp_l {n : Int32} {a : Nat → Int64} {p q : Nat} {post : Int32 → Prop} (hp : p < 40) (hq : q < 40) : ∀ d k, k + d = 4 → post (sw_i (sw_all (fun k => decide (a (p * 4 + k) = a (q * 4 + k) ^^^ (-1))) d k)) → wX_opposite_20 post (nI p) (nI q) n a (d + 1) (nI k) := by
  intro d
  induction d with
  | zero =>
    intro k hk h
    exact br_t (sw_le 4 (by omega) (by omega)) h
  | succ d ih =>
    intro k hk h
    refine br_f (sw_nle 4 (by omega) (by decide)) ⟨pk_in (p * 4 + k) 160 (by omega) (sw_ix p k), pk_in (q * 4 + k) 160 (by omega) (sw_ix q k), ?_⟩
    rw [sw_ix, sw_ix, nI_clamp (by omega), nI_clamp (by omega)]
    by_cases e : a (p * 4 + k) = a (q * 4 + k) ^^^ (-1)
    · rw [sw_all_t (decide_eq_true e)] at h
      exact br_t e (nm_r (nI_1 k) (ih (k + 1) (by omega) h))
    · rw [sw_all_f (decide_eq_false e)] at h
      exact br_f e h
theorem sw_opp_e (a : Nat → Int64) (p q : Nat) : sw_all (fun k => decide (a (p * 4 + k) = a (q * 4 + k) ^^^ (-1))) 4 0 = sw_all (fun x => sw_T a p x != sw_T a q x) 256 0 :=
  sw_w4b (fun k => decide (a (p * 4 + k) = a (q * 4 + k) ^^^ (-1))) (fun A B => A = B ^^^ (-1)) (fun A B => A != B) (by
    intro x y
    rw [sw_opw]
    constructor
    · intro h j hj
      have z := h j hj
      revert z
      cases sw_b x j <;> cases sw_b y j <;> decide
    · intro h j hj
      have z := h j hj
      revert z
      cases sw_b x j <;> cases sw_b y j <;> decide) a p q (fun k _ => decide_eq_true_iff)
theorem sw_imp_l {n : Int32} {a : Nat → Int64} {p q : Nat} {post : Int32 → Prop} (hp : p < 40) (hq : q < 40) : ∀ d k, k + d = 4 → post (sw_i (sw_all (fun k => decide (a (p * 4 + k) &&& (a (q * 4 + k) ^^^ (-1)) = 0)) d k)) → wX_implies_20 post (nI p) (nI q) n a (d + 1) (nI k) := by
  intro d
  induction d with
  | zero =>
    intro k hk h
    exact br_t (sw_le 4 (by omega) (by omega)) h
  | succ d ih =>
    intro k hk h
    refine br_f (sw_nle 4 (by omega) (by decide)) ⟨pk_in (p * 4 + k) 160 (by omega) (sw_ix p k), pk_in (q * 4 + k) 160 (by omega) (sw_ix q k), ?_⟩
    rw [sw_ix, sw_ix, nI_clamp (by omega), nI_clamp (by omega)]
    by_cases e : a (p * 4 + k) &&& (a (q * 4 + k) ^^^ (-1)) = 0
    · rw [sw_all_t (decide_eq_true e)] at h
      exact br_t e (nm_r (nI_1 k) (ih (k + 1) (by omega) h))
    · rw [sw_all_f (decide_eq_false e)] at h
      exact br_f e h
theorem sw_imp_e (a : Nat → Int64) (p q : Nat) : sw_all (fun k => decide (a (p * 4 + k) &&& (a (q * 4 + k) ^^^ (-1)) = 0)) 4 0 = sw_all (fun x => !sw_T a p x || sw_T a q x) 256 0 :=
  sw_w4b (fun k => decide (a (p * 4 + k) &&& (a (q * 4 + k) ^^^ (-1)) = 0)) (fun A B => A &&& (B ^^^ (-1)) = 0) (fun A B => !A || B) sw_imw a p q (fun k _ => decide_eq_true_iff)
theorem sw_same {n : Int32} {a : Nat → Int64} {p q : Nat} {post : Int32 → Prop} (hp : p < 40) (hq : q < 40) (h : post (sw_i (sw_E (sw_T a) p q))) : wpX_sameWords post (n, a) (nI p) (nI q) :=
  ⟨5, sw_same_l hp hq 4 0 rfl (by rw [sw_same_e]; exact h)⟩
theorem sw_ones_l {n : Int32} {a : Nat → Int64} {p : Nat} {post : Int32 → Prop} (hp : p < 40) : ∀ d x s, x + d = 256 → post (nI (sw_cnt (sw_T a p) d x s)) → wX_onesOf_4 post (nI p) n a (d + 1) (nI s) (nI x) := by
  intro d
  induction d with
  | zero =>
    intro x s hx h
    exact br_t (sw_le 256 (by omega) (by omega)) h
  | succ d ih =>
    intro x s hx h
    refine br_f (sw_nle 256 (by omega) (by decide)) (sw_bitOf hp (by omega) ?_)
    cases e : sw_T a p x with
    | true =>
      rw [sw_cnt_t e] at h
      exact nm_r (nI_1 s) (nm_r (nI_1 x) (ih (x + 1) (s + 1) (by omega) h))
    | false =>
      rw [sw_cnt_f e] at h
      exact nm_r (nI_add s 0) (nm_r (nI_1 x) (ih (x + 1) s (by omega) h))
theorem sw_ones {n : Int32} {a : Nat → Int64} {p : Nat} {post : Int32 → Prop} (hp : p < 40) (h : post (nI (sw_cnt (sw_T a p) 256 0 0))) : wpX_onesOf post (n, a) (nI p) := ⟨257, sw_ones_l hp 256 0 0 rfl h⟩
/-- a scan's answer: the place, or NONE -/
def sw_or3 (x : Nat) : Int32 := if x < 256 then nI x else -3
theorem sw_or3_t {x : Nat} (h : x < 256) : sw_or3 x = nI x := if_pos h
theorem sw_wit_l {n : Int32} {a : Nat → Int64} {p : Nat} {post : Int32 → Prop} (hp : p < 40) : ∀ d x, x + d = 256 → post (sw_or3 (sw_find (sw_T a p) d x)) → wX_witness_12 post (nI p) n a (d + 1) (nI x) := by
  intro d
  induction d with
  | zero =>
    intro x hx h
    have e : sw_or3 (sw_find (sw_T a p) 0 x) = -3 := if_neg (by show ¬ x < 256; omega)
    rw [e] at h
    exact br_t (sw_le 256 (by omega) (by omega)) h
  | succ d ih =>
    intro x hx h
    refine br_f (sw_nle 256 (by omega) (by decide)) (sw_bitOf hp (by omega) ?_)
    cases e : sw_T a p x with
    | true =>
      rw [sw_find_t e, sw_or3_t (by omega)] at h
      exact br_t rfl h
    | false =>
      rw [sw_find_f e] at h
      exact br_f (by decide) (nm_r (nI_1 x) (ih (x + 1) (by omega) h))
theorem sw_dif_l {n : Int32} {a : Nat → Int64} {p q : Nat} {post : Int32 → Prop} (hp : p < 40) (hq : q < 40) : ∀ d x, x + d = 256 → post (sw_or3 (sw_find (fun x => sw_T a p x != sw_T a q x) d x)) → wX_differ_20 post (nI p) (nI q) n a (d + 1) (nI x) := by
  intro d
  induction d with
  | zero =>
    intro x hx h
    have e : sw_or3 (sw_find (fun x => sw_T a p x != sw_T a q x) 0 x) = -3 := if_neg (by show ¬ x < 256; omega)
    rw [e] at h
    exact br_t (sw_le 256 (by omega) (by omega)) h
  | succ d ih =>
    intro x hx h
    refine br_f (sw_nle 256 (by omega) (by decide)) (sw_bitOf hp (by omega) (sw_bitOf hq (by omega) ?_))
    by_cases e : sw_T a p x = sw_T a q x
    · rw [sw_find_f (by show (sw_T a p x != sw_T a q x) = false; rw [e]; exact bne_self_eq_false _)] at h
      exact br_t (by rw [e]) (nm_r (nI_1 x) (ih (x + 1) (by omega) h))
    · rw [sw_find_t (by show (sw_T a p x != sw_T a q x) = true; exact bne_iff_ne.mpr e), sw_or3_t (by omega)] at h
      exact br_f (fun z => e ((sw_i_e _ _).mp z)) h
theorem sw_chg_l {n : Int32} {a : Nat → Int64} {p i : Nat} {post : Int32 → Prop} (hp : p < 40) (hi : i < 8) : ∀ d x s, x + d = 256 → post (sw_ch (sw_T a p) i d x s) → wX_changesBy_5 post (nI p) (nI i) n a (d + 1) s (nI x) := by
  intro d
  induction d with
  | zero =>
    intro x s hx h
    exact br_t (sw_le 256 (by omega) (by omega)) h
  | succ d ih =>
    intro x s hx h
    refine br_f (sw_nle 256 (by omega) (by decide)) ?_
    cases e : x.testBit i with
    | true =>
      rw [sw_ch_t _ _ e] at h
      refine br_f ?_ (nm_r (nI_1 x) (ih (x + 1) s (by omega) h))
      rw [sw_t_shr i hi x (by omega), e]
      decide
    | false =>
      rw [sw_ch_f _ _ e] at h
      refine br_t ?_ (sw_bitOf hp (by omega) ?_)
      · rw [sw_t_shr i hi x (by omega), e]
        decide
      · rw [sw_t_hi i hi x (by omega)]
        refine sw_bitOf hp (sw_lo_lt i hi x (by omega)).2 ?_
        unfold sw_c at h
        cases e1 : sw_T a p x <;> cases e2 : sw_T a p (sw_hi x i) <;> rw [e1, e2] at h
        · rw [if_pos rfl, Int32.or_zero] at h
          exact br_t (by decide) (br_t (by decide) (nm_r (nI_1 x) (ih (x + 1) s (by omega) h)))
        · rw [if_neg (by decide), if_pos rfl] at h
          exact br_f (by decide) (nm_e (nm_r (nI_1 x) (ih (x + 1) _ (by omega) h)))
        · rw [if_neg (by decide), if_neg (by decide)] at h
          exact br_t (by decide) (br_f (by decide) (nm_e (nm_r (nI_1 x) (ih (x + 1) _ (by omega) h))))
        · rw [if_pos rfl, Int32.or_zero] at h
          exact br_t (by decide) (br_t (by decide) (nm_r (nI_1 x) (ih (x + 1) s (by omega) h)))
theorem sw_chg {n : Int32} {a : Nat → Int64} {p i : Nat} {post : Int32 → Prop} (hp : p < 40) (hi : i < 8) (h : post (sw_ch (sw_T a p) i 256 0 0)) : wpX_changesBy post (n, a) (nI p) (nI i) := ⟨257, sw_chg_l hp hi 256 0 0 rfl h⟩
/-- the inputs on which a wire depends -/
def sw_dep (P : Nat → Bool) : Nat → Nat → Int32 → Int32
  | 0, _, s => s
  | d + 1, i, s => sw_dep P d (i + 1) (if sw_ch P i 256 0 0 = 0 then s else s ||| ((1 : Int32) <<< (nI i &&& 31)))
theorem sw_dep_t (P : Nat → Bool) {d i : Nat} {s : Int32} (h : sw_ch P i 256 0 0 = 0) : sw_dep P (d + 1) i s = sw_dep P d (i + 1) s := congrArg (sw_dep P d (i + 1)) (if_pos h)
theorem sw_dep_f (P : Nat → Bool) {d i : Nat} {s : Int32} (h : ¬ sw_ch P i 256 0 0 = 0) : sw_dep P (d + 1) i s = sw_dep P d (i + 1) (s ||| ((1 : Int32) <<< (nI i &&& 31))) := congrArg (sw_dep P d (i + 1)) (if_neg h)
theorem sw_dep_l {n : Int32} {a : Nat → Int64} {p : Nat} {post : Int32 → Prop} (hp : p < 40) : ∀ d i s, i + d = 8 → post (sw_dep (sw_T a p) d i s) → wX_depends_14 post (nI p) n a (d + 1) s (nI i) := by
  intro d
  induction d with
  | zero =>
    intro i s hi h
    exact br_t (sw_le 8 (by omega) (by omega)) h
  | succ d ih =>
    intro i s hi h
    refine br_f (sw_nle 8 (by omega) (by decide)) (sw_chg hp (by omega) ?_)
    by_cases e : sw_ch (sw_T a p) i 256 0 0 = 0
    · rw [sw_dep_t _ e] at h
      exact br_t e (nm_r (nI_1 i) (ih (i + 1) s (by omega) h))
    · rw [sw_dep_f _ e] at h
      exact br_f e (nm_e (nm_r (nI_1 i) (ih (i + 1) _ (by omega) h)))
/-- the least wire that holds the same -/
def sw_L (P : Nat → Nat → Bool) (p : Nat) : Nat := sw_find (fun w => sw_E P w p) p 0
theorem sw_lea_l {n : Int32} {a : Nat → Int64} {p : Nat} {post : Int32 → Prop} (hp : p < 40) : ∀ d w, w + d = p → post (nI (sw_find (fun w => sw_E (sw_T a) w p) d w)) → wX_leastEqual_2 post (nI p) n a (d + 1) (nI w) := by
  intro d
  induction d with
  | zero =>
    intro w hw h
    have q : w = p := by omega
    subst q
    exact br_t (sw_le w (by omega) (by omega)) h
  | succ d ih =>
    intro w hw h
    refine br_f (sw_nle p (by omega) (by omega)) (sw_same (by omega) hp ?_)
    cases e : sw_E (sw_T a) w p with
    | true =>
      rw [sw_find_t (p := fun w => sw_E (sw_T a) w p) e] at h
      exact br_f sw_1n0 h
    | false =>
      rw [sw_find_f (p := fun w => sw_E (sw_T a) w p) e] at h
      exact br_t rfl (nm_r (nI_1 w) (ih (w + 1) (by omega) h))
theorem sw_lea {n : Int32} {a : Nat → Int64} {p : Nat} {post : Int32 → Prop} (hp : p < 40) (h : post (nI (sw_L (sw_T a) p))) : wpX_leastEqual post (n, a) (nI p) := ⟨p + 1, sw_lea_l hp p 0 (by omega) h⟩
theorem sw_L_le (P : Nat → Nat → Bool) (p : Nat) : sw_L P p ≤ p := by
  have h := (sw_find_le (fun w => sw_E P w p) p 0).2
  unfold sw_L
  omega
theorem sw_grp_l {n : Nat} {a : Nat → Int64} {post : Int32 → Prop} (hn : n ≤ 40) : ∀ d w s, w + d = n → post (nI (sw_cnt (fun w => decide (sw_L (sw_T a) w = w)) d w s)) → wX_groups_4 post (nI n) a (d + 1) (nI s) (nI w) := by
  intro d
  induction d with
  | zero =>
    intro w s hw h
    exact br_t (sw_le n (by omega) (by omega)) h
  | succ d ih =>
    intro w s hw h
    refine br_f (sw_nle n (by omega) (by omega)) (sw_lea (by omega) ?_)
    have hL := sw_L_le (sw_T a) w
    by_cases e : sw_L (sw_T a) w = w
    · rw [sw_cnt_t (p := fun w => decide (sw_L (sw_T a) w = w)) (decide_eq_true e)] at h
      exact br_t (by rw [e]) (nm_r (nI_1 s) (nm_r (nI_1 w) (ih (w + 1) (s + 1) (by omega) h)))
    · rw [sw_cnt_f (p := fun w => decide (sw_L (sw_T a) w = w)) (decide_eq_false e)] at h
      exact br_f (fun z => e ((nI_eq (by omega) (by omega)).mp z)) (nm_r (nI_1 w) (ih (w + 1) s (by omega) h))
theorem sw_ex_e {x i j : Nat} (h : x.testBit i = x.testBit j) : sw_ex x i j = x := if_pos h
theorem sw_sym_l {n : Int32} {a : Nat → Int64} {p i j : Nat} {post : Int32 → Prop} (hp : p < 40) (hi : i < 8) (hj : j < 8) : ∀ d x, x + d = 256 → post (sw_i (sw_all (fun x => sw_T a p x == sw_T a p (sw_ex x i j)) d x)) → wX_symmetric_27 post (nI p) (nI i) (nI j) n a (d + 1) (nI x) := by
  intro d
  induction d with
  | zero =>
    intro x hx h
    exact br_t (sw_le 256 (by omega) (by omega)) h
  | succ d ih =>
    intro x hx h
    refine br_f (sw_nle 256 (by omega) (by decide)) ?_
    rw [sw_t_shr i hi x (by omega), sw_t_shr j hj x (by omega)]
    by_cases e : x.testBit i = x.testBit j
    · rw [sw_all_t (by show (sw_T a p x == sw_T a p (sw_ex x i j)) = true; rw [sw_ex_e e]; exact beq_self_eq_true _)] at h
      exact br_t (by rw [e]) (br_t rfl (nm_r (nI_1 x) (ih (x + 1) (by omega) h)))
    · refine br_f (fun z => e ((sw_i_e _ _).mp z)) (br_f sw_1n0 (sw_bitOf hp (by omega) ?_))
      rw [sw_t_ex i hi j hj x (by omega) e]
      refine sw_bitOf hp (sw_ex_lt i hi j hj x (by omega)) ?_
      by_cases q : sw_T a p x = sw_T a p (sw_ex x i j)
      · rw [sw_all_t (by show (sw_T a p x == sw_T a p (sw_ex x i j)) = true; exact beq_iff_eq.mpr q)] at h
        exact br_t (by rw [q]) (nm_r (nI_1 x) (ih (x + 1) (by omega) h))
      · rw [sw_all_f (by show (sw_T a p x == sw_T a p (sw_ex x i j)) = false; exact beq_eq_false_iff_ne.mpr q)] at h
        exact br_f (fun z => q ((sw_i_e _ _).mp z)) h
