/-! the start: inputs written bit by bit -/
theorem sw_t_one : ∀ k, k < 64 → ∀ j, j < 64 → sw_b ((1 : Int64) <<< ((nI k).toInt64 &&& 63)) j = decide (j = k) := by decide +kernel
theorem sw_t_zero : ∀ k, k < 64 → (0 : Int64) <<< ((nI k).toInt64 &&& 63) = 0 := by decide +kernel
theorem sw_ini_or (w : Int64) (v : Bool) {k j : Nat} (hk : k < 64) (hj : j < 64) : sw_b (w ||| ((sw_i v).toInt64 <<< ((nI k).toInt64 &&& 63))) j = (sw_b w j || (v && decide (j = k))) := by
  rw [sw_b_or]
  cases v with
  | true => rw [show (sw_i true).toInt64 = 1 from by decide, sw_t_one k hk j hj, Bool.true_and]
  | false => rw [show (sw_i false).toInt64 = 0 from by decide, sw_t_zero k hk, sw_b_0, Bool.false_and]
def sw_I (i x : Nat) (a : Nat → Int64) : Prop := ∀ w y, w < 8 → y < 256 → sw_T a w y = (decide (w < i ∨ (w = i ∧ y < x)) && y.testBit w)
theorem sw_I_0 : sw_I 0 0 (fun _ => 0) := by
  intro w y hw hy
  rw [decide_eq_false (by omega), Bool.false_and]
  exact sw_b_0 _
theorem sw_I_n {i : Nat} {a : Nat → Int64} (h : sw_I i 256 a) : sw_I (i + 1) 0 a := by
  intro w y hw hy
  rw [h w y hw hy]
  congr 1
  exact decide_eq_decide.mpr (by omega)
theorem sw_I_s {i x : Nat} {a : Nat → Int64} (hi : i < 8) (hx : x < 256) (h : sw_I i x a) : sw_I i (x + 1) (vp_updL a (i * 4 + x / 64) (a (i * 4 + x / 64) ||| ((sw_i (x.testBit i)).toInt64 <<< ((nI (x % 64)).toInt64 &&& 63)))) := by
  intro w y hw hy
  by_cases e : w * 4 + y / 64 = i * 4 + x / 64
  · have e1 : w = i := by omega
    have e2 : y / 64 = x / 64 := by omega
    subst e1
    unfold sw_T
    rw [e2, pk_uLs, sw_ini_or _ _ (by omega) (by omega)]
    have t := h w y hw hy
    unfold sw_T at t
    rw [e2] at t
    rw [t]
    by_cases q : y = x
    · subst q
      rw [decide_eq_false (by omega), decide_eq_true (by omega), decide_eq_true (by omega), Bool.false_and, Bool.false_or, Bool.and_true, Bool.true_and]
    · rw [decide_eq_false (show ¬ y % 64 = x % 64 by omega), Bool.and_false, Bool.or_false]
      congr 1
      exact decide_eq_decide.mpr (by omega)
  · have t : sw_T (vp_updL a (i * 4 + x / 64) (a (i * 4 + x / 64) ||| ((sw_i (x.testBit i)).toInt64 <<< ((nI (x % 64)).toInt64 &&& 63)))) w y = sw_T a w y := by
      unfold sw_T
      rw [pk_uLn e]
    rw [t, h w y hw hy]
    congr 1
    exact decide_eq_decide.mpr (by omega)
