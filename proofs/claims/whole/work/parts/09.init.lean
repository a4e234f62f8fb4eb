/-! the constructors -/
theorem sw_iX_in {i : Nat} {post : SX → Prop} {J : Int32 → (Nat → Int64) → Prop} (hi : i < 8) (hJ : ∀ a, sw_I (i + 1) 0 a → J (nI (i + 1)) a) : ∀ d x a, x + d = 256 → sw_I i x a → wX_init_29 post J (nI i) 8 (d + 1) (nI x) a := by
  intro d
  induction d with
  | zero =>
    intro x a hx h
    have q : x = 256 := by omega
    subst q
    exact br_t (sw_le 256 (by omega) (by omega)) (nm_r (nI_1 i) (hJ a (sw_I_n h)))
  | succ d ih =>
    intro x a hx h
    have hx2 : x < 256 := by omega
    have e : nI i * 4 + (nI x >>> ((6 : Int32) &&& 31)) = nI (i * 4 + x / 64) := by rw [sw_x6 hx2, sw_ix]
    have hin : vp_in (nI i * 4 + (nI x >>> ((6 : Int32) &&& 31))) 160 := pk_in (i * 4 + x / 64) 160 (by omega) e
    have st : vp_updL a (nI i * 4 + (nI x >>> ((6 : Int32) &&& 31))).toNatClampNeg ((a (nI i * 4 + (nI x >>> ((6 : Int32) &&& 31))).toNatClampNeg) ||| ((sw_i (x.testBit i)).toInt64 <<< ((nI x &&& 63).toInt64 &&& 63))) = vp_updL a (i * 4 + x / 64) (a (i * 4 + x / 64) ||| ((sw_i (x.testBit i)).toInt64 <<< ((nI (x % 64)).toInt64 &&& 63))) := by
      rw [e, nI_clamp (by omega), sw_x63 hx2]
    exact br_f (sw_nle 256 (by omega) (by decide)) (nm_r (congrArg Int32.toInt64 (sw_t_shr i hi x hx2)) ⟨hin, hin, nm_r st (nm_r (nI_1 x) (ih (x + 1) _ (by omega) (sw_I_s hi hx2 h)))⟩)
theorem sw_iX_out {post : SX → Prop} (hp : ∀ a, sw_I 8 0 a → post (8, a)) : ∀ d i a, i + d = 8 → sw_I i 0 a → wX_init_21 post 8 (d + 1) (nI i) a := by
  intro d
  induction d with
  | zero =>
    intro i a hi h
    have q : i = 8 := by omega
    subst q
    exact br_t (sw_le 8 (by omega) (by omega)) (hp a h)
  | succ d ih =>
    intro i a hi h
    exact br_f (sw_nle 8 (by omega) (by decide)) ⟨257, sw_iX_in (by omega) (fun a' h' => ih (i + 1) a' (by omega) h') 256 0 a rfl h⟩
theorem sw_iY_l {post : SY → Prop} (hp : ∀ t : Nat → Int32, (∀ c, c < 2048 → t c = sw_i ((c % 256).testBit (c / 256))) → post (8, t)) : ∀ d c t, c + d = 2048 → (∀ c', c' < c → t c' = sw_i ((c' % 256).testBit (c' / 256))) → wY_init_21 post 8 (d + 1) (nI c) t := by
  intro d
  induction d with
  | zero =>
    intro c t hc h
    have q : c = 2048 := by omega
    subst q
    exact br_t (sw_le 2048 (by omega) (by omega)) (hp t h)
  | succ d ih =>
    intro c t hc h
    have e1 : nI c - nI c / 256 * 256 = nI (c % 256) := pk_rem (d := 256) (by omega) (by decide) (by decide)
    have e2 : nI c / 256 = nI (c / 256) := pk_div (d := 256) (by omega) (by decide) (by decide)
    refine br_f (sw_nle 2048 (by omega) (by decide)) ⟨by decide, by decide, ?_⟩
    rw [e1, e2, sw_t_shr (c / 256) (by omega) (c % 256) (by omega)]
    have hin : vp_in (nI c) 10240 := vp_in_nI (by omega) (by decide)
    have nx : ∀ c', c' < c + 1 → upd t c (sw_i ((c % 256).testBit (c / 256))) c' = sw_i ((c' % 256).testBit (c' / 256)) := by
      intro c' h'
      by_cases q : c' = c
      · rw [q, pk_us]
      · rw [pk_un q]
        exact h c' (by omega)
    have go := ih (c + 1) _ (by omega) nx
    cases b : (c % 256).testBit (c / 256) with
    | true =>
      have st : upd t (nI c).toNatClampNeg (vp_nar .boolean (sw_i true)) = upd t c (sw_i ((c % 256).testBit (c / 256))) := by rw [nI_clamp (by omega), sw_vnb, b]
      exact br_t rfl ⟨hin, nm_r st (nm_r (nI_1 c) go)⟩
    | false =>
      have st : upd t (nI c).toNatClampNeg (vp_nar .boolean (sw_i false)) = upd t c (sw_i ((c % 256).testBit (c / 256))) := by rw [nI_clamp (by omega), sw_vnb, b]
      exact br_f (by decide) ⟨hin, nm_r st (nm_r (nI_1 c) go)⟩
theorem sw_start {a : Nat → Int64} {t : Nat → Int32} (hX : sw_I 8 0 a) (hY : ∀ c, c < 2048 → t c = sw_i ((c % 256).testBit (c / 256))) : sw_H 8 t (sw_T a) := by
  intro p x hp hx
  rw [hY (256 * p + x) (by omega), hX p x hp hx, show (256 * p + x) % 256 = x by omega, show (256 * p + x) / 256 = p by omega, decide_eq_true (by omega), Bool.true_and]
