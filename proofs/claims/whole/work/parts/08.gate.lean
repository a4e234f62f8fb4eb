/-! gates: X word by word, Y value by value -/
theorem sw_gwd {kk : Nat} (hk : kk < 10) (a b c : Int64) {post : Int64 → Prop} (h : post (sw_gw kk a b c)) : wpX_gateWord post (nI kk) a b c := by
  match kk, hk, h with
  | 0, _, h => exact br_f (nI_pos (by decide)) (br_f (by decide) (br_t (by decide) h))
  | 1, _, h => exact br_f (nI_pos (by decide)) (br_f (by decide) (br_f (by decide) (br_t (by decide) h)))
  | 2, _, h => exact br_f (nI_pos (by decide)) (br_f (by decide) (br_f (by decide) (br_f (by decide) (br_t (by decide) h))))
  | 3, _, h => exact br_f (nI_pos (by decide)) (br_f (by decide) (br_f (by decide) (br_f (by decide) (br_f (by decide) (br_t (by decide) h)))))
  | 4, _, h => exact br_f (nI_pos (by decide)) (br_f (by decide) (br_f (by decide) (br_f (by decide) (br_f (by decide) (br_f (by decide) (br_t (by decide) h))))))
  | 5, _, h => exact br_f (nI_pos (by decide)) (br_f (by decide) (br_f (by decide) (br_f (by decide) (br_f (by decide) (br_f (by decide) (br_f (by decide) (br_t (by decide) h)))))))
  | 6, _, h => exact br_f (nI_pos (by decide)) (br_f (by decide) (br_f (by decide) (br_f (by decide) (br_f (by decide) (br_f (by decide) (br_f (by decide) (br_f (by decide) (br_t (by decide) h))))))))
  | 7, _, h => exact br_f (nI_pos (by decide)) (br_f (by decide) (br_f (by decide) (br_f (by decide) (br_f (by decide) (br_f (by decide) (br_f (by decide) (br_f (by decide) (br_f (by decide) (br_t (by decide) h)))))))))
  | 8, _, h => exact br_f (nI_pos (by decide)) (br_f (by decide) (br_f (by decide) (br_f (by decide) (br_f (by decide) (br_f (by decide) (br_f (by decide) (br_f (by decide) (br_f (by decide) (br_f (by decide) (br_t (by decide) h))))))))))
  | 9, _, h => exact br_f (nI_pos (by decide)) (br_t (by decide) h)
  | k + 10, hk, _ => omega
theorem sw_made_0 (b1 b2 b3 : Bool) {n : Int32} {t : Nat → Int32} {post : Int32 → Prop} (h : post (sw_i (sw_gb 0 b1 b2 b3))) : wpY_made post (n, t) (nI 0) (sw_i b1) (sw_i b2) (sw_i b3) := by
  cases b1 <;> cases b2 <;> cases b3 <;> (repeat (first | exact h | refine br_t (by decide) ?_ | refine br_f (by decide) ?_ | refine nm_e ?_ | refine ⟨sw_nb _, ?_⟩ | refine ⟨by decide, ?_⟩))
theorem sw_made_1 (b1 b2 b3 : Bool) {n : Int32} {t : Nat → Int32} {post : Int32 → Prop} (h : post (sw_i (sw_gb 1 b1 b2 b3))) : wpY_made post (n, t) (nI 1) (sw_i b1) (sw_i b2) (sw_i b3) := by
  cases b1 <;> cases b2 <;> cases b3 <;> (repeat (first | exact h | refine br_t (by decide) ?_ | refine br_f (by decide) ?_ | refine nm_e ?_ | refine ⟨sw_nb _, ?_⟩ | refine ⟨by decide, ?_⟩))
theorem sw_made_2 (b1 b2 b3 : Bool) {n : Int32} {t : Nat → Int32} {post : Int32 → Prop} (h : post (sw_i (sw_gb 2 b1 b2 b3))) : wpY_made post (n, t) (nI 2) (sw_i b1) (sw_i b2) (sw_i b3) := by
  cases b1 <;> cases b2 <;> cases b3 <;> (repeat (first | exact h | refine br_t (by decide) ?_ | refine br_f (by decide) ?_ | refine nm_e ?_ | refine ⟨sw_nb _, ?_⟩ | refine ⟨by decide, ?_⟩))
theorem sw_made_3 (b1 b2 b3 : Bool) {n : Int32} {t : Nat → Int32} {post : Int32 → Prop} (h : post (sw_i (sw_gb 3 b1 b2 b3))) : wpY_made post (n, t) (nI 3) (sw_i b1) (sw_i b2) (sw_i b3) := by
  cases b1 <;> cases b2 <;> cases b3 <;> (repeat (first | exact h | refine br_t (by decide) ?_ | refine br_f (by decide) ?_ | refine nm_e ?_ | refine ⟨sw_nb _, ?_⟩ | refine ⟨by decide, ?_⟩))
theorem sw_made_4 (b1 b2 b3 : Bool) {n : Int32} {t : Nat → Int32} {post : Int32 → Prop} (h : post (sw_i (sw_gb 4 b1 b2 b3))) : wpY_made post (n, t) (nI 4) (sw_i b1) (sw_i b2) (sw_i b3) := by
  cases b1 <;> cases b2 <;> cases b3 <;> (repeat (first | exact h | refine br_t (by decide) ?_ | refine br_f (by decide) ?_ | refine nm_e ?_ | refine ⟨sw_nb _, ?_⟩ | refine ⟨by decide, ?_⟩))
theorem sw_made_5 (b1 b2 b3 : Bool) {n : Int32} {t : Nat → Int32} {post : Int32 → Prop} (h : post (sw_i (sw_gb 5 b1 b2 b3))) : wpY_made post (n, t) (nI 5) (sw_i b1) (sw_i b2) (sw_i b3) := by
  cases b1 <;> cases b2 <;> cases b3 <;> (repeat (first | exact h | refine br_t (by decide) ?_ | refine br_f (by decide) ?_ | refine nm_e ?_ | refine ⟨sw_nb _, ?_⟩ | refine ⟨by decide, ?_⟩))
theorem sw_made_6 (b1 b2 b3 : Bool) {n : Int32} {t : Nat → Int32} {post : Int32 → Prop} (h : post (sw_i (sw_gb 6 b1 b2 b3))) : wpY_made post (n, t) (nI 6) (sw_i b1) (sw_i b2) (sw_i b3) := by
  cases b1 <;> cases b2 <;> cases b3 <;> (repeat (first | exact h | refine br_t (by decide) ?_ | refine br_f (by decide) ?_ | refine nm_e ?_ | refine ⟨sw_nb _, ?_⟩ | refine ⟨by decide, ?_⟩))
theorem sw_made_7 (b1 b2 b3 : Bool) {n : Int32} {t : Nat → Int32} {post : Int32 → Prop} (h : post (sw_i (sw_gb 7 b1 b2 b3))) : wpY_made post (n, t) (nI 7) (sw_i b1) (sw_i b2) (sw_i b3) := by
  cases b1 <;> cases b2 <;> cases b3 <;> (repeat (first | exact h | refine br_t (by decide) ?_ | refine br_f (by decide) ?_ | refine nm_e ?_ | refine ⟨sw_nb _, ?_⟩ | refine ⟨by decide, ?_⟩))
theorem sw_made_8 (b1 b2 b3 : Bool) {n : Int32} {t : Nat → Int32} {post : Int32 → Prop} (h : post (sw_i (sw_gb 8 b1 b2 b3))) : wpY_made post (n, t) (nI 8) (sw_i b1) (sw_i b2) (sw_i b3) := by
  cases b1 <;> cases b2 <;> cases b3 <;> (repeat (first | exact h | refine br_t (by decide) ?_ | refine br_f (by decide) ?_ | refine nm_e ?_ | refine ⟨sw_nb _, ?_⟩ | refine ⟨by decide, ?_⟩))
theorem sw_made_9 (b1 b2 b3 : Bool) {n : Int32} {t : Nat → Int32} {post : Int32 → Prop} (h : post (sw_i (sw_gb 9 b1 b2 b3))) : wpY_made post (n, t) (nI 9) (sw_i b1) (sw_i b2) (sw_i b3) := by
  cases b1 <;> cases b2 <;> cases b3 <;> (repeat (first | exact h | refine br_t (by decide) ?_ | refine br_f (by decide) ?_ | refine nm_e ?_ | refine ⟨sw_nb _, ?_⟩ | refine ⟨by decide, ?_⟩))
theorem sw_made {kk : Nat} (hk : kk < 10) (b1 b2 b3 : Bool) {n : Int32} {t : Nat → Int32} {post : Int32 → Prop} (h : post (sw_i (sw_gb kk b1 b2 b3))) : wpY_made post (n, t) (nI kk) (sw_i b1) (sw_i b2) (sw_i b3) := by
  match kk, hk, h with
  | 0, _, h => exact sw_made_0 b1 b2 b3 h
  | 1, _, h => exact sw_made_1 b1 b2 b3 h
  | 2, _, h => exact sw_made_2 b1 b2 b3 h
  | 3, _, h => exact sw_made_3 b1 b2 b3 h
  | 4, _, h => exact sw_made_4 b1 b2 b3 h
  | 5, _, h => exact sw_made_5 b1 b2 b3 h
  | 6, _, h => exact sw_made_6 b1 b2 b3 h
  | 7, _, h => exact sw_made_7 b1 b2 b3 h
  | 8, _, h => exact sw_made_8 b1 b2 b3 h
  | 9, _, h => exact sw_made_9 b1 b2 b3 h
  | k + 10, hk, _ => omega
def sw_gF (kk : Nat) (a : Nat → Int64) (p q r : Nat) : Nat → Int64 := fun k => sw_gw kk (a (p * 4 + k)) (a (q * 4 + k)) (a (r * 4 + k))
theorem sw_gX_l {kk p q r m : Nat} {a : Nat → Int64} {post : Int32 → SX → Prop} (hk : kk < 10) (hp : p < m) (hq : q < m) (hr : r < m) (hm : m < 40) (h : post (nI m) (nI (m + 1), sw_putL a m (sw_gF kk a p q r) 4)) : ∀ d k, k + d = 4 → wX_gate_91 post (nI kk) (nI p) (nI q) (nI r) (nI m) (nI m) (d + 1) (nI k) (sw_putL a m (sw_gF kk a p q r) k) := by
  intro d
  induction d with
  | zero =>
    intro k hd
    have q4 : k = 4 := by omega
    subst q4
    exact br_t (sw_le 4 (by omega) (by omega)) (nm_r (nI_1 m) h)
  | succ d ih =>
    intro k hd
    have rd : ∀ w, w < m → sw_putL a m (sw_gF kk a p q r) k (nI w * 4 + nI k).toNatClampNeg = a (w * 4 + k) := by
      intro w hw
      rw [sw_ix, nI_clamp (by omega), sw_putL_lo _ _ _ hw (by omega)]
    have st : vp_updL (sw_putL a m (sw_gF kk a p q r) k) (nI m * 4 + nI k).toNatClampNeg (sw_gw kk (a (p * 4 + k)) (a (q * 4 + k)) (a (r * 4 + k))) = sw_putL a m (sw_gF kk a p q r) (k + 1) := by
      rw [sw_ix, nI_clamp (by omega)]
      exact sw_putL_s a m (sw_gF kk a p q r) k
    exact br_f (sw_nle 4 (by omega) (by decide)) ⟨pk_in (p * 4 + k) 160 (by omega) (sw_ix p k), nm_r (rd p hp) ⟨pk_in (q * 4 + k) 160 (by omega) (sw_ix q k), nm_r (rd q hq) ⟨pk_in (r * 4 + k) 160 (by omega) (sw_ix r k), nm_r (rd r hr) (sw_gwd hk _ _ _ ⟨pk_in (m * 4 + k) 160 (by omega) (sw_ix m k), nm_r st (nm_r (nI_1 k) (ih (k + 1) (by omega)))⟩)⟩⟩⟩
theorem sw_gX {kk p q r m : Nat} {a : Nat → Int64} {post : Int32 → SX → Prop} (hk : kk < 10) (hp : p < m) (hq : q < m) (hr : r < m) (hm : m < 40) (h : post (nI m) (nI (m + 1), sw_putL a m (sw_gF kk a p q r) 4)) : ∃ n, wX_gate_91 post (nI kk) (nI p) (nI q) (nI r) (nI m) (nI m) n 0 a := by
  have z := sw_gX_l hk hp hq hr hm h 4 0 rfl
  rw [sw_putL_0, nI_0] at z
  exact ⟨5, z⟩
theorem sw_vnb (b : Bool) : vp_nar .boolean (sw_i b) = sw_i b := by cases b <;> rfl
theorem sw_gY_l {kk p q m : Nat} {c : Int32} {t : Nat → Int32} {P : Nat → Nat → Bool} {R : Nat → Bool} {post : Int32 → SY → Prop} (H : sw_H m t P) (hk : kk < 10) (hp : p < m) (hq : q < m) (hm : m < 40) (hR : (kk < 7 ∧ R = fun _ => false) ∨ (7 ≤ kk ∧ ∃ r, r < m ∧ c = nI r ∧ R = P r)) (h : post (nI m) (nI (m + 1), sw_putI t m (fun x => sw_i (sw_gb kk (P p x) (P q x) (R x))) 256)) : ∀ d x, x + d = 256 → wY_gate_58 post (nI kk) (nI p) (nI q) c (nI m) (d + 1) (nI x) (sw_putI t m (fun x => sw_i (sw_gb kk (P p x) (P q x) (R x))) x) := by
  intro d
  induction d with
  | zero =>
    intro x hd
    have q4 : x = 256 := by omega
    subst q4
    refine br_t (sw_le 256 (by omega) (by omega)) (nm_r (nI_1 m) ?_)
    rw [nI_pred]
    exact h
  | succ d ih =>
    intro x hd
    have hx : x < 256 := by omega
    have rd : ∀ w, w < m → sw_putI t m (fun x => sw_i (sw_gb kk (P p x) (P q x) (R x))) x (256 * w + x) = sw_i (P w x) := by
      intro w hw
      rw [sw_putI_lo _ _ _ hw hx]
      exact H w x hw hx
    have st : upd (sw_putI t m (fun x => sw_i (sw_gb kk (P p x) (P q x) (R x))) x) (256 * nI m + nI x).toNatClampNeg (vp_nar .boolean (sw_i (sw_gb kk (P p x) (P q x) (R x)))) = sw_putI t m (fun x => sw_i (sw_gb kk (P p x) (P q x) (R x))) (x + 1) := by
      rw [sw_iy, nI_clamp (by omega), sw_vnb]
      exact sw_putI_s t m (fun x => sw_i (sw_gb kk (P p x) (P q x) (R x))) x
    have hin : vp_in (256 * nI m + nI x) 10240 := pk_in (256 * m + x) 10240 (by omega) (sw_iy m x)
    refine br_f (sw_nle 256 (by omega) (by decide)) (sw_at _ (by omega) hx (rd p hp) (sw_at _ (by omega) hx (rd q hq) ?_))
    have nx := ih (x + 1) (by omega)
    rcases hR with ⟨h7, e⟩ | ⟨h7, r, hr, ec, e⟩
    · have st2 := st
      rw [show R x = false by rw [e]] at st2
      exact br_t (nI_lt (b := 7) h7 (by decide)) (sw_made hk (P p x) (P q x) false ⟨hin, nm_r st2 (nm_r (nI_1 x) nx)⟩)
    · rw [ec]
      refine br_f (nI_nlt (b := 7) h7 (by omega)) (sw_at _ (by omega) hx (rd r hr) ?_)
      have eR : R x = P r x := by rw [e]
      rw [← ec]
      cases e3 : P r x with
      | false =>
        have st2 := st
        rw [eR.trans e3] at st2
        exact br_t rfl (sw_made hk (P p x) (P q x) false ⟨hin, nm_r st2 (nm_r (nI_1 x) nx)⟩)
      | true =>
        have st2 := st
        rw [eR.trans e3] at st2
        exact br_f sw_1n0 (sw_made hk (P p x) (P q x) true ⟨hin, nm_r st2 (nm_r (nI_1 x) nx)⟩)
theorem sw_gY {kk p q m : Nat} {c : Int32} {t : Nat → Int32} {P : Nat → Nat → Bool} {R : Nat → Bool} {post : Int32 → SY → Prop} (H : sw_H m t P) (hk : kk < 10) (hp : p < m) (hq : q < m) (hm : m < 40) (hR : (kk < 7 ∧ R = fun _ => false) ∨ (7 ≤ kk ∧ ∃ r, r < m ∧ c = nI r ∧ R = P r)) (h : post (nI m) (nI (m + 1), sw_putI t m (fun x => sw_i (sw_gb kk (P p x) (P q x) (R x))) 256)) : ∃ n, wY_gate_58 post (nI kk) (nI p) (nI q) c (nI m) n 0 t := by
  have z := sw_gY_l H hk hp hq hm hR h 256 0 rfl
  rw [sw_putI_0, nI_0] at z
  exact ⟨257, z⟩
theorem sw_gb_c {kk : Nat} (h : kk < 7) (a b c c' : Bool) : sw_gb kk a b c = sw_gb kk a b c' := by
  match kk, h with
  | 0, _ => rfl
  | 1, _ => rfl
  | 2, _ => rfl
  | 3, _ => rfl
  | 4, _ => rfl
  | 5, _ => rfl
  | 6, _ => rfl
  | k + 7, h => omega
/-- the two states after a gate hold one picture -/
theorem sw_gH {kk p q r m : Nat} {a : Nat → Int64} {t : Nat → Int32} {R : Nat → Bool} (H : sw_H m t (sw_T a)) (hR : ∀ x, x < 256 → sw_gb kk (sw_T a p x) (sw_T a q x) (R x) = sw_gb kk (sw_T a p x) (sw_T a q x) (sw_T a r x)) : sw_H (m + 1) (sw_putI t m (fun x => sw_i (sw_gb kk (sw_T a p x) (sw_T a q x) (R x))) 256) (sw_T (sw_putL a m (sw_gF kk a p q r) 4)) := by
  intro w x hw hx
  rcases Nat.lt_or_ge w m with z | z
  · have e : sw_T (sw_putL a m (sw_gF kk a p q r) 4) w x = sw_T a w x := by
      unfold sw_T
      rw [sw_putL_lo _ _ _ z (by omega)]
    rw [sw_putI_lo _ _ _ z hx, e]
    exact H w x z hx
  · have q4 : w = m := by omega
    subst q4
    rw [sw_putI_hi _ _ _ hx]
    refine congrArg sw_i ((hR x hx).trans ?_)
    unfold sw_T
    rw [sw_putL_hi _ _ _ (show x / 64 < 4 by omega)]
    exact (sw_gw_b kk _ _ _ (by omega)).symm
