/-! the loops of the reference, each against the picture P -/
theorem sw_apt_l {n p q : Nat} {t : Nat → Int32} {P : Nat → Nat → Bool} {post : Int32 → Prop} (hn : n ≤ 40) (H : sw_H n t P) (hp : p < n) (hq : q < n) : ∀ d x, x + d = 256 → post (nI (sw_find (fun x => P p x != P q x) d x)) → wY_apart_2 post (nI p) (nI q) (nI n) t (d + 1) (nI x) := by
  intro d
  induction d with
  | zero =>
    intro x hx h
    exact br_t (sw_le 256 (by omega) (by omega)) h
  | succ d ih =>
    intro x hx h
    refine br_f (sw_nle 256 (by omega) (by decide)) (sw_at _ (by omega) (by omega) (H p x hp (by omega)) (sw_at _ (by omega) (by omega) (H q x hq (by omega)) ?_))
    by_cases e : P p x = P q x
    · rw [sw_find_f (by show (P p x != P q x) = false; rw [e]; exact bne_self_eq_false _)] at h
      exact br_t (by rw [e]) (nm_r (nI_1 x) (ih (x + 1) (by omega) h))
    · rw [sw_find_t (by show (P p x != P q x) = true; exact bne_iff_ne.mpr e)] at h
      exact br_f (fun z => e ((sw_i_e _ _).mp z)) h
theorem sw_apt {n p q : Nat} {t : Nat → Int32} {P : Nat → Nat → Bool} {post : Int32 → Prop} (hn : n ≤ 40) (H : sw_H n t P) (hp : p < n) (hq : q < n) (h : post (nI (sw_find (fun x => P p x != P q x) 256 0))) : wpY_apart post (nI n, t) (nI p) (nI q) := ⟨257, sw_apt_l hn H hp hq 256 0 rfl h⟩
/-- apart's answer is 256 just where the wires hold the same -/
theorem sw_apt_256 {n p q : Nat} {t : Nat → Int32} {P : Nat → Nat → Bool} {A B : Prop} (hn : n ≤ 40) (H : sw_H n t P) (hp : p < n) (hq : q < n) (f : sw_E P p q = true → A) (g : sw_E P p q = false → B) : wpY_apart (fun r => (r = 256 → A) ∧ (¬ r = 256 → B)) (nI n, t) (nI p) (nI q) := by
  refine sw_apt hn H hp hq ?_
  have hle := (sw_find_le (fun x => P p x != P q x) 256 0).2
  cases e : sw_E P p q with
  | true =>
    refine br_t ?_ (f e)
    rw [(sw_E_256 P p q).mpr e]
    rfl
  | false =>
    refine br_f (fun z => ?_) (g e)
    have z2 : sw_find (fun x => P p x != P q x) 256 0 = 256 := (nI_eq (b := 256) (by omega) (by decide)).mp z
    rw [(sw_E_256 P p q).mp z2] at e
    exact absurd e (by decide)
theorem sw_yopp_0 {p q n : Int32} {t : Nat → Int32} {post : Int32 → Prop} (m : Nat) (x : Int32) (h : post 0) : wY_opposite_25 post p q n t (m + 1) 0 x := br_c (fun _ => ⟨sw_nb false, h⟩) (fun _ => br_t rfl ⟨sw_nb false, h⟩)
theorem sw_yopp_l {n p q : Nat} {t : Nat → Int32} {P : Nat → Nat → Bool} {post : Int32 → Prop} (hn : n ≤ 40) (H : sw_H n t P) (hp : p < n) (hq : q < n) : ∀ d x, x + d = 256 → post (sw_i (sw_all (fun x => P p x != P q x) d x)) → wY_opposite_25 post (nI p) (nI q) (nI n) t (d + 1) 1 (nI x) := by
  intro d
  induction d with
  | zero =>
    intro x hx h
    exact br_t (sw_le 256 (by omega) (by omega)) ⟨sw_nb true, h⟩
  | succ d ih =>
    intro x hx h
    refine br_f (sw_nle 256 (by omega) (by decide)) (br_f sw_1n0 (sw_at _ (by omega) (by omega) (H p x hp (by omega)) (sw_at _ (by omega) (by omega) (H q x hq (by omega)) ?_)))
    by_cases e : P p x = P q x
    · rw [sw_all_f (by show (P p x != P q x) = false; rw [e]; exact bne_self_eq_false _)] at h
      exact br_t (by rw [e]) (nm_r (nI_1 x) (sw_yopp_0 d _ h))
    · rw [sw_all_t (by show (P p x != P q x) = true; exact bne_iff_ne.mpr e)] at h
      exact br_f (fun z => e ((sw_i_e _ _).mp z)) (nm_r (nI_1 x) (ih (x + 1) (by omega) h))
theorem sw_yimp_0 {p q n : Int32} {t : Nat → Int32} {post : Int32 → Prop} (m : Nat) (x : Int32) (h : post 0) : wY_implies_25 post p q n t (m + 1) 0 x := br_c (fun _ => ⟨sw_nb false, h⟩) (fun _ => br_t rfl ⟨sw_nb false, h⟩)
theorem sw_yimp_l {n p q : Nat} {t : Nat → Int32} {P : Nat → Nat → Bool} {post : Int32 → Prop} (hn : n ≤ 40) (H : sw_H n t P) (hp : p < n) (hq : q < n) : ∀ d x, x + d = 256 → post (sw_i (sw_all (fun x => !P p x || P q x) d x)) → wY_implies_25 post (nI p) (nI q) (nI n) t (d + 1) 1 (nI x) := by
  intro d
  induction d with
  | zero =>
    intro x hx h
    exact br_t (sw_le 256 (by omega) (by omega)) ⟨sw_nb true, h⟩
  | succ d ih =>
    intro x hx h
    refine br_f (sw_nle 256 (by omega) (by decide)) (br_f sw_1n0 (sw_at _ (by omega) (by omega) (H p x hp (by omega)) ?_))
    cases e1 : P p x with
    | false =>
      rw [sw_all_t (by show (!P p x || P q x) = true; rw [e1]; rfl)] at h
      exact br_t rfl (nm_r (nI_1 x) (ih (x + 1) (by omega) h))
    | true =>
      refine br_f sw_1n0 (sw_at _ (by omega) (by omega) (H q x hq (by omega)) ?_)
      cases e2 : P q x with
      | false =>
        rw [sw_all_f (by show (!P p x || P q x) = false; rw [e1, e2]; rfl)] at h
        exact br_t rfl (nm_r (nI_1 x) (sw_yimp_0 d _ h))
      | true =>
        rw [sw_all_t (by show (!P p x || P q x) = true; rw [e1, e2]; rfl)] at h
        exact br_f sw_1n0 (nm_r (nI_1 x) (ih (x + 1) (by omega) h))
theorem sw_yone_l {n p : Nat} {t : Nat → Int32} {P : Nat → Nat → Bool} {post : Int32 → Prop} (hn : n ≤ 40) (H : sw_H n t P) (hp : p < n) : ∀ d x s, x + d = 256 → post (nI (sw_cnt (P p) d x s)) → wY_ones_4 post (nI p) (nI n) t (d + 1) (nI s) (nI x) := by
  intro d
  induction d with
  | zero =>
    intro x s hx h
    exact br_t (sw_le 256 (by omega) (by omega)) h
  | succ d ih =>
    intro x s hx h
    refine br_f (sw_nle 256 (by omega) (by decide)) (sw_at _ (by omega) (by omega) (H p x hp (by omega)) ?_)
    cases e : P p x with
    | true =>
      rw [sw_cnt_t e] at h
      exact br_f sw_1n0 (nm_r (nI_1 s) (nm_r (nI_1 x) (ih (x + 1) (s + 1) (by omega) h)))
    | false =>
      rw [sw_cnt_f e] at h
      exact br_t rfl (nm_r (nI_1 x) (ih (x + 1) s (by omega) h))
theorem sw_yone {n p : Nat} {t : Nat → Int32} {P : Nat → Nat → Bool} {post : Int32 → Prop} (hn : n ≤ 40) (H : sw_H n t P) (hp : p < n) (h : post (nI (sw_cnt (P p) 256 0 0))) : wpY_ones post (nI n, t) (nI p) := ⟨257, sw_yone_l hn H hp 256 0 0 rfl h⟩
theorem sw_ywit_l {n p : Nat} {t : Nat → Int32} {P : Nat → Nat → Bool} {post : Int32 → Prop} (hn : n ≤ 40) (H : sw_H n t P) (hp : p < n) : ∀ d x, x + d = 256 → post (sw_or3 (sw_find (P p) d x)) → wY_witness_2 post (nI p) (nI n) t (d + 1) (nI x) := by
  intro d
  induction d with
  | zero =>
    intro x hx h
    have e : sw_or3 (sw_find (P p) 0 x) = -3 := if_neg (by show ¬ x < 256; omega)
    rw [e] at h
    exact br_t (sw_le 256 (by omega) (by omega)) (sw_isY_y hn hp (br_f sw_1n0 h))
  | succ d ih =>
    intro x hx h
    refine br_f (sw_nle 256 (by omega) (by decide)) (sw_isY_y hn hp (br_f sw_1n0 (sw_at _ (by omega) (by omega) (H p x hp (by omega)) ?_)))
    cases e : P p x with
    | true =>
      rw [sw_find_t e, sw_or3_t (by omega)] at h
      exact br_f sw_1n0 h
    | false =>
      rw [sw_find_f e] at h
      exact br_t rfl (nm_r (nI_1 x) (ih (x + 1) (by omega) h))
theorem sw_yfol_l {n p i : Nat} {t : Nat → Int32} {P : Nat → Nat → Bool} {post : Int32 → Prop} (hn : n ≤ 40) (H : sw_H n t P) (hp : p < n) (hi : i < 8) : ∀ d x s, x + d = 256 → sw_seen (P p) i x s → post (sw_ch (P p) i d x s) → wY_follows_25 post (nI p) (nI i) (nI n) t (d + 1) s (nI x) := by
  intro d
  induction d with
  | zero =>
    intro x s hx hs h
    exact br_t (sw_le 256 (by omega) (by omega)) h
  | succ d ih =>
    intro x s hx hs h
    have hx2 : x < 256 := by omega
    have hl := sw_lo_lt i hi x hx2
    have hb := sw_lo_b i hi x hx2
    refine br_f (sw_nle 256 (by omega) (by decide)) ?_
    rw [sw_t_lo i hi x hx2, sw_t_hi i hi x hx2]
    refine sw_at _ (by omega) hl.1 (H p _ hp hl.1) (sw_at _ (by omega) hl.2 (H p _ hp hl.2) ?_)
    have key : ∃ s', s' = s ||| sw_c (P p) i (sw_lo x i) ∧ sw_seen (P p) i (x + 1) s' ∧ post (sw_ch (P p) i d (x + 1) s') := by
      refine ⟨_, rfl, ?_⟩
      cases e : x.testBit i with
      | true =>
        rw [hs _ (sw_lo_t i hi x hx2 e) hb.1]
        rw [sw_ch_t _ _ e] at h
        exact ⟨sw_seen_t hs e, h⟩
      | false =>
        have q : sw_lo x i = x := if_neg (by rw [e]; decide)
        rw [sw_ch_f _ _ e] at h
        rw [q]
        exact ⟨sw_seen_f hs, h⟩
    obtain ⟨s', es, k1, k2⟩ := key
    unfold sw_c at es
    rw [hb.2] at es
    cases e1 : P p (sw_lo x i) <;> cases e2 : P p (sw_hi x i) <;> rw [e1, e2] at es
    · rw [if_pos rfl, Int32.or_zero] at es
      subst es
      exact br_t rfl (nm_r (nI_1 x) (ih (x + 1) s' (by omega) k1 k2))
    · rw [if_neg (by decide), if_pos rfl] at es
      exact br_f (by decide) (br_f sw_1n0 (nm_r es.symm (nm_r (nI_1 x) (ih (x + 1) s' (by omega) k1 k2))))
    · rw [if_neg (by decide), if_neg (by decide)] at es
      exact br_f (by decide) (br_t rfl (nm_r es.symm (nm_r (nI_1 x) (ih (x + 1) s' (by omega) k1 k2))))
    · rw [if_pos rfl, Int32.or_zero] at es
      subst es
      exact br_t rfl (nm_r (nI_1 x) (ih (x + 1) s' (by omega) k1 k2))
theorem sw_yfol {n p i : Nat} {t : Nat → Int32} {P : Nat → Nat → Bool} {post : Int32 → Prop} (hn : n ≤ 40) (H : sw_H n t P) (hp : p < n) (hi : i < 8) (h : post (sw_ch (P p) i 256 0 0)) : wpY_follows post (nI n, t) (nI p) (nI i) := by
  unfold wpY_follows
  exact sw_isY_y hn hp (br_f sw_1n0 (br_f (nI_pos (by omega)) (br_t (nI_le (b := 7) (by omega) (by decide)) ⟨257, sw_yfol_l hn H hp hi 256 0 0 rfl (fun y hy _ => absurd hy (Nat.not_lt_zero y)) h⟩)))
theorem sw_ydep_l {n p : Nat} {t : Nat → Int32} {P : Nat → Nat → Bool} {post : Int32 → Prop} (hn : n ≤ 40) (H : sw_H n t P) (hp : p < n) : ∀ d i s, i + d = 8 → post (sw_dep (P p) d i s) → wY_depends_4 post (nI p) (nI n) t (d + 1) s (nI i) := by
  intro d
  induction d with
  | zero =>
    intro i s hi h
    exact br_t (sw_le 8 (by omega) (by omega)) (sw_isY_y hn hp (br_f sw_1n0 h))
  | succ d ih =>
    intro i s hi h
    refine br_f (sw_nle 8 (by omega) (by decide)) (sw_isY_y hn hp (br_f sw_1n0 (sw_yfol hn H hp (by omega) ?_)))
    by_cases e : sw_ch (P p) i 256 0 0 = 0
    · rw [sw_dep_t _ e] at h
      exact br_t e (nm_r (nI_1 i) (ih (i + 1) s (by omega) h))
    · rw [sw_dep_f _ e] at h
      exact br_f e (nm_e (nm_r (nI_1 i) (ih (i + 1) _ (by omega) h)))
theorem sw_yfst_l {n p : Nat} {t : Nat → Int32} {P : Nat → Nat → Bool} {post : Int32 → Prop} (hn : n ≤ 40) (H : sw_H n t P) (hp : p < n) : ∀ d w, w + d = p → post (nI (sw_find (fun w => sw_E P w p) d w)) → wY_first_2 post (nI p) (nI n) t (d + 1) (nI w) := by
  intro d
  induction d with
  | zero =>
    intro w hw h
    have q : w = p := by omega
    subst q
    refine br_f (sw_nle n hp (by omega)) (sw_isY_y hn hp (br_f sw_1n0 (sw_apt_256 hn H hp hp (fun _ => h) (fun e => ?_))))
    rw [sw_E_r] at e
    exact absurd e (by decide)
  | succ d ih =>
    intro w hw h
    refine br_f (sw_nle n (by omega) (by omega)) (sw_isY_y hn hp (br_f sw_1n0 (sw_apt_256 hn H hp (by omega) (fun e => ?_) (fun e => ?_))))
    · rw [sw_E_s] at e
      rw [sw_find_t (p := fun w => sw_E P w p) e] at h
      exact h
    · rw [sw_E_s] at e
      rw [sw_find_f (p := fun w => sw_E P w p) e] at h
      exact nm_r (nI_1 w) (ih (w + 1) (by omega) h)
theorem sw_yfst {n p : Nat} {t : Nat → Int32} {P : Nat → Nat → Bool} {post : Int32 → Prop} (hn : n ≤ 40) (H : sw_H n t P) (hp : p < n) (h : post (nI (sw_L P p))) : wpY_first post (nI n, t) (nI p) := ⟨p + 1, sw_yfst_l hn H hp p 0 (by omega) h⟩
theorem sw_ygrp_l {n : Nat} {t : Nat → Int32} {P : Nat → Nat → Bool} {post : Int32 → Prop} (hn : n ≤ 40) (H : sw_H n t P) : ∀ d w s, w + d = n → post (nI (sw_cnt (fun w => decide (sw_L P w = w)) d w s)) → wY_groups_4 post (nI n) t (d + 1) (nI s) (nI w) := by
  intro d
  induction d with
  | zero =>
    intro w s hw h
    exact br_t (sw_le n (by omega) (by omega)) h
  | succ d ih =>
    intro w s hw h
    refine br_f (sw_nle n (by omega) (by omega)) (sw_yfst hn H (by omega) ?_)
    have hL := sw_L_le P w
    by_cases e : sw_L P w = w
    · rw [sw_cnt_t (p := fun w => decide (sw_L P w = w)) (decide_eq_true e)] at h
      exact br_t (by rw [e]) (nm_r (nI_1 s) (nm_r (nI_1 w) (ih (w + 1) (s + 1) (by omega) h)))
    · rw [sw_cnt_f (p := fun w => decide (sw_L P w = w)) (decide_eq_false e)] at h
      exact br_f (fun z => e ((nI_eq (by omega) (by omega)).mp z)) (nm_r (nI_1 w) (ih (w + 1) s (by omega) h))
theorem sw_ysym_0 {n p i j : Int32} {t : Nat → Int32} {post : Int32 → Prop} (h : post 0) : ∀ d x, x + d = 256 → wY_symmetric_36 post p i j n t (d + 1) 0 (nI x) := by
  intro d
  induction d with
  | zero =>
    intro x hx
    exact br_t (sw_le 256 (by omega) (by omega)) ⟨sw_nb false, h⟩
  | succ d ih =>
    intro x hx
    exact br_f (sw_nle 256 (by omega) (by decide)) (nm_e (nm_e (nm_e (br_t rfl (nm_r (nI_1 x) (ih (x + 1) (by omega)))))))
theorem sw_ysym_l {n p i j : Nat} {t : Nat → Int32} {P : Nat → Nat → Bool} {post : Int32 → Prop} (hn : n ≤ 40) (H : sw_H n t P) (hp : p < n) (hi : i < 8) (hj : j < 8) : ∀ d x, x + d = 256 → post (sw_i (sw_all (fun x => P p x == P p (sw_ex x i j)) d x)) → wY_symmetric_36 post (nI p) (nI i) (nI j) (nI n) t (d + 1) 1 (nI x) := by
  intro d
  induction d with
  | zero =>
    intro x hx h
    exact br_t (sw_le 256 (by omega) (by omega)) ⟨sw_nb true, h⟩
  | succ d ih =>
    intro x hx h
    have hx2 : x < 256 := by omega
    have hy := sw_ex_lt i hi j hj x hx2
    have fin : (sw_i (P p x) = sw_i (P p (sw_ex x i j)) → ∀ y : Int32, y = nI x + 1 → wY_symmetric_36 post (nI p) (nI i) (nI j) (nI n) t (d + 1) 1 y) ∧ (¬ sw_i (P p x) = sw_i (P p (sw_ex x i j)) → ∀ y : Int32, y = nI x + 1 → wY_symmetric_36 post (nI p) (nI i) (nI j) (nI n) t (d + 1) 0 y) := by
      by_cases q : P p x = P p (sw_ex x i j)
      · rw [sw_all_t (by show (P p x == P p (sw_ex x i j)) = true; exact beq_iff_eq.mpr q)] at h
        exact br_t (by rw [← q]) (nm_r (nI_1 x) (ih (x + 1) (by omega) h))
      · rw [sw_all_f (by show (P p x == P p (sw_ex x i j)) = false; exact beq_eq_false_iff_ne.mpr q)] at h
        exact br_f (fun z => q ((sw_i_e _ _).mp z)) (nm_r (nI_1 x) (sw_ysym_0 h d (x + 1) (by omega)))
    refine br_f (sw_nle 256 (by omega) (by decide)) (nm_r (sw_t_shr i hi x hx2) (nm_r (sw_t_shr j hj x hx2) (nm_r (sw_t_yex i hi j hj x hx2) (br_f sw_1n0 (sw_at _ (by omega) hx2 (H p x hp hx2) ?_)))))
    by_cases e : i = j
    · subst e
      have q : sw_ex x i i = x := sw_ex_e rfl
      rw [q] at fin
      exact br_t rfl (sw_at _ (by omega) hx2 (H p x hp hx2) fin)
    · exact br_f (fun z => e ((nI_eq (by omega) (by omega)).mp z)) (sw_at _ (by omega) hy (H p _ hp hy) fin)
