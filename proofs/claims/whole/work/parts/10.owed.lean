/-! what is owed -/
/-- one number of wires on both sides, and one picture -/
def i_Rel (k : Nat) (u : SX) (v : SY) : Prop := ∃ (n : Nat) (a : Nat → Int64) (t : Nat → Int32), u = (nI n, a) ∧ v = (nI n, t) ∧ 8 ≤ n ∧ n ≤ 40 ∧ sw_H n t (sw_T a)
theorem i_up {k : Nat} {u : SX} {v : SY} (h : i_Rel k u v) : i_Rel (k + 5) u v := h
theorem i_vc0 : wpX_init (fun u => wpY_init (fun v => i_Rel 0 u v)) :=
  ⟨9, sw_iX_out (fun a ha => ⟨2049, sw_iY_l (fun t ht => ⟨8, a, t, rfl, rfl, by decide, by decide, sw_start ha ht⟩) 2048 0 _ rfl (fun c hc => absurd hc (Nat.not_lt_zero c))⟩) 8 0 _ rfl sw_I_0⟩
theorem sw_big {v : Int32} {c : Nat} (h : nI (c + 1) ≤ v) (hc : c + 1 < 2 ^ 31) : ¬ v < 0 ∧ ¬ v < nI (c + 1) ∧ ¬ v ≤ nI c ∧ nI c < v := by
  have z : (0 : Int32).toInt = 0 := by decide
  rw [Int32.le_iff_toInt_le, nI_toInt hc] at h
  rw [Int32.lt_iff_toInt_lt, Int32.lt_iff_toInt_lt, Int32.lt_iff_toInt_lt, Int32.le_iff_toInt_le, nI_toInt hc, nI_toInt (by omega), z]
  omega
theorem i_vc_gate {k : Nat} {u : SX} {v : SY} (I : i_Rel k u v) (hk : k + 5 ≤ 2560) (v1 : Int32) (v2 : Int32) (v3 : Int32) (v4 : Int32) : wpX_gate (fun r u' => wpY_gate (fun r' v' => r' = r ∧ i_Rel (k + 5) u' v') v v1 v2 v3 v4) u v1 v2 v3 v4 := by
  obtain ⟨n, a, t, rfl, rfl, h8, h40, H⟩ := I
  have R : i_Rel (k + 5) (nI n, a) (nI n, t) := ⟨n, a, t, rfl, rfl, h8, h40, H⟩
  rcases sw_3 v1 (n := 10) (by decide) with h | ⟨kk, hkk, rfl⟩
  · rcases h with h | h
    · exact br_t h (br_t h ⟨rfl, R⟩)
    · have g := sw_big (c := 9) h (by decide)
      exact br_f g.1 (br_t g.2.2.2 (br_f g.1 (br_t g.2.2.2 ⟨rfl, R⟩)))
  · have k0 : ¬ nI kk < 0 := nI_pos (by omega)
    have k9 : ¬ (9 : Int32) < nI kk := nI_nlt (a := 9) (by omega) (by decide)
    refine br_f k0 (br_f k9 ?_)
    rcases sw_3 v2 (n := n) (by omega) with h | ⟨p, hp, rfl⟩
    · exact sw_isX_n h (br_t rfl (br_f k0 (br_f k9 (sw_isY_n h (br_t rfl ⟨rfl, R⟩)))))
    refine sw_isX_y h40 hp (br_f sw_1n0 ?_)
    rcases sw_3 v3 (n := n) (by omega) with h | ⟨q, hq, rfl⟩
    · exact sw_isX_n h (br_t rfl (br_f k0 (br_f k9 (sw_isY_y h40 hp (br_f sw_1n0 (sw_isY_n h (br_t rfl ⟨rfl, R⟩)))))))
    refine sw_isX_y h40 hq (br_f sw_1n0 ?_)
    by_cases h7 : kk < 7
    · have k7 : nI kk < 7 := nI_lt (b := 7) h7 (by decide)
      refine br_t k7 (br_t rfl ?_)
      by_cases hm : n < 40
      · have n40 : nI n < 40 := nI_lt (b := 40) hm (by decide)
        refine br_t n40 (br_t rfl (sw_gX hkk hp hq hp hm ?_))
        refine br_f k0 (br_f k9 (sw_isY_y h40 hp (br_f sw_1n0 (sw_isY_y h40 hq (br_f sw_1n0 (br_t k7 (br_t n40 (sw_gY H hkk hp hq hm (Or.inl ⟨h7, rfl⟩) ⟨rfl, ?_⟩))))))))
        exact ⟨n + 1, _, _, rfl, rfl, by omega, by omega, sw_gH H (fun x _ => sw_gb_c h7 _ _ _ _)⟩
      · have n40 : ¬ nI n < 40 := nI_nlt (b := 40) (by omega) (by omega)
        exact br_f n40 (br_f k0 (br_f k9 (sw_isY_y h40 hp (br_f sw_1n0 (sw_isY_y h40 hq (br_f sw_1n0 (br_t k7 (br_f n40 ⟨rfl, R⟩))))))))
    · have k7 : ¬ nI kk < 7 := nI_nlt (b := 7) (by omega) (by omega)
      refine br_f k7 (br_f sw_1n0 ?_)
      rcases sw_3 v4 (n := n) (by omega) with h | ⟨r, hr, rfl⟩
      · exact sw_isX_n h (br_t rfl (br_f k0 (br_f k9 (sw_isY_y h40 hp (br_f sw_1n0 (sw_isY_y h40 hq (br_f sw_1n0 (br_f k7 (sw_isY_n h (br_t rfl ⟨rfl, R⟩))))))))))
      refine sw_isX_y h40 hr (br_f sw_1n0 ?_)
      by_cases hm : n < 40
      · have n40 : nI n < 40 := nI_lt (b := 40) hm (by decide)
        refine br_t n40 (br_f sw_1n0 (sw_gX hkk hp hq hr hm ?_))
        refine br_f k0 (br_f k9 (sw_isY_y h40 hp (br_f sw_1n0 (sw_isY_y h40 hq (br_f sw_1n0 (br_f k7 (sw_isY_y h40 hr (br_f sw_1n0 (br_t n40 (sw_gY H hkk hp hq hm (Or.inr ⟨by omega, r, hr, rfl, rfl⟩) ⟨rfl, ?_⟩))))))))))
        exact ⟨n + 1, _, _, rfl, rfl, by omega, by omega, sw_gH H (fun x _ => rfl)⟩
      · have n40 : ¬ nI n < 40 := nI_nlt (b := 40) (by omega) (by omega)
        exact br_f n40 (br_f k0 (br_f k9 (sw_isY_y h40 hp (br_f sw_1n0 (sw_isY_y h40 hq (br_f sw_1n0 (br_f k7 (sw_isY_y h40 hr (br_f sw_1n0 (br_f n40 ⟨rfl, R⟩))))))))))
theorem i_vc_drop {k : Nat} {u : SX} {v : SY} (I : i_Rel k u v) (hk : k + 5 ≤ 2560) : wpX_drop (fun r u' => wpY_drop (fun r' v' => r' = r ∧ i_Rel (k + 5) u' v') v) u := by
  obtain ⟨n, a, t, rfl, rfl, h8, h40, H⟩ := I
  rcases Nat.eq_or_lt_of_le h8 with e | e
  · subst e
    exact br_f (by decide) (br_t rfl ⟨rfl, 8, a, t, rfl, rfl, by decide, by decide, H⟩)
  · obtain ⟨m, rfl⟩ : ∃ m, n = m + 1 := ⟨n - 1, by omega⟩
    have h1 : (8 : Int32) < nI (m + 1) := nI_lt (a := 8) e (by omega)
    have h2 : ¬ nI (m + 1) = 8 := fun z => by have := (nI_eq (b := 8) (by omega) (by decide)).mp z; omega
    exact br_t h1 (nm_r (nI_pred m) (br_f h2 (nm_r (nI_pred m) ⟨rfl, m, a, t, rfl, rfl, by omega, by omega, fun p x hp hx => H p x (by omega) hx⟩)))
theorem i_vc_wires {k : Nat} {u : SX} {v : SY} (I : i_Rel k u v) (hk : k + 5 ≤ 2560) : wpX_wires (fun r => wpY_wires (fun r' => r' = r ∧ i_Rel (k + 5) u v) v) u := by
  obtain ⟨n, a, t, rfl, rfl, h8, h40, H⟩ := I
  exact ⟨rfl, n, a, t, rfl, rfl, h8, h40, H⟩
theorem i_vc_value {k : Nat} {u : SX} {v : SY} (I : i_Rel k u v) (hk : k + 5 ≤ 2560) (v1 : Int32) (v2 : Int32) : wpX_value (fun r => wpY_value (fun r' => r' = r ∧ i_Rel (k + 5) u v) v v1 v2) u v1 v2 := by
  obtain ⟨n, a, t, rfl, rfl, h8, h40, H⟩ := I
  have R : i_Rel (k + 5) (nI n, a) (nI n, t) := ⟨n, a, t, rfl, rfl, h8, h40, H⟩
  unfold wpX_value wpY_value
  dsimp only
  rcases sw_3 v1 (n := n) (by omega) with h | ⟨p, hp, rfl⟩
  · exact sw_isX_n h (br_t rfl (sw_isY_n h (br_t rfl ⟨rfl, R⟩)))
  refine sw_isX_y h40 hp (br_f sw_1n0 ?_)
  rcases sw_3 v2 (n := 256) (by decide) with h | ⟨x, hx, rfl⟩
  · rcases h with h | h
    · exact br_t h (sw_isY_y h40 hp (br_f sw_1n0 (br_t h ⟨rfl, R⟩)))
    · have g := sw_big (c := 255) h (by decide)
      exact br_f g.1 (br_f g.2.1 (sw_isY_y h40 hp (br_f sw_1n0 (br_f g.1 (br_f g.2.2.1 ⟨rfl, R⟩)))))
  · have x0 : ¬ nI x < 0 := nI_pos (by omega)
    refine br_f x0 (br_t (nI_lt (b := 256) hx (by decide)) (sw_bitOf (by omega) hx (sw_isY_y h40 hp (br_f sw_1n0 (br_f x0 (br_t (nI_le (b := 255) (by omega) (by decide)) (sw_at _ (by omega) hx (H p x hp hx) ?_)))))))
    cases e : sw_T a p x with
    | false => exact br_t rfl ⟨rfl, R⟩
    | true => exact br_f sw_1n0 ⟨rfl, R⟩
theorem i_vc_equal {k : Nat} {u : SX} {v : SY} (I : i_Rel k u v) (hk : k + 5 ≤ 2560) (v1 : Int32) (v2 : Int32) : wpX_equal (fun r => wpY_equal (fun r' => r' = r ∧ i_Rel (k + 5) u v) v v1 v2) u v1 v2 := by
  obtain ⟨n, a, t, rfl, rfl, h8, h40, H⟩ := I
  have R : i_Rel (k + 5) (nI n, a) (nI n, t) := ⟨n, a, t, rfl, rfl, h8, h40, H⟩
  unfold wpX_equal wpY_equal
  dsimp only
  rcases sw_3 v1 (n := n) (by omega) with h | ⟨p, hp, rfl⟩
  · exact sw_isX_n h (br_t rfl (sw_isY_n h (br_t rfl ⟨rfl, R⟩)))
  refine sw_isX_y h40 hp (br_f sw_1n0 ?_)
  rcases sw_3 v2 (n := n) (by omega) with h | ⟨q, hq, rfl⟩
  · exact sw_isX_n h (br_t rfl (sw_isY_y h40 hp (br_f sw_1n0 (sw_isY_n h (br_t rfl ⟨rfl, R⟩)))))
  refine sw_isX_y h40 hq (br_f sw_1n0 (sw_same (by omega) (by omega) ?_))
  cases e : sw_E (sw_T a) p q with
  | false =>
    refine br_t rfl (sw_isY_y h40 hp (br_f sw_1n0 (sw_isY_y h40 hq (br_f sw_1n0 (sw_apt_256 h40 H hp hq (fun z => ?_) (fun _ => ⟨rfl, R⟩))))))
    rw [e] at z
    exact absurd z (by decide)
  | true =>
    refine br_f sw_1n0 (sw_isY_y h40 hp (br_f sw_1n0 (sw_isY_y h40 hq (br_f sw_1n0 (sw_apt_256 h40 H hp hq (fun _ => ⟨rfl, R⟩) (fun z => ?_))))))
    rw [e] at z
    exact absurd z (by decide)
theorem i_vc_opposite {k : Nat} {u : SX} {v : SY} (I : i_Rel k u v) (hk : k + 5 ≤ 2560) (v1 : Int32) (v2 : Int32) : wpX_opposite (fun r => wpY_opposite (fun r' => r' = r ∧ i_Rel (k + 5) u v) v v1 v2) u v1 v2 := by
  obtain ⟨n, a, t, rfl, rfl, h8, h40, H⟩ := I
  have R : i_Rel (k + 5) (nI n, a) (nI n, t) := ⟨n, a, t, rfl, rfl, h8, h40, H⟩
  unfold wpX_opposite wpY_opposite
  dsimp only
  rcases sw_3 v1 (n := n) (by omega) with h | ⟨p, hp, rfl⟩
  · exact sw_isX_n h (br_t rfl (sw_isY_n h (br_t rfl ⟨1, sw_yopp_0 0 _ ⟨rfl, R⟩⟩)))
  refine sw_isX_y h40 hp (br_f sw_1n0 ?_)
  rcases sw_3 v2 (n := n) (by omega) with h | ⟨q, hq, rfl⟩
  · exact sw_isX_n h (br_t rfl (sw_isY_y h40 hp (br_f sw_1n0 (sw_isY_n h (br_t rfl ⟨1, sw_yopp_0 0 _ ⟨rfl, R⟩⟩)))))
  refine sw_isX_y h40 hq (br_f sw_1n0 ⟨5, sw_opp_l (by omega) (by omega) 4 0 rfl ?_⟩)
  rw [sw_opp_e]
  exact sw_isY_y h40 hp (br_f sw_1n0 (sw_isY_y h40 hq (br_f sw_1n0 ⟨257, sw_yopp_l h40 H hp hq 256 0 rfl ⟨rfl, R⟩⟩)))
theorem i_vc_constant {k : Nat} {u : SX} {v : SY} (I : i_Rel k u v) (hk : k + 5 ≤ 2560) (v1 : Int32) : wpX_constant (fun r => wpY_constant (fun r' => r' = r ∧ i_Rel (k + 5) u v) v v1) u v1 := by
  obtain ⟨n, a, t, rfl, rfl, h8, h40, H⟩ := I
  have R : i_Rel (k + 5) (nI n, a) (nI n, t) := ⟨n, a, t, rfl, rfl, h8, h40, H⟩
  unfold wpX_constant wpY_constant
  dsimp only
  rcases sw_3 v1 (n := n) (by omega) with h | ⟨p, hp, rfl⟩
  · exact sw_isX_n h (br_t rfl (sw_isY_n h (br_t rfl ⟨rfl, R⟩)))
  refine sw_isX_y h40 hp (br_f sw_1n0 (sw_ones (by omega) ?_))
  by_cases e0 : nI (sw_cnt (sw_T a p) 256 0 0) = 0
  · exact br_t e0 (sw_isY_y h40 hp (br_f sw_1n0 (sw_yone h40 H hp (br_t e0 ⟨rfl, R⟩))))
  by_cases e1 : nI (sw_cnt (sw_T a p) 256 0 0) = 256
  · exact br_f e0 (br_t e1 (sw_isY_y h40 hp (br_f sw_1n0 (sw_yone h40 H hp (br_f e0 (br_t e1 ⟨rfl, R⟩))))))
  · exact br_f e0 (br_f e1 (sw_isY_y h40 hp (br_f sw_1n0 (sw_yone h40 H hp (br_f e0 (br_f e1 ⟨rfl, R⟩))))))
theorem i_vc_implies {k : Nat} {u : SX} {v : SY} (I : i_Rel k u v) (hk : k + 5 ≤ 2560) (v1 : Int32) (v2 : Int32) : wpX_implies (fun r => wpY_implies (fun r' => r' = r ∧ i_Rel (k + 5) u v) v v1 v2) u v1 v2 := by
  obtain ⟨n, a, t, rfl, rfl, h8, h40, H⟩ := I
  have R : i_Rel (k + 5) (nI n, a) (nI n, t) := ⟨n, a, t, rfl, rfl, h8, h40, H⟩
  unfold wpX_implies wpY_implies
  dsimp only
  rcases sw_3 v1 (n := n) (by omega) with h | ⟨p, hp, rfl⟩
  · exact sw_isX_n h (br_t rfl (sw_isY_n h (br_t rfl ⟨1, sw_yimp_0 0 _ ⟨rfl, R⟩⟩)))
  refine sw_isX_y h40 hp (br_f sw_1n0 ?_)
  rcases sw_3 v2 (n := n) (by omega) with h | ⟨q, hq, rfl⟩
  · exact sw_isX_n h (br_t rfl (sw_isY_y h40 hp (br_f sw_1n0 (sw_isY_n h (br_t rfl ⟨1, sw_yimp_0 0 _ ⟨rfl, R⟩⟩)))))
  refine sw_isX_y h40 hq (br_f sw_1n0 ⟨5, sw_imp_l (by omega) (by omega) 4 0 rfl ?_⟩)
  rw [sw_imp_e]
  exact sw_isY_y h40 hp (br_f sw_1n0 (sw_isY_y h40 hq (br_f sw_1n0 ⟨257, sw_yimp_l h40 H hp hq 256 0 rfl ⟨rfl, R⟩⟩)))
theorem i_vc_count {k : Nat} {u : SX} {v : SY} (I : i_Rel k u v) (hk : k + 5 ≤ 2560) (v1 : Int32) : wpX_count (fun r => wpY_count (fun r' => r' = r ∧ i_Rel (k + 5) u v) v v1) u v1 := by
  obtain ⟨n, a, t, rfl, rfl, h8, h40, H⟩ := I
  have R : i_Rel (k + 5) (nI n, a) (nI n, t) := ⟨n, a, t, rfl, rfl, h8, h40, H⟩
  unfold wpX_count wpY_count
  dsimp only
  rcases sw_3 v1 (n := n) (by omega) with h | ⟨p, hp, rfl⟩
  · exact sw_isX_n h (br_t rfl (sw_isY_n h (br_t rfl ⟨rfl, R⟩)))
  exact sw_isX_y h40 hp (br_f sw_1n0 (sw_ones (by omega) (sw_isY_y h40 hp (br_f sw_1n0 (sw_yone h40 H hp ⟨rfl, R⟩)))))
theorem i_vc_witness {k : Nat} {u : SX} {v : SY} (I : i_Rel k u v) (hk : k + 5 ≤ 2560) (v1 : Int32) : wpX_witness (fun r => wpY_witness (fun r' => r' = r ∧ i_Rel (k + 5) u v) v v1) u v1 := by
  obtain ⟨n, a, t, rfl, rfl, h8, h40, H⟩ := I
  have R : i_Rel (k + 5) (nI n, a) (nI n, t) := ⟨n, a, t, rfl, rfl, h8, h40, H⟩
  unfold wpX_witness wpY_witness
  dsimp only
  rcases sw_3 v1 (n := n) (by omega) with h | ⟨p, hp, rfl⟩
  · exact sw_isX_n h (br_t rfl ⟨1, br_f (by decide) (sw_isY_n h (br_t rfl (sw_isY_n h (br_t rfl ⟨rfl, R⟩))))⟩)
  exact sw_isX_y h40 hp (br_f sw_1n0 ⟨257, sw_wit_l (by omega) 256 0 rfl ⟨257, sw_ywit_l h40 H hp 256 0 rfl ⟨rfl, R⟩⟩⟩)
theorem i_vc_differ {k : Nat} {u : SX} {v : SY} (I : i_Rel k u v) (hk : k + 5 ≤ 2560) (v1 : Int32) (v2 : Int32) : wpX_differ (fun r => wpY_differ (fun r' => r' = r ∧ i_Rel (k + 5) u v) v v1 v2) u v1 v2 := by
  obtain ⟨n, a, t, rfl, rfl, h8, h40, H⟩ := I
  have R : i_Rel (k + 5) (nI n, a) (nI n, t) := ⟨n, a, t, rfl, rfl, h8, h40, H⟩
  unfold wpX_differ wpY_differ
  dsimp only
  rcases sw_3 v1 (n := n) (by omega) with h | ⟨p, hp, rfl⟩
  · exact sw_isX_n h (br_t rfl (sw_isY_n h (br_t rfl ⟨rfl, R⟩)))
  refine sw_isX_y h40 hp (br_f sw_1n0 ?_)
  rcases sw_3 v2 (n := n) (by omega) with h | ⟨q, hq, rfl⟩
  · exact sw_isX_n h (br_t rfl (sw_isY_y h40 hp (br_f sw_1n0 (sw_isY_n h (br_t rfl ⟨rfl, R⟩)))))
  refine sw_isX_y h40 hq (br_f sw_1n0 ⟨257, sw_dif_l (by omega) (by omega) 256 0 rfl ?_⟩)
  refine sw_isY_y h40 hp (br_f sw_1n0 (sw_isY_y h40 hq (br_f sw_1n0 (sw_apt h40 H hp hq ?_))))
  have hle := (sw_find_le (fun x => sw_T a p x != sw_T a q x) 256 0).2
  by_cases e : sw_find (fun x => sw_T a p x != sw_T a q x) 256 0 < 256
  · exact br_f (sw_nle 256 e (by decide)) ⟨(if_pos e).symm, R⟩
  · exact br_t (sw_le 256 (by omega) (by omega)) ⟨(if_neg e).symm, R⟩
theorem i_vc_depends {k : Nat} {u : SX} {v : SY} (I : i_Rel k u v) (hk : k + 5 ≤ 2560) (v1 : Int32) : wpX_depends (fun r => wpY_depends (fun r' => r' = r ∧ i_Rel (k + 5) u v) v v1) u v1 := by
  obtain ⟨n, a, t, rfl, rfl, h8, h40, H⟩ := I
  have R : i_Rel (k + 5) (nI n, a) (nI n, t) := ⟨n, a, t, rfl, rfl, h8, h40, H⟩
  unfold wpX_depends wpY_depends
  dsimp only
  rcases sw_3 v1 (n := n) (by omega) with h | ⟨p, hp, rfl⟩
  · exact sw_isX_n h (br_t rfl ⟨1, br_f (by decide) (sw_isY_n h (br_t rfl (sw_isY_n h (br_t rfl ⟨rfl, R⟩))))⟩)
  exact sw_isX_y h40 hp (br_f sw_1n0 ⟨9, sw_dep_l (by omega) 8 0 0 rfl ⟨9, sw_ydep_l h40 H hp 8 0 0 rfl ⟨rfl, R⟩⟩⟩)
theorem i_vc_first {k : Nat} {u : SX} {v : SY} (I : i_Rel k u v) (hk : k + 5 ≤ 2560) (v1 : Int32) : wpX_first (fun r => wpY_first (fun r' => r' = r ∧ i_Rel (k + 5) u v) v v1) u v1 := by
  obtain ⟨n, a, t, rfl, rfl, h8, h40, H⟩ := I
  have R : i_Rel (k + 5) (nI n, a) (nI n, t) := ⟨n, a, t, rfl, rfl, h8, h40, H⟩
  unfold wpX_first
  dsimp only
  rcases sw_3 v1 (n := n) (by omega) with h | ⟨p, hp, rfl⟩
  · exact sw_isX_n h (br_t rfl ⟨1, br_f (sw_nle (k := 0) n (by omega) (by omega)) (sw_isY_n h (br_t rfl ⟨rfl, R⟩))⟩)
  exact sw_isX_y h40 hp (br_f sw_1n0 (sw_lea (by omega) (sw_yfst h40 H hp ⟨rfl, R⟩)))
theorem i_vc_groups {k : Nat} {u : SX} {v : SY} (I : i_Rel k u v) (hk : k + 5 ≤ 2560) : wpX_groups (fun r => wpY_groups (fun r' => r' = r ∧ i_Rel (k + 5) u v) v) u := by
  obtain ⟨n, a, t, rfl, rfl, h8, h40, H⟩ := I
  have R : i_Rel (k + 5) (nI n, a) (nI n, t) := ⟨n, a, t, rfl, rfl, h8, h40, H⟩
  unfold wpX_groups wpY_groups
  dsimp only
  exact ⟨n + 1, sw_grp_l h40 n 0 0 (by omega) ⟨n + 1, sw_ygrp_l h40 H n 0 0 (by omega) ⟨rfl, R⟩⟩⟩
theorem i_vc_symmetric {k : Nat} {u : SX} {v : SY} (I : i_Rel k u v) (hk : k + 5 ≤ 2560) (v1 : Int32) (v2 : Int32) (v3 : Int32) : wpX_symmetric (fun r => wpY_symmetric (fun r' => r' = r ∧ i_Rel (k + 5) u v) v v1 v2 v3) u v1 v2 v3 := by
  obtain ⟨n, a, t, rfl, rfl, h8, h40, H⟩ := I
  have R : i_Rel (k + 5) (nI n, a) (nI n, t) := ⟨n, a, t, rfl, rfl, h8, h40, H⟩
  unfold wpX_symmetric wpY_symmetric
  dsimp only
  rcases sw_3 v1 (n := n) (by omega) with h | ⟨p, hp, rfl⟩
  · exact sw_isX_n h (br_t rfl (sw_isY_n h (br_t rfl ⟨rfl, R⟩)))
  refine sw_isX_y h40 hp (br_f sw_1n0 ?_)
  rcases sw_3 v2 (n := 8) (by decide) with h | ⟨i, hi, rfl⟩
  · refine sw_in_n h (br_t rfl (sw_isY_y h40 hp (br_f sw_1n0 ?_)))
    rcases h with h | h
    · exact br_t h ⟨rfl, R⟩
    · have g := sw_big (c := 7) h (by decide)
      exact br_f g.1 (br_t g.2.2.2 ⟨rfl, R⟩)
  have i0 : ¬ nI i < 0 := nI_pos (by omega)
  have i7 : ¬ (7 : Int32) < nI i := nI_nlt (a := 7) (by omega) (by decide)
  refine sw_in_y hi (br_f sw_1n0 ?_)
  rcases sw_3 v3 (n := 8) (by decide) with h | ⟨j, hj, rfl⟩
  · refine sw_in_n h (br_t rfl (sw_isY_y h40 hp (br_f sw_1n0 (br_f i0 (br_f i7 ?_)))))
    rcases h with h | h
    · exact br_t h ⟨rfl, R⟩
    · have g := sw_big (c := 7) h (by decide)
      exact br_f g.1 (br_f g.2.2.1 ⟨rfl, R⟩)
  exact sw_in_y hj (br_f sw_1n0 ⟨257, sw_sym_l (by omega) hi hj 256 0 rfl (sw_isY_y h40 hp (br_f sw_1n0 (br_f i0 (br_f i7 (br_f (nI_pos (by omega)) (br_t (nI_le (b := 7) (by omega) (by decide)) ⟨257, sw_ysym_l h40 H hp hi hj 256 0 rfl ⟨rfl, R⟩⟩))))))⟩)
theorem i_vc_follows {k : Nat} {u : SX} {v : SY} (I : i_Rel k u v) (hk : k + 5 ≤ 2560) (v1 : Int32) (v2 : Int32) : wpX_follows (fun r => wpY_follows (fun r' => r' = r ∧ i_Rel (k + 5) u v) v v1 v2) u v1 v2 := by
  obtain ⟨n, a, t, rfl, rfl, h8, h40, H⟩ := I
  have R : i_Rel (k + 5) (nI n, a) (nI n, t) := ⟨n, a, t, rfl, rfl, h8, h40, H⟩
  unfold wpX_follows
  dsimp only
  rcases sw_3 v1 (n := n) (by omega) with h | ⟨p, hp, rfl⟩
  · refine sw_isX_n h (br_t rfl ?_)
    unfold wpY_follows
    exact sw_isY_n h (br_t rfl ⟨rfl, R⟩)
  refine sw_isX_y h40 hp (br_f sw_1n0 ?_)
  rcases sw_3 v2 (n := 8) (by decide) with h | ⟨i, hi, rfl⟩
  · refine sw_in_n h (br_t rfl ?_)
    unfold wpY_follows
    refine sw_isY_y h40 hp (br_f sw_1n0 ?_)
    rcases h with h | h
    · exact br_t h ⟨rfl, R⟩
    · have g := sw_big (c := 7) h (by decide)
      exact br_f g.1 (br_f g.2.2.1 ⟨rfl, R⟩)
  exact sw_in_y hi (br_f sw_1n0 (sw_chg (by omega) hi (sw_yfol h40 H hp hi ⟨rfl, R⟩)))
