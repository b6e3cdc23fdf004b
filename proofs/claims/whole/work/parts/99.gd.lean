/-! ===== unmerged leaves stay right: UPDATE, REMOVE, shrink ===== -/
noncomputable section
variable {T T' : w_T} {l k n m nn x y b : Nat} {f : p_L} {c : w_Ch}
theorem t_bwn_off : ∀ n, (∀ j, j < n → y ≠ t_ab k (j + 1)) → t_ky (t_bwn T k n) y = t_ky T y ∧ t_um (t_bwn T k n) y = t_um T y
  | 0, _ => ⟨rfl, rfl⟩
  | n + 1, h => by
    have ih := t_bwn_off n (fun j hj => h j (by omega))
    have ne := h n (by omega)
    show fu _ _ _ _ = _ ∧ fu _ _ _ _ = _
    rw [fu_ne ne, fu_ne ne]
    exact ih
theorem t_bwn_on {j : Nat} : ∀ n, j < n → t_ky (t_bwn T k n) (t_ab k (j + 1)) = []
  | 0, h => by omega
  | n + 1, h => by
    show fu _ _ _ _ = _
    by_cases e : t_ab k (j + 1) = t_ab k (n + 1)
    · rw [e, fu_eq]
    · rw [fu_ne e]
      have : j ≠ n := fun c => e (by rw [c])
      exact t_bwn_on n (by omega)
theorem w_bit_0 : w_bit 0 b ≠ 1 := by
  unfold w_bit
  rw [Int.zero_ediv]
  decide
theorem t_inv_u (hd : t_dp T ≤ 4) (hk : k < 2 ^ t_dp T) (hf : f.2.1 ≠ []) (hi : t_inv T) : t_inv (t_bw (t_put T k f) k) := by
  have d16 := t_d_16 hd
  intro x hx hne b hb hbit
  have ed : t_dp (t_bw (t_put T k f) k) = t_dp T := t_bw_dp
  rw [t_dp_w ed] at hx
  have off : ∀ j, j < t_dp T → x ≠ t_ab k (j + 1) := fun j hj e => hne (by rw [e]; exact t_bwn_on (T := t_put T k f) (t_dp T) hj)
  obtain ⟨o1, o2⟩ := t_bwn_off (T := t_put T k f) (t_dp T) off
  have o1 : t_ky (t_bw (t_put T k f) k) x = fu (t_ky T) (2 * k) f.2.1 x := o1
  have o2 : t_um (t_bw (t_put T k f) k) x = fu (t_um T) (2 * k) 0 x := o2
  rw [o2] at hbit
  by_cases c : x = 2 * k
  · rw [c, fu_eq] at hbit; exact absurd hbit w_bit_0
  · rw [fu_ne c] at hbit
    rw [o1, fu_ne c] at hne
    obtain ⟨i1, i2⟩ := hi x hx hne b hb hbit
    refine ⟨⟨by rw [ed]; exact i1.1, ?_⟩, i2⟩
    rw [t_bw_ky (by exact hd) (by omega)]
    show fu (t_ky T) (2 * k) f.2.1 (2 * b) ≠ []
    by_cases cb : b = k
    · rw [cb, fu_eq]; exact hf
    · rw [fu_ne (by omega)]; exact i1.2
theorem t_inv_r (hd : t_dp T ≤ 4) (hk : k < 2 ^ t_dp T) (hi : t_inv T) : t_inv (t_bw (t_bl T (2 * k)) k) := by
  have d16 := t_d_16 hd
  have w31 := t_w_4 hd
  intro x hx hne b hb hbit
  have ed : t_dp (t_bw (t_bl T (2 * k)) k) = t_dp T := t_bw_dp
  rw [t_dp_w ed] at hx
  have off : ∀ j, j < t_dp T → x ≠ t_ab k (j + 1) := fun j hj e => hne (by rw [e]; exact t_bwn_on (T := t_bl T (2 * k)) (t_dp T) hj)
  obtain ⟨o1, o2⟩ := t_bwn_off (T := t_bl T (2 * k)) (t_dp T) off
  have o1 : t_ky (t_bw (t_bl T (2 * k)) k) x = fu (t_ky T) (2 * k) [] x := o1
  have o2 : t_um (t_bw (t_bl T (2 * k)) k) x = fu (t_um T) (2 * k) 0 x := o2
  rw [o2] at hbit
  by_cases c : x = 2 * k
  · rw [c, fu_eq] at hbit; exact absurd hbit w_bit_0
  · rw [fu_ne c] at hbit
    rw [o1, fu_ne c] at hne
    obtain ⟨i1, i2⟩ := hi x hx hne b hb hbit
    have bk : b ≠ k := fun e => by
      rw [e] at i2
      by_cases h0 : w_h x = 0
      · rw [h0, t_ab_0] at i2; exact c i2
      · rcases Nat.lt_or_ge (t_dp T) (w_h x) with g | g
        · have h4' := w_h_4 x
          have k1 : 2 ^ (t_dp T + 1) - 1 ≤ t_ab k (w_h x) := t_ab_far ⟨t_dp T, by omega⟩ ⟨k, by omega⟩ ⟨w_h x, by omega⟩ hk g
          have k2 : x < 2 ^ (t_dp T + 1) - 1 := hx
          omega
        · exact off (w_h x - 1) (by omega) (by rw [show w_h x - 1 + 1 = w_h x by omega]; exact i2)
    refine ⟨⟨by rw [ed]; exact i1.1, ?_⟩, i2⟩
    rw [t_bw_ky (by exact hd) (by omega)]
    show fu (t_ky T) (2 * k) [] (2 * b) ≠ []
    rw [fu_ne (by omega)]
    exact i1.2
theorem t_shn_um : ∀ n {T : w_T}, t_um (t_shn n T) = t_um T
  | 0, _ => rfl
  | n + 1, T => by
    unfold t_shn
    by_cases c : 0 < t_dp T ∧ t_rb T
    · rw [if_pos c, t_shn_um n]; rfl
    · rw [if_neg c]
theorem t_inv_sh (hi : t_inv T) : t_inv (t_sh T) := by
  unfold t_sh
  intro x hx hne b hb hbit
  rw [t_shn_ky] at hne
  rw [t_shn_um] at hbit
  have := t_w_le (t_shn_dp (t_dp T) (T := T))
  obtain ⟨i1, i2⟩ := hi x (by omega) hne b hb hbit
  exact ⟨t_shn_is _ |>.mpr i1, i2⟩
end
